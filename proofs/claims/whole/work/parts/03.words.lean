-- PART A is the skeleton's own text (a starting text); the rest is written by wip/tools/gen.py
-- ===== PART A: goes FIRST, ahead of the names: the tables' words, and 'selects' of the private methods out of them =====
/-- a private method of a class that the tables say can be made, by its rows of tables_1 -/
def lw_okq (q : MethodName × Nat) : Prop := (q.1.cls ≠ "java/lang/invoke/MethodHandle" ∧ q.1.cls ≠ "java/lang/invoke/VarHandle") ∧ Cond.instantiable q.1.cls q.2 ∈ tables_1 ∧ Cond.privateMethod q.1 ∈ tables_1 ∧ Cond.instanceMethod q.1 ∈ tables_1
theorem lw_p0 : lw_okq (⟨"SoupNine", "placeFor", "(II)I"⟩, 8) := ⟨⟨by decide +kernel, by decide +kernel⟩, List.mem_of_getElem? (i := 23) (by decide +kernel), List.mem_of_getElem? (i := 501) (by decide +kernel), List.mem_of_getElem? (i := 502) (by decide +kernel)⟩
theorem lw_p1 : lw_okq (⟨"SoupNine$Reader", "begin", "(I)V"⟩, 15) := ⟨⟨by decide +kernel, by decide +kernel⟩, List.mem_of_getElem? (i := 235) (by decide +kernel), List.mem_of_getElem? (i := 509) (by decide +kernel), List.mem_of_getElem? (i := 510) (by decide +kernel)⟩
theorem lw_p2 : lw_okq (⟨"SoupNine$Reader", "advance", "()V"⟩, 15) := ⟨⟨by decide +kernel, by decide +kernel⟩, List.mem_of_getElem? (i := 235) (by decide +kernel), List.mem_of_getElem? (i := 524) (by decide +kernel), List.mem_of_getElem? (i := 525) (by decide +kernel)⟩
theorem lw_p3 : lw_okq (⟨"SoupNine$Reader", "readDigits", "()V"⟩, 15) := ⟨⟨by decide +kernel, by decide +kernel⟩, List.mem_of_getElem? (i := 235) (by decide +kernel), List.mem_of_getElem? (i := 534) (by decide +kernel), List.mem_of_getElem? (i := 535) (by decide +kernel)⟩
theorem lw_p4 : lw_okq (⟨"SoupNine$Reader", "readLine", "(I)Z"⟩, 15) := ⟨⟨by decide +kernel, by decide +kernel⟩, List.mem_of_getElem? (i := 235) (by decide +kernel), List.mem_of_getElem? (i := 538) (by decide +kernel), List.mem_of_getElem? (i := 539) (by decide +kernel)⟩
theorem lw_p5 : lw_okq (⟨"SoupNine$Reader", "codeOf", "(I)I"⟩, 15) := ⟨⟨by decide +kernel, by decide +kernel⟩, List.mem_of_getElem? (i := 235) (by decide +kernel), List.mem_of_getElem? (i := 542) (by decide +kernel), List.mem_of_getElem? (i := 543) (by decide +kernel)⟩
theorem lw_p6 : lw_okq (⟨"SoupNine$Reader", "isWord", "(Ljava/lang/String;)Z"⟩, 15) := ⟨⟨by decide +kernel, by decide +kernel⟩, List.mem_of_getElem? (i := 235) (by decide +kernel), List.mem_of_getElem? (i := 570) (by decide +kernel), List.mem_of_getElem? (i := 571) (by decide +kernel)⟩
theorem lw_p7 : lw_okq (⟨"SoupNine$Reader", "checkRoom", "(I)V"⟩, 15) := ⟨⟨by decide +kernel, by decide +kernel⟩, List.mem_of_getElem? (i := 235) (by decide +kernel), List.mem_of_getElem? (i := 622) (by decide +kernel), List.mem_of_getElem? (i := 623) (by decide +kernel)⟩
theorem lw_p8 : lw_okq (⟨"SoupNine$Reader", "noteFault", "(II)V"⟩, 15) := ⟨⟨by decide +kernel, by decide +kernel⟩, List.mem_of_getElem? (i := 235) (by decide +kernel), List.mem_of_getElem? (i := 626) (by decide +kernel), List.mem_of_getElem? (i := 627) (by decide +kernel)⟩
theorem lw_p9 : lw_okq (⟨"SoupNine$Reader", "readThing", "()Z"⟩, 15) := ⟨⟨by decide +kernel, by decide +kernel⟩, List.mem_of_getElem? (i := 235) (by decide +kernel), List.mem_of_getElem? (i := 630) (by decide +kernel), List.mem_of_getElem? (i := 631) (by decide +kernel)⟩
theorem lw_p10 : lw_okq (⟨"SoupNine$Reader", "readNumbers", "(I)Z"⟩, 15) := ⟨⟨by decide +kernel, by decide +kernel⟩, List.mem_of_getElem? (i := 235) (by decide +kernel), List.mem_of_getElem? (i := 637) (by decide +kernel), List.mem_of_getElem? (i := 638) (by decide +kernel)⟩
theorem lw_p11 : lw_okq (⟨"SoupNine$Reader", "canBe", "(II)Z"⟩, 15) := ⟨⟨by decide +kernel, by decide +kernel⟩, List.mem_of_getElem? (i := 235) (by decide +kernel), List.mem_of_getElem? (i := 643) (by decide +kernel), List.mem_of_getElem? (i := 644) (by decide +kernel)⟩
theorem lw_p12 : lw_okq (⟨"SoupNine$Reader", "tellLine", "(I)V"⟩, 15) := ⟨⟨by decide +kernel, by decide +kernel⟩, List.mem_of_getElem? (i := 235) (by decide +kernel), List.mem_of_getElem? (i := 651) (by decide +kernel), List.mem_of_getElem? (i := 652) (by decide +kernel)⟩
theorem lw_p13 : lw_okq (⟨"SoupNine$Reader", "tellOfTown", "(I)V"⟩, 15) := ⟨⟨by decide +kernel, by decide +kernel⟩, List.mem_of_getElem? (i := 235) (by decide +kernel), List.mem_of_getElem? (i := 659) (by decide +kernel), List.mem_of_getElem? (i := 660) (by decide +kernel)⟩
theorem lw_p14 : lw_okq (⟨"SoupNine", "keepDraft", "(II)V"⟩, 8) := ⟨⟨by decide +kernel, by decide +kernel⟩, List.mem_of_getElem? (i := 23) (by decide +kernel), List.mem_of_getElem? (i := 694) (by decide +kernel), List.mem_of_getElem? (i := 695) (by decide +kernel)⟩
theorem lw_p15 : lw_okq (⟨"SoupNine", "forgetAll", "()V"⟩, 8) := ⟨⟨by decide +kernel, by decide +kernel⟩, List.mem_of_getElem? (i := 23) (by decide +kernel), List.mem_of_getElem? (i := 723) (by decide +kernel), List.mem_of_getElem? (i := 724) (by decide +kernel)⟩
def lw_privs_1 : List (MethodName × Nat) := [(⟨"SoupNine", "placeFor", "(II)I"⟩, 8), (⟨"SoupNine$Reader", "begin", "(I)V"⟩, 15), (⟨"SoupNine$Reader", "advance", "()V"⟩, 15), (⟨"SoupNine$Reader", "readDigits", "()V"⟩, 15), (⟨"SoupNine$Reader", "readLine", "(I)Z"⟩, 15), (⟨"SoupNine$Reader", "codeOf", "(I)I"⟩, 15), (⟨"SoupNine$Reader", "isWord", "(Ljava/lang/String;)Z"⟩, 15), (⟨"SoupNine$Reader", "checkRoom", "(I)V"⟩, 15), (⟨"SoupNine$Reader", "noteFault", "(II)V"⟩, 15), (⟨"SoupNine$Reader", "readThing", "()Z"⟩, 15), (⟨"SoupNine$Reader", "readNumbers", "(I)Z"⟩, 15), (⟨"SoupNine$Reader", "canBe", "(II)Z"⟩, 15), (⟨"SoupNine$Reader", "tellLine", "(I)V"⟩, 15), (⟨"SoupNine$Reader", "tellOfTown", "(I)V"⟩, 15), (⟨"SoupNine", "keepDraft", "(II)V"⟩, 8), (⟨"SoupNine", "forgetAll", "()V"⟩, 8)]
theorem lw_r1 : ∀ q ∈ lw_privs_1, lw_okq q := List.forall_mem_cons.mpr ⟨lw_p0, List.forall_mem_cons.mpr ⟨lw_p1, List.forall_mem_cons.mpr ⟨lw_p2, List.forall_mem_cons.mpr ⟨lw_p3, List.forall_mem_cons.mpr ⟨lw_p4, List.forall_mem_cons.mpr ⟨lw_p5, List.forall_mem_cons.mpr ⟨lw_p6, List.forall_mem_cons.mpr ⟨lw_p7, List.forall_mem_cons.mpr ⟨lw_p8, List.forall_mem_cons.mpr ⟨lw_p9, List.forall_mem_cons.mpr ⟨lw_p10, List.forall_mem_cons.mpr ⟨lw_p11, List.forall_mem_cons.mpr ⟨lw_p12, List.forall_mem_cons.mpr ⟨lw_p13, List.forall_mem_cons.mpr ⟨lw_p14, List.forall_mem_cons.mpr ⟨lw_p15, fun _ h => absurd h List.not_mem_nil⟩⟩⟩⟩⟩⟩⟩⟩⟩⟩⟩⟩⟩⟩⟩⟩
theorem lw_p16 : lw_okq (⟨"SoupNine$Town", "detailOfStop", "(II)I"⟩, 14) := ⟨⟨by decide +kernel, by decide +kernel⟩, List.mem_of_getElem? (i := 38) (by decide +kernel), List.mem_of_getElem? (i := 780) (by decide +kernel), List.mem_of_getElem? (i := 781) (by decide +kernel)⟩
theorem lw_p17 : lw_okq (⟨"SoupNine$Walk", "perform", "(LSoupNine$Town;II)Z"⟩, 12) := ⟨⟨by decide +kernel, by decide +kernel⟩, List.mem_of_getElem? (i := 301) (by decide +kernel), List.mem_of_getElem? (i := 812) (by decide +kernel), List.mem_of_getElem? (i := 813) (by decide +kernel)⟩
theorem lw_p18 : lw_okq (⟨"SoupNine$Walk", "driveTo", "(LSoupNine$Town;I)Z"⟩, 12) := ⟨⟨by decide +kernel, by decide +kernel⟩, List.mem_of_getElem? (i := 301) (by decide +kernel), List.mem_of_getElem? (i := 817) (by decide +kernel), List.mem_of_getElem? (i := 818) (by decide +kernel)⟩
theorem lw_p19 : lw_okq (⟨"SoupNine$Town", "columnOf", "(I)I"⟩, 14) := ⟨⟨by decide +kernel, by decide +kernel⟩, List.mem_of_getElem? (i := 38) (by decide +kernel), List.mem_of_getElem? (i := 825) (by decide +kernel), List.mem_of_getElem? (i := 826) (by decide +kernel)⟩
theorem lw_p20 : lw_okq (⟨"SoupNine$Town", "rowOf", "(I)I"⟩, 14) := ⟨⟨by decide +kernel, by decide +kernel⟩, List.mem_of_getElem? (i := 38) (by decide +kernel), List.mem_of_getElem? (i := 832) (by decide +kernel), List.mem_of_getElem? (i := 833) (by decide +kernel)⟩
theorem lw_p21 : lw_okq (⟨"SoupNine$Walk", "spend", "(I)Z"⟩, 12) := ⟨⟨by decide +kernel, by decide +kernel⟩, List.mem_of_getElem? (i := 301) (by decide +kernel), List.mem_of_getElem? (i := 836) (by decide +kernel), List.mem_of_getElem? (i := 837) (by decide +kernel)⟩
theorem lw_p22 : lw_okq (⟨"SoupNine$Walk", "ladle", "(LSoupNine$Town;I)Z"⟩, 12) := ⟨⟨by decide +kernel, by decide +kernel⟩, List.mem_of_getElem? (i := 301) (by decide +kernel), List.mem_of_getElem? (i := 840) (by decide +kernel), List.mem_of_getElem? (i := 841) (by decide +kernel)⟩
theorem lw_p23 : lw_okq (⟨"SoupNine$Walk", "sendOn", "(LSoupNine$Town;I)V"⟩, 12) := ⟨⟨by decide +kernel, by decide +kernel⟩, List.mem_of_getElem? (i := 301) (by decide +kernel), List.mem_of_getElem? (i := 845) (by decide +kernel), List.mem_of_getElem? (i := 846) (by decide +kernel)⟩
theorem lw_p24 : lw_okq (⟨"SoupNine$Walk", "talk", "(LSoupNine$Town;)Z"⟩, 12) := ⟨⟨by decide +kernel, by decide +kernel⟩, List.mem_of_getElem? (i := 301) (by decide +kernel), List.mem_of_getElem? (i := 850) (by decide +kernel), List.mem_of_getElem? (i := 851) (by decide +kernel)⟩
theorem lw_p25 : lw_okq (⟨"SoupNine$Walk", "detailOfStop", "(II)I"⟩, 12) := ⟨⟨by decide +kernel, by decide +kernel⟩, List.mem_of_getElem? (i := 301) (by decide +kernel), List.mem_of_getElem? (i := 862) (by decide +kernel), List.mem_of_getElem? (i := 863) (by decide +kernel)⟩
theorem lw_p26 : lw_okq (⟨"SoupNine$Walk", "below", "(I)I"⟩, 12) := ⟨⟨by decide +kernel, by decide +kernel⟩, List.mem_of_getElem? (i := 301) (by decide +kernel), List.mem_of_getElem? (i := 874) (by decide +kernel), List.mem_of_getElem? (i := 875) (by decide +kernel)⟩
theorem lw_p27 : lw_okq (⟨"SoupNine$Bowls", "prepare", "(LSoupNine$Town;)V"⟩, 4) := ⟨⟨by decide +kernel, by decide +kernel⟩, List.mem_of_getElem? (i := 344) (by decide +kernel), List.mem_of_getElem? (i := 894) (by decide +kernel), List.mem_of_getElem? (i := 895) (by decide +kernel)⟩
theorem lw_p28 : lw_okq (⟨"SoupNine$Bowls", "countsOverAll", "(LSoupNine$Town;II)J"⟩, 4) := ⟨⟨by decide +kernel, by decide +kernel⟩, List.mem_of_getElem? (i := 344) (by decide +kernel), List.mem_of_getElem? (i := 898) (by decide +kernel), List.mem_of_getElem? (i := 899) (by decide +kernel)⟩
theorem lw_p29 : lw_okq (⟨"SoupNine$Bowls", "countsAfter", "(LSoupNine$Town;IIII)J"⟩, 4) := ⟨⟨by decide +kernel, by decide +kernel⟩, List.mem_of_getElem? (i := 344) (by decide +kernel), List.mem_of_getElem? (i := 909) (by decide +kernel), List.mem_of_getElem? (i := 910) (by decide +kernel)⟩
theorem lw_p30 : lw_okq (⟨"SoupNine$Bowls", "waysTo", "(III)J"⟩, 4) := ⟨⟨by decide +kernel, by decide +kernel⟩, List.mem_of_getElem? (i := 344) (by decide +kernel), List.mem_of_getElem? (i := 956) (by decide +kernel), List.mem_of_getElem? (i := 957) (by decide +kernel)⟩
theorem lw_p31 : lw_okq (⟨"SoupNine$Routes", "measure", "(LSoupNine$Town;)V"⟩, 14) := ⟨⟨by decide +kernel, by decide +kernel⟩, List.mem_of_getElem? (i := 364) (by decide +kernel), List.mem_of_getElem? (i := 968) (by decide +kernel), List.mem_of_getElem? (i := 969) (by decide +kernel)⟩
def lw_privs_2 : List (MethodName × Nat) := [(⟨"SoupNine$Town", "detailOfStop", "(II)I"⟩, 14), (⟨"SoupNine$Walk", "perform", "(LSoupNine$Town;II)Z"⟩, 12), (⟨"SoupNine$Walk", "driveTo", "(LSoupNine$Town;I)Z"⟩, 12), (⟨"SoupNine$Town", "columnOf", "(I)I"⟩, 14), (⟨"SoupNine$Town", "rowOf", "(I)I"⟩, 14), (⟨"SoupNine$Walk", "spend", "(I)Z"⟩, 12), (⟨"SoupNine$Walk", "ladle", "(LSoupNine$Town;I)Z"⟩, 12), (⟨"SoupNine$Walk", "sendOn", "(LSoupNine$Town;I)V"⟩, 12), (⟨"SoupNine$Walk", "talk", "(LSoupNine$Town;)Z"⟩, 12), (⟨"SoupNine$Walk", "detailOfStop", "(II)I"⟩, 12), (⟨"SoupNine$Walk", "below", "(I)I"⟩, 12), (⟨"SoupNine$Bowls", "prepare", "(LSoupNine$Town;)V"⟩, 4), (⟨"SoupNine$Bowls", "countsOverAll", "(LSoupNine$Town;II)J"⟩, 4), (⟨"SoupNine$Bowls", "countsAfter", "(LSoupNine$Town;IIII)J"⟩, 4), (⟨"SoupNine$Bowls", "waysTo", "(III)J"⟩, 4), (⟨"SoupNine$Routes", "measure", "(LSoupNine$Town;)V"⟩, 14)]
theorem lw_r2 : ∀ q ∈ lw_privs_2, lw_okq q := List.forall_mem_cons.mpr ⟨lw_p16, List.forall_mem_cons.mpr ⟨lw_p17, List.forall_mem_cons.mpr ⟨lw_p18, List.forall_mem_cons.mpr ⟨lw_p19, List.forall_mem_cons.mpr ⟨lw_p20, List.forall_mem_cons.mpr ⟨lw_p21, List.forall_mem_cons.mpr ⟨lw_p22, List.forall_mem_cons.mpr ⟨lw_p23, List.forall_mem_cons.mpr ⟨lw_p24, List.forall_mem_cons.mpr ⟨lw_p25, List.forall_mem_cons.mpr ⟨lw_p26, List.forall_mem_cons.mpr ⟨lw_p27, List.forall_mem_cons.mpr ⟨lw_p28, List.forall_mem_cons.mpr ⟨lw_p29, List.forall_mem_cons.mpr ⟨lw_p30, List.forall_mem_cons.mpr ⟨lw_p31, fun _ h => absurd h List.not_mem_nil⟩⟩⟩⟩⟩⟩⟩⟩⟩⟩⟩⟩⟩⟩⟩⟩
theorem lw_p32 : lw_okq (⟨"SoupNine$Routes", "findPaths", "(LSoupNine$Town;)V"⟩, 14) := ⟨⟨by decide +kernel, by decide +kernel⟩, List.mem_of_getElem? (i := 364) (by decide +kernel), List.mem_of_getElem? (i := 974) (by decide +kernel), List.mem_of_getElem? (i := 975) (by decide +kernel)⟩
theorem lw_p33 : lw_okq (⟨"SoupNine$Routes", "shortest", "(LSoupNine$Town;II)I"⟩, 14) := ⟨⟨by decide +kernel, by decide +kernel⟩, List.mem_of_getElem? (i := 364) (by decide +kernel), List.mem_of_getElem? (i := 982) (by decide +kernel), List.mem_of_getElem? (i := 983) (by decide +kernel)⟩
theorem lw_p34 : lw_okq (⟨"SoupNine$Routes", "findRound", "(LSoupNine$Town;)V"⟩, 14) := ⟨⟨by decide +kernel, by decide +kernel⟩, List.mem_of_getElem? (i := 364) (by decide +kernel), List.mem_of_getElem? (i := 987) (by decide +kernel), List.mem_of_getElem? (i := 988) (by decide +kernel)⟩
theorem lw_p35 : lw_okq (⟨"SoupNine$Routes", "findBestOfWay", "(LSoupNine$Town;)V"⟩, 14) := ⟨⟨by decide +kernel, by decide +kernel⟩, List.mem_of_getElem? (i := 364) (by decide +kernel), List.mem_of_getElem? (i := 991) (by decide +kernel), List.mem_of_getElem? (i := 992) (by decide +kernel)⟩
theorem lw_p36 : lw_okq (⟨"SoupNine$Routes", "isPeopled", "(I)Z"⟩, 14) := ⟨⟨by decide +kernel, by decide +kernel⟩, List.mem_of_getElem? (i := 364) (by decide +kernel), List.mem_of_getElem? (i := 995) (by decide +kernel), List.mem_of_getElem? (i := 996) (by decide +kernel)⟩
theorem lw_p37 : lw_okq (⟨"SoupNine$Routes", "fewestMinutes", "(LSoupNine$Town;I)I"⟩, 14) := ⟨⟨by decide +kernel, by decide +kernel⟩, List.mem_of_getElem? (i := 364) (by decide +kernel), List.mem_of_getElem? (i := 999) (by decide +kernel), List.mem_of_getElem? (i := 1000) (by decide +kernel)⟩
theorem lw_p38 : lw_okq (⟨"SoupNine$Routes", "isWarm", "(LSoupNine$Town;II)Z"⟩, 14) := ⟨⟨by decide +kernel, by decide +kernel⟩, List.mem_of_getElem? (i := 364) (by decide +kernel), List.mem_of_getElem? (i := 1003) (by decide +kernel), List.mem_of_getElem? (i := 1004) (by decide +kernel)⟩
theorem lw_p39 : lw_okq (⟨"SoupNine$Routes", "doneAt", "(II)I"⟩, 14) := ⟨⟨by decide +kernel, by decide +kernel⟩, List.mem_of_getElem? (i := 364) (by decide +kernel), List.mem_of_getElem? (i := 1007) (by decide +kernel), List.mem_of_getElem? (i := 1008) (by decide +kernel)⟩
theorem lw_p40 : lw_okq (⟨"SoupNine$Routes", "findWay", "(LSoupNine$Town;)V"⟩, 14) := ⟨⟨by decide +kernel, by decide +kernel⟩, List.mem_of_getElem? (i := 364) (by decide +kernel), List.mem_of_getElem? (i := 1011) (by decide +kernel), List.mem_of_getElem? (i := 1012) (by decide +kernel)⟩
theorem lw_p41 : lw_okq (⟨"SoupNine$Routes", "isBest", "(LSoupNine$Town;II)Z"⟩, 14) := ⟨⟨by decide +kernel, by decide +kernel⟩, List.mem_of_getElem? (i := 364) (by decide +kernel), List.mem_of_getElem? (i := 1015) (by decide +kernel), List.mem_of_getElem? (i := 1016) (by decide +kernel)⟩
theorem lw_p42 : lw_okq (⟨"SoupNine$Routes", "nextOf", "(LSoupNine$Town;II)I"⟩, 14) := ⟨⟨by decide +kernel, by decide +kernel⟩, List.mem_of_getElem? (i := 364) (by decide +kernel), List.mem_of_getElem? (i := 1019) (by decide +kernel), List.mem_of_getElem? (i := 1020) (by decide +kernel)⟩
theorem lw_p43 : lw_okq (⟨"SoupNine$Routes", "talksAheadOfLast", "(LSoupNine$Town;)I"⟩, 14) := ⟨⟨by decide +kernel, by decide +kernel⟩, List.mem_of_getElem? (i := 364) (by decide +kernel), List.mem_of_getElem? (i := 1035) (by decide +kernel), List.mem_of_getElem? (i := 1036) (by decide +kernel)⟩
theorem lw_p44 : lw_okq (⟨"SoupNine$Book", "moreFrom", "(I)I"⟩, 4) := ⟨⟨by decide +kernel, by decide +kernel⟩, List.mem_of_getElem? (i := 132) (by decide +kernel), List.mem_of_getElem? (i := 1124) (by decide +kernel), List.mem_of_getElem? (i := 1125) (by decide +kernel)⟩
theorem lw_p45 : lw_okq (⟨"SoupNine$Book", "seenAheadOf", "(I)I"⟩, 4) := ⟨⟨by decide +kernel, by decide +kernel⟩, List.mem_of_getElem? (i := 132) (by decide +kernel), List.mem_of_getElem? (i := 1128) (by decide +kernel), List.mem_of_getElem? (i := 1129) (by decide +kernel)⟩
theorem lw_p46 : lw_okq (⟨"SoupNine$Book", "maybePick", "(I[I)V"⟩, 4) := ⟨⟨by decide +kernel, by decide +kernel⟩, List.mem_of_getElem? (i := 132) (by decide +kernel), List.mem_of_getElem? (i := 1161) (by decide +kernel), List.mem_of_getElem? (i := 1162) (by decide +kernel)⟩
theorem lw_p47 : lw_okq (⟨"SoupNine$Sheet", "detailOf", "(II)I"⟩, 9) := ⟨⟨by decide +kernel, by decide +kernel⟩, List.mem_of_getElem? (i := 154) (by decide +kernel), List.mem_of_getElem? (i := 1186) (by decide +kernel), List.mem_of_getElem? (i := 1187) (by decide +kernel)⟩
def lw_privs_3 : List (MethodName × Nat) := [(⟨"SoupNine$Routes", "findPaths", "(LSoupNine$Town;)V"⟩, 14), (⟨"SoupNine$Routes", "shortest", "(LSoupNine$Town;II)I"⟩, 14), (⟨"SoupNine$Routes", "findRound", "(LSoupNine$Town;)V"⟩, 14), (⟨"SoupNine$Routes", "findBestOfWay", "(LSoupNine$Town;)V"⟩, 14), (⟨"SoupNine$Routes", "isPeopled", "(I)Z"⟩, 14), (⟨"SoupNine$Routes", "fewestMinutes", "(LSoupNine$Town;I)I"⟩, 14), (⟨"SoupNine$Routes", "isWarm", "(LSoupNine$Town;II)Z"⟩, 14), (⟨"SoupNine$Routes", "doneAt", "(II)I"⟩, 14), (⟨"SoupNine$Routes", "findWay", "(LSoupNine$Town;)V"⟩, 14), (⟨"SoupNine$Routes", "isBest", "(LSoupNine$Town;II)Z"⟩, 14), (⟨"SoupNine$Routes", "nextOf", "(LSoupNine$Town;II)I"⟩, 14), (⟨"SoupNine$Routes", "talksAheadOfLast", "(LSoupNine$Town;)I"⟩, 14), (⟨"SoupNine$Book", "moreFrom", "(I)I"⟩, 4), (⟨"SoupNine$Book", "seenAheadOf", "(I)I"⟩, 4), (⟨"SoupNine$Book", "maybePick", "(I[I)V"⟩, 4), (⟨"SoupNine$Sheet", "detailOf", "(II)I"⟩, 9)]
theorem lw_r3 : ∀ q ∈ lw_privs_3, lw_okq q := List.forall_mem_cons.mpr ⟨lw_p32, List.forall_mem_cons.mpr ⟨lw_p33, List.forall_mem_cons.mpr ⟨lw_p34, List.forall_mem_cons.mpr ⟨lw_p35, List.forall_mem_cons.mpr ⟨lw_p36, List.forall_mem_cons.mpr ⟨lw_p37, List.forall_mem_cons.mpr ⟨lw_p38, List.forall_mem_cons.mpr ⟨lw_p39, List.forall_mem_cons.mpr ⟨lw_p40, List.forall_mem_cons.mpr ⟨lw_p41, List.forall_mem_cons.mpr ⟨lw_p42, List.forall_mem_cons.mpr ⟨lw_p43, List.forall_mem_cons.mpr ⟨lw_p44, List.forall_mem_cons.mpr ⟨lw_p45, List.forall_mem_cons.mpr ⟨lw_p46, List.forall_mem_cons.mpr ⟨lw_p47, fun _ h => absurd h List.not_mem_nil⟩⟩⟩⟩⟩⟩⟩⟩⟩⟩⟩⟩⟩⟩⟩⟩
theorem lw_p48 : lw_okq (⟨"SoupNine$Search", "findNeed", "(LSoupNine$Sheet;)V"⟩, 8) := ⟨⟨by decide +kernel, by decide +kernel⟩, List.mem_of_getElem? (i := 421) (by decide +kernel), List.mem_of_getElem? (i := 1198) (by decide +kernel), List.mem_of_getElem? (i := 1199) (by decide +kernel)⟩
theorem lw_p49 : lw_okq (⟨"SoupNine$Search", "needWith", "(LSoupNine$Sheet;III)I"⟩, 8) := ⟨⟨by decide +kernel, by decide +kernel⟩, List.mem_of_getElem? (i := 421) (by decide +kernel), List.mem_of_getElem? (i := 1202) (by decide +kernel), List.mem_of_getElem? (i := 1203) (by decide +kernel)⟩
theorem lw_p50 : lw_okq (⟨"SoupNine$Search", "findShoes", "(LSoupNine$Sheet;)V"⟩, 8) := ⟨⟨by decide +kernel, by decide +kernel⟩, List.mem_of_getElem? (i := 421) (by decide +kernel), List.mem_of_getElem? (i := 1211) (by decide +kernel), List.mem_of_getElem? (i := 1212) (by decide +kernel)⟩
theorem lw_p51 : lw_okq (⟨"SoupNine$Search", "findWalked", "(LSoupNine$Sheet;)V"⟩, 8) := ⟨⟨by decide +kernel, by decide +kernel⟩, List.mem_of_getElem? (i := 421) (by decide +kernel), List.mem_of_getElem? (i := 1215) (by decide +kernel), List.mem_of_getElem? (i := 1216) (by decide +kernel)⟩
theorem lw_p52 : lw_okq (⟨"SoupNine$Search", "leastWalked", "(LSoupNine$Sheet;II)I"⟩, 8) := ⟨⟨by decide +kernel, by decide +kernel⟩, List.mem_of_getElem? (i := 421) (by decide +kernel), List.mem_of_getElem? (i := 1219) (by decide +kernel), List.mem_of_getElem? (i := 1220) (by decide +kernel)⟩
theorem lw_p53 : lw_okq (⟨"SoupNine$Search", "walkedBy", "(LSoupNine$Sheet;III)I"⟩, 8) := ⟨⟨by decide +kernel, by decide +kernel⟩, List.mem_of_getElem? (i := 421) (by decide +kernel), List.mem_of_getElem? (i := 1224) (by decide +kernel), List.mem_of_getElem? (i := 1225) (by decide +kernel)⟩
theorem lw_p54 : lw_okq (⟨"SoupNine$Search", "findHides", "(LSoupNine$Sheet;)V"⟩, 8) := ⟨⟨by decide +kernel, by decide +kernel⟩, List.mem_of_getElem? (i := 421) (by decide +kernel), List.mem_of_getElem? (i := 1234) (by decide +kernel), List.mem_of_getElem? (i := 1235) (by decide +kernel)⟩
theorem lw_p55 : lw_okq (⟨"SoupNineModel", "four", "(I)V"⟩, 57) := ⟨⟨by decide +kernel, by decide +kernel⟩, List.mem_of_getElem? (i := 1314) (by decide +kernel), List.mem_of_getElem? (i := 1497) (by decide +kernel), List.mem_of_getElem? (i := 1498) (by decide +kernel)⟩
theorem lw_p56 : lw_okq (⟨"SoupNineModel", "is", "(II)Z"⟩, 57) := ⟨⟨by decide +kernel, by decide +kernel⟩, List.mem_of_getElem? (i := 1314) (by decide +kernel), List.mem_of_getElem? (i := 1512) (by decide +kernel), List.mem_of_getElem? (i := 1513) (by decide +kernel)⟩
theorem lw_p57 : lw_okq (⟨"SoupNineModel", "readText", "(I)Z"⟩, 57) := ⟨⟨by decide +kernel, by decide +kernel⟩, List.mem_of_getElem? (i := 1314) (by decide +kernel), List.mem_of_getElem? (i := 1516) (by decide +kernel), List.mem_of_getElem? (i := 1517) (by decide +kernel)⟩
theorem lw_p58 : lw_okq (⟨"SoupNineModel", "blank", "(I)V"⟩, 57) := ⟨⟨by decide +kernel, by decide +kernel⟩, List.mem_of_getElem? (i := 1314) (by decide +kernel), List.mem_of_getElem? (i := 1520) (by decide +kernel), List.mem_of_getElem? (i := 1521) (by decide +kernel)⟩
theorem lw_p59 : lw_okq (⟨"SoupNineModel", "token", "()V"⟩, 57) := ⟨⟨by decide +kernel, by decide +kernel⟩, List.mem_of_getElem? (i := 1314) (by decide +kernel), List.mem_of_getElem? (i := 1524) (by decide +kernel), List.mem_of_getElem? (i := 1525) (by decide +kernel)⟩
theorem lw_p60 : lw_okq (⟨"SoupNineModel", "see", "()I"⟩, 57) := ⟨⟨by decide +kernel, by decide +kernel⟩, List.mem_of_getElem? (i := 1314) (by decide +kernel), List.mem_of_getElem? (i := 1528) (by decide +kernel), List.mem_of_getElem? (i := 1529) (by decide +kernel)⟩
theorem lw_p61 : lw_okq (⟨"SoupNineModel", "lines", "(I)Z"⟩, 57) := ⟨⟨by decide +kernel, by decide +kernel⟩, List.mem_of_getElem? (i := 1314) (by decide +kernel), List.mem_of_getElem? (i := 1532) (by decide +kernel), List.mem_of_getElem? (i := 1533) (by decide +kernel)⟩
theorem lw_p62 : lw_okq (⟨"SoupNineModel", "lineOf", "(IJI)Z"⟩, 57) := ⟨⟨by decide +kernel, by decide +kernel⟩, List.mem_of_getElem? (i := 1314) (by decide +kernel), List.mem_of_getElem? (i := 1536) (by decide +kernel), List.mem_of_getElem? (i := 1537) (by decide +kernel)⟩
theorem lw_p63 : lw_okq (⟨"SoupNineModel", "townLine", "(JI)Z"⟩, 57) := ⟨⟨by decide +kernel, by decide +kernel⟩, List.mem_of_getElem? (i := 1314) (by decide +kernel), List.mem_of_getElem? (i := 1540) (by decide +kernel), List.mem_of_getElem? (i := 1541) (by decide +kernel)⟩
def lw_privs_4 : List (MethodName × Nat) := [(⟨"SoupNine$Search", "findNeed", "(LSoupNine$Sheet;)V"⟩, 8), (⟨"SoupNine$Search", "needWith", "(LSoupNine$Sheet;III)I"⟩, 8), (⟨"SoupNine$Search", "findShoes", "(LSoupNine$Sheet;)V"⟩, 8), (⟨"SoupNine$Search", "findWalked", "(LSoupNine$Sheet;)V"⟩, 8), (⟨"SoupNine$Search", "leastWalked", "(LSoupNine$Sheet;II)I"⟩, 8), (⟨"SoupNine$Search", "walkedBy", "(LSoupNine$Sheet;III)I"⟩, 8), (⟨"SoupNine$Search", "findHides", "(LSoupNine$Sheet;)V"⟩, 8), (⟨"SoupNineModel", "four", "(I)V"⟩, 57), (⟨"SoupNineModel", "is", "(II)Z"⟩, 57), (⟨"SoupNineModel", "readText", "(I)Z"⟩, 57), (⟨"SoupNineModel", "blank", "(I)V"⟩, 57), (⟨"SoupNineModel", "token", "()V"⟩, 57), (⟨"SoupNineModel", "see", "()I"⟩, 57), (⟨"SoupNineModel", "lines", "(I)Z"⟩, 57), (⟨"SoupNineModel", "lineOf", "(IJI)Z"⟩, 57), (⟨"SoupNineModel", "townLine", "(JI)Z"⟩, 57)]
theorem lw_r4 : ∀ q ∈ lw_privs_4, lw_okq q := List.forall_mem_cons.mpr ⟨lw_p48, List.forall_mem_cons.mpr ⟨lw_p49, List.forall_mem_cons.mpr ⟨lw_p50, List.forall_mem_cons.mpr ⟨lw_p51, List.forall_mem_cons.mpr ⟨lw_p52, List.forall_mem_cons.mpr ⟨lw_p53, List.forall_mem_cons.mpr ⟨lw_p54, List.forall_mem_cons.mpr ⟨lw_p55, List.forall_mem_cons.mpr ⟨lw_p56, List.forall_mem_cons.mpr ⟨lw_p57, List.forall_mem_cons.mpr ⟨lw_p58, List.forall_mem_cons.mpr ⟨lw_p59, List.forall_mem_cons.mpr ⟨lw_p60, List.forall_mem_cons.mpr ⟨lw_p61, List.forall_mem_cons.mpr ⟨lw_p62, List.forall_mem_cons.mpr ⟨lw_p63, fun _ h => absurd h List.not_mem_nil⟩⟩⟩⟩⟩⟩⟩⟩⟩⟩⟩⟩⟩⟩⟩⟩
theorem lw_p64 : lw_okq (⟨"SoupNineModel", "fails", "()Z"⟩, 57) := ⟨⟨by decide +kernel, by decide +kernel⟩, List.mem_of_getElem? (i := 1314) (by decide +kernel), List.mem_of_getElem? (i := 1557) (by decide +kernel), List.mem_of_getElem? (i := 1558) (by decide +kernel)⟩
theorem lw_p65 : lw_okq (⟨"SoupNineModel", "full", "(III)V"⟩, 57) := ⟨⟨by decide +kernel, by decide +kernel⟩, List.mem_of_getElem? (i := 1314) (by decide +kernel), List.mem_of_getElem? (i := 1561) (by decide +kernel), List.mem_of_getElem? (i := 1562) (by decide +kernel)⟩
theorem lw_p66 : lw_okq (⟨"SoupNineModel", "later", "(II)V"⟩, 57) := ⟨⟨by decide +kernel, by decide +kernel⟩, List.mem_of_getElem? (i := 1314) (by decide +kernel), List.mem_of_getElem? (i := 1565) (by decide +kernel), List.mem_of_getElem? (i := 1566) (by decide +kernel)⟩
theorem lw_p67 : lw_okq (⟨"SoupNineModel", "stopLine", "(I)Z"⟩, 57) := ⟨⟨by decide +kernel, by decide +kernel⟩, List.mem_of_getElem? (i := 1314) (by decide +kernel), List.mem_of_getElem? (i := 1569) (by decide +kernel), List.mem_of_getElem? (i := 1570) (by decide +kernel)⟩
theorem lw_p68 : lw_okq (⟨"SoupNineModel", "take", "(III)Z"⟩, 57) := ⟨⟨by decide +kernel, by decide +kernel⟩, List.mem_of_getElem? (i := 1314) (by decide +kernel), List.mem_of_getElem? (i := 1573) (by decide +kernel), List.mem_of_getElem? (i := 1574) (by decide +kernel)⟩
theorem lw_p69 : lw_okq (⟨"SoupNineModel", "takeBut", "(IIII)Z"⟩, 57) := ⟨⟨by decide +kernel, by decide +kernel⟩, List.mem_of_getElem? (i := 1314) (by decide +kernel), List.mem_of_getElem? (i := 1577) (by decide +kernel), List.mem_of_getElem? (i := 1578) (by decide +kernel)⟩
theorem lw_p70 : lw_okq (⟨"SoupNineModel", "followLine", "()Z"⟩, 57) := ⟨⟨by decide +kernel, by decide +kernel⟩, List.mem_of_getElem? (i := 1314) (by decide +kernel), List.mem_of_getElem? (i := 1581) (by decide +kernel), List.mem_of_getElem? (i := 1582) (by decide +kernel)⟩
theorem lw_p71 : lw_okq (⟨"SoupNineModel", "homeLine", "()Z"⟩, 57) := ⟨⟨by decide +kernel, by decide +kernel⟩, List.mem_of_getElem? (i := 1314) (by decide +kernel), List.mem_of_getElem? (i := 1588) (by decide +kernel), List.mem_of_getElem? (i := 1589) (by decide +kernel)⟩
theorem lw_p72 : lw_okq (⟨"SoupNineModel", "plainLine", "(III)Z"⟩, 57) := ⟨⟨by decide +kernel, by decide +kernel⟩, List.mem_of_getElem? (i := 1314) (by decide +kernel), List.mem_of_getElem? (i := 1592) (by decide +kernel), List.mem_of_getElem? (i := 1593) (by decide +kernel)⟩
theorem lw_p73 : lw_okq (⟨"SoupNineModel", "dayLine", "(JI)Z"⟩, 57) := ⟨⟨by decide +kernel, by decide +kernel⟩, List.mem_of_getElem? (i := 1314) (by decide +kernel), List.mem_of_getElem? (i := 1596) (by decide +kernel), List.mem_of_getElem? (i := 1597) (by decide +kernel)⟩
theorem lw_p74 : lw_okq (⟨"SoupNineModel", "keep", "(II)V"⟩, 57) := ⟨⟨by decide +kernel, by decide +kernel⟩, List.mem_of_getElem? (i := 1314) (by decide +kernel), List.mem_of_getElem? (i := 1607) (by decide +kernel), List.mem_of_getElem? (i := 1608) (by decide +kernel)⟩
theorem lw_p75 : lw_okq (⟨"SoupNineModel", "bookLine", "(JI)Z"⟩, 57) := ⟨⟨by decide +kernel, by decide +kernel⟩, List.mem_of_getElem? (i := 1314) (by decide +kernel), List.mem_of_getElem? (i := 1611) (by decide +kernel), List.mem_of_getElem? (i := 1612) (by decide +kernel)⟩
theorem lw_p76 : lw_okq (⟨"SoupNineModel", "askedLine", "(I)Z"⟩, 57) := ⟨⟨by decide +kernel, by decide +kernel⟩, List.mem_of_getElem? (i := 1314) (by decide +kernel), List.mem_of_getElem? (i := 1617) (by decide +kernel), List.mem_of_getElem? (i := 1618) (by decide +kernel)⟩
theorem lw_p77 : lw_okq (⟨"SoupNineModel", "listLine", "(JI)Z"⟩, 57) := ⟨⟨by decide +kernel, by decide +kernel⟩, List.mem_of_getElem? (i := 1314) (by decide +kernel), List.mem_of_getElem? (i := 1627) (by decide +kernel), List.mem_of_getElem? (i := 1628) (by decide +kernel)⟩
theorem lw_p78 : lw_okq (⟨"SoupNineModel", "shoeLine", "()Z"⟩, 57) := ⟨⟨by decide +kernel, by decide +kernel⟩, List.mem_of_getElem? (i := 1314) (by decide +kernel), List.mem_of_getElem? (i := 1634) (by decide +kernel), List.mem_of_getElem? (i := 1635) (by decide +kernel)⟩
theorem lw_p79 : lw_okq (⟨"SoupNineModel", "footLine", "()Z"⟩, 57) := ⟨⟨by decide +kernel, by decide +kernel⟩, List.mem_of_getElem? (i := 1314) (by decide +kernel), List.mem_of_getElem? (i := 1638) (by decide +kernel), List.mem_of_getElem? (i := 1639) (by decide +kernel)⟩
def lw_privs_5 : List (MethodName × Nat) := [(⟨"SoupNineModel", "fails", "()Z"⟩, 57), (⟨"SoupNineModel", "full", "(III)V"⟩, 57), (⟨"SoupNineModel", "later", "(II)V"⟩, 57), (⟨"SoupNineModel", "stopLine", "(I)Z"⟩, 57), (⟨"SoupNineModel", "take", "(III)Z"⟩, 57), (⟨"SoupNineModel", "takeBut", "(IIII)Z"⟩, 57), (⟨"SoupNineModel", "followLine", "()Z"⟩, 57), (⟨"SoupNineModel", "homeLine", "()Z"⟩, 57), (⟨"SoupNineModel", "plainLine", "(III)Z"⟩, 57), (⟨"SoupNineModel", "dayLine", "(JI)Z"⟩, 57), (⟨"SoupNineModel", "keep", "(II)V"⟩, 57), (⟨"SoupNineModel", "bookLine", "(JI)Z"⟩, 57), (⟨"SoupNineModel", "askedLine", "(I)Z"⟩, 57), (⟨"SoupNineModel", "listLine", "(JI)Z"⟩, 57), (⟨"SoupNineModel", "shoeLine", "()Z"⟩, 57), (⟨"SoupNineModel", "footLine", "()Z"⟩, 57)]
theorem lw_r5 : ∀ q ∈ lw_privs_5, lw_okq q := List.forall_mem_cons.mpr ⟨lw_p64, List.forall_mem_cons.mpr ⟨lw_p65, List.forall_mem_cons.mpr ⟨lw_p66, List.forall_mem_cons.mpr ⟨lw_p67, List.forall_mem_cons.mpr ⟨lw_p68, List.forall_mem_cons.mpr ⟨lw_p69, List.forall_mem_cons.mpr ⟨lw_p70, List.forall_mem_cons.mpr ⟨lw_p71, List.forall_mem_cons.mpr ⟨lw_p72, List.forall_mem_cons.mpr ⟨lw_p73, List.forall_mem_cons.mpr ⟨lw_p74, List.forall_mem_cons.mpr ⟨lw_p75, List.forall_mem_cons.mpr ⟨lw_p76, List.forall_mem_cons.mpr ⟨lw_p77, List.forall_mem_cons.mpr ⟨lw_p78, List.forall_mem_cons.mpr ⟨lw_p79, fun _ h => absurd h List.not_mem_nil⟩⟩⟩⟩⟩⟩⟩⟩⟩⟩⟩⟩⟩⟩⟩⟩
theorem lw_p80 : lw_okq (⟨"SoupNineModel", "hideLine", "()Z"⟩, 57) := ⟨⟨by decide +kernel, by decide +kernel⟩, List.mem_of_getElem? (i := 1314) (by decide +kernel), List.mem_of_getElem? (i := 1642) (by decide +kernel), List.mem_of_getElem? (i := 1643) (by decide +kernel)⟩
theorem lw_p81 : lw_okq (⟨"SoupNineModel", "storeAll", "(II)V"⟩, 57) := ⟨⟨by decide +kernel, by decide +kernel⟩, List.mem_of_getElem? (i := 1314) (by decide +kernel), List.mem_of_getElem? (i := 1646) (by decide +kernel), List.mem_of_getElem? (i := 1647) (by decide +kernel)⟩
theorem lw_p82 : lw_okq (⟨"SoupNineModel", "store", "([III)V"⟩, 57) := ⟨⟨by decide +kernel, by decide +kernel⟩, List.mem_of_getElem? (i := 1314) (by decide +kernel), List.mem_of_getElem? (i := 1650) (by decide +kernel), List.mem_of_getElem? (i := 1651) (by decide +kernel)⟩
theorem lw_p83 : lw_okq (⟨"SoupNineModel", "hand", "(I)Z"⟩, 57) := ⟨⟨by decide +kernel, by decide +kernel⟩, List.mem_of_getElem? (i := 1314) (by decide +kernel), List.mem_of_getElem? (i := 1662) (by decide +kernel), List.mem_of_getElem? (i := 1663) (by decide +kernel)⟩
theorem lw_p84 : lw_okq (⟨"SoupNineModel", "of", "(I)I"⟩, 57) := ⟨⟨by decide +kernel, by decide +kernel⟩, List.mem_of_getElem? (i := 1314) (by decide +kernel), List.mem_of_getElem? (i := 1666) (by decide +kernel), List.mem_of_getElem? (i := 1667) (by decide +kernel)⟩
theorem lw_p85 : lw_okq (⟨"SoupNineModel", "isStop", "(I)Z"⟩, 57) := ⟨⟨by decide +kernel, by decide +kernel⟩, List.mem_of_getElem? (i := 1314) (by decide +kernel), List.mem_of_getElem? (i := 1670) (by decide +kernel), List.mem_of_getElem? (i := 1671) (by decide +kernel)⟩
theorem lw_p86 : lw_okq (⟨"SoupNineModel", "hasEvening", "(I)Z"⟩, 57) := ⟨⟨by decide +kernel, by decide +kernel⟩, List.mem_of_getElem? (i := 1314) (by decide +kernel), List.mem_of_getElem? (i := 1678) (by decide +kernel), List.mem_of_getElem? (i := 1679) (by decide +kernel)⟩
theorem lw_p87 : lw_okq (⟨"SoupNineModel", "deeds", "()I"⟩, 57) := ⟨⟨by decide +kernel, by decide +kernel⟩, List.mem_of_getElem? (i := 1314) (by decide +kernel), List.mem_of_getElem? (i := 1682) (by decide +kernel), List.mem_of_getElem? (i := 1683) (by decide +kernel)⟩
theorem lw_p88 : lw_okq (⟨"SoupNineModel", "deedOf", "(II)I"⟩, 57) := ⟨⟨by decide +kernel, by decide +kernel⟩, List.mem_of_getElem? (i := 1314) (by decide +kernel), List.mem_of_getElem? (i := 1686) (by decide +kernel), List.mem_of_getElem? (i := 1687) (by decide +kernel)⟩
theorem lw_p89 : lw_okq (⟨"SoupNineModel", "layAll", "(II)Z"⟩, 57) := ⟨⟨by decide +kernel, by decide +kernel⟩, List.mem_of_getElem? (i := 1314) (by decide +kernel), List.mem_of_getElem? (i := 1694) (by decide +kernel), List.mem_of_getElem? (i := 1695) (by decide +kernel)⟩
theorem lw_p90 : lw_okq (⟨"SoupNineModel", "play", "(I)I"⟩, 57) := ⟨⟨by decide +kernel, by decide +kernel⟩, List.mem_of_getElem? (i := 1314) (by decide +kernel), List.mem_of_getElem? (i := 1698) (by decide +kernel), List.mem_of_getElem? (i := 1699) (by decide +kernel)⟩
theorem lw_p91 : lw_okq (⟨"SoupNineModel", "begin", "()V"⟩, 57) := ⟨⟨by decide +kernel, by decide +kernel⟩, List.mem_of_getElem? (i := 1314) (by decide +kernel), List.mem_of_getElem? (i := 1702) (by decide +kernel), List.mem_of_getElem? (i := 1703) (by decide +kernel)⟩
theorem lw_p92 : lw_okq (⟨"SoupNineModel", "middle", "(I)I"⟩, 57) := ⟨⟨by decide +kernel, by decide +kernel⟩, List.mem_of_getElem? (i := 1314) (by decide +kernel), List.mem_of_getElem? (i := 1706) (by decide +kernel), List.mem_of_getElem? (i := 1707) (by decide +kernel)⟩
theorem lw_p93 : lw_okq (⟨"SoupNineModel", "does", "(II)Z"⟩, 57) := ⟨⟨by decide +kernel, by decide +kernel⟩, List.mem_of_getElem? (i := 1314) (by decide +kernel), List.mem_of_getElem? (i := 1710) (by decide +kernel), List.mem_of_getElem? (i := 1711) (by decide +kernel)⟩
theorem lw_p94 : lw_okq (⟨"SoupNineModel", "drivesTo", "(I)Z"⟩, 57) := ⟨⟨by decide +kernel, by decide +kernel⟩, List.mem_of_getElem? (i := 1314) (by decide +kernel), List.mem_of_getElem? (i := 1714) (by decide +kernel), List.mem_of_getElem? (i := 1715) (by decide +kernel)⟩
theorem lw_p95 : lw_okq (⟨"SoupNineModel", "drives", "(II)I"⟩, 57) := ⟨⟨by decide +kernel, by decide +kernel⟩, List.mem_of_getElem? (i := 1314) (by decide +kernel), List.mem_of_getElem? (i := 1718) (by decide +kernel), List.mem_of_getElem? (i := 1719) (by decide +kernel)⟩
def lw_privs_6 : List (MethodName × Nat) := [(⟨"SoupNineModel", "hideLine", "()Z"⟩, 57), (⟨"SoupNineModel", "storeAll", "(II)V"⟩, 57), (⟨"SoupNineModel", "store", "([III)V"⟩, 57), (⟨"SoupNineModel", "hand", "(I)Z"⟩, 57), (⟨"SoupNineModel", "of", "(I)I"⟩, 57), (⟨"SoupNineModel", "isStop", "(I)Z"⟩, 57), (⟨"SoupNineModel", "hasEvening", "(I)Z"⟩, 57), (⟨"SoupNineModel", "deeds", "()I"⟩, 57), (⟨"SoupNineModel", "deedOf", "(II)I"⟩, 57), (⟨"SoupNineModel", "layAll", "(II)Z"⟩, 57), (⟨"SoupNineModel", "play", "(I)I"⟩, 57), (⟨"SoupNineModel", "begin", "()V"⟩, 57), (⟨"SoupNineModel", "middle", "(I)I"⟩, 57), (⟨"SoupNineModel", "does", "(II)Z"⟩, 57), (⟨"SoupNineModel", "drivesTo", "(I)Z"⟩, 57), (⟨"SoupNineModel", "drives", "(II)I"⟩, 57)]
theorem lw_r6 : ∀ q ∈ lw_privs_6, lw_okq q := List.forall_mem_cons.mpr ⟨lw_p80, List.forall_mem_cons.mpr ⟨lw_p81, List.forall_mem_cons.mpr ⟨lw_p82, List.forall_mem_cons.mpr ⟨lw_p83, List.forall_mem_cons.mpr ⟨lw_p84, List.forall_mem_cons.mpr ⟨lw_p85, List.forall_mem_cons.mpr ⟨lw_p86, List.forall_mem_cons.mpr ⟨lw_p87, List.forall_mem_cons.mpr ⟨lw_p88, List.forall_mem_cons.mpr ⟨lw_p89, List.forall_mem_cons.mpr ⟨lw_p90, List.forall_mem_cons.mpr ⟨lw_p91, List.forall_mem_cons.mpr ⟨lw_p92, List.forall_mem_cons.mpr ⟨lw_p93, List.forall_mem_cons.mpr ⟨lw_p94, List.forall_mem_cons.mpr ⟨lw_p95, fun _ h => absurd h List.not_mem_nil⟩⟩⟩⟩⟩⟩⟩⟩⟩⟩⟩⟩⟩⟩⟩⟩
theorem lw_p96 : lw_okq (⟨"SoupNineModel", "placeX", "(I)I"⟩, 57) := ⟨⟨by decide +kernel, by decide +kernel⟩, List.mem_of_getElem? (i := 1314) (by decide +kernel), List.mem_of_getElem? (i := 1722) (by decide +kernel), List.mem_of_getElem? (i := 1723) (by decide +kernel)⟩
theorem lw_p97 : lw_okq (⟨"SoupNineModel", "placeY", "(I)I"⟩, 57) := ⟨⟨by decide +kernel, by decide +kernel⟩, List.mem_of_getElem? (i := 1314) (by decide +kernel), List.mem_of_getElem? (i := 1729) (by decide +kernel), List.mem_of_getElem? (i := 1730) (by decide +kernel)⟩
theorem lw_p98 : lw_okq (⟨"SoupNineModel", "takes", "(I)Z"⟩, 57) := ⟨⟨by decide +kernel, by decide +kernel⟩, List.mem_of_getElem? (i := 1314) (by decide +kernel), List.mem_of_getElem? (i := 1733) (by decide +kernel), List.mem_of_getElem? (i := 1734) (by decide +kernel)⟩
theorem lw_p99 : lw_okq (⟨"SoupNineModel", "ladles", "(I)Z"⟩, 57) := ⟨⟨by decide +kernel, by decide +kernel⟩, List.mem_of_getElem? (i := 1314) (by decide +kernel), List.mem_of_getElem? (i := 1737) (by decide +kernel), List.mem_of_getElem? (i := 1738) (by decide +kernel)⟩
theorem lw_p100 : lw_okq (⟨"SoupNineModel", "chats", "()Z"⟩, 57) := ⟨⟨by decide +kernel, by decide +kernel⟩, List.mem_of_getElem? (i := 1314) (by decide +kernel), List.mem_of_getElem? (i := 1747) (by decide +kernel), List.mem_of_getElem? (i := 1748) (by decide +kernel)⟩
theorem lw_p101 : lw_okq (⟨"SoupNineModel", "ofState", "(I)I"⟩, 57) := ⟨⟨by decide +kernel, by decide +kernel⟩, List.mem_of_getElem? (i := 1314) (by decide +kernel), List.mem_of_getElem? (i := 1755) (by decide +kernel), List.mem_of_getElem? (i := 1756) (by decide +kernel)⟩
theorem lw_p102 : lw_okq (⟨"SoupNineModel", "ofEvening", "(I)I"⟩, 57) := ⟨⟨by decide +kernel, by decide +kernel⟩, List.mem_of_getElem? (i := 1314) (by decide +kernel), List.mem_of_getElem? (i := 1759) (by decide +kernel), List.mem_of_getElem? (i := 1760) (by decide +kernel)⟩
theorem lw_p103 : lw_okq (⟨"SoupNineModel", "mayCome", "(II)Z"⟩, 57) := ⟨⟨by decide +kernel, by decide +kernel⟩, List.mem_of_getElem? (i := 1314) (by decide +kernel), List.mem_of_getElem? (i := 1767) (by decide +kernel), List.mem_of_getElem? (i := 1768) (by decide +kernel)⟩
theorem lw_p104 : lw_okq (⟨"SoupNineModel", "findCounts", "()V"⟩, 57) := ⟨⟨by decide +kernel, by decide +kernel⟩, List.mem_of_getElem? (i := 1314) (by decide +kernel), List.mem_of_getElem? (i := 1771) (by decide +kernel), List.mem_of_getElem? (i := 1772) (by decide +kernel)⟩
theorem lw_p105 : lw_okq (⟨"SoupNineModel", "gives", "(III)I"⟩, 57) := ⟨⟨by decide +kernel, by decide +kernel⟩, List.mem_of_getElem? (i := 1314) (by decide +kernel), List.mem_of_getElem? (i := 1775) (by decide +kernel), List.mem_of_getElem? (i := 1776) (by decide +kernel)⟩
theorem lw_p106 : lw_okq (⟨"SoupNineModel", "countsBy", "(IIII)J"⟩, 57) := ⟨⟨by decide +kernel, by decide +kernel⟩, List.mem_of_getElem? (i := 1314) (by decide +kernel), List.mem_of_getElem? (i := 1779) (by decide +kernel), List.mem_of_getElem? (i := 1780) (by decide +kernel)⟩
theorem lw_p107 : lw_okq (⟨"SoupNineModel", "weight", "(I)I"⟩, 57) := ⟨⟨by decide +kernel, by decide +kernel⟩, List.mem_of_getElem? (i := 1314) (by decide +kernel), List.mem_of_getElem? (i := 1783) (by decide +kernel), List.mem_of_getElem? (i := 1784) (by decide +kernel)⟩
theorem lw_p108 : lw_okq (⟨"SoupNineModel", "findWay", "(I)V"⟩, 57) := ⟨⟨by decide +kernel, by decide +kernel⟩, List.mem_of_getElem? (i := 1314) (by decide +kernel), List.mem_of_getElem? (i := 1806) (by decide +kernel), List.mem_of_getElem? (i := 1807) (by decide +kernel)⟩
theorem lw_p109 : lw_okq (⟨"SoupNineModel", "findOn", "(III)V"⟩, 57) := ⟨⟨by decide +kernel, by decide +kernel⟩, List.mem_of_getElem? (i := 1314) (by decide +kernel), List.mem_of_getElem? (i := 1810) (by decide +kernel), List.mem_of_getElem? (i := 1811) (by decide +kernel)⟩
theorem lw_p110 : lw_okq (⟨"SoupNineModel", "peopleOf", "(I)I"⟩, 57) := ⟨⟨by decide +kernel, by decide +kernel⟩, List.mem_of_getElem? (i := 1314) (by decide +kernel), List.mem_of_getElem? (i := 1814) (by decide +kernel), List.mem_of_getElem? (i := 1815) (by decide +kernel)⟩
theorem lw_p111 : lw_okq (⟨"SoupNineModel", "goOn", "(III)V"⟩, 57) := ⟨⟨by decide +kernel, by decide +kernel⟩, List.mem_of_getElem? (i := 1314) (by decide +kernel), List.mem_of_getElem? (i := 1822) (by decide +kernel), List.mem_of_getElem? (i := 1823) (by decide +kernel)⟩
def lw_privs_7 : List (MethodName × Nat) := [(⟨"SoupNineModel", "placeX", "(I)I"⟩, 57), (⟨"SoupNineModel", "placeY", "(I)I"⟩, 57), (⟨"SoupNineModel", "takes", "(I)Z"⟩, 57), (⟨"SoupNineModel", "ladles", "(I)Z"⟩, 57), (⟨"SoupNineModel", "chats", "()Z"⟩, 57), (⟨"SoupNineModel", "ofState", "(I)I"⟩, 57), (⟨"SoupNineModel", "ofEvening", "(I)I"⟩, 57), (⟨"SoupNineModel", "mayCome", "(II)Z"⟩, 57), (⟨"SoupNineModel", "findCounts", "()V"⟩, 57), (⟨"SoupNineModel", "gives", "(III)I"⟩, 57), (⟨"SoupNineModel", "countsBy", "(IIII)J"⟩, 57), (⟨"SoupNineModel", "weight", "(I)I"⟩, 57), (⟨"SoupNineModel", "findWay", "(I)V"⟩, 57), (⟨"SoupNineModel", "findOn", "(III)V"⟩, 57), (⟨"SoupNineModel", "peopleOf", "(I)I"⟩, 57), (⟨"SoupNineModel", "goOn", "(III)V"⟩, 57)]
theorem lw_r7 : ∀ q ∈ lw_privs_7, lw_okq q := List.forall_mem_cons.mpr ⟨lw_p96, List.forall_mem_cons.mpr ⟨lw_p97, List.forall_mem_cons.mpr ⟨lw_p98, List.forall_mem_cons.mpr ⟨lw_p99, List.forall_mem_cons.mpr ⟨lw_p100, List.forall_mem_cons.mpr ⟨lw_p101, List.forall_mem_cons.mpr ⟨lw_p102, List.forall_mem_cons.mpr ⟨lw_p103, List.forall_mem_cons.mpr ⟨lw_p104, List.forall_mem_cons.mpr ⟨lw_p105, List.forall_mem_cons.mpr ⟨lw_p106, List.forall_mem_cons.mpr ⟨lw_p107, List.forall_mem_cons.mpr ⟨lw_p108, List.forall_mem_cons.mpr ⟨lw_p109, List.forall_mem_cons.mpr ⟨lw_p110, List.forall_mem_cons.mpr ⟨lw_p111, fun _ h => absurd h List.not_mem_nil⟩⟩⟩⟩⟩⟩⟩⟩⟩⟩⟩⟩⟩⟩⟩⟩
theorem lw_p112 : lw_okq (⟨"SoupNineModel", "isSought", "(I)Z"⟩, 57) := ⟨⟨by decide +kernel, by decide +kernel⟩, List.mem_of_getElem? (i := 1314) (by decide +kernel), List.mem_of_getElem? (i := 1826) (by decide +kernel), List.mem_of_getElem? (i := 1827) (by decide +kernel)⟩
theorem lw_p113 : lw_okq (⟨"SoupNineModel", "doneThere", "(III)I"⟩, 57) := ⟨⟨by decide +kernel, by decide +kernel⟩, List.mem_of_getElem? (i := 1314) (by decide +kernel), List.mem_of_getElem? (i := 1830) (by decide +kernel), List.mem_of_getElem? (i := 1831) (by decide +kernel)⟩
theorem lw_p114 : lw_okq (⟨"SoupNineModel", "leads", "(IIIIII)Z"⟩, 57) := ⟨⟨by decide +kernel, by decide +kernel⟩, List.mem_of_getElem? (i := 1314) (by decide +kernel), List.mem_of_getElem? (i := 1834) (by decide +kernel), List.mem_of_getElem? (i := 1835) (by decide +kernel)⟩
theorem lw_p115 : lw_okq (⟨"SoupNineModel", "findRounds", "()V"⟩, 57) := ⟨⟨by decide +kernel, by decide +kernel⟩, List.mem_of_getElem? (i := 1314) (by decide +kernel), List.mem_of_getElem? (i := 1842) (by decide +kernel), List.mem_of_getElem? (i := 1843) (by decide +kernel)⟩
theorem lw_p116 : lw_okq (⟨"SoupNineModel", "areWarm", "(II)Z"⟩, 57) := ⟨⟨by decide +kernel, by decide +kernel⟩, List.mem_of_getElem? (i := 1314) (by decide +kernel), List.mem_of_getElem? (i := 1853) (by decide +kernel), List.mem_of_getElem? (i := 1854) (by decide +kernel)⟩
theorem lw_p117 : lw_okq (⟨"SoupNineModel", "hasBook", "(I)Z"⟩, 57) := ⟨⟨by decide +kernel, by decide +kernel⟩, List.mem_of_getElem? (i := 1314) (by decide +kernel), List.mem_of_getElem? (i := 1865) (by decide +kernel), List.mem_of_getElem? (i := 1866) (by decide +kernel)⟩
theorem lw_p118 : lw_okq (⟨"SoupNineModel", "nights", "()I"⟩, 57) := ⟨⟨by decide +kernel, by decide +kernel⟩, List.mem_of_getElem? (i := 1314) (by decide +kernel), List.mem_of_getElem? (i := 1869) (by decide +kernel), List.mem_of_getElem? (i := 1870) (by decide +kernel)⟩
theorem lw_p119 : lw_okq (⟨"SoupNineModel", "nightOf", "(II)I"⟩, 57) := ⟨⟨by decide +kernel, by decide +kernel⟩, List.mem_of_getElem? (i := 1314) (by decide +kernel), List.mem_of_getElem? (i := 1873) (by decide +kernel), List.mem_of_getElem? (i := 1874) (by decide +kernel)⟩
theorem lw_p120 : lw_okq (⟨"SoupNineModel", "heldBy", "(Z)J"⟩, 57) := ⟨⟨by decide +kernel, by decide +kernel⟩, List.mem_of_getElem? (i := 1314) (by decide +kernel), List.mem_of_getElem? (i := 1881) (by decide +kernel), List.mem_of_getElem? (i := 1882) (by decide +kernel)⟩
theorem lw_p121 : lw_okq (⟨"SoupNineModel", "doorway", "()I"⟩, 57) := ⟨⟨by decide +kernel, by decide +kernel⟩, List.mem_of_getElem? (i := 1314) (by decide +kernel), List.mem_of_getElem? (i := 1885) (by decide +kernel), List.mem_of_getElem? (i := 1886) (by decide +kernel)⟩
theorem lw_p122 : lw_okq (⟨"SoupNineModel", "moreFrom", "(I)I"⟩, 57) := ⟨⟨by decide +kernel, by decide +kernel⟩, List.mem_of_getElem? (i := 1314) (by decide +kernel), List.mem_of_getElem? (i := 1889) (by decide +kernel), List.mem_of_getElem? (i := 1890) (by decide +kernel)⟩
theorem lw_p123 : lw_okq (⟨"SoupNineModel", "seenFrom", "(II)I"⟩, 57) := ⟨⟨by decide +kernel, by decide +kernel⟩, List.mem_of_getElem? (i := 1314) (by decide +kernel), List.mem_of_getElem? (i := 1893) (by decide +kernel), List.mem_of_getElem? (i := 1894) (by decide +kernel)⟩
theorem lw_p124 : lw_okq (⟨"SoupNineModel", "enoughOn", "(II)I"⟩, 57) := ⟨⟨by decide +kernel, by decide +kernel⟩, List.mem_of_getElem? (i := 1314) (by decide +kernel), List.mem_of_getElem? (i := 1901) (by decide +kernel), List.mem_of_getElem? (i := 1902) (by decide +kernel)⟩
theorem lw_p125 : lw_okq (⟨"SoupNineModel", "hasList", "(I)Z"⟩, 57) := ⟨⟨by decide +kernel, by decide +kernel⟩, List.mem_of_getElem? (i := 1314) (by decide +kernel), List.mem_of_getElem? (i := 1913) (by decide +kernel), List.mem_of_getElem? (i := 1914) (by decide +kernel)⟩
theorem lw_p126 : lw_okq (⟨"SoupNineModel", "listOf", "(I)I"⟩, 57) := ⟨⟨by decide +kernel, by decide +kernel⟩, List.mem_of_getElem? (i := 1314) (by decide +kernel), List.mem_of_getElem? (i := 1917) (by decide +kernel), List.mem_of_getElem? (i := 1918) (by decide +kernel)⟩
theorem lw_p127 : lw_okq (⟨"SoupNineModel", "findNeeds", "()V"⟩, 57) := ⟨⟨by decide +kernel, by decide +kernel⟩, List.mem_of_getElem? (i := 1314) (by decide +kernel), List.mem_of_getElem? (i := 1925) (by decide +kernel), List.mem_of_getElem? (i := 1926) (by decide +kernel)⟩
def lw_privs_8 : List (MethodName × Nat) := [(⟨"SoupNineModel", "isSought", "(I)Z"⟩, 57), (⟨"SoupNineModel", "doneThere", "(III)I"⟩, 57), (⟨"SoupNineModel", "leads", "(IIIIII)Z"⟩, 57), (⟨"SoupNineModel", "findRounds", "()V"⟩, 57), (⟨"SoupNineModel", "areWarm", "(II)Z"⟩, 57), (⟨"SoupNineModel", "hasBook", "(I)Z"⟩, 57), (⟨"SoupNineModel", "nights", "()I"⟩, 57), (⟨"SoupNineModel", "nightOf", "(II)I"⟩, 57), (⟨"SoupNineModel", "heldBy", "(Z)J"⟩, 57), (⟨"SoupNineModel", "doorway", "()I"⟩, 57), (⟨"SoupNineModel", "moreFrom", "(I)I"⟩, 57), (⟨"SoupNineModel", "seenFrom", "(II)I"⟩, 57), (⟨"SoupNineModel", "enoughOn", "(II)I"⟩, 57), (⟨"SoupNineModel", "hasList", "(I)Z"⟩, 57), (⟨"SoupNineModel", "listOf", "(I)I"⟩, 57), (⟨"SoupNineModel", "findNeeds", "()V"⟩, 57)]
theorem lw_r8 : ∀ q ∈ lw_privs_8, lw_okq q := List.forall_mem_cons.mpr ⟨lw_p112, List.forall_mem_cons.mpr ⟨lw_p113, List.forall_mem_cons.mpr ⟨lw_p114, List.forall_mem_cons.mpr ⟨lw_p115, List.forall_mem_cons.mpr ⟨lw_p116, List.forall_mem_cons.mpr ⟨lw_p117, List.forall_mem_cons.mpr ⟨lw_p118, List.forall_mem_cons.mpr ⟨lw_p119, List.forall_mem_cons.mpr ⟨lw_p120, List.forall_mem_cons.mpr ⟨lw_p121, List.forall_mem_cons.mpr ⟨lw_p122, List.forall_mem_cons.mpr ⟨lw_p123, List.forall_mem_cons.mpr ⟨lw_p124, List.forall_mem_cons.mpr ⟨lw_p125, List.forall_mem_cons.mpr ⟨lw_p126, List.forall_mem_cons.mpr ⟨lw_p127, fun _ h => absurd h List.not_mem_nil⟩⟩⟩⟩⟩⟩⟩⟩⟩⟩⟩⟩⟩⟩⟩⟩
theorem lw_p128 : lw_okq (⟨"SoupNineModel", "isFit", "(II)Z"⟩, 57) := ⟨⟨by decide +kernel, by decide +kernel⟩, List.mem_of_getElem? (i := 1314) (by decide +kernel), List.mem_of_getElem? (i := 1929) (by decide +kernel), List.mem_of_getElem? (i := 1930) (by decide +kernel)⟩
theorem lw_p129 : lw_okq (⟨"SoupNineModel", "shoeOf", "(I)I"⟩, 57) := ⟨⟨by decide +kernel, by decide +kernel⟩, List.mem_of_getElem? (i := 1314) (by decide +kernel), List.mem_of_getElem? (i := 1933) (by decide +kernel), List.mem_of_getElem? (i := 1934) (by decide +kernel)⟩
theorem lw_p130 : lw_okq (⟨"SoupNineModel", "hides", "()I"⟩, 57) := ⟨⟨by decide +kernel, by decide +kernel⟩, List.mem_of_getElem? (i := 1314) (by decide +kernel), List.mem_of_getElem? (i := 1941) (by decide +kernel), List.mem_of_getElem? (i := 1942) (by decide +kernel)⟩
theorem lw_p131 : lw_okq (⟨"SoupNineModel", "odds", "(I)I"⟩, 57) := ⟨⟨by decide +kernel, by decide +kernel⟩, List.mem_of_getElem? (i := 1314) (by decide +kernel), List.mem_of_getElem? (i := 1945) (by decide +kernel), List.mem_of_getElem? (i := 1946) (by decide +kernel)⟩
theorem lw_p132 : lw_okq (⟨"SoupNineModel", "findLooks", "()V"⟩, 57) := ⟨⟨by decide +kernel, by decide +kernel⟩, List.mem_of_getElem? (i := 1314) (by decide +kernel), List.mem_of_getElem? (i := 1949) (by decide +kernel), List.mem_of_getElem? (i := 1950) (by decide +kernel)⟩
theorem lw_p133 : lw_okq (⟨"SoupNineModel", "looksOn", "(III)I"⟩, 57) := ⟨⟨by decide +kernel, by decide +kernel⟩, List.mem_of_getElem? (i := 1314) (by decide +kernel), List.mem_of_getElem? (i := 1953) (by decide +kernel), List.mem_of_getElem? (i := 1954) (by decide +kernel)⟩
theorem lw_p134 : lw_okq (⟨"SoupNineModel", "hideX", "(I)I"⟩, 57) := ⟨⟨by decide +kernel, by decide +kernel⟩, List.mem_of_getElem? (i := 1314) (by decide +kernel), List.mem_of_getElem? (i := 1957) (by decide +kernel), List.mem_of_getElem? (i := 1958) (by decide +kernel)⟩
theorem lw_p135 : lw_okq (⟨"SoupNineModel", "hideY", "(I)I"⟩, 57) := ⟨⟨by decide +kernel, by decide +kernel⟩, List.mem_of_getElem? (i := 1314) (by decide +kernel), List.mem_of_getElem? (i := 1961) (by decide +kernel), List.mem_of_getElem? (i := 1962) (by decide +kernel)⟩
theorem lw_p136 : lw_okq (⟨"SoupNineModel", "hideAt", "(I)I"⟩, 57) := ⟨⟨by decide +kernel, by decide +kernel⟩, List.mem_of_getElem? (i := 1314) (by decide +kernel), List.mem_of_getElem? (i := 1965) (by decide +kernel), List.mem_of_getElem? (i := 1966) (by decide +kernel)⟩
theorem lw_p137 : lw_okq (⟨"SoupNineModel", "drawDeed", "()V"⟩, 57) := ⟨⟨by decide +kernel, by decide +kernel⟩, List.mem_of_getElem? (i := 1314) (by decide +kernel), List.mem_of_getElem? (i := 2005) (by decide +kernel), List.mem_of_getElem? (i := 2006) (by decide +kernel)⟩
theorem lw_p138 : lw_okq (⟨"SoupNineModel", "draw", "(I)I"⟩, 57) := ⟨⟨by decide +kernel, by decide +kernel⟩, List.mem_of_getElem? (i := 1314) (by decide +kernel), List.mem_of_getElem? (i := 2009) (by decide +kernel), List.mem_of_getElem? (i := 2010) (by decide +kernel)⟩
theorem lw_p139 : lw_okq (⟨"SoupNineModel", "drivenFrom", "(II)I"⟩, 57) := ⟨⟨by decide +kernel, by decide +kernel⟩, List.mem_of_getElem? (i := 1314) (by decide +kernel), List.mem_of_getElem? (i := 2022) (by decide +kernel), List.mem_of_getElem? (i := 2023) (by decide +kernel)⟩
theorem lw_p140 : lw_okq (⟨"SoupNineModel", "picks", "(II)V"⟩, 57) := ⟨⟨by decide +kernel, by decide +kernel⟩, List.mem_of_getElem? (i := 1314) (by decide +kernel), List.mem_of_getElem? (i := 2046) (by decide +kernel), List.mem_of_getElem? (i := 2047) (by decide +kernel)⟩
theorem lw_p141 : lw_okq (⟨"SoupNineModel", "copyAll", "(II)V"⟩, 57) := ⟨⟨by decide +kernel, by decide +kernel⟩, List.mem_of_getElem? (i := 1314) (by decide +kernel), List.mem_of_getElem? (i := 2079) (by decide +kernel), List.mem_of_getElem? (i := 2080) (by decide +kernel)⟩
def lw_privs_9 : List (MethodName × Nat) := [(⟨"SoupNineModel", "isFit", "(II)Z"⟩, 57), (⟨"SoupNineModel", "shoeOf", "(I)I"⟩, 57), (⟨"SoupNineModel", "hides", "()I"⟩, 57), (⟨"SoupNineModel", "odds", "(I)I"⟩, 57), (⟨"SoupNineModel", "findLooks", "()V"⟩, 57), (⟨"SoupNineModel", "looksOn", "(III)I"⟩, 57), (⟨"SoupNineModel", "hideX", "(I)I"⟩, 57), (⟨"SoupNineModel", "hideY", "(I)I"⟩, 57), (⟨"SoupNineModel", "hideAt", "(I)I"⟩, 57), (⟨"SoupNineModel", "drawDeed", "()V"⟩, 57), (⟨"SoupNineModel", "draw", "(I)I"⟩, 57), (⟨"SoupNineModel", "drivenFrom", "(II)I"⟩, 57), (⟨"SoupNineModel", "picks", "(II)V"⟩, 57), (⟨"SoupNineModel", "copyAll", "(II)V"⟩, 57)]
theorem lw_r9 : ∀ q ∈ lw_privs_9, lw_okq q := List.forall_mem_cons.mpr ⟨lw_p128, List.forall_mem_cons.mpr ⟨lw_p129, List.forall_mem_cons.mpr ⟨lw_p130, List.forall_mem_cons.mpr ⟨lw_p131, List.forall_mem_cons.mpr ⟨lw_p132, List.forall_mem_cons.mpr ⟨lw_p133, List.forall_mem_cons.mpr ⟨lw_p134, List.forall_mem_cons.mpr ⟨lw_p135, List.forall_mem_cons.mpr ⟨lw_p136, List.forall_mem_cons.mpr ⟨lw_p137, List.forall_mem_cons.mpr ⟨lw_p138, List.forall_mem_cons.mpr ⟨lw_p139, List.forall_mem_cons.mpr ⟨lw_p140, List.forall_mem_cons.mpr ⟨lw_p141, fun _ h => absurd h List.not_mem_nil⟩⟩⟩⟩⟩⟩⟩⟩⟩⟩⟩⟩⟩⟩
def lw_privs : List (MethodName × Nat) := lw_privs_1 ++ (lw_privs_2 ++ (lw_privs_3 ++ (lw_privs_4 ++ (lw_privs_5 ++ (lw_privs_6 ++ (lw_privs_7 ++ (lw_privs_8 ++ (lw_privs_9))))))))
def lw_tbl : List Cond := k2_sels lw_privs ++ tables_1
theorem lw_privs_ok : ∀ q ∈ lw_privs, lw_okq q := by
  show ∀ q ∈ lw_privs_1 ++ (lw_privs_2 ++ (lw_privs_3 ++ (lw_privs_4 ++ (lw_privs_5 ++ (lw_privs_6 ++ (lw_privs_7 ++ (lw_privs_8 ++ (lw_privs_9)))))))), lw_okq q
  exact List.forall_mem_append.mpr ⟨lw_r1, List.forall_mem_append.mpr ⟨lw_r2, List.forall_mem_append.mpr ⟨lw_r3, List.forall_mem_append.mpr ⟨lw_r4, List.forall_mem_append.mpr ⟨lw_r5, List.forall_mem_append.mpr ⟨lw_r6, List.forall_mem_append.mpr ⟨lw_r7, List.forall_mem_append.mpr ⟨lw_r8, lw_r9⟩⟩⟩⟩⟩⟩⟩⟩
def xT0 : u_T := fun k => match k with
  | 0 => ("SoupNine", "now", "LSoupNine$Told;", true)
  | 1 => ("SoupNine", "images", "[LSoupNine$Told;", true)
  | 2 => ("SoupNine", "reader", "LSoupNine$Reader;", true)
  | 3 => ("SoupNine", "walk", "LSoupNine$Walk;", true)
  | 4 => ("SoupNine", "bowls", "LSoupNine$Bowls;", true)
  | 5 => ("SoupNine", "routes", "LSoupNine$Routes;", true)
  | 6 => ("SoupNine", "search", "LSoupNine$Search;", true)
  | _ => ("SoupNine", "lots", "[I", true)
def xT1 : u_T := fun k => match k with
  | 0 => ("SoupNine$Told", "tape", "[B", true)
  | 1 => ("SoupNine$Told", "length", "I", false)
  | 2 => ("SoupNine$Told", "fault", "I", false)
  | 3 => ("SoupNine$Told", "place", "I", false)
  | 4 => ("SoupNine$Told", "counts", "[I", true)
  | 5 => ("SoupNine$Told", "towns", "[LSoupNine$Town;", true)
  | 6 => ("SoupNine$Told", "evenings", "[LSoupNine$Evening;", true)
  | 7 => ("SoupNine$Told", "books", "[LSoupNine$Book;", true)
  | _ => ("SoupNine$Told", "sheets", "[LSoupNine$Sheet;", true)
def xT2 : u_T := fun k => match k with
  | 0 => ("SoupNine$Town", "homeX", "I", false)
  | 1 => ("SoupNine$Town", "homeY", "I", false)
  | 2 => ("SoupNine$Town", "soup", "I", false)
  | 3 => ("SoupNine$Town", "pace", "I", false)
  | 4 => ("SoupNine$Town", "cold", "I", false)
  | 5 => ("SoupNine$Town", "talk", "I", false)
  | 6 => ("SoupNine$Town", "stops", "I", false)
  | 7 => ("SoupNine$Town", "kind", "[I", true)
  | 8 => ("SoupNine$Town", "x", "[I", true)
  | 9 => ("SoupNine$Town", "y", "[I", true)
  | 10 => ("SoupNine$Town", "least", "[I", true)
  | 11 => ("SoupNine$Town", "most", "[I", true)
  | 12 => ("SoupNine$Town", "followers", "[I", true)
  | _ => ("SoupNine$Town", "follow", "[I", true)
def xT3 : u_T := fun k => match k with
  | 0 => ("SoupNine$Evening", "deeds", "I", false)
  | 1 => ("SoupNine$Evening", "kind", "[I", true)
  | _ => ("SoupNine$Evening", "number", "[I", true)
def xT4 : u_T := fun k => match k with
  | 0 => ("SoupNine$Book", "nights", "I", false)
  | 1 => ("SoupNine$Book", "seen", "[I", true)
  | 2 => ("SoupNine$Book", "again", "[I", true)
  | _ => ("SoupNine$Book", "asked", "[I", true)
def xT5 : u_T := fun k => match k with
  | 0 => ("SoupNine$Sheet", "shoes", "I", false)
  | 1 => ("SoupNine$Sheet", "feet", "I", false)
  | 2 => ("SoupNine$Sheet", "hides", "I", false)
  | 3 => ("SoupNine$Sheet", "shoeSize", "[I", true)
  | 4 => ("SoupNine$Sheet", "footSize", "[I", true)
  | 5 => ("SoupNine$Sheet", "need", "[I", true)
  | 6 => ("SoupNine$Sheet", "x", "[I", true)
  | 7 => ("SoupNine$Sheet", "y", "[I", true)
  | _ => ("SoupNine$Sheet", "odds", "[I", true)
def xT6 : u_T := fun k => match k with
  | 0 => ("SoupNine$Reader", "tape", "[B", true)
  | 1 => ("SoupNine$Reader", "length", "I", false)
  | 2 => ("SoupNine$Reader", "at", "I", false)
  | 3 => ("SoupNine$Reader", "kind", "I", false)
  | 4 => ("SoupNine$Reader", "start", "I", false)
  | 5 => ("SoupNine$Reader", "value", "I", false)
  | 6 => ("SoupNine$Reader", "numbers", "[I", true)
  | 7 => ("SoupNine$Reader", "thing", "I", false)
  | 8 => ("SoupNine$Reader", "toldOf", "I", false)
  | 9 => ("SoupNine$Reader", "fault", "I", false)
  | 10 => ("SoupNine$Reader", "place", "I", false)
  | 11 => ("SoupNine$Reader", "town", "LSoupNine$Town;", true)
  | 12 => ("SoupNine$Reader", "evening", "LSoupNine$Evening;", true)
  | 13 => ("SoupNine$Reader", "book", "LSoupNine$Book;", true)
  | _ => ("SoupNine$Reader", "sheet", "LSoupNine$Sheet;", true)
def xT7 : u_T := fun k => match k with
  | 0 => ("SoupNine$Walk", "minute", "I", false)
  | 1 => ("SoupNine$Walk", "at", "I", false)
  | 2 => ("SoupNine$Walk", "aboard", "I", false)
  | 3 => ("SoupNine$Walk", "fed", "I", false)
  | 4 => ("SoupNine$Walk", "warm", "I", false)
  | 5 => ("SoupNine$Walk", "talked", "I", false)
  | 6 => ("SoupNine$Walk", "fedAgain", "I", false)
  | 7 => ("SoupNine$Walk", "seed", "I", false)
  | 8 => ("SoupNine$Walk", "waiting", "[I", true)
  | 9 => ("SoupNine$Walk", "waitingAgain", "[I", true)
  | 10 => ("SoupNine$Walk", "fedAt", "[I", true)
  | _ => ("SoupNine$Walk", "wentOn", "[I", true)
def xT8 : u_T := fun k => match k with
  | 0 => ("SoupNine$Bowls", "of", "LSoupNine$Town;", false)
  | 1 => ("SoupNine$Bowls", "counts", "[J", true)
  | 2 => ("SoupNine$Bowls", "ways", "[J", true)
  | _ => ("SoupNine$Bowls", "sums", "[J", true)
def xT9 : u_T := fun k => match k with
  | 0 => ("SoupNine$Routes", "of", "LSoupNine$Town;", false)
  | 1 => ("SoupNine$Routes", "full", "I", false)
  | 2 => ("SoupNine$Routes", "apart", "[I", true)
  | 3 => ("SoupNine$Routes", "path", "[I", true)
  | 4 => ("SoupNine$Routes", "tour", "[I", true)
  | 5 => ("SoupNine$Routes", "people", "[I", true)
  | 6 => ("SoupNine$Routes", "feeding", "[I", true)
  | 7 => ("SoupNine$Routes", "good", "[I", true)
  | 8 => ("SoupNine$Routes", "roundRow", "[I", true)
  | 9 => ("SoupNine$Routes", "wayRow", "[I", true)
  | 10 => ("SoupNine$Routes", "wayLength", "I", false)
  | 11 => ("SoupNine$Routes", "wayPeople", "I", false)
  | 12 => ("SoupNine$Routes", "wayMinutes", "I", false)
  | _ => ("SoupNine$Routes", "peopled", "I", false)
def xT10 : u_T := fun k => match k with
  | 0 => ("SoupNine$Search", "of", "LSoupNine$Sheet;", false)
  | 1 => ("SoupNine$Search", "need", "[I", true)
  | 2 => ("SoupNine$Search", "shoeRow", "[I", true)
  | 3 => ("SoupNine$Search", "walked", "[I", true)
  | 4 => ("SoupNine$Search", "oddsOf", "[I", true)
  | 5 => ("SoupNine$Search", "hideRow", "[I", true)
  | 6 => ("SoupNine$Search", "oddsInAll", "I", false)
  | _ => ("SoupNine$Search", "walkedInAll", "I", false)
def xT11 : u_T := fun k => match k with
  | 0 => ("SoupNineModel", "code", "I", false)
  | 1 => ("SoupNineModel", "tape", "[B", true)
  | 2 => ("SoupNineModel", "size", "[I", true)
  | 3 => ("SoupNineModel", "fault", "[I", true)
  | 4 => ("SoupNineModel", "faultPlace", "[I", true)
  | 5 => ("SoupNineModel", "many", "[I", true)
  | 6 => ("SoupNineModel", "towns", "[I", true)
  | 7 => ("SoupNineModel", "days", "[I", true)
  | 8 => ("SoupNineModel", "books", "[I", true)
  | 9 => ("SoupNineModel", "lists", "[I", true)
  | 10 => ("SoupNineModel", "reached", "I", false)
  | 11 => ("SoupNineModel", "length", "I", false)
  | 12 => ("SoupNineModel", "begins", "I", false)
  | 13 => ("SoupNineModel", "sort", "I", false)
  | 14 => ("SoupNineModel", "value", "I", false)
  | 15 => ("SoupNineModel", "word", "J", false)
  | 16 => ("SoupNineModel", "wrongAt", "I", false)
  | 17 => ("SoupNineModel", "laterFault", "I", false)
  | 18 => ("SoupNineModel", "laterPlace", "I", false)
  | 19 => ("SoupNineModel", "told", "[I", true)
  | 20 => ("SoupNineModel", "read", "[I", true)
  | 21 => ("SoupNineModel", "farStop", "I", false)
  | 22 => ("SoupNineModel", "good", "Z", false)
  | 23 => ("SoupNineModel", "town", "I", false)
  | 24 => ("SoupNineModel", "stops", "I", false)
  | 25 => ("SoupNineModel", "pace", "I", false)
  | 26 => ("SoupNineModel", "cold", "I", false)
  | 27 => ("SoupNineModel", "evening", "I", false)
  | 28 => ("SoupNineModel", "wait", "[I", true)
  | 29 => ("SoupNineModel", "again", "[I", true)
  | 30 => ("SoupNineModel", "gone", "[I", true)
  | 31 => ("SoupNineModel", "fedAt", "[I", true)
  | 32 => ("SoupNineModel", "minute", "I", false)
  | 33 => ("SoupNineModel", "where", "I", false)
  | 34 => ("SoupNineModel", "bowls", "I", false)
  | 35 => ("SoupNineModel", "fed", "I", false)
  | 36 => ("SoupNineModel", "warm", "I", false)
  | 37 => ("SoupNineModel", "talked", "I", false)
  | 38 => ("SoupNineModel", "fedAgain", "I", false)
  | 39 => ("SoupNineModel", "counts", "[J", true)
  | 40 => ("SoupNineModel", "wholes", "[J", true)
  | 41 => ("SoupNineModel", "doneBy", "[I", true)
  | 42 => ("SoupNineModel", "row", "[I", true)
  | 43 => ("SoupNineModel", "rowLong", "I", false)
  | 44 => ("SoupNineModel", "without", "I", false)
  | 45 => ("SoupNineModel", "mostPeople", "I", false)
  | 46 => ("SoupNineModel", "fewestMinutes", "I", false)
  | 47 => ("SoupNineModel", "toGo", "[I", true)
  | 48 => ("SoupNineModel", "book", "I", false)
  | 49 => ("SoupNineModel", "list", "I", false)
  | 50 => ("SoupNineModel", "needs", "[I", true)
  | 51 => ("SoupNineModel", "looks", "[I", true)
  | 52 => ("SoupNineModel", "seed", "I", false)
  | 53 => ("SoupNineModel", "sums", "[J", true)
  | 54 => ("SoupNineModel", "then", "[J", true)
  | 55 => ("SoupNineModel", "picks", "[J", true)
  | _ => ("SoupNineModel", "kept", "[Z", true)
def xcls : List vw_C := [("SoupNine", xT0, 8), ("SoupNine$Told", xT1, 9), ("SoupNine$Town", xT2, 14), ("SoupNine$Evening", xT3, 3), ("SoupNine$Book", xT4, 4), ("SoupNine$Sheet", xT5, 9), ("SoupNine$Reader", xT6, 15), ("SoupNine$Walk", xT7, 12), ("SoupNine$Bowls", xT8, 4), ("SoupNine$Routes", xT9, 14), ("SoupNine$Search", xT10, 8), ("SoupNineModel", xT11, 57)]
def xfts : List (List Nat) := [[2, 2, 2, 2, 2, 2, 2, 2], [2, 0, 0, 0, 2, 2, 2, 2, 2], [0, 0, 0, 0, 0, 0, 0, 2, 2, 2, 2, 2, 2, 2], [0, 2, 2], [0, 2, 2, 2], [0, 0, 0, 2, 2, 2, 2, 2, 2], [2, 0, 0, 0, 0, 0, 2, 0, 0, 0, 0, 2, 2, 2, 2], [0, 0, 0, 0, 0, 0, 0, 0, 2, 2, 2, 2], [2, 2, 2, 2], [2, 0, 2, 2, 2, 2, 2, 2, 2, 2, 0, 0, 0, 0], [2, 2, 2, 2, 2, 2, 0, 0], [0, 2, 2, 2, 2, 2, 2, 2, 2, 2, 0, 0, 0, 0, 0, 3, 0, 0, 0, 2, 2, 0, 1, 0, 0, 0, 0, 0, 2, 2, 2, 2, 0, 0, 0, 0, 0, 0, 0, 2, 2, 2, 2, 0, 0, 0, 0, 2, 0, 0, 2, 2, 0, 2, 2, 2, 2]]
def xft (t i : Nat) : Nat := (xfts.getD t []).getD i 0
def xnf (t : Nat) : Nat := (xfts.getD t []).length
def xtyl : List (List FieldType) := [[.object "SoupNine$Told", .array (.object "SoupNine$Told"), .object "SoupNine$Reader", .object "SoupNine$Walk", .object "SoupNine$Bowls", .object "SoupNine$Routes", .object "SoupNine$Search", .array .int], [.array .byte, .int, .int, .int, .array .int, .array (.object "SoupNine$Town"), .array (.object "SoupNine$Evening"), .array (.object "SoupNine$Book"), .array (.object "SoupNine$Sheet")], [.int, .int, .int, .int, .int, .int, .int, .array .int, .array .int, .array .int, .array .int, .array .int, .array .int, .array .int], [.int, .array .int, .array .int], [.int, .array .int, .array .int, .array .int], [.int, .int, .int, .array .int, .array .int, .array .int, .array .int, .array .int, .array .int], [.array .byte, .int, .int, .int, .int, .int, .array .int, .int, .int, .int, .int, .object "SoupNine$Town", .object "SoupNine$Evening", .object "SoupNine$Book", .object "SoupNine$Sheet"], [.int, .int, .int, .int, .int, .int, .int, .int, .array .int, .array .int, .array .int, .array .int], [.object "SoupNine$Town", .array .long, .array .long, .array .long], [.object "SoupNine$Town", .int, .array .int, .array .int, .array .int, .array .int, .array .int, .array .int, .array .int, .array .int, .int, .int, .int, .int], [.object "SoupNine$Sheet", .array .int, .array .int, .array .int, .array .int, .array .int, .int, .int], [.int, .array .byte, .array .int, .array .int, .array .int, .array .int, .array .int, .array .int, .array .int, .array .int, .int, .int, .int, .int, .int, .long, .int, .int, .int, .array .int, .array .int, .int, .boolean, .int, .int, .int, .int, .int, .array .int, .array .int, .array .int, .array .int, .int, .int, .int, .int, .int, .int, .int, .array .long, .array .long, .array .int, .array .int, .int, .int, .int, .int, .array .int, .int, .int, .array .int, .array .int, .int, .array .long, .array .long, .array .long, .array .boolean]]
def xtyf (t i : Nat) : FieldType := (xtyl.getD t []).getD i .int
