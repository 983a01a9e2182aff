section
/-- a private method of a class that the tables say can be made, by its rows of tables_1 -/
def lw_okq (q : MethodName × Nat) : Prop := (q.1.cls ≠ "java/lang/invoke/MethodHandle" ∧ q.1.cls ≠ "java/lang/invoke/VarHandle") ∧ Cond.instantiable q.1.cls q.2 ∈ tables_1 ∧ Cond.privateMethod q.1 ∈ tables_1 ∧ Cond.instanceMethod q.1 ∈ tables_1
theorem lw_p0 : lw_okq (⟨"NoWordTwice", "setLimit", "(I)Z"⟩, 11) := ⟨⟨by decide +kernel, by decide +kernel⟩, List.mem_of_getElem? (i := 20) (by decide +kernel), List.mem_of_getElem? (i := 390) (by decide +kernel), List.mem_of_getElem? (i := 391) (by decide +kernel)⟩
theorem lw_p1 : lw_okq (⟨"NoWordTwice", "setChange", "(I)Z"⟩, 11) := ⟨⟨by decide +kernel, by decide +kernel⟩, List.mem_of_getElem? (i := 20) (by decide +kernel), List.mem_of_getElem? (i := 394) (by decide +kernel), List.mem_of_getElem? (i := 395) (by decide +kernel)⟩
theorem lw_p2 : lw_okq (⟨"NoWordTwice", "setKnown", "(II)Z"⟩, 11) := ⟨⟨by decide +kernel, by decide +kernel⟩, List.mem_of_getElem? (i := 20) (by decide +kernel), List.mem_of_getElem? (i := 398) (by decide +kernel), List.mem_of_getElem? (i := 399) (by decide +kernel)⟩
theorem lw_p3 : lw_okq (⟨"NoWordTwice", "setMarks", "(II)Z"⟩, 11) := ⟨⟨by decide +kernel, by decide +kernel⟩, List.mem_of_getElem? (i := 20) (by decide +kernel), List.mem_of_getElem? (i := 406) (by decide +kernel), List.mem_of_getElem? (i := 407) (by decide +kernel)⟩
theorem lw_p4 : lw_okq (⟨"NoWordTwice$Told", "swapEntries", "(II)V"⟩, 14) := ⟨⟨by decide +kernel, by decide +kernel⟩, List.mem_of_getElem? (i := 28) (by decide +kernel), List.mem_of_getElem? (i := 435) (by decide +kernel), List.mem_of_getElem? (i := 436) (by decide +kernel)⟩
theorem lw_p5 : lw_okq (⟨"NoWordTwice", "putBytes", "(I)V"⟩, 11) := ⟨⟨by decide +kernel, by decide +kernel⟩, List.mem_of_getElem? (i := 20) (by decide +kernel), List.mem_of_getElem? (i := 450) (by decide +kernel), List.mem_of_getElem? (i := 451) (by decide +kernel)⟩
theorem lw_p6 : lw_okq (⟨"NoWordTwice$Tokens", "add", "(II)V"⟩, 4) := ⟨⟨by decide +kernel, by decide +kernel⟩, List.mem_of_getElem? (i := 145) (by decide +kernel), List.mem_of_getElem? (i := 555) (by decide +kernel), List.mem_of_getElem? (i := 556) (by decide +kernel)⟩
theorem lw_p7 : lw_okq (⟨"NoWordTwice$LawReader", "readLine", "()Z"⟩, 7) := ⟨⟨by decide +kernel, by decide +kernel⟩, List.mem_of_getElem? (i := 139) (by decide +kernel), List.mem_of_getElem? (i := 562) (by decide +kernel), List.mem_of_getElem? (i := 563) (by decide +kernel)⟩
theorem lw_p8 : lw_okq (⟨"NoWordTwice$LawReader", "fail", "(I)Z"⟩, 7) := ⟨⟨by decide +kernel, by decide +kernel⟩, List.mem_of_getElem? (i := 139) (by decide +kernel), List.mem_of_getElem? (i := 566) (by decide +kernel), List.mem_of_getElem? (i := 567) (by decide +kernel)⟩
theorem lw_p9 : lw_okq (⟨"NoWordTwice$LawReader", "step", "()V"⟩, 7) := ⟨⟨by decide +kernel, by decide +kernel⟩, List.mem_of_getElem? (i := 139) (by decide +kernel), List.mem_of_getElem? (i := 570) (by decide +kernel), List.mem_of_getElem? (i := 571) (by decide +kernel)⟩
theorem lw_p10 : lw_okq (⟨"NoWordTwice$LawReader", "readJoined", "(II)Z"⟩, 7) := ⟨⟨by decide +kernel, by decide +kernel⟩, List.mem_of_getElem? (i := 139) (by decide +kernel), List.mem_of_getElem? (i := 574) (by decide +kernel), List.mem_of_getElem? (i := 575) (by decide +kernel)⟩
theorem lw_p11 : lw_okq (⟨"NoWordTwice$LawReader", "readCondition", "(I)Z"⟩, 7) := ⟨⟨by decide +kernel, by decide +kernel⟩, List.mem_of_getElem? (i := 139) (by decide +kernel), List.mem_of_getElem? (i := 578) (by decide +kernel), List.mem_of_getElem? (i := 579) (by decide +kernel)⟩
theorem lw_p12 : lw_okq (⟨"NoWordTwice$LawReader", "readComparison", "()Z"⟩, 7) := ⟨⟨by decide +kernel, by decide +kernel⟩, List.mem_of_getElem? (i := 139) (by decide +kernel), List.mem_of_getElem? (i := 582) (by decide +kernel), List.mem_of_getElem? (i := 583) (by decide +kernel)⟩
theorem lw_p13 : lw_okq (⟨"NoWordTwice$LawReader", "readSum", "()Z"⟩, 7) := ⟨⟨by decide +kernel, by decide +kernel⟩, List.mem_of_getElem? (i := 139) (by decide +kernel), List.mem_of_getElem? (i := 586) (by decide +kernel), List.mem_of_getElem? (i := 587) (by decide +kernel)⟩
theorem lw_p14 : lw_okq (⟨"NoWordTwice$LawReader", "readUnit", "(I)Z"⟩, 7) := ⟨⟨by decide +kernel, by decide +kernel⟩, List.mem_of_getElem? (i := 139) (by decide +kernel), List.mem_of_getElem? (i := 590) (by decide +kernel), List.mem_of_getElem? (i := 591) (by decide +kernel)⟩
theorem lw_p15 : lw_okq (⟨"NoWordTwice$LawReader", "put", "(I)V"⟩, 7) := ⟨⟨by decide +kernel, by decide +kernel⟩, List.mem_of_getElem? (i := 139) (by decide +kernel), List.mem_of_getElem? (i := 594) (by decide +kernel), List.mem_of_getElem? (i := 595) (by decide +kernel)⟩
def lw_privs_1 : List (MethodName × Nat) := [(⟨"NoWordTwice", "setLimit", "(I)Z"⟩, 11), (⟨"NoWordTwice", "setChange", "(I)Z"⟩, 11), (⟨"NoWordTwice", "setKnown", "(II)Z"⟩, 11), (⟨"NoWordTwice", "setMarks", "(II)Z"⟩, 11), (⟨"NoWordTwice$Told", "swapEntries", "(II)V"⟩, 14), (⟨"NoWordTwice", "putBytes", "(I)V"⟩, 11), (⟨"NoWordTwice$Tokens", "add", "(II)V"⟩, 4), (⟨"NoWordTwice$LawReader", "readLine", "()Z"⟩, 7), (⟨"NoWordTwice$LawReader", "fail", "(I)Z"⟩, 7), (⟨"NoWordTwice$LawReader", "step", "()V"⟩, 7), (⟨"NoWordTwice$LawReader", "readJoined", "(II)Z"⟩, 7), (⟨"NoWordTwice$LawReader", "readCondition", "(I)Z"⟩, 7), (⟨"NoWordTwice$LawReader", "readComparison", "()Z"⟩, 7), (⟨"NoWordTwice$LawReader", "readSum", "()Z"⟩, 7), (⟨"NoWordTwice$LawReader", "readUnit", "(I)Z"⟩, 7), (⟨"NoWordTwice$LawReader", "put", "(I)V"⟩, 7)]
theorem lw_r1 : ∀ q ∈ lw_privs_1, lw_okq q := List.forall_mem_cons.mpr ⟨lw_p0, List.forall_mem_cons.mpr ⟨lw_p1, List.forall_mem_cons.mpr ⟨lw_p2, List.forall_mem_cons.mpr ⟨lw_p3, List.forall_mem_cons.mpr ⟨lw_p4, List.forall_mem_cons.mpr ⟨lw_p5, List.forall_mem_cons.mpr ⟨lw_p6, List.forall_mem_cons.mpr ⟨lw_p7, List.forall_mem_cons.mpr ⟨lw_p8, List.forall_mem_cons.mpr ⟨lw_p9, List.forall_mem_cons.mpr ⟨lw_p10, List.forall_mem_cons.mpr ⟨lw_p11, List.forall_mem_cons.mpr ⟨lw_p12, List.forall_mem_cons.mpr ⟨lw_p13, List.forall_mem_cons.mpr ⟨lw_p14, List.forall_mem_cons.mpr ⟨lw_p15, fun _ h => absurd h List.not_mem_nil⟩⟩⟩⟩⟩⟩⟩⟩⟩⟩⟩⟩⟩⟩⟩⟩
theorem lw_p16 : lw_okq (⟨"NoWordTwice$LawReader", "pass", "(I)Z"⟩, 7) := ⟨⟨by decide +kernel, by decide +kernel⟩, List.mem_of_getElem? (i := 139) (by decide +kernel), List.mem_of_getElem? (i := 598) (by decide +kernel), List.mem_of_getElem? (i := 599) (by decide +kernel)⟩
theorem lw_p17 : lw_okq (⟨"NoWordTwice$Told", "draw", "(I)I"⟩, 14) := ⟨⟨by decide +kernel, by decide +kernel⟩, List.mem_of_getElem? (i := 28) (by decide +kernel), List.mem_of_getElem? (i := 626) (by decide +kernel), List.mem_of_getElem? (i := 627) (by decide +kernel)⟩
theorem lw_p18 : lw_okq (⟨"NoWordTwice$Told", "changeWord", "(I)Z"⟩, 14) := ⟨⟨by decide +kernel, by decide +kernel⟩, List.mem_of_getElem? (i := 28) (by decide +kernel), List.mem_of_getElem? (i := 632) (by decide +kernel), List.mem_of_getElem? (i := 633) (by decide +kernel)⟩
theorem lw_p19 : lw_okq (⟨"NoWordTwice$Told", "writeBook", "(III)V"⟩, 14) := ⟨⟨by decide +kernel, by decide +kernel⟩, List.mem_of_getElem? (i := 28) (by decide +kernel), List.mem_of_getElem? (i := 644) (by decide +kernel), List.mem_of_getElem? (i := 645) (by decide +kernel)⟩
theorem lw_p20 : lw_okq (⟨"NoWordTwice$Told", "otherWordsWithin", "(II)I"⟩, 14) := ⟨⟨by decide +kernel, by decide +kernel⟩, List.mem_of_getElem? (i := 28) (by decide +kernel), List.mem_of_getElem? (i := 686) (by decide +kernel), List.mem_of_getElem? (i := 687) (by decide +kernel)⟩
theorem lw_p21 : lw_okq (⟨"NoWordTwice$Law", "work", "(II)I"⟩, 6) := ⟨⟨by decide +kernel, by decide +kernel⟩, List.mem_of_getElem? (i := 34) (by decide +kernel), List.mem_of_getElem? (i := 694) (by decide +kernel), List.mem_of_getElem? (i := 695) (by decide +kernel)⟩
theorem lw_p22 : lw_okq (⟨"NoWordTwice$Judgement", "passOnEntry", "(LNoWordTwice$Told;II)V"⟩, 3) := ⟨⟨by decide +kernel, by decide +kernel⟩, List.mem_of_getElem? (i := 219) (by decide +kernel), List.mem_of_getElem? (i := 719) (by decide +kernel), List.mem_of_getElem? (i := 720) (by decide +kernel)⟩
theorem lw_p23 : lw_okq (⟨"NoWordTwice$Judgement", "find", "(III)V"⟩, 3) := ⟨⟨by decide +kernel, by decide +kernel⟩, List.mem_of_getElem? (i := 219) (by decide +kernel), List.mem_of_getElem? (i := 723) (by decide +kernel), List.mem_of_getElem? (i := 724) (by decide +kernel)⟩
theorem lw_p24 : lw_okq (⟨"NoWordTwice$Thought", "addRule", "(LNoWordTwice$Told;I)V"⟩, 10) := ⟨⟨by decide +kernel, by decide +kernel⟩, List.mem_of_getElem? (i := 238) (by decide +kernel), List.mem_of_getElem? (i := 744) (by decide +kernel), List.mem_of_getElem? (i := 745) (by decide +kernel)⟩
theorem lw_p25 : lw_okq (⟨"NoWordTwice$Thought", "given", "(I)I"⟩, 10) := ⟨⟨by decide +kernel, by decide +kernel⟩, List.mem_of_getElem? (i := 238) (by decide +kernel), List.mem_of_getElem? (i := 753) (by decide +kernel), List.mem_of_getElem? (i := 754) (by decide +kernel)⟩
theorem lw_p26 : lw_okq (⟨"NoWordTwice$Thought", "firstReady", "(I)I"⟩, 10) := ⟨⟨by decide +kernel, by decide +kernel⟩, List.mem_of_getElem? (i := 238) (by decide +kernel), List.mem_of_getElem? (i := 769) (by decide +kernel), List.mem_of_getElem? (i := 770) (by decide +kernel)⟩
theorem lw_p27 : lw_okq (⟨"NoWordTwice$Thought", "spread", "(I)I"⟩, 10) := ⟨⟨by decide +kernel, by decide +kernel⟩, List.mem_of_getElem? (i := 238) (by decide +kernel), List.mem_of_getElem? (i := 790) (by decide +kernel), List.mem_of_getElem? (i := 791) (by decide +kernel)⟩
theorem lw_p28 : lw_okq (⟨"NoWordTwice$Thought", "pick", "(III)I"⟩, 10) := ⟨⟨by decide +kernel, by decide +kernel⟩, List.mem_of_getElem? (i := 238) (by decide +kernel), List.mem_of_getElem? (i := 794) (by decide +kernel), List.mem_of_getElem? (i := 795) (by decide +kernel)⟩
theorem lw_p29 : lw_okq (⟨"NoWordTwice$Packing", "listSets", "(LNoWordTwice$Told;)V"⟩, 10) := ⟨⟨by decide +kernel, by decide +kernel⟩, List.mem_of_getElem? (i := 298) (by decide +kernel), List.mem_of_getElem? (i := 814) (by decide +kernel), List.mem_of_getElem? (i := 815) (by decide +kernel)⟩
theorem lw_p30 : lw_okq (⟨"NoWordTwice$Packing", "singlesThatFix", "(LNoWordTwice$Told;I)I"⟩, 10) := ⟨⟨by decide +kernel, by decide +kernel⟩, List.mem_of_getElem? (i := 298) (by decide +kernel), List.mem_of_getElem? (i := 818) (by decide +kernel), List.mem_of_getElem? (i := 819) (by decide +kernel)⟩
theorem lw_p31 : lw_okq (⟨"NoWordTwice$Packing", "addSet", "(III)V"⟩, 10) := ⟨⟨by decide +kernel, by decide +kernel⟩, List.mem_of_getElem? (i := 298) (by decide +kernel), List.mem_of_getElem? (i := 824) (by decide +kernel), List.mem_of_getElem? (i := 825) (by decide +kernel)⟩
def lw_privs_2 : List (MethodName × Nat) := [(⟨"NoWordTwice$LawReader", "pass", "(I)Z"⟩, 7), (⟨"NoWordTwice$Told", "draw", "(I)I"⟩, 14), (⟨"NoWordTwice$Told", "changeWord", "(I)Z"⟩, 14), (⟨"NoWordTwice$Told", "writeBook", "(III)V"⟩, 14), (⟨"NoWordTwice$Told", "otherWordsWithin", "(II)I"⟩, 14), (⟨"NoWordTwice$Law", "work", "(II)I"⟩, 6), (⟨"NoWordTwice$Judgement", "passOnEntry", "(LNoWordTwice$Told;II)V"⟩, 3), (⟨"NoWordTwice$Judgement", "find", "(III)V"⟩, 3), (⟨"NoWordTwice$Thought", "addRule", "(LNoWordTwice$Told;I)V"⟩, 10), (⟨"NoWordTwice$Thought", "given", "(I)I"⟩, 10), (⟨"NoWordTwice$Thought", "firstReady", "(I)I"⟩, 10), (⟨"NoWordTwice$Thought", "spread", "(I)I"⟩, 10), (⟨"NoWordTwice$Thought", "pick", "(III)I"⟩, 10), (⟨"NoWordTwice$Packing", "listSets", "(LNoWordTwice$Told;)V"⟩, 10), (⟨"NoWordTwice$Packing", "singlesThatFix", "(LNoWordTwice$Told;I)I"⟩, 10), (⟨"NoWordTwice$Packing", "addSet", "(III)V"⟩, 10)]
theorem lw_r2 : ∀ q ∈ lw_privs_2, lw_okq q := List.forall_mem_cons.mpr ⟨lw_p16, List.forall_mem_cons.mpr ⟨lw_p17, List.forall_mem_cons.mpr ⟨lw_p18, List.forall_mem_cons.mpr ⟨lw_p19, List.forall_mem_cons.mpr ⟨lw_p20, List.forall_mem_cons.mpr ⟨lw_p21, List.forall_mem_cons.mpr ⟨lw_p22, List.forall_mem_cons.mpr ⟨lw_p23, List.forall_mem_cons.mpr ⟨lw_p24, List.forall_mem_cons.mpr ⟨lw_p25, List.forall_mem_cons.mpr ⟨lw_p26, List.forall_mem_cons.mpr ⟨lw_p27, List.forall_mem_cons.mpr ⟨lw_p28, List.forall_mem_cons.mpr ⟨lw_p29, List.forall_mem_cons.mpr ⟨lw_p30, List.forall_mem_cons.mpr ⟨lw_p31, fun _ h => absurd h List.not_mem_nil⟩⟩⟩⟩⟩⟩⟩⟩⟩⟩⟩⟩⟩⟩⟩⟩
theorem lw_p32 : lw_okq (⟨"NoWordTwice$Packing", "forgetFound", "()V"⟩, 10) := ⟨⟨by decide +kernel, by decide +kernel⟩, List.mem_of_getElem? (i := 298) (by decide +kernel), List.mem_of_getElem? (i := 831) (by decide +kernel), List.mem_of_getElem? (i := 832) (by decide +kernel)⟩
theorem lw_p33 : lw_okq (⟨"NoWordTwice$Packing", "mostFrom", "(II)I"⟩, 10) := ⟨⟨by decide +kernel, by decide +kernel⟩, List.mem_of_getElem? (i := 298) (by decide +kernel), List.mem_of_getElem? (i := 835) (by decide +kernel), List.mem_of_getElem? (i := 836) (by decide +kernel)⟩
theorem lw_p34 : lw_okq (⟨"NoWordTwice$Packing", "choose", "(I)V"⟩, 10) := ⟨⟨by decide +kernel, by decide +kernel⟩, List.mem_of_getElem? (i := 298) (by decide +kernel), List.mem_of_getElem? (i := 849) (by decide +kernel), List.mem_of_getElem? (i := 850) (by decide +kernel)⟩
theorem lw_p35 : lw_okq (⟨"NoWordTwice$Packing", "leastSet", "(III)I"⟩, 10) := ⟨⟨by decide +kernel, by decide +kernel⟩, List.mem_of_getElem? (i := 298) (by decide +kernel), List.mem_of_getElem? (i := 853) (by decide +kernel), List.mem_of_getElem? (i := 854) (by decide +kernel)⟩
theorem lw_p36 : lw_okq (⟨"NoWordTwice$Told", "usesElsewhere", "(II)I"⟩, 14) := ⟨⟨by decide +kernel, by decide +kernel⟩, List.mem_of_getElem? (i := 28) (by decide +kernel), List.mem_of_getElem? (i := 865) (by decide +kernel), List.mem_of_getElem? (i := 866) (by decide +kernel)⟩
theorem lw_p37 : lw_okq (⟨"NoWordTwice$Trades", "seekBetween", "(LNoWordTwice$Told;II)V"⟩, 3) := ⟨⟨by decide +kernel, by decide +kernel⟩, List.mem_of_getElem? (i := 280) (by decide +kernel), List.mem_of_getElem? (i := 879) (by decide +kernel), List.mem_of_getElem? (i := 880) (by decide +kernel)⟩
theorem lw_p38 : lw_okq (⟨"NoWordTwice$Trades", "note", "(IIII)V"⟩, 3) := ⟨⟨by decide +kernel, by decide +kernel⟩, List.mem_of_getElem? (i := 280) (by decide +kernel), List.mem_of_getElem? (i := 888) (by decide +kernel), List.mem_of_getElem? (i := 889) (by decide +kernel)⟩
theorem lw_p39 : lw_okq (⟨"NoWordTwiceModel", "forgets", "()V"⟩, 33) := ⟨⟨by decide +kernel, by decide +kernel⟩, List.mem_of_getElem? (i := 918) (by decide +kernel), List.mem_of_getElem? (i := 1030) (by decide +kernel), List.mem_of_getElem? (i := 1031) (by decide +kernel)⟩
theorem lw_p40 : lw_okq (⟨"NoWordTwiceModel", "isWord", "(I)Z"⟩, 33) := ⟨⟨by decide +kernel, by decide +kernel⟩, List.mem_of_getElem? (i := 918) (by decide +kernel), List.mem_of_getElem? (i := 1045) (by decide +kernel), List.mem_of_getElem? (i := 1046) (by decide +kernel)⟩
theorem lw_p41 : lw_okq (⟨"NoWordTwiceModel", "isOther", "(IIII)Z"⟩, 33) := ⟨⟨by decide +kernel, by decide +kernel⟩, List.mem_of_getElem? (i := 918) (by decide +kernel), List.mem_of_getElem? (i := 1053) (by decide +kernel), List.mem_of_getElem? (i := 1054) (by decide +kernel)⟩
theorem lw_p42 : lw_okq (⟨"NoWordTwiceModel", "gives", "(III)V"⟩, 33) := ⟨⟨by decide +kernel, by decide +kernel⟩, List.mem_of_getElem? (i := 918) (by decide +kernel), List.mem_of_getElem? (i := 1057) (by decide +kernel), List.mem_of_getElem? (i := 1058) (by decide +kernel)⟩
theorem lw_p43 : lw_okq (⟨"NoWordTwiceModel", "isEntry", "(I)Z"⟩, 33) := ⟨⟨by decide +kernel, by decide +kernel⟩, List.mem_of_getElem? (i := 918) (by decide +kernel), List.mem_of_getElem? (i := 1065) (by decide +kernel), List.mem_of_getElem? (i := 1066) (by decide +kernel)⟩
theorem lw_p44 : lw_okq (⟨"NoWordTwiceModel", "copies", "(II)V"⟩, 33) := ⟨⟨by decide +kernel, by decide +kernel⟩, List.mem_of_getElem? (i := 918) (by decide +kernel), List.mem_of_getElem? (i := 1069) (by decide +kernel), List.mem_of_getElem? (i := 1070) (by decide +kernel)⟩
theorem lw_p45 : lw_okq (⟨"NoWordTwiceModel", "own", "(II)I"⟩, 33) := ⟨⟨by decide +kernel, by decide +kernel⟩, List.mem_of_getElem? (i := 918) (by decide +kernel), List.mem_of_getElem? (i := 1073) (by decide +kernel), List.mem_of_getElem? (i := 1074) (by decide +kernel)⟩
theorem lw_p46 : lw_okq (⟨"NoWordTwiceModel", "next0", "()V"⟩, 33) := ⟨⟨by decide +kernel, by decide +kernel⟩, List.mem_of_getElem? (i := 918) (by decide +kernel), List.mem_of_getElem? (i := 1093) (by decide +kernel), List.mem_of_getElem? (i := 1094) (by decide +kernel)⟩
theorem lw_p47 : lw_okq (⟨"NoWordTwiceModel", "see", "(I)I"⟩, 33) := ⟨⟨by decide +kernel, by decide +kernel⟩, List.mem_of_getElem? (i := 918) (by decide +kernel), List.mem_of_getElem? (i := 1097) (by decide +kernel), List.mem_of_getElem? (i := 1098) (by decide +kernel)⟩
def lw_privs_3 : List (MethodName × Nat) := [(⟨"NoWordTwice$Packing", "forgetFound", "()V"⟩, 10), (⟨"NoWordTwice$Packing", "mostFrom", "(II)I"⟩, 10), (⟨"NoWordTwice$Packing", "choose", "(I)V"⟩, 10), (⟨"NoWordTwice$Packing", "leastSet", "(III)I"⟩, 10), (⟨"NoWordTwice$Told", "usesElsewhere", "(II)I"⟩, 14), (⟨"NoWordTwice$Trades", "seekBetween", "(LNoWordTwice$Told;II)V"⟩, 3), (⟨"NoWordTwice$Trades", "note", "(IIII)V"⟩, 3), (⟨"NoWordTwiceModel", "forgets", "()V"⟩, 33), (⟨"NoWordTwiceModel", "isWord", "(I)Z"⟩, 33), (⟨"NoWordTwiceModel", "isOther", "(IIII)Z"⟩, 33), (⟨"NoWordTwiceModel", "gives", "(III)V"⟩, 33), (⟨"NoWordTwiceModel", "isEntry", "(I)Z"⟩, 33), (⟨"NoWordTwiceModel", "copies", "(II)V"⟩, 33), (⟨"NoWordTwiceModel", "own", "(II)I"⟩, 33), (⟨"NoWordTwiceModel", "next0", "()V"⟩, 33), (⟨"NoWordTwiceModel", "see", "(I)I"⟩, 33)]
theorem lw_r3 : ∀ q ∈ lw_privs_3, lw_okq q := List.forall_mem_cons.mpr ⟨lw_p32, List.forall_mem_cons.mpr ⟨lw_p33, List.forall_mem_cons.mpr ⟨lw_p34, List.forall_mem_cons.mpr ⟨lw_p35, List.forall_mem_cons.mpr ⟨lw_p36, List.forall_mem_cons.mpr ⟨lw_p37, List.forall_mem_cons.mpr ⟨lw_p38, List.forall_mem_cons.mpr ⟨lw_p39, List.forall_mem_cons.mpr ⟨lw_p40, List.forall_mem_cons.mpr ⟨lw_p41, List.forall_mem_cons.mpr ⟨lw_p42, List.forall_mem_cons.mpr ⟨lw_p43, List.forall_mem_cons.mpr ⟨lw_p44, List.forall_mem_cons.mpr ⟨lw_p45, List.forall_mem_cons.mpr ⟨lw_p46, List.forall_mem_cons.mpr ⟨lw_p47, fun _ h => absurd h List.not_mem_nil⟩⟩⟩⟩⟩⟩⟩⟩⟩⟩⟩⟩⟩⟩⟩⟩
theorem lw_p48 : lw_okq (⟨"NoWordTwiceModel", "keyword", "()I"⟩, 33) := ⟨⟨by decide +kernel, by decide +kernel⟩, List.mem_of_getElem? (i := 918) (by decide +kernel), List.mem_of_getElem? (i := 1104) (by decide +kernel), List.mem_of_getElem? (i := 1105) (by decide +kernel)⟩
theorem lw_p49 : lw_okq (⟨"NoWordTwiceModel", "is", "(Ljava/lang/String;)Z"⟩, 33) := ⟨⟨by decide +kernel, by decide +kernel⟩, List.mem_of_getElem? (i := 918) (by decide +kernel), List.mem_of_getElem? (i := 1109) (by decide +kernel), List.mem_of_getElem? (i := 1110) (by decide +kernel)⟩
theorem lw_p50 : lw_okq (⟨"NoWordTwiceModel", "nameWord", "()I"⟩, 33) := ⟨⟨by decide +kernel, by decide +kernel⟩, List.mem_of_getElem? (i := 918) (by decide +kernel), List.mem_of_getElem? (i := 1120) (by decide +kernel), List.mem_of_getElem? (i := 1121) (by decide +kernel)⟩
theorem lw_p51 : lw_okq (⟨"NoWordTwiceModel", "aLine", "()Z"⟩, 33) := ⟨⟨by decide +kernel, by decide +kernel⟩, List.mem_of_getElem? (i := 918) (by decide +kernel), List.mem_of_getElem? (i := 1133) (by decide +kernel), List.mem_of_getElem? (i := 1134) (by decide +kernel)⟩
theorem lw_p52 : lw_okq (⟨"NoWordTwiceModel", "bad", "(I)Z"⟩, 33) := ⟨⟨by decide +kernel, by decide +kernel⟩, List.mem_of_getElem? (i := 918) (by decide +kernel), List.mem_of_getElem? (i := 1137) (by decide +kernel), List.mem_of_getElem? (i := 1138) (by decide +kernel)⟩
theorem lw_p53 : lw_okq (⟨"NoWordTwiceModel", "any", "()Z"⟩, 33) := ⟨⟨by decide +kernel, by decide +kernel⟩, List.mem_of_getElem? (i := 918) (by decide +kernel), List.mem_of_getElem? (i := 1141) (by decide +kernel), List.mem_of_getElem? (i := 1142) (by decide +kernel)⟩
theorem lw_p54 : lw_okq (⟨"NoWordTwiceModel", "every", "()Z"⟩, 33) := ⟨⟨by decide +kernel, by decide +kernel⟩, List.mem_of_getElem? (i := 918) (by decide +kernel), List.mem_of_getElem? (i := 1145) (by decide +kernel), List.mem_of_getElem? (i := 1146) (by decide +kernel)⟩
theorem lw_p55 : lw_okq (⟨"NoWordTwiceModel", "oneTest", "()Z"⟩, 33) := ⟨⟨by decide +kernel, by decide +kernel⟩, List.mem_of_getElem? (i := 918) (by decide +kernel), List.mem_of_getElem? (i := 1149) (by decide +kernel), List.mem_of_getElem? (i := 1150) (by decide +kernel)⟩
theorem lw_p56 : lw_okq (⟨"NoWordTwiceModel", "opens", "()Z"⟩, 33) := ⟨⟨by decide +kernel, by decide +kernel⟩, List.mem_of_getElem? (i := 918) (by decide +kernel), List.mem_of_getElem? (i := 1153) (by decide +kernel), List.mem_of_getElem? (i := 1154) (by decide +kernel)⟩
theorem lw_p57 : lw_okq (⟨"NoWordTwiceModel", "lay", "(II)V"⟩, 33) := ⟨⟨by decide +kernel, by decide +kernel⟩, List.mem_of_getElem? (i := 918) (by decide +kernel), List.mem_of_getElem? (i := 1157) (by decide +kernel), List.mem_of_getElem? (i := 1158) (by decide +kernel)⟩
theorem lw_p58 : lw_okq (⟨"NoWordTwiceModel", "need", "(I)Z"⟩, 33) := ⟨⟨by decide +kernel, by decide +kernel⟩, List.mem_of_getElem? (i := 918) (by decide +kernel), List.mem_of_getElem? (i := 1161) (by decide +kernel), List.mem_of_getElem? (i := 1162) (by decide +kernel)⟩
theorem lw_p59 : lw_okq (⟨"NoWordTwiceModel", "sumUp", "()Z"⟩, 33) := ⟨⟨by decide +kernel, by decide +kernel⟩, List.mem_of_getElem? (i := 918) (by decide +kernel), List.mem_of_getElem? (i := 1165) (by decide +kernel), List.mem_of_getElem? (i := 1166) (by decide +kernel)⟩
theorem lw_p60 : lw_okq (⟨"NoWordTwiceModel", "product", "()Z"⟩, 33) := ⟨⟨by decide +kernel, by decide +kernel⟩, List.mem_of_getElem? (i := 918) (by decide +kernel), List.mem_of_getElem? (i := 1169) (by decide +kernel), List.mem_of_getElem? (i := 1170) (by decide +kernel)⟩
theorem lw_p61 : lw_okq (⟨"NoWordTwiceModel", "unit", "()Z"⟩, 33) := ⟨⟨by decide +kernel, by decide +kernel⟩, List.mem_of_getElem? (i := 918) (by decide +kernel), List.mem_of_getElem? (i := 1173) (by decide +kernel), List.mem_of_getElem? (i := 1174) (by decide +kernel)⟩
theorem lw_p62 : lw_okq (⟨"NoWordTwiceModel", "isSet", "(I)Z"⟩, 33) := ⟨⟨by decide +kernel, by decide +kernel⟩, List.mem_of_getElem? (i := 918) (by decide +kernel), List.mem_of_getElem? (i := 1185) (by decide +kernel), List.mem_of_getElem? (i := 1186) (by decide +kernel)⟩
theorem lw_p63 : lw_okq (⟨"NoWordTwiceModel", "isFixed", "(II)Z"⟩, 33) := ⟨⟨by decide +kernel, by decide +kernel⟩, List.mem_of_getElem? (i := 918) (by decide +kernel), List.mem_of_getElem? (i := 1189) (by decide +kernel), List.mem_of_getElem? (i := 1190) (by decide +kernel)⟩
def lw_privs_4 : List (MethodName × Nat) := [(⟨"NoWordTwiceModel", "keyword", "()I"⟩, 33), (⟨"NoWordTwiceModel", "is", "(Ljava/lang/String;)Z"⟩, 33), (⟨"NoWordTwiceModel", "nameWord", "()I"⟩, 33), (⟨"NoWordTwiceModel", "aLine", "()Z"⟩, 33), (⟨"NoWordTwiceModel", "bad", "(I)Z"⟩, 33), (⟨"NoWordTwiceModel", "any", "()Z"⟩, 33), (⟨"NoWordTwiceModel", "every", "()Z"⟩, 33), (⟨"NoWordTwiceModel", "oneTest", "()Z"⟩, 33), (⟨"NoWordTwiceModel", "opens", "()Z"⟩, 33), (⟨"NoWordTwiceModel", "lay", "(II)V"⟩, 33), (⟨"NoWordTwiceModel", "need", "(I)Z"⟩, 33), (⟨"NoWordTwiceModel", "sumUp", "()Z"⟩, 33), (⟨"NoWordTwiceModel", "product", "()Z"⟩, 33), (⟨"NoWordTwiceModel", "unit", "()Z"⟩, 33), (⟨"NoWordTwiceModel", "isSet", "(I)Z"⟩, 33), (⟨"NoWordTwiceModel", "isFixed", "(II)Z"⟩, 33)]
theorem lw_r4 : ∀ q ∈ lw_privs_4, lw_okq q := List.forall_mem_cons.mpr ⟨lw_p48, List.forall_mem_cons.mpr ⟨lw_p49, List.forall_mem_cons.mpr ⟨lw_p50, List.forall_mem_cons.mpr ⟨lw_p51, List.forall_mem_cons.mpr ⟨lw_p52, List.forall_mem_cons.mpr ⟨lw_p53, List.forall_mem_cons.mpr ⟨lw_p54, List.forall_mem_cons.mpr ⟨lw_p55, List.forall_mem_cons.mpr ⟨lw_p56, List.forall_mem_cons.mpr ⟨lw_p57, List.forall_mem_cons.mpr ⟨lw_p58, List.forall_mem_cons.mpr ⟨lw_p59, List.forall_mem_cons.mpr ⟨lw_p60, List.forall_mem_cons.mpr ⟨lw_p61, List.forall_mem_cons.mpr ⟨lw_p62, List.forall_mem_cons.mpr ⟨lw_p63, fun _ h => absurd h List.not_mem_nil⟩⟩⟩⟩⟩⟩⟩⟩⟩⟩⟩⟩⟩⟩⟩⟩
theorem lw_p64 : lw_okq (⟨"NoWordTwiceModel", "allMarks", "(I)I"⟩, 33) := ⟨⟨by decide +kernel, by decide +kernel⟩, List.mem_of_getElem? (i := 918) (by decide +kernel), List.mem_of_getElem? (i := 1193) (by decide +kernel), List.mem_of_getElem? (i := 1194) (by decide +kernel)⟩
theorem lw_p65 : lw_okq (⟨"NoWordTwiceModel", "comesTo", "(II)I"⟩, 33) := ⟨⟨by decide +kernel, by decide +kernel⟩, List.mem_of_getElem? (i := 918) (by decide +kernel), List.mem_of_getElem? (i := 1200) (by decide +kernel), List.mem_of_getElem? (i := 1201) (by decide +kernel)⟩
theorem lw_p66 : lw_okq (⟨"NoWordTwiceModel", "keeps", "()V"⟩, 33) := ⟨⟨by decide +kernel, by decide +kernel⟩, List.mem_of_getElem? (i := 918) (by decide +kernel), List.mem_of_getElem? (i := 1215) (by decide +kernel), List.mem_of_getElem? (i := 1216) (by decide +kernel)⟩
theorem lw_p67 : lw_okq (⟨"NoWordTwiceModel", "anEdition", "()I"⟩, 33) := ⟨⟨by decide +kernel, by decide +kernel⟩, List.mem_of_getElem? (i := 918) (by decide +kernel), List.mem_of_getElem? (i := 1219) (by decide +kernel), List.mem_of_getElem? (i := 1220) (by decide +kernel)⟩
theorem lw_p68 : lw_okq (⟨"NoWordTwiceModel", "draw", "(I)I"⟩, 33) := ⟨⟨by decide +kernel, by decide +kernel⟩, List.mem_of_getElem? (i := 918) (by decide +kernel), List.mem_of_getElem? (i := 1223) (by decide +kernel), List.mem_of_getElem? (i := 1224) (by decide +kernel)⟩
theorem lw_p69 : lw_okq (⟨"NoWordTwiceModel", "usedBy", "(I)I"⟩, 33) := ⟨⟨by decide +kernel, by decide +kernel⟩, List.mem_of_getElem? (i := 918) (by decide +kernel), List.mem_of_getElem? (i := 1229) (by decide +kernel), List.mem_of_getElem? (i := 1230) (by decide +kernel)⟩
theorem lw_p70 : lw_okq (⟨"NoWordTwiceModel", "writes", "(III)V"⟩, 33) := ⟨⟨by decide +kernel, by decide +kernel⟩, List.mem_of_getElem? (i := 918) (by decide +kernel), List.mem_of_getElem? (i := 1233) (by decide +kernel), List.mem_of_getElem? (i := 1234) (by decide +kernel)⟩
theorem lw_p71 : lw_okq (⟨"NoWordTwiceModel", "usesAhead", "(II)I"⟩, 33) := ⟨⟨by decide +kernel, by decide +kernel⟩, List.mem_of_getElem? (i := 918) (by decide +kernel), List.mem_of_getElem? (i := 1241) (by decide +kernel), List.mem_of_getElem? (i := 1242) (by decide +kernel)⟩
theorem lw_p72 : lw_okq (⟨"NoWordTwiceModel", "led", "(I)I"⟩, 33) := ⟨⟨by decide +kernel, by decide +kernel⟩, List.mem_of_getElem? (i := 918) (by decide +kernel), List.mem_of_getElem? (i := 1245) (by decide +kernel), List.mem_of_getElem? (i := 1246) (by decide +kernel)⟩
theorem lw_p73 : lw_okq (⟨"NoWordTwiceModel", "isEntryFixed", "(I)Z"⟩, 33) := ⟨⟨by decide +kernel, by decide +kernel⟩, List.mem_of_getElem? (i := 918) (by decide +kernel), List.mem_of_getElem? (i := 1253) (by decide +kernel), List.mem_of_getElem? (i := 1254) (by decide +kernel)⟩
theorem lw_p74 : lw_okq (⟨"NoWordTwiceModel", "faultOf", "(I)I"⟩, 33) := ⟨⟨by decide +kernel, by decide +kernel⟩, List.mem_of_getElem? (i := 918) (by decide +kernel), List.mem_of_getElem? (i := 1261) (by decide +kernel), List.mem_of_getElem? (i := 1262) (by decide +kernel)⟩
theorem lw_p75 : lw_okq (⟨"NoWordTwiceModel", "isHeadAhead", "(II)Z"⟩, 33) := ⟨⟨by decide +kernel, by decide +kernel⟩, List.mem_of_getElem? (i := 918) (by decide +kernel), List.mem_of_getElem? (i := 1265) (by decide +kernel), List.mem_of_getElem? (i := 1266) (by decide +kernel)⟩
theorem lw_p76 : lw_okq (⟨"NoWordTwiceModel", "laysEntries", "()V"⟩, 33) := ⟨⟨by decide +kernel, by decide +kernel⟩, List.mem_of_getElem? (i := 918) (by decide +kernel), List.mem_of_getElem? (i := 1273) (by decide +kernel), List.mem_of_getElem? (i := 1274) (by decide +kernel)⟩
theorem lw_p77 : lw_okq (⟨"NoWordTwiceModel", "learns", "(I)I"⟩, 33) := ⟨⟨by decide +kernel, by decide +kernel⟩, List.mem_of_getElem? (i := 918) (by decide +kernel), List.mem_of_getElem? (i := 1277) (by decide +kernel), List.mem_of_getElem? (i := 1278) (by decide +kernel)⟩
theorem lw_p78 : lw_okq (⟨"NoWordTwiceModel", "heads", "()I"⟩, 33) := ⟨⟨by decide +kernel, by decide +kernel⟩, List.mem_of_getElem? (i := 918) (by decide +kernel), List.mem_of_getElem? (i := 1285) (by decide +kernel), List.mem_of_getElem? (i := 1286) (by decide +kernel)⟩
theorem lw_p79 : lw_okq (⟨"NoWordTwiceModel", "knownSet", "()I"⟩, 33) := ⟨⟨by decide +kernel, by decide +kernel⟩, List.mem_of_getElem? (i := 918) (by decide +kernel), List.mem_of_getElem? (i := 1293) (by decide +kernel), List.mem_of_getElem? (i := 1294) (by decide +kernel)⟩
def lw_privs_5 : List (MethodName × Nat) := [(⟨"NoWordTwiceModel", "allMarks", "(I)I"⟩, 33), (⟨"NoWordTwiceModel", "comesTo", "(II)I"⟩, 33), (⟨"NoWordTwiceModel", "keeps", "()V"⟩, 33), (⟨"NoWordTwiceModel", "anEdition", "()I"⟩, 33), (⟨"NoWordTwiceModel", "draw", "(I)I"⟩, 33), (⟨"NoWordTwiceModel", "usedBy", "(I)I"⟩, 33), (⟨"NoWordTwiceModel", "writes", "(III)V"⟩, 33), (⟨"NoWordTwiceModel", "usesAhead", "(II)I"⟩, 33), (⟨"NoWordTwiceModel", "led", "(I)I"⟩, 33), (⟨"NoWordTwiceModel", "isEntryFixed", "(I)Z"⟩, 33), (⟨"NoWordTwiceModel", "faultOf", "(I)I"⟩, 33), (⟨"NoWordTwiceModel", "isHeadAhead", "(II)Z"⟩, 33), (⟨"NoWordTwiceModel", "laysEntries", "()V"⟩, 33), (⟨"NoWordTwiceModel", "learns", "(I)I"⟩, 33), (⟨"NoWordTwiceModel", "heads", "()I"⟩, 33), (⟨"NoWordTwiceModel", "knownSet", "()I"⟩, 33)]
theorem lw_r5 : ∀ q ∈ lw_privs_5, lw_okq q := List.forall_mem_cons.mpr ⟨lw_p64, List.forall_mem_cons.mpr ⟨lw_p65, List.forall_mem_cons.mpr ⟨lw_p66, List.forall_mem_cons.mpr ⟨lw_p67, List.forall_mem_cons.mpr ⟨lw_p68, List.forall_mem_cons.mpr ⟨lw_p69, List.forall_mem_cons.mpr ⟨lw_p70, List.forall_mem_cons.mpr ⟨lw_p71, List.forall_mem_cons.mpr ⟨lw_p72, List.forall_mem_cons.mpr ⟨lw_p73, List.forall_mem_cons.mpr ⟨lw_p74, List.forall_mem_cons.mpr ⟨lw_p75, List.forall_mem_cons.mpr ⟨lw_p76, List.forall_mem_cons.mpr ⟨lw_p77, List.forall_mem_cons.mpr ⟨lw_p78, List.forall_mem_cons.mpr ⟨lw_p79, fun _ h => absurd h List.not_mem_nil⟩⟩⟩⟩⟩⟩⟩⟩⟩⟩⟩⟩⟩⟩⟩⟩
theorem lw_p80 : lw_okq (⟨"NoWordTwiceModel", "laysOrder", "(I)I"⟩, 33) := ⟨⟨by decide +kernel, by decide +kernel⟩, List.mem_of_getElem? (i := 918) (by decide +kernel), List.mem_of_getElem? (i := 1297) (by decide +kernel), List.mem_of_getElem? (i := 1298) (by decide +kernel)⟩
theorem lw_p81 : lw_okq (⟨"NoWordTwiceModel", "laysMost", "(I)V"⟩, 33) := ⟨⟨by decide +kernel, by decide +kernel⟩, List.mem_of_getElem? (i := 918) (by decide +kernel), List.mem_of_getElem? (i := 1313) (by decide +kernel), List.mem_of_getElem? (i := 1314) (by decide +kernel)⟩
theorem lw_p82 : lw_okq (⟨"NoWordTwiceModel", "bestBy", "(IIII)I"⟩, 33) := ⟨⟨by decide +kernel, by decide +kernel⟩, List.mem_of_getElem? (i := 918) (by decide +kernel), List.mem_of_getElem? (i := 1317) (by decide +kernel), List.mem_of_getElem? (i := 1318) (by decide +kernel)⟩
theorem lw_p83 : lw_okq (⟨"NoWordTwiceModel", "trades", "()I"⟩, 33) := ⟨⟨by decide +kernel, by decide +kernel⟩, List.mem_of_getElem? (i := 918) (by decide +kernel), List.mem_of_getElem? (i := 1332) (by decide +kernel), List.mem_of_getElem? (i := 1333) (by decide +kernel)⟩
theorem lw_p84 : lw_okq (⟨"NoWordTwiceModel", "canTrade", "(IIII)Z"⟩, 33) := ⟨⟨by decide +kernel, by decide +kernel⟩, List.mem_of_getElem? (i := 918) (by decide +kernel), List.mem_of_getElem? (i := 1336) (by decide +kernel), List.mem_of_getElem? (i := 1337) (by decide +kernel)⟩
def lw_privs_6 : List (MethodName × Nat) := [(⟨"NoWordTwiceModel", "laysOrder", "(I)I"⟩, 33), (⟨"NoWordTwiceModel", "laysMost", "(I)V"⟩, 33), (⟨"NoWordTwiceModel", "bestBy", "(IIII)I"⟩, 33), (⟨"NoWordTwiceModel", "trades", "()I"⟩, 33), (⟨"NoWordTwiceModel", "canTrade", "(IIII)Z"⟩, 33)]
theorem lw_r6 : ∀ q ∈ lw_privs_6, lw_okq q := List.forall_mem_cons.mpr ⟨lw_p80, List.forall_mem_cons.mpr ⟨lw_p81, List.forall_mem_cons.mpr ⟨lw_p82, List.forall_mem_cons.mpr ⟨lw_p83, List.forall_mem_cons.mpr ⟨lw_p84, fun _ h => absurd h List.not_mem_nil⟩⟩⟩⟩⟩
def lw_privs : List (MethodName × Nat) := lw_privs_1 ++ (lw_privs_2 ++ (lw_privs_3 ++ (lw_privs_4 ++ (lw_privs_5 ++ (lw_privs_6)))))
def lw_tbl : List Cond := k2_sels lw_privs ++ tables_1
theorem lw_privs_ok : ∀ q ∈ lw_privs, lw_okq q := by
  show ∀ q ∈ lw_privs_1 ++ (lw_privs_2 ++ (lw_privs_3 ++ (lw_privs_4 ++ (lw_privs_5 ++ (lw_privs_6))))), lw_okq q
  exact List.forall_mem_append.mpr ⟨lw_r1, List.forall_mem_append.mpr ⟨lw_r2, List.forall_mem_append.mpr ⟨lw_r3, List.forall_mem_append.mpr ⟨lw_r4, List.forall_mem_append.mpr ⟨lw_r5, lw_r6⟩⟩⟩⟩⟩
end
section
def RX0 : String := "NoWordTwice$Judgement"
def TX0 : u_T := fun k => match k with
  | 0 => ("NoWordTwice$Judgement", "which", "I", false)
  | 1 => ("NoWordTwice$Judgement", "entry", "I", false)
  | _ => ("NoWordTwice$Judgement", "word", "I", false)
def tyX0 : Nat → FieldType := fun k => match k with
  | 0 => .int
  | 1 => .int
  | _ => .int
abbrev wsX00 : List Cond := u_ws RX0 TX0 3
theorem nmX0 : ∀ a, a < 3 → ∀ b, b < 3 → a ≠ b → (TX0 a).2.1 ≠ (TX0 b).2.1 := by decide +kernel
theorem tyX0_ok : ∀ k, k < 3 → parseFieldDescriptor (TX0 k).2.2.1 = some (tyX0 k) := by decide +kernel
abbrev cX0_init : ByteArray := prog_2_method_1_code
def yX0_init : MethodName := ⟨RX0, "<init>", "()V"⟩
abbrev cX0_passOn : ByteArray := prog_2_method_2_code
def yX0_passOn : MethodName := ⟨RX0, "passOn", "(LNoWordTwice$Told;)V"⟩
abbrev cX0_passOnEntry : ByteArray := prog_2_method_3_code
def yX0_passOnEntry : MethodName := ⟨RX0, "passOnEntry", "(LNoWordTwice$Told;II)V"⟩
abbrev cX0_find : ByteArray := prog_2_method_4_code
def yX0_find : MethodName := ⟨RX0, "find", "(III)V"⟩
abbrev cX0_firstSpent : ByteArray := prog_2_method_5_code
def yX0_firstSpent : MethodName := ⟨RX0, "firstSpent", "(LNoWordTwice$Told;I)I"⟩
abbrev cX0_firstOutside : ByteArray := prog_2_method_6_code
def yX0_firstOutside : MethodName := ⟨RX0, "firstOutside", "(LNoWordTwice$Told;II)I"⟩
def RX1 : String := "NoWordTwice$Law"
def TX1 : u_T := fun k => match k with
  | 0 => ("NoWordTwice$Law", "lines", "I", false)
  | 1 => ("NoWordTwice$Law", "fixing", "[I", true)
  | 2 => ("NoWordTwice$Law", "starts", "[I", true)
  | 3 => ("NoWordTwice$Law", "code", "[I", true)
  | 4 => ("NoWordTwice$Law", "values", "[I", true)
  | _ => ("NoWordTwice$Law", "stack", "[I", true)
def tyX1 : Nat → FieldType := fun k => match k with
  | 0 => .int
  | 1 => .array .int
  | 2 => .array .int
  | 3 => .array .int
  | 4 => .array .int
  | _ => .array .int
abbrev wsX10 : List Cond := u_ws RX1 TX1 6
theorem nmX1 : ∀ a, a < 6 → ∀ b, b < 6 → a ≠ b → (TX1 a).2.1 ≠ (TX1 b).2.1 := by decide +kernel
theorem tyX1_ok : ∀ k, k < 6 → parseFieldDescriptor (TX1 k).2.2.1 = some (tyX1 k) := by decide +kernel
abbrev cX1_init : ByteArray := prog_3_method_1_code
def yX1_init : MethodName := ⟨RX1, "<init>", "()V"⟩
abbrev cX1_copyFrom : ByteArray := prog_3_method_2_code
def yX1_copyFrom : MethodName := ⟨RX1, "copyFrom", "(LNoWordTwice$Law;)V"⟩
abbrev cX1_give : ByteArray := prog_3_method_3_code
def yX1_give : MethodName := ⟨RX1, "give", "(II)V"⟩
abbrev cX1_saysFix : ByteArray := prog_3_method_4_code
def yX1_saysFix : MethodName := ⟨RX1, "saysFix", "()Z"⟩
abbrev cX1_work : ByteArray := prog_3_method_5_code
def yX1_work : MethodName := ⟨RX1, "work", "(II)I"⟩
def RX2 : String := "NoWordTwice$LawReader"
def TX2 : u_T := fun k => match k with
  | 0 => ("NoWordTwice$LawReader", "tokens", "LNoWordTwice$Tokens;", true)
  | 1 => ("NoWordTwice$LawReader", "law", "LNoWordTwice$Law;", true)
  | 2 => ("NoWordTwice$LawReader", "at", "I", false)
  | 3 => ("NoWordTwice$LawReader", "kind", "I", false)
  | 4 => ("NoWordTwice$LawReader", "size", "I", false)
  | 5 => ("NoWordTwice$LawReader", "fault", "I", false)
  | _ => ("NoWordTwice$LawReader", "faultPlace", "I", false)
def tyX2 : Nat → FieldType := fun k => match k with
  | 0 => .object "NoWordTwice$Tokens"
  | 1 => .object "NoWordTwice$Law"
  | 2 => .int
  | 3 => .int
  | 4 => .int
  | 5 => .int
  | _ => .int
abbrev wsX20 : List Cond := u_ws RX2 TX2 7
theorem nmX2 : ∀ a, a < 7 → ∀ b, b < 7 → a ≠ b → (TX2 a).2.1 ≠ (TX2 b).2.1 := by decide +kernel
theorem tyX2_ok : ∀ k, k < 7 → parseFieldDescriptor (TX2 k).2.2.1 = some (tyX2 k) := by decide +kernel
abbrev cX2_init : ByteArray := prog_4_method_1_code
def yX2_init : MethodName := ⟨RX2, "<init>", "()V"⟩
abbrev cX2_readLaw : ByteArray := prog_4_method_2_code
def yX2_readLaw : MethodName := ⟨RX2, "readLaw", "([BI)Z"⟩
abbrev cX2_step : ByteArray := prog_4_method_3_code
def yX2_step : MethodName := ⟨RX2, "step", "()V"⟩
abbrev cX2_fail : ByteArray := prog_4_method_4_code
def yX2_fail : MethodName := ⟨RX2, "fail", "(I)Z"⟩
abbrev cX2_pass : ByteArray := prog_4_method_5_code
def yX2_pass : MethodName := ⟨RX2, "pass", "(I)Z"⟩
abbrev cX2_put : ByteArray := prog_4_method_6_code
def yX2_put : MethodName := ⟨RX2, "put", "(I)V"⟩
abbrev cX2_readLine : ByteArray := prog_4_method_7_code
def yX2_readLine : MethodName := ⟨RX2, "readLine", "()Z"⟩
abbrev cX2_readJoined : ByteArray := prog_4_method_8_code
def yX2_readJoined : MethodName := ⟨RX2, "readJoined", "(II)Z"⟩
abbrev cX2_readCondition : ByteArray := prog_4_method_9_code
def yX2_readCondition : MethodName := ⟨RX2, "readCondition", "(I)Z"⟩
abbrev cX2_readComparison : ByteArray := prog_4_method_10_code
def yX2_readComparison : MethodName := ⟨RX2, "readComparison", "()Z"⟩
abbrev cX2_readSum : ByteArray := prog_4_method_11_code
def yX2_readSum : MethodName := ⟨RX2, "readSum", "()Z"⟩
abbrev cX2_readUnit : ByteArray := prog_4_method_12_code
def yX2_readUnit : MethodName := ⟨RX2, "readUnit", "(I)Z"⟩
def RX3 : String := "NoWordTwice$Packing"
def TX3 : u_T := fun k => match k with
  | 0 => ("NoWordTwice$Packing", "told", "I", false)
  | 1 => ("NoWordTwice$Packing", "chosen", "[I", true)
  | 2 => ("NoWordTwice$Packing", "heads", "I", false)
  | 3 => ("NoWordTwice$Packing", "sets", "[I", true)
  | 4 => ("NoWordTwice$Packing", "setCounts", "[I", true)
  | 5 => ("NoWordTwice$Packing", "lean", "[I", true)
  | 6 => ("NoWordTwice$Packing", "leanCounts", "[I", true)
  | 7 => ("NoWordTwice$Packing", "tellable", "[I", true)
  | 8 => ("NoWordTwice$Packing", "found", "[I", true)
  | _ => ("NoWordTwice$Packing", "stamp", "I", false)
def tyX3 : Nat → FieldType := fun k => match k with
  | 0 => .int
  | 1 => .array .int
  | 2 => .int
  | 3 => .array .int
  | 4 => .array .int
  | 5 => .array .int
  | 6 => .array .int
  | 7 => .array .int
  | 8 => .array .int
  | _ => .int
abbrev wsX30 : List Cond := u_ws RX3 TX3 10
theorem nmX3 : ∀ a, a < 10 → ∀ b, b < 10 → a ≠ b → (TX3 a).2.1 ≠ (TX3 b).2.1 := by decide +kernel
theorem tyX3_ok : ∀ k, k < 10 → parseFieldDescriptor (TX3 k).2.2.1 = some (tyX3 k) := by decide +kernel
abbrev cX3_init : ByteArray := prog_5_method_1_code
def yX3_init : MethodName := ⟨RX3, "<init>", "()V"⟩
abbrev cX3_pack : ByteArray := prog_5_method_2_code
def yX3_pack : MethodName := ⟨RX3, "pack", "(LNoWordTwice$Told;I)V"⟩
abbrev cX3_forgetFound : ByteArray := prog_5_method_3_code
def yX3_forgetFound : MethodName := ⟨RX3, "forgetFound", "()V"⟩
abbrev cX3_listSets : ByteArray := prog_5_method_4_code
def yX3_listSets : MethodName := ⟨RX3, "listSets", "(LNoWordTwice$Told;)V"⟩
abbrev cX3_singlesThatFix : ByteArray := prog_5_method_5_code
def yX3_singlesThatFix : MethodName := ⟨RX3, "singlesThatFix", "(LNoWordTwice$Told;I)I"⟩
abbrev cX3_addSet : ByteArray := prog_5_method_6_code
def yX3_addSet : MethodName := ⟨RX3, "addSet", "(III)V"⟩
abbrev cX3_spaced : ByteArray := prog_5_method_7_code
def yX3_spaced : MethodName := ⟨RX3, "spaced", "(I)I"⟩
abbrev cX3_fits : ByteArray := prog_5_method_8_code
def yX3_fits : MethodName := ⟨RX3, "fits", "(II)Z"⟩
abbrev cX3_mostFrom : ByteArray := prog_5_method_9_code
def yX3_mostFrom : MethodName := ⟨RX3, "mostFrom", "(II)I"⟩
abbrev cX3_slotOf : ByteArray := prog_5_method_10_code
def yX3_slotOf : MethodName := ⟨RX3, "slotOf", "(I)I"⟩
abbrev cX3_choose : ByteArray := prog_5_method_11_code
def yX3_choose : MethodName := ⟨RX3, "choose", "(I)V"⟩
abbrev cX3_leastSet : ByteArray := prog_5_method_12_code
def yX3_leastSet : MethodName := ⟨RX3, "leastSet", "(III)I"⟩
def RX4 : String := "NoWordTwice$Past"
def TX4 : u_T := fun k => match k with
  | 0 => ("NoWordTwice$Past", "states", "[I", true)
  | 1 => ("NoWordTwice$Past", "bookLines", "[I", true)
  | 2 => ("NoWordTwice$Past", "used", "[I", true)
  | 3 => ("NoWordTwice$Past", "newest", "I", false)
  | _ => ("NoWordTwice$Past", "kept", "I", false)
def tyX4 : Nat → FieldType := fun k => match k with
  | 0 => .array .int
  | 1 => .array .int
  | 2 => .array .int
  | 3 => .int
  | _ => .int
abbrev wsX40 : List Cond := u_ws RX4 TX4 5
theorem nmX4 : ∀ a, a < 5 → ∀ b, b < 5 → a ≠ b → (TX4 a).2.1 ≠ (TX4 b).2.1 := by decide +kernel
theorem tyX4_ok : ∀ k, k < 5 → parseFieldDescriptor (TX4 k).2.2.1 = some (tyX4 k) := by decide +kernel
abbrev cX4_init : ByteArray := prog_6_method_1_code
def yX4_init : MethodName := ⟨RX4, "<init>", "()V"⟩
abbrev cX4_forget : ByteArray := prog_6_method_2_code
def yX4_forget : MethodName := ⟨RX4, "forget", "()V"⟩
abbrev cX4_keep : ByteArray := prog_6_method_3_code
def yX4_keep : MethodName := ⟨RX4, "keep", "(LNoWordTwice$Told;)V"⟩
abbrev cX4_bringBack : ByteArray := prog_6_method_4_code
def yX4_bringBack : MethodName := ⟨RX4, "bringBack", "(LNoWordTwice$Told;)V"⟩
def RX5 : String := "NoWordTwice$Thought"
def TX5 : u_T := fun k => match k with
  | 0 => ("NoWordTwice$Thought", "needs", "[I", true)
  | 1 => ("NoWordTwice$Thought", "gives", "[I", true)
  | 2 => ("NoWordTwice$Thought", "rules", "I", false)
  | 3 => ("NoWordTwice$Thought", "row", "[I", true)
  | 4 => ("NoWordTwice$Thought", "ordered", "I", false)
  | 5 => ("NoWordTwice$Thought", "left", "I", false)
  | 6 => ("NoWordTwice$Thought", "learntSet", "I", false)
  | 7 => ("NoWordTwice$Thought", "rounds", "I", false)
  | 8 => ("NoWordTwice$Thought", "goal", "I", false)
  | _ => ("NoWordTwice$Thought", "choices", "I", false)
def tyX5 : Nat → FieldType := fun k => match k with
  | 0 => .array .int
  | 1 => .array .int
  | 2 => .int
  | 3 => .array .int
  | 4 => .int
  | 5 => .int
  | 6 => .int
  | 7 => .int
  | 8 => .int
  | _ => .int
abbrev wsX50 : List Cond := u_ws RX5 TX5 10
theorem nmX5 : ∀ a, a < 10 → ∀ b, b < 10 → a ≠ b → (TX5 a).2.1 ≠ (TX5 b).2.1 := by decide +kernel
theorem tyX5_ok : ∀ k, k < 10 → parseFieldDescriptor (TX5 k).2.2.1 = some (tyX5 k) := by decide +kernel
abbrev cX5_init : ByteArray := prog_7_method_1_code
def yX5_init : MethodName := ⟨RX5, "<init>", "()V"⟩
abbrev cX5_takeEntries : ByteArray := prog_7_method_2_code
def yX5_takeEntries : MethodName := ⟨RX5, "takeEntries", "(LNoWordTwice$Told;)V"⟩
abbrev cX5_takeFixedEntries : ByteArray := prog_7_method_3_code
def yX5_takeFixedEntries : MethodName := ⟨RX5, "takeFixedEntries", "(LNoWordTwice$Told;)V"⟩
abbrev cX5_addRule : ByteArray := prog_7_method_4_code
def yX5_addRule : MethodName := ⟨RX5, "addRule", "(LNoWordTwice$Told;I)V"⟩
abbrev cX5_allNeeds : ByteArray := prog_7_method_5_code
def yX5_allNeeds : MethodName := ⟨RX5, "allNeeds", "()I"⟩
abbrev cX5_learnFrom : ByteArray := prog_7_method_6_code
def yX5_learnFrom : MethodName := ⟨RX5, "learnFrom", "(I)V"⟩
abbrev cX5_given : ByteArray := prog_7_method_7_code
def yX5_given : MethodName := ⟨RX5, "given", "(I)I"⟩
abbrev cX5_orderEntries : ByteArray := prog_7_method_8_code
def yX5_orderEntries : MethodName := ⟨RX5, "orderEntries", "(LNoWordTwice$Told;)V"⟩
abbrev cX5_firstReady : ByteArray := prog_7_method_9_code
def yX5_firstReady : MethodName := ⟨RX5, "firstReady", "(I)I"⟩
abbrev cX5_fewest : ByteArray := prog_7_method_10_code
def yX5_fewest : MethodName := ⟨RX5, "fewest", "(II)I"⟩
abbrev cX5_pick : ByteArray := prog_7_method_11_code
def yX5_pick : MethodName := ⟨RX5, "pick", "(III)I"⟩
abbrev cX5_spread : ByteArray := prog_7_method_12_code
def yX5_spread : MethodName := ⟨RX5, "spread", "(I)I"⟩
def RX6 : String := "NoWordTwice$Tokens"
def TX6 : u_T := fun k => match k with
  | 0 => ("NoWordTwice$Tokens", "kinds", "[I", true)
  | 1 => ("NoWordTwice$Tokens", "places", "[I", true)
  | 2 => ("NoWordTwice$Tokens", "numbers", "[I", true)
  | _ => ("NoWordTwice$Tokens", "count", "I", false)
def tyX6 : Nat → FieldType := fun k => match k with
  | 0 => .array .int
  | 1 => .array .int
  | 2 => .array .int
  | _ => .int
abbrev wsX60 : List Cond := u_ws RX6 TX6 4
theorem nmX6 : ∀ a, a < 4 → ∀ b, b < 4 → a ≠ b → (TX6 a).2.1 ≠ (TX6 b).2.1 := by decide +kernel
theorem tyX6_ok : ∀ k, k < 4 → parseFieldDescriptor (TX6 k).2.2.1 = some (tyX6 k) := by decide +kernel
abbrev cX6_init : ByteArray := prog_8_method_1_code
def yX6_init : MethodName := ⟨RX6, "<init>", "()V"⟩
abbrev cX6_split : ByteArray := prog_8_method_2_code
def yX6_split : MethodName := ⟨RX6, "split", "([BI)V"⟩
abbrev cX6_add : ByteArray := prog_8_method_3_code
def yX6_add : MethodName := ⟨RX6, "add", "(II)V"⟩
abbrev cX6_endOfToken : ByteArray := prog_8_method_4_code
def yX6_endOfToken : MethodName := ⟨RX6, "endOfToken", "([BII)I"⟩
abbrev cX6_kindOf : ByteArray := prog_8_method_5_code
def yX6_kindOf : MethodName := ⟨RX6, "kindOf", "([BII)I"⟩
abbrev cX6_numberIn : ByteArray := prog_8_method_6_code
def yX6_numberIn : MethodName := ⟨RX6, "numberIn", "([BII)I"⟩
abbrev cX6_spells : ByteArray := prog_8_method_7_code
def yX6_spells : MethodName := ⟨RX6, "spells", "(Ljava/lang/String;[BII)Z"⟩
abbrev cX6_isBlank : ByteArray := prog_8_method_8_code
def yX6_isBlank : MethodName := ⟨RX6, "isBlank", "(I)Z"⟩
abbrev cX6_isLetter : ByteArray := prog_8_method_9_code
def yX6_isLetter : MethodName := ⟨RX6, "isLetter", "(I)Z"⟩
abbrev cX6_isDigit : ByteArray := prog_8_method_10_code
def yX6_isDigit : MethodName := ⟨RX6, "isDigit", "(I)Z"⟩
abbrev cX6_keyword : ByteArray := prog_8_method_11_code
def yX6_keyword : MethodName := ⟨RX6, "keyword", "(I)Ljava/lang/String;"⟩
abbrev cX6_kindOfSign : ByteArray := prog_8_method_12_code
def yX6_kindOfSign : MethodName := ⟨RX6, "kindOfSign", "(I)I"⟩
def RX7 : String := "NoWordTwice$Told"
def TX7 : u_T := fun k => match k with
  | 0 => ("NoWordTwice$Told", "state", "I", false)
  | 1 => ("NoWordTwice$Told", "limit", "I", false)
  | 2 => ("NoWordTwice$Told", "change", "I", false)
  | 3 => ("NoWordTwice$Told", "edition", "I", false)
  | 4 => ("NoWordTwice$Told", "words", "I", false)
  | 5 => ("NoWordTwice$Told", "marks", "[I", true)
  | 6 => ("NoWordTwice$Told", "known", "I", false)
  | 7 => ("NoWordTwice$Told", "entries", "I", false)
  | 8 => ("NoWordTwice$Told", "heads", "[I", true)
  | 9 => ("NoWordTwice$Told", "counts", "[I", true)
  | 10 => ("NoWordTwice$Told", "used", "[I", true)
  | 11 => ("NoWordTwice$Told", "bookLines", "I", false)
  | 12 => ("NoWordTwice$Told", "book", "[I", true)
  | _ => ("NoWordTwice$Told", "law", "LNoWordTwice$Law;", true)
def tyX7 : Nat → FieldType := fun k => match k with
  | 0 => .int
  | 1 => .int
  | 2 => .int
  | 3 => .int
  | 4 => .int
  | 5 => .array .int
  | 6 => .int
  | 7 => .int
  | 8 => .array .int
  | 9 => .array .int
  | 10 => .array .int
  | 11 => .int
  | 12 => .array .int
  | _ => .object "NoWordTwice$Law"
abbrev wsX70 : List Cond := u_ws RX7 TX7 14
theorem nmX7 : ∀ a, a < 14 → ∀ b, b < 14 → a ≠ b → (TX7 a).2.1 ≠ (TX7 b).2.1 := by decide +kernel
theorem tyX7_ok : ∀ k, k < 14 → parseFieldDescriptor (TX7 k).2.2.1 = some (tyX7 k) := by decide +kernel
abbrev cX7_init : ByteArray := prog_9_method_1_code
def yX7_init : MethodName := ⟨RX7, "<init>", "()V"⟩
abbrev cX7_copyFrom : ByteArray := prog_9_method_2_code
def yX7_copyFrom : MethodName := ⟨RX7, "copyFrom", "(LNoWordTwice$Told;)V"⟩
abbrev cX7_hasWord : ByteArray := prog_9_method_3_code
def yX7_hasWord : MethodName := ⟨RX7, "hasWord", "(I)Z"⟩
abbrev cX7_hasEntry : ByteArray := prog_9_method_4_code
def yX7_hasEntry : MethodName := ⟨RX7, "hasEntry", "(I)Z"⟩
abbrev cX7_hasSet : ByteArray := prog_9_method_5_code
def yX7_hasSet : MethodName := ⟨RX7, "hasSet", "(I)Z"⟩
abbrev cX7_canBeEntry : ByteArray := prog_9_method_6_code
def yX7_canBeEntry : MethodName := ⟨RX7, "canBeEntry", "(IIII)Z"⟩
abbrev cX7_addEntry : ByteArray := prog_9_method_7_code
def yX7_addEntry : MethodName := ⟨RX7, "addEntry", "(IIII)I"⟩
abbrev cX7_moveEntry : ByteArray := prog_9_method_8_code
def yX7_moveEntry : MethodName := ⟨RX7, "moveEntry", "(II)V"⟩
abbrev cX7_swapEntries : ByteArray := prog_9_method_9_code
def yX7_swapEntries : MethodName := ⟨RX7, "swapEntries", "(II)V"⟩
abbrev cX7_swapNumbers : ByteArray := prog_9_method_10_code
def yX7_swapNumbers : MethodName := ⟨RX7, "swapNumbers", "([III)V"⟩
abbrev cX7_usedWord : ByteArray := prog_9_method_11_code
def yX7_usedWord : MethodName := ⟨RX7, "usedWord", "(II)I"⟩
abbrev cX7_usedSet : ByteArray := prog_9_method_12_code
def yX7_usedSet : MethodName := ⟨RX7, "usedSet", "(I)I"⟩
abbrev cX7_uses : ByteArray := prog_9_method_13_code
def yX7_uses : MethodName := ⟨RX7, "uses", "(II)Z"⟩
abbrev cX7_usesAhead : ByteArray := prog_9_method_14_code
def yX7_usesAhead : MethodName := ⟨RX7, "usesAhead", "(II)I"⟩
abbrev cX7_firstUse : ByteArray := prog_9_method_15_code
def yX7_firstUse : MethodName := ⟨RX7, "firstUse", "(I)I"⟩
abbrev cX7_alike : ByteArray := prog_9_method_16_code
def yX7_alike : MethodName := ⟨RX7, "alike", "(I)I"⟩
abbrev cX7_allHeads : ByteArray := prog_9_method_17_code
def yX7_allHeads : MethodName := ⟨RX7, "allHeads", "()I"⟩
abbrev cX7_isFixed : ByteArray := prog_9_method_18_code
def yX7_isFixed : MethodName := ⟨RX7, "isFixed", "(I)Z"⟩
abbrev cX7_fixedBy : ByteArray := prog_9_method_19_code
def yX7_fixedBy : MethodName := ⟨RX7, "fixedBy", "(II)Z"⟩
abbrev cX7_otherWordsWithin : ByteArray := prog_9_method_20_code
def yX7_otherWordsWithin : MethodName := ⟨RX7, "otherWordsWithin", "(II)I"⟩
abbrev cX7_readable : ByteArray := prog_9_method_21_code
def yX7_readable : MethodName := ⟨RX7, "readable", "(II)I"⟩
abbrev cX7_usesElsewhere : ByteArray := prog_9_method_22_code
def yX7_usesElsewhere : MethodName := ⟨RX7, "usesElsewhere", "(II)I"⟩
abbrev cX7_draw : ByteArray := prog_9_method_23_code
def yX7_draw : MethodName := ⟨RX7, "draw", "(I)I"⟩
abbrev cX7_bringOutEdition : ByteArray := prog_9_method_24_code
def yX7_bringOutEdition : MethodName := ⟨RX7, "bringOutEdition", "()I"⟩
abbrev cX7_changeWord : ByteArray := prog_9_method_25_code
def yX7_changeWord : MethodName := ⟨RX7, "changeWord", "(I)Z"⟩
abbrev cX7_writeBook : ByteArray := prog_9_method_26_code
def yX7_writeBook : MethodName := ⟨RX7, "writeBook", "(III)V"⟩
def RX8 : String := "NoWordTwice$Trades"
def TX8 : u_T := fun k => match k with
  | 0 => ("NoWordTwice$Trades", "count", "I", false)
  | 1 => ("NoWordTwice$Trades", "first", "[I", true)
  | _ => ("NoWordTwice$Trades", "fixed", "I", false)
def tyX8 : Nat → FieldType := fun k => match k with
  | 0 => .int
  | 1 => .array .int
  | _ => .int
abbrev wsX80 : List Cond := u_ws RX8 TX8 3
theorem nmX8 : ∀ a, a < 3 → ∀ b, b < 3 → a ≠ b → (TX8 a).2.1 ≠ (TX8 b).2.1 := by decide +kernel
theorem tyX8_ok : ∀ k, k < 3 → parseFieldDescriptor (TX8 k).2.2.1 = some (tyX8 k) := by decide +kernel
abbrev cX8_init : ByteArray := prog_10_method_1_code
def yX8_init : MethodName := ⟨RX8, "<init>", "()V"⟩
abbrev cX8_seek : ByteArray := prog_10_method_2_code
def yX8_seek : MethodName := ⟨RX8, "seek", "(LNoWordTwice$Told;)V"⟩
abbrev cX8_seekBetween : ByteArray := prog_10_method_3_code
def yX8_seekBetween : MethodName := ⟨RX8, "seekBetween", "(LNoWordTwice$Told;II)V"⟩
abbrev cX8_wouldFix : ByteArray := prog_10_method_4_code
def yX8_wouldFix : MethodName := ⟨RX8, "wouldFix", "(LNoWordTwice$Told;III)Z"⟩
abbrev cX8_note : ByteArray := prog_10_method_5_code
def yX8_note : MethodName := ⟨RX8, "note", "(IIII)V"⟩
def RX9 : String := "NoWordTwice"
def TX9 : u_T := fun k => match k with
  | 0 => ("NoWordTwice", "now", "LNoWordTwice$Told;", true)
  | 1 => ("NoWordTwice", "imageHeld", "LNoWordTwice$Told;", true)
  | 2 => ("NoWordTwice", "imageTaken", "Z", false)
  | 3 => ("NoWordTwice", "tape", "[B", true)
  | 4 => ("NoWordTwice", "tapeLength", "I", false)
  | 5 => ("NoWordTwice", "reader", "LNoWordTwice$LawReader;", true)
  | 6 => ("NoWordTwice", "past", "LNoWordTwice$Past;", true)
  | 7 => ("NoWordTwice", "judgement", "LNoWordTwice$Judgement;", true)
  | 8 => ("NoWordTwice", "thought", "LNoWordTwice$Thought;", true)
  | 9 => ("NoWordTwice", "trades", "LNoWordTwice$Trades;", true)
  | _ => ("NoWordTwice", "packing", "LNoWordTwice$Packing;", true)
def tyX9 : Nat → FieldType := fun k => match k with
  | 0 => .object "NoWordTwice$Told"
  | 1 => .object "NoWordTwice$Told"
  | 2 => .boolean
  | 3 => .array .byte
  | 4 => .int
  | 5 => .object "NoWordTwice$LawReader"
  | 6 => .object "NoWordTwice$Past"
  | 7 => .object "NoWordTwice$Judgement"
  | 8 => .object "NoWordTwice$Thought"
  | 9 => .object "NoWordTwice$Trades"
  | _ => .object "NoWordTwice$Packing"
abbrev wsX90 : List Cond := u_ws RX9 TX9 11
theorem nmX9 : ∀ a, a < 11 → ∀ b, b < 11 → a ≠ b → (TX9 a).2.1 ≠ (TX9 b).2.1 := by decide +kernel
theorem tyX9_ok : ∀ k, k < 11 → parseFieldDescriptor (TX9 k).2.2.1 = some (tyX9 k) := by decide +kernel
abbrev cX9_init : ByteArray := prog_1_method_1_code
def yX9_init : MethodName := ⟨RX9, "<init>", "()V"⟩
abbrev cX9_state : ByteArray := prog_1_method_2_code
def yX9_state : MethodName := ⟨RX9, "state", "(I)I"⟩
abbrev cX9_word : ByteArray := prog_1_method_3_code
def yX9_word : MethodName := ⟨RX9, "word", "(I)I"⟩
abbrev cX9_set : ByteArray := prog_1_method_4_code
def yX9_set : MethodName := ⟨RX9, "set", "(III)Z"⟩
abbrev cX9_entry : ByteArray := prog_1_method_5_code
def yX9_entry : MethodName := ⟨RX9, "entry", "(IIII)I"⟩
abbrev cX9_drop : ByteArray := prog_1_method_6_code
def yX9_drop : MethodName := ⟨RX9, "drop", "(I)Z"⟩
abbrev cX9_move : ByteArray := prog_1_method_7_code
def yX9_move : MethodName := ⟨RX9, "move", "(II)Z"⟩
abbrev cX9_feed : ByteArray := prog_1_method_8_code
def yX9_feed : MethodName := ⟨RX9, "feed", "(IIIII)I"⟩
abbrev cX9_end : ByteArray := prog_1_method_9_code
def yX9_end : MethodName := ⟨RX9, "end", "(I)Z"⟩
abbrev cX9_text : ByteArray := prog_1_method_10_code
def yX9_text : MethodName := ⟨RX9, "text", "()I"⟩
abbrev cX9_fault : ByteArray := prog_1_method_11_code
def yX9_fault : MethodName := ⟨RX9, "fault", "(I)I"⟩
abbrev cX9_editions : ByteArray := prog_1_method_12_code
def yX9_editions : MethodName := ⟨RX9, "editions", "(I)I"⟩
abbrev cX9_of : ByteArray := prog_1_method_13_code
def yX9_of : MethodName := ⟨RX9, "of", "(II)I"⟩
abbrev cX9_at : ByteArray := prog_1_method_14_code
def yX9_at : MethodName := ⟨RX9, "at", "(II)I"⟩
abbrev cX9_fixes : ByteArray := prog_1_method_15_code
def yX9_fixes : MethodName := ⟨RX9, "fixes", "(II)I"⟩
abbrev cX9_judge : ByteArray := prog_1_method_16_code
def yX9_judge : MethodName := ⟨RX9, "judge", "(I)I"⟩
abbrev cX9_learnt : ByteArray := prog_1_method_17_code
def yX9_learnt : MethodName := ⟨RX9, "learnt", "(II)I"⟩
abbrev cX9_order : ByteArray := prog_1_method_18_code
def yX9_order : MethodName := ⟨RX9, "order", "(I)I"⟩
abbrev cX9_ring : ByteArray := prog_1_method_19_code
def yX9_ring : MethodName := ⟨RX9, "ring", "()I"⟩
abbrev cX9_cut : ByteArray := prog_1_method_20_code
def yX9_cut : MethodName := ⟨RX9, "cut", "()I"⟩
abbrev cX9_least : ByteArray := prog_1_method_21_code
def yX9_least : MethodName := ⟨RX9, "least", "()I"⟩
abbrev cX9_most : ByteArray := prog_1_method_22_code
def yX9_most : MethodName := ⟨RX9, "most", "(II)I"⟩
abbrev cX9_worn : ByteArray := prog_1_method_23_code
def yX9_worn : MethodName := ⟨RX9, "worn", "(II)I"⟩
abbrev cX9_trade : ByteArray := prog_1_method_24_code
def yX9_trade : MethodName := ⟨RX9, "trade", "(I)I"⟩
abbrev cX9_book : ByteArray := prog_1_method_25_code
def yX9_book : MethodName := ⟨RX9, "book", "(II)I"⟩
abbrev cX9_undo : ByteArray := prog_1_method_26_code
def yX9_undo : MethodName := ⟨RX9, "undo", "()Z"⟩
abbrev cX9_image : ByteArray := prog_1_method_27_code
def yX9_image : MethodName := ⟨RX9, "image", "(Z)Z"⟩
abbrev cX9_look : ByteArray := prog_1_method_28_code
def yX9_look : MethodName := ⟨RX9, "look", "(I)I"⟩
abbrev cX9_canBeMarks : ByteArray := prog_1_method_29_code
def yX9_canBeMarks : MethodName := ⟨RX9, "canBeMarks", "(I)Z"⟩
abbrev cX9_setLimit : ByteArray := prog_1_method_30_code
def yX9_setLimit : MethodName := ⟨RX9, "setLimit", "(I)Z"⟩
abbrev cX9_setChange : ByteArray := prog_1_method_31_code
def yX9_setChange : MethodName := ⟨RX9, "setChange", "(I)Z"⟩
abbrev cX9_setKnown : ByteArray := prog_1_method_32_code
def yX9_setKnown : MethodName := ⟨RX9, "setKnown", "(II)Z"⟩
abbrev cX9_setMarks : ByteArray := prog_1_method_33_code
def yX9_setMarks : MethodName := ⟨RX9, "setMarks", "(II)Z"⟩
abbrev cX9_putBytes : ByteArray := prog_1_method_34_code
def yX9_putBytes : MethodName := ⟨RX9, "putBytes", "(I)V"⟩
def RX10 : String := "NoWordTwiceModel"
def TX10 : u_T := fun k => match k with
  | 0 => ("NoWordTwiceModel", "w", "[I", true)
  | 1 => ("NoWordTwiceModel", "kept", "[I", true)
  | 2 => ("NoWordTwiceModel", "back", "[I", true)
  | 3 => ("NoWordTwiceModel", "backMany", "I", false)
  | 4 => ("NoWordTwiceModel", "hasImage", "Z", false)
  | 5 => ("NoWordTwiceModel", "moving", "[I", true)
  | 6 => ("NoWordTwiceModel", "freshLine", "[I", true)
  | 7 => ("NoWordTwiceModel", "freshStep", "[I", true)
  | 8 => ("NoWordTwiceModel", "tape", "[I", true)
  | 9 => ("NoWordTwiceModel", "pile", "[I", true)
  | 10 => ("NoWordTwiceModel", "facts", "[I", true)
  | 11 => ("NoWordTwiceModel", "lines", "I", false)
  | 12 => ("NoWordTwiceModel", "steps", "I", false)
  | 13 => ("NoWordTwiceModel", "taped", "I", false)
  | 14 => ("NoWordTwiceModel", "at", "I", false)
  | 15 => ("NoWordTwiceModel", "token", "I", false)
  | 16 => ("NoWordTwiceModel", "tokenAt", "I", false)
  | 17 => ("NoWordTwiceModel", "value", "I", false)
  | 18 => ("NoWordTwiceModel", "wrong", "I", false)
  | 19 => ("NoWordTwiceModel", "wrongAt", "I", false)
  | 20 => ("NoWordTwiceModel", "faultKind", "I", false)
  | 21 => ("NoWordTwiceModel", "depth", "I", false)
  | 22 => ("NoWordTwiceModel", "faultPlace", "I", false)
  | 23 => ("NoWordTwiceModel", "wrongWord", "I", false)
  | 24 => ("NoWordTwiceModel", "uses", "[I", true)
  | 25 => ("NoWordTwiceModel", "fixed", "[Z", true)
  | 26 => ("NoWordTwiceModel", "rounds", "I", false)
  | 27 => ("NoWordTwiceModel", "row", "[I", true)
  | 28 => ("NoWordTwiceModel", "rowMany", "I", false)
  | 29 => ("NoWordTwiceModel", "told", "[I", true)
  | 30 => ("NoWordTwiceModel", "chosen", "[I", true)
  | 31 => ("NoWordTwiceModel", "good", "[Z", true)
  | _ => ("NoWordTwiceModel", "traded", "[I", true)
def tyX10 : Nat → FieldType := fun k => match k with
  | 0 => .array .int
  | 1 => .array .int
  | 2 => .array .int
  | 3 => .int
  | 4 => .boolean
  | 5 => .array .int
  | 6 => .array .int
  | 7 => .array .int
  | 8 => .array .int
  | 9 => .array .int
  | 10 => .array .int
  | 11 => .int
  | 12 => .int
  | 13 => .int
  | 14 => .int
  | 15 => .int
  | 16 => .int
  | 17 => .int
  | 18 => .int
  | 19 => .int
  | 20 => .int
  | 21 => .int
  | 22 => .int
  | 23 => .int
  | 24 => .array .int
  | 25 => .array .boolean
  | 26 => .int
  | 27 => .array .int
  | 28 => .int
  | 29 => .array .int
  | 30 => .array .int
  | 31 => .array .boolean
  | _ => .array .int
abbrev wsX100 : List Cond := u_ws RX10 TX10 33
theorem nmX10 : ∀ a, a < 33 → ∀ b, b < 33 → a ≠ b → (TX10 a).2.1 ≠ (TX10 b).2.1 := by decide +kernel
theorem tyX10_ok : ∀ k, k < 33 → parseFieldDescriptor (TX10 k).2.2.1 = some (tyX10 k) := by decide +kernel
abbrev cX10_init : ByteArray := prog_12_method_1_code
def yX10_init : MethodName := ⟨RX10, "<init>", "()V"⟩
abbrev cX10_isIn : ByteArray := prog_12_method_2_code
def yX10_isIn : MethodName := ⟨RX10, "isIn", "(III)Z"⟩
abbrev cX10_isWord : ByteArray := prog_12_method_3_code
def yX10_isWord : MethodName := ⟨RX10, "isWord", "(I)Z"⟩
abbrev cX10_isEntry : ByteArray := prog_12_method_4_code
def yX10_isEntry : MethodName := ⟨RX10, "isEntry", "(I)Z"⟩
abbrev cX10_isSet : ByteArray := prog_12_method_5_code
def yX10_isSet : MethodName := ⟨RX10, "isSet", "(I)Z"⟩
abbrev cX10_own : ByteArray := prog_12_method_6_code
def yX10_own : MethodName := ⟨RX10, "own", "(II)I"⟩
abbrev cX10_gives : ByteArray := prog_12_method_7_code
def yX10_gives : MethodName := ⟨RX10, "gives", "(III)V"⟩
abbrev cX10_count : ByteArray := prog_12_method_8_code
def yX10_count : MethodName := ⟨RX10, "count", "(I)I"⟩
abbrev cX10_forgets : ByteArray := prog_12_method_9_code
def yX10_forgets : MethodName := ⟨RX10, "forgets", "()V"⟩
abbrev cX10_state : ByteArray := prog_12_method_10_code
def yX10_state : MethodName := ⟨RX10, "state", "(I)I"⟩
abbrev cX10_draw : ByteArray := prog_12_method_11_code
def yX10_draw : MethodName := ⟨RX10, "draw", "(I)I"⟩
abbrev cX10_word : ByteArray := prog_12_method_12_code
def yX10_word : MethodName := ⟨RX10, "word", "(I)I"⟩
abbrev cX10_set : ByteArray := prog_12_method_13_code
def yX10_set : MethodName := ⟨RX10, "set", "(III)Z"⟩
abbrev cX10_isOther : ByteArray := prog_12_method_14_code
def yX10_isOther : MethodName := ⟨RX10, "isOther", "(IIII)Z"⟩
abbrev cX10_entry : ByteArray := prog_12_method_15_code
def yX10_entry : MethodName := ⟨RX10, "entry", "(IIII)I"⟩
abbrev cX10_copies : ByteArray := prog_12_method_16_code
def yX10_copies : MethodName := ⟨RX10, "copies", "(II)V"⟩
abbrev cX10_drop : ByteArray := prog_12_method_17_code
def yX10_drop : MethodName := ⟨RX10, "drop", "(I)Z"⟩
abbrev cX10_move : ByteArray := prog_12_method_18_code
def yX10_move : MethodName := ⟨RX10, "move", "(II)Z"⟩
abbrev cX10_feed : ByteArray := prog_12_method_19_code
def yX10_feed : MethodName := ⟨RX10, "feed", "(IIIII)I"⟩
abbrev cX10_end : ByteArray := prog_12_method_20_code
def yX10_end : MethodName := ⟨RX10, "end", "(I)Z"⟩
abbrev cX10_see : ByteArray := prog_12_method_21_code
def yX10_see : MethodName := ⟨RX10, "see", "(I)I"⟩
abbrev cX10_isLetter : ByteArray := prog_12_method_22_code
def yX10_isLetter : MethodName := ⟨RX10, "isLetter", "(I)Z"⟩
abbrev cX10_isDigit : ByteArray := prog_12_method_23_code
def yX10_isDigit : MethodName := ⟨RX10, "isDigit", "(I)Z"⟩
abbrev cX10_is : ByteArray := prog_12_method_24_code
def yX10_is : MethodName := ⟨RX10, "is", "(Ljava/lang/String;)Z"⟩
abbrev cX10_nameWord : ByteArray := prog_12_method_25_code
def yX10_nameWord : MethodName := ⟨RX10, "nameWord", "()I"⟩
abbrev cX10_keyword : ByteArray := prog_12_method_26_code
def yX10_keyword : MethodName := ⟨RX10, "keyword", "()I"⟩
abbrev cX10_next0 : ByteArray := prog_12_method_27_code
def yX10_next0 : MethodName := ⟨RX10, "next0", "()V"⟩
abbrev cX10_bad : ByteArray := prog_12_method_28_code
def yX10_bad : MethodName := ⟨RX10, "bad", "(I)Z"⟩
abbrev cX10_need : ByteArray := prog_12_method_29_code
def yX10_need : MethodName := ⟨RX10, "need", "(I)Z"⟩
abbrev cX10_lay : ByteArray := prog_12_method_30_code
def yX10_lay : MethodName := ⟨RX10, "lay", "(II)V"⟩
abbrev cX10_opens : ByteArray := prog_12_method_31_code
def yX10_opens : MethodName := ⟨RX10, "opens", "()Z"⟩
abbrev cX10_sumUp : ByteArray := prog_12_method_32_code
def yX10_sumUp : MethodName := ⟨RX10, "sumUp", "()Z"⟩
abbrev cX10_product : ByteArray := prog_12_method_33_code
def yX10_product : MethodName := ⟨RX10, "product", "()Z"⟩
abbrev cX10_unit : ByteArray := prog_12_method_34_code
def yX10_unit : MethodName := ⟨RX10, "unit", "()Z"⟩
abbrev cX10_any : ByteArray := prog_12_method_35_code
def yX10_any : MethodName := ⟨RX10, "any", "()Z"⟩
abbrev cX10_every : ByteArray := prog_12_method_36_code
def yX10_every : MethodName := ⟨RX10, "every", "()Z"⟩
abbrev cX10_oneTest : ByteArray := prog_12_method_37_code
def yX10_oneTest : MethodName := ⟨RX10, "oneTest", "()Z"⟩
abbrev cX10_aLine : ByteArray := prog_12_method_38_code
def yX10_aLine : MethodName := ⟨RX10, "aLine", "()Z"⟩
abbrev cX10_text : ByteArray := prog_12_method_39_code
def yX10_text : MethodName := ⟨RX10, "text", "()I"⟩
abbrev cX10_fault : ByteArray := prog_12_method_40_code
def yX10_fault : MethodName := ⟨RX10, "fault", "(I)I"⟩
abbrev cX10_both : ByteArray := prog_12_method_41_code
def yX10_both : MethodName := ⟨RX10, "both", "(III)I"⟩
abbrev cX10_comesTo : ByteArray := prog_12_method_42_code
def yX10_comesTo : MethodName := ⟨RX10, "comesTo", "(II)I"⟩
abbrev cX10_allMarks : ByteArray := prog_12_method_43_code
def yX10_allMarks : MethodName := ⟨RX10, "allMarks", "(I)I"⟩
abbrev cX10_isFixed : ByteArray := prog_12_method_44_code
def yX10_isFixed : MethodName := ⟨RX10, "isFixed", "(II)Z"⟩
abbrev cX10_usedBy : ByteArray := prog_12_method_45_code
def yX10_usedBy : MethodName := ⟨RX10, "usedBy", "(I)I"⟩
abbrev cX10_isEntryFixed : ByteArray := prog_12_method_46_code
def yX10_isEntryFixed : MethodName := ⟨RX10, "isEntryFixed", "(I)Z"⟩
abbrev cX10_usesAhead : ByteArray := prog_12_method_47_code
def yX10_usesAhead : MethodName := ⟨RX10, "usesAhead", "(II)I"⟩
abbrev cX10_fixes : ByteArray := prog_12_method_48_code
def yX10_fixes : MethodName := ⟨RX10, "fixes", "(II)I"⟩
abbrev cX10_keeps : ByteArray := prog_12_method_49_code
def yX10_keeps : MethodName := ⟨RX10, "keeps", "()V"⟩
abbrev cX10_undo : ByteArray := prog_12_method_50_code
def yX10_undo : MethodName := ⟨RX10, "undo", "()Z"⟩
abbrev cX10_writes : ByteArray := prog_12_method_51_code
def yX10_writes : MethodName := ⟨RX10, "writes", "(III)V"⟩
abbrev cX10_anEdition : ByteArray := prog_12_method_52_code
def yX10_anEdition : MethodName := ⟨RX10, "anEdition", "()I"⟩
abbrev cX10_editions : ByteArray := prog_12_method_53_code
def yX10_editions : MethodName := ⟨RX10, "editions", "(I)I"⟩
abbrev cX10_led : ByteArray := prog_12_method_54_code
def yX10_led : MethodName := ⟨RX10, "led", "(I)I"⟩
abbrev cX10_of : ByteArray := prog_12_method_55_code
def yX10_of : MethodName := ⟨RX10, "of", "(II)I"⟩
abbrev cX10_at : ByteArray := prog_12_method_56_code
def yX10_at : MethodName := ⟨RX10, "at", "(II)I"⟩
abbrev cX10_isHeadAhead : ByteArray := prog_12_method_57_code
def yX10_isHeadAhead : MethodName := ⟨RX10, "isHeadAhead", "(II)Z"⟩
abbrev cX10_faultOf : ByteArray := prog_12_method_58_code
def yX10_faultOf : MethodName := ⟨RX10, "faultOf", "(I)I"⟩
abbrev cX10_judge : ByteArray := prog_12_method_59_code
def yX10_judge : MethodName := ⟨RX10, "judge", "(I)I"⟩
abbrev cX10_laysEntries : ByteArray := prog_12_method_60_code
def yX10_laysEntries : MethodName := ⟨RX10, "laysEntries", "()V"⟩
abbrev cX10_learns : ByteArray := prog_12_method_61_code
def yX10_learns : MethodName := ⟨RX10, "learns", "(I)I"⟩
abbrev cX10_learnt : ByteArray := prog_12_method_62_code
def yX10_learnt : MethodName := ⟨RX10, "learnt", "(II)I"⟩
abbrev cX10_heads : ByteArray := prog_12_method_63_code
def yX10_heads : MethodName := ⟨RX10, "heads", "()I"⟩
abbrev cX10_least : ByteArray := prog_12_method_64_code
def yX10_least : MethodName := ⟨RX10, "least", "()I"⟩
abbrev cX10_knownSet : ByteArray := prog_12_method_65_code
def yX10_knownSet : MethodName := ⟨RX10, "knownSet", "()I"⟩
abbrev cX10_laysOrder : ByteArray := prog_12_method_66_code
def yX10_laysOrder : MethodName := ⟨RX10, "laysOrder", "(I)I"⟩
abbrev cX10_order : ByteArray := prog_12_method_67_code
def yX10_order : MethodName := ⟨RX10, "order", "(I)I"⟩
abbrev cX10_ring : ByteArray := prog_12_method_68_code
def yX10_ring : MethodName := ⟨RX10, "ring", "()I"⟩
abbrev cX10_cut : ByteArray := prog_12_method_69_code
def yX10_cut : MethodName := ⟨RX10, "cut", "()I"⟩
abbrev cX10_takes : ByteArray := prog_12_method_70_code
def yX10_takes : MethodName := ⟨RX10, "takes", "(III)I"⟩
abbrev cX10_bestBy : ByteArray := prog_12_method_71_code
def yX10_bestBy : MethodName := ⟨RX10, "bestBy", "(IIII)I"⟩
abbrev cX10_laysMost : ByteArray := prog_12_method_72_code
def yX10_laysMost : MethodName := ⟨RX10, "laysMost", "(I)V"⟩
abbrev cX10_most : ByteArray := prog_12_method_73_code
def yX10_most : MethodName := ⟨RX10, "most", "(II)I"⟩
abbrev cX10_worn : ByteArray := prog_12_method_74_code
def yX10_worn : MethodName := ⟨RX10, "worn", "(II)I"⟩
abbrev cX10_canTrade : ByteArray := prog_12_method_75_code
def yX10_canTrade : MethodName := ⟨RX10, "canTrade", "(IIII)Z"⟩
abbrev cX10_trades : ByteArray := prog_12_method_76_code
def yX10_trades : MethodName := ⟨RX10, "trades", "()I"⟩
abbrev cX10_trade : ByteArray := prog_12_method_77_code
def yX10_trade : MethodName := ⟨RX10, "trade", "(I)I"⟩
abbrev cX10_book : ByteArray := prog_12_method_78_code
def yX10_book : MethodName := ⟨RX10, "book", "(II)I"⟩
abbrev cX10_image : ByteArray := prog_12_method_79_code
def yX10_image : MethodName := ⟨RX10, "image", "(Z)Z"⟩
abbrev cX10_look : ByteArray := prog_12_method_80_code
def yX10_look : MethodName := ⟨RX10, "look", "(I)I"⟩
def RJ6 : String := "java/lang/Integer"
def TJ6 : u_T := fun k => match k with
  | _ => ("", "", "", false)
def tyJ6 : Nat → FieldType := fun k => match k with
  | _ => .int
abbrev wsJ60 : List Cond := u_ws RJ6 TJ6 0
theorem nmJ6 : ∀ a, a < 0 → ∀ b, b < 0 → a ≠ b → (TJ6 a).2.1 ≠ (TJ6 b).2.1 := by decide +kernel
theorem tyJ6_ok : ∀ k, k < 0 → parseFieldDescriptor (TJ6 k).2.2.1 = some (tyJ6 k) := by decide +kernel
abbrev cJ6_bitCount_0f7a4 : ByteArray := prog_13_method_49_code
def yJ6_bitCount_0f7a4 : MethodName := ⟨RJ6, "bitCount", "(I)I"⟩
def RJ9 : String := "java/lang/Math"
def TJ9 : u_T := fun k => match k with
  | _ => ("", "", "", false)
def tyJ9 : Nat → FieldType := fun k => match k with
  | _ => .int
abbrev wsJ90 : List Cond := u_ws RJ9 TJ9 0
theorem nmJ9 : ∀ a, a < 0 → ∀ b, b < 0 → a ≠ b → (TJ9 a).2.1 ≠ (TJ9 b).2.1 := by decide +kernel
theorem tyJ9_ok : ∀ k, k < 0 → parseFieldDescriptor (TJ9 k).2.2.1 = some (tyJ9 k) := by decide +kernel
abbrev cJ9_max_7cf53 : ByteArray := prog_14_method_65_code
def yJ9_max_7cf53 : MethodName := ⟨RJ9, "max", "(II)I"⟩
def RJ0 : String := "java/lang/String"
def TJ0 : u_T := fun k => match k with
  | _ => ("", "", "", false)
def tyJ0 : Nat → FieldType := fun k => match k with
  | _ => .int
abbrev wsJ00 : List Cond := u_ws RJ0 TJ0 0
theorem nmJ0 : ∀ a, a < 0 → ∀ b, b < 0 → a ≠ b → (TJ0 a).2.1 ≠ (TJ0 b).2.1 := by decide +kernel
theorem tyJ0_ok : ∀ k, k < 0 → parseFieldDescriptor (TJ0 k).2.2.1 = some (tyJ0 k) := by decide +kernel
abbrev cJ0_length_8abf5 : ByteArray := prog_15_method_54_code
def yJ0_length_8abf5 : MethodName := ⟨RJ0, "length", "()I"⟩
abbrev cJ0_charAt_5068e : ByteArray := prog_15_method_56_code
def yJ0_charAt_5068e : MethodName := ⟨RJ0, "charAt", "(I)C"⟩
abbrev cJ0_coder_7d493 : ByteArray := prog_15_method_152_code
def yJ0_coder_7d493 : MethodName := ⟨RJ0, "coder", "()B"⟩
abbrev cJ0_isLatin1_aae02 : ByteArray := prog_15_method_154_code
def yJ0_isLatin1_aae02 : MethodName := ⟨RJ0, "isLatin1", "()Z"⟩
abbrev cJ0_checkIndex_df160 : ByteArray := prog_15_method_155_code
def yJ0_checkIndex_df160 : MethodName := ⟨RJ0, "checkIndex", "(II)V"⟩
def RJ1 : String := "java/lang/StringLatin1"
def TJ1 : u_T := fun k => match k with
  | _ => ("", "", "", false)
def tyJ1 : Nat → FieldType := fun k => match k with
  | _ => .int
abbrev wsJ10 : List Cond := u_ws RJ1 TJ1 0
theorem nmJ1 : ∀ a, a < 0 → ∀ b, b < 0 → a ≠ b → (TJ1 a).2.1 ≠ (TJ1 b).2.1 := by decide +kernel
theorem tyJ1_ok : ∀ k, k < 0 → parseFieldDescriptor (TJ1 k).2.2.1 = some (tyJ1 k) := by decide +kernel
abbrev cJ1_charAt_3b067 : ByteArray := prog_16_method_2_code
def yJ1_charAt_3b067 : MethodName := ⟨RJ1, "charAt", "([BI)C"⟩
def RJ2 : String := "java/lang/StringUTF16"
def TJ2 : u_T := fun k => match k with
  | _ => ("", "", "", false)
def tyJ2 : Nat → FieldType := fun k => match k with
  | _ => .int
abbrev wsJ20 : List Cond := u_ws RJ2 TJ2 0
theorem nmJ2 : ∀ a, a < 0 → ∀ b, b < 0 → a ≠ b → (TJ2 a).2.1 ≠ (TJ2 b).2.1 := by decide +kernel
theorem tyJ2_ok : ∀ k, k < 0 → parseFieldDescriptor (TJ2 k).2.2.1 = some (tyJ2 k) := by decide +kernel
abbrev cJ2_getChar_3b067 : ByteArray := prog_17_method_5_code
def yJ2_getChar_3b067 : MethodName := ⟨RJ2, "getChar", "([BI)C"⟩
abbrev cJ2_length_9d52b : ByteArray := prog_17_method_6_code
def yJ2_length_9d52b : MethodName := ⟨RJ2, "length", "([B)I"⟩
abbrev cJ2_charAt_3b067 : ByteArray := prog_17_method_83_code
def yJ2_charAt_3b067 : MethodName := ⟨RJ2, "charAt", "([BI)C"⟩
abbrev cJ2_checkIndex_2214a : ByteArray := prog_17_method_91_code
def yJ2_checkIndex_2214a : MethodName := ⟨RJ2, "checkIndex", "(I[B)V"⟩
def RJ10 : String := "java/lang/System"
def TJ10 : u_T := fun k => match k with
  | _ => ("", "", "", false)
def tyJ10 : Nat → FieldType := fun k => match k with
  | _ => .int
abbrev wsJ100 : List Cond := u_ws RJ10 TJ10 0
theorem nmJ10 : ∀ a, a < 0 → ∀ b, b < 0 → a ≠ b → (TJ10 a).2.1 ≠ (TJ10 b).2.1 := by decide +kernel
theorem tyJ10_ok : ∀ k, k < 0 → parseFieldDescriptor (TJ10 k).2.2.1 = some (tyJ10 k) := by decide +kernel
def RJ3 : String := "jdk/internal/util/Preconditions"
def TJ3 : u_T := fun k => match k with
  | _ => ("", "", "", false)
def tyJ3 : Nat → FieldType := fun k => match k with
  | _ => .int
abbrev wsJ30 : List Cond := u_ws RJ3 TJ3 0
theorem nmJ3 : ∀ a, a < 0 → ∀ b, b < 0 → a ≠ b → (TJ3 a).2.1 ≠ (TJ3 b).2.1 := by decide +kernel
theorem tyJ3_ok : ∀ k, k < 0 → parseFieldDescriptor (TJ3 k).2.2.1 = some (tyJ3 k) := by decide +kernel
abbrev cJ3_checkIndex_8e157 : ByteArray := prog_19_method_11_code
def yJ3_checkIndex_8e157 : MethodName := ⟨RJ3, "checkIndex", "(IILjava/util/function/BiFunction;)I"⟩
def RL : String := "NoWordTwiceLaw"
abbrev cL_law : ByteArray := code
def yL_law : MethodName := ⟨RL, "law", "([I)Z"⟩
abbrev vwCl : List vw_C := [(RX0, TX0, 3), (RX1, TX1, 6), (RX2, TX2, 7), (RX3, TX3, 10), (RX4, TX4, 5), (RX5, TX5, 10), (RX6, TX6, 4), (RX7, TX7, 14), (RX8, TX8, 3), (RX9, TX9, 11), (RX10, TX10, 33)]
end
section
/-- the cells in the order in which they are made: an object (class, its fields: 0 an int, 1 a boolean, j + 2 the cell j), or an array (type, length) -/
def am_L : List ((Nat × List Nat) ⊕ (Nat × Nat)) := [
  .inl (9, [3, 15, 1, 27, 0, 28, 39, 43, 44, 48, 50]),
  .inl (7, [0, 0, 0, 0, 0, 4, 0, 0, 5, 6, 7, 0, 8, 9]),
  .inr (0, 16),
  .inr (0, 12),
  .inr (0, 12),
  .inr (0, 36),
  .inr (0, 320),
  .inl (1, [0, 10, 11, 12, 13, 14]),
  .inr (0, 16),
  .inr (0, 17),
  .inr (0, 400),
  .inr (0, 6),
  .inr (0, 32),
  .inl (7, [0, 0, 0, 0, 0, 16, 0, 0, 17, 18, 19, 0, 20, 21]),
  .inr (0, 16),
  .inr (0, 12),
  .inr (0, 12),
  .inr (0, 36),
  .inr (0, 320),
  .inl (1, [0, 22, 23, 24, 25, 26]),
  .inr (0, 16),
  .inr (0, 17),
  .inr (0, 400),
  .inr (0, 6),
  .inr (0, 32),
  .inr (1, 400),
  .inl (2, [29, 33, 0, 0, 0, 0, 0]),
  .inl (6, [30, 31, 32, 0]),
  .inr (0, 401),
  .inr (0, 401),
  .inr (0, 401),
  .inl (1, [0, 34, 35, 36, 37, 38]),
  .inr (0, 16),
  .inr (0, 17),
  .inr (0, 400),
  .inr (0, 6),
  .inr (0, 32),
  .inl (4, [40, 41, 42, 0, 0]),
  .inr (0, 6),
  .inr (0, 6),
  .inr (0, 216),
  .inl (0, [0, 0, 0]),
  .inl (5, [45, 46, 0, 47, 0, 0, 0, 0, 0, 0]),
  .inr (0, 12),
  .inr (0, 12),
  .inr (0, 12),
  .inl (8, [0, 49, 0]),
  .inr (0, 4),
  .inl (3, [0, 51, 0, 52, 53, 54, 55, 56, 57, 0]),
  .inr (0, 7),
  .inr (0, 147),
  .inr (0, 7),
  .inr (0, 147),
  .inr (0, 7),
  .inr (0, 8),
  .inr (0, 4096),
  .inl (10, [59, 60, 61, 0, 1, 62, 63, 64, 65, 66, 67, 0, 0, 0, 0, 0, 0, 0, 0, 0, 0, 0, 0, 0, 68, 69, 0, 70, 0, 71, 72, 73, 74]),
  .inr (0, 1320),
  .inr (0, 1320),
  .inr (0, 378),
  .inr (0, 5),
  .inr (0, 48),
  .inr (0, 820),
  .inr (0, 400),
  .inr (0, 420),
  .inr (0, 7),
  .inr (0, 12),
  .inr (2, 12),
  .inr (0, 12),
  .inr (0, 131072),
  .inr (0, 7),
  .inr (2, 896),
  .inr (0, 4)]
def am_FT : List (Nat × List (Nat × (Nat × Nat))) := [
  (0, [(9, (0, 0)), (15, (0, 1)), (18, (0, 2))]),
  (1, [(9, (1, 1)), (15, (1, 2)), (18, (1, 3)), (21, (1, 4)), (24, (1, 5)), (27, (1, 0))]),
  (2, [(12, (2, 0)), (21, (2, 1)), (25, (2, 6)), (33, (2, 2)), (40, (2, 3)), (43, (2, 4)), (46, (2, 5))]),
  (3, [(9, (3, 1)), (15, (3, 3)), (18, (3, 4)), (21, (3, 5)), (24, (3, 6)), (27, (3, 7)), (30, (3, 8)), (39, (3, 2)), (57, (3, 0)), (64, (3, 9))]),
  (4, [(9, (4, 0)), (15, (4, 1)), (18, (4, 2)), (21, (4, 4)), (25, (4, 3))]),
  (5, [(9, (5, 0)), (15, (5, 1)), (18, (5, 3)), (21, (5, 2)), (45, (5, 6)), (48, (5, 7)), (58, (5, 4)), (61, (5, 5)), (70, (5, 8)), (76, (5, 9))]),
  (6, [(9, (6, 0)), (15, (6, 1)), (18, (6, 2)), (21, (6, 3))]),
  (7, [(9, (7, 1)), (15, (7, 5)), (19, (7, 8)), (22, (7, 9)), (25, (7, 10)), (28, (7, 12)), (34, (7, 13)), (38, (7, 0)), (41, (7, 2)), (44, (7, 3)), (47, (7, 4)), (56, (7, 6)), (59, (7, 7)), (62, (7, 11))]),
  (8, [(9, (8, 1)), (15, (8, 0)), (19, (8, 2))]),
  (9, [(10, (9, 0)), (16, (9, 1)), (19, (9, 2)), (23, (9, 3)), (27, (9, 4)), (34, (9, 5)), (41, (9, 6)), (48, (9, 7)), (55, (9, 8)), (62, (9, 9)), (69, (9, 10))]),
  (10, [(7, (10, 0)), (13, (10, 1)), (16, (10, 2)), (19, (10, 5)), (22, (10, 6)), (25, (10, 7)), (28, (10, 8)), (31, (10, 9)), (34, (10, 10)), (37, (10, 22)), (41, (10, 24)), (44, (10, 25)), (48, (10, 27)), (52, (10, 29)), (55, (10, 30)), (58, (10, 31)), (61, (10, 32)), (68, (10, 3)), (99, (10, 13)), (102, (10, 14)), (105, (10, 16)), (153, (10, 15)), (165, (10, 17)), (168, (10, 18)), (171, (10, 19)), (180, (10, 12)), (183, (10, 21)), (214, (10, 11)), (220, (10, 20)), (267, (10, 23)), (276, (10, 26)), (288, (10, 28)), (314, (10, 4))])]
def am_NT : List (Nat × List (Nat × (Nat × Nat))) := [
  (0, [(21, (7, 7)), (30, (7, 8)), (46, (7, 6)), (53, (7, 9)), (56, (7, 10)), (63, (7, 1))]),
  (2, [(36, (6, 0)), (49, (1, 0)), (56, (6, 3)), (59, (6, 1)), (69, (1, 3)), (72, (1, 1)), (75, (1, 2)), (101, (6, 2))]),
  (3, [(33, (7, 4))]),
  (4, [(28, (7, 0)), (33, (7, 11)), (35, (7, 10)), (42, (7, 3))]),
  (5, [(25, (7, 7)), (42, (7, 8)), (64, (7, 6))]),
  (8, [(22, (7, 7)), (35, (7, 9)), (38, (7, 10)), (49, (7, 8))]),
  (9, [(73, (7, 0)), (79, (7, 4)), (86, (7, 5)), (103, (7, 7)), (129, (7, 13)), (133, (2, 1)), (140, (1, 0)), (143, (2, 5)), (146, (2, 6)), (149, (7, 3)), (163, (7, 6)), (177, (7, 8)), (180, (7, 9)), (198, (0, 0)), (201, (0, 1)), (204, (0, 2)), (213, (5, 6)), (216, (5, 7)), (222, (5, 4)), (225, (5, 3)), (228, (5, 5)), (247, (3, 0)), (250, (3, 1)), (259, (8, 0)), (262, (8, 1)), (265, (7, 11)), (268, (7, 12)), (271, (4, 4)), (279, (7, 1)), (282, (7, 2))])]
def am_CT : List (Nat × List (Nat × (Nat × Nat × Nat))) := [
  (0, [(26, (2, 4, 0)), (34, (3, 4, 0)), (38, (4, 2, 1)), (42, (717, 2, 1)), (49, (5, 3, 1)), (59, (713, 3, 1))]),
  (1, [(31, (2004, 5, 0)), (37, (104, 3, 1))]),
  (2, [(29, (601, 3, 0)), (52, (206, 1, 1)), (62, (203, 2, 1)), (66, (202, 1, 0)), (78, (207, 3, 1)), (82, (204, 2, 1)), (85, (208, 2, 1)), (88, (205, 2, 0)), (92, (209, 1, 1)), (95, (210, 1, 1)), (98, (211, 2, 1))]),
  (3, [(42, (303, 2, 0)), (46, (302, 1, 0)), (49, (306, 1, 1)), (53, (308, 3, 1)), (60, (310, 2, 0)), (67, (304, 3, 1)), (71, (1200, 1, 1)), (76, (718, 3, 1)), (80, (305, 4, 0)), (84, (309, 1, 1)), (87, (307, 2, 1)), (90, (1300, 2, 1)), (96, (311, 4, 1))]),
  (4, [(36, (2004, 5, 0))]),
  (5, [(30, (503, 3, 0)), (34, (717, 2, 1)), (38, (711, 2, 1)), (51, (506, 2, 1)), (54, (501, 2, 0)), (67, (508, 2, 1)), (73, (511, 2, 1)), (79, (510, 4, 1))]),
  (6, [(25, (603, 3, 1)), (29, (607, 1, 1)), (33, (604, 3, 1)), (36, (602, 3, 0)), (40, (609, 1, 1)), (43, (605, 3, 1)), (46, (608, 1, 1)), (49, (611, 1, 1)), (53, (610, 1, 2)), (57, (606, 4, 1)), (61, (1400, 1, 1)), (67, (1401, 2, 1))]),
  (7, [(50, (2004, 5, 0)), (65, (101, 2, 0)), (69, (702, 2, 1)), (73, (708, 3, 0)), (77, (709, 3, 0)), (81, (711, 2, 1)), (85, (712, 3, 1)), (89, (718, 3, 1)), (92, (1200, 1, 1)), (97, (102, 3, 0)), (100, (719, 3, 1)), (104, (103, 1, 1)), (108, (721, 3, 1)), (111, (713, 3, 1)), (116, (722, 2, 1)), (119, (724, 2, 1)), (122, (725, 4, 0))]),
  (8, [(27, (717, 2, 1)), (31, (802, 4, 0)), (41, (803, 4, 1)), (45, (804, 5, 0)), (52, (711, 2, 1)), (56, (718, 3, 1))]),
  (9, [(76, (401, 1, 0)), (82, (928, 1, 1)), (90, (929, 2, 1)), (93, (930, 2, 1)), (96, (931, 3, 1)), (100, (932, 3, 1)), (106, (705, 5, 1)), (110, (706, 5, 1)), (114, (703, 2, 1)), (117, (707, 3, 0)), (121, (933, 2, 0)), (125, (201, 3, 1)), (134, (101, 2, 0)), (152, (402, 2, 0)), (156, (723, 1, 1)), (160, (702, 2, 1)), (166, (713, 3, 1)), (170, (714, 2, 1)), (174, (715, 2, 1)), (183, (717, 2, 1)), (186, (710, 3, 1)), (189, (704, 2, 1)), (192, (718, 3, 1)), (195, (1, 2, 0)), (207, (502, 2, 0)), (210, (505, 2, 0)), (219, (507, 2, 0)), (231, (501, 2, 0)), (234, (504, 1, 1)), (237, (509, 3, 1)), (240, (716, 1, 1)), (243, (301, 3, 0)), (253, (720, 3, 1)), (256, (801, 2, 0)), (274, (403, 2, 0)), (277, (701, 2, 0))]),
  (10, [(64, (1001, 3, 1)), (71, (1008, 1, 0)), (76, (1002, 2, 1)), (80, (1013, 5, 1)), (84, (1006, 4, 0)), (88, (1005, 3, 1)), (92, (1003, 2, 1)), (95, (1015, 3, 0)), (108, (1400, 1, 1)), (114, (1401, 2, 1)), (120, (1023, 2, 1)), (146, (1024, 1, 1)), (149, (1020, 2, 1)), (156, (1021, 1, 1)), (159, (1025, 1, 1)), (162, (1022, 1, 1)), (174, (1027, 2, 1)), (177, (1026, 1, 0)), (186, (1032, 1, 1)), (190, (1029, 3, 0)), (193, (1033, 1, 1)), (196, (1035, 1, 1)), (199, (1036, 1, 1)), (202, (1030, 1, 1)), (205, (1034, 1, 1)), (208, (1028, 2, 1)), (211, (1031, 1, 1)), (217, (1037, 1, 1)), (223, (1040, 3, 1)), (227, (1042, 2, 1)), (230, (1007, 1, 1)), (233, (1041, 3, 1)), (236, (1044, 2, 1)), (239, (1043, 3, 1)), (243, (1004, 2, 1)), (246, (1010, 2, 1)), (249, (1050, 4, 0)), (252, (1048, 1, 0)), (255, (1051, 1, 1)), (258, (1046, 3, 1)), (261, (1053, 2, 1)), (264, (1045, 2, 1)), (270, (1056, 3, 1)), (273, (1057, 2, 1)), (279, (1059, 1, 0)), (282, (1060, 2, 1)), (285, (1062, 1, 1)), (291, (1064, 1, 1)), (294, (1065, 2, 1)), (297, (1069, 3, 1)), (300, (1070, 5, 1)), (304, (1071, 2, 0)), (308, (1074, 5, 1)), (311, (1075, 1, 1))]),
  (11, [(13, (901, 2, 1)), (17, (1009, 2, 1)), (18, (902, 2, 1)), (21, (1011, 2, 1)), (22, (903, 4, 1)), (26, (1012, 4, 1)), (27, (904, 5, 1)), (31, (1014, 5, 1)), (32, (905, 2, 1)), (36, (1016, 2, 1)), (37, (906, 3, 1)), (41, (1017, 3, 1)), (42, (907, 6, 1)), (46, (1018, 6, 1)), (47, (908, 2, 1)), (50, (1019, 2, 1)), (51, (909, 1, 1)), (55, (1038, 1, 1)), (56, (910, 2, 1)), (59, (1039, 2, 1)), (60, (911, 2, 1)), (63, (1052, 2, 1)), (64, (912, 3, 1)), (68, (1054, 3, 1)), (69, (913, 3, 1)), (72, (1055, 3, 1)), (73, (914, 3, 1)), (76, (1047, 3, 1)), (77, (915, 2, 1)), (80, (1058, 2, 1)), (81, (916, 3, 1)), (84, (1061, 3, 1)), (85, (917, 2, 1)), (88, (1066, 2, 1)), (89, (918, 1, 1)), (92, (1067, 1, 1)), (93, (919, 1, 1)), (96, (1068, 1, 1)), (97, (920, 1, 1)), (100, (1063, 1, 1)), (101, (921, 3, 1)), (104, (1072, 3, 1)), (105, (922, 3, 1)), (108, (1073, 3, 1)), (109, (923, 2, 1)), (112, (1076, 2, 1)), (113, (924, 3, 1)), (116, (1077, 3, 1)), (117, (925, 1, 1)), (121, (1049, 1, 1)), (122, (926, 2, 1)), (126, (1078, 2, 1)), (127, (927, 2, 1)), (130, (1079, 2, 1))]),
  (14, [(335, (1402, 1, 1)), (492, (1403, 1, 1)), (495, (1500, 2, 1)), (1059, (1600, 3, 1))]),
  (15, [(9, (1404, 2, 0))])]
def am_IT : List (Nat × List (Nat × Int32)) := [
  (3, [(95, -1640531535)]),
  (7, [(114, 1664525), (115, 1013904223)]),
  (10, [(74, 1664525), (75, 1013904223)]),
  (12, [(265, 1431655765), (266, 858993459), (267, 252645135)])]
def am_ST : List (Nat × List (Nat × Nat)) := [
  (6, [(71, 0), (73, 1), (75, 2), (77, 3), (79, 4), (81, 5), (83, 6), (85, 7), (87, 8), (89, 9), (91, 10), (93, 11), (95, 12)]),
  (10, [(118, 6), (124, 7), (126, 8), (128, 9), (130, 10), (132, 11), (134, 2), (136, 3), (138, 4), (140, 5), (142, 0), (144, 1)])]
def am_b1 : List (Nat × List (Instr × Nat)) := [
  (0, [(.aload_n 0, 1), (.iconst 0, 1), (.putfield 9, 3), (.aload_n 0, 1), (.iconst (-1), 1), (.putfield 15, 3), (.aload_n 0, 1), (.iconst (-1), 1), (.putfield 18, 3), (.iconst 0, 1), (.istore_n 2, 1), (.iconst 0, 1), (.istore_n 3, 1)]),
  (19, [(.iload_n 3, 1), (.aload_n 1, 1), (.getfield 21, 3), (.if_icmp .ge 34, 3), (.aload_n 0, 1), (.getfield 9, 3), (.ifCond .ne 27, 3), (.aload_n 0, 1), (.aload_n 1, 1), (.iload_n 3, 1), (.iload_n 2, 1), (.invokevirtual 26, 3), (.iload_n 2, 1), (.iconst 1, 1), (.aload_n 1, 1), (.getfield 30, 3), (.iload_n 3, 1), (.iaload, 1), (.ishl, 1), (.ior, 1), (.istore_n 2, 1), (.iinc 3 1, 3), (.goto (-36), 3)]),
  (58, [(.return_, 1)])]
def am_b2 : List (Nat × List (Instr × Nat)) := [
  (0, [(.iload_n 3, 1), (.aload_n 1, 1), (.getfield 30, 3), (.iload_n 2, 1), (.iaload, 1), (.ishr, 1), (.iconst 1, 1), (.iand, 1), (.ifCond .eq 11, 3), (.aload_n 0, 1), (.iconst 1, 1), (.iload_n 2, 1), (.iconst (-1), 1), (.invokevirtual 34, 3), (.return_, 1)]),
  (21, [(.aload_n 1, 1), (.iload_n 2, 1), (.invokestatic 38, 3), (.istore 4, 2), (.iload 4, 2), (.iconst (-1), 1), (.if_icmp .eq 12, 3), (.aload_n 0, 1), (.iconst 2, 1), (.iload_n 2, 1), (.iload 4, 2), (.invokevirtual 34, 3), (.return_, 1)]),
  (43, [(.aload_n 1, 1), (.iload_n 2, 1), (.invokevirtual 42, 3), (.ifCond .ne 11, 3), (.aload_n 0, 1), (.iconst 3, 1), (.iload_n 2, 1), (.iconst (-1), 1), (.invokevirtual 34, 3), (.return_, 1)]),
  (59, [(.aload_n 1, 1), (.iload_n 2, 1), (.aload_n 1, 1), (.getfield 46, 3), (.iload_n 3, 1), (.ior, 1), (.invokestatic 49, 3), (.istore 5, 2), (.iload 5, 2), (.iconst (-1), 1), (.if_icmp .eq 11, 3), (.aload_n 0, 1), (.iconst 4, 1), (.iload_n 2, 1), (.iload 5, 2), (.invokevirtual 34, 3)]),
  (86, [(.return_, 1)])]
def am_b3 : List (Nat × List (Instr × Nat)) := [
  (0, [(.aload_n 0, 1), (.iload_n 1, 1), (.putfield 9, 3), (.aload_n 0, 1), (.iload_n 2, 1), (.putfield 15, 3), (.aload_n 0, 1), (.iload_n 3, 1), (.putfield 18, 3), (.return_, 1)])]
def am_b4 : List (Nat × List (Instr × Nat)) := [
  (0, [(.iconst 0, 1), (.istore_n 2, 1)]),
  (2, [(.iload_n 2, 1), (.aload_n 0, 1), (.getfield 53, 3), (.iload_n 1, 1), (.iaload, 1), (.if_icmp .ge 35, 3), (.aload_n 0, 1), (.getfield 56, 3), (.iload_n 1, 1), (.iconst 3, 1), (.imul, 1), (.iload_n 2, 1), (.iadd, 1), (.iaload, 1), (.istore_n 3, 1), (.aload_n 0, 1), (.iload_n 3, 1), (.iload_n 1, 1), (.invokevirtual 59, 3), (.aload_n 0, 1), (.getfield 63, 3), (.if_icmp .lt 5, 3), (.iload_n 3, 1), (.ireturn, 1)]),
  (38, [(.iinc 2 1, 3), (.goto (-39), 3)]),
  (44, [(.iconst (-1), 1), (.ireturn, 1)])]
def am_b5 : List (Nat × List (Instr × Nat)) := [
  (0, [(.iconst 0, 1), (.istore_n 3, 1)]),
  (2, [(.iload_n 3, 1), (.aload_n 0, 1), (.getfield 53, 3), (.iload_n 1, 1), (.iaload, 1), (.if_icmp .ge 33, 3), (.aload_n 0, 1), (.getfield 56, 3), (.iload_n 1, 1), (.iconst 3, 1), (.imul, 1), (.iload_n 3, 1), (.iadd, 1), (.iaload, 1), (.istore 4, 2), (.iload_n 2, 1), (.iload 4, 2), (.ishr, 1), (.iconst 1, 1), (.iand, 1), (.ifCond .ne 6, 3), (.iload 4, 2), (.ireturn, 1)]),
  (36, [(.iinc 3 1, 3), (.goto (-37), 3)]),
  (42, [(.iconst (-1), 1), (.ireturn, 1)])]
def am_b101 : List (Nat × List (Instr × Nat)) := [
  (0, [(.aload_n 0, 1), (.aload_n 1, 1), (.getfield 27, 3), (.putfield 27, 3), (.aload_n 1, 1), (.getfield 9, 3), (.iconst 0, 1), (.aload_n 0, 1), (.getfield 9, 3), (.iconst 0, 1), (.aload_n 0, 1), (.getfield 9, 3), (.arraylength, 1), (.invokestatic 31, 3), (.aload_n 1, 1), (.getfield 15, 3), (.iconst 0, 1), (.aload_n 0, 1), (.getfield 15, 3), (.iconst 0, 1), (.aload_n 0, 1), (.getfield 15, 3), (.arraylength, 1), (.invokestatic 31, 3), (.aload_n 1, 1), (.getfield 18, 3), (.iconst 0, 1), (.aload_n 0, 1), (.getfield 18, 3), (.iconst 0, 1), (.aload_n 0, 1), (.getfield 18, 3), (.arraylength, 1), (.invokestatic 31, 3), (.return_, 1)])]
def am_b102 : List (Nat × List (Instr × Nat)) := [
  (0, [(.iload_n 1, 1), (.bipush 9, 2), (.if_icmp .lt 19, 3), (.iload_n 1, 1), (.bipush 14, 2), (.if_icmp .gt 13, 3), (.aload_n 0, 1), (.getfield 21, 3), (.iload_n 1, 1), (.bipush 9, 2), (.isub, 1), (.iload_n 2, 1), (.iastore, 1)]),
  (22, [(.return_, 1)])]
def am_b103 : List (Nat × List (Instr × Nat)) := [
  (0, [(.iconst 0, 1), (.istore_n 1, 1)]),
  (2, [(.iload_n 1, 1), (.aload_n 0, 1), (.getfield 27, 3), (.if_icmp .ge 77, 3), (.iconst 0, 1), (.istore_n 2, 1), (.aload_n 0, 1), (.getfield 15, 3), (.iload_n 1, 1), (.iaload, 1), (.istore_n 3, 1)]),
  (19, [(.iload_n 3, 1), (.aload_n 0, 1), (.getfield 15, 3), (.iload_n 1, 1), (.iconst 1, 1), (.iadd, 1), (.iaload, 1), (.if_icmp .ge 21, 3), (.aload_n 0, 1), (.aload_n 0, 1), (.getfield 18, 3), (.iload_n 3, 1), (.iaload, 1), (.iload_n 2, 1), (.invokevirtual 37, 3), (.istore_n 2, 1), (.iinc 3 1, 3), (.goto (-27), 3)]),
  (49, [(.iload_n 2, 1), (.ifCond .eq 12, 3), (.aload_n 0, 1), (.getfield 24, 3), (.iconst 0, 1), (.iaload, 1), (.ifCond .eq 19, 3)]),
  (62, [(.aload_n 0, 1), (.getfield 9, 3), (.iload_n 1, 1), (.iaload, 1), (.iconst 1, 1), (.if_icmp .ne 7, 3), (.iconst 1, 1), (.goto 4, 3)]),
  (76, [(.iconst 0, 1)]),
  (77, [(.ireturn, 1)]),
  (78, [(.iinc 1 1, 3), (.goto (-79), 3)]),
  (84, [(.iconst 0, 1), (.ireturn, 1)])]
def am_b104 : List (Nat × List (Instr × Nat)) := [
  (0, [(.iload_n 1, 1), (.sipush 10000, 3), (.isub, 1), (.istore_n 3, 1), (.iload_n 3, 1), (.ifCond .lt 15, 3), (.iload_n 3, 1), (.bipush 9, 2), (.if_icmp .lt 47, 3), (.iload_n 3, 1), (.bipush 14, 2), (.if_icmp .gt 41, 3)]),
  (22, [(.iload_n 2, 1), (.aload_n 0, 1), (.getfield 24, 3), (.arraylength, 1), (.if_icmp .lt 5, 3), (.iload_n 2, 1), (.ireturn, 1)]),
  (33, [(.aload_n 0, 1), (.getfield 24, 3), (.iload_n 2, 1), (.iload_n 3, 1), (.ifCond .ge 7, 3), (.iload_n 1, 1), (.goto 12, 3)]),
  (46, [(.aload_n 0, 1), (.getfield 21, 3), (.iload_n 3, 1), (.bipush 9, 2), (.isub, 1), (.iaload, 1)]),
  (55, [(.iastore, 1), (.iload_n 2, 1), (.iconst 1, 1), (.iadd, 1), (.ireturn, 1)]),
  (60, [(.iload_n 3, 1), (.bipush 8, 2), (.if_icmp .ne 28, 3), (.iload_n 2, 1), (.iconst 1, 1), (.if_icmp .lt 23, 3), (.aload_n 0, 1), (.getfield 24, 3), (.iload_n 2, 1), (.iconst 1, 1), (.isub, 1), (.iconst 1, 1), (.aload_n 0, 1), (.getfield 24, 3), (.iload_n 2, 1), (.iconst 1, 1), (.isub, 1), (.iaload, 1), (.isub, 1), (.iastore, 1), (.iload_n 2, 1), (.ireturn, 1)]),
  (91, [(.iload_n 2, 1), (.iconst 2, 1), (.if_icmp .ge 5, 3), (.iload_n 2, 1), (.ireturn, 1)]),
  (98, [(.aload_n 0, 1), (.getfield 24, 3), (.iload_n 2, 1), (.iconst 2, 1), (.isub, 1), (.iaload, 1), (.istore 4, 2), (.aload_n 0, 1), (.getfield 24, 3), (.iload_n 2, 1), (.iconst 1, 1), (.isub, 1), (.iaload, 1), (.istore 5, 2), (.iload_n 3, 1), (.tableswitch 195 7 24 #[185, 195, 195, 195, 195, 195, 195, 195, 195, 85, 95, 105, 115, 195, 195, 134, 151, 168], 85)]),
  (204, [(.iload 4, 2), (.iload 5, 2), (.iadd, 1), (.istore 6, 2), (.goto 110, 3)]),
  (214, [(.iload 4, 2), (.iload 5, 2), (.isub, 1), (.istore 6, 2), (.goto 100, 3)]),
  (224, [(.iload 4, 2), (.iload 5, 2), (.imul, 1), (.istore 6, 2), (.goto 90, 3)]),
  (234, [(.iload 5, 2), (.ifCond .ne 7, 3), (.iconst 0, 1), (.goto 8, 3)]),
  (243, [(.iload 4, 2), (.iload 5, 2), (.idiv, 1)]),
  (248, [(.istore 6, 2), (.goto 71, 3)]),
  (253, [(.iload 4, 2), (.iload 5, 2), (.if_icmp .ge 7, 3), (.iconst 1, 1), (.goto 4, 3)]),
  (264, [(.iconst 0, 1)]),
  (265, [(.istore 6, 2), (.goto 54, 3)]),
  (270, [(.iload 4, 2), (.iload 5, 2), (.if_icmp .ne 7, 3), (.iconst 1, 1), (.goto 4, 3)]),
  (281, [(.iconst 0, 1)]),
  (282, [(.istore 6, 2), (.goto 37, 3)]),
  (287, [(.iload 4, 2), (.iload 5, 2), (.if_icmp .le 7, 3), (.iconst 1, 1), (.goto 4, 3)]),
  (298, [(.iconst 0, 1)]),
  (299, [(.istore 6, 2), (.goto 20, 3)]),
  (304, [(.iload 4, 2), (.iload 5, 2), (.iand, 1), (.istore 6, 2), (.goto 10, 3)]),
  (314, [(.iload 4, 2), (.iload 5, 2), (.ior, 1), (.istore 6, 2)]),
  (321, [(.aload_n 0, 1), (.getfield 24, 3), (.iload_n 2, 1), (.iconst 2, 1), (.isub, 1), (.iload 6, 2), (.iastore, 1), (.iload_n 2, 1), (.iconst 1, 1), (.isub, 1), (.ireturn, 1)])]
def am_b201 : List (Nat × List (Instr × Nat)) := [
  (0, [(.aload_n 0, 1), (.getfield 12, 3), (.aload_n 1, 1), (.iload_n 2, 1), (.invokevirtual 29, 3), (.aload_n 0, 1), (.iconst 0, 1), (.putfield 33, 3), (.aload_n 0, 1), (.aload_n 0, 1), (.getfield 12, 3), (.getfield 36, 3), (.iconst 0, 1), (.iaload, 1), (.putfield 40, 3), (.aload_n 0, 1), (.iconst 0, 1), (.putfield 43, 3), (.aload_n 0, 1), (.iconst 0, 1), (.putfield 46, 3), (.aload_n 0, 1), (.iconst (-1), 1), (.putfield 25, 3), (.aload_n 0, 1), (.getfield 21, 3), (.iconst 0, 1), (.putfield 49, 3), (.iconst 0, 1), (.istore_n 3, 1)]),
  (52, [(.iload_n 3, 1), (.bipush 16, 2), (.if_icmp .gt 25, 3), (.aload_n 0, 1), (.getfield 40, 3), (.ifCond .eq 18, 3), (.aload_n 0, 1), (.invokevirtual 52, 3), (.ifCond .ne 5, 3), (.iconst 0, 1), (.ireturn, 1)]),
  (74, [(.iinc 3 1, 3), (.goto (-25), 3)]),
  (80, [(.iconst 1, 1), (.ireturn, 1)])]
def am_b202 : List (Nat × List (Instr × Nat)) := [
  (0, [(.aload_n 0, 1), (.getfield 33, 3), (.iconst 1, 1), (.iadd, 1), (.aload_n 0, 1), (.getfield 12, 3), (.getfield 56, 3), (.if_icmp .ge 13, 3), (.aload_n 0, 1), (.dup, 1), (.getfield 33, 3), (.iconst 1, 1), (.iadd, 1), (.putfield 33, 3)]),
  (26, [(.aload_n 0, 1), (.aload_n 0, 1), (.getfield 12, 3), (.getfield 36, 3), (.aload_n 0, 1), (.getfield 33, 3), (.iaload, 1), (.putfield 40, 3), (.return_, 1)])]
def am_b203 : List (Nat × List (Instr × Nat)) := [
  (0, [(.aload_n 0, 1), (.iload_n 1, 1), (.putfield 46, 3), (.aload_n 0, 1), (.aload_n 0, 1), (.getfield 12, 3), (.getfield 59, 3), (.aload_n 0, 1), (.getfield 33, 3), (.iaload, 1), (.putfield 25, 3), (.iconst 0, 1), (.ireturn, 1)])]
def am_b204 : List (Nat × List (Instr × Nat)) := [
  (0, [(.aload_n 0, 1), (.getfield 40, 3), (.iload_n 1, 1), (.if_icmp .eq 9, 3), (.aload_n 0, 1), (.iconst 1, 1), (.invokevirtual 62, 3), (.ireturn, 1)]),
  (14, [(.aload_n 0, 1), (.invokevirtual 66, 3), (.iconst 1, 1), (.ireturn, 1)])]
def am_b205 : List (Nat × List (Instr × Nat)) := [
  (0, [(.aload_n 0, 1), (.getfield 43, 3), (.aload_n 0, 1), (.getfield 21, 3), (.getfield 69, 3), (.arraylength, 1), (.if_icmp .ge 26, 3), (.aload_n 0, 1), (.getfield 21, 3), (.getfield 69, 3), (.aload_n 0, 1), (.getfield 43, 3), (.iload_n 1, 1), (.iastore, 1), (.aload_n 0, 1), (.dup, 1), (.getfield 43, 3), (.iconst 1, 1), (.iadd, 1), (.putfield 43, 3)]),
  (38, [(.return_, 1)])]
def am_b206 : List (Nat × List (Instr × Nat)) := [
  (0, [(.aload_n 0, 1), (.getfield 40, 3), (.iconst 3, 1), (.if_icmp .eq 17, 3), (.aload_n 0, 1), (.getfield 40, 3), (.iconst 4, 1), (.if_icmp .eq 9, 3), (.aload_n 0, 1), (.iconst 1, 1), (.invokevirtual 62, 3), (.ireturn, 1)]),
  (22, [(.aload_n 0, 1), (.getfield 21, 3), (.getfield 49, 3), (.bipush 16, 2), (.if_icmp .lt 9, 3), (.aload_n 0, 1), (.iconst 3, 1), (.invokevirtual 62, 3), (.ireturn, 1)]),
  (40, [(.aload_n 0, 1), (.getfield 21, 3), (.getfield 72, 3), (.aload_n 0, 1), (.getfield 21, 3), (.getfield 49, 3), (.aload_n 0, 1), (.getfield 40, 3), (.iconst 3, 1), (.if_icmp .ne 7, 3), (.iconst 1, 1), (.goto 4, 3)]),
  (66, [(.iconst 0, 1)]),
  (67, [(.iastore, 1), (.aload_n 0, 1), (.getfield 21, 3), (.getfield 75, 3), (.aload_n 0, 1), (.getfield 21, 3), (.getfield 49, 3), (.aload_n 0, 1), (.getfield 43, 3), (.iastore, 1), (.aload_n 0, 1), (.invokevirtual 66, 3), (.aload_n 0, 1), (.getfield 40, 3), (.iconst 5, 1), (.if_icmp .ne 19, 3), (.aload_n 0, 1), (.invokevirtual 66, 3), (.aload_n 0, 1), (.bipush 6, 2), (.iconst 0, 1), (.invokevirtual 78, 3), (.ifCond .ne 5, 3), (.iconst 0, 1), (.ireturn, 1)]),
  (115, [(.aload_n 0, 1), (.getfield 21, 3), (.dup, 1), (.getfield 49, 3), (.iconst 1, 1), (.iadd, 1), (.putfield 49, 3), (.aload_n 0, 1), (.getfield 21, 3), (.getfield 75, 3), (.aload_n 0, 1), (.getfield 21, 3), (.getfield 49, 3), (.aload_n 0, 1), (.getfield 43, 3), (.iastore, 1), (.aload_n 0, 1), (.bipush 15, 2), (.invokevirtual 82, 3), (.ireturn, 1)])]
def am_b207 : List (Nat × List (Instr × Nat)) := [
  (0, [(.iconst 0, 1), (.istore_n 3, 1)]),
  (2, [(.iload_n 3, 1), (.sipush 400, 3), (.if_icmp .ge 66, 3), (.iload_n 1, 1), (.bipush 6, 2), (.if_icmp .ne 13, 3), (.aload_n 0, 1), (.bipush 7, 2), (.iload_n 2, 1), (.invokevirtual 78, 3), (.goto 8, 3)]),
  (25, [(.aload_n 0, 1), (.iload_n 2, 1), (.invokevirtual 85, 3)]),
  (30, [(.istore 4, 2), (.iload 4, 2), (.ifCond .ne 5, 3), (.iconst 0, 1), (.ireturn, 1)]),
  (39, [(.iload_n 3, 1), (.ifCond .le 12, 3), (.aload_n 0, 1), (.sipush 10000, 3), (.iload_n 1, 1), (.iadd, 1), (.invokevirtual 88, 3)]),
  (52, [(.aload_n 0, 1), (.getfield 40, 3), (.iload_n 1, 1), (.if_icmp .eq 5, 3), (.iconst 1, 1), (.ireturn, 1)]),
  (62, [(.aload_n 0, 1), (.invokevirtual 66, 3), (.iinc 3 1, 3), (.goto (-67), 3)]),
  (72, [(.iconst 1, 1), (.ireturn, 1)])]
def am_b208 : List (Nat × List (Instr × Nat)) := [
  (0, [(.aload_n 0, 1), (.getfield 40, 3), (.bipush 8, 2), (.if_icmp .eq 17, 3), (.aload_n 0, 1), (.getfield 40, 3), (.bipush 20, 2), (.if_icmp .eq 8, 3), (.aload_n 0, 1), (.invokevirtual 92, 3), (.ireturn, 1)]),
  (23, [(.iload_n 1, 1), (.bipush 8, 2), (.if_icmp .lt 9, 3), (.aload_n 0, 1), (.iconst 3, 1), (.invokevirtual 62, 3), (.ireturn, 1)]),
  (35, [(.aload_n 0, 1), (.getfield 40, 3), (.bipush 8, 2), (.if_icmp .ne 7, 3), (.iconst 1, 1), (.goto 4, 3)]),
  (48, [(.iconst 0, 1)]),
  (49, [(.istore_n 2, 1), (.aload_n 0, 1), (.invokevirtual 66, 3), (.iload_n 2, 1), (.ifCond .ne 30, 3), (.aload_n 0, 1), (.bipush 6, 2), (.iload_n 1, 1), (.iconst 1, 1), (.iadd, 1), (.invokevirtual 78, 3), (.ifCond .eq 16, 3), (.aload_n 0, 1), (.bipush 21, 2), (.invokevirtual 82, 3), (.ifCond .eq 7, 3), (.iconst 1, 1), (.goto 4, 3)]),
  (83, [(.iconst 0, 1)]),
  (84, [(.ireturn, 1)]),
  (85, [(.aload_n 0, 1), (.iload_n 1, 1), (.iconst 1, 1), (.iadd, 1), (.invokevirtual 85, 3), (.ifCond .ne 5, 3), (.iconst 0, 1), (.ireturn, 1)]),
  (97, [(.aload_n 0, 1), (.sipush 10008, 3), (.invokevirtual 88, 3), (.iconst 1, 1), (.ireturn, 1)])]
def am_b209 : List (Nat × List (Instr × Nat)) := [
  (0, [(.aload_n 0, 1), (.invokevirtual 95, 3), (.ifCond .ne 5, 3), (.iconst 0, 1), (.ireturn, 1)]),
  (9, [(.aload_n 0, 1), (.getfield 40, 3), (.istore_n 1, 1), (.iload_n 1, 1), (.bipush 22, 2), (.if_icmp .eq 21, 3), (.iload_n 1, 1), (.bipush 23, 2), (.if_icmp .eq 15, 3), (.iload_n 1, 1), (.bipush 24, 2), (.if_icmp .eq 9, 3), (.aload_n 0, 1), (.iconst 1, 1), (.invokevirtual 62, 3), (.ireturn, 1)]),
  (38, [(.aload_n 0, 1), (.invokevirtual 66, 3), (.aload_n 0, 1), (.invokevirtual 95, 3), (.ifCond .ne 5, 3), (.iconst 0, 1), (.ireturn, 1)]),
  (51, [(.aload_n 0, 1), (.sipush 10000, 3), (.iload_n 1, 1), (.iadd, 1), (.invokevirtual 88, 3), (.iconst 1, 1), (.ireturn, 1)])]
def am_b210 : List (Nat × List (Instr × Nat)) := [
  (0, [(.iconst 0, 1), (.istore_n 1, 1), (.iconst 0, 1), (.istore_n 2, 1), (.iconst 0, 1), (.istore_n 3, 1)]),
  (6, [(.iload_n 3, 1), (.sipush 400, 3), (.if_icmp .ge 105, 3), (.aload_n 0, 1), (.iload_n 2, 1), (.invokevirtual 98, 3), (.ifCond .ne 5, 3), (.iconst 0, 1), (.ireturn, 1)]),
  (23, [(.iload_n 2, 1), (.ifCond .eq 12, 3), (.aload_n 0, 1), (.sipush 10000, 3), (.iload_n 2, 1), (.iadd, 1), (.invokevirtual 88, 3)]),
  (36, [(.aload_n 0, 1), (.getfield 40, 3), (.bipush 18, 2), (.if_icmp .eq 12, 3), (.aload_n 0, 1), (.getfield 40, 3), (.bipush 19, 2), (.if_icmp .ne 10, 3)]),
  (54, [(.aload_n 0, 1), (.getfield 40, 3), (.goto 4, 3)]),
  (61, [(.iconst 0, 1)]),
  (62, [(.istore_n 2, 1), (.iload_n 2, 1), (.ifCond .ne 41, 3), (.iload_n 1, 1), (.ifCond .eq 12, 3), (.aload_n 0, 1), (.sipush 10000, 3), (.iload_n 1, 1), (.iadd, 1), (.invokevirtual 88, 3)]),
  (80, [(.aload_n 0, 1), (.getfield 40, 3), (.bipush 16, 2), (.if_icmp .eq 14, 3), (.aload_n 0, 1), (.getfield 40, 3), (.bipush 17, 2), (.if_icmp .eq 5, 3), (.iconst 1, 1), (.ireturn, 1)]),
  (100, [(.aload_n 0, 1), (.getfield 40, 3), (.istore_n 1, 1)]),
  (105, [(.aload_n 0, 1), (.invokevirtual 66, 3), (.iinc 3 1, 3), (.goto (-106), 3)]),
  (115, [(.iconst 1, 1), (.ireturn, 1)])]
def am_b211 : List (Nat × List (Instr × Nat)) := [
  (0, [(.aload_n 0, 1), (.getfield 40, 3), (.iconst 2, 1), (.if_icmp .ne 40, 3), (.aload_n 0, 1), (.getfield 12, 3), (.getfield 101, 3), (.aload_n 0, 1), (.getfield 33, 3), (.iaload, 1), (.istore_n 2, 1), (.iload_n 1, 1), (.bipush 19, 2), (.if_icmp .ne 13, 3), (.iload_n 2, 1), (.ifCond .ne 9, 3), (.aload_n 0, 1), (.iconst 2, 1), (.invokevirtual 62, 3), (.ireturn, 1)]),
  (37, [(.aload_n 0, 1), (.iload_n 2, 1), (.invokevirtual 88, 3), (.goto 48, 3)]),
  (45, [(.iload_n 1, 1), (.bipush 19, 2), (.if_icmp .eq 36, 3), (.aload_n 0, 1), (.getfield 40, 3), (.bipush 9, 2), (.if_icmp .lt 27, 3), (.aload_n 0, 1), (.getfield 40, 3), (.bipush 14, 2), (.if_icmp .gt 18, 3), (.aload_n 0, 1), (.sipush 10000, 3), (.aload_n 0, 1), (.getfield 40, 3), (.iadd, 1), (.invokevirtual 88, 3), (.goto 9, 3)]),
  (84, [(.aload_n 0, 1), (.iconst 1, 1), (.invokevirtual 62, 3), (.ireturn, 1)]),
  (90, [(.aload_n 0, 1), (.invokevirtual 66, 3), (.iconst 1, 1), (.ireturn, 1)])]
def am_b301 : List (Nat × List (Instr × Nat)) := [
  (0, [(.aload_n 0, 1), (.aload_n 1, 1), (.getfield 33, 3), (.putfield 39, 3), (.aload_n 0, 1), (.aload_n 1, 1), (.invokevirtual 42, 3), (.aload_n 0, 1), (.invokevirtual 46, 3), (.iload_n 2, 1), (.iconst 1, 1), (.aload_n 0, 1), (.getfield 39, 3), (.ishl, 1), (.iconst 1, 1), (.isub, 1), (.invokestatic 49, 3), (.imul, 1), (.istore_n 3, 1), (.aload_n 0, 1), (.aload_n 0, 1), (.iconst 0, 1), (.iload_n 3, 1), (.invokevirtual 53, 3), (.putfield 57, 3), (.aload_n 0, 1), (.iload_n 3, 1), (.invokevirtual 60, 3), (.return_, 1)])]
def am_b302 : List (Nat × List (Instr × Nat)) := [
  (0, [(.aload_n 0, 1), (.getfield 64, 3), (.sipush 2047, 3), (.if_icmp .ne 30, 3), (.iconst 0, 1), (.istore_n 1, 1)]),
  (12, [(.iload_n 1, 1), (.sipush 4096, 3), (.if_icmp .ge 16, 3), (.aload_n 0, 1), (.getfield 30, 3), (.iload_n 1, 1), (.iconst 0, 1), (.iastore, 1), (.iinc 1 1, 3), (.goto (-17), 3)]),
  (32, [(.aload_n 0, 1), (.iconst 0, 1), (.putfield 64, 3)]),
  (37, [(.aload_n 0, 1), (.dup, 1), (.getfield 64, 3), (.iconst 1, 1), (.iadd, 1), (.putfield 64, 3), (.return_, 1)])]
def am_b303 : List (Nat × List (Instr × Nat)) := [
  (0, [(.iconst 0, 1), (.istore_n 2, 1)]),
  (2, [(.iload_n 2, 1), (.aload_n 0, 1), (.getfield 39, 3), (.if_icmp .ge 86, 3), (.aload_n 0, 1), (.getfield 18, 3), (.iload_n 2, 1), (.iconst 0, 1), (.iastore, 1), (.aload_n 0, 1), (.getfield 24, 3), (.iload_n 2, 1), (.iconst 0, 1), (.iastore, 1), (.aload_n 0, 1), (.aload_n 1, 1), (.iload_n 2, 1), (.invokevirtual 67, 3), (.istore_n 3, 1), (.iconst 1, 1), (.istore 4, 2)]),
  (34, [(.iload 4, 2), (.iconst 1, 1), (.aload_n 0, 1), (.getfield 39, 3), (.ishl, 1), (.if_icmp .ge 45, 3), (.iload 4, 2), (.invokestatic 71, 3), (.iconst 2, 1), (.if_icmp .gt 30, 3), (.iload 4, 2), (.iload_n 2, 1), (.ishr, 1), (.iconst 1, 1), (.iand, 1), (.ifCond .ne 21, 3), (.aload_n 1, 1), (.iload_n 2, 1), (.iload 4, 2), (.invokevirtual 76, 3), (.ifCond .eq 11, 3), (.aload_n 0, 1), (.iload_n 2, 1), (.iload 4, 2), (.iload_n 3, 1), (.invokevirtual 80, 3)]),
  (81, [(.iinc 4 1, 3), (.goto (-50), 3)]),
  (87, [(.iinc 2 1, 3), (.goto (-88), 3)]),
  (93, [(.aload_n 0, 1), (.getfield 27, 3), (.aload_n 0, 1), (.getfield 39, 3), (.iconst 0, 1), (.iastore, 1), (.aload_n 0, 1), (.getfield 39, 3), (.iconst 1, 1), (.isub, 1), (.istore_n 2, 1)]),
  (110, [(.iload_n 2, 1), (.ifCond .lt 38, 3), (.aload_n 0, 1), (.getfield 27, 3), (.iload_n 2, 1), (.aload_n 0, 1), (.getfield 27, 3), (.iload_n 2, 1), (.iconst 1, 1), (.iadd, 1), (.iaload, 1), (.aload_n 0, 1), (.getfield 18, 3), (.iload_n 2, 1), (.iaload, 1), (.ifCond .le 7, 3), (.iconst 1, 1), (.goto 4, 3)]),
  (140, [(.iconst 0, 1)]),
  (141, [(.iadd, 1), (.iastore, 1), (.iinc 2 (-1), 3), (.goto (-36), 3)]),
  (149, [(.return_, 1)])]
def am_b304 : List (Nat × List (Instr × Nat)) := [
  (0, [(.iconst 0, 1), (.istore_n 3, 1), (.iconst 0, 1), (.istore 4, 2)]),
  (5, [(.iload 4, 2), (.aload_n 0, 1), (.getfield 39, 3), (.if_icmp .ge 34, 3), (.iload 4, 2), (.iload_n 2, 1), (.if_icmp .eq 22, 3), (.aload_n 1, 1), (.iload_n 2, 1), (.iconst 1, 1), (.iload 4, 2), (.ishl, 1), (.invokevirtual 76, 3), (.ifCond .eq 10, 3), (.iload_n 3, 1), (.iconst 1, 1), (.iload 4, 2), (.ishl, 1), (.ior, 1), (.istore_n 3, 1)]),
  (39, [(.iinc 4 1, 3), (.goto (-37), 3)]),
  (45, [(.iload_n 3, 1), (.ireturn, 1)])]
def am_b305 : List (Nat × List (Instr × Nat)) := [
  (0, [(.aload_n 0, 1), (.getfield 15, 3), (.iload_n 1, 1), (.bipush 21, 2), (.imul, 1), (.aload_n 0, 1), (.getfield 18, 3), (.iload_n 1, 1), (.iaload, 1), (.iadd, 1), (.iload_n 2, 1), (.iastore, 1), (.aload_n 0, 1), (.getfield 18, 3), (.iload_n 1, 1), (.dup2, 1), (.iaload, 1), (.iconst 1, 1), (.iadd, 1), (.iastore, 1), (.iload_n 2, 1), (.iload_n 3, 1), (.iand, 1), (.ifCond .eq 11, 3), (.iload_n 2, 1), (.invokestatic 71, 3), (.iconst 1, 1), (.if_icmp .ne 33, 3)]),
  (41, [(.aload_n 0, 1), (.getfield 21, 3), (.iload_n 1, 1), (.bipush 21, 2), (.imul, 1), (.aload_n 0, 1), (.getfield 24, 3), (.iload_n 1, 1), (.iaload, 1), (.iadd, 1), (.iload_n 2, 1), (.invokestatic 49, 3), (.iastore, 1), (.aload_n 0, 1), (.getfield 24, 3), (.iload_n 1, 1), (.dup2, 1), (.iaload, 1), (.iconst 1, 1), (.iadd, 1), (.iastore, 1)]),
  (71, [(.return_, 1)])]
def am_b306 : List (Nat × List (Instr × Nat)) := [
  (0, [(.iconst 0, 1), (.istore_n 1, 1), (.iconst 0, 1), (.istore_n 2, 1)]),
  (4, [(.iload_n 2, 1), (.bipush 7, 2), (.if_icmp .ge 21, 3), (.iload_n 1, 1), (.iload_n 0, 1), (.iload_n 2, 1), (.ishr, 1), (.iconst 1, 1), (.iand, 1), (.iconst 2, 1), (.iload_n 2, 1), (.imul, 1), (.ishl, 1), (.ior, 1), (.istore_n 1, 1), (.iinc 2 1, 3), (.goto (-21), 3)]),
  (28, [(.iload_n 1, 1), (.ireturn, 1)])]
def am_b307 : List (Nat × List (Instr × Nat)) := [
  (0, [(.iload_n 1, 1), (.iload_n 0, 1), (.iload_n 0, 1), (.iconst 1, 1), (.ishr, 1), (.ior, 1), (.sipush 5461, 3), (.iand, 1), (.iconst (-1), 1), (.ixor, 1), (.iand, 1), (.ifCond .ne 7, 3), (.iconst 1, 1), (.goto 4, 3)]),
  (20, [(.iconst 0, 1)]),
  (21, [(.ireturn, 1)])]
def am_b308 : List (Nat × List (Instr × Nat)) := [
  (0, [(.iload_n 1, 1), (.aload_n 0, 1), (.getfield 39, 3), (.if_icmp .ge 12, 3), (.aload_n 0, 1), (.getfield 27, 3), (.iload_n 1, 1), (.iaload, 1), (.ifCond .ne 5, 3)]),
  (17, [(.iconst 0, 1), (.ireturn, 1)]),
  (19, [(.aload_n 0, 1), (.getfield 64, 3), (.bipush 17, 2), (.ishl, 1), (.iload_n 1, 1), (.bipush 14, 2), (.ishl, 1), (.ior, 1), (.iload_n 2, 1), (.ior, 1), (.istore_n 3, 1), (.iload_n 3, 1), (.invokestatic 84, 3), (.istore 4, 2), (.aload_n 0, 1), (.getfield 30, 3), (.iload 4, 2), (.iaload, 1), (.iconst 3, 1), (.ishr, 1), (.iload_n 3, 1), (.if_icmp .ne 14, 3), (.aload_n 0, 1), (.getfield 30, 3), (.iload 4, 2), (.iaload, 1), (.bipush 7, 2), (.iand, 1), (.ireturn, 1)]),
  (64, [(.iconst 0, 1), (.istore 5, 2), (.iconst 0, 1), (.istore 6, 2)]),
  (70, [(.iload 6, 2), (.aload_n 0, 1), (.getfield 24, 3), (.iload_n 1, 1), (.iaload, 1), (.if_icmp .ge 63, 3), (.iload 5, 2), (.aload_n 0, 1), (.getfield 27, 3), (.iload_n 1, 1), (.iaload, 1), (.if_icmp .ge 52, 3), (.aload_n 0, 1), (.getfield 21, 3), (.iload_n 1, 1), (.bipush 21, 2), (.imul, 1), (.iload 6, 2), (.iadd, 1), (.iaload, 1), (.istore 7, 2), (.iload_n 2, 1), (.iload 7, 2), (.invokestatic 87, 3), (.ifCond .eq 23, 3), (.iload 5, 2), (.iconst 1, 1), (.aload_n 0, 1), (.iload_n 1, 1), (.iconst 1, 1), (.iadd, 1), (.iload_n 2, 1), (.iload 7, 2), (.isub, 1), (.invokevirtual 53, 3), (.iadd, 1), (.invokestatic 90, 3), (.istore 5, 2)]),
  (135, [(.iinc 6 1, 3), (.goto (-68), 3)]),
  (141, [(.iload 5, 2), (.aload_n 0, 1), (.getfield 27, 3), (.iload_n 1, 1), (.iconst 1, 1), (.iadd, 1), (.iaload, 1), (.if_icmp .ge 18, 3), (.iload 5, 2), (.aload_n 0, 1), (.iload_n 1, 1), (.iconst 1, 1), (.iadd, 1), (.iload_n 2, 1), (.invokevirtual 53, 3), (.invokestatic 90, 3), (.istore 5, 2)]),
  (169, [(.aload_n 0, 1), (.getfield 30, 3), (.iload 4, 2), (.iload_n 3, 1), (.iconst 3, 1), (.ishl, 1), (.iload 5, 2), (.ior, 1), (.iastore, 1), (.iload 5, 2), (.ireturn, 1)])]
def am_b309 : List (Nat × List (Instr × Nat)) := [
  (0, [(.iload_n 0, 1), (.ldc 95, 2), (.imul, 1), (.bipush 20, 2), (.iushr, 1), (.ireturn, 1)])]
def am_b310 : List (Nat × List (Instr × Nat)) := [
  (0, [(.iload_n 1, 1), (.istore_n 2, 1), (.aload_n 0, 1), (.getfield 57, 3), (.istore_n 3, 1), (.iconst 0, 1), (.istore 4, 2)]),
  (10, [(.iload 4, 2), (.aload_n 0, 1), (.getfield 39, 3), (.if_icmp .ge 67, 3), (.aload_n 0, 1), (.getfield 9, 3), (.iload 4, 2), (.aload_n 0, 1), (.iload 4, 2), (.iconst 1, 1), (.iadd, 1), (.iload_n 2, 1), (.invokevirtual 53, 3), (.iload_n 3, 1), (.if_icmp .ne 7, 3), (.iconst 0, 1), (.goto 11, 3)]),
  (42, [(.aload_n 0, 1), (.iload 4, 2), (.iload_n 2, 1), (.iload_n 3, 1), (.invokevirtual 96, 3)]),
  (50, [(.iastore, 1), (.aload_n 0, 1), (.getfield 9, 3), (.iload 4, 2), (.iaload, 1), (.ifCond .eq 19, 3), (.iload_n 2, 1), (.aload_n 0, 1), (.getfield 9, 3), (.iload 4, 2), (.iaload, 1), (.invokestatic 49, 3), (.isub, 1), (.istore_n 2, 1), (.iinc 3 (-1), 3)]),
  (77, [(.iinc 4 1, 3), (.goto (-70), 3)]),
  (83, [(.return_, 1)])]
def am_b311 : List (Nat × List (Instr × Nat)) := [
  (0, [(.iconst 0, 1), (.istore 4, 2)]),
  (3, [(.iload 4, 2), (.aload_n 0, 1), (.getfield 18, 3), (.iload_n 1, 1), (.iaload, 1), (.if_icmp .ge 59, 3), (.aload_n 0, 1), (.getfield 15, 3), (.iload_n 1, 1), (.bipush 21, 2), (.imul, 1), (.iload 4, 2), (.iadd, 1), (.iaload, 1), (.istore 5, 2), (.iload 5, 2), (.invokestatic 49, 3), (.istore 6, 2), (.iload_n 2, 1), (.iload 6, 2), (.invokestatic 87, 3), (.ifCond .eq 23, 3), (.iconst 1, 1), (.aload_n 0, 1), (.iload_n 1, 1), (.iconst 1, 1), (.iadd, 1), (.iload_n 2, 1), (.iload 6, 2), (.isub, 1), (.invokevirtual 53, 3), (.iadd, 1), (.iload_n 3, 1), (.if_icmp .ne 6, 3), (.iload 5, 2), (.ireturn, 1)]),
  (64, [(.iinc 4 1, 3), (.goto (-64), 3)]),
  (70, [(.iconst 0, 1), (.ireturn, 1)])]
def am_b401 : List (Nat × List (Instr × Nat)) := [
  (0, [(.aload_n 0, 1), (.iconst 0, 1), (.putfield 21, 3), (.return_, 1)])]
def am_b402 : List (Nat × List (Instr × Nat)) := [
  (0, [(.aload_n 0, 1), (.aload_n 0, 1), (.getfield 25, 3), (.iconst 1, 1), (.iadd, 1), (.bipush 6, 2), (.if_icmp .ge 12, 3), (.aload_n 0, 1), (.getfield 25, 3), (.iconst 1, 1), (.iadd, 1), (.goto 4, 3)]),
  (21, [(.iconst 0, 1)]),
  (22, [(.putfield 25, 3), (.aload_n 0, 1), (.getfield 21, 3), (.bipush 6, 2), (.if_icmp .ge 13, 3), (.aload_n 0, 1), (.dup, 1), (.getfield 21, 3), (.iconst 1, 1), (.iadd, 1), (.putfield 21, 3)]),
  (44, [(.aload_n 0, 1), (.getfield 9, 3), (.aload_n 0, 1), (.getfield 25, 3), (.aload_n 1, 1), (.getfield 28, 3), (.iastore, 1), (.aload_n 0, 1), (.getfield 15, 3), (.aload_n 0, 1), (.getfield 25, 3), (.aload_n 1, 1), (.getfield 33, 3), (.iastore, 1), (.aload_n 1, 1), (.getfield 35, 3), (.iconst 0, 1), (.aload_n 0, 1), (.getfield 18, 3), (.aload_n 0, 1), (.getfield 25, 3), (.aload_n 1, 1), (.getfield 35, 3), (.arraylength, 1), (.imul, 1), (.aload_n 1, 1), (.getfield 35, 3), (.arraylength, 1), (.invokestatic 36, 3), (.return_, 1)])]
def am_b403 : List (Nat × List (Instr × Nat)) := [
  (0, [(.aload_n 1, 1), (.aload_n 0, 1), (.getfield 9, 3), (.aload_n 0, 1), (.getfield 25, 3), (.iaload, 1), (.putfield 28, 3), (.aload_n 1, 1), (.aload_n 0, 1), (.getfield 15, 3), (.aload_n 0, 1), (.getfield 25, 3), (.iaload, 1), (.putfield 33, 3), (.aload_n 0, 1), (.getfield 18, 3), (.aload_n 0, 1), (.getfield 25, 3), (.aload_n 1, 1), (.getfield 35, 3), (.arraylength, 1), (.imul, 1), (.aload_n 1, 1), (.getfield 35, 3), (.iconst 0, 1), (.aload_n 1, 1), (.getfield 35, 3), (.arraylength, 1), (.invokestatic 36, 3), (.aload_n 1, 1), (.dup, 1), (.getfield 42, 3), (.iconst 1, 1), (.isub, 1), (.putfield 42, 3), (.aload_n 0, 1), (.aload_n 0, 1), (.getfield 25, 3), (.ifCond .le 12, 3), (.aload_n 0, 1), (.getfield 25, 3), (.iconst 1, 1), (.isub, 1), (.goto 4, 3)]),
  (80, [(.iconst 5, 1)]),
  (81, [(.putfield 25, 3), (.aload_n 0, 1), (.dup, 1), (.getfield 21, 3), (.iconst 1, 1), (.isub, 1), (.putfield 21, 3), (.return_, 1)])]
def am_b501 : List (Nat × List (Instr × Nat)) := [
  (0, [(.aload_n 0, 1), (.iconst 0, 1), (.putfield 21, 3), (.iconst 0, 1), (.istore_n 2, 1)]),
  (7, [(.iload_n 2, 1), (.aload_n 1, 1), (.getfield 25, 3), (.if_icmp .ge 15, 3), (.aload_n 0, 1), (.aload_n 1, 1), (.iload_n 2, 1), (.invokevirtual 30, 3), (.iinc 2 1, 3), (.goto (-17), 3)]),
  (27, [(.return_, 1)])]
def am_b502 : List (Nat × List (Instr × Nat)) := [
  (0, [(.aload_n 0, 1), (.iconst 0, 1), (.putfield 21, 3), (.iconst 0, 1), (.istore_n 2, 1)]),
  (7, [(.iload_n 2, 1), (.aload_n 1, 1), (.getfield 25, 3), (.if_icmp .ge 23, 3), (.aload_n 1, 1), (.iload_n 2, 1), (.invokevirtual 34, 3), (.ifCond .eq 9, 3), (.aload_n 0, 1), (.aload_n 1, 1), (.iload_n 2, 1), (.invokevirtual 30, 3)]),
  (29, [(.iinc 2 1, 3), (.goto (-25), 3)]),
  (35, [(.return_, 1)])]
def am_b503 : List (Nat × List (Instr × Nat)) := [
  (0, [(.aload_n 0, 1), (.getfield 9, 3), (.aload_n 0, 1), (.getfield 21, 3), (.aload_n 1, 1), (.iload_n 2, 1), (.invokevirtual 38, 3), (.iastore, 1), (.aload_n 0, 1), (.getfield 15, 3), (.aload_n 0, 1), (.getfield 21, 3), (.iconst 1, 1), (.aload_n 1, 1), (.getfield 42, 3), (.iload_n 2, 1), (.iaload, 1), (.ishl, 1), (.iastore, 1), (.aload_n 0, 1), (.dup, 1), (.getfield 21, 3), (.iconst 1, 1), (.iadd, 1), (.putfield 21, 3), (.return_, 1)])]
def am_b504 : List (Nat × List (Instr × Nat)) := [
  (0, [(.iconst 0, 1), (.istore_n 1, 1), (.iconst 0, 1), (.istore_n 2, 1)]),
  (4, [(.iload_n 2, 1), (.aload_n 0, 1), (.getfield 21, 3), (.if_icmp .ge 18, 3), (.iload_n 1, 1), (.aload_n 0, 1), (.getfield 9, 3), (.iload_n 2, 1), (.iaload, 1), (.ior, 1), (.istore_n 1, 1), (.iinc 2 1, 3), (.goto (-20), 3)]),
  (27, [(.iload_n 1, 1), (.ireturn, 1)])]
def am_b505 : List (Nat × List (Instr × Nat)) := [
  (0, [(.aload_n 0, 1), (.iload_n 1, 1), (.putfield 45, 3), (.aload_n 0, 1), (.iconst 0, 1), (.putfield 48, 3), (.iconst 0, 1), (.istore_n 2, 1)]),
  (12, [(.iload_n 2, 1), (.aload_n 0, 1), (.getfield 21, 3), (.if_icmp .ge 47, 3), (.aload_n 0, 1), (.getfield 45, 3), (.aload_n 0, 1), (.aload_n 0, 1), (.getfield 45, 3), (.invokevirtual 51, 3), (.ior, 1), (.istore_n 3, 1), (.iload_n 3, 1), (.aload_n 0, 1), (.getfield 45, 3), (.if_icmp .ne 4, 3), (.return_, 1)]),
  (43, [(.aload_n 0, 1), (.iload_n 3, 1), (.putfield 45, 3), (.aload_n 0, 1), (.dup, 1), (.getfield 48, 3), (.iconst 1, 1), (.iadd, 1), (.putfield 48, 3), (.iinc 2 1, 3), (.goto (-49), 3)]),
  (64, [(.return_, 1)])]
def am_b506 : List (Nat × List (Instr × Nat)) := [
  (0, [(.iconst 0, 1), (.istore_n 2, 1), (.iconst 0, 1), (.istore_n 3, 1)]),
  (4, [(.iload_n 3, 1), (.aload_n 0, 1), (.getfield 21, 3), (.if_icmp .ge 31, 3), (.aload_n 0, 1), (.getfield 9, 3), (.iload_n 3, 1), (.iaload, 1), (.iload_n 1, 1), (.iconst (-1), 1), (.ixor, 1), (.iand, 1), (.ifCond .ne 12, 3), (.iload_n 2, 1), (.aload_n 0, 1), (.getfield 15, 3), (.iload_n 3, 1), (.iaload, 1), (.ior, 1), (.istore_n 2, 1)]),
  (34, [(.iinc 3 1, 3), (.goto (-33), 3)]),
  (40, [(.iload_n 2, 1), (.ireturn, 1)])]
def am_b507 : List (Nat × List (Instr × Nat)) := [
  (0, [(.aload_n 0, 1), (.aload_n 1, 1), (.invokevirtual 54, 3), (.aload_n 0, 1), (.iconst 0, 1), (.putfield 58, 3), (.aload_n 0, 1), (.iconst 1, 1), (.aload_n 0, 1), (.getfield 21, 3), (.ishl, 1), (.iconst 1, 1), (.isub, 1), (.putfield 61, 3), (.aload_n 1, 1), (.getfield 64, 3), (.istore_n 2, 1), (.iconst 0, 1), (.istore_n 3, 1)]),
  (29, [(.iload_n 3, 1), (.aload_n 0, 1), (.getfield 21, 3), (.if_icmp .ge 69, 3), (.aload_n 0, 1), (.iload_n 2, 1), (.invokevirtual 67, 3), (.istore 4, 2), (.iload 4, 2), (.iconst (-1), 1), (.if_icmp .ne 4, 3), (.return_, 1)]),
  (51, [(.aload_n 0, 1), (.getfield 18, 3), (.aload_n 0, 1), (.getfield 58, 3), (.iload 4, 2), (.iastore, 1), (.aload_n 0, 1), (.dup, 1), (.getfield 58, 3), (.iconst 1, 1), (.iadd, 1), (.putfield 58, 3), (.aload_n 0, 1), (.dup, 1), (.getfield 61, 3), (.iconst 1, 1), (.iload 4, 2), (.ishl, 1), (.iconst (-1), 1), (.ixor, 1), (.iand, 1), (.putfield 61, 3), (.iload_n 2, 1), (.aload_n 0, 1), (.getfield 15, 3), (.iload 4, 2), (.iaload, 1), (.ior, 1), (.istore_n 2, 1), (.iinc 3 1, 3), (.goto (-71), 3)]),
  (103, [(.return_, 1)])]
def am_b508 : List (Nat × List (Instr × Nat)) := [
  (0, [(.iconst 0, 1), (.istore_n 2, 1)]),
  (2, [(.iload_n 2, 1), (.aload_n 0, 1), (.getfield 21, 3), (.if_icmp .ge 35, 3), (.aload_n 0, 1), (.getfield 61, 3), (.iload_n 2, 1), (.ishr, 1), (.iconst 1, 1), (.iand, 1), (.ifCond .eq 18, 3), (.aload_n 0, 1), (.getfield 9, 3), (.iload_n 2, 1), (.iaload, 1), (.iload_n 1, 1), (.iconst (-1), 1), (.ixor, 1), (.iand, 1), (.ifCond .ne 5, 3), (.iload_n 2, 1), (.ireturn, 1)]),
  (36, [(.iinc 2 1, 3), (.goto (-37), 3)]),
  (42, [(.iconst (-1), 1), (.ireturn, 1)])]
def am_b509 : List (Nat × List (Instr × Nat)) := [
  (0, [(.aload_n 0, 1), (.iload_n 2, 1), (.putfield 70, 3), (.iconst 0, 1), (.istore_n 3, 1), (.iconst 0, 1), (.istore 4, 2)]),
  (10, [(.iload 4, 2), (.aload_n 0, 1), (.getfield 21, 3), (.if_icmp .ge 19, 3), (.iload_n 3, 1), (.aload_n 0, 1), (.getfield 15, 3), (.iload 4, 2), (.iaload, 1), (.ior, 1), (.istore_n 3, 1), (.iinc 4 1, 3), (.goto (-22), 3)]),
  (35, [(.iload_n 2, 1), (.iload_n 1, 1), (.iconst (-1), 1), (.ixor, 1), (.iand, 1), (.iload_n 3, 1), (.iconst (-1), 1), (.ixor, 1), (.iand, 1), (.istore 4, 2), (.aload_n 0, 1), (.iload_n 1, 1), (.iload 4, 2), (.ior, 1), (.invokevirtual 73, 3), (.istore 5, 2), (.aload_n 0, 1), (.iload_n 2, 1), (.iload 5, 2), (.iconst (-1), 1), (.ixor, 1), (.iand, 1), (.putfield 76, 3), (.iconst 0, 1), (.istore 6, 2)]),
  (69, [(.iload 6, 2), (.aload_n 0, 1), (.getfield 21, 3), (.if_icmp .ge 45, 3), (.aload_n 0, 1), (.getfield 15, 3), (.iload 6, 2), (.iaload, 1), (.iload 5, 2), (.iconst (-1), 1), (.ixor, 1), (.iand, 1), (.ifCond .eq 24, 3), (.aload_n 0, 1), (.dup, 1), (.getfield 76, 3), (.aload_n 0, 1), (.getfield 9, 3), (.iload 6, 2), (.iaload, 1), (.iload 5, 2), (.iconst (-1), 1), (.ixor, 1), (.iand, 1), (.ior, 1), (.putfield 76, 3)]),
  (114, [(.iinc 6 1, 3), (.goto (-48), 3)]),
  (120, [(.iconst 0, 1), (.istore 6, 2)]),
  (123, [(.iload 6, 2), (.bipush 16, 2), (.if_icmp .gt 33, 3), (.aload_n 0, 1), (.iload 5, 2), (.iload 6, 2), (.bipush 16, 2), (.invokevirtual 79, 3), (.istore 7, 2), (.iload 7, 2), (.iconst (-1), 1), (.if_icmp .eq 9, 3), (.iload 4, 2), (.iload 7, 2), (.ior, 1), (.ireturn, 1)]),
  (154, [(.iinc 6 1, 3), (.goto (-34), 3)]),
  (160, [(.iload 4, 2), (.aload_n 0, 1), (.getfield 76, 3), (.ior, 1), (.ireturn, 1)])]
def am_b510 : List (Nat × List (Instr × Nat)) := [
  (0, [(.iload_n 2, 1), (.ifCond .ne 20, 3), (.aload_n 0, 1), (.getfield 70, 3), (.iload_n 1, 1), (.iconst (-1), 1), (.ixor, 1), (.iand, 1), (.ifCond .ne 7, 3), (.iconst 0, 1), (.goto 4, 3)]),
  (19, [(.iconst (-1), 1)]),
  (20, [(.ireturn, 1)]),
  (21, [(.iload_n 2, 1), (.iconst 1, 1), (.isub, 1), (.istore 4, 2)]),
  (26, [(.iload 4, 2), (.iload_n 3, 1), (.if_icmp .ge 60, 3), (.aload_n 0, 1), (.getfield 76, 3), (.iload_n 1, 1), (.iconst (-1), 1), (.ixor, 1), (.iand, 1), (.iconst 1, 1), (.iload 4, 2), (.ishl, 1), (.iand, 1), (.ifCond .eq 38, 3), (.aload_n 0, 1), (.aload_n 0, 1), (.iload_n 1, 1), (.iconst 1, 1), (.iload 4, 2), (.ishl, 1), (.ior, 1), (.invokevirtual 73, 3), (.iload_n 2, 1), (.iconst 1, 1), (.isub, 1), (.iload 4, 2), (.invokevirtual 79, 3), (.istore 5, 2), (.iload 5, 2), (.iconst (-1), 1), (.if_icmp .eq 11, 3), (.iload 5, 2), (.iconst 1, 1), (.iload 4, 2), (.ishl, 1), (.ior, 1), (.ireturn, 1)]),
  (83, [(.iinc 4 1, 3), (.goto (-60), 3)]),
  (89, [(.iconst (-1), 1), (.ireturn, 1)])]
def am_b511 : List (Nat × List (Instr × Nat)) := [
  (0, [(.iload_n 1, 1), (.istore_n 2, 1), (.iconst 0, 1), (.istore_n 3, 1)]),
  (4, [(.iload_n 3, 1), (.aload_n 0, 1), (.getfield 21, 3), (.if_icmp .ge 62, 3), (.iload_n 2, 1), (.istore 4, 2), (.iconst 0, 1), (.istore 5, 2)]),
  (18, [(.iload 5, 2), (.aload_n 0, 1), (.getfield 21, 3), (.if_icmp .ge 33, 3), (.aload_n 0, 1), (.getfield 9, 3), (.iload 5, 2), (.iaload, 1), (.iload_n 2, 1), (.iconst (-1), 1), (.ixor, 1), (.iand, 1), (.ifCond .ne 13, 3), (.iload_n 2, 1), (.aload_n 0, 1), (.getfield 15, 3), (.iload 5, 2), (.iaload, 1), (.ior, 1), (.istore_n 2, 1)]),
  (51, [(.iinc 5 1, 3), (.goto (-36), 3)]),
  (57, [(.iload_n 2, 1), (.iload 4, 2), (.if_icmp .ne 5, 3), (.iload_n 2, 1), (.ireturn, 1)]),
  (65, [(.iinc 3 1, 3), (.goto (-64), 3)]),
  (71, [(.iload_n 2, 1), (.ireturn, 1)])]
def am_b601 : List (Nat × List (Instr × Nat)) := [
  (0, [(.aload_n 0, 1), (.iconst 0, 1), (.putfield 21, 3), (.iconst 0, 1), (.istore_n 3, 1), (.iconst 0, 1), (.istore 4, 2)]),
  (10, [(.iload 4, 2), (.iload_n 2, 1), (.if_icmp .ge 77, 3), (.iload_n 3, 1), (.iload_n 2, 1), (.if_icmp .ge 72, 3), (.aload_n 1, 1), (.iload_n 3, 1), (.iload_n 2, 1), (.invokestatic 25, 3), (.istore 5, 2), (.aload_n 1, 1), (.iload_n 3, 1), (.baload, 1), (.invokestatic 29, 3), (.ifCond .ne 46, 3), (.aload_n 0, 1), (.aload_n 1, 1), (.iload_n 3, 1), (.iload 5, 2), (.invokestatic 33, 3), (.iload_n 3, 1), (.invokevirtual 36, 3), (.aload_n 0, 1), (.getfield 18, 3), (.aload_n 0, 1), (.getfield 21, 3), (.iconst 1, 1), (.isub, 1), (.aload_n 1, 1), (.iload_n 3, 1), (.baload, 1), (.invokestatic 40, 3), (.ifCond .eq 13, 3), (.aload_n 1, 1), (.iload_n 3, 1), (.iload 5, 2), (.invokestatic 43, 3), (.goto 4, 3)]),
  (79, [(.iconst 0, 1)]),
  (80, [(.iastore, 1)]),
  (81, [(.iload 5, 2), (.istore_n 3, 1), (.iinc 4 1, 3), (.goto (-77), 3)]),
  (90, [(.aload_n 0, 1), (.iconst 0, 1), (.iload_n 2, 1), (.invokevirtual 36, 3), (.return_, 1)])]
def am_b602 : List (Nat × List (Instr × Nat)) := [
  (0, [(.aload_n 0, 1), (.getfield 9, 3), (.aload_n 0, 1), (.getfield 21, 3), (.iload_n 1, 1), (.iastore, 1), (.aload_n 0, 1), (.getfield 15, 3), (.aload_n 0, 1), (.getfield 21, 3), (.iload_n 2, 1), (.iastore, 1), (.aload_n 0, 1), (.dup, 1), (.getfield 21, 3), (.iconst 1, 1), (.iadd, 1), (.putfield 21, 3), (.return_, 1)])]
def am_b603 : List (Nat × List (Instr × Nat)) := [
  (0, [(.iload_n 1, 1), (.iconst 1, 1), (.iadd, 1), (.istore_n 3, 1), (.aload_n 0, 1), (.iload_n 1, 1), (.baload, 1), (.invokestatic 46, 3), (.ifCond .eq 23, 3)]),
  (13, [(.iload_n 3, 1), (.iload_n 2, 1), (.if_icmp .ge 47, 3), (.aload_n 0, 1), (.iload_n 3, 1), (.baload, 1), (.invokestatic 46, 3), (.ifCond .eq 38, 3), (.iinc 3 1, 3), (.goto (-17), 3)]),
  (33, [(.aload_n 0, 1), (.iload_n 1, 1), (.baload, 1), (.invokestatic 40, 3), (.ifCond .eq 23, 3)]),
  (42, [(.iload_n 3, 1), (.iload_n 2, 1), (.if_icmp .ge 18, 3), (.aload_n 0, 1), (.iload_n 3, 1), (.baload, 1), (.invokestatic 40, 3), (.ifCond .eq 9, 3), (.iinc 3 1, 3), (.goto (-17), 3)]),
  (62, [(.iload_n 3, 1), (.ireturn, 1)])]
def am_b604 : List (Nat × List (Instr × Nat)) := [
  (0, [(.aload_n 0, 1), (.iload_n 1, 1), (.baload, 1), (.invokestatic 40, 3), (.ifCond .eq 16, 3), (.iload_n 2, 1), (.iload_n 1, 1), (.isub, 1), (.iconst 4, 1), (.if_icmp .gt 7, 3), (.iconst 2, 1), (.goto 4, 3)]),
  (20, [(.iconst 1, 1)]),
  (21, [(.ireturn, 1)]),
  (22, [(.aload_n 0, 1), (.iload_n 1, 1), (.baload, 1), (.invokestatic 46, 3), (.ifCond .ne 10, 3), (.aload_n 0, 1), (.iload_n 1, 1), (.baload, 1), (.invokestatic 49, 3), (.ireturn, 1)]),
  (38, [(.iconst 3, 1), (.istore_n 3, 1)]),
  (40, [(.iload_n 3, 1), (.bipush 14, 2), (.if_icmp .gt 24, 3), (.iload_n 3, 1), (.invokestatic 53, 3), (.aload_n 0, 1), (.iload_n 1, 1), (.iload_n 2, 1), (.invokestatic 57, 3), (.ifCond .eq 5, 3), (.iload_n 3, 1), (.ireturn, 1)]),
  (61, [(.iinc 3 1, 3), (.goto (-24), 3)]),
  (67, [(.iconst 1, 1), (.ireturn, 1)])]
def am_b605 : List (Nat × List (Instr × Nat)) := [
  (0, [(.iconst 0, 1), (.istore_n 3, 1), (.iload_n 1, 1), (.istore 4, 2)]),
  (5, [(.iload 4, 2), (.iload_n 2, 1), (.if_icmp .ge 22, 3), (.iload_n 3, 1), (.bipush 10, 2), (.imul, 1), (.aload_n 0, 1), (.iload 4, 2), (.baload, 1), (.bipush 48, 2), (.isub, 1), (.iadd, 1), (.istore_n 3, 1), (.iinc 4 1, 3), (.goto (-22), 3)]),
  (30, [(.iload_n 3, 1), (.ireturn, 1)])]
def am_b606 : List (Nat × List (Instr × Nat)) := [
  (0, [(.aload_n 0, 1), (.invokevirtual 61, 3), (.iload_n 3, 1), (.iload_n 2, 1), (.isub, 1), (.if_icmp .eq 5, 3), (.iconst 0, 1), (.ireturn, 1)]),
  (12, [(.iconst 0, 1), (.istore 4, 2)]),
  (15, [(.iload 4, 2), (.aload_n 0, 1), (.invokevirtual 61, 3), (.if_icmp .ge 26, 3), (.aload_n 0, 1), (.iload 4, 2), (.invokevirtual 67, 3), (.aload_n 1, 1), (.iload_n 2, 1), (.iload 4, 2), (.iadd, 1), (.baload, 1), (.if_icmp .eq 5, 3), (.iconst 0, 1), (.ireturn, 1)]),
  (41, [(.iinc 4 1, 3), (.goto (-29), 3)]),
  (47, [(.iconst 1, 1), (.ireturn, 1)])]
def am_b607 : List (Nat × List (Instr × Nat)) := [
  (0, [(.iload_n 0, 1), (.bipush 32, 2), (.if_icmp .eq 9, 3), (.iload_n 0, 1), (.bipush 10, 2), (.if_icmp .ne 7, 3)]),
  (12, [(.iconst 1, 1), (.goto 4, 3)]),
  (16, [(.iconst 0, 1)]),
  (17, [(.ireturn, 1)])]
def am_b608 : List (Nat × List (Instr × Nat)) := [
  (0, [(.iload_n 0, 1), (.bipush 97, 2), (.if_icmp .lt 9, 3), (.iload_n 0, 1), (.bipush 122, 2), (.if_icmp .le 15, 3)]),
  (12, [(.iload_n 0, 1), (.bipush 65, 2), (.if_icmp .lt 13, 3), (.iload_n 0, 1), (.bipush 90, 2), (.if_icmp .gt 7, 3)]),
  (24, [(.iconst 1, 1), (.goto 4, 3)]),
  (28, [(.iconst 0, 1)]),
  (29, [(.ireturn, 1)])]
def am_b609 : List (Nat × List (Instr × Nat)) := [
  (0, [(.iload_n 0, 1), (.bipush 48, 2), (.if_icmp .lt 13, 3), (.iload_n 0, 1), (.bipush 57, 2), (.if_icmp .gt 7, 3), (.iconst 1, 1), (.goto 4, 3)]),
  (16, [(.iconst 0, 1)]),
  (17, [(.ireturn, 1)])]
def am_b610 : List (Nat × List (Instr × Nat)) := [
  (0, [(.iload_n 0, 1), (.tableswitch 99 3 14 #[63, 66, 69, 72, 75, 78, 81, 84, 87, 90, 93, 96], 63)]),
  (64, [(.ldc 71, 2), (.areturn, 1)]),
  (67, [(.ldc 73, 2), (.areturn, 1)]),
  (70, [(.ldc 75, 2), (.areturn, 1)]),
  (73, [(.ldc 77, 2), (.areturn, 1)]),
  (76, [(.ldc 79, 2), (.areturn, 1)]),
  (79, [(.ldc 81, 2), (.areturn, 1)]),
  (82, [(.ldc 83, 2), (.areturn, 1)]),
  (85, [(.ldc 85, 2), (.areturn, 1)]),
  (88, [(.ldc 87, 2), (.areturn, 1)]),
  (91, [(.ldc 89, 2), (.areturn, 1)]),
  (94, [(.ldc 91, 2), (.areturn, 1)]),
  (97, [(.ldc 93, 2), (.areturn, 1)]),
  (100, [(.ldc 95, 2), (.areturn, 1)])]
def am_b611 : List (Nat × List (Instr × Nat)) := [
  (0, [(.iload_n 0, 1), (.tableswitch 137 40 62 #[122, 125, 116, 110, 137, 113, 137, 119, 137, 137, 137, 137, 137, 137, 137, 137, 137, 137, 137, 107, 128, 131, 134], 107)]),
  (108, [(.bipush 15, 2), (.ireturn, 1)]),
  (111, [(.bipush 16, 2), (.ireturn, 1)]),
  (114, [(.bipush 17, 2), (.ireturn, 1)]),
  (117, [(.bipush 18, 2), (.ireturn, 1)]),
  (120, [(.bipush 19, 2), (.ireturn, 1)]),
  (123, [(.bipush 20, 2), (.ireturn, 1)]),
  (126, [(.bipush 21, 2), (.ireturn, 1)]),
  (129, [(.bipush 22, 2), (.ireturn, 1)]),
  (132, [(.bipush 23, 2), (.ireturn, 1)]),
  (135, [(.bipush 24, 2), (.ireturn, 1)]),
  (138, [(.iconst 1, 1), (.ireturn, 1)])]
def am_b701 : List (Nat × List (Instr × Nat)) := [
  (0, [(.aload_n 0, 1), (.aload_n 1, 1), (.getfield 38, 3), (.putfield 38, 3), (.aload_n 0, 1), (.aload_n 1, 1), (.getfield 9, 3), (.putfield 9, 3), (.aload_n 0, 1), (.aload_n 1, 1), (.getfield 41, 3), (.putfield 41, 3), (.aload_n 0, 1), (.aload_n 1, 1), (.getfield 44, 3), (.putfield 44, 3), (.aload_n 0, 1), (.aload_n 1, 1), (.getfield 47, 3), (.putfield 47, 3), (.aload_n 1, 1), (.getfield 15, 3), (.iconst 0, 1), (.aload_n 0, 1), (.getfield 15, 3), (.iconst 0, 1), (.aload_n 0, 1), (.getfield 15, 3), (.arraylength, 1), (.invokestatic 50, 3), (.aload_n 0, 1), (.aload_n 1, 1), (.getfield 56, 3), (.putfield 56, 3), (.aload_n 0, 1), (.aload_n 1, 1), (.getfield 59, 3), (.putfield 59, 3), (.aload_n 1, 1), (.getfield 19, 3), (.iconst 0, 1), (.aload_n 0, 1), (.getfield 19, 3), (.iconst 0, 1), (.aload_n 0, 1), (.getfield 19, 3), (.arraylength, 1), (.invokestatic 50, 3), (.aload_n 1, 1), (.getfield 22, 3), (.iconst 0, 1), (.aload_n 0, 1), (.getfield 22, 3), (.iconst 0, 1), (.aload_n 0, 1), (.getfield 22, 3), (.arraylength, 1), (.invokestatic 50, 3), (.aload_n 1, 1), (.getfield 25, 3), (.iconst 0, 1), (.aload_n 0, 1), (.getfield 25, 3), (.iconst 0, 1), (.aload_n 0, 1), (.getfield 25, 3), (.arraylength, 1), (.invokestatic 50, 3), (.aload_n 0, 1), (.aload_n 1, 1), (.getfield 62, 3), (.putfield 62, 3), (.aload_n 1, 1), (.getfield 28, 3), (.iconst 0, 1), (.aload_n 0, 1), (.getfield 28, 3), (.iconst 0, 1), (.aload_n 0, 1), (.getfield 28, 3), (.arraylength, 1), (.invokestatic 50, 3), (.aload_n 0, 1), (.getfield 34, 3), (.aload_n 1, 1), (.getfield 34, 3), (.invokevirtual 65, 3), (.return_, 1)])]
def am_b702 : List (Nat × List (Instr × Nat)) := [
  (0, [(.iload_n 1, 1), (.ifCond .lt 15, 3), (.iload_n 1, 1), (.aload_n 0, 1), (.getfield 47, 3), (.if_icmp .ge 7, 3), (.iconst 1, 1), (.goto 4, 3)]),
  (16, [(.iconst 0, 1)]),
  (17, [(.ireturn, 1)])]
def am_b703 : List (Nat × List (Instr × Nat)) := [
  (0, [(.iload_n 1, 1), (.ifCond .lt 15, 3), (.iload_n 1, 1), (.aload_n 0, 1), (.getfield 59, 3), (.if_icmp .ge 7, 3), (.iconst 1, 1), (.goto 4, 3)]),
  (16, [(.iconst 0, 1)]),
  (17, [(.ireturn, 1)])]
def am_b704 : List (Nat × List (Instr × Nat)) := [
  (0, [(.iload_n 1, 1), (.aload_n 0, 1), (.getfield 47, 3), (.iushr, 1), (.ifCond .ne 7, 3), (.iconst 1, 1), (.goto 4, 3)]),
  (13, [(.iconst 0, 1)]),
  (14, [(.ireturn, 1)])]
def am_b705 : List (Nat × List (Instr × Nat)) := [
  (0, [(.aload_n 0, 1), (.iload_n 1, 1), (.invokevirtual 69, 3), (.ifCond .eq 16, 3), (.aload_n 0, 1), (.iload_n 2, 1), (.invokevirtual 69, 3), (.ifCond .eq 8, 3), (.iload_n 2, 1), (.iload_n 1, 1), (.if_icmp .ne 5, 3)]),
  (21, [(.iconst 0, 1), (.ireturn, 1)]),
  (23, [(.iload_n 3, 1), (.iconst (-1), 1), (.if_icmp .ne 15, 3), (.iload 4, 2), (.iconst (-1), 1), (.if_icmp .ne 7, 3), (.iconst 1, 1), (.goto 4, 3)]),
  (38, [(.iconst 0, 1)]),
  (39, [(.ireturn, 1)]),
  (40, [(.aload_n 0, 1), (.iload_n 3, 1), (.invokevirtual 69, 3), (.ifCond .eq 13, 3), (.iload_n 3, 1), (.iload_n 1, 1), (.if_icmp .eq 8, 3), (.iload_n 3, 1), (.iload_n 2, 1), (.if_icmp .ne 5, 3)]),
  (58, [(.iconst 0, 1), (.ireturn, 1)]),
  (60, [(.iload 4, 2), (.iconst (-1), 1), (.if_icmp .eq 30, 3), (.aload_n 0, 1), (.iload 4, 2), (.invokevirtual 69, 3), (.ifCond .eq 25, 3), (.iload 4, 2), (.iload_n 1, 1), (.if_icmp .eq 19, 3), (.iload 4, 2), (.iload_n 2, 1), (.if_icmp .eq 13, 3), (.iload 4, 2), (.iload_n 3, 1), (.if_icmp .eq 7, 3)]),
  (93, [(.iconst 1, 1), (.goto 4, 3)]),
  (97, [(.iconst 0, 1)]),
  (98, [(.ireturn, 1)])]
def am_b706 : List (Nat × List (Instr × Nat)) := [
  (0, [(.aload_n 0, 1), (.getfield 59, 3), (.istore 5, 2), (.aload_n 0, 1), (.getfield 19, 3), (.iload 5, 2), (.iload_n 1, 1), (.iastore, 1), (.aload_n 0, 1), (.getfield 22, 3), (.iload 5, 2), (.iload_n 3, 1), (.iconst (-1), 1), (.if_icmp .ne 7, 3), (.iconst 1, 1), (.goto 14, 3)]),
  (29, [(.iload 4, 2), (.iconst (-1), 1), (.if_icmp .ne 7, 3), (.iconst 2, 1), (.goto 4, 3)]),
  (39, [(.iconst 3, 1)]),
  (40, [(.iastore, 1), (.aload_n 0, 1), (.getfield 25, 3), (.iload 5, 2), (.iconst 3, 1), (.imul, 1), (.iload_n 2, 1), (.iastore, 1), (.aload_n 0, 1), (.getfield 25, 3), (.iload 5, 2), (.iconst 3, 1), (.imul, 1), (.iconst 1, 1), (.iadd, 1), (.iload_n 3, 1), (.iastore, 1), (.aload_n 0, 1), (.getfield 25, 3), (.iload 5, 2), (.iconst 3, 1), (.imul, 1), (.iconst 2, 1), (.iadd, 1), (.iload 4, 2), (.iastore, 1), (.aload_n 0, 1), (.iload 5, 2), (.iconst 1, 1), (.iadd, 1), (.putfield 59, 3), (.iload 5, 2), (.ireturn, 1)])]
def am_b707 : List (Nat × List (Instr × Nat)) := [
  (0, [(.iload_n 1, 1), (.istore_n 3, 1)]),
  (2, [(.iload_n 3, 1), (.iload_n 2, 1), (.if_icmp .ge 17, 3), (.aload_n 0, 1), (.iload_n 3, 1), (.iload_n 3, 1), (.iconst 1, 1), (.iadd, 1), (.invokevirtual 73, 3), (.iinc 3 1, 3), (.goto (-16), 3)]),
  (21, [(.iload_n 1, 1), (.istore_n 3, 1)]),
  (23, [(.iload_n 3, 1), (.iload_n 2, 1), (.if_icmp .le 17, 3), (.aload_n 0, 1), (.iload_n 3, 1), (.iload_n 3, 1), (.iconst 1, 1), (.isub, 1), (.invokevirtual 73, 3), (.iinc 3 (-1), 3), (.goto (-16), 3)]),
  (42, [(.return_, 1)])]
def am_b708 : List (Nat × List (Instr × Nat)) := [
  (0, [(.aload_n 0, 1), (.getfield 19, 3), (.iload_n 1, 1), (.iload_n 2, 1), (.invokestatic 77, 3), (.aload_n 0, 1), (.getfield 22, 3), (.iload_n 1, 1), (.iload_n 2, 1), (.invokestatic 77, 3), (.iconst 0, 1), (.istore_n 3, 1)]),
  (20, [(.iload_n 3, 1), (.iconst 3, 1), (.if_icmp .ge 26, 3), (.aload_n 0, 1), (.getfield 25, 3), (.iload_n 1, 1), (.iconst 3, 1), (.imul, 1), (.iload_n 3, 1), (.iadd, 1), (.iload_n 2, 1), (.iconst 3, 1), (.imul, 1), (.iload_n 3, 1), (.iadd, 1), (.invokestatic 77, 3), (.iinc 3 1, 3), (.goto (-25), 3)]),
  (48, [(.return_, 1)])]
def am_b709 : List (Nat × List (Instr × Nat)) := [
  (0, [(.aload_n 0, 1), (.iload_n 1, 1), (.iaload, 1), (.istore_n 3, 1), (.aload_n 0, 1), (.iload_n 1, 1), (.aload_n 0, 1), (.iload_n 2, 1), (.iaload, 1), (.iastore, 1), (.aload_n 0, 1), (.iload_n 2, 1), (.iload_n 3, 1), (.iastore, 1), (.return_, 1)])]
def am_b710 : List (Nat × List (Instr × Nat)) := [
  (0, [(.iload_n 2, 1), (.ifCond .lt 26, 3), (.iload_n 2, 1), (.aload_n 0, 1), (.getfield 22, 3), (.iload_n 1, 1), (.iaload, 1), (.if_icmp .ge 16, 3), (.aload_n 0, 1), (.getfield 25, 3), (.iload_n 1, 1), (.iconst 3, 1), (.imul, 1), (.iload_n 2, 1), (.iadd, 1), (.iaload, 1), (.goto 4, 3)]),
  (27, [(.iconst (-1), 1)]),
  (28, [(.ireturn, 1)])]
def am_b711 : List (Nat × List (Instr × Nat)) := [
  (0, [(.iconst 0, 1), (.istore_n 2, 1), (.iconst 0, 1), (.istore_n 3, 1)]),
  (4, [(.iload_n 3, 1), (.aload_n 0, 1), (.getfield 22, 3), (.iload_n 1, 1), (.iaload, 1), (.if_icmp .ge 24, 3), (.iload_n 2, 1), (.iconst 1, 1), (.aload_n 0, 1), (.getfield 25, 3), (.iload_n 1, 1), (.iconst 3, 1), (.imul, 1), (.iload_n 3, 1), (.iadd, 1), (.iaload, 1), (.ishl, 1), (.ior, 1), (.istore_n 2, 1), (.iinc 3 1, 3), (.goto (-28), 3)]),
  (35, [(.iload_n 2, 1), (.ireturn, 1)])]
def am_b712 : List (Nat × List (Instr × Nat)) := [
  (0, [(.aload_n 0, 1), (.iload_n 1, 1), (.invokevirtual 81, 3), (.iload_n 2, 1), (.ishr, 1), (.iconst 1, 1), (.iand, 1), (.ifCond .eq 7, 3), (.iconst 1, 1), (.goto 4, 3)]),
  (16, [(.iconst 0, 1)]),
  (17, [(.ireturn, 1)])]
def am_b713 : List (Nat × List (Instr × Nat)) := [
  (0, [(.iconst 0, 1), (.istore_n 3, 1), (.iconst 0, 1), (.istore 4, 2)]),
  (5, [(.iload 4, 2), (.iload_n 2, 1), (.if_icmp .ge 22, 3), (.aload_n 0, 1), (.iload 4, 2), (.iload_n 1, 1), (.invokevirtual 85, 3), (.ifCond .eq 6, 3), (.iinc 3 1, 3)]),
  (24, [(.iinc 4 1, 3), (.goto (-22), 3)]),
  (30, [(.iload_n 3, 1), (.ireturn, 1)])]
def am_b714 : List (Nat × List (Instr × Nat)) := [
  (0, [(.iconst 0, 1), (.istore_n 2, 1)]),
  (2, [(.iload_n 2, 1), (.aload_n 0, 1), (.getfield 59, 3), (.if_icmp .ge 20, 3), (.aload_n 0, 1), (.iload_n 2, 1), (.iload_n 1, 1), (.invokevirtual 85, 3), (.ifCond .eq 5, 3), (.iload_n 2, 1), (.ireturn, 1)]),
  (21, [(.iinc 2 1, 3), (.goto (-22), 3)]),
  (27, [(.iconst (-1), 1), (.ireturn, 1)])]
def am_b715 : List (Nat × List (Instr × Nat)) := [
  (0, [(.iconst 0, 1), (.istore_n 2, 1), (.iconst 0, 1), (.istore_n 3, 1)]),
  (4, [(.iload_n 3, 1), (.aload_n 0, 1), (.getfield 47, 3), (.if_icmp .ge 35, 3), (.iload_n 3, 1), (.iload_n 1, 1), (.if_icmp .eq 24, 3), (.aload_n 0, 1), (.getfield 15, 3), (.iload_n 3, 1), (.iaload, 1), (.aload_n 0, 1), (.getfield 15, 3), (.iload_n 1, 1), (.iaload, 1), (.if_icmp .ne 9, 3), (.iload_n 2, 1), (.iconst 1, 1), (.iload_n 3, 1), (.ishl, 1), (.ior, 1), (.istore_n 2, 1)]),
  (38, [(.iinc 3 1, 3), (.goto (-37), 3)]),
  (44, [(.iload_n 2, 1), (.ireturn, 1)])]
def am_b716 : List (Nat × List (Instr × Nat)) := [
  (0, [(.iconst 0, 1), (.istore_n 1, 1), (.iconst 0, 1), (.istore_n 2, 1)]),
  (4, [(.iload_n 2, 1), (.aload_n 0, 1), (.getfield 59, 3), (.if_icmp .ge 20, 3), (.iload_n 1, 1), (.iconst 1, 1), (.aload_n 0, 1), (.getfield 19, 3), (.iload_n 2, 1), (.iaload, 1), (.ishl, 1), (.ior, 1), (.istore_n 1, 1), (.iinc 2 1, 3), (.goto (-22), 3)]),
  (29, [(.iload_n 1, 1), (.ireturn, 1)])]
def am_b717 : List (Nat × List (Instr × Nat)) := [
  (0, [(.aload_n 0, 1), (.aload_n 0, 1), (.getfield 19, 3), (.iload_n 1, 1), (.iaload, 1), (.aload_n 0, 1), (.iload_n 1, 1), (.invokevirtual 81, 3), (.invokevirtual 89, 3), (.ireturn, 1)])]
def am_b718 : List (Nat × List (Instr × Nat)) := [
  (0, [(.iconst 0, 1), (.istore_n 3, 1), (.iconst 0, 1), (.istore 4, 2)]),
  (5, [(.iload 4, 2), (.aload_n 0, 1), (.getfield 47, 3), (.if_icmp .ge 28, 3), (.iload_n 2, 1), (.iload 4, 2), (.ishr, 1), (.iconst 1, 1), (.iand, 1), (.ifCond .eq 13, 3), (.iload_n 3, 1), (.aload_n 0, 1), (.getfield 15, 3), (.iload 4, 2), (.iaload, 1), (.ior, 1), (.istore_n 3, 1)]),
  (33, [(.iinc 4 1, 3), (.goto (-31), 3)]),
  (39, [(.aload_n 0, 1), (.getfield 34, 3), (.bipush 9, 2), (.aload_n 0, 1), (.getfield 15, 3), (.iload_n 1, 1), (.iaload, 1), (.iload_n 3, 1), (.iand, 1), (.invokestatic 92, 3), (.invokevirtual 97, 3), (.aload_n 0, 1), (.getfield 34, 3), (.bipush 10, 2), (.aload_n 0, 1), (.getfield 15, 3), (.iload_n 1, 1), (.iaload, 1), (.iload_n 3, 1), (.iconst (-1), 1), (.ixor, 1), (.iand, 1), (.invokestatic 92, 3), (.invokevirtual 97, 3), (.aload_n 0, 1), (.getfield 34, 3), (.bipush 11, 2), (.iload_n 3, 1), (.aload_n 0, 1), (.getfield 15, 3), (.iload_n 1, 1), (.iaload, 1), (.iconst (-1), 1), (.ixor, 1), (.iand, 1), (.invokestatic 92, 3), (.invokevirtual 97, 3), (.aload_n 0, 1), (.getfield 34, 3), (.bipush 12, 2), (.iload_n 2, 1), (.invokestatic 92, 3), (.invokevirtual 97, 3), (.aload_n 0, 1), (.getfield 34, 3), (.bipush 13, 2), (.aload_n 0, 1), (.iload_n 3, 1), (.iload_n 2, 1), (.iconst 1, 1), (.iload_n 1, 1), (.ishl, 1), (.ior, 1), (.invokevirtual 100, 3), (.invokevirtual 97, 3), (.aload_n 0, 1), (.getfield 34, 3), (.bipush 14, 2), (.iload_n 1, 1), (.invokevirtual 97, 3), (.aload_n 0, 1), (.getfield 34, 3), (.invokevirtual 104, 3), (.ireturn, 1)])]
def am_b719 : List (Nat × List (Instr × Nat)) := [
  (0, [(.iconst 0, 1), (.istore_n 3, 1), (.iconst 0, 1), (.istore 4, 2)]),
  (5, [(.iload 4, 2), (.aload_n 0, 1), (.getfield 47, 3), (.if_icmp .ge 35, 3), (.iload_n 2, 1), (.iload 4, 2), (.ishr, 1), (.iconst 1, 1), (.iand, 1), (.ifCond .ne 20, 3), (.aload_n 0, 1), (.getfield 15, 3), (.iload 4, 2), (.iaload, 1), (.iload_n 1, 1), (.iconst (-1), 1), (.ixor, 1), (.iand, 1), (.ifCond .ne 6, 3), (.iinc 3 1, 3)]),
  (40, [(.iinc 4 1, 3), (.goto (-38), 3)]),
  (46, [(.iload_n 3, 1), (.ireturn, 1)])]
def am_b720 : List (Nat × List (Instr × Nat)) := [
  (0, [(.aload_n 0, 1), (.iload_n 1, 1), (.invokevirtual 81, 3), (.iconst 1, 1), (.aload_n 0, 1), (.getfield 25, 3), (.iload_n 1, 1), (.iconst 3, 1), (.imul, 1), (.iload_n 2, 1), (.iadd, 1), (.iaload, 1), (.ishl, 1), (.iconst (-1), 1), (.ixor, 1), (.iand, 1), (.istore_n 3, 1), (.iload_n 3, 1), (.iconst 1, 1), (.aload_n 0, 1), (.getfield 19, 3), (.iload_n 1, 1), (.iaload, 1), (.ishl, 1), (.ior, 1), (.istore 4, 2), (.iconst 0, 1), (.istore 5, 2), (.iconst 0, 1), (.istore 6, 2)]),
  (39, [(.iload 6, 2), (.aload_n 0, 1), (.getfield 47, 3), (.if_icmp .ge 73, 3), (.iload 4, 2), (.iload 6, 2), (.ishr, 1), (.iconst 1, 1), (.iand, 1), (.ifCond .ne 21, 3), (.aload_n 0, 1), (.iload 6, 2), (.iload_n 1, 1), (.invokevirtual 108, 3), (.aload_n 0, 1), (.getfield 9, 3), (.if_icmp .ge 7, 3), (.iconst 1, 1), (.goto 4, 3)]),
  (76, [(.iconst 0, 1)]),
  (77, [(.istore 7, 2), (.iload 7, 2), (.ifCond .eq 31, 3), (.aload_n 0, 1), (.aload_n 0, 1), (.getfield 19, 3), (.iload_n 1, 1), (.iaload, 1), (.iload_n 3, 1), (.iconst 1, 1), (.iload 6, 2), (.ishl, 1), (.ior, 1), (.invokevirtual 89, 3), (.ifCond .eq 12, 3), (.iload 5, 2), (.iconst 1, 1), (.iload 6, 2), (.ishl, 1), (.ior, 1), (.istore 5, 2)]),
  (112, [(.iinc 6 1, 3), (.goto (-76), 3)]),
  (118, [(.iload 5, 2), (.ireturn, 1)])]
def am_b721 : List (Nat × List (Instr × Nat)) := [
  (0, [(.aload_n 0, 1), (.iload_n 1, 1), (.aload_n 0, 1), (.getfield 59, 3), (.invokevirtual 111, 3), (.istore_n 3, 1), (.aload_n 0, 1), (.iload_n 2, 1), (.iload_n 1, 1), (.invokevirtual 85, 3), (.ifCond .eq 9, 3), (.iload_n 3, 1), (.iconst 1, 1), (.isub, 1), (.goto 4, 3)]),
  (25, [(.iload_n 3, 1)]),
  (26, [(.ireturn, 1)])]
def am_b722 : List (Nat × List (Instr × Nat)) := [
  (0, [(.aload_n 0, 1), (.aload_n 0, 1), (.getfield 38, 3), (.ldc 114, 2), (.imul, 1), (.ldc 115, 2), (.iadd, 1), (.putfield 38, 3), (.iload_n 1, 1), (.ifCond .le 15, 3), (.aload_n 0, 1), (.getfield 38, 3), (.bipush 8, 2), (.iushr, 1), (.iload_n 1, 1), (.irem, 1), (.goto 4, 3)]),
  (30, [(.iconst 0, 1)]),
  (31, [(.ireturn, 1)])]
def am_b723 : List (Nat × List (Instr × Nat)) := [
  (0, [(.iconst 0, 1), (.istore_n 1, 1), (.iconst 0, 1), (.istore_n 2, 1)]),
  (4, [(.iload_n 2, 1), (.aload_n 0, 1), (.getfield 59, 3), (.if_icmp .ge 41, 3), (.aload_n 0, 1), (.getfield 41, 3), (.ifCond .le 28, 3), (.aload_n 0, 1), (.sipush 1000, 3), (.invokevirtual 116, 3), (.aload_n 0, 1), (.getfield 41, 3), (.if_icmp .ge 14, 3), (.aload_n 0, 1), (.iload_n 2, 1), (.invokevirtual 119, 3), (.ifCond .eq 6, 3), (.iinc 1 1, 3)]),
  (44, [(.iinc 2 1, 3), (.goto (-43), 3)]),
  (50, [(.aload_n 0, 1), (.dup, 1), (.getfield 44, 3), (.iconst 1, 1), (.iadd, 1), (.putfield 44, 3), (.iload_n 1, 1), (.ireturn, 1)])]
def am_b724 : List (Nat × List (Instr × Nat)) := [
  (0, [(.iload_n 1, 1), (.iconst 3, 1), (.imul, 1), (.aload_n 0, 1), (.aload_n 0, 1), (.getfield 22, 3), (.iload_n 1, 1), (.iaload, 1), (.invokevirtual 116, 3), (.iadd, 1), (.istore_n 2, 1), (.aload_n 0, 1), (.aload_n 0, 1), (.getfield 47, 3), (.invokevirtual 116, 3), (.istore_n 3, 1), (.iload_n 3, 1), (.aload_n 0, 1), (.getfield 19, 3), (.iload_n 1, 1), (.iaload, 1), (.if_icmp .eq 12, 3), (.aload_n 0, 1), (.iload_n 1, 1), (.iload_n 3, 1), (.invokevirtual 85, 3), (.ifCond .eq 5, 3)]),
  (43, [(.iconst 0, 1), (.ireturn, 1)]),
  (45, [(.aload_n 0, 1), (.iload_n 1, 1), (.aload_n 0, 1), (.getfield 25, 3), (.iload_n 2, 1), (.iaload, 1), (.iload_n 3, 1), (.invokevirtual 122, 3), (.aload_n 0, 1), (.getfield 25, 3), (.iload_n 2, 1), (.iload_n 3, 1), (.iastore, 1), (.iconst 1, 1), (.ireturn, 1)])]
def am_b725 : List (Nat × List (Instr × Nat)) := [
  (0, [(.aload_n 0, 1), (.getfield 62, 3), (.bipush 80, 2), (.if_icmp .lt 4, 3), (.return_, 1)]),
  (10, [(.aload_n 0, 1), (.getfield 62, 3), (.iconst 4, 1), (.imul, 1), (.istore 4, 2), (.aload_n 0, 1), (.getfield 28, 3), (.iload 4, 2), (.aload_n 0, 1), (.getfield 44, 3), (.iastore, 1), (.aload_n 0, 1), (.getfield 28, 3), (.iload 4, 2), (.iconst 1, 1), (.iadd, 1), (.iload_n 1, 1), (.iastore, 1), (.aload_n 0, 1), (.getfield 28, 3), (.iload 4, 2), (.iconst 2, 1), (.iadd, 1), (.iload_n 2, 1), (.iastore, 1), (.aload_n 0, 1), (.getfield 28, 3), (.iload 4, 2), (.iconst 3, 1), (.iadd, 1), (.iload_n 3, 1), (.iastore, 1), (.aload_n 0, 1), (.dup, 1), (.getfield 62, 3), (.iconst 1, 1), (.iadd, 1), (.putfield 62, 3), (.return_, 1)])]
def am_b801 : List (Nat × List (Instr × Nat)) := [
  (0, [(.aload_n 0, 1), (.iconst 0, 1), (.putfield 15, 3), (.aload_n 0, 1), (.iconst 0, 1), (.putfield 19, 3), (.iconst 0, 1), (.istore_n 2, 1)]),
  (12, [(.iload_n 2, 1), (.aload_n 0, 1), (.getfield 9, 3), (.arraylength, 1), (.if_icmp .ge 16, 3), (.aload_n 0, 1), (.getfield 9, 3), (.iload_n 2, 1), (.iconst (-1), 1), (.iastore, 1), (.iinc 2 1, 3), (.goto (-19), 3)]),
  (34, [(.iconst 0, 1), (.istore_n 2, 1)]),
  (36, [(.iload_n 2, 1), (.aload_n 1, 1), (.getfield 22, 3), (.if_icmp .ge 33, 3), (.aload_n 0, 1), (.dup, 1), (.getfield 19, 3), (.aload_n 1, 1), (.iload_n 2, 1), (.invokevirtual 27, 3), (.ifCond .eq 9, 3), (.iconst 1, 1), (.iload_n 2, 1), (.ishl, 1), (.goto 4, 3)]),
  (63, [(.iconst 0, 1)]),
  (64, [(.ior, 1), (.putfield 19, 3), (.iinc 2 1, 3), (.goto (-35), 3)]),
  (74, [(.iconst 0, 1), (.istore_n 2, 1)]),
  (76, [(.iload_n 2, 1), (.aload_n 1, 1), (.getfield 22, 3), (.if_icmp .ge 55, 3), (.iload_n 2, 1), (.iconst 1, 1), (.iadd, 1), (.istore_n 3, 1)]),
  (88, [(.iload_n 3, 1), (.aload_n 1, 1), (.getfield 22, 3), (.if_icmp .ge 37, 3), (.iconst 1, 1), (.iload_n 2, 1), (.ishl, 1), (.iconst 1, 1), (.iload_n 3, 1), (.ishl, 1), (.ior, 1), (.istore 4, 2), (.aload_n 0, 1), (.getfield 19, 3), (.iload 4, 2), (.iand, 1), (.iload 4, 2), (.if_icmp .eq 10, 3), (.aload_n 0, 1), (.aload_n 1, 1), (.iload_n 2, 1), (.iload_n 3, 1), (.invokevirtual 31, 3)]),
  (124, [(.iinc 3 1, 3), (.goto (-39), 3)]),
  (130, [(.iinc 2 1, 3), (.goto (-57), 3)]),
  (136, [(.return_, 1)])]
def am_b802 : List (Nat × List (Instr × Nat)) := [
  (0, [(.iconst 0, 1), (.istore 4, 2)]),
  (3, [(.iload 4, 2), (.aload_n 1, 1), (.getfield 35, 3), (.iload_n 2, 1), (.iaload, 1), (.if_icmp .ge 81, 3), (.iconst 0, 1), (.istore 5, 2)]),
  (17, [(.iload 5, 2), (.aload_n 1, 1), (.getfield 35, 3), (.iload_n 3, 1), (.iaload, 1), (.if_icmp .ge 61, 3), (.aload_n 1, 1), (.iload_n 2, 1), (.iload 4, 2), (.aload_n 1, 1), (.getfield 38, 3), (.iload_n 3, 1), (.iconst 3, 1), (.imul, 1), (.iload 5, 2), (.iadd, 1), (.iaload, 1), (.invokestatic 41, 3), (.ifCond .eq 34, 3), (.aload_n 1, 1), (.iload_n 3, 1), (.iload 5, 2), (.aload_n 1, 1), (.getfield 38, 3), (.iload_n 2, 1), (.iconst 3, 1), (.imul, 1), (.iload 4, 2), (.iadd, 1), (.iaload, 1), (.invokestatic 41, 3), (.ifCond .eq 13, 3), (.aload_n 0, 1), (.iload_n 2, 1), (.iload_n 3, 1), (.iload 4, 2), (.iload 5, 2), (.invokevirtual 45, 3)]),
  (80, [(.iinc 5 1, 3), (.goto (-66), 3)]),
  (86, [(.iinc 4 1, 3), (.goto (-86), 3)]),
  (92, [(.return_, 1)])]
def am_b803 : List (Nat × List (Instr × Nat)) := [
  (0, [(.aload_n 0, 1), (.getfield 49, 3), (.iload_n 1, 1), (.iaload, 1), (.istore 4, 2), (.aload_n 0, 1), (.iload_n 1, 1), (.invokevirtual 52, 3), (.iconst 1, 1), (.aload_n 0, 1), (.getfield 38, 3), (.iload_n 1, 1), (.iconst 3, 1), (.imul, 1), (.iload_n 2, 1), (.iadd, 1), (.iaload, 1), (.ishl, 1), (.iconst (-1), 1), (.ixor, 1), (.iand, 1), (.istore 5, 2), (.iload_n 3, 1), (.iload 4, 2), (.if_icmp .eq 12, 3), (.iload 5, 2), (.iload_n 3, 1), (.ishr, 1), (.iconst 1, 1), (.iand, 1), (.ifCond .eq 5, 3)]),
  (45, [(.iconst 0, 1), (.ireturn, 1)]),
  (47, [(.aload_n 0, 1), (.iload 4, 2), (.iload 5, 2), (.iconst 1, 1), (.iload_n 3, 1), (.ishl, 1), (.ior, 1), (.invokevirtual 56, 3), (.ireturn, 1)])]
def am_b804 : List (Nat × List (Instr × Nat)) := [
  (0, [(.aload_n 0, 1), (.getfield 15, 3), (.ifCond .ne 32, 3), (.aload_n 0, 1), (.getfield 9, 3), (.iconst 0, 1), (.iload_n 1, 1), (.iastore, 1), (.aload_n 0, 1), (.getfield 9, 3), (.iconst 1, 1), (.iload_n 2, 1), (.iastore, 1), (.aload_n 0, 1), (.getfield 9, 3), (.iconst 2, 1), (.iload_n 3, 1), (.iastore, 1), (.aload_n 0, 1), (.getfield 9, 3), (.iconst 3, 1), (.iload 4, 2), (.iastore, 1)]),
  (36, [(.aload_n 0, 1), (.dup, 1), (.getfield 15, 3), (.iconst 1, 1), (.iadd, 1), (.putfield 15, 3), (.return_, 1)])]
def am_b901 : List (Nat × List (Instr × Nat)) := [
  (0, [(.aload_n 0, 1), (.getfield 10, 3), (.getfield 73, 3), (.istore_n 2, 1), (.aload_n 0, 1), (.getfield 10, 3), (.iload_n 1, 1), (.putfield 73, 3), (.aload_n 0, 1), (.getfield 41, 3), (.invokevirtual 76, 3), (.iload_n 2, 1), (.ireturn, 1)])]
def am_b902 : List (Nat × List (Instr × Nat)) := [
  (0, [(.aload_n 0, 1), (.getfield 10, 3), (.getfield 79, 3), (.bipush 16, 2), (.if_icmp .ge 10, 3), (.iload_n 1, 1), (.invokestatic 82, 3), (.ifCond .ne 5, 3)]),
  (19, [(.iconst (-1), 1), (.ireturn, 1)]),
  (21, [(.aload_n 0, 1), (.getfield 10, 3), (.getfield 79, 3), (.istore_n 2, 1), (.aload_n 0, 1), (.getfield 10, 3), (.getfield 86, 3), (.iload_n 2, 1), (.iload_n 1, 1), (.iastore, 1), (.aload_n 0, 1), (.getfield 10, 3), (.iload_n 2, 1), (.iconst 1, 1), (.iadd, 1), (.putfield 79, 3), (.aload_n 0, 1), (.getfield 41, 3), (.invokevirtual 76, 3), (.iload_n 2, 1), (.ireturn, 1)])]
def am_b903 : List (Nat × List (Instr × Nat)) := [
  (0, [(.iload_n 1, 1), (.tableswitch 73 0 3 #[31, 41, 51, 62], 31)]),
  (32, [(.aload_n 0, 1), (.iload_n 3, 1), (.invokevirtual 90, 3), (.istore 4, 2), (.goto 38, 3)]),
  (42, [(.aload_n 0, 1), (.iload_n 3, 1), (.invokevirtual 93, 3), (.istore 4, 2), (.goto 28, 3)]),
  (52, [(.aload_n 0, 1), (.iload_n 2, 1), (.iload_n 3, 1), (.invokevirtual 96, 3), (.istore 4, 2), (.goto 17, 3)]),
  (63, [(.aload_n 0, 1), (.iload_n 2, 1), (.iload_n 3, 1), (.invokevirtual 100, 3), (.istore 4, 2), (.goto 6, 3)]),
  (74, [(.iconst 0, 1), (.istore 4, 2)]),
  (77, [(.iload 4, 2), (.ifCond .eq 10, 3), (.aload_n 0, 1), (.getfield 41, 3), (.invokevirtual 76, 3)]),
  (89, [(.iload 4, 2), (.ireturn, 1)])]
def am_b904 : List (Nat × List (Instr × Nat)) := [
  (0, [(.aload_n 0, 1), (.getfield 10, 3), (.getfield 103, 3), (.bipush 12, 2), (.if_icmp .ge 18, 3), (.aload_n 0, 1), (.getfield 10, 3), (.iload_n 1, 1), (.iload_n 2, 1), (.iload_n 3, 1), (.iload 4, 2), (.invokevirtual 106, 3), (.ifCond .ne 5, 3)]),
  (27, [(.iconst (-1), 1), (.ireturn, 1)]),
  (29, [(.aload_n 0, 1), (.getfield 10, 3), (.iload_n 1, 1), (.iload_n 2, 1), (.iload_n 3, 1), (.iload 4, 2), (.invokevirtual 110, 3), (.istore 5, 2), (.aload_n 0, 1), (.getfield 41, 3), (.invokevirtual 76, 3), (.iload 5, 2), (.ireturn, 1)])]
def am_b905 : List (Nat × List (Instr × Nat)) := [
  (0, [(.aload_n 0, 1), (.getfield 10, 3), (.iload_n 1, 1), (.invokevirtual 114, 3), (.ifCond .ne 5, 3), (.iconst 0, 1), (.ireturn, 1)]),
  (13, [(.aload_n 0, 1), (.getfield 10, 3), (.iload_n 1, 1), (.aload_n 0, 1), (.getfield 10, 3), (.getfield 103, 3), (.iconst 1, 1), (.isub, 1), (.invokevirtual 117, 3), (.aload_n 0, 1), (.getfield 10, 3), (.dup, 1), (.getfield 103, 3), (.iconst 1, 1), (.isub, 1), (.putfield 103, 3), (.aload_n 0, 1), (.getfield 41, 3), (.invokevirtual 76, 3), (.iconst 1, 1), (.ireturn, 1)])]
def am_b906 : List (Nat × List (Instr × Nat)) := [
  (0, [(.aload_n 0, 1), (.getfield 10, 3), (.iload_n 1, 1), (.invokevirtual 114, 3), (.ifCond .eq 14, 3), (.aload_n 0, 1), (.getfield 10, 3), (.iload_n 2, 1), (.invokevirtual 114, 3), (.ifCond .ne 5, 3)]),
  (22, [(.iconst 0, 1), (.ireturn, 1)]),
  (24, [(.aload_n 0, 1), (.getfield 10, 3), (.iload_n 1, 1), (.iload_n 2, 1), (.invokevirtual 117, 3), (.aload_n 0, 1), (.getfield 41, 3), (.invokevirtual 76, 3), (.iconst 1, 1), (.ireturn, 1)])]
def am_b907 : List (Nat × List (Instr × Nat)) := [
  (0, [(.aload_n 0, 1), (.getfield 27, 3), (.bipush 20, 2), (.iadd, 1), (.sipush 400, 3), (.if_icmp .le 5, 3), (.iconst (-1), 1), (.ireturn, 1)]),
  (15, [(.aload_n 0, 1), (.iload_n 1, 1), (.invokevirtual 121, 3), (.aload_n 0, 1), (.iload_n 2, 1), (.invokevirtual 121, 3), (.aload_n 0, 1), (.iload_n 3, 1), (.invokevirtual 121, 3), (.aload_n 0, 1), (.iload 4, 2), (.invokevirtual 121, 3), (.aload_n 0, 1), (.iload 5, 2), (.invokevirtual 121, 3), (.aload_n 0, 1), (.getfield 27, 3), (.ireturn, 1)])]
def am_b908 : List (Nat × List (Instr × Nat)) := [
  (0, [(.iload_n 1, 1), (.ifCond .lt 11, 3), (.iload_n 1, 1), (.aload_n 0, 1), (.getfield 27, 3), (.if_icmp .le 5, 3)]),
  (12, [(.iconst 0, 1), (.ireturn, 1)]),
  (14, [(.aload_n 0, 1), (.iload_n 1, 1), (.putfield 27, 3), (.iconst 1, 1), (.ireturn, 1)])]
def am_b909 : List (Nat × List (Instr × Nat)) := [
  (0, [(.aload_n 0, 1), (.getfield 34, 3), (.aload_n 0, 1), (.getfield 23, 3), (.aload_n 0, 1), (.getfield 27, 3), (.invokevirtual 125, 3), (.istore_n 1, 1), (.aload_n 0, 1), (.iconst 0, 1), (.putfield 27, 3), (.iload_n 1, 1), (.ifCond .ne 5, 3), (.iconst (-1), 1), (.ireturn, 1)]),
  (27, [(.aload_n 0, 1), (.getfield 10, 3), (.getfield 129, 3), (.aload_n 0, 1), (.getfield 34, 3), (.getfield 133, 3), (.invokevirtual 134, 3), (.aload_n 0, 1), (.getfield 10, 3), (.getfield 129, 3), (.getfield 140, 3), (.ireturn, 1)])]
def am_b910 : List (Nat × List (Instr × Nat)) := [
  (0, [(.iload_n 1, 1), (.lookupswitch 43 #[(0, 27), (1, 35)], 27)]),
  (28, [(.aload_n 0, 1), (.getfield 34, 3), (.getfield 143, 3), (.ireturn, 1)]),
  (36, [(.aload_n 0, 1), (.getfield 34, 3), (.getfield 146, 3), (.ireturn, 1)]),
  (44, [(.iconst (-1), 1), (.ireturn, 1)])]
def am_b911 : List (Nat × List (Instr × Nat)) := [
  (0, [(.iload_n 1, 1), (.iconst 1, 1), (.if_icmp .lt 24, 3), (.iload_n 1, 1), (.bipush 50, 2), (.if_icmp .gt 18, 3), (.aload_n 0, 1), (.getfield 10, 3), (.getfield 149, 3), (.iload_n 1, 1), (.iadd, 1), (.sipush 9999, 3), (.if_icmp .le 5, 3)]),
  (26, [(.iconst (-1), 1), (.ireturn, 1)]),
  (28, [(.iconst 0, 1), (.istore_n 2, 1), (.iconst 0, 1), (.istore_n 3, 1)]),
  (32, [(.iload_n 3, 1), (.iload_n 1, 1), (.if_icmp .ge 30, 3), (.aload_n 0, 1), (.getfield 41, 3), (.aload_n 0, 1), (.getfield 10, 3), (.invokevirtual 152, 3), (.iload_n 2, 1), (.aload_n 0, 1), (.getfield 10, 3), (.invokevirtual 156, 3), (.iadd, 1), (.istore_n 2, 1), (.iinc 3 1, 3), (.goto (-29), 3)]),
  (64, [(.iload_n 2, 1), (.ireturn, 1)])]
def am_b912 : List (Nat × List (Instr × Nat)) := [
  (0, [(.aload_n 0, 1), (.getfield 10, 3), (.iload_n 1, 1), (.invokevirtual 160, 3), (.ifCond .ne 6, 3), (.bipush (-2), 2), (.ireturn, 1)]),
  (14, [(.iload_n 2, 1), (.tableswitch 89 0 4 #[33, 43, 55, 71, 80], 33)]),
  (48, [(.aload_n 0, 1), (.getfield 10, 3), (.getfield 86, 3), (.iload_n 1, 1), (.iaload, 1), (.ireturn, 1)]),
  (58, [(.aload_n 0, 1), (.getfield 10, 3), (.getfield 163, 3), (.iload_n 1, 1), (.ishr, 1), (.iconst 1, 1), (.iand, 1), (.ireturn, 1)]),
  (70, [(.aload_n 0, 1), (.getfield 10, 3), (.iload_n 1, 1), (.aload_n 0, 1), (.getfield 10, 3), (.getfield 103, 3), (.invokevirtual 166, 3), (.ireturn, 1)]),
  (86, [(.aload_n 0, 1), (.getfield 10, 3), (.iload_n 1, 1), (.invokevirtual 170, 3), (.ireturn, 1)]),
  (95, [(.aload_n 0, 1), (.getfield 10, 3), (.iload_n 1, 1), (.invokevirtual 174, 3), (.ireturn, 1)]),
  (104, [(.bipush (-2), 2), (.ireturn, 1)])]
def am_b913 : List (Nat × List (Instr × Nat)) := [
  (0, [(.aload_n 0, 1), (.getfield 10, 3), (.iload_n 1, 1), (.invokevirtual 114, 3), (.ifCond .ne 5, 3), (.iconst (-1), 1), (.ireturn, 1)]),
  (13, [(.iload_n 2, 1), (.tableswitch 63 0 2 #[26, 36, 46], 26)]),
  (40, [(.aload_n 0, 1), (.getfield 10, 3), (.getfield 177, 3), (.iload_n 1, 1), (.iaload, 1), (.ireturn, 1)]),
  (50, [(.aload_n 0, 1), (.getfield 10, 3), (.getfield 180, 3), (.iload_n 1, 1), (.iaload, 1), (.ireturn, 1)]),
  (60, [(.aload_n 0, 1), (.getfield 10, 3), (.iload_n 1, 1), (.invokevirtual 183, 3), (.ifCond .eq 7, 3), (.iconst 1, 1), (.goto 4, 3)]),
  (75, [(.iconst 0, 1)]),
  (76, [(.ireturn, 1)]),
  (77, [(.iload_n 2, 1), (.bipush 10, 2), (.if_icmp .lt 18, 3), (.aload_n 0, 1), (.getfield 10, 3), (.iload_n 1, 1), (.iload_n 2, 1), (.bipush 10, 2), (.isub, 1), (.invokevirtual 186, 3), (.goto 4, 3)]),
  (98, [(.iconst (-1), 1)]),
  (99, [(.ireturn, 1)])]
def am_b914 : List (Nat × List (Instr × Nat)) := [
  (0, [(.aload_n 0, 1), (.getfield 10, 3), (.iload_n 1, 1), (.invokevirtual 160, 3), (.ifCond .eq 26, 3), (.aload_n 0, 1), (.getfield 10, 3), (.iload_n 2, 1), (.invokevirtual 189, 3), (.ifCond .eq 15, 3), (.iload_n 2, 1), (.ifCond .eq 11, 3), (.iload_n 2, 1), (.iload_n 1, 1), (.ishr, 1), (.iconst 1, 1), (.iand, 1), (.ifCond .eq 5, 3)]),
  (34, [(.iconst (-1), 1), (.ireturn, 1)]),
  (36, [(.aload_n 0, 1), (.getfield 10, 3), (.iload_n 1, 1), (.iload_n 2, 1), (.invokevirtual 192, 3), (.ifCond .eq 7, 3), (.iconst 1, 1), (.goto 4, 3)]),
  (52, [(.iconst 0, 1)]),
  (53, [(.ireturn, 1)])]
def am_b915 : List (Nat × List (Instr × Nat)) := [
  (0, [(.aload_n 0, 1), (.getfield 48, 3), (.aload_n 0, 1), (.getfield 10, 3), (.invokevirtual 195, 3), (.iload_n 1, 1), (.tableswitch 52 0 2 #[28, 36, 44], 28)]),
  (40, [(.aload_n 0, 1), (.getfield 48, 3), (.getfield 198, 3), (.ireturn, 1)]),
  (48, [(.aload_n 0, 1), (.getfield 48, 3), (.getfield 201, 3), (.ireturn, 1)]),
  (56, [(.aload_n 0, 1), (.getfield 48, 3), (.getfield 204, 3), (.ireturn, 1)]),
  (64, [(.iconst (-1), 1), (.ireturn, 1)])]
def am_b916 : List (Nat × List (Instr × Nat)) := [
  (0, [(.aload_n 0, 1), (.getfield 10, 3), (.iload_n 1, 1), (.invokevirtual 189, 3), (.ifCond .eq 12, 3), (.iload_n 2, 1), (.ifCond .lt 8, 3), (.iload_n 2, 1), (.iconst 1, 1), (.if_icmp .le 5, 3)]),
  (20, [(.iconst (-1), 1), (.ireturn, 1)]),
  (22, [(.aload_n 0, 1), (.getfield 55, 3), (.aload_n 0, 1), (.getfield 10, 3), (.invokevirtual 207, 3), (.aload_n 0, 1), (.getfield 55, 3), (.iload_n 1, 1), (.invokevirtual 210, 3), (.iload_n 2, 1), (.ifCond .ne 13, 3), (.aload_n 0, 1), (.getfield 55, 3), (.getfield 213, 3), (.goto 10, 3)]),
  (55, [(.aload_n 0, 1), (.getfield 55, 3), (.getfield 216, 3)]),
  (62, [(.ireturn, 1)])]
def am_b917 : List (Nat × List (Instr × Nat)) := [
  (0, [(.aload_n 0, 1), (.getfield 55, 3), (.aload_n 0, 1), (.getfield 10, 3), (.invokevirtual 219, 3), (.iload_n 1, 1), (.ifCond .lt 26, 3), (.iload_n 1, 1), (.aload_n 0, 1), (.getfield 55, 3), (.getfield 222, 3), (.if_icmp .ge 15, 3), (.aload_n 0, 1), (.getfield 55, 3), (.getfield 225, 3), (.iload_n 1, 1), (.iaload, 1), (.goto 4, 3)]),
  (38, [(.iconst (-1), 1)]),
  (39, [(.ireturn, 1)])]
def am_b918 : List (Nat × List (Instr × Nat)) := [
  (0, [(.aload_n 0, 1), (.getfield 55, 3), (.aload_n 0, 1), (.getfield 10, 3), (.invokevirtual 219, 3), (.aload_n 0, 1), (.getfield 55, 3), (.getfield 228, 3), (.ireturn, 1)])]
def am_b919 : List (Nat × List (Instr × Nat)) := [
  (0, [(.aload_n 0, 1), (.getfield 55, 3), (.aload_n 0, 1), (.getfield 10, 3), (.invokevirtual 231, 3), (.aload_n 0, 1), (.getfield 55, 3), (.aload_n 0, 1), (.getfield 10, 3), (.getfield 163, 3), (.aload_n 0, 1), (.getfield 55, 3), (.invokevirtual 234, 3), (.invokevirtual 237, 3), (.ireturn, 1)])]
def am_b920 : List (Nat × List (Instr × Nat)) := [
  (0, [(.aload_n 0, 1), (.getfield 55, 3), (.aload_n 0, 1), (.getfield 10, 3), (.invokevirtual 207, 3), (.aload_n 0, 1), (.getfield 55, 3), (.iconst 0, 1), (.aload_n 0, 1), (.getfield 10, 3), (.invokevirtual 240, 3), (.invokevirtual 237, 3), (.ireturn, 1)])]
def am_b921 : List (Nat × List (Instr × Nat)) := [
  (0, [(.iload_n 2, 1), (.ifCond .eq 23, 3), (.iload_n 2, 1), (.bipush 10, 2), (.if_icmp .lt 21, 3), (.aload_n 0, 1), (.getfield 10, 3), (.iload_n 2, 1), (.bipush 10, 2), (.isub, 1), (.invokevirtual 160, 3), (.ifCond .eq 7, 3)]),
  (24, [(.iconst 1, 1), (.goto 4, 3)]),
  (28, [(.iconst 0, 1)]),
  (29, [(.istore_n 3, 1), (.iload_n 1, 1), (.iconst 1, 1), (.if_icmp .lt 24, 3), (.iload_n 1, 1), (.iconst 3, 1), (.if_icmp .gt 19, 3), (.aload_n 0, 1), (.getfield 10, 3), (.getfield 79, 3), (.bipush 7, 2), (.if_icmp .gt 7, 3), (.iload_n 3, 1), (.ifCond .ne 5, 3)]),
  (56, [(.iconst (-1), 1), (.ireturn, 1)]),
  (58, [(.aload_n 0, 1), (.getfield 69, 3), (.aload_n 0, 1), (.getfield 10, 3), (.iload_n 1, 1), (.invokevirtual 243, 3), (.iload_n 2, 1), (.ifCond .ne 13, 3), (.aload_n 0, 1), (.getfield 69, 3), (.getfield 247, 3), (.goto 15, 3)]),
  (84, [(.aload_n 0, 1), (.getfield 69, 3), (.getfield 250, 3), (.iload_n 2, 1), (.bipush 10, 2), (.isub, 1), (.iaload, 1)]),
  (96, [(.ireturn, 1)])]
def am_b922 : List (Nat × List (Instr × Nat)) := [
  (0, [(.aload_n 0, 1), (.getfield 10, 3), (.iload_n 1, 1), (.invokevirtual 114, 3), (.ifCond .eq 20, 3), (.iload_n 2, 1), (.ifCond .lt 16, 3), (.iload_n 2, 1), (.aload_n 0, 1), (.getfield 10, 3), (.getfield 180, 3), (.iload_n 1, 1), (.iaload, 1), (.if_icmp .lt 5, 3)]),
  (28, [(.iconst (-1), 1), (.ireturn, 1)]),
  (30, [(.aload_n 0, 1), (.getfield 10, 3), (.iload_n 1, 1), (.iload_n 2, 1), (.invokevirtual 253, 3), (.ireturn, 1)])]
def am_b923 : List (Nat × List (Instr × Nat)) := [
  (0, [(.iload_n 1, 1), (.ifCond .lt 8, 3), (.iload_n 1, 1), (.iconst 4, 1), (.if_icmp .le 5, 3)]),
  (9, [(.iconst (-1), 1), (.ireturn, 1)]),
  (11, [(.aload_n 0, 1), (.getfield 62, 3), (.aload_n 0, 1), (.getfield 10, 3), (.invokevirtual 256, 3), (.iload_n 1, 1), (.ifCond .ne 13, 3), (.aload_n 0, 1), (.getfield 62, 3), (.getfield 259, 3), (.goto 14, 3)]),
  (36, [(.aload_n 0, 1), (.getfield 62, 3), (.getfield 262, 3), (.iload_n 1, 1), (.iconst 1, 1), (.isub, 1), (.iaload, 1)]),
  (47, [(.ireturn, 1)])]
def am_b924 : List (Nat × List (Instr × Nat)) := [
  (0, [(.iload_n 1, 1), (.ifCond .lt 23, 3), (.iload_n 1, 1), (.aload_n 0, 1), (.getfield 10, 3), (.getfield 265, 3), (.if_icmp .ge 12, 3), (.iload_n 2, 1), (.ifCond .lt 8, 3), (.iload_n 2, 1), (.iconst 4, 1), (.if_icmp .lt 5, 3)]),
  (24, [(.iconst (-1), 1), (.ireturn, 1)]),
  (26, [(.aload_n 0, 1), (.getfield 10, 3), (.getfield 268, 3), (.iload_n 1, 1), (.iconst 4, 1), (.imul, 1), (.iload_n 2, 1), (.iadd, 1), (.iaload, 1), (.ireturn, 1)])]
def am_b925 : List (Nat × List (Instr × Nat)) := [
  (0, [(.aload_n 0, 1), (.getfield 41, 3), (.getfield 271, 3), (.ifCond .ne 5, 3), (.iconst 0, 1), (.ireturn, 1)]),
  (12, [(.aload_n 0, 1), (.getfield 41, 3), (.aload_n 0, 1), (.getfield 10, 3), (.invokevirtual 274, 3), (.iconst 1, 1), (.ireturn, 1)])]
def am_b926 : List (Nat × List (Instr × Nat)) := [
  (0, [(.iload_n 1, 1), (.ifCond .eq 21, 3), (.aload_n 0, 1), (.getfield 16, 3), (.aload_n 0, 1), (.getfield 10, 3), (.invokevirtual 277, 3), (.aload_n 0, 1), (.iconst 1, 1), (.putfield 19, 3), (.iconst 1, 1), (.ireturn, 1)]),
  (22, [(.aload_n 0, 1), (.getfield 19, 3), (.ifCond .ne 5, 3), (.iconst 0, 1), (.ireturn, 1)]),
  (31, [(.aload_n 0, 1), (.getfield 10, 3), (.aload_n 0, 1), (.getfield 16, 3), (.invokevirtual 277, 3), (.aload_n 0, 1), (.getfield 41, 3), (.invokevirtual 76, 3), (.iconst 1, 1), (.ireturn, 1)])]
def am_b927 : List (Nat × List (Instr × Nat)) := [
  (0, [(.iload_n 1, 1), (.tableswitch 126 0 8 #[51, 59, 67, 75, 83, 91, 99, 107, 118], 51)]),
  (52, [(.aload_n 0, 1), (.getfield 10, 3), (.getfield 79, 3), (.ireturn, 1)]),
  (60, [(.aload_n 0, 1), (.getfield 10, 3), (.getfield 103, 3), (.ireturn, 1)]),
  (68, [(.aload_n 0, 1), (.getfield 10, 3), (.getfield 279, 3), (.ireturn, 1)]),
  (76, [(.aload_n 0, 1), (.getfield 10, 3), (.getfield 282, 3), (.ireturn, 1)]),
  (84, [(.aload_n 0, 1), (.getfield 10, 3), (.getfield 149, 3), (.ireturn, 1)]),
  (92, [(.aload_n 0, 1), (.getfield 10, 3), (.getfield 265, 3), (.ireturn, 1)]),
  (100, [(.aload_n 0, 1), (.getfield 10, 3), (.getfield 73, 3), (.ireturn, 1)]),
  (108, [(.aload_n 0, 1), (.getfield 10, 3), (.getfield 129, 3), (.getfield 140, 3), (.ireturn, 1)]),
  (119, [(.aload_n 0, 1), (.getfield 41, 3), (.getfield 271, 3), (.ireturn, 1)]),
  (127, [(.iconst (-1), 1), (.ireturn, 1)])]
def am_b928 : List (Nat × List (Instr × Nat)) := [
  (0, [(.iload_n 0, 1), (.iconst 1, 1), (.if_icmp .lt 14, 3), (.iload_n 0, 1), (.sipush 1023, 3), (.if_icmp .gt 7, 3), (.iconst 1, 1), (.goto 4, 3)]),
  (16, [(.iconst 0, 1)]),
  (17, [(.ireturn, 1)])]
def am_b929 : List (Nat × List (Instr × Nat)) := [
  (0, [(.iload_n 1, 1), (.iconst 1, 1), (.if_icmp .lt 8, 3), (.iload_n 1, 1), (.iconst 3, 1), (.if_icmp .le 5, 3)]),
  (10, [(.iconst 0, 1), (.ireturn, 1)]),
  (12, [(.aload_n 0, 1), (.getfield 10, 3), (.iload_n 1, 1), (.putfield 279, 3), (.iconst 1, 1), (.ireturn, 1)])]
def am_b930 : List (Nat × List (Instr × Nat)) := [
  (0, [(.iload_n 1, 1), (.ifCond .lt 10, 3), (.iload_n 1, 1), (.sipush 1000, 3), (.if_icmp .le 5, 3)]),
  (11, [(.iconst 0, 1), (.ireturn, 1)]),
  (13, [(.aload_n 0, 1), (.getfield 10, 3), (.iload_n 1, 1), (.putfield 282, 3), (.iconst 1, 1), (.ireturn, 1)])]
def am_b931 : List (Nat × List (Instr × Nat)) := [
  (0, [(.aload_n 0, 1), (.getfield 10, 3), (.iload_n 1, 1), (.invokevirtual 160, 3), (.ifCond .eq 12, 3), (.iload_n 2, 1), (.ifCond .lt 8, 3), (.iload_n 2, 1), (.iconst 1, 1), (.if_icmp .le 5, 3)]),
  (20, [(.iconst 0, 1), (.ireturn, 1)]),
  (22, [(.aload_n 0, 1), (.getfield 10, 3), (.aload_n 0, 1), (.getfield 10, 3), (.getfield 163, 3), (.iconst 1, 1), (.iload_n 1, 1), (.ishl, 1), (.iconst (-1), 1), (.ixor, 1), (.iand, 1), (.iload_n 2, 1), (.iload_n 1, 1), (.ishl, 1), (.ior, 1), (.putfield 163, 3), (.iconst 1, 1), (.ireturn, 1)])]
def am_b932 : List (Nat × List (Instr × Nat)) := [
  (0, [(.aload_n 0, 1), (.getfield 10, 3), (.iload_n 1, 1), (.invokevirtual 160, 3), (.ifCond .eq 10, 3), (.iload_n 2, 1), (.invokestatic 82, 3), (.ifCond .ne 5, 3)]),
  (18, [(.iconst 0, 1), (.ireturn, 1)]),
  (20, [(.aload_n 0, 1), (.getfield 10, 3), (.getfield 86, 3), (.iload_n 1, 1), (.iload_n 2, 1), (.iastore, 1), (.iconst 1, 1), (.ireturn, 1)])]
def am_b933 : List (Nat × List (Instr × Nat)) := [
  (0, [(.bipush 24, 2), (.istore_n 2, 1)]),
  (3, [(.iload_n 2, 1), (.ifCond .lt 44, 3), (.aload_n 0, 1), (.getfield 27, 3), (.aload_n 0, 1), (.getfield 23, 3), (.arraylength, 1), (.if_icmp .ge 32, 3), (.aload_n 0, 1), (.getfield 23, 3), (.aload_n 0, 1), (.getfield 27, 3), (.iload_n 1, 1), (.iload_n 2, 1), (.ishr, 1), (.i2b, 1), (.bastore, 1), (.aload_n 0, 1), (.dup, 1), (.getfield 27, 3), (.iconst 1, 1), (.iadd, 1), (.putfield 27, 3), (.iinc 2 (-8), 3), (.goto (-42), 3)]),
  (48, [(.return_, 1)])]
def am_b1001 : List (Nat × List (Instr × Nat)) := [
  (0, [(.iload_n 0, 1), (.iload_n 1, 1), (.if_icmp .lt 12, 3), (.iload_n 0, 1), (.iload_n 2, 1), (.if_icmp .gt 7, 3), (.iconst 1, 1), (.goto 4, 3)]),
  (14, [(.iconst 0, 1)]),
  (15, [(.ireturn, 1)])]
def am_b1002 : List (Nat × List (Instr × Nat)) := [
  (0, [(.iload_n 1, 1), (.iconst 0, 1), (.aload_n 0, 1), (.getfield 7, 3), (.iconst 0, 1), (.iaload, 1), (.iconst 1, 1), (.isub, 1), (.invokestatic 64, 3), (.ireturn, 1)])]
def am_b1003 : List (Nat × List (Instr × Nat)) := [
  (0, [(.iload_n 1, 1), (.iconst 0, 1), (.aload_n 0, 1), (.getfield 7, 3), (.iconst 1, 1), (.iaload, 1), (.iconst 1, 1), (.isub, 1), (.invokestatic 64, 3), (.ireturn, 1)])]
def am_b1004 : List (Nat × List (Instr × Nat)) := [
  (0, [(.iload_n 1, 1), (.iconst 0, 1), (.iconst 1, 1), (.aload_n 0, 1), (.getfield 7, 3), (.iconst 0, 1), (.iaload, 1), (.ishl, 1), (.iconst 1, 1), (.isub, 1), (.invokestatic 64, 3), (.ireturn, 1)])]
def am_b1005 : List (Nat × List (Instr × Nat)) := [
  (0, [(.aload_n 0, 1), (.getfield 7, 3), (.bipush 45, 2), (.iconst 5, 1), (.iload_n 1, 1), (.imul, 1), (.iadd, 1), (.iload_n 2, 1), (.iadd, 1), (.iaload, 1), (.ireturn, 1)])]
def am_b1006 : List (Nat × List (Instr × Nat)) := [
  (0, [(.aload_n 0, 1), (.getfield 7, 3), (.bipush 45, 2), (.iconst 5, 1), (.iload_n 1, 1), (.imul, 1), (.iadd, 1), (.iload_n 2, 1), (.iadd, 1), (.iload_n 3, 1), (.iastore, 1), (.return_, 1)])]
def am_b1007 : List (Nat × List (Instr × Nat)) := [
  (0, [(.iconst 0, 1), (.istore_n 1, 1), (.iconst 0, 1), (.istore_n 2, 1)]),
  (4, [(.iload_n 2, 1), (.bipush 16, 2), (.if_icmp .ge 17, 3), (.iload_n 1, 1), (.iload_n 0, 1), (.iload_n 2, 1), (.ishr, 1), (.iconst 1, 1), (.iand, 1), (.iadd, 1), (.istore_n 1, 1), (.iinc 2 1, 3), (.goto (-17), 3)]),
  (24, [(.iload_n 1, 1), (.ireturn, 1)])]
def am_b1008 : List (Nat × List (Instr × Nat)) := [
  (0, [(.aload_n 0, 1), (.iconst 0, 1), (.putfield 68, 3), (.return_, 1)])]
def am_b1009 : List (Nat × List (Instr × Nat)) := [
  (0, [(.aload_n 0, 1), (.getfield 7, 3), (.bipush 6, 2), (.iaload, 1), (.istore_n 2, 1), (.aload_n 0, 1), (.getfield 7, 3), (.bipush 6, 2), (.iload_n 1, 1), (.iastore, 1), (.aload_n 0, 1), (.invokevirtual 71, 3), (.iload_n 2, 1), (.ireturn, 1)])]
def am_b1010 : List (Nat × List (Instr × Nat)) := [
  (0, [(.aload_n 0, 1), (.getfield 7, 3), (.bipush 6, 2), (.ldc 74, 2), (.aload_n 0, 1), (.getfield 7, 3), (.bipush 6, 2), (.iaload, 1), (.imul, 1), (.ldc 75, 2), (.iadd, 1), (.iastore, 1), (.aload_n 0, 1), (.getfield 7, 3), (.bipush 6, 2), (.iaload, 1), (.bipush 8, 2), (.iushr, 1), (.iload_n 1, 1), (.irem, 1), (.ireturn, 1)])]
def am_b1011 : List (Nat × List (Instr × Nat)) := [
  (0, [(.iload_n 1, 1), (.iconst 1, 1), (.sipush 1023, 3), (.invokestatic 64, 3), (.ifCond .eq 14, 3), (.aload_n 0, 1), (.getfield 7, 3), (.iconst 0, 1), (.iaload, 1), (.bipush 16, 2), (.if_icmp .ne 5, 3)]),
  (22, [(.iconst (-1), 1), (.ireturn, 1)]),
  (24, [(.aload_n 0, 1), (.getfield 7, 3), (.bipush 10, 2), (.aload_n 0, 1), (.getfield 7, 3), (.iconst 0, 1), (.iaload, 1), (.iadd, 1), (.iload_n 1, 1), (.iastore, 1), (.aload_n 0, 1), (.getfield 7, 3), (.bipush 26, 2), (.aload_n 0, 1), (.getfield 7, 3), (.iconst 0, 1), (.iaload, 1), (.iadd, 1), (.iconst 0, 1), (.iastore, 1), (.aload_n 0, 1), (.getfield 7, 3), (.iconst 0, 1), (.dup2, 1), (.iaload, 1), (.iconst 1, 1), (.iadd, 1), (.iastore, 1), (.aload_n 0, 1), (.invokevirtual 71, 3), (.aload_n 0, 1), (.getfield 7, 3), (.iconst 0, 1), (.iaload, 1), (.iconst 1, 1), (.isub, 1), (.ireturn, 1)])]
def am_b1012 : List (Nat × List (Instr × Nat)) := [
  (0, [(.iload_n 1, 1), (.ifCond .ne 22, 3), (.iload_n 3, 1), (.iconst 1, 1), (.iconst 3, 1), (.invokestatic 64, 3), (.ifCond .eq 13, 3), (.aload_n 0, 1), (.getfield 7, 3), (.iconst 2, 1), (.iload_n 3, 1), (.iastore, 1), (.goto 103, 3)]),
  (23, [(.iload_n 1, 1), (.iconst 1, 1), (.if_icmp .ne 24, 3), (.iload_n 3, 1), (.iconst 0, 1), (.sipush 1000, 3), (.invokestatic 64, 3), (.ifCond .eq 13, 3), (.aload_n 0, 1), (.getfield 7, 3), (.iconst 3, 1), (.iload_n 3, 1), (.iastore, 1), (.goto 77, 3)]),
  (49, [(.iload_n 1, 1), (.iconst 2, 1), (.if_icmp .ne 33, 3), (.aload_n 0, 1), (.iload_n 2, 1), (.invokevirtual 76, 3), (.ifCond .eq 25, 3), (.iload_n 3, 1), (.iconst 0, 1), (.iconst 1, 1), (.invokestatic 64, 3), (.ifCond .eq 16, 3), (.aload_n 0, 1), (.getfield 7, 3), (.bipush 26, 2), (.iload_n 2, 1), (.iadd, 1), (.iload_n 3, 1), (.iastore, 1), (.goto 42, 3)]),
  (84, [(.iload_n 1, 1), (.iconst 3, 1), (.if_icmp .ne 35, 3), (.aload_n 0, 1), (.iload_n 2, 1), (.invokevirtual 76, 3), (.ifCond .eq 27, 3), (.iload_n 3, 1), (.iconst 1, 1), (.sipush 1023, 3), (.invokestatic 64, 3), (.ifCond .eq 16, 3), (.aload_n 0, 1), (.getfield 7, 3), (.bipush 10, 2), (.iload_n 2, 1), (.iadd, 1), (.iload_n 3, 1), (.iastore, 1), (.goto 5, 3)]),
  (121, [(.iconst 0, 1), (.ireturn, 1)]),
  (123, [(.aload_n 0, 1), (.invokevirtual 71, 3), (.iconst 1, 1), (.ireturn, 1)])]
def am_b1013 : List (Nat × List (Instr × Nat)) := [
  (0, [(.aload_n 0, 1), (.iload_n 1, 1), (.invokevirtual 76, 3), (.ifCond .eq 23, 3), (.iload_n 1, 1), (.iload_n 2, 1), (.if_icmp .eq 18, 3), (.iload_n 1, 1), (.iload_n 3, 1), (.if_icmp .eq 13, 3), (.iload_n 1, 1), (.iload 4, 2), (.if_icmp .eq 7, 3), (.iconst 1, 1), (.goto 4, 3)]),
  (28, [(.iconst 0, 1)]),
  (29, [(.ireturn, 1)])]
def am_b1014 : List (Nat × List (Instr × Nat)) := [
  (0, [(.aload_n 0, 1), (.iload_n 1, 1), (.invokevirtual 76, 3), (.ifCond .eq 64, 3), (.aload_n 0, 1), (.iload_n 2, 1), (.iload_n 1, 1), (.iconst (-1), 1), (.iconst (-1), 1), (.invokevirtual 80, 3), (.ifCond .eq 53, 3), (.iload_n 3, 1), (.iconst (-1), 1), (.if_icmp .eq 14, 3), (.aload_n 0, 1), (.iload_n 3, 1), (.iload_n 1, 1), (.iload_n 2, 1), (.iconst (-1), 1), (.invokevirtual 80, 3), (.ifCond .eq 37, 3)]),
  (35, [(.iload 4, 2), (.iconst (-1), 1), (.if_icmp .eq 20, 3), (.iload_n 3, 1), (.iconst (-1), 1), (.if_icmp .eq 26, 3), (.aload_n 0, 1), (.iload 4, 2), (.iload_n 1, 1), (.iload_n 2, 1), (.iload_n 3, 1), (.invokevirtual 80, 3), (.ifCond .eq 14, 3)]),
  (58, [(.aload_n 0, 1), (.getfield 7, 3), (.iconst 1, 1), (.iaload, 1), (.bipush 12, 2), (.if_icmp .ne 5, 3)]),
  (69, [(.iconst (-1), 1), (.ireturn, 1)]),
  (71, [(.aload_n 0, 1), (.getfield 7, 3), (.iconst 1, 1), (.iaload, 1), (.istore 5, 2), (.aload_n 0, 1), (.iload 5, 2), (.iconst 0, 1), (.iload_n 1, 1), (.invokevirtual 84, 3), (.aload_n 0, 1), (.iload 5, 2), (.iconst 1, 1), (.iload_n 3, 1), (.iconst (-1), 1), (.if_icmp .ne 7, 3), (.iconst 1, 1), (.goto 14, 3)]),
  (100, [(.iload 4, 2), (.iconst (-1), 1), (.if_icmp .ne 7, 3), (.iconst 2, 1), (.goto 4, 3)]),
  (110, [(.iconst 3, 1)]),
  (111, [(.invokevirtual 84, 3), (.aload_n 0, 1), (.iload 5, 2), (.iconst 2, 1), (.iload_n 2, 1), (.invokevirtual 84, 3), (.aload_n 0, 1), (.iload 5, 2), (.iconst 3, 1), (.iload_n 3, 1), (.invokevirtual 84, 3), (.aload_n 0, 1), (.iload 5, 2), (.iconst 4, 1), (.iload 4, 2), (.invokevirtual 84, 3), (.aload_n 0, 1), (.getfield 7, 3), (.iconst 1, 1), (.dup2, 1), (.iaload, 1), (.iconst 1, 1), (.iadd, 1), (.iastore, 1), (.aload_n 0, 1), (.invokevirtual 71, 3), (.iload 5, 2), (.ireturn, 1)])]
def am_b1015 : List (Nat × List (Instr × Nat)) := [
  (0, [(.iconst 0, 1), (.istore_n 3, 1)]),
  (2, [(.iload_n 3, 1), (.iconst 5, 1), (.if_icmp .ge 21, 3), (.aload_n 0, 1), (.iload_n 2, 1), (.iload_n 3, 1), (.aload_n 0, 1), (.iload_n 1, 1), (.iload_n 3, 1), (.invokevirtual 88, 3), (.invokevirtual 84, 3), (.iinc 3 1, 3), (.goto (-20), 3)]),
  (25, [(.return_, 1)])]
def am_b1016 : List (Nat × List (Instr × Nat)) := [
  (0, [(.aload_n 0, 1), (.iload_n 1, 1), (.invokevirtual 92, 3), (.ifCond .ne 5, 3), (.iconst 0, 1), (.ireturn, 1)]),
  (10, [(.iload_n 1, 1), (.iconst 1, 1), (.iadd, 1), (.istore_n 2, 1)]),
  (14, [(.iload_n 2, 1), (.aload_n 0, 1), (.getfield 7, 3), (.iconst 1, 1), (.iaload, 1), (.if_icmp .ge 17, 3), (.aload_n 0, 1), (.iload_n 2, 1), (.iload_n 2, 1), (.iconst 1, 1), (.isub, 1), (.invokevirtual 95, 3), (.iinc 2 1, 3), (.goto (-21), 3)]),
  (38, [(.aload_n 0, 1), (.getfield 7, 3), (.iconst 1, 1), (.dup2, 1), (.iaload, 1), (.iconst 1, 1), (.isub, 1), (.iastore, 1), (.aload_n 0, 1), (.invokevirtual 71, 3), (.iconst 1, 1), (.ireturn, 1)])]
def am_b1017 : List (Nat × List (Instr × Nat)) := [
  (0, [(.aload_n 0, 1), (.iload_n 1, 1), (.invokevirtual 92, 3), (.ifCond .eq 11, 3), (.aload_n 0, 1), (.iload_n 2, 1), (.invokevirtual 92, 3), (.ifCond .ne 5, 3)]),
  (16, [(.iconst 0, 1), (.ireturn, 1)]),
  (18, [(.iconst 0, 1), (.istore_n 3, 1)]),
  (20, [(.iload_n 3, 1), (.iconst 5, 1), (.if_icmp .ge 21, 3), (.aload_n 0, 1), (.getfield 19, 3), (.iload_n 3, 1), (.aload_n 0, 1), (.iload_n 1, 1), (.iload_n 3, 1), (.invokevirtual 88, 3), (.iastore, 1), (.iinc 3 1, 3), (.goto (-20), 3)]),
  (43, [(.iload_n 1, 1), (.istore_n 3, 1)]),
  (45, [(.iload_n 3, 1), (.iload_n 2, 1), (.if_icmp .ge 17, 3), (.aload_n 0, 1), (.iload_n 3, 1), (.iconst 1, 1), (.iadd, 1), (.iload_n 3, 1), (.invokevirtual 95, 3), (.iinc 3 1, 3), (.goto (-16), 3)]),
  (64, [(.iload_n 1, 1), (.istore_n 3, 1)]),
  (66, [(.iload_n 3, 1), (.iload_n 2, 1), (.if_icmp .le 17, 3), (.aload_n 0, 1), (.iload_n 3, 1), (.iconst 1, 1), (.isub, 1), (.iload_n 3, 1), (.invokevirtual 95, 3), (.iinc 3 (-1), 3), (.goto (-16), 3)]),
  (85, [(.iconst 0, 1), (.istore_n 3, 1)]),
  (87, [(.iload_n 3, 1), (.iconst 5, 1), (.if_icmp .ge 21, 3), (.aload_n 0, 1), (.iload_n 2, 1), (.iload_n 3, 1), (.aload_n 0, 1), (.getfield 19, 3), (.iload_n 3, 1), (.iaload, 1), (.invokevirtual 84, 3), (.iinc 3 1, 3), (.goto (-20), 3)]),
  (110, [(.aload_n 0, 1), (.invokevirtual 71, 3), (.iconst 1, 1), (.ireturn, 1)])]
def am_b1018 : List (Nat × List (Instr × Nat)) := [
  (0, [(.aload_n 0, 1), (.getfield 99, 3), (.bipush 20, 2), (.iadd, 1), (.sipush 400, 3), (.if_icmp .le 5, 3), (.iconst (-1), 1), (.ireturn, 1)]),
  (15, [(.iconst 0, 1), (.istore 6, 2)]),
  (18, [(.iload 6, 2), (.bipush 20, 2), (.if_icmp .ge 93, 3), (.iload 6, 2), (.iconst 4, 1), (.if_icmp .ge 7, 3), (.iload_n 1, 1), (.goto 39, 3)]),
  (35, [(.iload 6, 2), (.bipush 8, 2), (.if_icmp .ge 7, 3), (.iload_n 2, 1), (.goto 28, 3)]),
  (46, [(.iload 6, 2), (.bipush 12, 2), (.if_icmp .ge 7, 3), (.iload_n 3, 1), (.goto 17, 3)]),
  (57, [(.iload 6, 2), (.bipush 16, 2), (.if_icmp .ge 8, 3), (.iload 4, 2), (.goto 5, 3)]),
  (69, [(.iload 5, 2)]),
  (71, [(.istore 7, 2), (.aload_n 0, 1), (.getfield 28, 3), (.aload_n 0, 1), (.getfield 99, 3), (.iload 7, 2), (.bipush 24, 2), (.bipush 8, 2), (.iload 6, 2), (.iconst 4, 1), (.irem, 1), (.imul, 1), (.isub, 1), (.ishr, 1), (.sipush 255, 3), (.iand, 1), (.iastore, 1), (.aload_n 0, 1), (.dup, 1), (.getfield 99, 3), (.iconst 1, 1), (.iadd, 1), (.putfield 99, 3), (.iinc 6 1, 3), (.goto (-94), 3)]),
  (115, [(.aload_n 0, 1), (.getfield 99, 3), (.ireturn, 1)])]
def am_b1019 : List (Nat × List (Instr × Nat)) := [
  (0, [(.iload_n 1, 1), (.iconst 0, 1), (.aload_n 0, 1), (.getfield 99, 3), (.invokestatic 64, 3), (.ifCond .ne 5, 3), (.iconst 0, 1), (.ireturn, 1)]),
  (14, [(.aload_n 0, 1), (.iload_n 1, 1), (.putfield 99, 3), (.iconst 1, 1), (.ireturn, 1)])]
def am_b1020 : List (Nat × List (Instr × Nat)) := [
  (0, [(.iload_n 1, 1), (.aload_n 0, 1), (.getfield 99, 3), (.if_icmp .ge 12, 3), (.aload_n 0, 1), (.getfield 28, 3), (.iload_n 1, 1), (.iaload, 1), (.goto 4, 3)]),
  (17, [(.iconst (-1), 1)]),
  (18, [(.ireturn, 1)])]
def am_b1021 : List (Nat × List (Instr × Nat)) := [
  (0, [(.iload_n 0, 1), (.bipush 97, 2), (.bipush 122, 2), (.invokestatic 64, 3), (.ifCond .ne 14, 3), (.iload_n 0, 1), (.bipush 65, 2), (.bipush 90, 2), (.invokestatic 64, 3), (.ifCond .eq 7, 3)]),
  (22, [(.iconst 1, 1), (.goto 4, 3)]),
  (26, [(.iconst 0, 1)]),
  (27, [(.ireturn, 1)])]
def am_b1022 : List (Nat × List (Instr × Nat)) := [
  (0, [(.iload_n 0, 1), (.bipush 48, 2), (.bipush 57, 2), (.invokestatic 64, 3), (.ireturn, 1)])]
def am_b1023 : List (Nat × List (Instr × Nat)) := [
  (0, [(.aload_n 0, 1), (.getfield 102, 3), (.aload_n 0, 1), (.getfield 105, 3), (.isub, 1), (.aload_n 1, 1), (.invokevirtual 108, 3), (.if_icmp .ne 7, 3), (.iconst 1, 1), (.goto 4, 3)]),
  (20, [(.iconst 0, 1)]),
  (21, [(.istore_n 2, 1), (.iconst 0, 1), (.istore_n 3, 1)]),
  (24, [(.iload_n 3, 1), (.aload_n 1, 1), (.invokevirtual 108, 3), (.if_icmp .ge 38, 3), (.iload_n 2, 1), (.ifCond .eq 34, 3), (.aload_n 0, 1), (.getfield 28, 3), (.aload_n 0, 1), (.getfield 105, 3), (.iload_n 3, 1), (.iadd, 1), (.iaload, 1), (.aload_n 1, 1), (.iload_n 3, 1), (.invokevirtual 114, 3), (.if_icmp .ne 7, 3), (.iconst 1, 1), (.goto 4, 3)]),
  (59, [(.iconst 0, 1)]),
  (60, [(.istore_n 2, 1), (.iinc 3 1, 3), (.goto (-40), 3)]),
  (67, [(.iload_n 2, 1), (.ireturn, 1)])]
def am_b1024 : List (Nat × List (Instr × Nat)) := [
  (0, [(.aload_n 0, 1), (.ldc 118, 2), (.invokevirtual 120, 3), (.ifCond .eq 6, 3), (.bipush 41, 2), (.ireturn, 1)]),
  (12, [(.aload_n 0, 1), (.ldc 124, 2), (.invokevirtual 120, 3), (.ifCond .eq 6, 3), (.bipush 42, 2), (.ireturn, 1)]),
  (24, [(.aload_n 0, 1), (.ldc 126, 2), (.invokevirtual 120, 3), (.ifCond .eq 6, 3), (.bipush 43, 2), (.ireturn, 1)]),
  (36, [(.aload_n 0, 1), (.ldc 128, 2), (.invokevirtual 120, 3), (.ifCond .eq 6, 3), (.bipush 44, 2), (.ireturn, 1)]),
  (48, [(.aload_n 0, 1), (.ldc 130, 2), (.invokevirtual 120, 3), (.ifCond .eq 6, 3), (.bipush 45, 2), (.ireturn, 1)]),
  (60, [(.aload_n 0, 1), (.ldc 132, 2), (.invokevirtual 120, 3), (.ifCond .eq 8, 3), (.bipush 46, 2), (.goto 4, 3)]),
  (74, [(.iconst 1, 1)]),
  (75, [(.ireturn, 1)])]
def am_b1025 : List (Nat × List (Instr × Nat)) := [
  (0, [(.aload_n 0, 1), (.ldc 134, 2), (.invokevirtual 120, 3), (.ifCond .eq 5, 3), (.iconst 3, 1), (.ireturn, 1)]),
  (11, [(.aload_n 0, 1), (.ldc 136, 2), (.invokevirtual 120, 3), (.ifCond .eq 5, 3), (.iconst 4, 1), (.ireturn, 1)]),
  (22, [(.aload_n 0, 1), (.ldc 138, 2), (.invokevirtual 120, 3), (.ifCond .eq 5, 3), (.iconst 5, 1), (.ireturn, 1)]),
  (33, [(.aload_n 0, 1), (.ldc 140, 2), (.invokevirtual 120, 3), (.ifCond .eq 6, 3), (.bipush 6, 2), (.ireturn, 1)]),
  (45, [(.aload_n 0, 1), (.ldc 142, 2), (.invokevirtual 120, 3), (.ifCond .eq 6, 3), (.bipush 20, 2), (.ireturn, 1)]),
  (57, [(.aload_n 0, 1), (.ldc 144, 2), (.invokevirtual 120, 3), (.ifCond .eq 8, 3), (.bipush 21, 2), (.goto 7, 3)]),
  (71, [(.aload_n 0, 1), (.invokevirtual 146, 3)]),
  (75, [(.ireturn, 1)])]
def am_b1026 : List (Nat × List (Instr × Nat)) := [
  (0, [(.aload_n 0, 1), (.aload_n 0, 1), (.getfield 102, 3), (.invokevirtual 149, 3), (.bipush 32, 2), (.if_icmp .eq 16, 3), (.aload_n 0, 1), (.aload_n 0, 1), (.getfield 102, 3), (.invokevirtual 149, 3), (.bipush 10, 2), (.if_icmp .ne 16, 3)]),
  (26, [(.aload_n 0, 1), (.dup, 1), (.getfield 102, 3), (.iconst 1, 1), (.iadd, 1), (.putfield 102, 3), (.goto (-36), 3)]),
  (39, [(.aload_n 0, 1), (.aload_n 0, 1), (.getfield 102, 3), (.putfield 105, 3), (.aload_n 0, 1), (.aload_n 0, 1), (.getfield 102, 3), (.invokevirtual 149, 3), (.istore_n 1, 1), (.iload_n 1, 1), (.iconst (-1), 1), (.if_icmp .ne 11, 3), (.aload_n 0, 1), (.iconst 0, 1), (.putfield 153, 3), (.goto 240, 3)]),
  (69, [(.iload_n 1, 1), (.invokestatic 156, 3), (.ifCond .eq 41, 3)]),
  (76, [(.aload_n 0, 1), (.aload_n 0, 1), (.getfield 102, 3), (.invokevirtual 149, 3), (.invokestatic 156, 3), (.ifCond .eq 16, 3), (.aload_n 0, 1), (.dup, 1), (.getfield 102, 3), (.iconst 1, 1), (.iadd, 1), (.putfield 102, 3), (.goto (-24), 3)]),
  (103, [(.aload_n 0, 1), (.aload_n 0, 1), (.invokevirtual 159, 3), (.putfield 153, 3), (.goto 195, 3)]),
  (114, [(.iload_n 1, 1), (.invokestatic 162, 3), (.ifCond .eq 96, 3), (.aload_n 0, 1), (.iconst 0, 1), (.putfield 165, 3)]),
  (126, [(.aload_n 0, 1), (.aload_n 0, 1), (.getfield 102, 3), (.invokevirtual 149, 3), (.invokestatic 162, 3), (.ifCond .eq 52, 3), (.aload_n 0, 1), (.getfield 102, 3), (.aload_n 0, 1), (.getfield 105, 3), (.iconst 4, 1), (.iadd, 1), (.if_icmp .ge 26, 3), (.aload_n 0, 1), (.bipush 10, 2), (.aload_n 0, 1), (.getfield 165, 3), (.imul, 1), (.aload_n 0, 1), (.aload_n 0, 1), (.getfield 102, 3), (.invokevirtual 149, 3), (.iadd, 1), (.bipush 48, 2), (.isub, 1), (.putfield 165, 3)]),
  (176, [(.aload_n 0, 1), (.dup, 1), (.getfield 102, 3), (.iconst 1, 1), (.iadd, 1), (.putfield 102, 3), (.goto (-60), 3)]),
  (189, [(.aload_n 0, 1), (.aload_n 0, 1), (.getfield 102, 3), (.aload_n 0, 1), (.getfield 105, 3), (.isub, 1), (.iconst 5, 1), (.if_icmp .ge 7, 3), (.iconst 2, 1), (.goto 4, 3)]),
  (207, [(.iconst 1, 1)]),
  (208, [(.putfield 153, 3), (.goto 95, 3)]),
  (214, [(.aload_n 0, 1), (.dup, 1), (.getfield 102, 3), (.iconst 1, 1), (.iadd, 1), (.putfield 102, 3), (.iload_n 1, 1), (.bipush 59, 2), (.if_icmp .eq 57, 3), (.iload_n 1, 1), (.bipush 43, 2), (.if_icmp .eq 51, 3), (.iload_n 1, 1), (.bipush 45, 2), (.if_icmp .eq 45, 3), (.iload_n 1, 1), (.bipush 42, 2), (.if_icmp .eq 39, 3), (.iload_n 1, 1), (.bipush 47, 2), (.if_icmp .eq 33, 3), (.iload_n 1, 1), (.bipush 40, 2), (.if_icmp .eq 27, 3), (.iload_n 1, 1), (.bipush 41, 2), (.if_icmp .eq 21, 3), (.iload_n 1, 1), (.bipush 60, 2), (.if_icmp .eq 15, 3), (.iload_n 1, 1), (.bipush 61, 2), (.if_icmp .eq 9, 3), (.iload_n 1, 1), (.bipush 62, 2), (.if_icmp .ne 7, 3)]),
  (284, [(.iconst 1, 1), (.goto 4, 3)]),
  (288, [(.iconst 0, 1)]),
  (289, [(.istore_n 2, 1), (.aload_n 0, 1), (.iload_n 2, 1), (.ifCond .eq 10, 3), (.bipush 100, 2), (.iload_n 1, 1), (.iadd, 1), (.goto 4, 3)]),
  (302, [(.iconst 1, 1)]),
  (303, [(.putfield 153, 3)]),
  (306, [(.return_, 1)])]
def am_b1027 : List (Nat × List (Instr × Nat)) := [
  (0, [(.aload_n 0, 1), (.iload_n 1, 1), (.putfield 168, 3), (.aload_n 0, 1), (.aload_n 0, 1), (.getfield 105, 3), (.putfield 171, 3), (.iconst 0, 1), (.ireturn, 1)])]
def am_b1028 : List (Nat × List (Instr × Nat)) := [
  (0, [(.aload_n 0, 1), (.getfield 153, 3), (.iload_n 1, 1), (.if_icmp .eq 9, 3), (.aload_n 0, 1), (.iconst 1, 1), (.invokevirtual 174, 3), (.ireturn, 1)]),
  (14, [(.aload_n 0, 1), (.invokevirtual 177, 3), (.iconst 1, 1), (.ireturn, 1)])]
def am_b1029 : List (Nat × List (Instr × Nat)) := [
  (0, [(.aload_n 0, 1), (.getfield 25, 3), (.iconst 2, 1), (.aload_n 0, 1), (.getfield 180, 3), (.imul, 1), (.iload_n 1, 1), (.iastore, 1), (.aload_n 0, 1), (.getfield 25, 3), (.iconst 2, 1), (.aload_n 0, 1), (.getfield 180, 3), (.imul, 1), (.iconst 1, 1), (.iadd, 1), (.iload_n 2, 1), (.iastore, 1), (.aload_n 0, 1), (.dup, 1), (.getfield 180, 3), (.iconst 1, 1), (.iadd, 1), (.putfield 180, 3), (.return_, 1)])]
def am_b1030 : List (Nat × List (Instr × Nat)) := [
  (0, [(.aload_n 0, 1), (.getfield 183, 3), (.bipush 8, 2), (.if_icmp .ne 9, 3), (.aload_n 0, 1), (.iconst 3, 1), (.invokevirtual 174, 3), (.ireturn, 1)]),
  (15, [(.aload_n 0, 1), (.dup, 1), (.getfield 183, 3), (.iconst 1, 1), (.iadd, 1), (.putfield 183, 3), (.aload_n 0, 1), (.invokevirtual 177, 3), (.iconst 1, 1), (.ireturn, 1)])]
def am_b1031 : List (Nat × List (Instr × Nat)) := [
  (0, [(.aload_n 0, 1), (.invokevirtual 186, 3), (.ifCond .ne 5, 3), (.iconst 0, 1), (.ireturn, 1)]),
  (9, [(.aload_n 0, 1), (.getfield 153, 3), (.sipush 143, 3), (.if_icmp .eq 13, 3), (.aload_n 0, 1), (.getfield 153, 3), (.sipush 145, 3), (.if_icmp .ne 43, 3)]),
  (29, [(.aload_n 0, 1), (.getfield 153, 3), (.sipush 143, 3), (.if_icmp .ne 8, 3), (.bipush 13, 2), (.goto 5, 3)]),
  (44, [(.bipush 14, 2)]),
  (46, [(.istore_n 1, 1), (.aload_n 0, 1), (.invokevirtual 177, 3), (.aload_n 0, 1), (.invokevirtual 186, 3), (.ifCond .ne 5, 3), (.iconst 0, 1), (.ireturn, 1)]),
  (60, [(.aload_n 0, 1), (.iload_n 1, 1), (.iconst 0, 1), (.invokevirtual 190, 3), (.goto (-57), 3)]),
  (69, [(.iconst 1, 1), (.ireturn, 1)])]
def am_b1032 : List (Nat × List (Instr × Nat)) := [
  (0, [(.aload_n 0, 1), (.invokevirtual 193, 3), (.ifCond .ne 5, 3), (.iconst 0, 1), (.ireturn, 1)]),
  (9, [(.aload_n 0, 1), (.getfield 153, 3), (.sipush 142, 3), (.if_icmp .eq 13, 3), (.aload_n 0, 1), (.getfield 153, 3), (.sipush 147, 3), (.if_icmp .ne 89, 3)]),
  (29, [(.aload_n 0, 1), (.getfield 153, 3), (.sipush 147, 3), (.if_icmp .ne 7, 3), (.iconst 1, 1), (.goto 4, 3)]),
  (43, [(.iconst 0, 1)]),
  (44, [(.istore_n 1, 1), (.aload_n 0, 1), (.invokevirtual 177, 3), (.iload_n 1, 1), (.ifCond .eq 46, 3), (.aload_n 0, 1), (.getfield 165, 3), (.istore_n 2, 1), (.aload_n 0, 1), (.getfield 153, 3), (.iconst 2, 1), (.if_icmp .eq 9, 3), (.aload_n 0, 1), (.iconst 1, 1), (.invokevirtual 174, 3), (.ireturn, 1)]),
  (72, [(.iload_n 2, 1), (.ifCond .ne 9, 3), (.aload_n 0, 1), (.iconst 2, 1), (.invokevirtual 174, 3), (.ireturn, 1)]),
  (82, [(.aload_n 0, 1), (.invokevirtual 177, 3), (.aload_n 0, 1), (.bipush 16, 2), (.iload_n 2, 1), (.invokevirtual 190, 3), (.goto 19, 3)]),
  (96, [(.aload_n 0, 1), (.invokevirtual 193, 3), (.ifCond .ne 5, 3), (.iconst 0, 1), (.ireturn, 1)]),
  (105, [(.aload_n 0, 1), (.bipush 15, 2), (.iconst 0, 1), (.invokevirtual 190, 3)]),
  (112, [(.goto (-103), 3)]),
  (115, [(.iconst 1, 1), (.ireturn, 1)])]
def am_b1033 : List (Nat × List (Instr × Nat)) := [
  (0, [(.aload_n 0, 1), (.getfield 153, 3), (.bipush 41, 2), (.bipush 46, 2), (.invokestatic 64, 3), (.istore_n 1, 1), (.aload_n 0, 1), (.getfield 153, 3), (.iconst 2, 1), (.if_icmp .eq 13, 3), (.iload_n 1, 1), (.ifCond .ne 9, 3), (.aload_n 0, 1), (.iconst 1, 1), (.invokevirtual 174, 3), (.ireturn, 1)]),
  (30, [(.aload_n 0, 1), (.iload_n 1, 1), (.ifCond .eq 13, 3), (.aload_n 0, 1), (.getfield 153, 3), (.bipush 40, 2), (.isub, 1), (.goto 4, 3)]),
  (45, [(.iconst 0, 1)]),
  (46, [(.aload_n 0, 1), (.getfield 165, 3), (.invokevirtual 190, 3), (.aload_n 0, 1), (.invokevirtual 177, 3), (.iconst 1, 1), (.ireturn, 1)])]
def am_b1034 : List (Nat × List (Instr × Nat)) := [
  (0, [(.aload_n 0, 1), (.invokevirtual 196, 3), (.ifCond .ne 5, 3), (.iconst 0, 1), (.ireturn, 1)]),
  (9, [(.aload_n 0, 1), (.getfield 153, 3), (.iconst 4, 1), (.if_icmp .ne 26, 3), (.aload_n 0, 1), (.invokevirtual 177, 3), (.aload_n 0, 1), (.invokevirtual 196, 3), (.ifCond .ne 5, 3), (.iconst 0, 1), (.ireturn, 1)]),
  (30, [(.aload_n 0, 1), (.bipush 22, 2), (.iconst 0, 1), (.invokevirtual 190, 3), (.goto (-28), 3)]),
  (40, [(.iconst 1, 1), (.ireturn, 1)])]
def am_b1035 : List (Nat × List (Instr × Nat)) := [
  (0, [(.aload_n 0, 1), (.invokevirtual 199, 3), (.ifCond .ne 5, 3), (.iconst 0, 1), (.ireturn, 1)]),
  (9, [(.aload_n 0, 1), (.getfield 153, 3), (.iconst 5, 1), (.if_icmp .ne 26, 3), (.aload_n 0, 1), (.invokevirtual 177, 3), (.aload_n 0, 1), (.invokevirtual 199, 3), (.ifCond .ne 5, 3), (.iconst 0, 1), (.ireturn, 1)]),
  (30, [(.aload_n 0, 1), (.bipush 21, 2), (.iconst 0, 1), (.invokevirtual 190, 3), (.goto (-28), 3)]),
  (40, [(.iconst 1, 1), (.ireturn, 1)])]
def am_b1036 : List (Nat × List (Instr × Nat)) := [
  (0, [(.aload_n 0, 1), (.getfield 153, 3), (.bipush 6, 2), (.if_icmp .ne 38, 3), (.aload_n 0, 1), (.invokevirtual 202, 3), (.ifCond .eq 10, 3), (.aload_n 0, 1), (.invokevirtual 199, 3), (.ifCond .ne 5, 3)]),
  (23, [(.iconst 0, 1), (.ireturn, 1)]),
  (25, [(.aload_n 0, 1), (.dup, 1), (.getfield 183, 3), (.iconst 1, 1), (.isub, 1), (.putfield 183, 3), (.aload_n 0, 1), (.bipush 20, 2), (.iconst 0, 1), (.invokevirtual 190, 3), (.iconst 1, 1), (.ireturn, 1)]),
  (44, [(.aload_n 0, 1), (.getfield 153, 3), (.sipush 140, 3), (.if_icmp .ne 41, 3), (.aload_n 0, 1), (.invokevirtual 202, 3), (.ifCond .eq 20, 3), (.aload_n 0, 1), (.invokevirtual 205, 3), (.ifCond .eq 13, 3), (.aload_n 0, 1), (.sipush 141, 3), (.invokevirtual 208, 3), (.ifCond .ne 5, 3)]),
  (78, [(.iconst 0, 1), (.ireturn, 1)]),
  (80, [(.aload_n 0, 1), (.dup, 1), (.getfield 183, 3), (.iconst 1, 1), (.isub, 1), (.putfield 183, 3), (.iconst 1, 1), (.ireturn, 1)]),
  (92, [(.aload_n 0, 1), (.invokevirtual 211, 3), (.ifCond .ne 5, 3), (.iconst 0, 1), (.ireturn, 1)]),
  (101, [(.aload_n 0, 1), (.getfield 153, 3), (.sipush 160, 3), (.if_icmp .ne 8, 3), (.bipush 17, 2), (.goto 34, 3)]),
  (116, [(.aload_n 0, 1), (.getfield 153, 3), (.sipush 161, 3), (.if_icmp .ne 8, 3), (.bipush 18, 2), (.goto 19, 3)]),
  (131, [(.aload_n 0, 1), (.getfield 153, 3), (.sipush 162, 3), (.if_icmp .ne 8, 3), (.bipush 19, 2), (.goto 4, 3)]),
  (146, [(.iconst (-1), 1)]),
  (147, [(.istore_n 1, 1), (.iload_n 1, 1), (.iconst (-1), 1), (.if_icmp .ne 9, 3), (.aload_n 0, 1), (.iconst 1, 1), (.invokevirtual 174, 3), (.ireturn, 1)]),
  (159, [(.aload_n 0, 1), (.invokevirtual 177, 3), (.aload_n 0, 1), (.invokevirtual 211, 3), (.ifCond .ne 5, 3), (.iconst 0, 1), (.ireturn, 1)]),
  (172, [(.aload_n 0, 1), (.iload_n 1, 1), (.iconst 0, 1), (.invokevirtual 190, 3), (.iconst 1, 1), (.ireturn, 1)])]
def am_b1037 : List (Nat × List (Instr × Nat)) := [
  (0, [(.aload_n 0, 1), (.getfield 153, 3), (.bipush 20, 2), (.bipush 21, 2), (.invokestatic 64, 3), (.ifCond .ne 9, 3), (.aload_n 0, 1), (.iconst 1, 1), (.invokevirtual 174, 3), (.ireturn, 1)]),
  (20, [(.aload_n 0, 1), (.getfield 214, 3), (.bipush 16, 2), (.if_icmp .ne 9, 3), (.aload_n 0, 1), (.iconst 3, 1), (.invokevirtual 174, 3), (.ireturn, 1)]),
  (35, [(.aload_n 0, 1), (.getfield 22, 3), (.iconst 3, 1), (.aload_n 0, 1), (.getfield 214, 3), (.imul, 1), (.aload_n 0, 1), (.getfield 153, 3), (.bipush 20, 2), (.isub, 1), (.iastore, 1), (.aload_n 0, 1), (.iconst 0, 1), (.putfield 183, 3), (.aload_n 0, 1), (.invokevirtual 177, 3), (.aload_n 0, 1), (.getfield 22, 3), (.iconst 3, 1), (.aload_n 0, 1), (.getfield 214, 3), (.imul, 1), (.iconst 1, 1), (.iadd, 1), (.aload_n 0, 1), (.getfield 180, 3), (.iastore, 1), (.aload_n 0, 1), (.getfield 153, 3), (.iconst 3, 1), (.if_icmp .ne 16, 3), (.aload_n 0, 1), (.invokevirtual 177, 3), (.aload_n 0, 1), (.invokevirtual 205, 3), (.ifCond .ne 5, 3), (.iconst 0, 1), (.ireturn, 1)]),
  (100, [(.aload_n 0, 1), (.getfield 22, 3), (.iconst 3, 1), (.aload_n 0, 1), (.getfield 214, 3), (.imul, 1), (.iconst 2, 1), (.iadd, 1), (.aload_n 0, 1), (.getfield 180, 3), (.iastore, 1), (.aload_n 0, 1), (.sipush 159, 3), (.invokevirtual 208, 3), (.ireturn, 1)])]
def am_b1038 : List (Nat × List (Instr × Nat)) := [
  (0, [(.aload_n 0, 1), (.iconst 0, 1), (.putfield 168, 3), (.aload_n 0, 1), (.iconst 0, 1), (.putfield 102, 3), (.aload_n 0, 1), (.iconst 0, 1), (.putfield 214, 3), (.aload_n 0, 1), (.iconst 0, 1), (.putfield 180, 3), (.aload_n 0, 1), (.invokevirtual 177, 3), (.iconst 1, 1), (.istore_n 1, 1)]),
  (26, [(.iload_n 1, 1), (.ifCond .eq 36, 3), (.aload_n 0, 1), (.getfield 153, 3), (.ifCond .eq 29, 3), (.aload_n 0, 1), (.invokevirtual 217, 3), (.istore_n 1, 1), (.aload_n 0, 1), (.dup, 1), (.getfield 214, 3), (.iload_n 1, 1), (.ifCond .eq 7, 3), (.iconst 1, 1), (.goto 4, 3)]),
  (55, [(.iconst 0, 1)]),
  (56, [(.iadd, 1), (.putfield 214, 3), (.goto (-34), 3)]),
  (63, [(.aload_n 0, 1), (.iconst 0, 1), (.putfield 99, 3), (.aload_n 0, 1), (.aload_n 0, 1), (.getfield 168, 3), (.putfield 220, 3), (.aload_n 0, 1), (.iload_n 1, 1), (.ifCond .eq 7, 3), (.iconst (-1), 1), (.goto 7, 3)]),
  (85, [(.aload_n 0, 1), (.getfield 171, 3)]),
  (89, [(.putfield 37, 3), (.iload_n 1, 1), (.ifCond .ne 5, 3), (.iconst (-1), 1), (.ireturn, 1)]),
  (98, [(.aload_n 0, 1), (.getfield 7, 3), (.sipush 435, 3), (.aload_n 0, 1), (.getfield 214, 3), (.iastore, 1), (.iconst 0, 1), (.istore_n 2, 1)]),
  (112, [(.iload_n 2, 1), (.aload_n 0, 1), (.getfield 214, 3), (.if_icmp .ge 67, 3), (.aload_n 0, 1), (.getfield 7, 3), (.sipush 440, 3), (.iload_n 2, 1), (.iadd, 1), (.aload_n 0, 1), (.getfield 22, 3), (.iconst 3, 1), (.iload_n 2, 1), (.imul, 1), (.iaload, 1), (.iastore, 1), (.aload_n 0, 1), (.getfield 7, 3), (.sipush 460, 3), (.iload_n 2, 1), (.iadd, 1), (.aload_n 0, 1), (.getfield 22, 3), (.iconst 3, 1), (.iload_n 2, 1), (.imul, 1), (.iconst 1, 1), (.iadd, 1), (.iaload, 1), (.iastore, 1), (.aload_n 0, 1), (.getfield 7, 3), (.sipush 480, 3), (.iload_n 2, 1), (.iadd, 1), (.aload_n 0, 1), (.getfield 22, 3), (.iconst 3, 1), (.iload_n 2, 1), (.imul, 1), (.iconst 2, 1), (.iadd, 1), (.iaload, 1), (.iastore, 1), (.iinc 2 1, 3), (.goto (-69), 3)]),
  (184, [(.iconst 0, 1), (.istore_n 2, 1)]),
  (186, [(.iload_n 2, 1), (.iconst 2, 1), (.aload_n 0, 1), (.getfield 180, 3), (.imul, 1), (.if_icmp .ge 25, 3), (.aload_n 0, 1), (.getfield 7, 3), (.sipush 500, 3), (.iload_n 2, 1), (.iadd, 1), (.aload_n 0, 1), (.getfield 25, 3), (.iload_n 2, 1), (.iaload, 1), (.iastore, 1), (.iinc 2 1, 3), (.goto (-29), 3)]),
  (218, [(.aload_n 0, 1), (.getfield 214, 3), (.ireturn, 1)])]
def am_b1039 : List (Nat × List (Instr × Nat)) := [
  (0, [(.iload_n 1, 1), (.ifCond .ne 10, 3), (.aload_n 0, 1), (.getfield 220, 3), (.goto 16, 3)]),
  (11, [(.iload_n 1, 1), (.iconst 1, 1), (.if_icmp .ne 10, 3), (.aload_n 0, 1), (.getfield 37, 3), (.goto 4, 3)]),
  (23, [(.iconst (-1), 1)]),
  (24, [(.ireturn, 1)])]
def am_b1040 : List (Nat × List (Instr × Nat)) := [
  (0, [(.iload_n 0, 1), (.tableswitch 100 13 21 #[51, 55, 59, 100, 63, 74, 85, 100, 96], 51)]),
  (52, [(.iload_n 1, 1), (.iload_n 2, 1), (.iadd, 1), (.ireturn, 1)]),
  (56, [(.iload_n 1, 1), (.iload_n 2, 1), (.isub, 1), (.ireturn, 1)]),
  (60, [(.iload_n 1, 1), (.iload_n 2, 1), (.imul, 1), (.ireturn, 1)]),
  (64, [(.iload_n 1, 1), (.iload_n 2, 1), (.if_icmp .ge 7, 3), (.iconst 1, 1), (.goto 4, 3)]),
  (73, [(.iconst 0, 1)]),
  (74, [(.ireturn, 1)]),
  (75, [(.iload_n 1, 1), (.iload_n 2, 1), (.if_icmp .ne 7, 3), (.iconst 1, 1), (.goto 4, 3)]),
  (84, [(.iconst 0, 1)]),
  (85, [(.ireturn, 1)]),
  (86, [(.iload_n 1, 1), (.iload_n 2, 1), (.if_icmp .le 7, 3), (.iconst 1, 1), (.goto 4, 3)]),
  (95, [(.iconst 0, 1)]),
  (96, [(.ireturn, 1)]),
  (97, [(.iload_n 1, 1), (.iload_n 2, 1), (.iand, 1), (.ireturn, 1)]),
  (101, [(.iload_n 1, 1), (.iload_n 2, 1), (.ior, 1), (.ireturn, 1)])]
def am_b1041 : List (Nat × List (Instr × Nat)) := [
  (0, [(.iconst 0, 1), (.istore_n 3, 1), (.iload_n 1, 1), (.istore 4, 2)]),
  (5, [(.iload 4, 2), (.iload_n 2, 1), (.if_icmp .ge 158, 3), (.aload_n 0, 1), (.getfield 7, 3), (.sipush 500, 3), (.iconst 2, 1), (.iload 4, 2), (.imul, 1), (.iadd, 1), (.iaload, 1), (.istore 5, 2), (.aload_n 0, 1), (.getfield 7, 3), (.sipush 500, 3), (.iconst 2, 1), (.iload 4, 2), (.imul, 1), (.iadd, 1), (.iconst 1, 1), (.iadd, 1), (.iaload, 1), (.istore 6, 2), (.iload 5, 2), (.bipush 13, 2), (.if_icmp .ge 32, 3), (.aload_n 0, 1), (.getfield 31, 3), (.iload_n 3, 1), (.iload 5, 2), (.ifCond .ne 8, 3), (.iload 6, 2), (.goto 10, 3)]),
  (65, [(.aload_n 0, 1), (.getfield 34, 3), (.iload 5, 2), (.iaload, 1)]),
  (72, [(.iastore, 1), (.iinc 3 1, 3), (.goto 84, 3)]),
  (79, [(.iload 5, 2), (.bipush 16, 2), (.if_icmp .ne 19, 3), (.aload_n 0, 1), (.getfield 31, 3), (.iload_n 3, 1), (.iconst 1, 1), (.isub, 1), (.dup2, 1), (.iaload, 1), (.iload 6, 2), (.idiv, 1), (.iastore, 1), (.goto 61, 3)]),
  (102, [(.iload 5, 2), (.bipush 20, 2), (.if_icmp .ne 24, 3), (.aload_n 0, 1), (.getfield 31, 3), (.iload_n 3, 1), (.iconst 1, 1), (.isub, 1), (.iconst 1, 1), (.aload_n 0, 1), (.getfield 31, 3), (.iload_n 3, 1), (.iconst 1, 1), (.isub, 1), (.iaload, 1), (.isub, 1), (.iastore, 1), (.goto 33, 3)]),
  (130, [(.iinc 3 (-1), 3), (.aload_n 0, 1), (.getfield 31, 3), (.iload_n 3, 1), (.iconst 1, 1), (.isub, 1), (.iload 5, 2), (.aload_n 0, 1), (.getfield 31, 3), (.iload_n 3, 1), (.iconst 1, 1), (.isub, 1), (.iaload, 1), (.aload_n 0, 1), (.getfield 31, 3), (.iload_n 3, 1), (.iaload, 1), (.invokestatic 223, 3), (.iastore, 1)]),
  (160, [(.iinc 4 1, 3), (.goto (-158), 3)]),
  (166, [(.aload_n 0, 1), (.getfield 31, 3), (.iconst 0, 1), (.iaload, 1), (.ireturn, 1)])]
def am_b1042 : List (Nat × List (Instr × Nat)) := [
  (0, [(.iconst 0, 1), (.istore_n 2, 1), (.iconst 0, 1), (.istore_n 3, 1)]),
  (4, [(.iload_n 3, 1), (.aload_n 0, 1), (.getfield 7, 3), (.iconst 0, 1), (.iaload, 1), (.if_icmp .ge 34, 3), (.iload_n 2, 1), (.iload_n 1, 1), (.iload_n 3, 1), (.ishr, 1), (.iconst 1, 1), (.iand, 1), (.iconst 1, 1), (.if_icmp .ne 15, 3), (.aload_n 0, 1), (.getfield 7, 3), (.bipush 10, 2), (.iload_n 3, 1), (.iadd, 1), (.iaload, 1), (.goto 4, 3)]),
  (36, [(.iconst 0, 1)]),
  (37, [(.ior, 1), (.istore_n 2, 1), (.iinc 3 1, 3), (.goto (-38), 3)]),
  (45, [(.iload_n 2, 1), (.ireturn, 1)])]
def am_b1043 : List (Nat × List (Instr × Nat)) := [
  (0, [(.aload_n 0, 1), (.iload_n 2, 1), (.invokevirtual 227, 3), (.istore_n 3, 1), (.aload_n 0, 1), (.getfield 34, 3), (.iconst 1, 1), (.aload_n 0, 1), (.getfield 7, 3), (.bipush 10, 2), (.iload_n 1, 1), (.iadd, 1), (.iaload, 1), (.iload_n 3, 1), (.iand, 1), (.invokestatic 230, 3), (.iastore, 1), (.aload_n 0, 1), (.getfield 34, 3), (.iconst 2, 1), (.aload_n 0, 1), (.getfield 7, 3), (.bipush 10, 2), (.iload_n 1, 1), (.iadd, 1), (.iaload, 1), (.iload_n 3, 1), (.iconst (-1), 1), (.ixor, 1), (.iand, 1), (.invokestatic 230, 3), (.iastore, 1), (.aload_n 0, 1), (.getfield 34, 3), (.iconst 3, 1), (.iload_n 3, 1), (.aload_n 0, 1), (.getfield 7, 3), (.bipush 10, 2), (.iload_n 1, 1), (.iadd, 1), (.iaload, 1), (.iconst (-1), 1), (.ixor, 1), (.iand, 1), (.invokestatic 230, 3), (.iastore, 1), (.aload_n 0, 1), (.getfield 34, 3), (.iconst 4, 1), (.iload_n 2, 1), (.invokestatic 230, 3), (.iastore, 1), (.aload_n 0, 1), (.getfield 34, 3), (.iconst 5, 1), (.iconst 0, 1), (.iastore, 1), (.iconst 0, 1), (.istore 4, 2)]),
  (90, [(.iload 4, 2), (.aload_n 0, 1), (.getfield 7, 3), (.iconst 0, 1), (.iaload, 1), (.if_icmp .ge 55, 3), (.aload_n 0, 1), (.getfield 34, 3), (.iconst 5, 1), (.dup2, 1), (.iaload, 1), (.iload 4, 2), (.iload_n 1, 1), (.if_icmp .eq 33, 3), (.iload_n 2, 1), (.iload 4, 2), (.ishr, 1), (.iconst 1, 1), (.iand, 1), (.ifCond .ne 24, 3), (.aload_n 0, 1), (.getfield 7, 3), (.bipush 10, 2), (.iload 4, 2), (.iadd, 1), (.iaload, 1), (.iload_n 3, 1), (.iconst (-1), 1), (.ixor, 1), (.iand, 1), (.ifCond .ne 7, 3), (.iconst 1, 1), (.goto 4, 3)]),
  (144, [(.iconst 0, 1)]),
  (145, [(.iadd, 1), (.iastore, 1), (.iinc 4 1, 3), (.goto (-60), 3)]),
  (153, [(.aload_n 0, 1), (.getfield 34, 3), (.bipush 6, 2), (.iload_n 1, 1), (.iastore, 1), (.iconst 0, 1), (.istore 4, 2)]),
  (164, [(.iload 4, 2), (.aload_n 0, 1), (.getfield 7, 3), (.sipush 435, 3), (.iaload, 1), (.if_icmp .ge 84, 3), (.aload_n 0, 1), (.getfield 7, 3), (.sipush 480, 3), (.iload 4, 2), (.iadd, 1), (.iaload, 1), (.aload_n 0, 1), (.getfield 7, 3), (.sipush 460, 3), (.iload 4, 2), (.iadd, 1), (.iaload, 1), (.if_icmp .eq 33, 3), (.aload_n 0, 1), (.aload_n 0, 1), (.getfield 7, 3), (.sipush 460, 3), (.iload 4, 2), (.iadd, 1), (.iaload, 1), (.aload_n 0, 1), (.getfield 7, 3), (.sipush 480, 3), (.iload 4, 2), (.iadd, 1), (.iaload, 1), (.invokevirtual 233, 3), (.iconst 1, 1), (.if_icmp .ne 23, 3)]),
  (232, [(.aload_n 0, 1), (.getfield 7, 3), (.sipush 440, 3), (.iload 4, 2), (.iadd, 1), (.iaload, 1), (.ifCond .ne 7, 3), (.iconst 1, 1), (.goto 4, 3)]),
  (250, [(.iconst 0, 1)]),
  (251, [(.ireturn, 1)]),
  (252, [(.iinc 4 1, 3), (.goto (-91), 3)]),
  (258, [(.iconst 0, 1), (.ireturn, 1)])]
def am_b1044 : List (Nat × List (Instr × Nat)) := [
  (0, [(.iconst 0, 1), (.istore_n 2, 1), (.iconst 0, 1), (.istore_n 3, 1)]),
  (4, [(.iload_n 3, 1), (.aload_n 0, 1), (.iload_n 1, 1), (.iconst 1, 1), (.invokevirtual 88, 3), (.if_icmp .ge 22, 3), (.iload_n 2, 1), (.iconst 1, 1), (.aload_n 0, 1), (.iload_n 1, 1), (.iconst 2, 1), (.iload_n 3, 1), (.iadd, 1), (.invokevirtual 88, 3), (.ishl, 1), (.ior, 1), (.istore_n 2, 1), (.iinc 3 1, 3), (.goto (-26), 3)]),
  (33, [(.iload_n 2, 1), (.ireturn, 1)])]
def am_b1045 : List (Nat × List (Instr × Nat)) := [
  (0, [(.aload_n 0, 1), (.aload_n 0, 1), (.iload_n 1, 1), (.iconst 0, 1), (.invokevirtual 88, 3), (.aload_n 0, 1), (.iload_n 1, 1), (.invokevirtual 236, 3), (.invokevirtual 239, 3), (.ireturn, 1)])]
def am_b1046 : List (Nat × List (Instr × Nat)) := [
  (0, [(.iconst 0, 1), (.istore_n 3, 1), (.iconst 0, 1), (.istore 4, 2)]),
  (5, [(.iload 4, 2), (.iload_n 2, 1), (.if_icmp .ge 22, 3), (.iload_n 3, 1), (.aload_n 0, 1), (.iload 4, 2), (.invokevirtual 236, 3), (.iload_n 1, 1), (.ishr, 1), (.iconst 1, 1), (.iand, 1), (.iadd, 1), (.istore_n 3, 1), (.iinc 4 1, 3), (.goto (-22), 3)]),
  (30, [(.iload_n 3, 1), (.ireturn, 1)])]
def am_b1047 : List (Nat × List (Instr × Nat)) := [
  (0, [(.aload_n 0, 1), (.iload_n 1, 1), (.invokevirtual 76, 3), (.ifCond .eq 24, 3), (.iload_n 2, 1), (.ifCond .eq 20, 3), (.aload_n 0, 1), (.iload_n 2, 1), (.invokevirtual 243, 3), (.ifCond .eq 12, 3), (.iload_n 2, 1), (.iload_n 1, 1), (.ishr, 1), (.iconst 1, 1), (.iand, 1), (.iconst 1, 1), (.if_icmp .ne 5, 3)]),
  (29, [(.iconst (-1), 1), (.ireturn, 1)]),
  (31, [(.aload_n 0, 1), (.iload_n 1, 1), (.iload_n 2, 1), (.invokevirtual 239, 3), (.ifCond .eq 7, 3), (.iconst 1, 1), (.goto 4, 3)]),
  (44, [(.iconst 0, 1)]),
  (45, [(.ireturn, 1)])]
def am_b1048 : List (Nat × List (Instr × Nat)) := [
  (0, [(.aload_n 0, 1), (.getfield 68, 3), (.bipush 6, 2), (.if_icmp .ne 43, 3), (.iconst 0, 1), (.istore_n 1, 1)]),
  (11, [(.iload_n 1, 1), (.sipush 315, 3), (.if_icmp .ge 24, 3), (.aload_n 0, 1), (.getfield 16, 3), (.iload_n 1, 1), (.aload_n 0, 1), (.getfield 16, 3), (.iload_n 1, 1), (.bipush 63, 2), (.iadd, 1), (.iaload, 1), (.iastore, 1), (.iinc 1 1, 3), (.goto (-25), 3)]),
  (39, [(.aload_n 0, 1), (.dup, 1), (.getfield 68, 3), (.iconst 1, 1), (.isub, 1), (.putfield 68, 3)]),
  (49, [(.bipush 63, 2), (.aload_n 0, 1), (.getfield 68, 3), (.imul, 1), (.istore_n 1, 1), (.aload_n 0, 1), (.getfield 16, 3), (.iload_n 1, 1), (.aload_n 0, 1), (.getfield 7, 3), (.iconst 4, 1), (.iaload, 1), (.iastore, 1), (.aload_n 0, 1), (.getfield 16, 3), (.iload_n 1, 1), (.iconst 1, 1), (.iadd, 1), (.aload_n 0, 1), (.getfield 7, 3), (.iconst 5, 1), (.iaload, 1), (.iastore, 1), (.aload_n 0, 1), (.getfield 16, 3), (.iload_n 1, 1), (.iconst 2, 1), (.iadd, 1), (.aload_n 0, 1), (.getfield 7, 3), (.bipush 6, 2), (.iaload, 1), (.iastore, 1), (.iconst 0, 1), (.istore_n 2, 1)]),
  (100, [(.iload_n 2, 1), (.bipush 60, 2), (.if_icmp .ge 28, 3), (.aload_n 0, 1), (.getfield 16, 3), (.iload_n 1, 1), (.iconst 3, 1), (.iadd, 1), (.iload_n 2, 1), (.iadd, 1), (.aload_n 0, 1), (.getfield 7, 3), (.bipush 45, 2), (.iload_n 2, 1), (.iadd, 1), (.iaload, 1), (.iastore, 1), (.iinc 2 1, 3), (.goto (-28), 3)]),
  (131, [(.aload_n 0, 1), (.dup, 1), (.getfield 68, 3), (.iconst 1, 1), (.iadd, 1), (.putfield 68, 3), (.return_, 1)])]
def am_b1049 : List (Nat × List (Instr × Nat)) := [
  (0, [(.aload_n 0, 1), (.getfield 68, 3), (.ifCond .ne 5, 3), (.iconst 0, 1), (.ireturn, 1)]),
  (9, [(.aload_n 0, 1), (.dup, 1), (.getfield 68, 3), (.iconst 1, 1), (.isub, 1), (.putfield 68, 3), (.bipush 63, 2), (.aload_n 0, 1), (.getfield 68, 3), (.imul, 1), (.istore_n 1, 1), (.aload_n 0, 1), (.getfield 7, 3), (.iconst 4, 1), (.aload_n 0, 1), (.getfield 16, 3), (.iload_n 1, 1), (.iaload, 1), (.iastore, 1), (.aload_n 0, 1), (.getfield 7, 3), (.iconst 5, 1), (.aload_n 0, 1), (.getfield 16, 3), (.iload_n 1, 1), (.iconst 1, 1), (.iadd, 1), (.iaload, 1), (.iastore, 1), (.aload_n 0, 1), (.getfield 7, 3), (.bipush 6, 2), (.aload_n 0, 1), (.getfield 16, 3), (.iload_n 1, 1), (.iconst 2, 1), (.iadd, 1), (.iaload, 1), (.iastore, 1), (.iconst 0, 1), (.istore_n 2, 1)]),
  (70, [(.iload_n 2, 1), (.bipush 60, 2), (.if_icmp .ge 28, 3), (.aload_n 0, 1), (.getfield 7, 3), (.bipush 45, 2), (.iload_n 2, 1), (.iadd, 1), (.aload_n 0, 1), (.getfield 16, 3), (.iload_n 1, 1), (.iconst 3, 1), (.iadd, 1), (.iload_n 2, 1), (.iadd, 1), (.iaload, 1), (.iastore, 1), (.iinc 2 1, 3), (.goto (-28), 3)]),
  (101, [(.iconst 1, 1), (.ireturn, 1)])]
def am_b1050 : List (Nat × List (Instr × Nat)) := [
  (0, [(.aload_n 0, 1), (.getfield 7, 3), (.iconst 5, 1), (.iaload, 1), (.bipush 80, 2), (.if_icmp .ne 4, 3), (.return_, 1)]),
  (12, [(.bipush 110, 2), (.iconst 4, 1), (.aload_n 0, 1), (.getfield 7, 3), (.iconst 5, 1), (.iaload, 1), (.imul, 1), (.iadd, 1), (.istore 4, 2), (.aload_n 0, 1), (.getfield 7, 3), (.iload 4, 2), (.aload_n 0, 1), (.getfield 7, 3), (.iconst 4, 1), (.iaload, 1), (.iastore, 1), (.aload_n 0, 1), (.getfield 7, 3), (.iload 4, 2), (.iconst 1, 1), (.iadd, 1), (.iload_n 1, 1), (.iastore, 1), (.aload_n 0, 1), (.getfield 7, 3), (.iload 4, 2), (.iconst 2, 1), (.iadd, 1), (.iload_n 2, 1), (.iastore, 1), (.aload_n 0, 1), (.getfield 7, 3), (.iload 4, 2), (.iconst 3, 1), (.iadd, 1), (.iload_n 3, 1), (.iastore, 1), (.aload_n 0, 1), (.getfield 7, 3), (.iconst 5, 1), (.dup2, 1), (.iaload, 1), (.iconst 1, 1), (.iadd, 1), (.iastore, 1), (.return_, 1)])]
def am_b1051 : List (Nat × List (Instr × Nat)) := [
  (0, [(.iconst 0, 1), (.istore_n 1, 1), (.iconst 0, 1), (.istore_n 2, 1)]),
  (4, [(.iload_n 2, 1), (.aload_n 0, 1), (.getfield 7, 3), (.iconst 1, 1), (.iaload, 1), (.if_icmp .ge 116, 3), (.aload_n 0, 1), (.getfield 7, 3), (.iconst 3, 1), (.iaload, 1), (.ifCond .eq 101, 3), (.aload_n 0, 1), (.sipush 1000, 3), (.invokevirtual 246, 3), (.aload_n 0, 1), (.getfield 7, 3), (.iconst 3, 1), (.iaload, 1), (.if_icmp .lt 6, 3), (.goto 82, 3)]),
  (42, [(.aload_n 0, 1), (.aload_n 0, 1), (.iload_n 2, 1), (.iconst 1, 1), (.invokevirtual 88, 3), (.invokevirtual 246, 3), (.istore_n 3, 1), (.aload_n 0, 1), (.aload_n 0, 1), (.getfield 7, 3), (.iconst 0, 1), (.iaload, 1), (.invokevirtual 246, 3), (.istore 4, 2), (.iload 4, 2), (.aload_n 0, 1), (.iload_n 2, 1), (.iconst 0, 1), (.invokevirtual 88, 3), (.if_icmp .eq 48, 3), (.aload_n 0, 1), (.iload_n 2, 1), (.invokevirtual 236, 3), (.iload 4, 2), (.ishr, 1), (.iconst 1, 1), (.iand, 1), (.iconst 1, 1), (.if_icmp .ne 6, 3), (.goto 31, 3)]),
  (93, [(.aload_n 0, 1), (.iload_n 2, 1), (.aload_n 0, 1), (.iload_n 2, 1), (.iconst 2, 1), (.iload_n 3, 1), (.iadd, 1), (.invokevirtual 88, 3), (.iload 4, 2), (.invokevirtual 249, 3), (.aload_n 0, 1), (.iload_n 2, 1), (.iconst 2, 1), (.iload_n 3, 1), (.iadd, 1), (.iload 4, 2), (.invokevirtual 84, 3), (.iinc 1 1, 3)]),
  (121, [(.iinc 2 1, 3), (.goto (-120), 3)]),
  (127, [(.aload_n 0, 1), (.getfield 7, 3), (.iconst 4, 1), (.dup2, 1), (.iaload, 1), (.iconst 1, 1), (.iadd, 1), (.iastore, 1), (.iload_n 1, 1), (.ireturn, 1)])]
def am_b1052 : List (Nat × List (Instr × Nat)) := [
  (0, [(.iload_n 1, 1), (.iconst 1, 1), (.bipush 50, 2), (.invokestatic 64, 3), (.ifCond .eq 17, 3), (.aload_n 0, 1), (.getfield 7, 3), (.iconst 4, 1), (.iaload, 1), (.iload_n 1, 1), (.iadd, 1), (.sipush 9999, 3), (.if_icmp .le 5, 3)]),
  (24, [(.iconst (-1), 1), (.ireturn, 1)]),
  (26, [(.iconst 0, 1), (.istore_n 2, 1), (.iconst 0, 1), (.istore_n 3, 1)]),
  (30, [(.iload_n 3, 1), (.iload_n 1, 1), (.if_icmp .ge 20, 3), (.aload_n 0, 1), (.invokevirtual 252, 3), (.iload_n 2, 1), (.aload_n 0, 1), (.invokevirtual 255, 3), (.iadd, 1), (.istore_n 2, 1), (.iinc 3 1, 3), (.goto (-19), 3)]),
  (52, [(.iload_n 2, 1), (.ireturn, 1)])]
def am_b1053 : List (Nat × List (Instr × Nat)) := [
  (0, [(.iconst 0, 1), (.istore_n 2, 1)]),
  (2, [(.iload_n 2, 1), (.aload_n 0, 1), (.getfield 7, 3), (.iconst 1, 1), (.iaload, 1), (.if_icmp .ge 24, 3), (.aload_n 0, 1), (.iload_n 2, 1), (.invokevirtual 236, 3), (.iload_n 1, 1), (.ishr, 1), (.iconst 1, 1), (.iand, 1), (.iconst 1, 1), (.if_icmp .ne 5, 3), (.iload_n 2, 1), (.ireturn, 1)]),
  (27, [(.iinc 2 1, 3), (.goto (-28), 3)]),
  (33, [(.iconst (-1), 1), (.ireturn, 1)])]
def am_b1054 : List (Nat × List (Instr × Nat)) := [
  (0, [(.aload_n 0, 1), (.iload_n 1, 1), (.invokevirtual 76, 3), (.ifCond .ne 6, 3), (.bipush (-2), 2), (.ireturn, 1)]),
  (11, [(.iload_n 2, 1), (.tableswitch 137 0 4 #[36, 46, 56, 68, 74], 36)]),
  (48, [(.aload_n 0, 1), (.getfield 7, 3), (.bipush 10, 2), (.iload_n 1, 1), (.iadd, 1), (.iaload, 1), (.ireturn, 1)]),
  (58, [(.aload_n 0, 1), (.getfield 7, 3), (.bipush 26, 2), (.iload_n 1, 1), (.iadd, 1), (.iaload, 1), (.ireturn, 1)]),
  (68, [(.aload_n 0, 1), (.iload_n 1, 1), (.aload_n 0, 1), (.getfield 7, 3), (.iconst 1, 1), (.iaload, 1), (.invokevirtual 258, 3), (.ireturn, 1)]),
  (80, [(.aload_n 0, 1), (.iload_n 1, 1), (.invokevirtual 261, 3), (.ireturn, 1)]),
  (86, [(.iconst 0, 1), (.istore_n 3, 1), (.iconst 0, 1), (.istore 4, 2)]),
  (91, [(.iload 4, 2), (.aload_n 0, 1), (.getfield 7, 3), (.iconst 0, 1), (.iaload, 1), (.if_icmp .ge 48, 3), (.iload_n 3, 1), (.iload 4, 2), (.iload_n 1, 1), (.if_icmp .eq 32, 3), (.aload_n 0, 1), (.getfield 7, 3), (.bipush 10, 2), (.iload 4, 2), (.iadd, 1), (.iaload, 1), (.aload_n 0, 1), (.getfield 7, 3), (.bipush 10, 2), (.iload_n 1, 1), (.iadd, 1), (.iaload, 1), (.if_icmp .ne 10, 3), (.iconst 1, 1), (.iload 4, 2), (.ishl, 1), (.goto 4, 3)]),
  (138, [(.iconst 0, 1)]),
  (139, [(.ior, 1), (.istore_n 3, 1), (.iinc 4 1, 3), (.goto (-53), 3)]),
  (147, [(.iload_n 3, 1), (.ireturn, 1)]),
  (149, [(.bipush (-2), 2), (.ireturn, 1)])]
def am_b1055 : List (Nat × List (Instr × Nat)) := [
  (0, [(.aload_n 0, 1), (.iload_n 1, 1), (.invokevirtual 92, 3), (.ifCond .ne 5, 3), (.iconst (-1), 1), (.ireturn, 1)]),
  (10, [(.iload_n 2, 1), (.tableswitch 53 0 2 #[25, 32, 39], 25)]),
  (36, [(.aload_n 0, 1), (.iload_n 1, 1), (.iconst 0, 1), (.invokevirtual 88, 3), (.ireturn, 1)]),
  (43, [(.aload_n 0, 1), (.iload_n 1, 1), (.iconst 1, 1), (.invokevirtual 88, 3), (.ireturn, 1)]),
  (50, [(.aload_n 0, 1), (.iload_n 1, 1), (.invokevirtual 264, 3), (.ifCond .eq 7, 3), (.iconst 1, 1), (.goto 4, 3)]),
  (62, [(.iconst 0, 1)]),
  (63, [(.ireturn, 1)]),
  (64, [(.iload_n 2, 1), (.bipush 10, 2), (.bipush 9, 2), (.aload_n 0, 1), (.iload_n 1, 1), (.iconst 1, 1), (.invokevirtual 88, 3), (.iadd, 1), (.invokestatic 64, 3), (.ifCond .eq 17, 3), (.aload_n 0, 1), (.iload_n 1, 1), (.iconst 2, 1), (.iload_n 2, 1), (.iadd, 1), (.bipush 10, 2), (.isub, 1), (.invokevirtual 88, 3), (.goto 4, 3)]),
  (96, [(.iconst (-1), 1)]),
  (97, [(.ireturn, 1)])]
def am_b1056 : List (Nat × List (Instr × Nat)) := [
  (0, [(.iconst 0, 1), (.istore_n 3, 1)]),
  (2, [(.iload_n 3, 1), (.iload_n 2, 1), (.if_icmp .ge 21, 3), (.aload_n 0, 1), (.iload_n 3, 1), (.iconst 0, 1), (.invokevirtual 88, 3), (.iload_n 1, 1), (.if_icmp .ne 5, 3), (.iconst 1, 1), (.ireturn, 1)]),
  (19, [(.iinc 3 1, 3), (.goto (-20), 3)]),
  (25, [(.iconst 0, 1), (.ireturn, 1)])]
def am_b1057 : List (Nat × List (Instr × Nat)) := [
  (0, [(.aload_n 0, 1), (.iconst (-1), 1), (.putfield 267, 3), (.aload_n 0, 1), (.aload_n 0, 1), (.iload_n 1, 1), (.iconst 0, 1), (.invokevirtual 88, 3), (.iload_n 1, 1), (.invokevirtual 270, 3), (.ifCond .eq 5, 3), (.iconst 1, 1), (.ireturn, 1)]),
  (21, [(.iconst 0, 1), (.istore_n 2, 1)]),
  (23, [(.iload_n 2, 1), (.aload_n 0, 1), (.iload_n 1, 1), (.iconst 1, 1), (.invokevirtual 88, 3), (.if_icmp .ge 48, 3), (.aload_n 0, 1), (.aload_n 0, 1), (.iload_n 1, 1), (.iconst 2, 1), (.iload_n 2, 1), (.iadd, 1), (.invokevirtual 88, 3), (.iload_n 1, 1), (.invokevirtual 258, 3), (.aload_n 0, 1), (.getfield 7, 3), (.iconst 2, 1), (.iaload, 1), (.if_icmp .ge 6, 3), (.goto 17, 3)]),
  (58, [(.aload_n 0, 1), (.aload_n 0, 1), (.iload_n 1, 1), (.iconst 2, 1), (.iload_n 2, 1), (.iadd, 1), (.invokevirtual 88, 3), (.putfield 267, 3), (.iconst 2, 1), (.ireturn, 1)]),
  (72, [(.iinc 2 1, 3), (.goto (-52), 3)]),
  (78, [(.aload_n 0, 1), (.iload_n 1, 1), (.invokevirtual 264, 3), (.ifCond .ne 5, 3), (.iconst 3, 1), (.ireturn, 1)]),
  (88, [(.iconst 0, 1), (.istore_n 2, 1)]),
  (90, [(.iload_n 2, 1), (.aload_n 0, 1), (.iload_n 1, 1), (.iconst 1, 1), (.invokevirtual 88, 3), (.if_icmp .ge 50, 3), (.aload_n 0, 1), (.iload_n 1, 1), (.iconst 2, 1), (.iload_n 2, 1), (.iadd, 1), (.invokevirtual 88, 3), (.istore_n 3, 1), (.aload_n 0, 1), (.getfield 7, 3), (.bipush 26, 2), (.iload_n 3, 1), (.iadd, 1), (.iaload, 1), (.iconst 1, 1), (.if_icmp .eq 22, 3), (.aload_n 0, 1), (.iload_n 3, 1), (.iload_n 1, 1), (.invokevirtual 270, 3), (.ifCond .eq 6, 3), (.goto 10, 3)]),
  (134, [(.aload_n 0, 1), (.iload_n 3, 1), (.putfield 267, 3), (.iconst 4, 1), (.ireturn, 1)]),
  (141, [(.iinc 2 1, 3), (.goto (-54), 3)]),
  (147, [(.iconst 0, 1), (.ireturn, 1)])]
def am_b1058 : List (Nat × List (Instr × Nat)) := [
  (0, [(.iload_n 1, 1), (.iconst 0, 1), (.iconst 2, 1), (.invokestatic 64, 3), (.ifCond .ne 5, 3), (.iconst (-1), 1), (.ireturn, 1)]),
  (11, [(.iconst 0, 1), (.istore_n 2, 1)]),
  (13, [(.iload_n 2, 1), (.aload_n 0, 1), (.getfield 7, 3), (.iconst 1, 1), (.iaload, 1), (.if_icmp .ge 41, 3), (.aload_n 0, 1), (.iload_n 2, 1), (.invokevirtual 273, 3), (.istore_n 3, 1), (.iload_n 3, 1), (.ifCond .le 25, 3), (.iload_n 1, 1), (.ifCond .ne 7, 3), (.iload_n 3, 1), (.goto 16, 3)]),
  (41, [(.iload_n 1, 1), (.iconst 1, 1), (.if_icmp .ne 7, 3), (.iload_n 2, 1), (.goto 7, 3)]),
  (50, [(.aload_n 0, 1), (.getfield 267, 3)]),
  (54, [(.ireturn, 1)]),
  (55, [(.iinc 2 1, 3), (.goto (-45), 3)]),
  (61, [(.iload_n 1, 1), (.ifCond .ne 7, 3), (.iconst 0, 1), (.goto 4, 3)]),
  (69, [(.iconst (-1), 1)]),
  (70, [(.ireturn, 1)])]
def am_b1059 : List (Nat × List (Instr × Nat)) := [
  (0, [(.iconst 0, 1), (.istore_n 1, 1)]),
  (2, [(.iload_n 1, 1), (.aload_n 0, 1), (.getfield 7, 3), (.iconst 1, 1), (.iaload, 1), (.if_icmp .ge 31, 3), (.aload_n 0, 1), (.getfield 41, 3), (.iload_n 1, 1), (.aload_n 0, 1), (.iload_n 1, 1), (.invokevirtual 236, 3), (.iastore, 1), (.aload_n 0, 1), (.getfield 44, 3), (.iload_n 1, 1), (.aload_n 0, 1), (.iload_n 1, 1), (.invokevirtual 264, 3), (.bastore, 1), (.iinc 1 1, 3), (.goto (-35), 3)]),
  (40, [(.return_, 1)])]
def am_b1060 : List (Nat × List (Instr × Nat)) := [
  (0, [(.iload_n 1, 1), (.istore_n 2, 1), (.iconst (-1), 1), (.istore_n 3, 1), (.aload_n 0, 1), (.iconst (-1), 1), (.putfield 276, 3)]),
  (9, [(.iload_n 3, 1), (.iload_n 2, 1), (.if_icmp .eq 74, 3), (.iload_n 2, 1), (.istore_n 3, 1), (.iconst 0, 1), (.istore 4, 2)]),
  (19, [(.iload 4, 2), (.aload_n 0, 1), (.getfield 7, 3), (.iconst 1, 1), (.iaload, 1), (.if_icmp .ge 45, 3), (.aload_n 0, 1), (.getfield 44, 3), (.iload 4, 2), (.baload, 1), (.ifCond .eq 29, 3), (.aload_n 0, 1), (.getfield 41, 3), (.iload 4, 2), (.iaload, 1), (.iload_n 3, 1), (.iconst (-1), 1), (.ixor, 1), (.iand, 1), (.ifCond .ne 15, 3), (.iload_n 2, 1), (.iconst 1, 1), (.aload_n 0, 1), (.iload 4, 2), (.iconst 0, 1), (.invokevirtual 88, 3), (.ishl, 1), (.ior, 1), (.istore_n 2, 1)]),
  (66, [(.iinc 4 1, 3), (.goto (-50), 3)]),
  (72, [(.aload_n 0, 1), (.dup, 1), (.getfield 276, 3), (.iconst 1, 1), (.iadd, 1), (.putfield 276, 3), (.goto (-73), 3)]),
  (85, [(.iload_n 2, 1), (.ireturn, 1)])]
def am_b1061 : List (Nat × List (Instr × Nat)) := [
  (0, [(.aload_n 0, 1), (.iload_n 1, 1), (.invokevirtual 243, 3), (.ifCond .eq 12, 3), (.iload_n 2, 1), (.iconst 0, 1), (.iconst 1, 1), (.invokestatic 64, 3), (.ifCond .ne 5, 3)]),
  (17, [(.iconst (-1), 1), (.ireturn, 1)]),
  (19, [(.aload_n 0, 1), (.invokevirtual 279, 3), (.aload_n 0, 1), (.iload_n 1, 1), (.invokevirtual 282, 3), (.istore_n 3, 1), (.iload_n 2, 1), (.ifCond .ne 7, 3), (.iload_n 3, 1), (.goto 7, 3)]),
  (37, [(.aload_n 0, 1), (.getfield 276, 3)]),
  (41, [(.ireturn, 1)])]
def am_b1062 : List (Nat × List (Instr × Nat)) := [
  (0, [(.iconst 0, 1), (.istore_n 1, 1), (.iconst 0, 1), (.istore_n 2, 1)]),
  (4, [(.iload_n 2, 1), (.aload_n 0, 1), (.getfield 7, 3), (.iconst 1, 1), (.iaload, 1), (.if_icmp .ge 20, 3), (.iload_n 1, 1), (.iconst 1, 1), (.aload_n 0, 1), (.iload_n 2, 1), (.iconst 0, 1), (.invokevirtual 88, 3), (.ishl, 1), (.ior, 1), (.istore_n 1, 1), (.iinc 2 1, 3), (.goto (-24), 3)]),
  (31, [(.iload_n 1, 1), (.ireturn, 1)])]
def am_b1063 : List (Nat × List (Instr × Nat)) := [
  (0, [(.aload_n 0, 1), (.invokevirtual 279, 3), (.aload_n 0, 1), (.invokevirtual 285, 3), (.istore_n 1, 1), (.iconst (-1), 1), (.istore_n 2, 1), (.iconst 0, 1), (.istore_n 3, 1)]),
  (13, [(.iload_n 3, 1), (.iconst 1, 1), (.aload_n 0, 1), (.getfield 7, 3), (.iconst 0, 1), (.iaload, 1), (.ishl, 1), (.if_icmp .ge 38, 3), (.iload_n 2, 1), (.iconst (-1), 1), (.if_icmp .eq 14, 3), (.iload_n 3, 1), (.invokestatic 230, 3), (.iload_n 2, 1), (.invokestatic 230, 3), (.if_icmp .ge 16, 3)]),
  (41, [(.aload_n 0, 1), (.iload_n 3, 1), (.invokevirtual 282, 3), (.iload_n 1, 1), (.iand, 1), (.iload_n 1, 1), (.if_icmp .ne 5, 3), (.iload_n 3, 1), (.istore_n 2, 1)]),
  (54, [(.iinc 3 1, 3), (.goto (-44), 3)]),
  (60, [(.iload_n 2, 1), (.ireturn, 1)])]
def am_b1064 : List (Nat × List (Instr × Nat)) := [
  (0, [(.iconst 0, 1), (.istore_n 1, 1), (.iconst 0, 1), (.istore_n 2, 1)]),
  (4, [(.iload_n 2, 1), (.aload_n 0, 1), (.getfield 7, 3), (.iconst 0, 1), (.iaload, 1), (.if_icmp .ge 23, 3), (.iload_n 1, 1), (.aload_n 0, 1), (.getfield 7, 3), (.bipush 26, 2), (.iload_n 2, 1), (.iadd, 1), (.iaload, 1), (.iload_n 2, 1), (.ishl, 1), (.ior, 1), (.istore_n 1, 1), (.iinc 2 1, 3), (.goto (-27), 3)]),
  (34, [(.iload_n 1, 1), (.ireturn, 1)])]
def am_b1065 : List (Nat × List (Instr × Nat)) := [
  (0, [(.iload_n 1, 1), (.istore_n 2, 1), (.iconst 1, 1), (.aload_n 0, 1), (.getfield 7, 3), (.iconst 1, 1), (.iaload, 1), (.ishl, 1), (.iconst 1, 1), (.isub, 1), (.istore_n 3, 1), (.aload_n 0, 1), (.iconst 0, 1), (.putfield 288, 3), (.iconst 0, 1), (.istore 4, 2)]),
  (21, [(.iload 4, 2), (.aload_n 0, 1), (.getfield 7, 3), (.iconst 1, 1), (.iaload, 1), (.if_icmp .ge 80, 3), (.iload_n 3, 1), (.iload 4, 2), (.ishr, 1), (.iconst 1, 1), (.iand, 1), (.ifCond .eq 17, 3), (.aload_n 0, 1), (.getfield 41, 3), (.iload 4, 2), (.iaload, 1), (.iload_n 2, 1), (.iconst (-1), 1), (.ixor, 1), (.iand, 1), (.ifCond .eq 9, 3)]),
  (55, [(.iinc 4 1, 3), (.goto (-37), 3)]),
  (61, [(.aload_n 0, 1), (.getfield 48, 3), (.aload_n 0, 1), (.getfield 288, 3), (.iload 4, 2), (.iastore, 1), (.aload_n 0, 1), (.dup, 1), (.getfield 288, 3), (.iconst 1, 1), (.iadd, 1), (.putfield 288, 3), (.iload_n 3, 1), (.iconst 1, 1), (.iload 4, 2), (.ishl, 1), (.iconst (-1), 1), (.ixor, 1), (.iand, 1), (.istore_n 3, 1), (.iload_n 2, 1), (.iconst 1, 1), (.aload_n 0, 1), (.iload 4, 2), (.iconst 0, 1), (.invokevirtual 88, 3), (.ishl, 1), (.ior, 1), (.istore_n 2, 1), (.iconst 0, 1), (.istore 4, 2), (.goto (-85), 3)]),
  (109, [(.iload_n 3, 1), (.ireturn, 1)])]
def am_b1066 : List (Nat × List (Instr × Nat)) := [
  (0, [(.aload_n 0, 1), (.invokevirtual 279, 3), (.aload_n 0, 1), (.aload_n 0, 1), (.invokevirtual 291, 3), (.invokevirtual 294, 3), (.pop, 1), (.iload_n 1, 1), (.iconst 0, 1), (.aload_n 0, 1), (.getfield 288, 3), (.iconst 1, 1), (.isub, 1), (.invokestatic 64, 3), (.ifCond .eq 12, 3), (.aload_n 0, 1), (.getfield 48, 3), (.iload_n 1, 1), (.iaload, 1), (.goto 4, 3)]),
  (36, [(.iconst (-1), 1)]),
  (37, [(.ireturn, 1)])]
def am_b1067 : List (Nat × List (Instr × Nat)) := [
  (0, [(.aload_n 0, 1), (.invokevirtual 279, 3), (.aload_n 0, 1), (.aload_n 0, 1), (.invokevirtual 291, 3), (.invokevirtual 294, 3), (.ireturn, 1)])]
def am_b1068 : List (Nat × List (Instr × Nat)) := [
  (0, [(.aload_n 0, 1), (.invokevirtual 279, 3), (.aload_n 0, 1), (.invokevirtual 291, 3), (.istore_n 1, 1), (.iconst (-1), 1), (.istore_n 2, 1), (.iconst 0, 1), (.istore_n 3, 1)]),
  (13, [(.iload_n 3, 1), (.iconst 1, 1), (.aload_n 0, 1), (.getfield 7, 3), (.iconst 0, 1), (.iaload, 1), (.ishl, 1), (.if_icmp .ge 37, 3), (.iload_n 2, 1), (.iconst (-1), 1), (.if_icmp .eq 14, 3), (.iload_n 3, 1), (.invokestatic 230, 3), (.iload_n 2, 1), (.invokestatic 230, 3), (.if_icmp .ge 15, 3)]),
  (41, [(.aload_n 0, 1), (.iload_n 1, 1), (.iload_n 3, 1), (.ior, 1), (.invokevirtual 294, 3), (.ifCond .ne 5, 3), (.iload_n 3, 1), (.istore_n 2, 1)]),
  (53, [(.iinc 3 1, 3), (.goto (-43), 3)]),
  (59, [(.iload_n 2, 1), (.ireturn, 1)])]
def am_b1069 : List (Nat × List (Instr × Nat)) := [
  (0, [(.iload_n 0, 1), (.istore_n 3, 1), (.iconst 0, 1), (.istore 4, 2)]),
  (5, [(.iload 4, 2), (.bipush 7, 2), (.if_icmp .ge 44, 3), (.iload_n 1, 1), (.iload 4, 2), (.ishr, 1), (.iconst 1, 1), (.iand, 1), (.ifCond .ne 6, 3), (.goto 26, 3)]),
  (24, [(.iload_n 3, 1), (.iconst 2, 1), (.iload 4, 2), (.imul, 1), (.ishr, 1), (.iconst 3, 1), (.iand, 1), (.iload_n 2, 1), (.if_icmp .lt 5, 3), (.iconst (-1), 1), (.ireturn, 1)]),
  (38, [(.iload_n 3, 1), (.iconst 1, 1), (.iconst 2, 1), (.iload 4, 2), (.imul, 1), (.ishl, 1), (.iadd, 1), (.istore_n 3, 1)]),
  (47, [(.iinc 4 1, 3), (.goto (-45), 3)]),
  (53, [(.iload_n 3, 1), (.ireturn, 1)])]
def am_b1070 : List (Nat × List (Instr × Nat)) := [
  (0, [(.iload_n 3, 1), (.ifCond .ne 18, 3), (.aload_n 0, 1), (.getfield 52, 3), (.sipush 16384, 3), (.iload_n 1, 1), (.iconst 1, 1), (.iadd, 1), (.imul, 1), (.iload_n 2, 1), (.iadd, 1), (.iaload, 1), (.ireturn, 1)]),
  (19, [(.aload_n 0, 1), (.getfield 58, 3), (.sipush 128, 3), (.iload_n 1, 1), (.imul, 1), (.iload_n 3, 1), (.iadd, 1), (.baload, 1), (.ifCond .eq 13, 3), (.iload_n 2, 1), (.iload_n 3, 1), (.iload 4, 2), (.invokestatic 297, 3), (.goto 4, 3)]),
  (44, [(.iconst (-1), 1)]),
  (45, [(.istore 5, 2), (.iload 5, 2), (.iconst (-1), 1), (.if_icmp .ne 7, 3), (.iconst (-1), 1), (.goto 20, 3)]),
  (57, [(.iconst 1, 1), (.aload_n 0, 1), (.getfield 52, 3), (.sipush 16384, 3), (.iload_n 1, 1), (.iconst 1, 1), (.iadd, 1), (.imul, 1), (.iload 5, 2), (.iadd, 1), (.iaload, 1), (.iadd, 1)]),
  (74, [(.ireturn, 1)])]
def am_b1071 : List (Nat × List (Instr × Nat)) := [
  (0, [(.aload_n 0, 1), (.getfield 7, 3), (.iconst 0, 1), (.iaload, 1), (.istore_n 2, 1), (.iconst 0, 1), (.istore_n 3, 1)]),
  (9, [(.iload_n 3, 1), (.iload_n 2, 1), (.if_icmp .ge 72, 3), (.iconst 1, 1), (.istore 4, 2)]),
  (17, [(.iload 4, 2), (.iconst 1, 1), (.iload_n 2, 1), (.ishl, 1), (.if_icmp .ge 55, 3), (.aload_n 0, 1), (.getfield 58, 3), (.sipush 128, 3), (.iload_n 3, 1), (.imul, 1), (.iload 4, 2), (.iadd, 1), (.iload 4, 2), (.invokestatic 230, 3), (.iconst 3, 1), (.if_icmp .ge 26, 3), (.iload 4, 2), (.iload_n 3, 1), (.ishr, 1), (.iconst 1, 1), (.iand, 1), (.ifCond .ne 17, 3), (.aload_n 0, 1), (.iload_n 3, 1), (.iload 4, 2), (.invokevirtual 239, 3), (.ifCond .eq 7, 3), (.iconst 1, 1), (.goto 4, 3)]),
  (69, [(.iconst 0, 1)]),
  (70, [(.bastore, 1), (.iinc 4 1, 3), (.goto (-57), 3)]),
  (77, [(.iinc 3 1, 3), (.goto (-71), 3)]),
  (83, [(.iconst 0, 1), (.istore_n 3, 1)]),
  (85, [(.iload_n 3, 1), (.iconst 1, 1), (.iconst 2, 1), (.iload_n 2, 1), (.imul, 1), (.ishl, 1), (.if_icmp .ge 22, 3), (.aload_n 0, 1), (.getfield 52, 3), (.sipush 16384, 3), (.iload_n 2, 1), (.imul, 1), (.iload_n 3, 1), (.iadd, 1), (.iconst 0, 1), (.iastore, 1), (.iinc 3 1, 3), (.goto (-25), 3)]),
  (113, [(.iload_n 2, 1), (.iconst 1, 1), (.isub, 1), (.istore_n 3, 1)]),
  (117, [(.iload_n 3, 1), (.ifCond .lt 91, 3), (.iconst 0, 1), (.istore 4, 2)]),
  (124, [(.iload 4, 2), (.iconst 1, 1), (.iconst 2, 1), (.iload_n 2, 1), (.imul, 1), (.ishl, 1), (.if_icmp .ge 72, 3), (.iconst 0, 1), (.istore 5, 2), (.iconst 0, 1), (.istore 6, 2)]),
  (140, [(.iload 6, 2), (.iconst 1, 1), (.iload_n 2, 1), (.ishl, 1), (.if_icmp .ge 37, 3), (.aload_n 0, 1), (.iload_n 3, 1), (.iload 4, 2), (.iload 6, 2), (.iload_n 1, 1), (.invokevirtual 300, 3), (.istore 7, 2), (.iload 7, 2), (.iload 5, 2), (.if_icmp .le 8, 3), (.iload 7, 2), (.goto 5, 3)]),
  (172, [(.iload 5, 2)]),
  (174, [(.istore 5, 2), (.iinc 6 1, 3), (.goto (-39), 3)]),
  (182, [(.aload_n 0, 1), (.getfield 52, 3), (.sipush 16384, 3), (.iload_n 3, 1), (.imul, 1), (.iload 4, 2), (.iadd, 1), (.iload 5, 2), (.iastore, 1), (.iinc 4 1, 3), (.goto (-76), 3)]),
  (203, [(.iinc 3 (-1), 3), (.goto (-89), 3)]),
  (209, [(.iconst 0, 1), (.istore_n 3, 1), (.iconst 0, 1), (.istore 4, 2)]),
  (214, [(.iload 4, 2), (.iload_n 2, 1), (.if_icmp .ge 61, 3), (.iconst 0, 1), (.istore 5, 2)]),
  (223, [(.aload_n 0, 1), (.iload 4, 2), (.iload_n 3, 1), (.iload 5, 2), (.iload_n 1, 1), (.invokevirtual 300, 3), (.aload_n 0, 1), (.getfield 52, 3), (.sipush 16384, 3), (.iload 4, 2), (.imul, 1), (.iload_n 3, 1), (.iadd, 1), (.iaload, 1), (.if_icmp .eq 9, 3), (.iinc 5 1, 3), (.goto (-29), 3)]),
  (255, [(.aload_n 0, 1), (.getfield 55, 3), (.iload 4, 2), (.iload 5, 2), (.iastore, 1), (.iload_n 3, 1), (.iload 5, 2), (.iload_n 1, 1), (.invokestatic 297, 3), (.istore_n 3, 1), (.iinc 4 1, 3), (.goto (-61), 3)]),
  (278, [(.return_, 1)])]
def am_b1072 : List (Nat × List (Instr × Nat)) := [
  (0, [(.iload_n 1, 1), (.iconst 1, 1), (.iconst 3, 1), (.invokestatic 64, 3), (.ifCond .eq 36, 3), (.aload_n 0, 1), (.getfield 7, 3), (.iconst 0, 1), (.iaload, 1), (.bipush 7, 2), (.if_icmp .gt 25, 3), (.iload_n 2, 1), (.ifCond .eq 23, 3), (.iload_n 2, 1), (.bipush 10, 2), (.bipush 9, 2), (.aload_n 0, 1), (.getfield 7, 3), (.iconst 0, 1), (.iaload, 1), (.iadd, 1), (.invokestatic 64, 3), (.ifCond .ne 5, 3)]),
  (42, [(.iconst (-1), 1), (.ireturn, 1)]),
  (44, [(.aload_n 0, 1), (.iload_n 1, 1), (.invokevirtual 304, 3), (.iload_n 2, 1), (.ifCond .ne 12, 3), (.aload_n 0, 1), (.getfield 52, 3), (.iconst 0, 1), (.iaload, 1), (.goto 12, 3)]),
  (62, [(.aload_n 0, 1), (.getfield 55, 3), (.iload_n 2, 1), (.bipush 10, 2), (.isub, 1), (.iaload, 1)]),
  (71, [(.ireturn, 1)])]
def am_b1073 : List (Nat × List (Instr × Nat)) := [
  (0, [(.aload_n 0, 1), (.iload_n 1, 1), (.invokevirtual 92, 3), (.ifCond .eq 19, 3), (.iload_n 2, 1), (.iconst 0, 1), (.aload_n 0, 1), (.iload_n 1, 1), (.iconst 1, 1), (.invokevirtual 88, 3), (.iconst 1, 1), (.isub, 1), (.invokestatic 64, 3), (.ifCond .ne 5, 3)]),
  (24, [(.iconst (-1), 1), (.ireturn, 1)]),
  (26, [(.aload_n 0, 1), (.iload_n 1, 1), (.invokevirtual 236, 3), (.iconst 1, 1), (.aload_n 0, 1), (.iload_n 1, 1), (.iconst 2, 1), (.iload_n 2, 1), (.iadd, 1), (.invokevirtual 88, 3), (.ishl, 1), (.iconst (-1), 1), (.ixor, 1), (.iand, 1), (.istore_n 3, 1), (.iconst 0, 1), (.istore 4, 2), (.iconst 0, 1), (.istore 5, 2)]),
  (51, [(.iload 5, 2), (.aload_n 0, 1), (.getfield 7, 3), (.iconst 0, 1), (.iaload, 1), (.if_icmp .ge 103, 3), (.iload 5, 2), (.aload_n 0, 1), (.iload_n 1, 1), (.iconst 0, 1), (.invokevirtual 88, 3), (.if_icmp .eq 86, 3), (.iload_n 3, 1), (.iload 5, 2), (.ishr, 1), (.iconst 1, 1), (.iand, 1), (.iconst 1, 1), (.if_icmp .ne 6, 3), (.goto 73, 3)]),
  (86, [(.aload_n 0, 1), (.iload 5, 2), (.aload_n 0, 1), (.getfield 7, 3), (.iconst 1, 1), (.iaload, 1), (.invokevirtual 258, 3), (.aload_n 0, 1), (.iload_n 1, 1), (.invokevirtual 236, 3), (.iload 5, 2), (.ishr, 1), (.iconst 1, 1), (.iand, 1), (.isub, 1), (.iconst 1, 1), (.iadd, 1), (.istore 6, 2), (.iload 4, 2), (.iload 6, 2), (.aload_n 0, 1), (.getfield 7, 3), (.iconst 2, 1), (.iaload, 1), (.if_icmp .gt 29, 3), (.aload_n 0, 1), (.aload_n 0, 1), (.iload_n 1, 1), (.iconst 0, 1), (.invokevirtual 88, 3), (.iload_n 3, 1), (.iconst 1, 1), (.iload 5, 2), (.ishl, 1), (.ior, 1), (.invokevirtual 239, 3), (.ifCond .eq 10, 3), (.iconst 1, 1), (.iload 5, 2), (.ishl, 1), (.goto 4, 3)]),
  (152, [(.iconst 0, 1)]),
  (153, [(.ior, 1), (.istore 4, 2)]),
  (156, [(.iinc 5 1, 3), (.goto (-108), 3)]),
  (162, [(.iload 4, 2), (.ireturn, 1)])]
def am_b1074 : List (Nat × List (Instr × Nat)) := [
  (0, [(.aload_n 0, 1), (.iload_n 1, 1), (.iconst 2, 1), (.iload_n 2, 1), (.iadd, 1), (.invokevirtual 88, 3), (.istore 5, 2), (.aload_n 0, 1), (.iload_n 3, 1), (.iconst 2, 1), (.iload 4, 2), (.iadd, 1), (.invokevirtual 88, 3), (.istore 6, 2), (.aload_n 0, 1), (.iload_n 1, 1), (.invokevirtual 236, 3), (.iconst 1, 1), (.iload 5, 2), (.ishl, 1), (.iconst (-1), 1), (.ixor, 1), (.iand, 1), (.istore 7, 2), (.aload_n 0, 1), (.iload_n 3, 1), (.invokevirtual 236, 3), (.iconst 1, 1), (.iload 6, 2), (.ishl, 1), (.iconst (-1), 1), (.ixor, 1), (.iand, 1), (.istore 8, 2), (.iload 6, 2), (.aload_n 0, 1), (.iload_n 1, 1), (.iconst 0, 1), (.invokevirtual 88, 3), (.if_icmp .eq 36, 3), (.iload 5, 2), (.aload_n 0, 1), (.iload_n 3, 1), (.iconst 0, 1), (.invokevirtual 88, 3), (.if_icmp .eq 25, 3), (.iload 7, 2), (.iload 6, 2), (.ishr, 1), (.iconst 1, 1), (.iand, 1), (.iconst 1, 1), (.if_icmp .eq 14, 3), (.iload 8, 2), (.iload 5, 2), (.ishr, 1), (.iconst 1, 1), (.iand, 1), (.iconst 1, 1), (.if_icmp .ne 5, 3)]),
  (93, [(.iconst 0, 1), (.ireturn, 1)]),
  (95, [(.aload_n 0, 1), (.aload_n 0, 1), (.iload_n 1, 1), (.iconst 0, 1), (.invokevirtual 88, 3), (.iload 7, 2), (.iconst 1, 1), (.iload 6, 2), (.ishl, 1), (.ior, 1), (.invokevirtual 239, 3), (.ifCond .eq 27, 3), (.aload_n 0, 1), (.aload_n 0, 1), (.iload_n 3, 1), (.iconst 0, 1), (.invokevirtual 88, 3), (.iload 8, 2), (.iconst 1, 1), (.iload 5, 2), (.ishl, 1), (.ior, 1), (.invokevirtual 239, 3), (.ifCond .eq 7, 3), (.iconst 1, 1), (.goto 4, 3)]),
  (139, [(.iconst 0, 1)]),
  (140, [(.ireturn, 1)])]
def am_b1075 : List (Nat × List (Instr × Nat)) := [
  (0, [(.iconst 0, 1), (.istore_n 1, 1), (.iconst 0, 1), (.istore_n 2, 1)]),
  (4, [(.iload_n 2, 1), (.iconst 4, 1), (.if_icmp .ge 16, 3), (.aload_n 0, 1), (.getfield 61, 3), (.iload_n 2, 1), (.iconst (-1), 1), (.iastore, 1), (.iinc 2 1, 3), (.goto (-15), 3)]),
  (22, [(.iconst 0, 1), (.istore_n 2, 1)]),
  (24, [(.iload_n 2, 1), (.aload_n 0, 1), (.getfield 7, 3), (.iconst 1, 1), (.iaload, 1), (.if_icmp .ge 143, 3), (.iload_n 2, 1), (.iconst 1, 1), (.iadd, 1), (.istore_n 3, 1)]),
  (38, [(.iload_n 3, 1), (.aload_n 0, 1), (.getfield 7, 3), (.iconst 1, 1), (.iaload, 1), (.if_icmp .ge 123, 3), (.aload_n 0, 1), (.getfield 44, 3), (.iload_n 2, 1), (.baload, 1), (.ifCond .eq 15, 3), (.aload_n 0, 1), (.getfield 44, 3), (.iload_n 3, 1), (.baload, 1), (.ifCond .eq 6, 3), (.goto 96, 3)]),
  (69, [(.iconst 0, 1), (.istore 4, 2)]),
  (72, [(.iload 4, 2), (.aload_n 0, 1), (.iload_n 2, 1), (.iconst 1, 1), (.invokevirtual 88, 3), (.if_icmp .ge 82, 3), (.iconst 0, 1), (.istore 5, 2)]),
  (86, [(.iload 5, 2), (.aload_n 0, 1), (.iload_n 3, 1), (.iconst 1, 1), (.invokevirtual 88, 3), (.if_icmp .ge 62, 3), (.aload_n 0, 1), (.iload_n 2, 1), (.iload 4, 2), (.iload_n 3, 1), (.iload 5, 2), (.invokevirtual 308, 3), (.ifCond .ne 6, 3), (.goto 40, 3)]),
  (113, [(.iload_n 1, 1), (.ifCond .ne 33, 3), (.aload_n 0, 1), (.getfield 61, 3), (.iconst 0, 1), (.iload_n 2, 1), (.iastore, 1), (.aload_n 0, 1), (.getfield 61, 3), (.iconst 1, 1), (.iload_n 3, 1), (.iastore, 1), (.aload_n 0, 1), (.getfield 61, 3), (.iconst 2, 1), (.iload 4, 2), (.iastore, 1), (.aload_n 0, 1), (.getfield 61, 3), (.iconst 3, 1), (.iload 5, 2), (.iastore, 1)]),
  (147, [(.iinc 1 1, 3)]),
  (150, [(.iinc 5 1, 3), (.goto (-67), 3)]),
  (156, [(.iinc 4 1, 3), (.goto (-87), 3)]),
  (162, [(.iinc 3 1, 3), (.goto (-127), 3)]),
  (168, [(.iinc 2 1, 3), (.goto (-147), 3)]),
  (174, [(.iload_n 1, 1), (.ireturn, 1)])]
def am_b1076 : List (Nat × List (Instr × Nat)) := [
  (0, [(.iload_n 1, 1), (.iconst 0, 1), (.iconst 4, 1), (.invokestatic 64, 3), (.ifCond .ne 5, 3), (.iconst (-1), 1), (.ireturn, 1)]),
  (11, [(.aload_n 0, 1), (.invokevirtual 279, 3), (.aload_n 0, 1), (.invokevirtual 311, 3), (.istore_n 2, 1), (.iload_n 1, 1), (.ifCond .ne 7, 3), (.iload_n 2, 1), (.goto 11, 3)]),
  (28, [(.aload_n 0, 1), (.getfield 61, 3), (.iload_n 1, 1), (.iconst 1, 1), (.isub, 1), (.iaload, 1)]),
  (36, [(.ireturn, 1)])]
def am_b1077 : List (Nat × List (Instr × Nat)) := [
  (0, [(.iload_n 1, 1), (.iconst 0, 1), (.aload_n 0, 1), (.getfield 7, 3), (.iconst 5, 1), (.iaload, 1), (.iconst 1, 1), (.isub, 1), (.invokestatic 64, 3), (.ifCond .eq 28, 3), (.iload_n 2, 1), (.iconst 0, 1), (.iconst 3, 1), (.invokestatic 64, 3), (.ifCond .eq 19, 3), (.aload_n 0, 1), (.getfield 7, 3), (.bipush 110, 2), (.iconst 4, 1), (.iload_n 1, 1), (.imul, 1), (.iadd, 1), (.iload_n 2, 1), (.iadd, 1), (.iaload, 1), (.goto 4, 3)]),
  (41, [(.iconst (-1), 1)]),
  (42, [(.ireturn, 1)])]
def am_b1078 : List (Nat × List (Instr × Nat)) := [
  (0, [(.iload_n 1, 1), (.ifCond .ne 12, 3), (.aload_n 0, 1), (.getfield 314, 3), (.ifCond .ne 5, 3), (.iconst 0, 1), (.ireturn, 1)]),
  (13, [(.iconst 0, 1), (.istore_n 2, 1)]),
  (15, [(.iload_n 2, 1), (.sipush 1320, 3), (.if_icmp .ge 40, 3), (.iload_n 1, 1), (.ifCond .eq 18, 3), (.aload_n 0, 1), (.getfield 13, 3), (.iload_n 2, 1), (.aload_n 0, 1), (.getfield 7, 3), (.iload_n 2, 1), (.iaload, 1), (.iastore, 1), (.goto 15, 3)]),
  (41, [(.aload_n 0, 1), (.getfield 7, 3), (.iload_n 2, 1), (.aload_n 0, 1), (.getfield 13, 3), (.iload_n 2, 1), (.iaload, 1), (.iastore, 1)]),
  (53, [(.iinc 2 1, 3), (.goto (-41), 3)]),
  (59, [(.iload_n 1, 1), (.ifCond .ne 7, 3), (.aload_n 0, 1), (.invokevirtual 71, 3)]),
  (67, [(.aload_n 0, 1), (.iconst 1, 1), (.putfield 314, 3), (.iconst 1, 1), (.ireturn, 1)])]
def am_b1079 : List (Nat × List (Instr × Nat)) := [
  (0, [(.iload_n 1, 1), (.iconst 0, 1), (.bipush 6, 2), (.invokestatic 64, 3), (.ifCond .eq 10, 3), (.aload_n 0, 1), (.getfield 7, 3), (.iload_n 1, 1), (.iaload, 1), (.ireturn, 1)]),
  (17, [(.iload_n 1, 1), (.bipush 7, 2), (.if_icmp .ne 14, 3), (.aload_n 0, 1), (.getfield 7, 3), (.sipush 435, 3), (.iaload, 1), (.goto 17, 3)]),
  (34, [(.iload_n 1, 1), (.bipush 8, 2), (.if_icmp .ne 10, 3), (.aload_n 0, 1), (.getfield 68, 3), (.goto 4, 3)]),
  (47, [(.iconst (-1), 1)]),
  (48, [(.ireturn, 1)])]
def am_b1100 : List (Nat × List (Instr × Nat)) := [
  (18, [(.iload_n 3, 1), (.aload_n 0, 1), (.arraylength, 1), (.bipush 6, 2), (.isub, 1), (.if_icmp .gt 895, 3), (.aload_n 0, 1), (.iload_n 3, 1), (.iaload, 1), (.bipush 31, 2), (.iand, 1), (.tableswitch 880 0 26 #[123, 146, 169, 212, 265, 288, 321, 384, 407, 420, 443, 466, 499, 532, 565, 588, 621, 644, 657, 670, 683, 716, 749, 772, 805, 818, 857], 123)]),
  (156, [(.aload_n 1, 1), (.aload_n 0, 1), (.iload_n 3, 1), (.iconst 1, 1), (.iadd, 1), (.iaload, 1), (.invokevirtual 13, 3), (.aload_n 2, 1), (.aload_n 0, 1), (.iload_n 3, 1), (.iconst 1, 1), (.iadd, 1), (.iaload, 1), (.invokevirtual 17, 3), (.if_icmp .eq 739, 3), (.iconst 0, 1), (.ireturn, 1)]),
  (179, [(.aload_n 1, 1), (.aload_n 0, 1), (.iload_n 3, 1), (.iconst 1, 1), (.iadd, 1), (.iaload, 1), (.invokevirtual 18, 3), (.aload_n 2, 1), (.aload_n 0, 1), (.iload_n 3, 1), (.iconst 1, 1), (.iadd, 1), (.iaload, 1), (.invokevirtual 21, 3), (.if_icmp .eq 716, 3), (.iconst 0, 1), (.ireturn, 1)]),
  (202, [(.aload_n 1, 1), (.aload_n 0, 1), (.iload_n 3, 1), (.iconst 1, 1), (.iadd, 1), (.iaload, 1), (.aload_n 0, 1), (.iload_n 3, 1), (.iconst 2, 1), (.iadd, 1), (.iaload, 1), (.aload_n 0, 1), (.iload_n 3, 1), (.iconst 3, 1), (.iadd, 1), (.iaload, 1), (.invokevirtual 22, 3), (.aload_n 2, 1), (.aload_n 0, 1), (.iload_n 3, 1), (.iconst 1, 1), (.iadd, 1), (.iaload, 1), (.aload_n 0, 1), (.iload_n 3, 1), (.iconst 2, 1), (.iadd, 1), (.iaload, 1), (.aload_n 0, 1), (.iload_n 3, 1), (.iconst 3, 1), (.iadd, 1), (.iaload, 1), (.invokevirtual 26, 3), (.if_icmp .eq 673, 3), (.iconst 0, 1), (.ireturn, 1)]),
  (245, [(.aload_n 1, 1), (.aload_n 0, 1), (.iload_n 3, 1), (.iconst 1, 1), (.iadd, 1), (.iaload, 1), (.aload_n 0, 1), (.iload_n 3, 1), (.iconst 2, 1), (.iadd, 1), (.iaload, 1), (.aload_n 0, 1), (.iload_n 3, 1), (.iconst 3, 1), (.iadd, 1), (.iaload, 1), (.aload_n 0, 1), (.iload_n 3, 1), (.iconst 4, 1), (.iadd, 1), (.iaload, 1), (.invokevirtual 27, 3), (.aload_n 2, 1), (.aload_n 0, 1), (.iload_n 3, 1), (.iconst 1, 1), (.iadd, 1), (.iaload, 1), (.aload_n 0, 1), (.iload_n 3, 1), (.iconst 2, 1), (.iadd, 1), (.iaload, 1), (.aload_n 0, 1), (.iload_n 3, 1), (.iconst 3, 1), (.iadd, 1), (.iaload, 1), (.aload_n 0, 1), (.iload_n 3, 1), (.iconst 4, 1), (.iadd, 1), (.iaload, 1), (.invokevirtual 31, 3), (.if_icmp .eq 620, 3), (.iconst 0, 1), (.ireturn, 1)]),
  (298, [(.aload_n 1, 1), (.aload_n 0, 1), (.iload_n 3, 1), (.iconst 1, 1), (.iadd, 1), (.iaload, 1), (.invokevirtual 32, 3), (.aload_n 2, 1), (.aload_n 0, 1), (.iload_n 3, 1), (.iconst 1, 1), (.iadd, 1), (.iaload, 1), (.invokevirtual 36, 3), (.if_icmp .eq 597, 3), (.iconst 0, 1), (.ireturn, 1)]),
  (321, [(.aload_n 1, 1), (.aload_n 0, 1), (.iload_n 3, 1), (.iconst 1, 1), (.iadd, 1), (.iaload, 1), (.aload_n 0, 1), (.iload_n 3, 1), (.iconst 2, 1), (.iadd, 1), (.iaload, 1), (.invokevirtual 37, 3), (.aload_n 2, 1), (.aload_n 0, 1), (.iload_n 3, 1), (.iconst 1, 1), (.iadd, 1), (.iaload, 1), (.aload_n 0, 1), (.iload_n 3, 1), (.iconst 2, 1), (.iadd, 1), (.iaload, 1), (.invokevirtual 41, 3), (.if_icmp .eq 564, 3), (.iconst 0, 1), (.ireturn, 1)]),
  (354, [(.aload_n 1, 1), (.aload_n 0, 1), (.iload_n 3, 1), (.iconst 1, 1), (.iadd, 1), (.iaload, 1), (.aload_n 0, 1), (.iload_n 3, 1), (.iconst 2, 1), (.iadd, 1), (.iaload, 1), (.aload_n 0, 1), (.iload_n 3, 1), (.iconst 3, 1), (.iadd, 1), (.iaload, 1), (.aload_n 0, 1), (.iload_n 3, 1), (.iconst 4, 1), (.iadd, 1), (.iaload, 1), (.aload_n 0, 1), (.iload_n 3, 1), (.iconst 5, 1), (.iadd, 1), (.iaload, 1), (.invokevirtual 42, 3), (.aload_n 2, 1), (.aload_n 0, 1), (.iload_n 3, 1), (.iconst 1, 1), (.iadd, 1), (.iaload, 1), (.aload_n 0, 1), (.iload_n 3, 1), (.iconst 2, 1), (.iadd, 1), (.iaload, 1), (.aload_n 0, 1), (.iload_n 3, 1), (.iconst 3, 1), (.iadd, 1), (.iaload, 1), (.aload_n 0, 1), (.iload_n 3, 1), (.iconst 4, 1), (.iadd, 1), (.iaload, 1), (.aload_n 0, 1), (.iload_n 3, 1), (.iconst 5, 1), (.iadd, 1), (.iaload, 1), (.invokevirtual 46, 3), (.if_icmp .eq 501, 3), (.iconst 0, 1), (.ireturn, 1)]),
  (417, [(.aload_n 1, 1), (.aload_n 0, 1), (.iload_n 3, 1), (.iconst 1, 1), (.iadd, 1), (.iaload, 1), (.invokevirtual 47, 3), (.aload_n 2, 1), (.aload_n 0, 1), (.iload_n 3, 1), (.iconst 1, 1), (.iadd, 1), (.iaload, 1), (.invokevirtual 50, 3), (.if_icmp .eq 478, 3), (.iconst 0, 1), (.ireturn, 1)]),
  (440, [(.aload_n 1, 1), (.invokevirtual 51, 3), (.aload_n 2, 1), (.invokevirtual 55, 3), (.if_icmp .eq 465, 3), (.iconst 0, 1), (.ireturn, 1)]),
  (453, [(.aload_n 1, 1), (.aload_n 0, 1), (.iload_n 3, 1), (.iconst 1, 1), (.iadd, 1), (.iaload, 1), (.invokevirtual 56, 3), (.aload_n 2, 1), (.aload_n 0, 1), (.iload_n 3, 1), (.iconst 1, 1), (.iadd, 1), (.iaload, 1), (.invokevirtual 59, 3), (.if_icmp .eq 442, 3), (.iconst 0, 1), (.ireturn, 1)]),
  (476, [(.aload_n 1, 1), (.aload_n 0, 1), (.iload_n 3, 1), (.iconst 1, 1), (.iadd, 1), (.iaload, 1), (.invokevirtual 60, 3), (.aload_n 2, 1), (.aload_n 0, 1), (.iload_n 3, 1), (.iconst 1, 1), (.iadd, 1), (.iaload, 1), (.invokevirtual 63, 3), (.if_icmp .eq 419, 3), (.iconst 0, 1), (.ireturn, 1)]),
  (499, [(.aload_n 1, 1), (.aload_n 0, 1), (.iload_n 3, 1), (.iconst 1, 1), (.iadd, 1), (.iaload, 1), (.aload_n 0, 1), (.iload_n 3, 1), (.iconst 2, 1), (.iadd, 1), (.iaload, 1), (.invokevirtual 64, 3), (.aload_n 2, 1), (.aload_n 0, 1), (.iload_n 3, 1), (.iconst 1, 1), (.iadd, 1), (.iaload, 1), (.aload_n 0, 1), (.iload_n 3, 1), (.iconst 2, 1), (.iadd, 1), (.iaload, 1), (.invokevirtual 68, 3), (.if_icmp .eq 386, 3), (.iconst 0, 1), (.ireturn, 1)]),
  (532, [(.aload_n 1, 1), (.aload_n 0, 1), (.iload_n 3, 1), (.iconst 1, 1), (.iadd, 1), (.iaload, 1), (.aload_n 0, 1), (.iload_n 3, 1), (.iconst 2, 1), (.iadd, 1), (.iaload, 1), (.invokevirtual 69, 3), (.aload_n 2, 1), (.aload_n 0, 1), (.iload_n 3, 1), (.iconst 1, 1), (.iadd, 1), (.iaload, 1), (.aload_n 0, 1), (.iload_n 3, 1), (.iconst 2, 1), (.iadd, 1), (.iaload, 1), (.invokevirtual 72, 3), (.if_icmp .eq 353, 3), (.iconst 0, 1), (.ireturn, 1)]),
  (565, [(.aload_n 1, 1), (.aload_n 0, 1), (.iload_n 3, 1), (.iconst 1, 1), (.iadd, 1), (.iaload, 1), (.aload_n 0, 1), (.iload_n 3, 1), (.iconst 2, 1), (.iadd, 1), (.iaload, 1), (.invokevirtual 73, 3), (.aload_n 2, 1), (.aload_n 0, 1), (.iload_n 3, 1), (.iconst 1, 1), (.iadd, 1), (.iaload, 1), (.aload_n 0, 1), (.iload_n 3, 1), (.iconst 2, 1), (.iadd, 1), (.iaload, 1), (.invokevirtual 76, 3), (.if_icmp .eq 320, 3), (.iconst 0, 1), (.ireturn, 1)]),
  (598, [(.aload_n 1, 1), (.aload_n 0, 1), (.iload_n 3, 1), (.iconst 1, 1), (.iadd, 1), (.iaload, 1), (.invokevirtual 77, 3), (.aload_n 2, 1), (.aload_n 0, 1), (.iload_n 3, 1), (.iconst 1, 1), (.iadd, 1), (.iaload, 1), (.invokevirtual 80, 3), (.if_icmp .eq 297, 3), (.iconst 0, 1), (.ireturn, 1)]),
  (621, [(.aload_n 1, 1), (.aload_n 0, 1), (.iload_n 3, 1), (.iconst 1, 1), (.iadd, 1), (.iaload, 1), (.aload_n 0, 1), (.iload_n 3, 1), (.iconst 2, 1), (.iadd, 1), (.iaload, 1), (.invokevirtual 81, 3), (.aload_n 2, 1), (.aload_n 0, 1), (.iload_n 3, 1), (.iconst 1, 1), (.iadd, 1), (.iaload, 1), (.aload_n 0, 1), (.iload_n 3, 1), (.iconst 2, 1), (.iadd, 1), (.iaload, 1), (.invokevirtual 84, 3), (.if_icmp .eq 264, 3), (.iconst 0, 1), (.ireturn, 1)]),
  (654, [(.aload_n 1, 1), (.aload_n 0, 1), (.iload_n 3, 1), (.iconst 1, 1), (.iadd, 1), (.iaload, 1), (.invokevirtual 85, 3), (.aload_n 2, 1), (.aload_n 0, 1), (.iload_n 3, 1), (.iconst 1, 1), (.iadd, 1), (.iaload, 1), (.invokevirtual 88, 3), (.if_icmp .eq 241, 3), (.iconst 0, 1), (.ireturn, 1)]),
  (677, [(.aload_n 1, 1), (.invokevirtual 89, 3), (.aload_n 2, 1), (.invokevirtual 92, 3), (.if_icmp .eq 228, 3), (.iconst 0, 1), (.ireturn, 1)]),
  (690, [(.aload_n 1, 1), (.invokevirtual 93, 3), (.aload_n 2, 1), (.invokevirtual 96, 3), (.if_icmp .eq 215, 3), (.iconst 0, 1), (.ireturn, 1)]),
  (703, [(.aload_n 1, 1), (.invokevirtual 97, 3), (.aload_n 2, 1), (.invokevirtual 100, 3), (.if_icmp .eq 202, 3), (.iconst 0, 1), (.ireturn, 1)]),
  (716, [(.aload_n 1, 1), (.aload_n 0, 1), (.iload_n 3, 1), (.iconst 1, 1), (.iadd, 1), (.iaload, 1), (.aload_n 0, 1), (.iload_n 3, 1), (.iconst 2, 1), (.iadd, 1), (.iaload, 1), (.invokevirtual 101, 3), (.aload_n 2, 1), (.aload_n 0, 1), (.iload_n 3, 1), (.iconst 1, 1), (.iadd, 1), (.iaload, 1), (.aload_n 0, 1), (.iload_n 3, 1), (.iconst 2, 1), (.iadd, 1), (.iaload, 1), (.invokevirtual 104, 3), (.if_icmp .eq 169, 3), (.iconst 0, 1), (.ireturn, 1)]),
  (749, [(.aload_n 1, 1), (.aload_n 0, 1), (.iload_n 3, 1), (.iconst 1, 1), (.iadd, 1), (.iaload, 1), (.aload_n 0, 1), (.iload_n 3, 1), (.iconst 2, 1), (.iadd, 1), (.iaload, 1), (.invokevirtual 105, 3), (.aload_n 2, 1), (.aload_n 0, 1), (.iload_n 3, 1), (.iconst 1, 1), (.iadd, 1), (.iaload, 1), (.aload_n 0, 1), (.iload_n 3, 1), (.iconst 2, 1), (.iadd, 1), (.iaload, 1), (.invokevirtual 108, 3), (.if_icmp .eq 136, 3), (.iconst 0, 1), (.ireturn, 1)]),
  (782, [(.aload_n 1, 1), (.aload_n 0, 1), (.iload_n 3, 1), (.iconst 1, 1), (.iadd, 1), (.iaload, 1), (.invokevirtual 109, 3), (.aload_n 2, 1), (.aload_n 0, 1), (.iload_n 3, 1), (.iconst 1, 1), (.iadd, 1), (.iaload, 1), (.invokevirtual 112, 3), (.if_icmp .eq 113, 3), (.iconst 0, 1), (.ireturn, 1)]),
  (805, [(.aload_n 1, 1), (.aload_n 0, 1), (.iload_n 3, 1), (.iconst 1, 1), (.iadd, 1), (.iaload, 1), (.aload_n 0, 1), (.iload_n 3, 1), (.iconst 2, 1), (.iadd, 1), (.iaload, 1), (.invokevirtual 113, 3), (.aload_n 2, 1), (.aload_n 0, 1), (.iload_n 3, 1), (.iconst 1, 1), (.iadd, 1), (.iaload, 1), (.aload_n 0, 1), (.iload_n 3, 1), (.iconst 2, 1), (.iadd, 1), (.iaload, 1), (.invokevirtual 116, 3), (.if_icmp .eq 80, 3), (.iconst 0, 1), (.ireturn, 1)]),
  (838, [(.aload_n 1, 1), (.invokevirtual 117, 3), (.aload_n 2, 1), (.invokevirtual 121, 3), (.if_icmp .eq 67, 3), (.iconst 0, 1), (.ireturn, 1)]),
  (851, [(.aload_n 1, 1), (.aload_n 0, 1), (.iload_n 3, 1), (.iconst 1, 1), (.iadd, 1), (.iaload, 1), (.ifCond .eq 7, 3), (.iconst 1, 1), (.goto 4, 3)]),
  (864, [(.iconst 0, 1)]),
  (865, [(.invokevirtual 122, 3), (.aload_n 2, 1), (.aload_n 0, 1), (.iload_n 3, 1), (.iconst 1, 1), (.iadd, 1), (.iaload, 1), (.ifCond .eq 7, 3), (.iconst 1, 1), (.goto 4, 3)]),
  (881, [(.iconst 0, 1)]),
  (882, [(.invokevirtual 126, 3), (.if_icmp .eq 28, 3), (.iconst 0, 1), (.ireturn, 1)]),
  (890, [(.aload_n 1, 1), (.aload_n 0, 1), (.iload_n 3, 1), (.iconst 1, 1), (.iadd, 1), (.iaload, 1), (.invokevirtual 127, 3), (.aload_n 2, 1), (.aload_n 0, 1), (.iload_n 3, 1), (.iconst 1, 1), (.iadd, 1), (.iaload, 1), (.invokevirtual 130, 3), (.if_icmp .eq 5, 3), (.iconst 0, 1), (.ireturn, 1)]),
  (913, [(.iinc 3 6, 3), (.goto (-898), 3)]),
  (919, [(.iconst 1, 1), (.ireturn, 1)])]
def am_b1200 : List (Nat × List (Instr × Nat)) := [
  (0, [(.iload_n 0, 1), (.iload_n 0, 1), (.iconst 1, 1), (.iushr, 1), (.ldc_w 265, 3), (.iand, 1), (.isub, 1), (.istore_n 0, 1), (.iload_n 0, 1), (.ldc_w 266, 3), (.iand, 1), (.iload_n 0, 1), (.iconst 2, 1), (.iushr, 1), (.ldc_w 266, 3), (.iand, 1), (.iadd, 1), (.istore_n 0, 1), (.iload_n 0, 1), (.iload_n 0, 1), (.iconst 4, 1), (.iushr, 1), (.iadd, 1), (.ldc_w 267, 3), (.iand, 1), (.istore_n 0, 1), (.iload_n 0, 1), (.iload_n 0, 1), (.bipush 8, 2), (.iushr, 1), (.iadd, 1), (.istore_n 0, 1), (.iload_n 0, 1), (.iload_n 0, 1), (.bipush 16, 2), (.iushr, 1), (.iadd, 1), (.istore_n 0, 1), (.iload_n 0, 1), (.bipush 63, 2), (.iand, 1), (.ireturn, 1)])]
def am_b1300 : List (Nat × List (Instr × Nat)) := [
  (0, [(.iload_n 0, 1), (.iload_n 1, 1), (.if_icmp .lt 7, 3), (.iload_n 0, 1), (.goto 4, 3)]),
  (9, [(.iload_n 1, 1)]),
  (10, [(.ireturn, 1)])]
def am_b1400 : List (Nat × List (Instr × Nat)) := [
  (0, [(.aload_n 0, 1), (.getfield 9, 3), (.arraylength, 1), (.aload_n 0, 1), (.invokevirtual 335, 3), (.ishr, 1), (.ireturn, 1)])]
def am_b1401 : List (Nat × List (Instr × Nat)) := [
  (0, [(.aload_n 0, 1), (.invokevirtual 492, 3), (.ifCond .eq 12, 3), (.aload_n 0, 1), (.getfield 9, 3), (.iload_n 1, 1), (.invokestatic 495, 3), (.ireturn, 1)]),
  (16, [(.aload_n 0, 1), (.getfield 9, 3), (.iload_n 1, 1), (.invokestatic 498, 3), (.ireturn, 1)])]
def am_b1402 : List (Nat × List (Instr × Nat)) := [
  (0, [(.getstatic 38, 3), (.ifCond .eq 10, 3), (.aload_n 0, 1), (.getfield 15, 3), (.goto 4, 3)]),
  (13, [(.iconst 1, 1)]),
  (14, [(.ireturn, 1)])]
def am_b1403 : List (Nat × List (Instr × Nat)) := [
  (0, [(.getstatic 38, 3), (.ifCond .eq 14, 3), (.aload_n 0, 1), (.getfield 15, 3), (.ifCond .ne 7, 3), (.iconst 1, 1), (.goto 4, 3)]),
  (17, [(.iconst 0, 1)]),
  (18, [(.ireturn, 1)])]
def am_b1404 : List (Nat × List (Instr × Nat)) := [
  (0, [(.iload_n 0, 1), (.iload_n 1, 1), (.getstatic 1053, 3), (.invokestatic 1059, 3), (.pop, 1), (.return_, 1)])]
def am_b1500 : List (Nat × List (Instr × Nat)) := [
  (0, [(.iload_n 1, 1), (.aload_n 0, 1), (.arraylength, 1), (.invokestatic 9, 3), (.aload_n 0, 1), (.iload_n 1, 1), (.baload, 1), (.sipush 255, 3), (.iand, 1), (.i2c, 1), (.ireturn, 1)])]
def am_b1600 : List (Nat × List (Instr × Nat)) := [
  (0, [(.iload_n 0, 1), (.ifCond .lt 8, 3), (.iload_n 0, 1), (.iload_n 1, 1), (.if_icmp .lt 10, 3)]),
  (9, [(.aload_n 2, 1), (.iload_n 0, 1), (.iload_n 1, 1), (.invokestatic 95, 3), (.athrow, 1)]),
  (16, [(.iload_n 0, 1), (.ireturn, 1)])]
def am_BT : List (Nat × List (Nat × List (Instr × Nat))) := [(1, am_b1), (2, am_b2), (3, am_b3), (4, am_b4), (5, am_b5), (101, am_b101), (102, am_b102), (103, am_b103), (104, am_b104), (201, am_b201), (202, am_b202), (203, am_b203), (204, am_b204), (205, am_b205), (206, am_b206), (207, am_b207), (208, am_b208), (209, am_b209), (210, am_b210), (211, am_b211), (301, am_b301), (302, am_b302), (303, am_b303), (304, am_b304), (305, am_b305), (306, am_b306), (307, am_b307), (308, am_b308), (309, am_b309), (310, am_b310), (311, am_b311), (401, am_b401), (402, am_b402), (403, am_b403), (501, am_b501), (502, am_b502), (503, am_b503), (504, am_b504), (505, am_b505), (506, am_b506), (507, am_b507), (508, am_b508), (509, am_b509), (510, am_b510), (511, am_b511), (601, am_b601), (602, am_b602), (603, am_b603), (604, am_b604), (605, am_b605), (606, am_b606), (607, am_b607), (608, am_b608), (609, am_b609), (610, am_b610), (611, am_b611), (701, am_b701), (702, am_b702), (703, am_b703), (704, am_b704), (705, am_b705), (706, am_b706), (707, am_b707), (708, am_b708), (709, am_b709), (710, am_b710), (711, am_b711), (712, am_b712), (713, am_b713), (714, am_b714), (715, am_b715), (716, am_b716), (717, am_b717), (718, am_b718), (719, am_b719), (720, am_b720), (721, am_b721), (722, am_b722), (723, am_b723), (724, am_b724), (725, am_b725), (801, am_b801), (802, am_b802), (803, am_b803), (804, am_b804), (901, am_b901), (902, am_b902), (903, am_b903), (904, am_b904), (905, am_b905), (906, am_b906), (907, am_b907), (908, am_b908), (909, am_b909), (910, am_b910), (911, am_b911), (912, am_b912), (913, am_b913), (914, am_b914), (915, am_b915), (916, am_b916), (917, am_b917), (918, am_b918), (919, am_b919), (920, am_b920), (921, am_b921), (922, am_b922), (923, am_b923), (924, am_b924), (925, am_b925), (926, am_b926), (927, am_b927), (928, am_b928), (929, am_b929), (930, am_b930), (931, am_b931), (932, am_b932), (933, am_b933), (1001, am_b1001), (1002, am_b1002), (1003, am_b1003), (1004, am_b1004), (1005, am_b1005), (1006, am_b1006), (1007, am_b1007), (1008, am_b1008), (1009, am_b1009), (1010, am_b1010), (1011, am_b1011), (1012, am_b1012), (1013, am_b1013), (1014, am_b1014), (1015, am_b1015), (1016, am_b1016), (1017, am_b1017), (1018, am_b1018), (1019, am_b1019), (1020, am_b1020), (1021, am_b1021), (1022, am_b1022), (1023, am_b1023), (1024, am_b1024), (1025, am_b1025), (1026, am_b1026), (1027, am_b1027), (1028, am_b1028), (1029, am_b1029), (1030, am_b1030), (1031, am_b1031), (1032, am_b1032), (1033, am_b1033), (1034, am_b1034), (1035, am_b1035), (1036, am_b1036), (1037, am_b1037), (1038, am_b1038), (1039, am_b1039), (1040, am_b1040), (1041, am_b1041), (1042, am_b1042), (1043, am_b1043), (1044, am_b1044), (1045, am_b1045), (1046, am_b1046), (1047, am_b1047), (1048, am_b1048), (1049, am_b1049), (1050, am_b1050), (1051, am_b1051), (1052, am_b1052), (1053, am_b1053), (1054, am_b1054), (1055, am_b1055), (1056, am_b1056), (1057, am_b1057), (1058, am_b1058), (1059, am_b1059), (1060, am_b1060), (1061, am_b1061), (1062, am_b1062), (1063, am_b1063), (1064, am_b1064), (1065, am_b1065), (1066, am_b1066), (1067, am_b1067), (1068, am_b1068), (1069, am_b1069), (1070, am_b1070), (1071, am_b1071), (1072, am_b1072), (1073, am_b1073), (1074, am_b1074), (1075, am_b1075), (1076, am_b1076), (1077, am_b1077), (1078, am_b1078), (1079, am_b1079), (1100, am_b1100), (1200, am_b1200), (1300, am_b1300), (1400, am_b1400), (1401, am_b1401), (1402, am_b1402), (1403, am_b1403), (1404, am_b1404), (1500, am_b1500), (1600, am_b1600)]
/-- a method: its name, its code, how many locals, what it answers, how many parameters, static or not -/
def am_MT : List (Nat × MethodName × ByteArray × Nat × Option FieldType × Nat × Bool) := [
  (1, yX0_passOn, cX0_passOn, 4, none, 1, false),
  (2, yX0_passOnEntry, cX0_passOnEntry, 6, none, 3, false),
  (3, yX0_find, cX0_find, 4, none, 3, false),
  (4, yX0_firstSpent, cX0_firstSpent, 4, (some .int), 2, true),
  (5, yX0_firstOutside, cX0_firstOutside, 5, (some .int), 3, true),
  (101, yX1_copyFrom, cX1_copyFrom, 2, none, 1, false),
  (102, yX1_give, cX1_give, 3, none, 2, false),
  (103, yX1_saysFix, cX1_saysFix, 4, (some .boolean), 0, false),
  (104, yX1_work, cX1_work, 7, (some .int), 2, false),
  (201, yX2_readLaw, cX2_readLaw, 4, (some .boolean), 2, false),
  (202, yX2_step, cX2_step, 1, none, 0, false),
  (203, yX2_fail, cX2_fail, 2, (some .boolean), 1, false),
  (204, yX2_pass, cX2_pass, 2, (some .boolean), 1, false),
  (205, yX2_put, cX2_put, 2, none, 1, false),
  (206, yX2_readLine, cX2_readLine, 1, (some .boolean), 0, false),
  (207, yX2_readJoined, cX2_readJoined, 5, (some .boolean), 2, false),
  (208, yX2_readCondition, cX2_readCondition, 3, (some .boolean), 1, false),
  (209, yX2_readComparison, cX2_readComparison, 2, (some .boolean), 0, false),
  (210, yX2_readSum, cX2_readSum, 4, (some .boolean), 0, false),
  (211, yX2_readUnit, cX2_readUnit, 3, (some .boolean), 1, false),
  (301, yX3_pack, cX3_pack, 4, none, 2, false),
  (302, yX3_forgetFound, cX3_forgetFound, 2, none, 0, false),
  (303, yX3_listSets, cX3_listSets, 5, none, 1, false),
  (304, yX3_singlesThatFix, cX3_singlesThatFix, 5, (some .int), 2, false),
  (305, yX3_addSet, cX3_addSet, 4, none, 3, false),
  (306, yX3_spaced, cX3_spaced, 3, (some .int), 1, true),
  (307, yX3_fits, cX3_fits, 2, (some .boolean), 2, true),
  (308, yX3_mostFrom, cX3_mostFrom, 8, (some .int), 2, false),
  (309, yX3_slotOf, cX3_slotOf, 1, (some .int), 1, true),
  (310, yX3_choose, cX3_choose, 5, none, 1, false),
  (311, yX3_leastSet, cX3_leastSet, 7, (some .int), 3, false),
  (401, yX4_forget, cX4_forget, 1, none, 0, false),
  (402, yX4_keep, cX4_keep, 2, none, 1, false),
  (403, yX4_bringBack, cX4_bringBack, 2, none, 1, false),
  (501, yX5_takeEntries, cX5_takeEntries, 3, none, 1, false),
  (502, yX5_takeFixedEntries, cX5_takeFixedEntries, 3, none, 1, false),
  (503, yX5_addRule, cX5_addRule, 3, none, 2, false),
  (504, yX5_allNeeds, cX5_allNeeds, 3, (some .int), 0, false),
  (505, yX5_learnFrom, cX5_learnFrom, 4, none, 1, false),
  (506, yX5_given, cX5_given, 4, (some .int), 1, false),
  (507, yX5_orderEntries, cX5_orderEntries, 5, none, 1, false),
  (508, yX5_firstReady, cX5_firstReady, 3, (some .int), 1, false),
  (509, yX5_fewest, cX5_fewest, 8, (some .int), 2, false),
  (510, yX5_pick, cX5_pick, 6, (some .int), 3, false),
  (511, yX5_spread, cX5_spread, 6, (some .int), 1, false),
  (601, yX6_split, cX6_split, 6, none, 2, false),
  (602, yX6_add, cX6_add, 3, none, 2, false),
  (603, yX6_endOfToken, cX6_endOfToken, 4, (some .int), 3, true),
  (604, yX6_kindOf, cX6_kindOf, 4, (some .int), 3, true),
  (605, yX6_numberIn, cX6_numberIn, 5, (some .int), 3, true),
  (606, yX6_spells, cX6_spells, 5, (some .boolean), 4, true),
  (607, yX6_isBlank, cX6_isBlank, 1, (some .boolean), 1, true),
  (608, yX6_isLetter, cX6_isLetter, 1, (some .boolean), 1, true),
  (609, yX6_isDigit, cX6_isDigit, 1, (some .boolean), 1, true),
  (610, yX6_keyword, cX6_keyword, 1, (some (.object "java/lang/String")), 1, true),
  (611, yX6_kindOfSign, cX6_kindOfSign, 1, (some .int), 1, true),
  (701, yX7_copyFrom, cX7_copyFrom, 2, none, 1, false),
  (702, yX7_hasWord, cX7_hasWord, 2, (some .boolean), 1, false),
  (703, yX7_hasEntry, cX7_hasEntry, 2, (some .boolean), 1, false),
  (704, yX7_hasSet, cX7_hasSet, 2, (some .boolean), 1, false),
  (705, yX7_canBeEntry, cX7_canBeEntry, 5, (some .boolean), 4, false),
  (706, yX7_addEntry, cX7_addEntry, 6, (some .int), 4, false),
  (707, yX7_moveEntry, cX7_moveEntry, 4, none, 2, false),
  (708, yX7_swapEntries, cX7_swapEntries, 4, none, 2, false),
  (709, yX7_swapNumbers, cX7_swapNumbers, 4, none, 3, true),
  (710, yX7_usedWord, cX7_usedWord, 3, (some .int), 2, false),
  (711, yX7_usedSet, cX7_usedSet, 4, (some .int), 1, false),
  (712, yX7_uses, cX7_uses, 3, (some .boolean), 2, false),
  (713, yX7_usesAhead, cX7_usesAhead, 5, (some .int), 2, false),
  (714, yX7_firstUse, cX7_firstUse, 3, (some .int), 1, false),
  (715, yX7_alike, cX7_alike, 4, (some .int), 1, false),
  (716, yX7_allHeads, cX7_allHeads, 3, (some .int), 0, false),
  (717, yX7_isFixed, cX7_isFixed, 2, (some .boolean), 1, false),
  (718, yX7_fixedBy, cX7_fixedBy, 5, (some .boolean), 2, false),
  (719, yX7_otherWordsWithin, cX7_otherWordsWithin, 5, (some .int), 2, false),
  (720, yX7_readable, cX7_readable, 8, (some .int), 2, false),
  (721, yX7_usesElsewhere, cX7_usesElsewhere, 4, (some .int), 2, false),
  (722, yX7_draw, cX7_draw, 2, (some .int), 1, false),
  (723, yX7_bringOutEdition, cX7_bringOutEdition, 3, (some .int), 0, false),
  (724, yX7_changeWord, cX7_changeWord, 4, (some .boolean), 1, false),
  (725, yX7_writeBook, cX7_writeBook, 5, none, 3, false),
  (801, yX8_seek, cX8_seek, 5, none, 1, false),
  (802, yX8_seekBetween, cX8_seekBetween, 6, none, 3, false),
  (803, yX8_wouldFix, cX8_wouldFix, 6, (some .boolean), 4, true),
  (804, yX8_note, cX8_note, 5, none, 4, false),
  (901, yX9_state, cX9_state, 3, (some .int), 1, false),
  (902, yX9_word, cX9_word, 3, (some .int), 1, false),
  (903, yX9_set, cX9_set, 5, (some .boolean), 3, false),
  (904, yX9_entry, cX9_entry, 6, (some .int), 4, false),
  (905, yX9_drop, cX9_drop, 2, (some .boolean), 1, false),
  (906, yX9_move, cX9_move, 3, (some .boolean), 2, false),
  (907, yX9_feed, cX9_feed, 6, (some .int), 5, false),
  (908, yX9_end, cX9_end, 2, (some .boolean), 1, false),
  (909, yX9_text, cX9_text, 2, (some .int), 0, false),
  (910, yX9_fault, cX9_fault, 2, (some .int), 1, false),
  (911, yX9_editions, cX9_editions, 4, (some .int), 1, false),
  (912, yX9_of, cX9_of, 3, (some .int), 2, false),
  (913, yX9_at, cX9_at, 3, (some .int), 2, false),
  (914, yX9_fixes, cX9_fixes, 3, (some .int), 2, false),
  (915, yX9_judge, cX9_judge, 2, (some .int), 1, false),
  (916, yX9_learnt, cX9_learnt, 3, (some .int), 2, false),
  (917, yX9_order, cX9_order, 2, (some .int), 1, false),
  (918, yX9_ring, cX9_ring, 1, (some .int), 0, false),
  (919, yX9_cut, cX9_cut, 1, (some .int), 0, false),
  (920, yX9_least, cX9_least, 1, (some .int), 0, false),
  (921, yX9_most, cX9_most, 4, (some .int), 2, false),
  (922, yX9_worn, cX9_worn, 3, (some .int), 2, false),
  (923, yX9_trade, cX9_trade, 2, (some .int), 1, false),
  (924, yX9_book, cX9_book, 3, (some .int), 2, false),
  (925, yX9_undo, cX9_undo, 1, (some .boolean), 0, false),
  (926, yX9_image, cX9_image, 2, (some .boolean), 1, false),
  (927, yX9_look, cX9_look, 2, (some .int), 1, false),
  (928, yX9_canBeMarks, cX9_canBeMarks, 1, (some .boolean), 1, true),
  (929, yX9_setLimit, cX9_setLimit, 2, (some .boolean), 1, false),
  (930, yX9_setChange, cX9_setChange, 2, (some .boolean), 1, false),
  (931, yX9_setKnown, cX9_setKnown, 3, (some .boolean), 2, false),
  (932, yX9_setMarks, cX9_setMarks, 3, (some .boolean), 2, false),
  (933, yX9_putBytes, cX9_putBytes, 3, none, 1, false),
  (1001, yX10_isIn, cX10_isIn, 3, (some .boolean), 3, true),
  (1002, yX10_isWord, cX10_isWord, 2, (some .boolean), 1, false),
  (1003, yX10_isEntry, cX10_isEntry, 2, (some .boolean), 1, false),
  (1004, yX10_isSet, cX10_isSet, 2, (some .boolean), 1, false),
  (1005, yX10_own, cX10_own, 3, (some .int), 2, false),
  (1006, yX10_gives, cX10_gives, 4, none, 3, false),
  (1007, yX10_count, cX10_count, 3, (some .int), 1, true),
  (1008, yX10_forgets, cX10_forgets, 1, none, 0, false),
  (1009, yX10_state, cX10_state, 3, (some .int), 1, false),
  (1010, yX10_draw, cX10_draw, 2, (some .int), 1, false),
  (1011, yX10_word, cX10_word, 2, (some .int), 1, false),
  (1012, yX10_set, cX10_set, 4, (some .boolean), 3, false),
  (1013, yX10_isOther, cX10_isOther, 5, (some .boolean), 4, false),
  (1014, yX10_entry, cX10_entry, 6, (some .int), 4, false),
  (1015, yX10_copies, cX10_copies, 4, none, 2, false),
  (1016, yX10_drop, cX10_drop, 3, (some .boolean), 1, false),
  (1017, yX10_move, cX10_move, 4, (some .boolean), 2, false),
  (1018, yX10_feed, cX10_feed, 8, (some .int), 5, false),
  (1019, yX10_end, cX10_end, 2, (some .boolean), 1, false),
  (1020, yX10_see, cX10_see, 2, (some .int), 1, false),
  (1021, yX10_isLetter, cX10_isLetter, 1, (some .boolean), 1, true),
  (1022, yX10_isDigit, cX10_isDigit, 1, (some .boolean), 1, true),
  (1023, yX10_is, cX10_is, 4, (some .boolean), 1, false),
  (1024, yX10_nameWord, cX10_nameWord, 1, (some .int), 0, false),
  (1025, yX10_keyword, cX10_keyword, 1, (some .int), 0, false),
  (1026, yX10_next0, cX10_next0, 3, none, 0, false),
  (1027, yX10_bad, cX10_bad, 2, (some .boolean), 1, false),
  (1028, yX10_need, cX10_need, 2, (some .boolean), 1, false),
  (1029, yX10_lay, cX10_lay, 3, none, 2, false),
  (1030, yX10_opens, cX10_opens, 1, (some .boolean), 0, false),
  (1031, yX10_sumUp, cX10_sumUp, 2, (some .boolean), 0, false),
  (1032, yX10_product, cX10_product, 3, (some .boolean), 0, false),
  (1033, yX10_unit, cX10_unit, 2, (some .boolean), 0, false),
  (1034, yX10_any, cX10_any, 1, (some .boolean), 0, false),
  (1035, yX10_every, cX10_every, 1, (some .boolean), 0, false),
  (1036, yX10_oneTest, cX10_oneTest, 2, (some .boolean), 0, false),
  (1037, yX10_aLine, cX10_aLine, 1, (some .boolean), 0, false),
  (1038, yX10_text, cX10_text, 3, (some .int), 0, false),
  (1039, yX10_fault, cX10_fault, 2, (some .int), 1, false),
  (1040, yX10_both, cX10_both, 3, (some .int), 3, true),
  (1041, yX10_comesTo, cX10_comesTo, 7, (some .int), 2, false),
  (1042, yX10_allMarks, cX10_allMarks, 4, (some .int), 1, false),
  (1043, yX10_isFixed, cX10_isFixed, 5, (some .boolean), 2, false),
  (1044, yX10_usedBy, cX10_usedBy, 4, (some .int), 1, false),
  (1045, yX10_isEntryFixed, cX10_isEntryFixed, 2, (some .boolean), 1, false),
  (1046, yX10_usesAhead, cX10_usesAhead, 5, (some .int), 2, false),
  (1047, yX10_fixes, cX10_fixes, 3, (some .int), 2, false),
  (1048, yX10_keeps, cX10_keeps, 3, none, 0, false),
  (1049, yX10_undo, cX10_undo, 3, (some .boolean), 0, false),
  (1050, yX10_writes, cX10_writes, 5, none, 3, false),
  (1051, yX10_anEdition, cX10_anEdition, 5, (some .int), 0, false),
  (1052, yX10_editions, cX10_editions, 4, (some .int), 1, false),
  (1053, yX10_led, cX10_led, 3, (some .int), 1, false),
  (1054, yX10_of, cX10_of, 5, (some .int), 2, false),
  (1055, yX10_at, cX10_at, 3, (some .int), 2, false),
  (1056, yX10_isHeadAhead, cX10_isHeadAhead, 4, (some .boolean), 2, false),
  (1057, yX10_faultOf, cX10_faultOf, 4, (some .int), 1, false),
  (1058, yX10_judge, cX10_judge, 4, (some .int), 1, false),
  (1059, yX10_laysEntries, cX10_laysEntries, 2, none, 0, false),
  (1060, yX10_learns, cX10_learns, 5, (some .int), 1, false),
  (1061, yX10_learnt, cX10_learnt, 4, (some .int), 2, false),
  (1062, yX10_heads, cX10_heads, 3, (some .int), 0, false),
  (1063, yX10_least, cX10_least, 4, (some .int), 0, false),
  (1064, yX10_knownSet, cX10_knownSet, 3, (some .int), 0, false),
  (1065, yX10_laysOrder, cX10_laysOrder, 5, (some .int), 1, false),
  (1066, yX10_order, cX10_order, 2, (some .int), 1, false),
  (1067, yX10_ring, cX10_ring, 1, (some .int), 0, false),
  (1068, yX10_cut, cX10_cut, 4, (some .int), 0, false),
  (1069, yX10_takes, cX10_takes, 5, (some .int), 3, true),
  (1070, yX10_bestBy, cX10_bestBy, 6, (some .int), 4, false),
  (1071, yX10_laysMost, cX10_laysMost, 8, none, 1, false),
  (1072, yX10_most, cX10_most, 3, (some .int), 2, false),
  (1073, yX10_worn, cX10_worn, 7, (some .int), 2, false),
  (1074, yX10_canTrade, cX10_canTrade, 9, (some .boolean), 4, false),
  (1075, yX10_trades, cX10_trades, 6, (some .int), 0, false),
  (1076, yX10_trade, cX10_trade, 3, (some .int), 1, false),
  (1077, yX10_book, cX10_book, 3, (some .int), 2, false),
  (1078, yX10_image, cX10_image, 3, (some .boolean), 1, false),
  (1079, yX10_look, cX10_look, 2, (some .int), 1, false),
  (1200, yJ6_bitCount_0f7a4, cJ6_bitCount_0f7a4, 1, (some .int), 1, true),
  (1300, yJ9_max_7cf53, cJ9_max_7cf53, 2, (some .int), 2, true),
  (1400, yJ0_length_8abf5, cJ0_length_8abf5, 1, (some .int), 0, false),
  (1401, yJ0_charAt_5068e, cJ0_charAt_5068e, 2, (some .char), 1, false),
  (1402, yJ0_coder_7d493, cJ0_coder_7d493, 1, (some .byte), 0, false),
  (1403, yJ0_isLatin1_aae02, cJ0_isLatin1_aae02, 1, (some .boolean), 0, false),
  (1404, yJ0_checkIndex_df160, cJ0_checkIndex_df160, 2, none, 2, true),
  (1500, yJ1_charAt_3b067, cJ1_charAt_3b067, 2, (some .char), 2, true),
  (1600, yJ3_checkIndex_8e157, cJ3_checkIndex_8e157, 3, (some .int), 3, true)]
/-- bounds of the answers of small types -/
def am_zT : List (Nat × Nat) := [(103, 2), (201, 2), (203, 2), (204, 2), (206, 2), (207, 2), (208, 2), (209, 2), (210, 2), (211, 2), (307, 2), (606, 2), (607, 2), (608, 2), (609, 2), (702, 2), (703, 2), (704, 2), (705, 2), (712, 2), (717, 2), (718, 2), (724, 2), (803, 2), (903, 2), (905, 2), (906, 2), (908, 2), (925, 2), (926, 2), (928, 2), (929, 2), (930, 2), (931, 2), (932, 2), (1001, 2), (1002, 2), (1003, 2), (1004, 2), (1012, 2), (1013, 2), (1016, 2), (1017, 2), (1019, 2), (1021, 2), (1022, 2), (1023, 2), (1027, 2), (1028, 2), (1030, 2), (1031, 2), (1032, 2), (1033, 2), (1034, 2), (1035, 2), (1036, 2), (1037, 2), (1043, 2), (1045, 2), (1049, 2), (1056, 2), (1074, 2), (1078, 2), (1100, 2), (1401, 65536), (1402, 128), (1403, 2), (1500, 65536)]
end
section
/-! The abstract machine: a method's blocks over a memory of ints (cell, place), its calls by a relation. -/
abbrev am_V : Type := List Value
abbrev am_Mem : Type := Nat → Nat → Int32
abbrev am_R : Type := am_Mem → Option Value → Prop
abbrev am_Kt : Type := Nat → am_V → am_V → am_Mem → am_R
abbrev am_Ct : Type := Nat → am_V → am_Mem → am_R
def am_no : am_R := fun _ _ => False
def am_ret (v : Option Value) (μ : am_Mem) : am_R := fun μ' r => r = v ∧ μ' = μ
def am_gb (b : Bool) (R : am_R) : am_R := match b with
  | true => R
  | false => am_no
def am_bI (R : am_R) (k : Int32 → am_Mem → am_R) : am_R := fun μ' r => ∃ x μ1, R μ1 (some (.int x)) ∧ k x μ1 μ' r
def am_bS (R : am_R) (k : Nat → am_Mem → am_R) : am_R := fun μ' r => ∃ i μ1, R μ1 (some (.retAddr i)) ∧ k i μ1 μ' r
def am_bV (R : am_R) (k : am_Mem → am_R) : am_R := fun μ' r => ∃ μ1, R μ1 none ∧ k μ1 μ' r
def am_up (μ : am_Mem) (K i : Nat) (x : Int32) : am_Mem := fun K' => if K' = K then (fun j => if j = i then x else μ K j) else μ K'
def am_cp (μ : am_Mem) (K0 K1 sp dp n : Nat) : am_Mem := fun K => if K = K1 then va_cpy (μ K0) (μ K1) sp dp n else μ K
def am_ix (i : Int32) : Nat := i.toUInt32.toNat
def am_len : List Nat := [3, 5, 4, 2, 3, 3, 6, 4, 4, 4, 6, 4, 0]
def am_byt : List (List Int32) := [[102, 105, 120], [108, 111, 111, 115, 101], [119, 104, 101, 110], [111, 114], [97, 110, 100], [110, 111, 116], [99, 111, 109, 109, 111, 110], [108, 97, 99, 107], [109, 111, 114, 101], [109, 97, 110, 121], [111, 116, 104, 101, 114, 115], [104, 101, 97, 100], []]
def am_slen (i : Nat) : Nat := am_len.getD i 0
def am_sch (i j : Nat) : Int32 := (am_byt.getD i []).getD j 0
def am_ldI : am_V → Nat → (Int32 → am_R) → am_R
  | v :: _, 0, k => match v with
    | .int x => k x
    | _ => am_no
  | _ :: l, n + 1, k => am_ldI l n k
  | [], _, _ => am_no
def am_isA (v : Value) (R : am_R) : am_R := match v with
  | .ref _ => R
  | .retAddr _ => R
  | .float _ => R
  | _ => am_no
def am_ldA : am_V → Nat → (Value → am_R) → am_R
  | v :: _, 0, k => am_isA v (k v)
  | _ :: l, n + 1, k => am_ldA l n k
  | [], _, _ => am_no
def am_sto : am_V → Nat → Value → (am_V → am_R) → am_R
  | _ :: l, 0, v, k => k (v :: l)
  | a :: l, n + 1, v, k => am_sto l n v (fun l' => k (a :: l'))
  | [], _, _, _ => am_no
def am_lkE {α : Type} : List (Nat × α) → Nat → (α → am_R) → am_R → am_R
  | [], _, _, e => e
  | q :: l, j, k, e => match Nat.beq q.1 j with
    | true => k q.2
    | false => am_lkE l j k e
def am_lk2 {α : Type} (t : List (Nat × List (Nat × α))) (c i : Nat) (k : α → am_R) (e : am_R) : am_R := am_lkE t c (fun l => am_lkE l i k e) e
def am_fl (own idx : Nat) (k : Nat × Nat → am_R) : am_R := am_lk2 am_FT own idx k (am_lk2 am_NT own idx k am_no)
def am_cell (K : Nat) (kO : Nat → List Nat → am_R) (kA : Nat → Nat → am_R) : am_R := match am_L[K]? with
  | some (.inl q) => kO q.1 q.2
  | some (.inr q) => kA q.1 q.2
  | none => am_no
def am_obj (K ci : Nat) (k : List Nat → am_R) : am_R := am_cell K (fun c fs => am_gb (Nat.beq c ci) (k fs)) (fun _ _ => am_no)
def am_getf (own idx : Nat) (v : Value) (μ : am_Mem) (k : Value → am_R) : am_R := match v with
  | .ref K => am_fl own idx (fun q => am_obj K q.1 (fun fs => match fs[q.2]? with
    | some 0 => k (.int (μ K q.2))
    | some 1 => k (.int (μ K q.2))
    | some (j + 2) => k (.ref j)
    | none => am_no))
  | .retAddr i => am_gb (Nat.blt i 13) (am_gb (Nat.beq own 14) (match Nat.beq idx 9 with
    | true => k (.float (UInt32.ofNat i))
    | false => match Nat.beq idx 15 with
      | true => k (.int 0)
      | false => am_no))
  | _ => am_no
def am_putf (own idx : Nat) (K : Nat) (x : Int32) (μ : am_Mem) (k : am_Mem → am_R) : am_R := am_fl own idx (fun q => am_obj K q.1 (fun fs => match fs[q.2]? with
    | some 0 => k (am_up μ K q.2 x)
    | some 1 => am_gb (Nat.blt (am_ix x) 2) (k (am_up μ K q.2 x))
    | _ => am_no))
def am_arr (K t : Nat) (k : Nat → am_R) : am_R := am_cell K (fun _ _ => am_no) (fun u n => am_gb (Nat.beq u t) (k n))
def am_iald (v : Value) (i : Int32) (μ : am_Mem) (k : Int32 → am_R) : am_R := match v with
  | .ref K => match Nat.beq K 999 with
    | true => am_gb (Nat.blt (am_ix i) (am_ix (μ 998 0))) (k (μ 999 (am_ix i)))
    | false => am_arr K 0 (fun n => am_gb (Nat.blt (am_ix i) n) (k (μ K (am_ix i))))
  | _ => am_no
def am_bald (v : Value) (i : Int32) (μ : am_Mem) (k : Int32 → am_R) : am_R := match v with
  | .ref K => am_cell K (fun _ _ => am_no) (fun u n => am_gb (Nat.blt 0 u) (am_gb (Nat.blt u 3) (am_gb (Nat.blt (am_ix i) n) (k (μ K (am_ix i))))))
  | .float u => am_gb (Nat.blt u.toNat 13) (am_gb (Nat.blt (am_ix i) (am_slen u.toNat)) (k (am_sch u.toNat (am_ix i))))
  | _ => am_no
def am_nar (u : Nat) (x : Int32) : Int32 := match u with
  | 1 => x.toInt8.toInt32
  | _ => x &&& 1
def am_bast (K : Nat) (i x : Int32) (μ : am_Mem) (k : am_Mem → am_R) : am_R := am_cell K (fun _ _ => am_no) (fun u n => am_gb (Nat.blt 0 u) (am_gb (Nat.blt u 3) (am_gb (Nat.blt (am_ix i) n) (k (am_up μ K (am_ix i) (am_nar u x))))))
def am_alen (v : Value) (μ : am_Mem) (k : Int32 → am_R) : am_R := match v with
  | .ref K => match Nat.beq K 999 with
    | true => k (μ 998 0)
    | false => am_cell K (fun _ _ => am_no) (fun _ n => k (Int32.ofNat n))
  | .float u => am_gb (Nat.blt u.toNat 13) (k (Int32.ofNat (am_slen u.toNat)))
  | _ => am_no
def am_p1 (st : am_V) (k : Int32 → am_V → am_R) : am_R := match st with
  | v :: st => match v with
    | .int x => k x st
    | _ => am_no
  | [] => am_no
def am_bA (st : am_V) (k : Value → am_V → am_R) : am_R := match st with
  | v :: st => k v st
  | [] => am_no
def am_bF (st : am_V) (k : Nat → am_V → am_R) : am_R := match st with
  | v :: st => match v with
    | .ref K => k K st
    | _ => am_no
  | [] => am_no
def am_p2 (st : am_V) (k : Int32 → Int32 → am_V → am_R) : am_R := am_p1 st (fun y st => am_p1 st (fun x st => k x y st))
def am_is1 (v : Value) (R : am_R) : am_R := match v with
  | .int _ => R
  | .ref _ => R
  | _ => am_no
def am_to (pc : Nat) (off : Int) : Nat := ((pc : Int) + off).toNat
def am_pop : Nat → am_V → am_V → (am_V → am_V → am_R) → am_R
  | 0, st, acc, k => k acc st
  | n + 1, v :: st, acc, k => am_pop n st (v :: acc) k
  | _ + 1, [], _, _ => am_no
def am_rc (y : Nat) (a : am_V) (R : am_R) : am_R := match a with
  | v :: _ => match v with
    | .ref K => am_obj K (y / 100) (fun _ => R)
    | .retAddr i => am_gb (Nat.blt i 13) (am_gb (Nat.beq (y / 100) 14) R)
    | _ => am_no
  | [] => am_no
def am_back (kd : Nat) (R : am_R) (st : am_V) (k : am_V → am_Mem → am_R) : am_R := match kd with
  | 0 => am_bV R (fun μ => k st μ)
  | 1 => am_bI R (fun x μ => k (.int x :: st) μ)
  | _ => am_bS R (fun i μ => k (.retAddr i :: st) μ)
def am_inv (C : am_Ct) (own idx : Nat) (stc : Bool) (st : am_V) (μ : am_Mem) (k : am_V → am_Mem → am_R) : am_R :=
  am_lk2 am_CT own idx (fun q => am_pop q.2.1 st [] (fun a st' => am_gb (Nat.ble st'.length 8) (match stc with
    | true => am_back q.2.2 (C q.1 a μ) st' k
    | false => am_rc q.1 a (am_back q.2.2 (C q.1 a μ) st' k)))) am_no
/-- a constant of the code -/
def am_c (n : Int) : Int32 := match n with
  | .ofNat k => @OfNat.ofNat Int32 k Int32.instOfNat
  | .negSucc k => -(@OfNat.ofNat Int32 (k + 1) Int32.instOfNat)
def am_sw (E : Nat → am_R) (pc : Nat) (x : Int32) (d : Int) : Int → List Int → am_R
  | _, [] => E (am_to pc d)
  | lo, o :: os => if x = am_c lo then E (am_to pc o) else am_sw E pc x d (lo + 1) os
def am_lsw (E : Nat → am_R) (pc : Nat) (x : Int32) (d : Int) : List (Int × Int) → am_R
  | [] => E (am_to pc d)
  | q :: os => if x = am_c q.1 then E (am_to pc q.2) else am_lsw E pc x d os
/-- an answer of a small type stands in its bounds -/
def am_ir (z : Nat) (x : Int32) (R : am_R) : am_R := match z with
  | 0 => R
  | n + 1 => am_gb (Nat.blt (am_ix x) (n + 1)) R
def am_i (C : am_Ct) (own z : Nat) (E : am_Kt) (i : Instr) (pc : Nat) (ls st : am_V) (μ : am_Mem) (κ : am_V → am_V → am_Mem → am_R) : am_R :=
  match i with
  | .iconst n => κ ls (.int (am_c n) :: st) μ
  | .bipush n => κ ls (.int (am_c n) :: st) μ
  | .sipush n => κ ls (.int (am_c n) :: st) μ
  | .ldc k => am_lk2 am_IT own k (fun v => κ ls (.int v :: st) μ) (am_lk2 am_ST own k (fun i => κ ls (.retAddr i :: st) μ) am_no)
  | .ldc_w k => am_lk2 am_IT own k (fun v => κ ls (.int v :: st) μ) am_no
  | .iload_n k => am_ldI ls k.val (fun x => κ ls (.int x :: st) μ)
  | .iload k => am_ldI ls k (fun x => κ ls (.int x :: st) μ)
  | .aload_n k => am_ldA ls k.val (fun v => κ ls (v :: st) μ)
  | .istore_n k => am_p1 st (fun x st => am_sto ls k.val (.int x) (fun ls => κ ls st μ))
  | .istore k => am_p1 st (fun x st => am_sto ls k (.int x) (fun ls => κ ls st μ))
  | .iinc k n => am_ldI ls k (fun x => am_sto ls k (.int (x + am_c n)) (fun ls => κ ls st μ))
  | .getfield k => am_bA st (fun v st => am_getf own k v μ (fun w => κ ls (w :: st) μ))
  | .putfield k => am_p1 st (fun x st => am_bF st (fun K st => am_putf own k K x μ (fun μ => κ ls st μ)))
  | .getstatic k => am_gb (Nat.beq own 14) (match Nat.beq k 38 with
    | true => κ ls (.int 1 :: st) μ
    | false => match Nat.beq k 1053 with
      | true => κ ls (.long 0 :: st) μ
      | false => am_no)
  | .iaload => am_p1 st (fun i st => am_bA st (fun v st => am_iald v i μ (fun x => κ ls (.int x :: st) μ)))
  | .baload => am_p1 st (fun i st => am_bA st (fun v st => am_bald v i μ (fun x => κ ls (.int x :: st) μ)))
  | .iastore => am_p2 st (fun i x st => am_bF st (fun K st => am_arr K 0 (fun n => am_gb (Nat.blt (am_ix i) n) (κ ls st (am_up μ K (am_ix i) x)))))
  | .bastore => am_p2 st (fun i x st => am_bF st (fun K st => am_bast K i x μ (fun μ => κ ls st μ)))
  | .arraylength => am_bA st (fun v st => am_alen v μ (fun x => κ ls (.int x :: st) μ))
  | .iadd => am_p2 st (fun x y st => κ ls (.int (x + y) :: st) μ)
  | .isub => am_p2 st (fun x y st => κ ls (.int (x - y) :: st) μ)
  | .imul => am_p2 st (fun x y st => κ ls (.int (x * y) :: st) μ)
  | .idiv => am_p2 st (fun x y st => am_gb (!(Nat.beq (am_ix y) 0)) (κ ls (.int (x / y) :: st) μ))
  | .irem => am_p2 st (fun x y st => am_gb (!(Nat.beq (am_ix y) 0)) (κ ls (.int (x - x / y * y) :: st) μ))
  | .iand => am_p2 st (fun x y st => κ ls (.int (x &&& y) :: st) μ)
  | .ior => am_p2 st (fun x y st => κ ls (.int (x ||| y) :: st) μ)
  | .ixor => am_p2 st (fun x y st => κ ls (.int (x ^^^ y) :: st) μ)
  | .ishl => am_p2 st (fun x y st => κ ls (.int (x <<< (y &&& 31)) :: st) μ)
  | .ishr => am_p2 st (fun x y st => κ ls (.int (x >>> (y &&& 31)) :: st) μ)
  | .iushr => am_p2 st (fun x y st => κ ls (.int ((x.toUInt32 >>> (y.toUInt32 &&& Int32.toUInt32 31)).toInt32) :: st) μ)
  | .i2b => am_p1 st (fun x st => κ ls (.int (x.toInt8.toInt32) :: st) μ)
  | .i2c => am_p1 st (fun x st => κ ls (.int ((x.toUInt32 % 65536).toInt32) :: st) μ)
  | .dup => am_bA st (fun v st => am_is1 v (κ ls (v :: v :: st) μ))
  | .dup2 => am_bA st (fun v st => am_bA st (fun w st => am_is1 v (am_is1 w (κ ls (v :: w :: v :: w :: st) μ))))
  | .pop => am_bA st (fun v st => am_is1 v (κ ls st μ))
  | .goto off => E (am_to pc off) ls st μ
  | .ifCond .eq off => am_p1 st (fun x st => if x = 0 then E (am_to pc off) ls st μ else κ ls st μ)
  | .ifCond .ne off => am_p1 st (fun x st => if x = 0 then κ ls st μ else E (am_to pc off) ls st μ)
  | .ifCond .lt off => am_p1 st (fun x st => if x < 0 then E (am_to pc off) ls st μ else κ ls st μ)
  | .ifCond .ge off => am_p1 st (fun x st => if 0 ≤ x then E (am_to pc off) ls st μ else κ ls st μ)
  | .ifCond .gt off => am_p1 st (fun x st => if 0 < x then E (am_to pc off) ls st μ else κ ls st μ)
  | .ifCond .le off => am_p1 st (fun x st => if x ≤ 0 then E (am_to pc off) ls st μ else κ ls st μ)
  | .if_icmp .eq off => am_p2 st (fun x y st => if x = y then E (am_to pc off) ls st μ else κ ls st μ)
  | .if_icmp .ne off => am_p2 st (fun x y st => if x = y then κ ls st μ else E (am_to pc off) ls st μ)
  | .if_icmp .lt off => am_p2 st (fun x y st => if x < y then E (am_to pc off) ls st μ else κ ls st μ)
  | .if_icmp .ge off => am_p2 st (fun x y st => if y ≤ x then E (am_to pc off) ls st μ else κ ls st μ)
  | .if_icmp .gt off => am_p2 st (fun x y st => if y < x then E (am_to pc off) ls st μ else κ ls st μ)
  | .if_icmp .le off => am_p2 st (fun x y st => if x ≤ y then E (am_to pc off) ls st μ else κ ls st μ)
  | .tableswitch d lo _ offs => am_p1 st (fun x st => am_sw (fun t => E t ls st μ) pc x d lo offs.toList)
  | .lookupswitch d ps => am_p1 st (fun x st => am_lsw (fun t => E t ls st μ) pc x d ps.toList)
  | .invokevirtual k => am_inv C own k false st μ (fun st μ => κ ls st μ)
  | .invokestatic k => am_inv C own k true st μ (fun st μ => κ ls st μ)
  | .ireturn => am_p1 st (fun x st => match st with
    | [] => am_ir z x (am_ret (some (.int x)) μ)
    | _ => am_no)
  | .areturn => am_bA st (fun v st => match st with
    | [] => am_isA v (am_ret (some v) μ)
    | _ => am_no)
  | .return_ => match st with
    | [] => am_ret none μ
    | _ => am_no
  | _ => am_no
def am_x (C : am_Ct) (own z : Nat) (E : am_Kt) : List (Instr × Nat) → Nat → am_V → am_V → am_Mem → am_R
  | [], pc, ls, st, μ => E pc ls st μ
  | q :: rest, pc, ls, st, μ => am_i C own z E q.1 pc ls st μ (fun ls st μ => am_x C own z E rest (pc + q.2) ls st μ)
end
section
def am_fa {α : Type} : List (Nat × α) → Nat → Option α
  | [], _ => none
  | q :: l, j => match Nat.beq q.1 j with
    | true => some q.2
    | false => am_fa l j
def am_B (M pc : Nat) : List (Instr × Nat) := match am_fa am_BT M with
  | some l => match am_fa l pc with
    | some b => b
    | none => [(.nop, 1)]
  | none => [(.nop, 1)]
def am_z (M : Nat) : Nat := (am_fa am_zT M).getD 0
def am_st1 (C : am_Ct) (M : Nat) (E : am_Kt) : am_Kt := fun pc ls st μ => am_x C (M / 100) (am_z M) E (am_B M pc) pc ls st μ
def am_sub (R R' : am_R) : Prop := ∀ μ' r, R μ' r → R' μ' r
def am_le (E E' : am_Kt) : Prop := ∀ pc ls st μ, am_sub (E pc ls st μ) (E' pc ls st μ)
def am_ev (C : am_Ct) (M : Nat) : am_Kt := fun pc ls st μ μ' r => ∀ P : am_Kt, am_le (am_st1 C M P) P → P pc ls st μ μ' r
theorem am_sub.rf {R : am_R} : am_sub R R := fun _ _ h => h
theorem am_gb.m {b : Bool} {R R' : am_R} (h : am_sub R R') : am_sub (am_gb b R) (am_gb b R') := by
  cases b
  · exact am_sub.rf
  · exact h
theorem am_bI.m {R : am_R} {k k' : Int32 → am_Mem → am_R} (h : ∀ x μ, am_sub (k x μ) (k' x μ)) : am_sub (am_bI R k) (am_bI R k') := fun _ _ ⟨x, μ1, h1, h2⟩ => ⟨x, μ1, h1, h x μ1 _ _ h2⟩
theorem am_bS.m {R : am_R} {k k' : Nat → am_Mem → am_R} (h : ∀ x μ, am_sub (k x μ) (k' x μ)) : am_sub (am_bS R k) (am_bS R k') := fun _ _ ⟨x, μ1, h1, h2⟩ => ⟨x, μ1, h1, h x μ1 _ _ h2⟩
theorem am_bV.m {R : am_R} {k k' : am_Mem → am_R} (h : ∀ μ, am_sub (k μ) (k' μ)) : am_sub (am_bV R k) (am_bV R k') := fun _ _ ⟨μ1, h1, h2⟩ => ⟨μ1, h1, h μ1 _ _ h2⟩
theorem am_ldI.m {k k' : Int32 → am_R} (h : ∀ x, am_sub (k x) (k' x)) : ∀ (ls : am_V) (n : Nat), am_sub (am_ldI ls n k) (am_ldI ls n k')
  | [], _ => fun _ _ h => h
  | v :: l, 0 => by
    unfold am_ldI
    split
    · exact h _
    · exact am_sub.rf
  | v :: l, n + 1 => am_ldI.m h l n
theorem am_isA.m {v : Value} {R R' : am_R} (h : am_sub R R') : am_sub (am_isA v R) (am_isA v R') := by
  unfold am_isA
  split <;> first | exact h | exact am_sub.rf
theorem am_is1.m {v : Value} {R R' : am_R} (h : am_sub R R') : am_sub (am_is1 v R) (am_is1 v R') := by
  unfold am_is1
  split <;> first | exact h | exact am_sub.rf
theorem am_ldA.m {k k' : Value → am_R} (h : ∀ x, am_sub (k x) (k' x)) : ∀ (ls : am_V) (n : Nat), am_sub (am_ldA ls n k) (am_ldA ls n k')
  | [], _ => fun _ _ h => h
  | v :: l, 0 => am_isA.m (h v)
  | v :: l, n + 1 => am_ldA.m h l n
theorem am_sto.m {v : Value} : ∀ (ls : am_V) (n : Nat) {k k' : am_V → am_R} (_ : ∀ x, am_sub (k x) (k' x)), am_sub (am_sto ls n v k) (am_sto ls n v k')
  | [], _, _, _, _ => fun _ _ h => h
  | _ :: l, 0, _, _, h => h _
  | a :: l, n + 1, _, _, h => am_sto.m l n (fun x => h (a :: x))
theorem am_lkE.m {α : Type} {k k' : α → am_R} {e e' : am_R} (h : ∀ x, am_sub (k x) (k' x)) (he : am_sub e e') : ∀ (l : List (Nat × α)) (j : Nat), am_sub (am_lkE l j k e) (am_lkE l j k' e')
  | [], _ => he
  | q :: l, j => by
    unfold am_lkE
    split
    · exact h _
    · exact am_lkE.m h he l j
theorem am_lk2.m {α : Type} {t : List (Nat × List (Nat × α))} {c i : Nat} {k k' : α → am_R} {e e' : am_R} (h : ∀ x, am_sub (k x) (k' x)) (he : am_sub e e') : am_sub (am_lk2 t c i k e) (am_lk2 t c i k' e') := am_lkE.m (fun _ => am_lkE.m h he _ _) he _ _
theorem am_fl.m {own idx : Nat} {k k' : Nat × Nat → am_R} (h : ∀ x, am_sub (k x) (k' x)) : am_sub (am_fl own idx k) (am_fl own idx k') := am_lk2.m h (am_lk2.m h am_sub.rf)
theorem am_cell.m {K : Nat} {kO kO' : Nat → List Nat → am_R} {kA kA' : Nat → Nat → am_R} (h : ∀ a b, am_sub (kO a b) (kO' a b)) (h' : ∀ a b, am_sub (kA a b) (kA' a b)) : am_sub (am_cell K kO kA) (am_cell K kO' kA') := by
  unfold am_cell
  split
  · exact h _ _
  · exact h' _ _
  · exact am_sub.rf
theorem am_obj.m {K ci : Nat} {k k' : List Nat → am_R} (h : ∀ x, am_sub (k x) (k' x)) : am_sub (am_obj K ci k) (am_obj K ci k') := am_cell.m (fun _ _ => am_gb.m (h _)) (fun _ _ => am_sub.rf)
theorem am_getf.m {own idx : Nat} {v : Value} {μ : am_Mem} {k k' : Value → am_R} (h : ∀ x, am_sub (k x) (k' x)) : am_sub (am_getf own idx v μ k) (am_getf own idx v μ k') := by
  unfold am_getf
  split
  · refine am_fl.m fun _ => am_obj.m fun _ => ?_
    split <;> first | exact h _ | exact am_sub.rf
  · refine am_gb.m (am_gb.m ?_)
    split
    · exact h _
    · split
      · exact h _
      · exact am_sub.rf
  · exact am_sub.rf
theorem am_putf.m {own idx K : Nat} {x : Int32} {μ : am_Mem} {k k' : am_Mem → am_R} (h : ∀ x, am_sub (k x) (k' x)) : am_sub (am_putf own idx K x μ k) (am_putf own idx K x μ k') := by
  unfold am_putf
  refine am_fl.m fun _ => am_obj.m fun _ => ?_
  split
  · exact h _
  · exact am_gb.m (h _)
  · exact am_sub.rf
theorem am_arr.m {K t : Nat} {k k' : Nat → am_R} (h : ∀ x, am_sub (k x) (k' x)) : am_sub (am_arr K t k) (am_arr K t k') := am_cell.m (fun _ _ => am_sub.rf) (fun _ _ => am_gb.m (h _))
theorem am_iald.m {v : Value} {i : Int32} {μ : am_Mem} {k k' : Int32 → am_R} (h : ∀ x, am_sub (k x) (k' x)) : am_sub (am_iald v i μ k) (am_iald v i μ k') := by
  unfold am_iald
  split
  · split
    · exact am_gb.m (h _)
    · exact am_arr.m fun _ => am_gb.m (h _)
  · exact am_sub.rf
theorem am_bald.m {v : Value} {i : Int32} {μ : am_Mem} {k k' : Int32 → am_R} (h : ∀ x, am_sub (k x) (k' x)) : am_sub (am_bald v i μ k) (am_bald v i μ k') := by
  unfold am_bald
  split
  · exact am_cell.m (fun _ _ => am_sub.rf) fun _ _ => am_gb.m (am_gb.m (am_gb.m (h _)))
  · exact am_gb.m (am_gb.m (h _))
  · exact am_sub.rf
theorem am_bast.m {K : Nat} {i x : Int32} {μ : am_Mem} {k k' : am_Mem → am_R} (h : ∀ x, am_sub (k x) (k' x)) : am_sub (am_bast K i x μ k) (am_bast K i x μ k') := am_cell.m (fun _ _ => am_sub.rf) fun _ _ => am_gb.m (am_gb.m (am_gb.m (h _)))
theorem am_alen.m {v : Value} {μ : am_Mem} {k k' : Int32 → am_R} (h : ∀ x, am_sub (k x) (k' x)) : am_sub (am_alen v μ k) (am_alen v μ k') := by
  unfold am_alen
  split
  · split
    · exact h _
    · exact am_cell.m (fun _ _ => am_sub.rf) fun _ _ => h _
  · exact am_gb.m (h _)
  · exact am_sub.rf
theorem am_p1.m {st : am_V} {k k' : Int32 → am_V → am_R} (h : ∀ x s, am_sub (k x s) (k' x s)) : am_sub (am_p1 st k) (am_p1 st k') := by
  unfold am_p1
  split
  · split
    · exact h _ _
    · exact am_sub.rf
  · exact am_sub.rf
theorem am_bA.m {st : am_V} {k k' : Value → am_V → am_R} (h : ∀ x s, am_sub (k x s) (k' x s)) : am_sub (am_bA st k) (am_bA st k') := by
  unfold am_bA
  split
  · exact h _ _
  · exact am_sub.rf
theorem am_bF.m {st : am_V} {k k' : Nat → am_V → am_R} (h : ∀ x s, am_sub (k x s) (k' x s)) : am_sub (am_bF st k) (am_bF st k') := by
  unfold am_bF
  split
  · split
    · exact h _ _
    · exact am_sub.rf
  · exact am_sub.rf
theorem am_p2.m {st : am_V} {k k' : Int32 → Int32 → am_V → am_R} (h : ∀ x y s, am_sub (k x y s) (k' x y s)) : am_sub (am_p2 st k) (am_p2 st k') := am_p1.m fun _ _ => am_p1.m fun _ _ => h _ _ _
theorem am_pop.m {k k' : am_V → am_V → am_R} (h : ∀ x s, am_sub (k x s) (k' x s)) : ∀ (n : Nat) (st acc : am_V), am_sub (am_pop n st acc k) (am_pop n st acc k')
  | 0, _, _ => h _ _
  | n + 1, v :: st, acc => am_pop.m h n st (v :: acc)
  | _ + 1, [], _ => am_sub.rf
theorem am_rc.m {y : Nat} {a : am_V} {R R' : am_R} (h : am_sub R R') : am_sub (am_rc y a R) (am_rc y a R') := by
  unfold am_rc
  split
  · split
    · exact am_obj.m fun _ => h
    · exact am_gb.m (am_gb.m h)
    · exact am_sub.rf
  · exact am_sub.rf
theorem am_back.m {kd : Nat} {R : am_R} {st : am_V} {k k' : am_V → am_Mem → am_R} (h : ∀ x s, am_sub (k x s) (k' x s)) : am_sub (am_back kd R st k) (am_back kd R st k') := by
  unfold am_back
  split
  · exact am_bV.m fun _ => h _ _
  · exact am_bI.m fun _ _ => h _ _
  · exact am_bS.m fun _ _ => h _ _
theorem am_inv.m {C : am_Ct} {own idx : Nat} {stc : Bool} {st : am_V} {μ : am_Mem} {k k' : am_V → am_Mem → am_R} (h : ∀ x s, am_sub (k x s) (k' x s)) : am_sub (am_inv C own idx stc st μ k) (am_inv C own idx stc st μ k') := by
  unfold am_inv
  refine am_lk2.m (fun _ => am_pop.m (fun _ _ => am_gb.m ?_) _ _ _) am_sub.rf
  split
  · exact am_back.m h
  · exact am_rc.m (am_back.m h)
theorem am_sw.m {E E' : Nat → am_R} {pc : Nat} {x : Int32} {d : Int} (h : ∀ t, am_sub (E t) (E' t)) : ∀ (os : List Int) (lo : Int), am_sub (am_sw E pc x d lo os) (am_sw E' pc x d lo os)
  | [], _ => h _
  | o :: os, lo => by
    unfold am_sw
    split
    · exact h _
    · exact am_sw.m h os _
theorem am_lsw.m {E E' : Nat → am_R} {pc : Nat} {x : Int32} {d : Int} (h : ∀ t, am_sub (E t) (E' t)) : ∀ (os : List (Int × Int)), am_sub (am_lsw E pc x d os) (am_lsw E' pc x d os)
  | [] => h _
  | o :: os => by
    unfold am_lsw
    split
    · exact h _
    · exact am_lsw.m h os
theorem am_if.m {P : Prop} (d : Decidable P) {a b a' b' : am_R} (h : am_sub a a') (h' : am_sub b b') : am_sub (@ite _ P d a b) (@ite _ P d a' b') := by
  split
  · exact h
  · exact h'
set_option maxHeartbeats 4000000 in
theorem am_i.m {C : am_Ct} {own z : Nat} {E E' : am_Kt} (hE : am_le E E') {i : Instr} {pc : Nat} {ls st : am_V} {μ : am_Mem} {κ κ' : am_V → am_V → am_Mem → am_R} (h : ∀ ls st μ, am_sub (κ ls st μ) (κ' ls st μ)) : am_sub (am_i C own z E i pc ls st μ κ) (am_i C own z E' i pc ls st μ κ') := by
  unfold am_i
  split
  all_goals first
    | exact am_sub.rf
    | exact h _ _ _
    | exact hE _ _ _ _
    | exact am_lk2.m (fun _ => h _ _ _) (am_lk2.m (fun _ => h _ _ _) am_sub.rf)
    | exact am_lk2.m (fun _ => h _ _ _) am_sub.rf
    | exact am_ldI.m (fun _ => h _ _ _) _ _
    | exact am_ldA.m (fun _ => h _ _ _) _ _
    | exact am_p1.m fun _ _ => am_sto.m _ _ fun _ => h _ _ _
    | exact am_ldI.m (fun _ => am_sto.m _ _ fun _ => h _ _ _) _ _
    | exact am_bA.m fun _ _ => am_getf.m fun _ => h _ _ _
    | exact am_p1.m fun _ _ => am_bF.m fun _ _ => am_putf.m fun _ => h _ _ _
    | exact am_p1.m fun _ _ => am_bA.m fun _ _ => am_iald.m fun _ => h _ _ _
    | exact am_p1.m fun _ _ => am_bA.m fun _ _ => am_bald.m fun _ => h _ _ _
    | exact am_p2.m fun _ _ _ => am_bF.m fun _ _ => am_arr.m fun _ => am_gb.m (h _ _ _)
    | exact am_p2.m fun _ _ _ => am_bF.m fun _ _ => am_bast.m fun _ => h _ _ _
    | exact am_bA.m fun _ _ => am_alen.m fun _ => h _ _ _
    | exact am_p2.m fun _ _ _ => h _ _ _
    | exact am_p2.m fun _ _ _ => am_gb.m (h _ _ _)
    | exact am_p1.m fun _ _ => h _ _ _
    | exact am_bA.m fun _ _ => am_is1.m (h _ _ _)
    | exact am_bA.m fun _ _ => am_bA.m fun _ _ => am_is1.m (am_is1.m (h _ _ _))
    | exact am_p1.m fun _ _ => am_if.m _ (hE _ _ _ _) (h _ _ _)
    | exact am_p1.m fun _ _ => am_if.m _ (h _ _ _) (hE _ _ _ _)
    | exact am_p2.m fun _ _ _ => am_if.m _ (hE _ _ _ _) (h _ _ _)
    | exact am_p2.m fun _ _ _ => am_if.m _ (h _ _ _) (hE _ _ _ _)
    | exact am_p1.m fun _ _ => am_sw.m (fun _ => hE _ _ _ _) _ _
    | exact am_p1.m fun _ _ => am_lsw.m (fun _ => hE _ _ _ _) _
    | exact am_inv.m fun _ _ => h _ _ _
    | skip
  refine am_gb.m ?_
  split
  · exact h _ _ _
  · split
    · exact h _ _ _
    · exact am_sub.rf
theorem am_x.m {C : am_Ct} {own z : Nat} {E E' : am_Kt} (hE : am_le E E') : ∀ (b : List (Instr × Nat)) (pc : Nat) (ls st : am_V) (μ : am_Mem), am_sub (am_x C own z E b pc ls st μ) (am_x C own z E' b pc ls st μ)
  | [], _, _, _, _ => hE _ _ _ _
  | _ :: b, _, _, _, _ => am_i.m hE fun _ _ _ => am_x.m hE b _ _ _ _
theorem am_ev_in (C : am_Ct) (M : Nat) : am_le (am_st1 C M (am_ev C M)) (am_ev C M) := fun pc ls st μ μ' r h P hP => hP pc ls st μ μ' r (am_x.m (fun _ _ _ _ _ _ h => h P hP) _ _ _ _ _ μ' r h)
theorem am_ev_out (C : am_Ct) (M : Nat) : am_le (am_ev C M) (am_st1 C M (am_ev C M)) := fun pc ls st μ μ' r h => h _ fun _ _ _ _ μ' r h => am_x.m (am_ev_in C M) _ _ _ _ _ μ' r h
/-- a block: the machine at its head is the machine behind it -/
theorem am_blk {C : am_Ct} {M pc own z : Nat} {b : List (Instr × Nat)} (hb : am_B M pc = b) (ho : M / 100 = own) (hz : am_z M = z) (ls st : am_V) (μ : am_Mem) : am_ev C M pc ls st μ = am_x C own z (am_ev C M) b pc ls st μ := by
  subst hb; subst ho; subst hz
  funext μ' r
  exact propext ⟨am_ev_out C M pc ls st μ μ' r, am_ev_in C M pc ls st μ μ' r⟩
def am_pad (n : Nat) (a : am_V) : am_V := a ++ List.replicate (n - a.length) .null
def am_mL (y : Nat) : Nat := match am_fa am_MT y with
  | some q => q.2.2.1
  | none => 0
def am_copy (a : am_V) (μ : am_Mem) : am_R := match a with
  | [.ref K0, .int sp, .ref K1, .int dp, .int n] => am_arr K0 0 (fun n0 => am_arr K1 0 (fun n1 => am_gb (Nat.ble (am_ix sp + am_ix n) n0) (am_gb (Nat.ble (am_ix dp + am_ix n) n1) (am_ret none (am_cp μ K0 K1 (am_ix sp) (am_ix dp) (am_ix n))))))
  | _ => am_no
def am_call : Nat → am_Ct
  | 0, _, _, _ => am_no
  | d + 1, y, a, μ => match Nat.beq y 2004 with
    | true => am_copy a μ
    | false => am_ev (am_call d) y 0 (am_pad (am_mL y) a) [] μ
end
section
/-! NoWordTwice$Law.copyFrom(LNoWordTwice$Law;)V (('r', 19), ('r', 7)) -/
set_option maxRecDepth 50000 in
theorem q101a_0 (C : am_Ct) (μ : am_Mem) : am_ev C 101 0 [.ref 19, .ref 7] [] μ = (am_bV (C 2004 [.ref 8, .int (am_c 0), .ref 20, .int (am_c 0), .int 16] (am_up μ 19 0 (μ 7 0))) (fun m1 => am_bV (C 2004 [.ref 9, .int (am_c 0), .ref 21, .int (am_c 0), .int 17] m1) (fun m2 => am_bV (C 2004 [.ref 10, .int (am_c 0), .ref 22, .int (am_c 0), .int 400] m2) (fun m3 => am_ret none m3)))) := am_blk (b := [(.aload_n 0, 1), (.aload_n 1, 1), (.getfield 27, 3), (.putfield 27, 3), (.aload_n 1, 1), (.getfield 9, 3), (.iconst 0, 1), (.aload_n 0, 1), (.getfield 9, 3), (.iconst 0, 1), (.aload_n 0, 1), (.getfield 9, 3), (.arraylength, 1), (.invokestatic 31, 3), (.aload_n 1, 1), (.getfield 15, 3), (.iconst 0, 1), (.aload_n 0, 1), (.getfield 15, 3), (.iconst 0, 1), (.aload_n 0, 1), (.getfield 15, 3), (.arraylength, 1), (.invokestatic 31, 3), (.aload_n 1, 1), (.getfield 18, 3), (.iconst 0, 1), (.aload_n 0, 1), (.getfield 18, 3), (.iconst 0, 1), (.aload_n 0, 1), (.getfield 18, 3), (.arraylength, 1), (.invokestatic 31, 3), (.return_, 1)]) rfl rfl (rfl : am_z 101 = 0) _ _ _
theorem e101a (d : Nat) (μ : am_Mem) : am_call (d + 1) 101 [.ref 19, .ref 7] μ = am_ev (am_call d) 101 0 [.ref 19, .ref 7] [] μ := rfl
/-! NoWordTwice$Law.copyFrom(LNoWordTwice$Law;)V (('r', 7), ('r', 19)) -/
set_option maxRecDepth 50000 in
theorem q101b_0 (C : am_Ct) (μ : am_Mem) : am_ev C 101 0 [.ref 7, .ref 19] [] μ = (am_bV (C 2004 [.ref 20, .int (am_c 0), .ref 8, .int (am_c 0), .int 16] (am_up μ 7 0 (μ 19 0))) (fun m1 => am_bV (C 2004 [.ref 21, .int (am_c 0), .ref 9, .int (am_c 0), .int 17] m1) (fun m2 => am_bV (C 2004 [.ref 22, .int (am_c 0), .ref 10, .int (am_c 0), .int 400] m2) (fun m3 => am_ret none m3)))) := am_blk (b := [(.aload_n 0, 1), (.aload_n 1, 1), (.getfield 27, 3), (.putfield 27, 3), (.aload_n 1, 1), (.getfield 9, 3), (.iconst 0, 1), (.aload_n 0, 1), (.getfield 9, 3), (.iconst 0, 1), (.aload_n 0, 1), (.getfield 9, 3), (.arraylength, 1), (.invokestatic 31, 3), (.aload_n 1, 1), (.getfield 15, 3), (.iconst 0, 1), (.aload_n 0, 1), (.getfield 15, 3), (.iconst 0, 1), (.aload_n 0, 1), (.getfield 15, 3), (.arraylength, 1), (.invokestatic 31, 3), (.aload_n 1, 1), (.getfield 18, 3), (.iconst 0, 1), (.aload_n 0, 1), (.getfield 18, 3), (.iconst 0, 1), (.aload_n 0, 1), (.getfield 18, 3), (.arraylength, 1), (.invokestatic 31, 3), (.return_, 1)]) rfl rfl (rfl : am_z 101 = 0) _ _ _
theorem e101b (d : Nat) (μ : am_Mem) : am_call (d + 1) 101 [.ref 7, .ref 19] μ = am_ev (am_call d) 101 0 [.ref 7, .ref 19] [] μ := rfl
/-! NoWordTwice$Law.copyFrom(LNoWordTwice$Law;)V (('r', 7), ('r', 31)) -/
set_option maxRecDepth 50000 in
theorem q101c_0 (C : am_Ct) (μ : am_Mem) : am_ev C 101 0 [.ref 7, .ref 31] [] μ = (am_bV (C 2004 [.ref 32, .int (am_c 0), .ref 8, .int (am_c 0), .int 16] (am_up μ 7 0 (μ 31 0))) (fun m1 => am_bV (C 2004 [.ref 33, .int (am_c 0), .ref 9, .int (am_c 0), .int 17] m1) (fun m2 => am_bV (C 2004 [.ref 34, .int (am_c 0), .ref 10, .int (am_c 0), .int 400] m2) (fun m3 => am_ret none m3)))) := am_blk (b := [(.aload_n 0, 1), (.aload_n 1, 1), (.getfield 27, 3), (.putfield 27, 3), (.aload_n 1, 1), (.getfield 9, 3), (.iconst 0, 1), (.aload_n 0, 1), (.getfield 9, 3), (.iconst 0, 1), (.aload_n 0, 1), (.getfield 9, 3), (.arraylength, 1), (.invokestatic 31, 3), (.aload_n 1, 1), (.getfield 15, 3), (.iconst 0, 1), (.aload_n 0, 1), (.getfield 15, 3), (.iconst 0, 1), (.aload_n 0, 1), (.getfield 15, 3), (.arraylength, 1), (.invokestatic 31, 3), (.aload_n 1, 1), (.getfield 18, 3), (.iconst 0, 1), (.aload_n 0, 1), (.getfield 18, 3), (.iconst 0, 1), (.aload_n 0, 1), (.getfield 18, 3), (.arraylength, 1), (.invokestatic 31, 3), (.return_, 1)]) rfl rfl (rfl : am_z 101 = 0) _ _ _
theorem e101c (d : Nat) (μ : am_Mem) : am_call (d + 1) 101 [.ref 7, .ref 31] μ = am_ev (am_call d) 101 0 [.ref 7, .ref 31] [] μ := rfl
/-! NoWordTwice$Law.give(II)V  -/
set_option maxRecDepth 50000 in
theorem q102_0 (C : am_Ct) (x1 : Int32) (x2 : Int32) (μ : am_Mem) : am_ev C 102 0 [.ref 7, .int x1, .int x2] [] μ = (if x1 < (am_c 9) then am_ev C 102 22 [.ref 7, .int x1, .int x2] [] μ else if (am_c 14) < x1 then am_ev C 102 22 [.ref 7, .int x1, .int x2] [] μ else am_gb (Nat.blt (am_ix (x1 - (am_c 9))) 6) (am_ev C 102 22 [.ref 7, .int x1, .int x2] [] (am_up μ 11 (am_ix (x1 - (am_c 9))) x2))) := am_blk (b := [(.iload_n 1, 1), (.bipush 9, 2), (.if_icmp .lt 19, 3), (.iload_n 1, 1), (.bipush 14, 2), (.if_icmp .gt 13, 3), (.aload_n 0, 1), (.getfield 21, 3), (.iload_n 1, 1), (.bipush 9, 2), (.isub, 1), (.iload_n 2, 1), (.iastore, 1)]) rfl rfl (rfl : am_z 102 = 0) _ _ _
set_option maxRecDepth 50000 in
theorem q102_22 (C : am_Ct) (x1 : Int32) (x2 : Int32) (μ : am_Mem) : am_ev C 102 22 [.ref 7, .int x1, .int x2] [] μ = (am_ret none μ) := am_blk (b := [(.return_, 1)]) rfl rfl (rfl : am_z 102 = 0) _ _ _
theorem e102 (d : Nat) (x1 : Int32) (x2 : Int32) (μ : am_Mem) : am_call (d + 1) 102 [.ref 7, .int x1, .int x2] μ = am_ev (am_call d) 102 0 [.ref 7, .int x1, .int x2] [] μ := rfl
/-! NoWordTwice$Law.saysFix()Z  -/
set_option maxRecDepth 50000 in
theorem q103_0 (C : am_Ct) (x1 : Value) (x2 : Value) (x3 : Value) (μ : am_Mem) : am_ev C 103 0 [.ref 7, x1, x2, x3] [] μ = (am_ev C 103 2 [.ref 7, .int (am_c 0), x2, x3] [] μ) := am_blk (b := [(.iconst 0, 1), (.istore_n 1, 1)]) rfl rfl (rfl : am_z 103 = 2) _ _ _
set_option maxRecDepth 50000 in
theorem q103_2 (C : am_Ct) (x1 : Int32) (x2 : Value) (x3 : Value) (μ : am_Mem) : am_ev C 103 2 [.ref 7, .int x1, x2, x3] [] μ = (if (μ 7 0) ≤ x1 then am_ev C 103 84 [.ref 7, .int x1, x2, x3] [] μ else am_gb (Nat.blt (am_ix x1) 17) (am_ev C 103 19 [.ref 7, .int x1, .int (am_c 0), .int (μ 9 (am_ix x1))] [] μ)) := am_blk (b := [(.iload_n 1, 1), (.aload_n 0, 1), (.getfield 27, 3), (.if_icmp .ge 77, 3), (.iconst 0, 1), (.istore_n 2, 1), (.aload_n 0, 1), (.getfield 15, 3), (.iload_n 1, 1), (.iaload, 1), (.istore_n 3, 1)]) rfl rfl (rfl : am_z 103 = 2) _ _ _
set_option maxRecDepth 50000 in
theorem q103_19 (C : am_Ct) (x1 : Int32) (x2 : Int32) (x3 : Int32) (μ : am_Mem) : am_ev C 103 19 [.ref 7, .int x1, .int x2, .int x3] [] μ = (am_gb (Nat.blt (am_ix (x1 + (am_c 1))) 17) (if (μ 9 (am_ix (x1 + (am_c 1)))) ≤ x3 then am_ev C 103 49 [.ref 7, .int x1, .int x2, .int x3] [] μ else am_gb (Nat.blt (am_ix x3) 400) (am_bI (C 104 [.ref 7, .int (μ 10 (am_ix x3)), .int x2] μ) (fun r1 m1 => am_ev C 103 19 [.ref 7, .int x1, .int r1, .int (x3 + (am_c 1))] [] m1)))) := am_blk (b := [(.iload_n 3, 1), (.aload_n 0, 1), (.getfield 15, 3), (.iload_n 1, 1), (.iconst 1, 1), (.iadd, 1), (.iaload, 1), (.if_icmp .ge 21, 3), (.aload_n 0, 1), (.aload_n 0, 1), (.getfield 18, 3), (.iload_n 3, 1), (.iaload, 1), (.iload_n 2, 1), (.invokevirtual 37, 3), (.istore_n 2, 1), (.iinc 3 1, 3), (.goto (-27), 3)]) rfl rfl (rfl : am_z 103 = 2) _ _ _
set_option maxRecDepth 50000 in
theorem q103_49 (C : am_Ct) (x1 : Int32) (x2 : Int32) (x3 : Int32) (μ : am_Mem) : am_ev C 103 49 [.ref 7, .int x1, .int x2, .int x3] [] μ = (if x2 = 0 then am_ev C 103 62 [.ref 7, .int x1, .int x2, .int x3] [] μ else if (μ 12 0) = 0 then am_ev C 103 78 [.ref 7, .int x1, .int x2, .int x3] [] μ else am_ev C 103 62 [.ref 7, .int x1, .int x2, .int x3] [] μ) := am_blk (b := [(.iload_n 2, 1), (.ifCond .eq 12, 3), (.aload_n 0, 1), (.getfield 24, 3), (.iconst 0, 1), (.iaload, 1), (.ifCond .eq 19, 3)]) rfl rfl (rfl : am_z 103 = 2) _ _ _
set_option maxRecDepth 50000 in
theorem q103_62 (C : am_Ct) (x1 : Int32) (x2 : Int32) (x3 : Int32) (μ : am_Mem) : am_ev C 103 62 [.ref 7, .int x1, .int x2, .int x3] [] μ = (am_gb (Nat.blt (am_ix x1) 16) (if (μ 8 (am_ix x1)) = (am_c 1) then am_ev C 103 77 [.ref 7, .int x1, .int x2, .int x3] [.int (am_c 1)] μ else am_ev C 103 76 [.ref 7, .int x1, .int x2, .int x3] [] μ)) := am_blk (b := [(.aload_n 0, 1), (.getfield 9, 3), (.iload_n 1, 1), (.iaload, 1), (.iconst 1, 1), (.if_icmp .ne 7, 3), (.iconst 1, 1), (.goto 4, 3)]) rfl rfl (rfl : am_z 103 = 2) _ _ _
set_option maxRecDepth 50000 in
theorem q103_76 (C : am_Ct) (x1 : Int32) (x2 : Int32) (x3 : Int32) (μ : am_Mem) : am_ev C 103 76 [.ref 7, .int x1, .int x2, .int x3] [] μ = (am_ev C 103 77 [.ref 7, .int x1, .int x2, .int x3] [.int (am_c 0)] μ) := am_blk (b := [(.iconst 0, 1)]) rfl rfl (rfl : am_z 103 = 2) _ _ _
set_option maxRecDepth 50000 in
theorem q103_77 (C : am_Ct) (x1 : Int32) (x2 : Int32) (x3 : Int32) (s0 : Int32) (μ : am_Mem) : am_ev C 103 77 [.ref 7, .int x1, .int x2, .int x3] [.int s0] μ = (am_gb (Nat.blt (am_ix s0) 2) (am_ret (some (.int s0)) μ)) := am_blk (b := [(.ireturn, 1)]) rfl rfl (rfl : am_z 103 = 2) _ _ _
set_option maxRecDepth 50000 in
theorem q103_78 (C : am_Ct) (x1 : Int32) (x2 : Int32) (x3 : Int32) (μ : am_Mem) : am_ev C 103 78 [.ref 7, .int x1, .int x2, .int x3] [] μ = (am_ev C 103 2 [.ref 7, .int (x1 + (am_c 1)), .int x2, .int x3] [] μ) := am_blk (b := [(.iinc 1 1, 3), (.goto (-79), 3)]) rfl rfl (rfl : am_z 103 = 2) _ _ _
set_option maxRecDepth 50000 in
theorem q103_84 (C : am_Ct) (x1 : Int32) (x2 : Value) (x3 : Value) (μ : am_Mem) : am_ev C 103 84 [.ref 7, .int x1, x2, x3] [] μ = (am_ret (some (.int (am_c 0))) μ) := am_blk (b := [(.iconst 0, 1), (.ireturn, 1)]) rfl rfl (rfl : am_z 103 = 2) _ _ _
theorem e103 (d : Nat) (μ : am_Mem) : am_call (d + 1) 103 [.ref 7] μ = am_ev (am_call d) 103 0 [.ref 7, .null, .null, .null] [] μ := rfl
/-! NoWordTwice$Law.work(II)I  -/
set_option maxRecDepth 50000 in
theorem q104_0 (C : am_Ct) (x1 : Int32) (x2 : Int32) (x3 : Value) (x4 : Value) (x5 : Value) (x6 : Value) (μ : am_Mem) : am_ev C 104 0 [.ref 7, .int x1, .int x2, x3, x4, x5, x6] [] μ = (if (x1 - (am_c 10000)) < 0 then am_ev C 104 22 [.ref 7, .int x1, .int x2, .int (x1 - (am_c 10000)), x4, x5, x6] [] μ else if (x1 - (am_c 10000)) < (am_c 9) then am_ev C 104 60 [.ref 7, .int x1, .int x2, .int (x1 - (am_c 10000)), x4, x5, x6] [] μ else if (am_c 14) < (x1 - (am_c 10000)) then am_ev C 104 60 [.ref 7, .int x1, .int x2, .int (x1 - (am_c 10000)), x4, x5, x6] [] μ else am_ev C 104 22 [.ref 7, .int x1, .int x2, .int (x1 - (am_c 10000)), x4, x5, x6] [] μ) := am_blk (b := [(.iload_n 1, 1), (.sipush 10000, 3), (.isub, 1), (.istore_n 3, 1), (.iload_n 3, 1), (.ifCond .lt 15, 3), (.iload_n 3, 1), (.bipush 9, 2), (.if_icmp .lt 47, 3), (.iload_n 3, 1), (.bipush 14, 2), (.if_icmp .gt 41, 3)]) rfl rfl (rfl : am_z 104 = 0) _ _ _
set_option maxRecDepth 50000 in
theorem q104_22 (C : am_Ct) (x1 : Int32) (x2 : Int32) (x3 : Int32) (x4 : Value) (x5 : Value) (x6 : Value) (μ : am_Mem) : am_ev C 104 22 [.ref 7, .int x1, .int x2, .int x3, x4, x5, x6] [] μ = (if x2 < 32 then am_ev C 104 33 [.ref 7, .int x1, .int x2, .int x3, x4, x5, x6] [] μ else am_ret (some (.int x2)) μ) := am_blk (b := [(.iload_n 2, 1), (.aload_n 0, 1), (.getfield 24, 3), (.arraylength, 1), (.if_icmp .lt 5, 3), (.iload_n 2, 1), (.ireturn, 1)]) rfl rfl (rfl : am_z 104 = 0) _ _ _
set_option maxRecDepth 50000 in
theorem q104_33 (C : am_Ct) (x1 : Int32) (x2 : Int32) (x3 : Int32) (x4 : Value) (x5 : Value) (x6 : Value) (μ : am_Mem) : am_ev C 104 33 [.ref 7, .int x1, .int x2, .int x3, x4, x5, x6] [] μ = (if 0 ≤ x3 then am_ev C 104 46 [.ref 7, .int x1, .int x2, .int x3, x4, x5, x6] [.int x2, .ref 12] μ else am_ev C 104 55 [.ref 7, .int x1, .int x2, .int x3, x4, x5, x6] [.int x1, .int x2, .ref 12] μ) := am_blk (b := [(.aload_n 0, 1), (.getfield 24, 3), (.iload_n 2, 1), (.iload_n 3, 1), (.ifCond .ge 7, 3), (.iload_n 1, 1), (.goto 12, 3)]) rfl rfl (rfl : am_z 104 = 0) _ _ _
set_option maxRecDepth 50000 in
theorem q104_46 (C : am_Ct) (x1 : Int32) (x2 : Int32) (x3 : Int32) (x4 : Value) (x5 : Value) (x6 : Value) (s0 : Int32) (μ : am_Mem) : am_ev C 104 46 [.ref 7, .int x1, .int x2, .int x3, x4, x5, x6] [.int s0, .ref 12] μ = (am_gb (Nat.blt (am_ix (x3 - (am_c 9))) 6) (am_ev C 104 55 [.ref 7, .int x1, .int x2, .int x3, x4, x5, x6] [.int (μ 11 (am_ix (x3 - (am_c 9)))), .int s0, .ref 12] μ)) := am_blk (b := [(.aload_n 0, 1), (.getfield 21, 3), (.iload_n 3, 1), (.bipush 9, 2), (.isub, 1), (.iaload, 1)]) rfl rfl (rfl : am_z 104 = 0) _ _ _
set_option maxRecDepth 50000 in
theorem q104_55 (C : am_Ct) (x1 : Int32) (x2 : Int32) (x3 : Int32) (x4 : Value) (x5 : Value) (x6 : Value) (s0 : Int32) (s1 : Int32) (μ : am_Mem) : am_ev C 104 55 [.ref 7, .int x1, .int x2, .int x3, x4, x5, x6] [.int s0, .int s1, .ref 12] μ = (am_gb (Nat.blt (am_ix s1) 32) (am_ret (some (.int (x2 + (am_c 1)))) (am_up μ 12 (am_ix s1) s0))) := am_blk (b := [(.iastore, 1), (.iload_n 2, 1), (.iconst 1, 1), (.iadd, 1), (.ireturn, 1)]) rfl rfl (rfl : am_z 104 = 0) _ _ _
set_option maxRecDepth 50000 in
theorem q104_60 (C : am_Ct) (x1 : Int32) (x2 : Int32) (x3 : Int32) (x4 : Value) (x5 : Value) (x6 : Value) (μ : am_Mem) : am_ev C 104 60 [.ref 7, .int x1, .int x2, .int x3, x4, x5, x6] [] μ = (if x3 = (am_c 8) then if x2 < (am_c 1) then am_ev C 104 91 [.ref 7, .int x1, .int x2, .int x3, x4, x5, x6] [] μ else am_gb (Nat.blt (am_ix (x2 - (am_c 1))) 32) (am_gb (Nat.blt (am_ix (x2 - (am_c 1))) 32) (am_ret (some (.int x2)) (am_up μ 12 (am_ix (x2 - (am_c 1))) ((am_c 1) - (μ 12 (am_ix (x2 - (am_c 1)))))))) else am_ev C 104 91 [.ref 7, .int x1, .int x2, .int x3, x4, x5, x6] [] μ) := am_blk (b := [(.iload_n 3, 1), (.bipush 8, 2), (.if_icmp .ne 28, 3), (.iload_n 2, 1), (.iconst 1, 1), (.if_icmp .lt 23, 3), (.aload_n 0, 1), (.getfield 24, 3), (.iload_n 2, 1), (.iconst 1, 1), (.isub, 1), (.iconst 1, 1), (.aload_n 0, 1), (.getfield 24, 3), (.iload_n 2, 1), (.iconst 1, 1), (.isub, 1), (.iaload, 1), (.isub, 1), (.iastore, 1), (.iload_n 2, 1), (.ireturn, 1)]) rfl rfl (rfl : am_z 104 = 0) _ _ _
set_option maxRecDepth 50000 in
theorem q104_91 (C : am_Ct) (x1 : Int32) (x2 : Int32) (x3 : Int32) (x4 : Value) (x5 : Value) (x6 : Value) (μ : am_Mem) : am_ev C 104 91 [.ref 7, .int x1, .int x2, .int x3, x4, x5, x6] [] μ = (if (am_c 2) ≤ x2 then am_ev C 104 98 [.ref 7, .int x1, .int x2, .int x3, x4, x5, x6] [] μ else am_ret (some (.int x2)) μ) := am_blk (b := [(.iload_n 2, 1), (.iconst 2, 1), (.if_icmp .ge 5, 3), (.iload_n 2, 1), (.ireturn, 1)]) rfl rfl (rfl : am_z 104 = 0) _ _ _
set_option maxRecDepth 50000 in
theorem q104_98 (C : am_Ct) (x1 : Int32) (x2 : Int32) (x3 : Int32) (x4 : Value) (x5 : Value) (x6 : Value) (μ : am_Mem) : am_ev C 104 98 [.ref 7, .int x1, .int x2, .int x3, x4, x5, x6] [] μ = (am_gb (Nat.blt (am_ix (x2 - (am_c 2))) 32) (am_gb (Nat.blt (am_ix (x2 - (am_c 1))) 32) (if x3 = (am_c 7) then am_ev C 104 304 [.ref 7, .int x1, .int x2, .int x3, .int (μ 12 (am_ix (x2 - (am_c 2)))), .int (μ 12 (am_ix (x2 - (am_c 1)))), x6] [] μ else if x3 = (am_c 8) then am_ev C 104 314 [.ref 7, .int x1, .int x2, .int x3, .int (μ 12 (am_ix (x2 - (am_c 2)))), .int (μ 12 (am_ix (x2 - (am_c 1)))), x6] [] μ else if x3 = (am_c 9) then am_ev C 104 314 [.ref 7, .int x1, .int x2, .int x3, .int (μ 12 (am_ix (x2 - (am_c 2)))), .int (μ 12 (am_ix (x2 - (am_c 1)))), x6] [] μ else if x3 = (am_c 10) then am_ev C 104 314 [.ref 7, .int x1, .int x2, .int x3, .int (μ 12 (am_ix (x2 - (am_c 2)))), .int (μ 12 (am_ix (x2 - (am_c 1)))), x6] [] μ else if x3 = (am_c 11) then am_ev C 104 314 [.ref 7, .int x1, .int x2, .int x3, .int (μ 12 (am_ix (x2 - (am_c 2)))), .int (μ 12 (am_ix (x2 - (am_c 1)))), x6] [] μ else if x3 = (am_c 12) then am_ev C 104 314 [.ref 7, .int x1, .int x2, .int x3, .int (μ 12 (am_ix (x2 - (am_c 2)))), .int (μ 12 (am_ix (x2 - (am_c 1)))), x6] [] μ else if x3 = (am_c 13) then am_ev C 104 314 [.ref 7, .int x1, .int x2, .int x3, .int (μ 12 (am_ix (x2 - (am_c 2)))), .int (μ 12 (am_ix (x2 - (am_c 1)))), x6] [] μ else if x3 = (am_c 14) then am_ev C 104 314 [.ref 7, .int x1, .int x2, .int x3, .int (μ 12 (am_ix (x2 - (am_c 2)))), .int (μ 12 (am_ix (x2 - (am_c 1)))), x6] [] μ else if x3 = (am_c 15) then am_ev C 104 314 [.ref 7, .int x1, .int x2, .int x3, .int (μ 12 (am_ix (x2 - (am_c 2)))), .int (μ 12 (am_ix (x2 - (am_c 1)))), x6] [] μ else if x3 = (am_c 16) then am_ev C 104 204 [.ref 7, .int x1, .int x2, .int x3, .int (μ 12 (am_ix (x2 - (am_c 2)))), .int (μ 12 (am_ix (x2 - (am_c 1)))), x6] [] μ else if x3 = (am_c 17) then am_ev C 104 214 [.ref 7, .int x1, .int x2, .int x3, .int (μ 12 (am_ix (x2 - (am_c 2)))), .int (μ 12 (am_ix (x2 - (am_c 1)))), x6] [] μ else if x3 = (am_c 18) then am_ev C 104 224 [.ref 7, .int x1, .int x2, .int x3, .int (μ 12 (am_ix (x2 - (am_c 2)))), .int (μ 12 (am_ix (x2 - (am_c 1)))), x6] [] μ else if x3 = (am_c 19) then am_ev C 104 234 [.ref 7, .int x1, .int x2, .int x3, .int (μ 12 (am_ix (x2 - (am_c 2)))), .int (μ 12 (am_ix (x2 - (am_c 1)))), x6] [] μ else if x3 = (am_c 20) then am_ev C 104 314 [.ref 7, .int x1, .int x2, .int x3, .int (μ 12 (am_ix (x2 - (am_c 2)))), .int (μ 12 (am_ix (x2 - (am_c 1)))), x6] [] μ else if x3 = (am_c 21) then am_ev C 104 314 [.ref 7, .int x1, .int x2, .int x3, .int (μ 12 (am_ix (x2 - (am_c 2)))), .int (μ 12 (am_ix (x2 - (am_c 1)))), x6] [] μ else if x3 = (am_c 22) then am_ev C 104 253 [.ref 7, .int x1, .int x2, .int x3, .int (μ 12 (am_ix (x2 - (am_c 2)))), .int (μ 12 (am_ix (x2 - (am_c 1)))), x6] [] μ else if x3 = (am_c 23) then am_ev C 104 270 [.ref 7, .int x1, .int x2, .int x3, .int (μ 12 (am_ix (x2 - (am_c 2)))), .int (μ 12 (am_ix (x2 - (am_c 1)))), x6] [] μ else if x3 = (am_c 24) then am_ev C 104 287 [.ref 7, .int x1, .int x2, .int x3, .int (μ 12 (am_ix (x2 - (am_c 2)))), .int (μ 12 (am_ix (x2 - (am_c 1)))), x6] [] μ else am_ev C 104 314 [.ref 7, .int x1, .int x2, .int x3, .int (μ 12 (am_ix (x2 - (am_c 2)))), .int (μ 12 (am_ix (x2 - (am_c 1)))), x6] [] μ))) := am_blk (b := [(.aload_n 0, 1), (.getfield 24, 3), (.iload_n 2, 1), (.iconst 2, 1), (.isub, 1), (.iaload, 1), (.istore 4, 2), (.aload_n 0, 1), (.getfield 24, 3), (.iload_n 2, 1), (.iconst 1, 1), (.isub, 1), (.iaload, 1), (.istore 5, 2), (.iload_n 3, 1), (.tableswitch 195 7 24 #[185, 195, 195, 195, 195, 195, 195, 195, 195, 85, 95, 105, 115, 195, 195, 134, 151, 168], 85)]) rfl rfl (rfl : am_z 104 = 0) _ _ _
set_option maxRecDepth 50000 in
theorem q104_204 (C : am_Ct) (x1 : Int32) (x2 : Int32) (x3 : Int32) (x4 : Int32) (x5 : Int32) (x6 : Value) (μ : am_Mem) : am_ev C 104 204 [.ref 7, .int x1, .int x2, .int x3, .int x4, .int x5, x6] [] μ = (am_ev C 104 321 [.ref 7, .int x1, .int x2, .int x3, .int x4, .int x5, .int (x4 + x5)] [] μ) := am_blk (b := [(.iload 4, 2), (.iload 5, 2), (.iadd, 1), (.istore 6, 2), (.goto 110, 3)]) rfl rfl (rfl : am_z 104 = 0) _ _ _
set_option maxRecDepth 50000 in
theorem q104_214 (C : am_Ct) (x1 : Int32) (x2 : Int32) (x3 : Int32) (x4 : Int32) (x5 : Int32) (x6 : Value) (μ : am_Mem) : am_ev C 104 214 [.ref 7, .int x1, .int x2, .int x3, .int x4, .int x5, x6] [] μ = (am_ev C 104 321 [.ref 7, .int x1, .int x2, .int x3, .int x4, .int x5, .int (x4 - x5)] [] μ) := am_blk (b := [(.iload 4, 2), (.iload 5, 2), (.isub, 1), (.istore 6, 2), (.goto 100, 3)]) rfl rfl (rfl : am_z 104 = 0) _ _ _
set_option maxRecDepth 50000 in
theorem q104_224 (C : am_Ct) (x1 : Int32) (x2 : Int32) (x3 : Int32) (x4 : Int32) (x5 : Int32) (x6 : Value) (μ : am_Mem) : am_ev C 104 224 [.ref 7, .int x1, .int x2, .int x3, .int x4, .int x5, x6] [] μ = (am_ev C 104 321 [.ref 7, .int x1, .int x2, .int x3, .int x4, .int x5, .int (x4 * x5)] [] μ) := am_blk (b := [(.iload 4, 2), (.iload 5, 2), (.imul, 1), (.istore 6, 2), (.goto 90, 3)]) rfl rfl (rfl : am_z 104 = 0) _ _ _
set_option maxRecDepth 50000 in
theorem q104_234 (C : am_Ct) (x1 : Int32) (x2 : Int32) (x3 : Int32) (x4 : Int32) (x5 : Int32) (x6 : Value) (μ : am_Mem) : am_ev C 104 234 [.ref 7, .int x1, .int x2, .int x3, .int x4, .int x5, x6] [] μ = (if x5 = 0 then am_ev C 104 248 [.ref 7, .int x1, .int x2, .int x3, .int x4, .int x5, x6] [.int (am_c 0)] μ else am_ev C 104 243 [.ref 7, .int x1, .int x2, .int x3, .int x4, .int x5, x6] [] μ) := am_blk (b := [(.iload 5, 2), (.ifCond .ne 7, 3), (.iconst 0, 1), (.goto 8, 3)]) rfl rfl (rfl : am_z 104 = 0) _ _ _
set_option maxRecDepth 50000 in
theorem q104_243 (C : am_Ct) (x1 : Int32) (x2 : Int32) (x3 : Int32) (x4 : Int32) (x5 : Int32) (x6 : Value) (μ : am_Mem) : am_ev C 104 243 [.ref 7, .int x1, .int x2, .int x3, .int x4, .int x5, x6] [] μ = (am_gb (!(Nat.beq (am_ix x5) 0)) (am_ev C 104 248 [.ref 7, .int x1, .int x2, .int x3, .int x4, .int x5, x6] [.int (x4 / x5)] μ)) := am_blk (b := [(.iload 4, 2), (.iload 5, 2), (.idiv, 1)]) rfl rfl (rfl : am_z 104 = 0) _ _ _
set_option maxRecDepth 50000 in
theorem q104_248 (C : am_Ct) (x1 : Int32) (x2 : Int32) (x3 : Int32) (x4 : Int32) (x5 : Int32) (x6 : Value) (s0 : Int32) (μ : am_Mem) : am_ev C 104 248 [.ref 7, .int x1, .int x2, .int x3, .int x4, .int x5, x6] [.int s0] μ = (am_ev C 104 321 [.ref 7, .int x1, .int x2, .int x3, .int x4, .int x5, .int s0] [] μ) := am_blk (b := [(.istore 6, 2), (.goto 71, 3)]) rfl rfl (rfl : am_z 104 = 0) _ _ _
set_option maxRecDepth 50000 in
theorem q104_253 (C : am_Ct) (x1 : Int32) (x2 : Int32) (x3 : Int32) (x4 : Int32) (x5 : Int32) (x6 : Value) (μ : am_Mem) : am_ev C 104 253 [.ref 7, .int x1, .int x2, .int x3, .int x4, .int x5, x6] [] μ = (if x5 ≤ x4 then am_ev C 104 264 [.ref 7, .int x1, .int x2, .int x3, .int x4, .int x5, x6] [] μ else am_ev C 104 265 [.ref 7, .int x1, .int x2, .int x3, .int x4, .int x5, x6] [.int (am_c 1)] μ) := am_blk (b := [(.iload 4, 2), (.iload 5, 2), (.if_icmp .ge 7, 3), (.iconst 1, 1), (.goto 4, 3)]) rfl rfl (rfl : am_z 104 = 0) _ _ _
set_option maxRecDepth 50000 in
theorem q104_264 (C : am_Ct) (x1 : Int32) (x2 : Int32) (x3 : Int32) (x4 : Int32) (x5 : Int32) (x6 : Value) (μ : am_Mem) : am_ev C 104 264 [.ref 7, .int x1, .int x2, .int x3, .int x4, .int x5, x6] [] μ = (am_ev C 104 265 [.ref 7, .int x1, .int x2, .int x3, .int x4, .int x5, x6] [.int (am_c 0)] μ) := am_blk (b := [(.iconst 0, 1)]) rfl rfl (rfl : am_z 104 = 0) _ _ _
set_option maxRecDepth 50000 in
theorem q104_265 (C : am_Ct) (x1 : Int32) (x2 : Int32) (x3 : Int32) (x4 : Int32) (x5 : Int32) (x6 : Value) (s0 : Int32) (μ : am_Mem) : am_ev C 104 265 [.ref 7, .int x1, .int x2, .int x3, .int x4, .int x5, x6] [.int s0] μ = (am_ev C 104 321 [.ref 7, .int x1, .int x2, .int x3, .int x4, .int x5, .int s0] [] μ) := am_blk (b := [(.istore 6, 2), (.goto 54, 3)]) rfl rfl (rfl : am_z 104 = 0) _ _ _
set_option maxRecDepth 50000 in
theorem q104_270 (C : am_Ct) (x1 : Int32) (x2 : Int32) (x3 : Int32) (x4 : Int32) (x5 : Int32) (x6 : Value) (μ : am_Mem) : am_ev C 104 270 [.ref 7, .int x1, .int x2, .int x3, .int x4, .int x5, x6] [] μ = (if x4 = x5 then am_ev C 104 282 [.ref 7, .int x1, .int x2, .int x3, .int x4, .int x5, x6] [.int (am_c 1)] μ else am_ev C 104 281 [.ref 7, .int x1, .int x2, .int x3, .int x4, .int x5, x6] [] μ) := am_blk (b := [(.iload 4, 2), (.iload 5, 2), (.if_icmp .ne 7, 3), (.iconst 1, 1), (.goto 4, 3)]) rfl rfl (rfl : am_z 104 = 0) _ _ _
set_option maxRecDepth 50000 in
theorem q104_281 (C : am_Ct) (x1 : Int32) (x2 : Int32) (x3 : Int32) (x4 : Int32) (x5 : Int32) (x6 : Value) (μ : am_Mem) : am_ev C 104 281 [.ref 7, .int x1, .int x2, .int x3, .int x4, .int x5, x6] [] μ = (am_ev C 104 282 [.ref 7, .int x1, .int x2, .int x3, .int x4, .int x5, x6] [.int (am_c 0)] μ) := am_blk (b := [(.iconst 0, 1)]) rfl rfl (rfl : am_z 104 = 0) _ _ _
set_option maxRecDepth 50000 in
theorem q104_282 (C : am_Ct) (x1 : Int32) (x2 : Int32) (x3 : Int32) (x4 : Int32) (x5 : Int32) (x6 : Value) (s0 : Int32) (μ : am_Mem) : am_ev C 104 282 [.ref 7, .int x1, .int x2, .int x3, .int x4, .int x5, x6] [.int s0] μ = (am_ev C 104 321 [.ref 7, .int x1, .int x2, .int x3, .int x4, .int x5, .int s0] [] μ) := am_blk (b := [(.istore 6, 2), (.goto 37, 3)]) rfl rfl (rfl : am_z 104 = 0) _ _ _
set_option maxRecDepth 50000 in
theorem q104_287 (C : am_Ct) (x1 : Int32) (x2 : Int32) (x3 : Int32) (x4 : Int32) (x5 : Int32) (x6 : Value) (μ : am_Mem) : am_ev C 104 287 [.ref 7, .int x1, .int x2, .int x3, .int x4, .int x5, x6] [] μ = (if x4 ≤ x5 then am_ev C 104 298 [.ref 7, .int x1, .int x2, .int x3, .int x4, .int x5, x6] [] μ else am_ev C 104 299 [.ref 7, .int x1, .int x2, .int x3, .int x4, .int x5, x6] [.int (am_c 1)] μ) := am_blk (b := [(.iload 4, 2), (.iload 5, 2), (.if_icmp .le 7, 3), (.iconst 1, 1), (.goto 4, 3)]) rfl rfl (rfl : am_z 104 = 0) _ _ _
set_option maxRecDepth 50000 in
theorem q104_298 (C : am_Ct) (x1 : Int32) (x2 : Int32) (x3 : Int32) (x4 : Int32) (x5 : Int32) (x6 : Value) (μ : am_Mem) : am_ev C 104 298 [.ref 7, .int x1, .int x2, .int x3, .int x4, .int x5, x6] [] μ = (am_ev C 104 299 [.ref 7, .int x1, .int x2, .int x3, .int x4, .int x5, x6] [.int (am_c 0)] μ) := am_blk (b := [(.iconst 0, 1)]) rfl rfl (rfl : am_z 104 = 0) _ _ _
set_option maxRecDepth 50000 in
theorem q104_299 (C : am_Ct) (x1 : Int32) (x2 : Int32) (x3 : Int32) (x4 : Int32) (x5 : Int32) (x6 : Value) (s0 : Int32) (μ : am_Mem) : am_ev C 104 299 [.ref 7, .int x1, .int x2, .int x3, .int x4, .int x5, x6] [.int s0] μ = (am_ev C 104 321 [.ref 7, .int x1, .int x2, .int x3, .int x4, .int x5, .int s0] [] μ) := am_blk (b := [(.istore 6, 2), (.goto 20, 3)]) rfl rfl (rfl : am_z 104 = 0) _ _ _
set_option maxRecDepth 50000 in
theorem q104_304 (C : am_Ct) (x1 : Int32) (x2 : Int32) (x3 : Int32) (x4 : Int32) (x5 : Int32) (x6 : Value) (μ : am_Mem) : am_ev C 104 304 [.ref 7, .int x1, .int x2, .int x3, .int x4, .int x5, x6] [] μ = (am_ev C 104 321 [.ref 7, .int x1, .int x2, .int x3, .int x4, .int x5, .int (x4 &&& x5)] [] μ) := am_blk (b := [(.iload 4, 2), (.iload 5, 2), (.iand, 1), (.istore 6, 2), (.goto 10, 3)]) rfl rfl (rfl : am_z 104 = 0) _ _ _
set_option maxRecDepth 50000 in
theorem q104_314 (C : am_Ct) (x1 : Int32) (x2 : Int32) (x3 : Int32) (x4 : Int32) (x5 : Int32) (x6 : Value) (μ : am_Mem) : am_ev C 104 314 [.ref 7, .int x1, .int x2, .int x3, .int x4, .int x5, x6] [] μ = (am_ev C 104 321 [.ref 7, .int x1, .int x2, .int x3, .int x4, .int x5, .int (x4 ||| x5)] [] μ) := am_blk (b := [(.iload 4, 2), (.iload 5, 2), (.ior, 1), (.istore 6, 2)]) rfl rfl (rfl : am_z 104 = 0) _ _ _
set_option maxRecDepth 50000 in
theorem q104_321 (C : am_Ct) (x1 : Int32) (x2 : Int32) (x3 : Int32) (x4 : Int32) (x5 : Int32) (x6 : Int32) (μ : am_Mem) : am_ev C 104 321 [.ref 7, .int x1, .int x2, .int x3, .int x4, .int x5, .int x6] [] μ = (am_gb (Nat.blt (am_ix (x2 - (am_c 2))) 32) (am_ret (some (.int (x2 - (am_c 1)))) (am_up μ 12 (am_ix (x2 - (am_c 2))) x6))) := am_blk (b := [(.aload_n 0, 1), (.getfield 24, 3), (.iload_n 2, 1), (.iconst 2, 1), (.isub, 1), (.iload 6, 2), (.iastore, 1), (.iload_n 2, 1), (.iconst 1, 1), (.isub, 1), (.ireturn, 1)]) rfl rfl (rfl : am_z 104 = 0) _ _ _
theorem e104 (d : Nat) (x1 : Int32) (x2 : Int32) (μ : am_Mem) : am_call (d + 1) 104 [.ref 7, .int x1, .int x2] μ = am_ev (am_call d) 104 0 [.ref 7, .int x1, .int x2, .null, .null, .null, .null] [] μ := rfl
/-! java/lang/Integer.bitCount(I)I  -/
set_option maxRecDepth 50000 in
theorem q1200_0 (C : am_Ct) (x0 : Int32) (μ : am_Mem) : am_ev C 1200 0 [.int x0] [] μ = (am_ret (some (.int ((((((((x0 - ((((Int32.toUInt32 x0) >>> ((Int32.toUInt32 (am_c 1)) &&& Int32.toUInt32 31)).toInt32) &&& 1431655765)) &&& 858993459) + ((((Int32.toUInt32 (x0 - ((((Int32.toUInt32 x0) >>> ((Int32.toUInt32 (am_c 1)) &&& Int32.toUInt32 31)).toInt32) &&& 1431655765))) >>> ((Int32.toUInt32 (am_c 2)) &&& Int32.toUInt32 31)).toInt32) &&& 858993459)) + (((Int32.toUInt32 (((x0 - ((((Int32.toUInt32 x0) >>> ((Int32.toUInt32 (am_c 1)) &&& Int32.toUInt32 31)).toInt32) &&& 1431655765)) &&& 858993459) + ((((Int32.toUInt32 (x0 - ((((Int32.toUInt32 x0) >>> ((Int32.toUInt32 (am_c 1)) &&& Int32.toUInt32 31)).toInt32) &&& 1431655765))) >>> ((Int32.toUInt32 (am_c 2)) &&& Int32.toUInt32 31)).toInt32) &&& 858993459))) >>> ((Int32.toUInt32 (am_c 4)) &&& Int32.toUInt32 31)).toInt32)) &&& 252645135) + (((Int32.toUInt32 (((((x0 - ((((Int32.toUInt32 x0) >>> ((Int32.toUInt32 (am_c 1)) &&& Int32.toUInt32 31)).toInt32) &&& 1431655765)) &&& 858993459) + ((((Int32.toUInt32 (x0 - ((((Int32.toUInt32 x0) >>> ((Int32.toUInt32 (am_c 1)) &&& Int32.toUInt32 31)).toInt32) &&& 1431655765))) >>> ((Int32.toUInt32 (am_c 2)) &&& Int32.toUInt32 31)).toInt32) &&& 858993459)) + (((Int32.toUInt32 (((x0 - ((((Int32.toUInt32 x0) >>> ((Int32.toUInt32 (am_c 1)) &&& Int32.toUInt32 31)).toInt32) &&& 1431655765)) &&& 858993459) + ((((Int32.toUInt32 (x0 - ((((Int32.toUInt32 x0) >>> ((Int32.toUInt32 (am_c 1)) &&& Int32.toUInt32 31)).toInt32) &&& 1431655765))) >>> ((Int32.toUInt32 (am_c 2)) &&& Int32.toUInt32 31)).toInt32) &&& 858993459))) >>> ((Int32.toUInt32 (am_c 4)) &&& Int32.toUInt32 31)).toInt32)) &&& 252645135)) >>> ((Int32.toUInt32 (am_c 8)) &&& Int32.toUInt32 31)).toInt32)) + (((Int32.toUInt32 ((((((x0 - ((((Int32.toUInt32 x0) >>> ((Int32.toUInt32 (am_c 1)) &&& Int32.toUInt32 31)).toInt32) &&& 1431655765)) &&& 858993459) + ((((Int32.toUInt32 (x0 - ((((Int32.toUInt32 x0) >>> ((Int32.toUInt32 (am_c 1)) &&& Int32.toUInt32 31)).toInt32) &&& 1431655765))) >>> ((Int32.toUInt32 (am_c 2)) &&& Int32.toUInt32 31)).toInt32) &&& 858993459)) + (((Int32.toUInt32 (((x0 - ((((Int32.toUInt32 x0) >>> ((Int32.toUInt32 (am_c 1)) &&& Int32.toUInt32 31)).toInt32) &&& 1431655765)) &&& 858993459) + ((((Int32.toUInt32 (x0 - ((((Int32.toUInt32 x0) >>> ((Int32.toUInt32 (am_c 1)) &&& Int32.toUInt32 31)).toInt32) &&& 1431655765))) >>> ((Int32.toUInt32 (am_c 2)) &&& Int32.toUInt32 31)).toInt32) &&& 858993459))) >>> ((Int32.toUInt32 (am_c 4)) &&& Int32.toUInt32 31)).toInt32)) &&& 252645135) + (((Int32.toUInt32 (((((x0 - ((((Int32.toUInt32 x0) >>> ((Int32.toUInt32 (am_c 1)) &&& Int32.toUInt32 31)).toInt32) &&& 1431655765)) &&& 858993459) + ((((Int32.toUInt32 (x0 - ((((Int32.toUInt32 x0) >>> ((Int32.toUInt32 (am_c 1)) &&& Int32.toUInt32 31)).toInt32) &&& 1431655765))) >>> ((Int32.toUInt32 (am_c 2)) &&& Int32.toUInt32 31)).toInt32) &&& 858993459)) + (((Int32.toUInt32 (((x0 - ((((Int32.toUInt32 x0) >>> ((Int32.toUInt32 (am_c 1)) &&& Int32.toUInt32 31)).toInt32) &&& 1431655765)) &&& 858993459) + ((((Int32.toUInt32 (x0 - ((((Int32.toUInt32 x0) >>> ((Int32.toUInt32 (am_c 1)) &&& Int32.toUInt32 31)).toInt32) &&& 1431655765))) >>> ((Int32.toUInt32 (am_c 2)) &&& Int32.toUInt32 31)).toInt32) &&& 858993459))) >>> ((Int32.toUInt32 (am_c 4)) &&& Int32.toUInt32 31)).toInt32)) &&& 252645135)) >>> ((Int32.toUInt32 (am_c 8)) &&& Int32.toUInt32 31)).toInt32))) >>> ((Int32.toUInt32 (am_c 16)) &&& Int32.toUInt32 31)).toInt32)) &&& (am_c 63)))) μ) := am_blk (b := [(.iload_n 0, 1), (.iload_n 0, 1), (.iconst 1, 1), (.iushr, 1), (.ldc_w 265, 3), (.iand, 1), (.isub, 1), (.istore_n 0, 1), (.iload_n 0, 1), (.ldc_w 266, 3), (.iand, 1), (.iload_n 0, 1), (.iconst 2, 1), (.iushr, 1), (.ldc_w 266, 3), (.iand, 1), (.iadd, 1), (.istore_n 0, 1), (.iload_n 0, 1), (.iload_n 0, 1), (.iconst 4, 1), (.iushr, 1), (.iadd, 1), (.ldc_w 267, 3), (.iand, 1), (.istore_n 0, 1), (.iload_n 0, 1), (.iload_n 0, 1), (.bipush 8, 2), (.iushr, 1), (.iadd, 1), (.istore_n 0, 1), (.iload_n 0, 1), (.iload_n 0, 1), (.bipush 16, 2), (.iushr, 1), (.iadd, 1), (.istore_n 0, 1), (.iload_n 0, 1), (.bipush 63, 2), (.iand, 1), (.ireturn, 1)]) rfl rfl (rfl : am_z 1200 = 0) _ _ _
theorem e1200 (d : Nat) (x0 : Int32) (μ : am_Mem) : am_call (d + 1) 1200 [.int x0] μ = am_ev (am_call d) 1200 0 [.int x0] [] μ := rfl
/-! java/lang/Math.max(II)I  -/
set_option maxRecDepth 50000 in
theorem q1300_0 (C : am_Ct) (x0 : Int32) (x1 : Int32) (μ : am_Mem) : am_ev C 1300 0 [.int x0, .int x1] [] μ = (if x0 < x1 then am_ev C 1300 9 [.int x0, .int x1] [] μ else am_ev C 1300 10 [.int x0, .int x1] [.int x0] μ) := am_blk (b := [(.iload_n 0, 1), (.iload_n 1, 1), (.if_icmp .lt 7, 3), (.iload_n 0, 1), (.goto 4, 3)]) rfl rfl (rfl : am_z 1300 = 0) _ _ _
set_option maxRecDepth 50000 in
theorem q1300_9 (C : am_Ct) (x0 : Int32) (x1 : Int32) (μ : am_Mem) : am_ev C 1300 9 [.int x0, .int x1] [] μ = (am_ev C 1300 10 [.int x0, .int x1] [.int x1] μ) := am_blk (b := [(.iload_n 1, 1)]) rfl rfl (rfl : am_z 1300 = 0) _ _ _
set_option maxRecDepth 50000 in
theorem q1300_10 (C : am_Ct) (x0 : Int32) (x1 : Int32) (s0 : Int32) (μ : am_Mem) : am_ev C 1300 10 [.int x0, .int x1] [.int s0] μ = (am_ret (some (.int s0)) μ) := am_blk (b := [(.ireturn, 1)]) rfl rfl (rfl : am_z 1300 = 0) _ _ _
theorem e1300 (d : Nat) (x0 : Int32) (x1 : Int32) (μ : am_Mem) : am_call (d + 1) 1300 [.int x0, .int x1] μ = am_ev (am_call d) 1300 0 [.int x0, .int x1] [] μ := rfl
/-! java/lang/String.length()I  -/
set_option maxRecDepth 50000 in
theorem q1400_0 (C : am_Ct) (x0 : Nat) (μ : am_Mem) : am_ev C 1400 0 [.retAddr x0] [] μ = (am_gb (Nat.blt x0 13) (am_gb (Nat.blt (UInt32.ofNat x0).toNat 13) (am_gb (Nat.blt x0 13) (am_bI (C 1402 [.retAddr x0] μ) (fun r1 m1 => am_ret (some (.int ((Int32.ofNat (am_slen (UInt32.ofNat x0).toNat)) >>> (r1 &&& 31)))) m1))))) := am_blk (b := [(.aload_n 0, 1), (.getfield 9, 3), (.arraylength, 1), (.aload_n 0, 1), (.invokevirtual 335, 3), (.ishr, 1), (.ireturn, 1)]) rfl rfl (rfl : am_z 1400 = 0) _ _ _
theorem e1400 (d : Nat) (x0 : Nat) (μ : am_Mem) : am_call (d + 1) 1400 [.retAddr x0] μ = am_ev (am_call d) 1400 0 [.retAddr x0] [] μ := rfl
/-! java/lang/String.charAt(I)C  -/
set_option maxRecDepth 50000 in
theorem q1401_0 (C : am_Ct) (x0 : Nat) (x1 : Int32) (μ : am_Mem) : am_ev C 1401 0 [.retAddr x0, .int x1] [] μ = (am_gb (Nat.blt x0 13) (am_bI (C 1403 [.retAddr x0] μ) (fun r1 m1 => if r1 = 0 then am_ev C 1401 16 [.retAddr x0, .int x1] [] m1 else am_gb (Nat.blt x0 13) (am_bI (C 1500 [.float (UInt32.ofNat x0), .int x1] m1) (fun r2 m2 => am_gb (Nat.blt (am_ix r2) 65536) (am_ret (some (.int r2)) m2)))))) := am_blk (b := [(.aload_n 0, 1), (.invokevirtual 492, 3), (.ifCond .eq 12, 3), (.aload_n 0, 1), (.getfield 9, 3), (.iload_n 1, 1), (.invokestatic 495, 3), (.ireturn, 1)]) rfl rfl (rfl : am_z 1401 = 65536) _ _ _
set_option maxRecDepth 50000 in
theorem q1401_16 (C : am_Ct) (x0 : Nat) (x1 : Int32) (μ : am_Mem) : am_ev C 1401 16 [.retAddr x0, .int x1] [] μ = (am_gb (Nat.blt x0 13) (am_no)) := am_blk (b := [(.aload_n 0, 1), (.getfield 9, 3), (.iload_n 1, 1), (.invokestatic 498, 3), (.ireturn, 1)]) rfl rfl (rfl : am_z 1401 = 65536) _ _ _
theorem e1401 (d : Nat) (x0 : Nat) (x1 : Int32) (μ : am_Mem) : am_call (d + 1) 1401 [.retAddr x0, .int x1] μ = am_ev (am_call d) 1401 0 [.retAddr x0, .int x1] [] μ := rfl
/-! java/lang/String.coder()B  -/
set_option maxRecDepth 50000 in
theorem q1402_0 (C : am_Ct) (x0 : Nat) (μ : am_Mem) : am_ev C 1402 0 [.retAddr x0] [] μ = (if (1 : Int32) = 0 then am_ev C 1402 13 [.retAddr x0] [] μ else am_gb (Nat.blt x0 13) (am_ev C 1402 14 [.retAddr x0] [.int 0] μ)) := am_blk (b := [(.getstatic 38, 3), (.ifCond .eq 10, 3), (.aload_n 0, 1), (.getfield 15, 3), (.goto 4, 3)]) rfl rfl (rfl : am_z 1402 = 128) _ _ _
set_option maxRecDepth 50000 in
theorem q1402_13 (C : am_Ct) (x0 : Nat) (μ : am_Mem) : am_ev C 1402 13 [.retAddr x0] [] μ = (am_ev C 1402 14 [.retAddr x0] [.int (am_c 1)] μ) := am_blk (b := [(.iconst 1, 1)]) rfl rfl (rfl : am_z 1402 = 128) _ _ _
set_option maxRecDepth 50000 in
theorem q1402_14 (C : am_Ct) (x0 : Nat) (s0 : Int32) (μ : am_Mem) : am_ev C 1402 14 [.retAddr x0] [.int s0] μ = (am_gb (Nat.blt (am_ix s0) 128) (am_ret (some (.int s0)) μ)) := am_blk (b := [(.ireturn, 1)]) rfl rfl (rfl : am_z 1402 = 128) _ _ _
theorem e1402 (d : Nat) (x0 : Nat) (μ : am_Mem) : am_call (d + 1) 1402 [.retAddr x0] μ = am_ev (am_call d) 1402 0 [.retAddr x0] [] μ := rfl
/-! java/lang/String.isLatin1()Z  -/
set_option maxRecDepth 50000 in
theorem q1403_0 (C : am_Ct) (x0 : Nat) (μ : am_Mem) : am_ev C 1403 0 [.retAddr x0] [] μ = (if (1 : Int32) = 0 then am_ev C 1403 17 [.retAddr x0] [] μ else am_gb (Nat.blt x0 13) (if (0 : Int32) = 0 then am_ev C 1403 18 [.retAddr x0] [.int (am_c 1)] μ else am_ev C 1403 17 [.retAddr x0] [] μ)) := am_blk (b := [(.getstatic 38, 3), (.ifCond .eq 14, 3), (.aload_n 0, 1), (.getfield 15, 3), (.ifCond .ne 7, 3), (.iconst 1, 1), (.goto 4, 3)]) rfl rfl (rfl : am_z 1403 = 2) _ _ _
set_option maxRecDepth 50000 in
theorem q1403_17 (C : am_Ct) (x0 : Nat) (μ : am_Mem) : am_ev C 1403 17 [.retAddr x0] [] μ = (am_ev C 1403 18 [.retAddr x0] [.int (am_c 0)] μ) := am_blk (b := [(.iconst 0, 1)]) rfl rfl (rfl : am_z 1403 = 2) _ _ _
set_option maxRecDepth 50000 in
theorem q1403_18 (C : am_Ct) (x0 : Nat) (s0 : Int32) (μ : am_Mem) : am_ev C 1403 18 [.retAddr x0] [.int s0] μ = (am_gb (Nat.blt (am_ix s0) 2) (am_ret (some (.int s0)) μ)) := am_blk (b := [(.ireturn, 1)]) rfl rfl (rfl : am_z 1403 = 2) _ _ _
theorem e1403 (d : Nat) (x0 : Nat) (μ : am_Mem) : am_call (d + 1) 1403 [.retAddr x0] μ = am_ev (am_call d) 1403 0 [.retAddr x0] [] μ := rfl
/-! java/lang/String.checkIndex(II)V  -/
set_option maxRecDepth 50000 in
theorem q1404_0 (C : am_Ct) (x0 : Int32) (x1 : Int32) (μ : am_Mem) : am_ev C 1404 0 [.int x0, .int x1] [] μ = (am_bI (C 1600 [.int x0, .int x1, .long 0] μ) (fun r1 m1 => am_ret none m1)) := am_blk (b := [(.iload_n 0, 1), (.iload_n 1, 1), (.getstatic 1053, 3), (.invokestatic 1059, 3), (.pop, 1), (.return_, 1)]) rfl rfl (rfl : am_z 1404 = 0) _ _ _
theorem e1404 (d : Nat) (x0 : Int32) (x1 : Int32) (μ : am_Mem) : am_call (d + 1) 1404 [.int x0, .int x1] μ = am_ev (am_call d) 1404 0 [.int x0, .int x1] [] μ := rfl
/-! java/lang/StringLatin1.charAt([BI)C  -/
set_option maxRecDepth 50000 in
theorem q1500_0 (C : am_Ct) (x0 : Nat) (x1 : Int32) (μ : am_Mem) : am_ev C 1500 0 [.float (UInt32.ofNat x0), .int x1] [] μ = (am_gb (Nat.blt (UInt32.ofNat x0).toNat 13) (am_bV (C 1404 [.int x1, .int (Int32.ofNat (am_slen (UInt32.ofNat x0).toNat))] μ) (fun m1 => am_gb (Nat.blt (UInt32.ofNat x0).toNat 13) (am_gb (Nat.blt (am_ix x1) (am_slen (UInt32.ofNat x0).toNat)) (am_gb (Nat.blt (am_ix ((Int32.toUInt32 ((am_sch (UInt32.ofNat x0).toNat (am_ix x1)) &&& (am_c 255)) % 65536).toInt32)) 65536) (am_ret (some (.int ((Int32.toUInt32 ((am_sch (UInt32.ofNat x0).toNat (am_ix x1)) &&& (am_c 255)) % 65536).toInt32))) m1)))))) := am_blk (b := [(.iload_n 1, 1), (.aload_n 0, 1), (.arraylength, 1), (.invokestatic 9, 3), (.aload_n 0, 1), (.iload_n 1, 1), (.baload, 1), (.sipush 255, 3), (.iand, 1), (.i2c, 1), (.ireturn, 1)]) rfl rfl (rfl : am_z 1500 = 65536) _ _ _
theorem e1500 (d : Nat) (x0 : Nat) (x1 : Int32) (μ : am_Mem) : am_call (d + 1) 1500 [.float (UInt32.ofNat x0), .int x1] μ = am_ev (am_call d) 1500 0 [.float (UInt32.ofNat x0), .int x1] [] μ := rfl
/-! jdk/internal/util/Preconditions.checkIndex(IILjava/util/function/BiFunction;)I  -/
set_option maxRecDepth 50000 in
theorem q1600_0 (C : am_Ct) (x0 : Int32) (x1 : Int32) (μ : am_Mem) : am_ev C 1600 0 [.int x0, .int x1, .long 0] [] μ = (if x0 < 0 then am_ev C 1600 9 [.int x0, .int x1, .long 0] [] μ else if x0 < x1 then am_ev C 1600 16 [.int x0, .int x1, .long 0] [] μ else am_ev C 1600 9 [.int x0, .int x1, .long 0] [] μ) := am_blk (b := [(.iload_n 0, 1), (.ifCond .lt 8, 3), (.iload_n 0, 1), (.iload_n 1, 1), (.if_icmp .lt 10, 3)]) rfl rfl (rfl : am_z 1600 = 0) _ _ _
set_option maxRecDepth 50000 in
theorem q1600_9 (C : am_Ct) (x0 : Int32) (x1 : Int32) (μ : am_Mem) : am_ev C 1600 9 [.int x0, .int x1, .long 0] [] μ = (am_no) := am_blk (b := [(.aload_n 2, 1), (.iload_n 0, 1), (.iload_n 1, 1), (.invokestatic 95, 3), (.athrow, 1)]) rfl rfl (rfl : am_z 1600 = 0) _ _ _
set_option maxRecDepth 50000 in
theorem q1600_16 (C : am_Ct) (x0 : Int32) (x1 : Int32) (μ : am_Mem) : am_ev C 1600 16 [.int x0, .int x1, .long 0] [] μ = (am_ret (some (.int x0)) μ) := am_blk (b := [(.iload_n 0, 1), (.ireturn, 1)]) rfl rfl (rfl : am_z 1600 = 0) _ _ _
theorem e1600 (d : Nat) (x0 : Int32) (x1 : Int32) (μ : am_Mem) : am_call (d + 1) 1600 [.int x0, .int x1, .long 0] μ = am_ev (am_call d) 1600 0 [.int x0, .int x1, .long 0] [] μ := rfl
/-! NoWordTwice$LawReader.readLaw([BI)Z  -/
set_option maxRecDepth 50000 in
theorem q201_0 (C : am_Ct) (x2 : Int32) (x3 : Value) (μ : am_Mem) : am_ev C 201 0 [.ref 26, .ref 25, .int x2, x3] [] μ = (am_bV (C 601 [.ref 27, .ref 25, .int x2] μ) (fun m1 => am_ev C 201 52 [.ref 26, .ref 25, .int x2, .int (am_c 0)] [] (am_up (am_up (am_up (am_up (am_up (am_up m1 26 2 (am_c 0)) 26 3 ((am_up m1 26 2 (am_c 0)) 28 0)) 26 4 (am_c 0)) 26 5 (am_c 0)) 26 6 (am_c (-1))) 31 0 (am_c 0)))) := am_blk (b := [(.aload_n 0, 1), (.getfield 12, 3), (.aload_n 1, 1), (.iload_n 2, 1), (.invokevirtual 29, 3), (.aload_n 0, 1), (.iconst 0, 1), (.putfield 33, 3), (.aload_n 0, 1), (.aload_n 0, 1), (.getfield 12, 3), (.getfield 36, 3), (.iconst 0, 1), (.iaload, 1), (.putfield 40, 3), (.aload_n 0, 1), (.iconst 0, 1), (.putfield 43, 3), (.aload_n 0, 1), (.iconst 0, 1), (.putfield 46, 3), (.aload_n 0, 1), (.iconst (-1), 1), (.putfield 25, 3), (.aload_n 0, 1), (.getfield 21, 3), (.iconst 0, 1), (.putfield 49, 3), (.iconst 0, 1), (.istore_n 3, 1)]) rfl rfl (rfl : am_z 201 = 2) _ _ _
set_option maxRecDepth 50000 in
theorem q201_52 (C : am_Ct) (x2 : Int32) (x3 : Int32) (μ : am_Mem) : am_ev C 201 52 [.ref 26, .ref 25, .int x2, .int x3] [] μ = (if (am_c 16) < x3 then am_ev C 201 80 [.ref 26, .ref 25, .int x2, .int x3] [] μ else if (μ 26 3) = 0 then am_ev C 201 80 [.ref 26, .ref 25, .int x2, .int x3] [] μ else am_bI (C 206 [.ref 26] μ) (fun r1 m1 => if r1 = 0 then am_ret (some (.int (am_c 0))) m1 else am_ev C 201 74 [.ref 26, .ref 25, .int x2, .int x3] [] m1)) := am_blk (b := [(.iload_n 3, 1), (.bipush 16, 2), (.if_icmp .gt 25, 3), (.aload_n 0, 1), (.getfield 40, 3), (.ifCond .eq 18, 3), (.aload_n 0, 1), (.invokevirtual 52, 3), (.ifCond .ne 5, 3), (.iconst 0, 1), (.ireturn, 1)]) rfl rfl (rfl : am_z 201 = 2) _ _ _
set_option maxRecDepth 50000 in
theorem q201_74 (C : am_Ct) (x2 : Int32) (x3 : Int32) (μ : am_Mem) : am_ev C 201 74 [.ref 26, .ref 25, .int x2, .int x3] [] μ = (am_ev C 201 52 [.ref 26, .ref 25, .int x2, .int (x3 + (am_c 1))] [] μ) := am_blk (b := [(.iinc 3 1, 3), (.goto (-25), 3)]) rfl rfl (rfl : am_z 201 = 2) _ _ _
set_option maxRecDepth 50000 in
theorem q201_80 (C : am_Ct) (x2 : Int32) (x3 : Int32) (μ : am_Mem) : am_ev C 201 80 [.ref 26, .ref 25, .int x2, .int x3] [] μ = (am_ret (some (.int (am_c 1))) μ) := am_blk (b := [(.iconst 1, 1), (.ireturn, 1)]) rfl rfl (rfl : am_z 201 = 2) _ _ _
theorem e201 (d : Nat) (x2 : Int32) (μ : am_Mem) : am_call (d + 1) 201 [.ref 26, .ref 25, .int x2] μ = am_ev (am_call d) 201 0 [.ref 26, .ref 25, .int x2, .null] [] μ := rfl
/-! NoWordTwice$LawReader.step()V  -/
set_option maxRecDepth 50000 in
theorem q202_0 (C : am_Ct) (μ : am_Mem) : am_ev C 202 0 [.ref 26] [] μ = (if (μ 27 3) ≤ ((μ 26 2) + (am_c 1)) then am_ev C 202 26 [.ref 26] [] μ else am_ev C 202 26 [.ref 26] [] (am_up μ 26 2 ((μ 26 2) + (am_c 1)))) := am_blk (b := [(.aload_n 0, 1), (.getfield 33, 3), (.iconst 1, 1), (.iadd, 1), (.aload_n 0, 1), (.getfield 12, 3), (.getfield 56, 3), (.if_icmp .ge 13, 3), (.aload_n 0, 1), (.dup, 1), (.getfield 33, 3), (.iconst 1, 1), (.iadd, 1), (.putfield 33, 3)]) rfl rfl (rfl : am_z 202 = 0) _ _ _
set_option maxRecDepth 50000 in
theorem q202_26 (C : am_Ct) (μ : am_Mem) : am_ev C 202 26 [.ref 26] [] μ = (am_gb (Nat.blt (am_ix (μ 26 2)) 401) (am_ret none (am_up μ 26 3 (μ 28 (am_ix (μ 26 2)))))) := am_blk (b := [(.aload_n 0, 1), (.aload_n 0, 1), (.getfield 12, 3), (.getfield 36, 3), (.aload_n 0, 1), (.getfield 33, 3), (.iaload, 1), (.putfield 40, 3), (.return_, 1)]) rfl rfl (rfl : am_z 202 = 0) _ _ _
theorem e202 (d : Nat) (μ : am_Mem) : am_call (d + 1) 202 [.ref 26] μ = am_ev (am_call d) 202 0 [.ref 26] [] μ := rfl
/-! NoWordTwice$LawReader.fail(I)Z  -/
set_option maxRecDepth 50000 in
theorem q203_0 (C : am_Ct) (x1 : Int32) (μ : am_Mem) : am_ev C 203 0 [.ref 26, .int x1] [] μ = (am_gb (Nat.blt (am_ix ((am_up μ 26 5 x1) 26 2)) 401) (am_ret (some (.int (am_c 0))) (am_up (am_up μ 26 5 x1) 26 6 ((am_up μ 26 5 x1) 29 (am_ix ((am_up μ 26 5 x1) 26 2)))))) := am_blk (b := [(.aload_n 0, 1), (.iload_n 1, 1), (.putfield 46, 3), (.aload_n 0, 1), (.aload_n 0, 1), (.getfield 12, 3), (.getfield 59, 3), (.aload_n 0, 1), (.getfield 33, 3), (.iaload, 1), (.putfield 25, 3), (.iconst 0, 1), (.ireturn, 1)]) rfl rfl (rfl : am_z 203 = 2) _ _ _
theorem e203 (d : Nat) (x1 : Int32) (μ : am_Mem) : am_call (d + 1) 203 [.ref 26, .int x1] μ = am_ev (am_call d) 203 0 [.ref 26, .int x1] [] μ := rfl
/-! NoWordTwice$LawReader.pass(I)Z  -/
set_option maxRecDepth 50000 in
theorem q204_0 (C : am_Ct) (x1 : Int32) (μ : am_Mem) : am_ev C 204 0 [.ref 26, .int x1] [] μ = (if (μ 26 3) = x1 then am_ev C 204 14 [.ref 26, .int x1] [] μ else am_bI (C 203 [.ref 26, .int (am_c 1)] μ) (fun r1 m1 => am_gb (Nat.blt (am_ix r1) 2) (am_ret (some (.int r1)) m1))) := am_blk (b := [(.aload_n 0, 1), (.getfield 40, 3), (.iload_n 1, 1), (.if_icmp .eq 9, 3), (.aload_n 0, 1), (.iconst 1, 1), (.invokevirtual 62, 3), (.ireturn, 1)]) rfl rfl (rfl : am_z 204 = 2) _ _ _
set_option maxRecDepth 50000 in
theorem q204_14 (C : am_Ct) (x1 : Int32) (μ : am_Mem) : am_ev C 204 14 [.ref 26, .int x1] [] μ = (am_bV (C 202 [.ref 26] μ) (fun m1 => am_ret (some (.int (am_c 1))) m1)) := am_blk (b := [(.aload_n 0, 1), (.invokevirtual 66, 3), (.iconst 1, 1), (.ireturn, 1)]) rfl rfl (rfl : am_z 204 = 2) _ _ _
theorem e204 (d : Nat) (x1 : Int32) (μ : am_Mem) : am_call (d + 1) 204 [.ref 26, .int x1] μ = am_ev (am_call d) 204 0 [.ref 26, .int x1] [] μ := rfl
/-! NoWordTwice$LawReader.put(I)V  -/
set_option maxRecDepth 50000 in
theorem q205_0 (C : am_Ct) (x1 : Int32) (μ : am_Mem) : am_ev C 205 0 [.ref 26, .int x1] [] μ = (if 400 ≤ (μ 26 4) then am_ev C 205 38 [.ref 26, .int x1] [] μ else am_gb (Nat.blt (am_ix (μ 26 4)) 400) (am_ev C 205 38 [.ref 26, .int x1] [] (am_up (am_up μ 34 (am_ix (μ 26 4)) x1) 26 4 (((am_up μ 34 (am_ix (μ 26 4)) x1) 26 4) + (am_c 1))))) := am_blk (b := [(.aload_n 0, 1), (.getfield 43, 3), (.aload_n 0, 1), (.getfield 21, 3), (.getfield 69, 3), (.arraylength, 1), (.if_icmp .ge 26, 3), (.aload_n 0, 1), (.getfield 21, 3), (.getfield 69, 3), (.aload_n 0, 1), (.getfield 43, 3), (.iload_n 1, 1), (.iastore, 1), (.aload_n 0, 1), (.dup, 1), (.getfield 43, 3), (.iconst 1, 1), (.iadd, 1), (.putfield 43, 3)]) rfl rfl (rfl : am_z 205 = 0) _ _ _
set_option maxRecDepth 50000 in
theorem q205_38 (C : am_Ct) (x1 : Int32) (μ : am_Mem) : am_ev C 205 38 [.ref 26, .int x1] [] μ = (am_ret none μ) := am_blk (b := [(.return_, 1)]) rfl rfl (rfl : am_z 205 = 0) _ _ _
theorem e205 (d : Nat) (x1 : Int32) (μ : am_Mem) : am_call (d + 1) 205 [.ref 26, .int x1] μ = am_ev (am_call d) 205 0 [.ref 26, .int x1] [] μ := rfl
/-! NoWordTwice$LawReader.readLine()Z  -/
set_option maxRecDepth 50000 in
theorem q206_0 (C : am_Ct) (μ : am_Mem) : am_ev C 206 0 [.ref 26] [] μ = (if (μ 26 3) = (am_c 3) then am_ev C 206 22 [.ref 26] [] μ else if (μ 26 3) = (am_c 4) then am_ev C 206 22 [.ref 26] [] μ else am_bI (C 203 [.ref 26, .int (am_c 1)] μ) (fun r1 m1 => am_gb (Nat.blt (am_ix r1) 2) (am_ret (some (.int r1)) m1))) := am_blk (b := [(.aload_n 0, 1), (.getfield 40, 3), (.iconst 3, 1), (.if_icmp .eq 17, 3), (.aload_n 0, 1), (.getfield 40, 3), (.iconst 4, 1), (.if_icmp .eq 9, 3), (.aload_n 0, 1), (.iconst 1, 1), (.invokevirtual 62, 3), (.ireturn, 1)]) rfl rfl (rfl : am_z 206 = 2) _ _ _
set_option maxRecDepth 50000 in
theorem q206_22 (C : am_Ct) (μ : am_Mem) : am_ev C 206 22 [.ref 26] [] μ = (if (μ 31 0) < (am_c 16) then am_ev C 206 40 [.ref 26] [] μ else am_bI (C 203 [.ref 26, .int (am_c 3)] μ) (fun r1 m1 => am_gb (Nat.blt (am_ix r1) 2) (am_ret (some (.int r1)) m1))) := am_blk (b := [(.aload_n 0, 1), (.getfield 21, 3), (.getfield 49, 3), (.bipush 16, 2), (.if_icmp .lt 9, 3), (.aload_n 0, 1), (.iconst 3, 1), (.invokevirtual 62, 3), (.ireturn, 1)]) rfl rfl (rfl : am_z 206 = 2) _ _ _
set_option maxRecDepth 50000 in
theorem q206_40 (C : am_Ct) (μ : am_Mem) : am_ev C 206 40 [.ref 26] [] μ = (if (μ 26 3) = (am_c 3) then am_ev C 206 67 [.ref 26] [.int (am_c 1), .int (μ 31 0), .ref 32] μ else am_ev C 206 66 [.ref 26] [.int (μ 31 0), .ref 32] μ) := am_blk (b := [(.aload_n 0, 1), (.getfield 21, 3), (.getfield 72, 3), (.aload_n 0, 1), (.getfield 21, 3), (.getfield 49, 3), (.aload_n 0, 1), (.getfield 40, 3), (.iconst 3, 1), (.if_icmp .ne 7, 3), (.iconst 1, 1), (.goto 4, 3)]) rfl rfl (rfl : am_z 206 = 2) _ _ _
set_option maxRecDepth 50000 in
theorem q206_66 (C : am_Ct) (s0 : Int32) (μ : am_Mem) : am_ev C 206 66 [.ref 26] [.int s0, .ref 32] μ = (am_ev C 206 67 [.ref 26] [.int (am_c 0), .int s0, .ref 32] μ) := am_blk (b := [(.iconst 0, 1)]) rfl rfl (rfl : am_z 206 = 2) _ _ _
set_option maxRecDepth 50000 in
theorem q206_67 (C : am_Ct) (s0 : Int32) (s1 : Int32) (μ : am_Mem) : am_ev C 206 67 [.ref 26] [.int s0, .int s1, .ref 32] μ = (am_gb (Nat.blt (am_ix s1) 16) (am_gb (Nat.blt (am_ix ((am_up μ 32 (am_ix s1) s0) 31 0)) 17) (am_bV (C 202 [.ref 26] (am_up (am_up μ 32 (am_ix s1) s0) 33 (am_ix ((am_up μ 32 (am_ix s1) s0) 31 0)) ((am_up μ 32 (am_ix s1) s0) 26 4))) (fun m1 => if (m1 26 3) = (am_c 5) then am_bV (C 202 [.ref 26] m1) (fun m2 => am_bI (C 207 [.ref 26, .int (am_c 6), .int (am_c 0)] m2) (fun r3 m3 => if r3 = 0 then am_ret (some (.int (am_c 0))) m3 else am_ev C 206 115 [.ref 26] [] m3)) else am_ev C 206 115 [.ref 26] [] m1)))) := am_blk (b := [(.iastore, 1), (.aload_n 0, 1), (.getfield 21, 3), (.getfield 75, 3), (.aload_n 0, 1), (.getfield 21, 3), (.getfield 49, 3), (.aload_n 0, 1), (.getfield 43, 3), (.iastore, 1), (.aload_n 0, 1), (.invokevirtual 66, 3), (.aload_n 0, 1), (.getfield 40, 3), (.iconst 5, 1), (.if_icmp .ne 19, 3), (.aload_n 0, 1), (.invokevirtual 66, 3), (.aload_n 0, 1), (.bipush 6, 2), (.iconst 0, 1), (.invokevirtual 78, 3), (.ifCond .ne 5, 3), (.iconst 0, 1), (.ireturn, 1)]) rfl rfl (rfl : am_z 206 = 2) _ _ _
set_option maxRecDepth 50000 in
theorem q206_115 (C : am_Ct) (μ : am_Mem) : am_ev C 206 115 [.ref 26] [] μ = (am_gb (Nat.blt (am_ix ((am_up μ 31 0 ((μ 31 0) + (am_c 1))) 31 0)) 17) (am_bI (C 204 [.ref 26, .int (am_c 15)] (am_up (am_up μ 31 0 ((μ 31 0) + (am_c 1))) 33 (am_ix ((am_up μ 31 0 ((μ 31 0) + (am_c 1))) 31 0)) ((am_up μ 31 0 ((μ 31 0) + (am_c 1))) 26 4))) (fun r1 m1 => am_gb (Nat.blt (am_ix r1) 2) (am_ret (some (.int r1)) m1)))) := am_blk (b := [(.aload_n 0, 1), (.getfield 21, 3), (.dup, 1), (.getfield 49, 3), (.iconst 1, 1), (.iadd, 1), (.putfield 49, 3), (.aload_n 0, 1), (.getfield 21, 3), (.getfield 75, 3), (.aload_n 0, 1), (.getfield 21, 3), (.getfield 49, 3), (.aload_n 0, 1), (.getfield 43, 3), (.iastore, 1), (.aload_n 0, 1), (.bipush 15, 2), (.invokevirtual 82, 3), (.ireturn, 1)]) rfl rfl (rfl : am_z 206 = 2) _ _ _
theorem e206 (d : Nat) (μ : am_Mem) : am_call (d + 1) 206 [.ref 26] μ = am_ev (am_call d) 206 0 [.ref 26] [] μ := rfl
/-! NoWordTwice$LawReader.readJoined(II)Z  -/
set_option maxRecDepth 50000 in
theorem q207_0 (C : am_Ct) (x1 : Int32) (x2 : Int32) (x3 : Value) (x4 : Value) (μ : am_Mem) : am_ev C 207 0 [.ref 26, .int x1, .int x2, x3, x4] [] μ = (am_ev C 207 2 [.ref 26, .int x1, .int x2, .int (am_c 0), x4] [] μ) := am_blk (b := [(.iconst 0, 1), (.istore_n 3, 1)]) rfl rfl (rfl : am_z 207 = 2) _ _ _
set_option maxRecDepth 50000 in
theorem q207_2 (C : am_Ct) (x1 : Int32) (x2 : Int32) (x3 : Int32) (x4 : Value) (μ : am_Mem) : am_ev C 207 2 [.ref 26, .int x1, .int x2, .int x3, x4] [] μ = (if (am_c 400) ≤ x3 then am_ev C 207 72 [.ref 26, .int x1, .int x2, .int x3, x4] [] μ else if x1 = (am_c 6) then am_bI (C 207 [.ref 26, .int (am_c 7), .int x2] μ) (fun r1 m1 => am_ev C 207 30 [.ref 26, .int x1, .int x2, .int x3, x4] [.int r1] m1) else am_ev C 207 25 [.ref 26, .int x1, .int x2, .int x3, x4] [] μ) := am_blk (b := [(.iload_n 3, 1), (.sipush 400, 3), (.if_icmp .ge 66, 3), (.iload_n 1, 1), (.bipush 6, 2), (.if_icmp .ne 13, 3), (.aload_n 0, 1), (.bipush 7, 2), (.iload_n 2, 1), (.invokevirtual 78, 3), (.goto 8, 3)]) rfl rfl (rfl : am_z 207 = 2) _ _ _
set_option maxRecDepth 50000 in
theorem q207_25 (C : am_Ct) (x1 : Int32) (x2 : Int32) (x3 : Int32) (x4 : Value) (μ : am_Mem) : am_ev C 207 25 [.ref 26, .int x1, .int x2, .int x3, x4] [] μ = (am_bI (C 208 [.ref 26, .int x2] μ) (fun r1 m1 => am_ev C 207 30 [.ref 26, .int x1, .int x2, .int x3, x4] [.int r1] m1)) := am_blk (b := [(.aload_n 0, 1), (.iload_n 2, 1), (.invokevirtual 85, 3)]) rfl rfl (rfl : am_z 207 = 2) _ _ _
set_option maxRecDepth 50000 in
theorem q207_30 (C : am_Ct) (x1 : Int32) (x2 : Int32) (x3 : Int32) (x4 : Value) (s0 : Int32) (μ : am_Mem) : am_ev C 207 30 [.ref 26, .int x1, .int x2, .int x3, x4] [.int s0] μ = (if s0 = 0 then am_ret (some (.int (am_c 0))) μ else am_ev C 207 39 [.ref 26, .int x1, .int x2, .int x3, .int s0] [] μ) := am_blk (b := [(.istore 4, 2), (.iload 4, 2), (.ifCond .ne 5, 3), (.iconst 0, 1), (.ireturn, 1)]) rfl rfl (rfl : am_z 207 = 2) _ _ _
set_option maxRecDepth 50000 in
theorem q207_39 (C : am_Ct) (x1 : Int32) (x2 : Int32) (x3 : Int32) (x4 : Int32) (μ : am_Mem) : am_ev C 207 39 [.ref 26, .int x1, .int x2, .int x3, .int x4] [] μ = (if x3 ≤ 0 then am_ev C 207 52 [.ref 26, .int x1, .int x2, .int x3, .int x4] [] μ else am_bV (C 205 [.ref 26, .int ((am_c 10000) + x1)] μ) (fun m1 => am_ev C 207 52 [.ref 26, .int x1, .int x2, .int x3, .int x4] [] m1)) := am_blk (b := [(.iload_n 3, 1), (.ifCond .le 12, 3), (.aload_n 0, 1), (.sipush 10000, 3), (.iload_n 1, 1), (.iadd, 1), (.invokevirtual 88, 3)]) rfl rfl (rfl : am_z 207 = 2) _ _ _
set_option maxRecDepth 50000 in
theorem q207_52 (C : am_Ct) (x1 : Int32) (x2 : Int32) (x3 : Int32) (x4 : Int32) (μ : am_Mem) : am_ev C 207 52 [.ref 26, .int x1, .int x2, .int x3, .int x4] [] μ = (if (μ 26 3) = x1 then am_ev C 207 62 [.ref 26, .int x1, .int x2, .int x3, .int x4] [] μ else am_ret (some (.int (am_c 1))) μ) := am_blk (b := [(.aload_n 0, 1), (.getfield 40, 3), (.iload_n 1, 1), (.if_icmp .eq 5, 3), (.iconst 1, 1), (.ireturn, 1)]) rfl rfl (rfl : am_z 207 = 2) _ _ _
set_option maxRecDepth 50000 in
theorem q207_62 (C : am_Ct) (x1 : Int32) (x2 : Int32) (x3 : Int32) (x4 : Int32) (μ : am_Mem) : am_ev C 207 62 [.ref 26, .int x1, .int x2, .int x3, .int x4] [] μ = (am_bV (C 202 [.ref 26] μ) (fun m1 => am_ev C 207 2 [.ref 26, .int x1, .int x2, .int (x3 + (am_c 1)), .int x4] [] m1)) := am_blk (b := [(.aload_n 0, 1), (.invokevirtual 66, 3), (.iinc 3 1, 3), (.goto (-67), 3)]) rfl rfl (rfl : am_z 207 = 2) _ _ _
set_option maxRecDepth 50000 in
theorem q207_72 (C : am_Ct) (x1 : Int32) (x2 : Int32) (x3 : Int32) (x4 : Value) (μ : am_Mem) : am_ev C 207 72 [.ref 26, .int x1, .int x2, .int x3, x4] [] μ = (am_ret (some (.int (am_c 1))) μ) := am_blk (b := [(.iconst 1, 1), (.ireturn, 1)]) rfl rfl (rfl : am_z 207 = 2) _ _ _
theorem e207 (d : Nat) (x1 : Int32) (x2 : Int32) (μ : am_Mem) : am_call (d + 1) 207 [.ref 26, .int x1, .int x2] μ = am_ev (am_call d) 207 0 [.ref 26, .int x1, .int x2, .null, .null] [] μ := rfl
/-! NoWordTwice$LawReader.readCondition(I)Z  -/
set_option maxRecDepth 50000 in
theorem q208_0 (C : am_Ct) (x1 : Int32) (x2 : Value) (μ : am_Mem) : am_ev C 208 0 [.ref 26, .int x1, x2] [] μ = (if (μ 26 3) = (am_c 8) then am_ev C 208 23 [.ref 26, .int x1, x2] [] μ else if (μ 26 3) = (am_c 20) then am_ev C 208 23 [.ref 26, .int x1, x2] [] μ else am_bI (C 209 [.ref 26] μ) (fun r1 m1 => am_gb (Nat.blt (am_ix r1) 2) (am_ret (some (.int r1)) m1))) := am_blk (b := [(.aload_n 0, 1), (.getfield 40, 3), (.bipush 8, 2), (.if_icmp .eq 17, 3), (.aload_n 0, 1), (.getfield 40, 3), (.bipush 20, 2), (.if_icmp .eq 8, 3), (.aload_n 0, 1), (.invokevirtual 92, 3), (.ireturn, 1)]) rfl rfl (rfl : am_z 208 = 2) _ _ _
set_option maxRecDepth 50000 in
theorem q208_23 (C : am_Ct) (x1 : Int32) (x2 : Value) (μ : am_Mem) : am_ev C 208 23 [.ref 26, .int x1, x2] [] μ = (if x1 < (am_c 8) then am_ev C 208 35 [.ref 26, .int x1, x2] [] μ else am_bI (C 203 [.ref 26, .int (am_c 3)] μ) (fun r1 m1 => am_gb (Nat.blt (am_ix r1) 2) (am_ret (some (.int r1)) m1))) := am_blk (b := [(.iload_n 1, 1), (.bipush 8, 2), (.if_icmp .lt 9, 3), (.aload_n 0, 1), (.iconst 3, 1), (.invokevirtual 62, 3), (.ireturn, 1)]) rfl rfl (rfl : am_z 208 = 2) _ _ _
set_option maxRecDepth 50000 in
theorem q208_35 (C : am_Ct) (x1 : Int32) (x2 : Value) (μ : am_Mem) : am_ev C 208 35 [.ref 26, .int x1, x2] [] μ = (if (μ 26 3) = (am_c 8) then am_ev C 208 49 [.ref 26, .int x1, x2] [.int (am_c 1)] μ else am_ev C 208 48 [.ref 26, .int x1, x2] [] μ) := am_blk (b := [(.aload_n 0, 1), (.getfield 40, 3), (.bipush 8, 2), (.if_icmp .ne 7, 3), (.iconst 1, 1), (.goto 4, 3)]) rfl rfl (rfl : am_z 208 = 2) _ _ _
set_option maxRecDepth 50000 in
theorem q208_48 (C : am_Ct) (x1 : Int32) (x2 : Value) (μ : am_Mem) : am_ev C 208 48 [.ref 26, .int x1, x2] [] μ = (am_ev C 208 49 [.ref 26, .int x1, x2] [.int (am_c 0)] μ) := am_blk (b := [(.iconst 0, 1)]) rfl rfl (rfl : am_z 208 = 2) _ _ _
set_option maxRecDepth 50000 in
theorem q208_49 (C : am_Ct) (x1 : Int32) (x2 : Value) (s0 : Int32) (μ : am_Mem) : am_ev C 208 49 [.ref 26, .int x1, x2] [.int s0] μ = (am_bV (C 202 [.ref 26] μ) (fun m1 => if s0 = 0 then am_bI (C 207 [.ref 26, .int (am_c 6), .int (x1 + (am_c 1))] m1) (fun r2 m2 => if r2 = 0 then am_ev C 208 83 [.ref 26, .int x1, .int s0] [] m2 else am_bI (C 204 [.ref 26, .int (am_c 21)] m2) (fun r3 m3 => if r3 = 0 then am_ev C 208 83 [.ref 26, .int x1, .int s0] [] m3 else am_ev C 208 84 [.ref 26, .int x1, .int s0] [.int (am_c 1)] m3)) else am_ev C 208 85 [.ref 26, .int x1, .int s0] [] m1)) := am_blk (b := [(.istore_n 2, 1), (.aload_n 0, 1), (.invokevirtual 66, 3), (.iload_n 2, 1), (.ifCond .ne 30, 3), (.aload_n 0, 1), (.bipush 6, 2), (.iload_n 1, 1), (.iconst 1, 1), (.iadd, 1), (.invokevirtual 78, 3), (.ifCond .eq 16, 3), (.aload_n 0, 1), (.bipush 21, 2), (.invokevirtual 82, 3), (.ifCond .eq 7, 3), (.iconst 1, 1), (.goto 4, 3)]) rfl rfl (rfl : am_z 208 = 2) _ _ _
set_option maxRecDepth 50000 in
theorem q208_83 (C : am_Ct) (x1 : Int32) (x2 : Int32) (μ : am_Mem) : am_ev C 208 83 [.ref 26, .int x1, .int x2] [] μ = (am_ev C 208 84 [.ref 26, .int x1, .int x2] [.int (am_c 0)] μ) := am_blk (b := [(.iconst 0, 1)]) rfl rfl (rfl : am_z 208 = 2) _ _ _
set_option maxRecDepth 50000 in
theorem q208_84 (C : am_Ct) (x1 : Int32) (x2 : Int32) (s0 : Int32) (μ : am_Mem) : am_ev C 208 84 [.ref 26, .int x1, .int x2] [.int s0] μ = (am_gb (Nat.blt (am_ix s0) 2) (am_ret (some (.int s0)) μ)) := am_blk (b := [(.ireturn, 1)]) rfl rfl (rfl : am_z 208 = 2) _ _ _
set_option maxRecDepth 50000 in
theorem q208_85 (C : am_Ct) (x1 : Int32) (x2 : Int32) (μ : am_Mem) : am_ev C 208 85 [.ref 26, .int x1, .int x2] [] μ = (am_bI (C 208 [.ref 26, .int (x1 + (am_c 1))] μ) (fun r1 m1 => if r1 = 0 then am_ret (some (.int (am_c 0))) m1 else am_ev C 208 97 [.ref 26, .int x1, .int x2] [] m1)) := am_blk (b := [(.aload_n 0, 1), (.iload_n 1, 1), (.iconst 1, 1), (.iadd, 1), (.invokevirtual 85, 3), (.ifCond .ne 5, 3), (.iconst 0, 1), (.ireturn, 1)]) rfl rfl (rfl : am_z 208 = 2) _ _ _
set_option maxRecDepth 50000 in
theorem q208_97 (C : am_Ct) (x1 : Int32) (x2 : Int32) (μ : am_Mem) : am_ev C 208 97 [.ref 26, .int x1, .int x2] [] μ = (am_bV (C 205 [.ref 26, .int (am_c 10008)] μ) (fun m1 => am_ret (some (.int (am_c 1))) m1)) := am_blk (b := [(.aload_n 0, 1), (.sipush 10008, 3), (.invokevirtual 88, 3), (.iconst 1, 1), (.ireturn, 1)]) rfl rfl (rfl : am_z 208 = 2) _ _ _
theorem e208 (d : Nat) (x1 : Int32) (μ : am_Mem) : am_call (d + 1) 208 [.ref 26, .int x1] μ = am_ev (am_call d) 208 0 [.ref 26, .int x1, .null] [] μ := rfl
/-! NoWordTwice$LawReader.readComparison()Z  -/
set_option maxRecDepth 50000 in
theorem q209_0 (C : am_Ct) (x1 : Value) (μ : am_Mem) : am_ev C 209 0 [.ref 26, x1] [] μ = (am_bI (C 210 [.ref 26] μ) (fun r1 m1 => if r1 = 0 then am_ret (some (.int (am_c 0))) m1 else am_ev C 209 9 [.ref 26, x1] [] m1)) := am_blk (b := [(.aload_n 0, 1), (.invokevirtual 95, 3), (.ifCond .ne 5, 3), (.iconst 0, 1), (.ireturn, 1)]) rfl rfl (rfl : am_z 209 = 2) _ _ _
set_option maxRecDepth 50000 in
theorem q209_9 (C : am_Ct) (x1 : Value) (μ : am_Mem) : am_ev C 209 9 [.ref 26, x1] [] μ = (if (μ 26 3) = (am_c 22) then am_ev C 209 38 [.ref 26, .int (μ 26 3)] [] μ else if (μ 26 3) = (am_c 23) then am_ev C 209 38 [.ref 26, .int (μ 26 3)] [] μ else if (μ 26 3) = (am_c 24) then am_ev C 209 38 [.ref 26, .int (μ 26 3)] [] μ else am_bI (C 203 [.ref 26, .int (am_c 1)] μ) (fun r1 m1 => am_gb (Nat.blt (am_ix r1) 2) (am_ret (some (.int r1)) m1))) := am_blk (b := [(.aload_n 0, 1), (.getfield 40, 3), (.istore_n 1, 1), (.iload_n 1, 1), (.bipush 22, 2), (.if_icmp .eq 21, 3), (.iload_n 1, 1), (.bipush 23, 2), (.if_icmp .eq 15, 3), (.iload_n 1, 1), (.bipush 24, 2), (.if_icmp .eq 9, 3), (.aload_n 0, 1), (.iconst 1, 1), (.invokevirtual 62, 3), (.ireturn, 1)]) rfl rfl (rfl : am_z 209 = 2) _ _ _
set_option maxRecDepth 50000 in
theorem q209_38 (C : am_Ct) (x1 : Int32) (μ : am_Mem) : am_ev C 209 38 [.ref 26, .int x1] [] μ = (am_bV (C 202 [.ref 26] μ) (fun m1 => am_bI (C 210 [.ref 26] m1) (fun r2 m2 => if r2 = 0 then am_ret (some (.int (am_c 0))) m2 else am_ev C 209 51 [.ref 26, .int x1] [] m2))) := am_blk (b := [(.aload_n 0, 1), (.invokevirtual 66, 3), (.aload_n 0, 1), (.invokevirtual 95, 3), (.ifCond .ne 5, 3), (.iconst 0, 1), (.ireturn, 1)]) rfl rfl (rfl : am_z 209 = 2) _ _ _
set_option maxRecDepth 50000 in
theorem q209_51 (C : am_Ct) (x1 : Int32) (μ : am_Mem) : am_ev C 209 51 [.ref 26, .int x1] [] μ = (am_bV (C 205 [.ref 26, .int ((am_c 10000) + x1)] μ) (fun m1 => am_ret (some (.int (am_c 1))) m1)) := am_blk (b := [(.aload_n 0, 1), (.sipush 10000, 3), (.iload_n 1, 1), (.iadd, 1), (.invokevirtual 88, 3), (.iconst 1, 1), (.ireturn, 1)]) rfl rfl (rfl : am_z 209 = 2) _ _ _
theorem e209 (d : Nat) (μ : am_Mem) : am_call (d + 1) 209 [.ref 26] μ = am_ev (am_call d) 209 0 [.ref 26, .null] [] μ := rfl
/-! NoWordTwice$LawReader.readSum()Z  -/
set_option maxRecDepth 50000 in
theorem q210_0 (C : am_Ct) (x1 : Value) (x2 : Value) (x3 : Value) (μ : am_Mem) : am_ev C 210 0 [.ref 26, x1, x2, x3] [] μ = (am_ev C 210 6 [.ref 26, .int (am_c 0), .int (am_c 0), .int (am_c 0)] [] μ) := am_blk (b := [(.iconst 0, 1), (.istore_n 1, 1), (.iconst 0, 1), (.istore_n 2, 1), (.iconst 0, 1), (.istore_n 3, 1)]) rfl rfl (rfl : am_z 210 = 2) _ _ _
set_option maxRecDepth 50000 in
theorem q210_6 (C : am_Ct) (x1 : Int32) (x2 : Int32) (x3 : Int32) (μ : am_Mem) : am_ev C 210 6 [.ref 26, .int x1, .int x2, .int x3] [] μ = (if (am_c 400) ≤ x3 then am_ev C 210 115 [.ref 26, .int x1, .int x2, .int x3] [] μ else am_bI (C 211 [.ref 26, .int x2] μ) (fun r1 m1 => if r1 = 0 then am_ret (some (.int (am_c 0))) m1 else am_ev C 210 23 [.ref 26, .int x1, .int x2, .int x3] [] m1)) := am_blk (b := [(.iload_n 3, 1), (.sipush 400, 3), (.if_icmp .ge 105, 3), (.aload_n 0, 1), (.iload_n 2, 1), (.invokevirtual 98, 3), (.ifCond .ne 5, 3), (.iconst 0, 1), (.ireturn, 1)]) rfl rfl (rfl : am_z 210 = 2) _ _ _
set_option maxRecDepth 50000 in
theorem q210_23 (C : am_Ct) (x1 : Int32) (x2 : Int32) (x3 : Int32) (μ : am_Mem) : am_ev C 210 23 [.ref 26, .int x1, .int x2, .int x3] [] μ = (if x2 = 0 then am_ev C 210 36 [.ref 26, .int x1, .int x2, .int x3] [] μ else am_bV (C 205 [.ref 26, .int ((am_c 10000) + x2)] μ) (fun m1 => am_ev C 210 36 [.ref 26, .int x1, .int x2, .int x3] [] m1)) := am_blk (b := [(.iload_n 2, 1), (.ifCond .eq 12, 3), (.aload_n 0, 1), (.sipush 10000, 3), (.iload_n 2, 1), (.iadd, 1), (.invokevirtual 88, 3)]) rfl rfl (rfl : am_z 210 = 2) _ _ _
set_option maxRecDepth 50000 in
theorem q210_36 (C : am_Ct) (x1 : Int32) (x2 : Int32) (x3 : Int32) (μ : am_Mem) : am_ev C 210 36 [.ref 26, .int x1, .int x2, .int x3] [] μ = (if (μ 26 3) = (am_c 18) then am_ev C 210 54 [.ref 26, .int x1, .int x2, .int x3] [] μ else if (μ 26 3) = (am_c 19) then am_ev C 210 54 [.ref 26, .int x1, .int x2, .int x3] [] μ else am_ev C 210 61 [.ref 26, .int x1, .int x2, .int x3] [] μ) := am_blk (b := [(.aload_n 0, 1), (.getfield 40, 3), (.bipush 18, 2), (.if_icmp .eq 12, 3), (.aload_n 0, 1), (.getfield 40, 3), (.bipush 19, 2), (.if_icmp .ne 10, 3)]) rfl rfl (rfl : am_z 210 = 2) _ _ _
set_option maxRecDepth 50000 in
theorem q210_54 (C : am_Ct) (x1 : Int32) (x2 : Int32) (x3 : Int32) (μ : am_Mem) : am_ev C 210 54 [.ref 26, .int x1, .int x2, .int x3] [] μ = (am_ev C 210 62 [.ref 26, .int x1, .int x2, .int x3] [.int (μ 26 3)] μ) := am_blk (b := [(.aload_n 0, 1), (.getfield 40, 3), (.goto 4, 3)]) rfl rfl (rfl : am_z 210 = 2) _ _ _
set_option maxRecDepth 50000 in
theorem q210_61 (C : am_Ct) (x1 : Int32) (x2 : Int32) (x3 : Int32) (μ : am_Mem) : am_ev C 210 61 [.ref 26, .int x1, .int x2, .int x3] [] μ = (am_ev C 210 62 [.ref 26, .int x1, .int x2, .int x3] [.int (am_c 0)] μ) := am_blk (b := [(.iconst 0, 1)]) rfl rfl (rfl : am_z 210 = 2) _ _ _
set_option maxRecDepth 50000 in
theorem q210_62 (C : am_Ct) (x1 : Int32) (x2 : Int32) (x3 : Int32) (s0 : Int32) (μ : am_Mem) : am_ev C 210 62 [.ref 26, .int x1, .int x2, .int x3] [.int s0] μ = (if s0 = 0 then if x1 = 0 then am_ev C 210 80 [.ref 26, .int x1, .int s0, .int x3] [] μ else am_bV (C 205 [.ref 26, .int ((am_c 10000) + x1)] μ) (fun m1 => am_ev C 210 80 [.ref 26, .int x1, .int s0, .int x3] [] m1) else am_ev C 210 105 [.ref 26, .int x1, .int s0, .int x3] [] μ) := am_blk (b := [(.istore_n 2, 1), (.iload_n 2, 1), (.ifCond .ne 41, 3), (.iload_n 1, 1), (.ifCond .eq 12, 3), (.aload_n 0, 1), (.sipush 10000, 3), (.iload_n 1, 1), (.iadd, 1), (.invokevirtual 88, 3)]) rfl rfl (rfl : am_z 210 = 2) _ _ _
set_option maxRecDepth 50000 in
theorem q210_80 (C : am_Ct) (x1 : Int32) (x2 : Int32) (x3 : Int32) (μ : am_Mem) : am_ev C 210 80 [.ref 26, .int x1, .int x2, .int x3] [] μ = (if (μ 26 3) = (am_c 16) then am_ev C 210 100 [.ref 26, .int x1, .int x2, .int x3] [] μ else if (μ 26 3) = (am_c 17) then am_ev C 210 100 [.ref 26, .int x1, .int x2, .int x3] [] μ else am_ret (some (.int (am_c 1))) μ) := am_blk (b := [(.aload_n 0, 1), (.getfield 40, 3), (.bipush 16, 2), (.if_icmp .eq 14, 3), (.aload_n 0, 1), (.getfield 40, 3), (.bipush 17, 2), (.if_icmp .eq 5, 3), (.iconst 1, 1), (.ireturn, 1)]) rfl rfl (rfl : am_z 210 = 2) _ _ _
set_option maxRecDepth 50000 in
theorem q210_100 (C : am_Ct) (x1 : Int32) (x2 : Int32) (x3 : Int32) (μ : am_Mem) : am_ev C 210 100 [.ref 26, .int x1, .int x2, .int x3] [] μ = (am_ev C 210 105 [.ref 26, .int (μ 26 3), .int x2, .int x3] [] μ) := am_blk (b := [(.aload_n 0, 1), (.getfield 40, 3), (.istore_n 1, 1)]) rfl rfl (rfl : am_z 210 = 2) _ _ _
set_option maxRecDepth 50000 in
theorem q210_105 (C : am_Ct) (x1 : Int32) (x2 : Int32) (x3 : Int32) (μ : am_Mem) : am_ev C 210 105 [.ref 26, .int x1, .int x2, .int x3] [] μ = (am_bV (C 202 [.ref 26] μ) (fun m1 => am_ev C 210 6 [.ref 26, .int x1, .int x2, .int (x3 + (am_c 1))] [] m1)) := am_blk (b := [(.aload_n 0, 1), (.invokevirtual 66, 3), (.iinc 3 1, 3), (.goto (-106), 3)]) rfl rfl (rfl : am_z 210 = 2) _ _ _
set_option maxRecDepth 50000 in
theorem q210_115 (C : am_Ct) (x1 : Int32) (x2 : Int32) (x3 : Int32) (μ : am_Mem) : am_ev C 210 115 [.ref 26, .int x1, .int x2, .int x3] [] μ = (am_ret (some (.int (am_c 1))) μ) := am_blk (b := [(.iconst 1, 1), (.ireturn, 1)]) rfl rfl (rfl : am_z 210 = 2) _ _ _
theorem e210 (d : Nat) (μ : am_Mem) : am_call (d + 1) 210 [.ref 26] μ = am_ev (am_call d) 210 0 [.ref 26, .null, .null, .null] [] μ := rfl
/-! NoWordTwice$LawReader.readUnit(I)Z  -/
set_option maxRecDepth 50000 in
theorem q211_0 (C : am_Ct) (x1 : Int32) (x2 : Value) (μ : am_Mem) : am_ev C 211 0 [.ref 26, .int x1, x2] [] μ = (if (μ 26 3) = (am_c 2) then am_gb (Nat.blt (am_ix (μ 26 2)) 401) (if x1 = (am_c 19) then if (μ 30 (am_ix (μ 26 2))) = 0 then am_bI (C 203 [.ref 26, .int (am_c 2)] μ) (fun r1 m1 => am_gb (Nat.blt (am_ix r1) 2) (am_ret (some (.int r1)) m1)) else am_ev C 211 37 [.ref 26, .int x1, .int (μ 30 (am_ix (μ 26 2)))] [] μ else am_ev C 211 37 [.ref 26, .int x1, .int (μ 30 (am_ix (μ 26 2)))] [] μ) else am_ev C 211 45 [.ref 26, .int x1, x2] [] μ) := am_blk (b := [(.aload_n 0, 1), (.getfield 40, 3), (.iconst 2, 1), (.if_icmp .ne 40, 3), (.aload_n 0, 1), (.getfield 12, 3), (.getfield 101, 3), (.aload_n 0, 1), (.getfield 33, 3), (.iaload, 1), (.istore_n 2, 1), (.iload_n 1, 1), (.bipush 19, 2), (.if_icmp .ne 13, 3), (.iload_n 2, 1), (.ifCond .ne 9, 3), (.aload_n 0, 1), (.iconst 2, 1), (.invokevirtual 62, 3), (.ireturn, 1)]) rfl rfl (rfl : am_z 211 = 2) _ _ _
set_option maxRecDepth 50000 in
theorem q211_37 (C : am_Ct) (x1 : Int32) (x2 : Int32) (μ : am_Mem) : am_ev C 211 37 [.ref 26, .int x1, .int x2] [] μ = (am_bV (C 205 [.ref 26, .int x2] μ) (fun m1 => am_ev C 211 90 [.ref 26, .int x1, .int x2] [] m1)) := am_blk (b := [(.aload_n 0, 1), (.iload_n 2, 1), (.invokevirtual 88, 3), (.goto 48, 3)]) rfl rfl (rfl : am_z 211 = 2) _ _ _
set_option maxRecDepth 50000 in
theorem q211_45 (C : am_Ct) (x1 : Int32) (x2 : Value) (μ : am_Mem) : am_ev C 211 45 [.ref 26, .int x1, x2] [] μ = (if x1 = (am_c 19) then am_ev C 211 84 [.ref 26, .int x1, x2] [] μ else if (μ 26 3) < (am_c 9) then am_ev C 211 84 [.ref 26, .int x1, x2] [] μ else if (am_c 14) < (μ 26 3) then am_ev C 211 84 [.ref 26, .int x1, x2] [] μ else am_bV (C 205 [.ref 26, .int ((am_c 10000) + (μ 26 3))] μ) (fun m1 => am_ev C 211 90 [.ref 26, .int x1, x2] [] m1)) := am_blk (b := [(.iload_n 1, 1), (.bipush 19, 2), (.if_icmp .eq 36, 3), (.aload_n 0, 1), (.getfield 40, 3), (.bipush 9, 2), (.if_icmp .lt 27, 3), (.aload_n 0, 1), (.getfield 40, 3), (.bipush 14, 2), (.if_icmp .gt 18, 3), (.aload_n 0, 1), (.sipush 10000, 3), (.aload_n 0, 1), (.getfield 40, 3), (.iadd, 1), (.invokevirtual 88, 3), (.goto 9, 3)]) rfl rfl (rfl : am_z 211 = 2) _ _ _
set_option maxRecDepth 50000 in
theorem q211_84 (C : am_Ct) (x1 : Int32) (x2 : Value) (μ : am_Mem) : am_ev C 211 84 [.ref 26, .int x1, x2] [] μ = (am_bI (C 203 [.ref 26, .int (am_c 1)] μ) (fun r1 m1 => am_gb (Nat.blt (am_ix r1) 2) (am_ret (some (.int r1)) m1))) := am_blk (b := [(.aload_n 0, 1), (.iconst 1, 1), (.invokevirtual 62, 3), (.ireturn, 1)]) rfl rfl (rfl : am_z 211 = 2) _ _ _
set_option maxRecDepth 50000 in
theorem q211_90 (C : am_Ct) (x1 : Int32) (x2 : Value) (μ : am_Mem) : am_ev C 211 90 [.ref 26, .int x1, x2] [] μ = (am_bV (C 202 [.ref 26] μ) (fun m1 => am_ret (some (.int (am_c 1))) m1)) := am_blk (b := [(.aload_n 0, 1), (.invokevirtual 66, 3), (.iconst 1, 1), (.ireturn, 1)]) rfl rfl (rfl : am_z 211 = 2) _ _ _
theorem e211 (d : Nat) (x1 : Int32) (μ : am_Mem) : am_call (d + 1) 211 [.ref 26, .int x1] μ = am_ev (am_call d) 211 0 [.ref 26, .int x1, .null] [] μ := rfl
/-! NoWordTwice$Past.forget()V  -/
set_option maxRecDepth 50000 in
theorem q401_0 (C : am_Ct) (μ : am_Mem) : am_ev C 401 0 [.ref 37] [] μ = (am_ret none (am_up μ 37 4 (am_c 0))) := am_blk (b := [(.aload_n 0, 1), (.iconst 0, 1), (.putfield 21, 3), (.return_, 1)]) rfl rfl (rfl : am_z 401 = 0) _ _ _
theorem e401 (d : Nat) (μ : am_Mem) : am_call (d + 1) 401 [.ref 37] μ = am_ev (am_call d) 401 0 [.ref 37] [] μ := rfl
/-! NoWordTwice$Past.keep(LNoWordTwice$Told;)V  -/
set_option maxRecDepth 50000 in
theorem q402_0 (C : am_Ct) (μ : am_Mem) : am_ev C 402 0 [.ref 37, .ref 1] [] μ = (if (am_c 6) ≤ ((μ 37 3) + (am_c 1)) then am_ev C 402 21 [.ref 37, .ref 1] [.ref 37] μ else am_ev C 402 22 [.ref 37, .ref 1] [.int ((μ 37 3) + (am_c 1)), .ref 37] μ) := am_blk (b := [(.aload_n 0, 1), (.aload_n 0, 1), (.getfield 25, 3), (.iconst 1, 1), (.iadd, 1), (.bipush 6, 2), (.if_icmp .ge 12, 3), (.aload_n 0, 1), (.getfield 25, 3), (.iconst 1, 1), (.iadd, 1), (.goto 4, 3)]) rfl rfl (rfl : am_z 402 = 0) _ _ _
set_option maxRecDepth 50000 in
theorem q402_21 (C : am_Ct) (μ : am_Mem) : am_ev C 402 21 [.ref 37, .ref 1] [.ref 37] μ = (am_ev C 402 22 [.ref 37, .ref 1] [.int (am_c 0), .ref 37] μ) := am_blk (b := [(.iconst 0, 1)]) rfl rfl (rfl : am_z 402 = 0) _ _ _
set_option maxRecDepth 50000 in
theorem q402_22 (C : am_Ct) (s0 : Int32) (μ : am_Mem) : am_ev C 402 22 [.ref 37, .ref 1] [.int s0, .ref 37] μ = (if (am_c 6) ≤ ((am_up μ 37 3 s0) 37 4) then am_ev C 402 44 [.ref 37, .ref 1] [] (am_up μ 37 3 s0) else am_ev C 402 44 [.ref 37, .ref 1] [] (am_up (am_up μ 37 3 s0) 37 4 (((am_up μ 37 3 s0) 37 4) + (am_c 1)))) := am_blk (b := [(.putfield 25, 3), (.aload_n 0, 1), (.getfield 21, 3), (.bipush 6, 2), (.if_icmp .ge 13, 3), (.aload_n 0, 1), (.dup, 1), (.getfield 21, 3), (.iconst 1, 1), (.iadd, 1), (.putfield 21, 3)]) rfl rfl (rfl : am_z 402 = 0) _ _ _
set_option maxRecDepth 50000 in
theorem q402_44 (C : am_Ct) (μ : am_Mem) : am_ev C 402 44 [.ref 37, .ref 1] [] μ = (am_gb (Nat.blt (am_ix (μ 37 3)) 6) (am_gb (Nat.blt (am_ix ((am_up μ 38 (am_ix (μ 37 3)) (μ 1 0)) 37 3)) 6) (am_bV (C 2004 [.ref 5, .int (am_c 0), .ref 40, .int (((am_up (am_up μ 38 (am_ix (μ 37 3)) (μ 1 0)) 39 (am_ix ((am_up μ 38 (am_ix (μ 37 3)) (μ 1 0)) 37 3)) ((am_up μ 38 (am_ix (μ 37 3)) (μ 1 0)) 1 11)) 37 3) * 36), .int 36] (am_up (am_up μ 38 (am_ix (μ 37 3)) (μ 1 0)) 39 (am_ix ((am_up μ 38 (am_ix (μ 37 3)) (μ 1 0)) 37 3)) ((am_up μ 38 (am_ix (μ 37 3)) (μ 1 0)) 1 11))) (fun m1 => am_ret none m1)))) := am_blk (b := [(.aload_n 0, 1), (.getfield 9, 3), (.aload_n 0, 1), (.getfield 25, 3), (.aload_n 1, 1), (.getfield 28, 3), (.iastore, 1), (.aload_n 0, 1), (.getfield 15, 3), (.aload_n 0, 1), (.getfield 25, 3), (.aload_n 1, 1), (.getfield 33, 3), (.iastore, 1), (.aload_n 1, 1), (.getfield 35, 3), (.iconst 0, 1), (.aload_n 0, 1), (.getfield 18, 3), (.aload_n 0, 1), (.getfield 25, 3), (.aload_n 1, 1), (.getfield 35, 3), (.arraylength, 1), (.imul, 1), (.aload_n 1, 1), (.getfield 35, 3), (.arraylength, 1), (.invokestatic 36, 3), (.return_, 1)]) rfl rfl (rfl : am_z 402 = 0) _ _ _
theorem e402 (d : Nat) (μ : am_Mem) : am_call (d + 1) 402 [.ref 37, .ref 1] μ = am_ev (am_call d) 402 0 [.ref 37, .ref 1] [] μ := rfl
/-! NoWordTwice$Past.bringBack(LNoWordTwice$Told;)V  -/
set_option maxRecDepth 50000 in
theorem q403_0 (C : am_Ct) (μ : am_Mem) : am_ev C 403 0 [.ref 37, .ref 1] [] μ = (am_gb (Nat.blt (am_ix (μ 37 3)) 6) (am_gb (Nat.blt (am_ix ((am_up μ 1 0 (μ 38 (am_ix (μ 37 3)))) 37 3)) 6) (am_bV (C 2004 [.ref 40, .int (((am_up (am_up μ 1 0 (μ 38 (am_ix (μ 37 3)))) 1 11 ((am_up μ 1 0 (μ 38 (am_ix (μ 37 3)))) 39 (am_ix ((am_up μ 1 0 (μ 38 (am_ix (μ 37 3)))) 37 3)))) 37 3) * 36), .ref 5, .int (am_c 0), .int 36] (am_up (am_up μ 1 0 (μ 38 (am_ix (μ 37 3)))) 1 11 ((am_up μ 1 0 (μ 38 (am_ix (μ 37 3)))) 39 (am_ix ((am_up μ 1 0 (μ 38 (am_ix (μ 37 3)))) 37 3))))) (fun m1 => if ((am_up m1 1 3 ((m1 1 3) - (am_c 1))) 37 3) ≤ 0 then am_ev C 403 80 [.ref 37, .ref 1] [.ref 37] (am_up m1 1 3 ((m1 1 3) - (am_c 1))) else am_ev C 403 81 [.ref 37, .ref 1] [.int (((am_up m1 1 3 ((m1 1 3) - (am_c 1))) 37 3) - (am_c 1)), .ref 37] (am_up m1 1 3 ((m1 1 3) - (am_c 1))))))) := am_blk (b := [(.aload_n 1, 1), (.aload_n 0, 1), (.getfield 9, 3), (.aload_n 0, 1), (.getfield 25, 3), (.iaload, 1), (.putfield 28, 3), (.aload_n 1, 1), (.aload_n 0, 1), (.getfield 15, 3), (.aload_n 0, 1), (.getfield 25, 3), (.iaload, 1), (.putfield 33, 3), (.aload_n 0, 1), (.getfield 18, 3), (.aload_n 0, 1), (.getfield 25, 3), (.aload_n 1, 1), (.getfield 35, 3), (.arraylength, 1), (.imul, 1), (.aload_n 1, 1), (.getfield 35, 3), (.iconst 0, 1), (.aload_n 1, 1), (.getfield 35, 3), (.arraylength, 1), (.invokestatic 36, 3), (.aload_n 1, 1), (.dup, 1), (.getfield 42, 3), (.iconst 1, 1), (.isub, 1), (.putfield 42, 3), (.aload_n 0, 1), (.aload_n 0, 1), (.getfield 25, 3), (.ifCond .le 12, 3), (.aload_n 0, 1), (.getfield 25, 3), (.iconst 1, 1), (.isub, 1), (.goto 4, 3)]) rfl rfl (rfl : am_z 403 = 0) _ _ _
set_option maxRecDepth 50000 in
theorem q403_80 (C : am_Ct) (μ : am_Mem) : am_ev C 403 80 [.ref 37, .ref 1] [.ref 37] μ = (am_ev C 403 81 [.ref 37, .ref 1] [.int (am_c 5), .ref 37] μ) := am_blk (b := [(.iconst 5, 1)]) rfl rfl (rfl : am_z 403 = 0) _ _ _
set_option maxRecDepth 50000 in
theorem q403_81 (C : am_Ct) (s0 : Int32) (μ : am_Mem) : am_ev C 403 81 [.ref 37, .ref 1] [.int s0, .ref 37] μ = (am_ret none (am_up (am_up μ 37 3 s0) 37 4 (((am_up μ 37 3 s0) 37 4) - (am_c 1)))) := am_blk (b := [(.putfield 25, 3), (.aload_n 0, 1), (.dup, 1), (.getfield 21, 3), (.iconst 1, 1), (.isub, 1), (.putfield 21, 3), (.return_, 1)]) rfl rfl (rfl : am_z 403 = 0) _ _ _
theorem e403 (d : Nat) (μ : am_Mem) : am_call (d + 1) 403 [.ref 37, .ref 1] μ = am_ev (am_call d) 403 0 [.ref 37, .ref 1] [] μ := rfl
/-! NoWordTwice$Tokens.split([BI)V  -/
set_option maxRecDepth 50000 in
theorem q601_0 (C : am_Ct) (x2 : Int32) (x3 : Value) (x4 : Value) (x5 : Value) (μ : am_Mem) : am_ev C 601 0 [.ref 27, .ref 25, .int x2, x3, x4, x5] [] μ = (am_ev C 601 10 [.ref 27, .ref 25, .int x2, .int (am_c 0), .int (am_c 0), x5] [] (am_up μ 27 3 (am_c 0))) := am_blk (b := [(.aload_n 0, 1), (.iconst 0, 1), (.putfield 21, 3), (.iconst 0, 1), (.istore_n 3, 1), (.iconst 0, 1), (.istore 4, 2)]) rfl rfl (rfl : am_z 601 = 0) _ _ _
set_option maxRecDepth 50000 in
theorem q601_10 (C : am_Ct) (x2 : Int32) (x3 : Int32) (x4 : Int32) (x5 : Value) (μ : am_Mem) : am_ev C 601 10 [.ref 27, .ref 25, .int x2, .int x3, .int x4, x5] [] μ = (if x2 ≤ x4 then am_ev C 601 90 [.ref 27, .ref 25, .int x2, .int x3, .int x4, x5] [] μ else if x2 ≤ x3 then am_ev C 601 90 [.ref 27, .ref 25, .int x2, .int x3, .int x4, x5] [] μ else am_bI (C 603 [.ref 25, .int x3, .int x2] μ) (fun r1 m1 => am_gb (Nat.blt (am_ix x3) 400) (am_bI (C 607 [.int (m1 25 (am_ix x3))] m1) (fun r2 m2 => if r2 = 0 then am_bI (C 604 [.ref 25, .int x3, .int r1] m2) (fun r3 m3 => am_bV (C 602 [.ref 27, .int r3, .int x3] m3) (fun m4 => am_gb (Nat.blt (am_ix x3) 400) (am_bI (C 609 [.int (m4 25 (am_ix x3))] m4) (fun r5 m5 => if r5 = 0 then am_ev C 601 79 [.ref 27, .ref 25, .int x2, .int x3, .int x4, .int r1] [.int ((m4 27 3) - (am_c 1)), .ref 30] m5 else am_bI (C 605 [.ref 25, .int x3, .int r1] m5) (fun r6 m6 => am_ev C 601 80 [.ref 27, .ref 25, .int x2, .int x3, .int x4, .int r1] [.int r6, .int ((m4 27 3) - (am_c 1)), .ref 30] m6))))) else am_ev C 601 81 [.ref 27, .ref 25, .int x2, .int x3, .int x4, .int r1] [] m2)))) := am_blk (b := [(.iload 4, 2), (.iload_n 2, 1), (.if_icmp .ge 77, 3), (.iload_n 3, 1), (.iload_n 2, 1), (.if_icmp .ge 72, 3), (.aload_n 1, 1), (.iload_n 3, 1), (.iload_n 2, 1), (.invokestatic 25, 3), (.istore 5, 2), (.aload_n 1, 1), (.iload_n 3, 1), (.baload, 1), (.invokestatic 29, 3), (.ifCond .ne 46, 3), (.aload_n 0, 1), (.aload_n 1, 1), (.iload_n 3, 1), (.iload 5, 2), (.invokestatic 33, 3), (.iload_n 3, 1), (.invokevirtual 36, 3), (.aload_n 0, 1), (.getfield 18, 3), (.aload_n 0, 1), (.getfield 21, 3), (.iconst 1, 1), (.isub, 1), (.aload_n 1, 1), (.iload_n 3, 1), (.baload, 1), (.invokestatic 40, 3), (.ifCond .eq 13, 3), (.aload_n 1, 1), (.iload_n 3, 1), (.iload 5, 2), (.invokestatic 43, 3), (.goto 4, 3)]) rfl rfl (rfl : am_z 601 = 0) _ _ _
set_option maxRecDepth 50000 in
theorem q601_79 (C : am_Ct) (x2 : Int32) (x3 : Int32) (x4 : Int32) (x5 : Int32) (s0 : Int32) (μ : am_Mem) : am_ev C 601 79 [.ref 27, .ref 25, .int x2, .int x3, .int x4, .int x5] [.int s0, .ref 30] μ = (am_ev C 601 80 [.ref 27, .ref 25, .int x2, .int x3, .int x4, .int x5] [.int (am_c 0), .int s0, .ref 30] μ) := am_blk (b := [(.iconst 0, 1)]) rfl rfl (rfl : am_z 601 = 0) _ _ _
set_option maxRecDepth 50000 in
theorem q601_80 (C : am_Ct) (x2 : Int32) (x3 : Int32) (x4 : Int32) (x5 : Int32) (s0 : Int32) (s1 : Int32) (μ : am_Mem) : am_ev C 601 80 [.ref 27, .ref 25, .int x2, .int x3, .int x4, .int x5] [.int s0, .int s1, .ref 30] μ = (am_gb (Nat.blt (am_ix s1) 401) (am_ev C 601 81 [.ref 27, .ref 25, .int x2, .int x3, .int x4, .int x5] [] (am_up μ 30 (am_ix s1) s0))) := am_blk (b := [(.iastore, 1)]) rfl rfl (rfl : am_z 601 = 0) _ _ _
set_option maxRecDepth 50000 in
theorem q601_81 (C : am_Ct) (x2 : Int32) (x3 : Int32) (x4 : Int32) (x5 : Int32) (μ : am_Mem) : am_ev C 601 81 [.ref 27, .ref 25, .int x2, .int x3, .int x4, .int x5] [] μ = (am_ev C 601 10 [.ref 27, .ref 25, .int x2, .int x5, .int (x4 + (am_c 1)), .int x5] [] μ) := am_blk (b := [(.iload 5, 2), (.istore_n 3, 1), (.iinc 4 1, 3), (.goto (-77), 3)]) rfl rfl (rfl : am_z 601 = 0) _ _ _
set_option maxRecDepth 50000 in
theorem q601_90 (C : am_Ct) (x2 : Int32) (x3 : Int32) (x4 : Int32) (x5 : Value) (μ : am_Mem) : am_ev C 601 90 [.ref 27, .ref 25, .int x2, .int x3, .int x4, x5] [] μ = (am_bV (C 602 [.ref 27, .int (am_c 0), .int x2] μ) (fun m1 => am_ret none m1)) := am_blk (b := [(.aload_n 0, 1), (.iconst 0, 1), (.iload_n 2, 1), (.invokevirtual 36, 3), (.return_, 1)]) rfl rfl (rfl : am_z 601 = 0) _ _ _
theorem e601 (d : Nat) (x2 : Int32) (μ : am_Mem) : am_call (d + 1) 601 [.ref 27, .ref 25, .int x2] μ = am_ev (am_call d) 601 0 [.ref 27, .ref 25, .int x2, .null, .null, .null] [] μ := rfl
/-! NoWordTwice$Tokens.add(II)V  -/
set_option maxRecDepth 50000 in
theorem q602_0 (C : am_Ct) (x1 : Int32) (x2 : Int32) (μ : am_Mem) : am_ev C 602 0 [.ref 27, .int x1, .int x2] [] μ = (am_gb (Nat.blt (am_ix (μ 27 3)) 401) (am_gb (Nat.blt (am_ix ((am_up μ 28 (am_ix (μ 27 3)) x1) 27 3)) 401) (am_ret none (am_up (am_up (am_up μ 28 (am_ix (μ 27 3)) x1) 29 (am_ix ((am_up μ 28 (am_ix (μ 27 3)) x1) 27 3)) x2) 27 3 (((am_up (am_up μ 28 (am_ix (μ 27 3)) x1) 29 (am_ix ((am_up μ 28 (am_ix (μ 27 3)) x1) 27 3)) x2) 27 3) + (am_c 1)))))) := am_blk (b := [(.aload_n 0, 1), (.getfield 9, 3), (.aload_n 0, 1), (.getfield 21, 3), (.iload_n 1, 1), (.iastore, 1), (.aload_n 0, 1), (.getfield 15, 3), (.aload_n 0, 1), (.getfield 21, 3), (.iload_n 2, 1), (.iastore, 1), (.aload_n 0, 1), (.dup, 1), (.getfield 21, 3), (.iconst 1, 1), (.iadd, 1), (.putfield 21, 3), (.return_, 1)]) rfl rfl (rfl : am_z 602 = 0) _ _ _
theorem e602 (d : Nat) (x1 : Int32) (x2 : Int32) (μ : am_Mem) : am_call (d + 1) 602 [.ref 27, .int x1, .int x2] μ = am_ev (am_call d) 602 0 [.ref 27, .int x1, .int x2] [] μ := rfl
/-! NoWordTwice$Tokens.endOfToken([BII)I  -/
set_option maxRecDepth 50000 in
theorem q603_0 (C : am_Ct) (x1 : Int32) (x2 : Int32) (x3 : Value) (μ : am_Mem) : am_ev C 603 0 [.ref 25, .int x1, .int x2, x3] [] μ = (am_gb (Nat.blt (am_ix x1) 400) (am_bI (C 608 [.int (μ 25 (am_ix x1))] μ) (fun r1 m1 => if r1 = 0 then am_ev C 603 33 [.ref 25, .int x1, .int x2, .int (x1 + (am_c 1))] [] m1 else am_ev C 603 13 [.ref 25, .int x1, .int x2, .int (x1 + (am_c 1))] [] m1))) := am_blk (b := [(.iload_n 1, 1), (.iconst 1, 1), (.iadd, 1), (.istore_n 3, 1), (.aload_n 0, 1), (.iload_n 1, 1), (.baload, 1), (.invokestatic 46, 3), (.ifCond .eq 23, 3)]) rfl rfl (rfl : am_z 603 = 0) _ _ _
set_option maxRecDepth 50000 in
theorem q603_13 (C : am_Ct) (x1 : Int32) (x2 : Int32) (x3 : Int32) (μ : am_Mem) : am_ev C 603 13 [.ref 25, .int x1, .int x2, .int x3] [] μ = (if x2 ≤ x3 then am_ev C 603 62 [.ref 25, .int x1, .int x2, .int x3] [] μ else am_gb (Nat.blt (am_ix x3) 400) (am_bI (C 608 [.int (μ 25 (am_ix x3))] μ) (fun r1 m1 => if r1 = 0 then am_ev C 603 62 [.ref 25, .int x1, .int x2, .int x3] [] m1 else am_ev C 603 13 [.ref 25, .int x1, .int x2, .int (x3 + (am_c 1))] [] m1))) := am_blk (b := [(.iload_n 3, 1), (.iload_n 2, 1), (.if_icmp .ge 47, 3), (.aload_n 0, 1), (.iload_n 3, 1), (.baload, 1), (.invokestatic 46, 3), (.ifCond .eq 38, 3), (.iinc 3 1, 3), (.goto (-17), 3)]) rfl rfl (rfl : am_z 603 = 0) _ _ _
set_option maxRecDepth 50000 in
theorem q603_33 (C : am_Ct) (x1 : Int32) (x2 : Int32) (x3 : Int32) (μ : am_Mem) : am_ev C 603 33 [.ref 25, .int x1, .int x2, .int x3] [] μ = (am_gb (Nat.blt (am_ix x1) 400) (am_bI (C 609 [.int (μ 25 (am_ix x1))] μ) (fun r1 m1 => if r1 = 0 then am_ev C 603 62 [.ref 25, .int x1, .int x2, .int x3] [] m1 else am_ev C 603 42 [.ref 25, .int x1, .int x2, .int x3] [] m1))) := am_blk (b := [(.aload_n 0, 1), (.iload_n 1, 1), (.baload, 1), (.invokestatic 40, 3), (.ifCond .eq 23, 3)]) rfl rfl (rfl : am_z 603 = 0) _ _ _
set_option maxRecDepth 50000 in
theorem q603_42 (C : am_Ct) (x1 : Int32) (x2 : Int32) (x3 : Int32) (μ : am_Mem) : am_ev C 603 42 [.ref 25, .int x1, .int x2, .int x3] [] μ = (if x2 ≤ x3 then am_ev C 603 62 [.ref 25, .int x1, .int x2, .int x3] [] μ else am_gb (Nat.blt (am_ix x3) 400) (am_bI (C 609 [.int (μ 25 (am_ix x3))] μ) (fun r1 m1 => if r1 = 0 then am_ev C 603 62 [.ref 25, .int x1, .int x2, .int x3] [] m1 else am_ev C 603 42 [.ref 25, .int x1, .int x2, .int (x3 + (am_c 1))] [] m1))) := am_blk (b := [(.iload_n 3, 1), (.iload_n 2, 1), (.if_icmp .ge 18, 3), (.aload_n 0, 1), (.iload_n 3, 1), (.baload, 1), (.invokestatic 40, 3), (.ifCond .eq 9, 3), (.iinc 3 1, 3), (.goto (-17), 3)]) rfl rfl (rfl : am_z 603 = 0) _ _ _
set_option maxRecDepth 50000 in
theorem q603_62 (C : am_Ct) (x1 : Int32) (x2 : Int32) (x3 : Int32) (μ : am_Mem) : am_ev C 603 62 [.ref 25, .int x1, .int x2, .int x3] [] μ = (am_ret (some (.int x3)) μ) := am_blk (b := [(.iload_n 3, 1), (.ireturn, 1)]) rfl rfl (rfl : am_z 603 = 0) _ _ _
theorem e603 (d : Nat) (x1 : Int32) (x2 : Int32) (μ : am_Mem) : am_call (d + 1) 603 [.ref 25, .int x1, .int x2] μ = am_ev (am_call d) 603 0 [.ref 25, .int x1, .int x2, .null] [] μ := rfl
/-! NoWordTwice$Tokens.kindOf([BII)I  -/
set_option maxRecDepth 50000 in
theorem q604_0 (C : am_Ct) (x1 : Int32) (x2 : Int32) (x3 : Value) (μ : am_Mem) : am_ev C 604 0 [.ref 25, .int x1, .int x2, x3] [] μ = (am_gb (Nat.blt (am_ix x1) 400) (am_bI (C 609 [.int (μ 25 (am_ix x1))] μ) (fun r1 m1 => if r1 = 0 then am_ev C 604 22 [.ref 25, .int x1, .int x2, x3] [] m1 else if (am_c 4) < (x2 - x1) then am_ev C 604 20 [.ref 25, .int x1, .int x2, x3] [] m1 else am_ev C 604 21 [.ref 25, .int x1, .int x2, x3] [.int (am_c 2)] m1))) := am_blk (b := [(.aload_n 0, 1), (.iload_n 1, 1), (.baload, 1), (.invokestatic 40, 3), (.ifCond .eq 16, 3), (.iload_n 2, 1), (.iload_n 1, 1), (.isub, 1), (.iconst 4, 1), (.if_icmp .gt 7, 3), (.iconst 2, 1), (.goto 4, 3)]) rfl rfl (rfl : am_z 604 = 0) _ _ _
set_option maxRecDepth 50000 in
theorem q604_20 (C : am_Ct) (x1 : Int32) (x2 : Int32) (x3 : Value) (μ : am_Mem) : am_ev C 604 20 [.ref 25, .int x1, .int x2, x3] [] μ = (am_ev C 604 21 [.ref 25, .int x1, .int x2, x3] [.int (am_c 1)] μ) := am_blk (b := [(.iconst 1, 1)]) rfl rfl (rfl : am_z 604 = 0) _ _ _
set_option maxRecDepth 50000 in
theorem q604_21 (C : am_Ct) (x1 : Int32) (x2 : Int32) (x3 : Value) (s0 : Int32) (μ : am_Mem) : am_ev C 604 21 [.ref 25, .int x1, .int x2, x3] [.int s0] μ = (am_ret (some (.int s0)) μ) := am_blk (b := [(.ireturn, 1)]) rfl rfl (rfl : am_z 604 = 0) _ _ _
set_option maxRecDepth 50000 in
theorem q604_22 (C : am_Ct) (x1 : Int32) (x2 : Int32) (x3 : Value) (μ : am_Mem) : am_ev C 604 22 [.ref 25, .int x1, .int x2, x3] [] μ = (am_gb (Nat.blt (am_ix x1) 400) (am_bI (C 608 [.int (μ 25 (am_ix x1))] μ) (fun r1 m1 => if r1 = 0 then am_gb (Nat.blt (am_ix x1) 400) (am_bI (C 611 [.int (m1 25 (am_ix x1))] m1) (fun r2 m2 => am_ret (some (.int r2)) m2)) else am_ev C 604 38 [.ref 25, .int x1, .int x2, x3] [] m1))) := am_blk (b := [(.aload_n 0, 1), (.iload_n 1, 1), (.baload, 1), (.invokestatic 46, 3), (.ifCond .ne 10, 3), (.aload_n 0, 1), (.iload_n 1, 1), (.baload, 1), (.invokestatic 49, 3), (.ireturn, 1)]) rfl rfl (rfl : am_z 604 = 0) _ _ _
set_option maxRecDepth 50000 in
theorem q604_38 (C : am_Ct) (x1 : Int32) (x2 : Int32) (x3 : Value) (μ : am_Mem) : am_ev C 604 38 [.ref 25, .int x1, .int x2, x3] [] μ = (am_ev C 604 40 [.ref 25, .int x1, .int x2, .int (am_c 3)] [] μ) := am_blk (b := [(.iconst 3, 1), (.istore_n 3, 1)]) rfl rfl (rfl : am_z 604 = 0) _ _ _
set_option maxRecDepth 50000 in
theorem q604_40 (C : am_Ct) (x1 : Int32) (x2 : Int32) (x3 : Int32) (μ : am_Mem) : am_ev C 604 40 [.ref 25, .int x1, .int x2, .int x3] [] μ = (if (am_c 14) < x3 then am_ev C 604 67 [.ref 25, .int x1, .int x2, .int x3] [] μ else am_bS (C 610 [.int x3] μ) (fun r1 m1 => am_bI (C 606 [.retAddr r1, .ref 25, .int x1, .int x2] m1) (fun r2 m2 => if r2 = 0 then am_ev C 604 61 [.ref 25, .int x1, .int x2, .int x3] [] m2 else am_ret (some (.int x3)) m2))) := am_blk (b := [(.iload_n 3, 1), (.bipush 14, 2), (.if_icmp .gt 24, 3), (.iload_n 3, 1), (.invokestatic 53, 3), (.aload_n 0, 1), (.iload_n 1, 1), (.iload_n 2, 1), (.invokestatic 57, 3), (.ifCond .eq 5, 3), (.iload_n 3, 1), (.ireturn, 1)]) rfl rfl (rfl : am_z 604 = 0) _ _ _
set_option maxRecDepth 50000 in
theorem q604_61 (C : am_Ct) (x1 : Int32) (x2 : Int32) (x3 : Int32) (μ : am_Mem) : am_ev C 604 61 [.ref 25, .int x1, .int x2, .int x3] [] μ = (am_ev C 604 40 [.ref 25, .int x1, .int x2, .int (x3 + (am_c 1))] [] μ) := am_blk (b := [(.iinc 3 1, 3), (.goto (-24), 3)]) rfl rfl (rfl : am_z 604 = 0) _ _ _
set_option maxRecDepth 50000 in
theorem q604_67 (C : am_Ct) (x1 : Int32) (x2 : Int32) (x3 : Int32) (μ : am_Mem) : am_ev C 604 67 [.ref 25, .int x1, .int x2, .int x3] [] μ = (am_ret (some (.int (am_c 1))) μ) := am_blk (b := [(.iconst 1, 1), (.ireturn, 1)]) rfl rfl (rfl : am_z 604 = 0) _ _ _
theorem e604 (d : Nat) (x1 : Int32) (x2 : Int32) (μ : am_Mem) : am_call (d + 1) 604 [.ref 25, .int x1, .int x2] μ = am_ev (am_call d) 604 0 [.ref 25, .int x1, .int x2, .null] [] μ := rfl
/-! NoWordTwice$Tokens.numberIn([BII)I  -/
set_option maxRecDepth 50000 in
theorem q605_0 (C : am_Ct) (x1 : Int32) (x2 : Int32) (x3 : Value) (x4 : Value) (μ : am_Mem) : am_ev C 605 0 [.ref 25, .int x1, .int x2, x3, x4] [] μ = (am_ev C 605 5 [.ref 25, .int x1, .int x2, .int (am_c 0), .int x1] [] μ) := am_blk (b := [(.iconst 0, 1), (.istore_n 3, 1), (.iload_n 1, 1), (.istore 4, 2)]) rfl rfl (rfl : am_z 605 = 0) _ _ _
set_option maxRecDepth 50000 in
theorem q605_5 (C : am_Ct) (x1 : Int32) (x2 : Int32) (x3 : Int32) (x4 : Int32) (μ : am_Mem) : am_ev C 605 5 [.ref 25, .int x1, .int x2, .int x3, .int x4] [] μ = (if x2 ≤ x4 then am_ev C 605 30 [.ref 25, .int x1, .int x2, .int x3, .int x4] [] μ else am_gb (Nat.blt (am_ix x4) 400) (am_ev C 605 5 [.ref 25, .int x1, .int x2, .int ((x3 * (am_c 10)) + ((μ 25 (am_ix x4)) - (am_c 48))), .int (x4 + (am_c 1))] [] μ)) := am_blk (b := [(.iload 4, 2), (.iload_n 2, 1), (.if_icmp .ge 22, 3), (.iload_n 3, 1), (.bipush 10, 2), (.imul, 1), (.aload_n 0, 1), (.iload 4, 2), (.baload, 1), (.bipush 48, 2), (.isub, 1), (.iadd, 1), (.istore_n 3, 1), (.iinc 4 1, 3), (.goto (-22), 3)]) rfl rfl (rfl : am_z 605 = 0) _ _ _
set_option maxRecDepth 50000 in
theorem q605_30 (C : am_Ct) (x1 : Int32) (x2 : Int32) (x3 : Int32) (x4 : Int32) (μ : am_Mem) : am_ev C 605 30 [.ref 25, .int x1, .int x2, .int x3, .int x4] [] μ = (am_ret (some (.int x3)) μ) := am_blk (b := [(.iload_n 3, 1), (.ireturn, 1)]) rfl rfl (rfl : am_z 605 = 0) _ _ _
theorem e605 (d : Nat) (x1 : Int32) (x2 : Int32) (μ : am_Mem) : am_call (d + 1) 605 [.ref 25, .int x1, .int x2] μ = am_ev (am_call d) 605 0 [.ref 25, .int x1, .int x2, .null, .null] [] μ := rfl
/-! NoWordTwice$Tokens.spells(Ljava/lang/String;[BII)Z  -/
set_option maxRecDepth 50000 in
theorem q606_0 (C : am_Ct) (x0 : Nat) (x2 : Int32) (x3 : Int32) (x4 : Value) (μ : am_Mem) : am_ev C 606 0 [.retAddr x0, .ref 25, .int x2, .int x3, x4] [] μ = (am_gb (Nat.blt x0 13) (am_bI (C 1400 [.retAddr x0] μ) (fun r1 m1 => if r1 = (x3 - x2) then am_ev C 606 12 [.retAddr x0, .ref 25, .int x2, .int x3, x4] [] m1 else am_ret (some (.int (am_c 0))) m1))) := am_blk (b := [(.aload_n 0, 1), (.invokevirtual 61, 3), (.iload_n 3, 1), (.iload_n 2, 1), (.isub, 1), (.if_icmp .eq 5, 3), (.iconst 0, 1), (.ireturn, 1)]) rfl rfl (rfl : am_z 606 = 2) _ _ _
set_option maxRecDepth 50000 in
theorem q606_12 (C : am_Ct) (x0 : Nat) (x2 : Int32) (x3 : Int32) (x4 : Value) (μ : am_Mem) : am_ev C 606 12 [.retAddr x0, .ref 25, .int x2, .int x3, x4] [] μ = (am_ev C 606 15 [.retAddr x0, .ref 25, .int x2, .int x3, .int (am_c 0)] [] μ) := am_blk (b := [(.iconst 0, 1), (.istore 4, 2)]) rfl rfl (rfl : am_z 606 = 2) _ _ _
set_option maxRecDepth 50000 in
theorem q606_15 (C : am_Ct) (x0 : Nat) (x2 : Int32) (x3 : Int32) (x4 : Int32) (μ : am_Mem) : am_ev C 606 15 [.retAddr x0, .ref 25, .int x2, .int x3, .int x4] [] μ = (am_gb (Nat.blt x0 13) (am_bI (C 1400 [.retAddr x0] μ) (fun r1 m1 => if r1 ≤ x4 then am_ev C 606 47 [.retAddr x0, .ref 25, .int x2, .int x3, .int x4] [] m1 else am_gb (Nat.blt x0 13) (am_bI (C 1401 [.retAddr x0, .int x4] m1) (fun r2 m2 => am_gb (Nat.blt (am_ix (x2 + x4)) 400) (if r2 = (m2 25 (am_ix (x2 + x4))) then am_ev C 606 41 [.retAddr x0, .ref 25, .int x2, .int x3, .int x4] [] m2 else am_ret (some (.int (am_c 0))) m2)))))) := am_blk (b := [(.iload 4, 2), (.aload_n 0, 1), (.invokevirtual 61, 3), (.if_icmp .ge 26, 3), (.aload_n 0, 1), (.iload 4, 2), (.invokevirtual 67, 3), (.aload_n 1, 1), (.iload_n 2, 1), (.iload 4, 2), (.iadd, 1), (.baload, 1), (.if_icmp .eq 5, 3), (.iconst 0, 1), (.ireturn, 1)]) rfl rfl (rfl : am_z 606 = 2) _ _ _
set_option maxRecDepth 50000 in
theorem q606_41 (C : am_Ct) (x0 : Nat) (x2 : Int32) (x3 : Int32) (x4 : Int32) (μ : am_Mem) : am_ev C 606 41 [.retAddr x0, .ref 25, .int x2, .int x3, .int x4] [] μ = (am_ev C 606 15 [.retAddr x0, .ref 25, .int x2, .int x3, .int (x4 + (am_c 1))] [] μ) := am_blk (b := [(.iinc 4 1, 3), (.goto (-29), 3)]) rfl rfl (rfl : am_z 606 = 2) _ _ _
set_option maxRecDepth 50000 in
theorem q606_47 (C : am_Ct) (x0 : Nat) (x2 : Int32) (x3 : Int32) (x4 : Int32) (μ : am_Mem) : am_ev C 606 47 [.retAddr x0, .ref 25, .int x2, .int x3, .int x4] [] μ = (am_ret (some (.int (am_c 1))) μ) := am_blk (b := [(.iconst 1, 1), (.ireturn, 1)]) rfl rfl (rfl : am_z 606 = 2) _ _ _
theorem e606 (d : Nat) (x0 : Nat) (x2 : Int32) (x3 : Int32) (μ : am_Mem) : am_call (d + 1) 606 [.retAddr x0, .ref 25, .int x2, .int x3] μ = am_ev (am_call d) 606 0 [.retAddr x0, .ref 25, .int x2, .int x3, .null] [] μ := rfl
/-! NoWordTwice$Tokens.isBlank(I)Z  -/
set_option maxRecDepth 50000 in
theorem q607_0 (C : am_Ct) (x0 : Int32) (μ : am_Mem) : am_ev C 607 0 [.int x0] [] μ = (if x0 = (am_c 32) then am_ev C 607 12 [.int x0] [] μ else if x0 = (am_c 10) then am_ev C 607 12 [.int x0] [] μ else am_ev C 607 16 [.int x0] [] μ) := am_blk (b := [(.iload_n 0, 1), (.bipush 32, 2), (.if_icmp .eq 9, 3), (.iload_n 0, 1), (.bipush 10, 2), (.if_icmp .ne 7, 3)]) rfl rfl (rfl : am_z 607 = 2) _ _ _
set_option maxRecDepth 50000 in
theorem q607_12 (C : am_Ct) (x0 : Int32) (μ : am_Mem) : am_ev C 607 12 [.int x0] [] μ = (am_ev C 607 17 [.int x0] [.int (am_c 1)] μ) := am_blk (b := [(.iconst 1, 1), (.goto 4, 3)]) rfl rfl (rfl : am_z 607 = 2) _ _ _
set_option maxRecDepth 50000 in
theorem q607_16 (C : am_Ct) (x0 : Int32) (μ : am_Mem) : am_ev C 607 16 [.int x0] [] μ = (am_ev C 607 17 [.int x0] [.int (am_c 0)] μ) := am_blk (b := [(.iconst 0, 1)]) rfl rfl (rfl : am_z 607 = 2) _ _ _
set_option maxRecDepth 50000 in
theorem q607_17 (C : am_Ct) (x0 : Int32) (s0 : Int32) (μ : am_Mem) : am_ev C 607 17 [.int x0] [.int s0] μ = (am_gb (Nat.blt (am_ix s0) 2) (am_ret (some (.int s0)) μ)) := am_blk (b := [(.ireturn, 1)]) rfl rfl (rfl : am_z 607 = 2) _ _ _
theorem e607 (d : Nat) (x0 : Int32) (μ : am_Mem) : am_call (d + 1) 607 [.int x0] μ = am_ev (am_call d) 607 0 [.int x0] [] μ := rfl
/-! NoWordTwice$Tokens.isLetter(I)Z  -/
set_option maxRecDepth 50000 in
theorem q608_0 (C : am_Ct) (x0 : Int32) (μ : am_Mem) : am_ev C 608 0 [.int x0] [] μ = (if x0 < (am_c 97) then am_ev C 608 12 [.int x0] [] μ else if x0 ≤ (am_c 122) then am_ev C 608 24 [.int x0] [] μ else am_ev C 608 12 [.int x0] [] μ) := am_blk (b := [(.iload_n 0, 1), (.bipush 97, 2), (.if_icmp .lt 9, 3), (.iload_n 0, 1), (.bipush 122, 2), (.if_icmp .le 15, 3)]) rfl rfl (rfl : am_z 608 = 2) _ _ _
set_option maxRecDepth 50000 in
theorem q608_12 (C : am_Ct) (x0 : Int32) (μ : am_Mem) : am_ev C 608 12 [.int x0] [] μ = (if x0 < (am_c 65) then am_ev C 608 28 [.int x0] [] μ else if (am_c 90) < x0 then am_ev C 608 28 [.int x0] [] μ else am_ev C 608 24 [.int x0] [] μ) := am_blk (b := [(.iload_n 0, 1), (.bipush 65, 2), (.if_icmp .lt 13, 3), (.iload_n 0, 1), (.bipush 90, 2), (.if_icmp .gt 7, 3)]) rfl rfl (rfl : am_z 608 = 2) _ _ _
set_option maxRecDepth 50000 in
theorem q608_24 (C : am_Ct) (x0 : Int32) (μ : am_Mem) : am_ev C 608 24 [.int x0] [] μ = (am_ev C 608 29 [.int x0] [.int (am_c 1)] μ) := am_blk (b := [(.iconst 1, 1), (.goto 4, 3)]) rfl rfl (rfl : am_z 608 = 2) _ _ _
set_option maxRecDepth 50000 in
theorem q608_28 (C : am_Ct) (x0 : Int32) (μ : am_Mem) : am_ev C 608 28 [.int x0] [] μ = (am_ev C 608 29 [.int x0] [.int (am_c 0)] μ) := am_blk (b := [(.iconst 0, 1)]) rfl rfl (rfl : am_z 608 = 2) _ _ _
set_option maxRecDepth 50000 in
theorem q608_29 (C : am_Ct) (x0 : Int32) (s0 : Int32) (μ : am_Mem) : am_ev C 608 29 [.int x0] [.int s0] μ = (am_gb (Nat.blt (am_ix s0) 2) (am_ret (some (.int s0)) μ)) := am_blk (b := [(.ireturn, 1)]) rfl rfl (rfl : am_z 608 = 2) _ _ _
theorem e608 (d : Nat) (x0 : Int32) (μ : am_Mem) : am_call (d + 1) 608 [.int x0] μ = am_ev (am_call d) 608 0 [.int x0] [] μ := rfl
/-! NoWordTwice$Tokens.isDigit(I)Z  -/
set_option maxRecDepth 50000 in
theorem q609_0 (C : am_Ct) (x0 : Int32) (μ : am_Mem) : am_ev C 609 0 [.int x0] [] μ = (if x0 < (am_c 48) then am_ev C 609 16 [.int x0] [] μ else if (am_c 57) < x0 then am_ev C 609 16 [.int x0] [] μ else am_ev C 609 17 [.int x0] [.int (am_c 1)] μ) := am_blk (b := [(.iload_n 0, 1), (.bipush 48, 2), (.if_icmp .lt 13, 3), (.iload_n 0, 1), (.bipush 57, 2), (.if_icmp .gt 7, 3), (.iconst 1, 1), (.goto 4, 3)]) rfl rfl (rfl : am_z 609 = 2) _ _ _
set_option maxRecDepth 50000 in
theorem q609_16 (C : am_Ct) (x0 : Int32) (μ : am_Mem) : am_ev C 609 16 [.int x0] [] μ = (am_ev C 609 17 [.int x0] [.int (am_c 0)] μ) := am_blk (b := [(.iconst 0, 1)]) rfl rfl (rfl : am_z 609 = 2) _ _ _
set_option maxRecDepth 50000 in
theorem q609_17 (C : am_Ct) (x0 : Int32) (s0 : Int32) (μ : am_Mem) : am_ev C 609 17 [.int x0] [.int s0] μ = (am_gb (Nat.blt (am_ix s0) 2) (am_ret (some (.int s0)) μ)) := am_blk (b := [(.ireturn, 1)]) rfl rfl (rfl : am_z 609 = 2) _ _ _
theorem e609 (d : Nat) (x0 : Int32) (μ : am_Mem) : am_call (d + 1) 609 [.int x0] μ = am_ev (am_call d) 609 0 [.int x0] [] μ := rfl
/-! NoWordTwice$Tokens.keyword(I)Ljava/lang/String;  -/
set_option maxRecDepth 50000 in
theorem q610_0 (C : am_Ct) (x0 : Int32) (μ : am_Mem) : am_ev C 610 0 [.int x0] [] μ = (if x0 = (am_c 3) then am_ev C 610 64 [.int x0] [] μ else if x0 = (am_c 4) then am_ev C 610 67 [.int x0] [] μ else if x0 = (am_c 5) then am_ev C 610 70 [.int x0] [] μ else if x0 = (am_c 6) then am_ev C 610 73 [.int x0] [] μ else if x0 = (am_c 7) then am_ev C 610 76 [.int x0] [] μ else if x0 = (am_c 8) then am_ev C 610 79 [.int x0] [] μ else if x0 = (am_c 9) then am_ev C 610 82 [.int x0] [] μ else if x0 = (am_c 10) then am_ev C 610 85 [.int x0] [] μ else if x0 = (am_c 11) then am_ev C 610 88 [.int x0] [] μ else if x0 = (am_c 12) then am_ev C 610 91 [.int x0] [] μ else if x0 = (am_c 13) then am_ev C 610 94 [.int x0] [] μ else if x0 = (am_c 14) then am_ev C 610 97 [.int x0] [] μ else am_ev C 610 100 [.int x0] [] μ) := am_blk (b := [(.iload_n 0, 1), (.tableswitch 99 3 14 #[63, 66, 69, 72, 75, 78, 81, 84, 87, 90, 93, 96], 63)]) rfl rfl (rfl : am_z 610 = 0) _ _ _
set_option maxRecDepth 50000 in
theorem q610_64 (C : am_Ct) (x0 : Int32) (μ : am_Mem) : am_ev C 610 64 [.int x0] [] μ = (am_ret (some (.retAddr 0)) μ) := am_blk (b := [(.ldc 71, 2), (.areturn, 1)]) rfl rfl (rfl : am_z 610 = 0) _ _ _
set_option maxRecDepth 50000 in
theorem q610_67 (C : am_Ct) (x0 : Int32) (μ : am_Mem) : am_ev C 610 67 [.int x0] [] μ = (am_ret (some (.retAddr 1)) μ) := am_blk (b := [(.ldc 73, 2), (.areturn, 1)]) rfl rfl (rfl : am_z 610 = 0) _ _ _
set_option maxRecDepth 50000 in
theorem q610_70 (C : am_Ct) (x0 : Int32) (μ : am_Mem) : am_ev C 610 70 [.int x0] [] μ = (am_ret (some (.retAddr 2)) μ) := am_blk (b := [(.ldc 75, 2), (.areturn, 1)]) rfl rfl (rfl : am_z 610 = 0) _ _ _
set_option maxRecDepth 50000 in
theorem q610_73 (C : am_Ct) (x0 : Int32) (μ : am_Mem) : am_ev C 610 73 [.int x0] [] μ = (am_ret (some (.retAddr 3)) μ) := am_blk (b := [(.ldc 77, 2), (.areturn, 1)]) rfl rfl (rfl : am_z 610 = 0) _ _ _
set_option maxRecDepth 50000 in
theorem q610_76 (C : am_Ct) (x0 : Int32) (μ : am_Mem) : am_ev C 610 76 [.int x0] [] μ = (am_ret (some (.retAddr 4)) μ) := am_blk (b := [(.ldc 79, 2), (.areturn, 1)]) rfl rfl (rfl : am_z 610 = 0) _ _ _
set_option maxRecDepth 50000 in
theorem q610_79 (C : am_Ct) (x0 : Int32) (μ : am_Mem) : am_ev C 610 79 [.int x0] [] μ = (am_ret (some (.retAddr 5)) μ) := am_blk (b := [(.ldc 81, 2), (.areturn, 1)]) rfl rfl (rfl : am_z 610 = 0) _ _ _
set_option maxRecDepth 50000 in
theorem q610_82 (C : am_Ct) (x0 : Int32) (μ : am_Mem) : am_ev C 610 82 [.int x0] [] μ = (am_ret (some (.retAddr 6)) μ) := am_blk (b := [(.ldc 83, 2), (.areturn, 1)]) rfl rfl (rfl : am_z 610 = 0) _ _ _
set_option maxRecDepth 50000 in
theorem q610_85 (C : am_Ct) (x0 : Int32) (μ : am_Mem) : am_ev C 610 85 [.int x0] [] μ = (am_ret (some (.retAddr 7)) μ) := am_blk (b := [(.ldc 85, 2), (.areturn, 1)]) rfl rfl (rfl : am_z 610 = 0) _ _ _
set_option maxRecDepth 50000 in
theorem q610_88 (C : am_Ct) (x0 : Int32) (μ : am_Mem) : am_ev C 610 88 [.int x0] [] μ = (am_ret (some (.retAddr 8)) μ) := am_blk (b := [(.ldc 87, 2), (.areturn, 1)]) rfl rfl (rfl : am_z 610 = 0) _ _ _
set_option maxRecDepth 50000 in
theorem q610_91 (C : am_Ct) (x0 : Int32) (μ : am_Mem) : am_ev C 610 91 [.int x0] [] μ = (am_ret (some (.retAddr 9)) μ) := am_blk (b := [(.ldc 89, 2), (.areturn, 1)]) rfl rfl (rfl : am_z 610 = 0) _ _ _
set_option maxRecDepth 50000 in
theorem q610_94 (C : am_Ct) (x0 : Int32) (μ : am_Mem) : am_ev C 610 94 [.int x0] [] μ = (am_ret (some (.retAddr 10)) μ) := am_blk (b := [(.ldc 91, 2), (.areturn, 1)]) rfl rfl (rfl : am_z 610 = 0) _ _ _
set_option maxRecDepth 50000 in
theorem q610_97 (C : am_Ct) (x0 : Int32) (μ : am_Mem) : am_ev C 610 97 [.int x0] [] μ = (am_ret (some (.retAddr 11)) μ) := am_blk (b := [(.ldc 93, 2), (.areturn, 1)]) rfl rfl (rfl : am_z 610 = 0) _ _ _
set_option maxRecDepth 50000 in
theorem q610_100 (C : am_Ct) (x0 : Int32) (μ : am_Mem) : am_ev C 610 100 [.int x0] [] μ = (am_ret (some (.retAddr 12)) μ) := am_blk (b := [(.ldc 95, 2), (.areturn, 1)]) rfl rfl (rfl : am_z 610 = 0) _ _ _
theorem e610 (d : Nat) (x0 : Int32) (μ : am_Mem) : am_call (d + 1) 610 [.int x0] μ = am_ev (am_call d) 610 0 [.int x0] [] μ := rfl
/-! NoWordTwice$Tokens.kindOfSign(I)I  -/
set_option maxRecDepth 50000 in
theorem q611_0 (C : am_Ct) (x0 : Int32) (μ : am_Mem) : am_ev C 611 0 [.int x0] [] μ = (if x0 = (am_c 40) then am_ev C 611 123 [.int x0] [] μ else if x0 = (am_c 41) then am_ev C 611 126 [.int x0] [] μ else if x0 = (am_c 42) then am_ev C 611 117 [.int x0] [] μ else if x0 = (am_c 43) then am_ev C 611 111 [.int x0] [] μ else if x0 = (am_c 44) then am_ev C 611 138 [.int x0] [] μ else if x0 = (am_c 45) then am_ev C 611 114 [.int x0] [] μ else if x0 = (am_c 46) then am_ev C 611 138 [.int x0] [] μ else if x0 = (am_c 47) then am_ev C 611 120 [.int x0] [] μ else if x0 = (am_c 48) then am_ev C 611 138 [.int x0] [] μ else if x0 = (am_c 49) then am_ev C 611 138 [.int x0] [] μ else if x0 = (am_c 50) then am_ev C 611 138 [.int x0] [] μ else if x0 = (am_c 51) then am_ev C 611 138 [.int x0] [] μ else if x0 = (am_c 52) then am_ev C 611 138 [.int x0] [] μ else if x0 = (am_c 53) then am_ev C 611 138 [.int x0] [] μ else if x0 = (am_c 54) then am_ev C 611 138 [.int x0] [] μ else if x0 = (am_c 55) then am_ev C 611 138 [.int x0] [] μ else if x0 = (am_c 56) then am_ev C 611 138 [.int x0] [] μ else if x0 = (am_c 57) then am_ev C 611 138 [.int x0] [] μ else if x0 = (am_c 58) then am_ev C 611 138 [.int x0] [] μ else if x0 = (am_c 59) then am_ev C 611 108 [.int x0] [] μ else if x0 = (am_c 60) then am_ev C 611 129 [.int x0] [] μ else if x0 = (am_c 61) then am_ev C 611 132 [.int x0] [] μ else if x0 = (am_c 62) then am_ev C 611 135 [.int x0] [] μ else am_ev C 611 138 [.int x0] [] μ) := am_blk (b := [(.iload_n 0, 1), (.tableswitch 137 40 62 #[122, 125, 116, 110, 137, 113, 137, 119, 137, 137, 137, 137, 137, 137, 137, 137, 137, 137, 137, 107, 128, 131, 134], 107)]) rfl rfl (rfl : am_z 611 = 0) _ _ _
set_option maxRecDepth 50000 in
theorem q611_108 (C : am_Ct) (x0 : Int32) (μ : am_Mem) : am_ev C 611 108 [.int x0] [] μ = (am_ret (some (.int (am_c 15))) μ) := am_blk (b := [(.bipush 15, 2), (.ireturn, 1)]) rfl rfl (rfl : am_z 611 = 0) _ _ _
set_option maxRecDepth 50000 in
theorem q611_111 (C : am_Ct) (x0 : Int32) (μ : am_Mem) : am_ev C 611 111 [.int x0] [] μ = (am_ret (some (.int (am_c 16))) μ) := am_blk (b := [(.bipush 16, 2), (.ireturn, 1)]) rfl rfl (rfl : am_z 611 = 0) _ _ _
set_option maxRecDepth 50000 in
theorem q611_114 (C : am_Ct) (x0 : Int32) (μ : am_Mem) : am_ev C 611 114 [.int x0] [] μ = (am_ret (some (.int (am_c 17))) μ) := am_blk (b := [(.bipush 17, 2), (.ireturn, 1)]) rfl rfl (rfl : am_z 611 = 0) _ _ _
set_option maxRecDepth 50000 in
theorem q611_117 (C : am_Ct) (x0 : Int32) (μ : am_Mem) : am_ev C 611 117 [.int x0] [] μ = (am_ret (some (.int (am_c 18))) μ) := am_blk (b := [(.bipush 18, 2), (.ireturn, 1)]) rfl rfl (rfl : am_z 611 = 0) _ _ _
set_option maxRecDepth 50000 in
theorem q611_120 (C : am_Ct) (x0 : Int32) (μ : am_Mem) : am_ev C 611 120 [.int x0] [] μ = (am_ret (some (.int (am_c 19))) μ) := am_blk (b := [(.bipush 19, 2), (.ireturn, 1)]) rfl rfl (rfl : am_z 611 = 0) _ _ _
set_option maxRecDepth 50000 in
theorem q611_123 (C : am_Ct) (x0 : Int32) (μ : am_Mem) : am_ev C 611 123 [.int x0] [] μ = (am_ret (some (.int (am_c 20))) μ) := am_blk (b := [(.bipush 20, 2), (.ireturn, 1)]) rfl rfl (rfl : am_z 611 = 0) _ _ _
set_option maxRecDepth 50000 in
theorem q611_126 (C : am_Ct) (x0 : Int32) (μ : am_Mem) : am_ev C 611 126 [.int x0] [] μ = (am_ret (some (.int (am_c 21))) μ) := am_blk (b := [(.bipush 21, 2), (.ireturn, 1)]) rfl rfl (rfl : am_z 611 = 0) _ _ _
set_option maxRecDepth 50000 in
theorem q611_129 (C : am_Ct) (x0 : Int32) (μ : am_Mem) : am_ev C 611 129 [.int x0] [] μ = (am_ret (some (.int (am_c 22))) μ) := am_blk (b := [(.bipush 22, 2), (.ireturn, 1)]) rfl rfl (rfl : am_z 611 = 0) _ _ _
set_option maxRecDepth 50000 in
theorem q611_132 (C : am_Ct) (x0 : Int32) (μ : am_Mem) : am_ev C 611 132 [.int x0] [] μ = (am_ret (some (.int (am_c 23))) μ) := am_blk (b := [(.bipush 23, 2), (.ireturn, 1)]) rfl rfl (rfl : am_z 611 = 0) _ _ _
set_option maxRecDepth 50000 in
theorem q611_135 (C : am_Ct) (x0 : Int32) (μ : am_Mem) : am_ev C 611 135 [.int x0] [] μ = (am_ret (some (.int (am_c 24))) μ) := am_blk (b := [(.bipush 24, 2), (.ireturn, 1)]) rfl rfl (rfl : am_z 611 = 0) _ _ _
set_option maxRecDepth 50000 in
theorem q611_138 (C : am_Ct) (x0 : Int32) (μ : am_Mem) : am_ev C 611 138 [.int x0] [] μ = (am_ret (some (.int (am_c 1))) μ) := am_blk (b := [(.iconst 1, 1), (.ireturn, 1)]) rfl rfl (rfl : am_z 611 = 0) _ _ _
theorem e611 (d : Nat) (x0 : Int32) (μ : am_Mem) : am_call (d + 1) 611 [.int x0] μ = am_ev (am_call d) 611 0 [.int x0] [] μ := rfl
end
section
/-! NoWordTwice$Judgement.passOn(LNoWordTwice$Told;)V  -/
set_option maxRecDepth 50000 in
theorem q1_0 (C : am_Ct) (x2 : Value) (x3 : Value) (μ : am_Mem) : am_ev C 1 0 [.ref 41, .ref 1, x2, x3] [] μ = (am_ev C 1 19 [.ref 41, .ref 1, .int (am_c 0), .int (am_c 0)] [] (am_up (am_up (am_up μ 41 0 (am_c 0)) 41 1 (am_c (-1))) 41 2 (am_c (-1)))) := am_blk (b := [(.aload_n 0, 1), (.iconst 0, 1), (.putfield 9, 3), (.aload_n 0, 1), (.iconst (-1), 1), (.putfield 15, 3), (.aload_n 0, 1), (.iconst (-1), 1), (.putfield 18, 3), (.iconst 0, 1), (.istore_n 2, 1), (.iconst 0, 1), (.istore_n 3, 1)]) rfl rfl (rfl : am_z 1 = 0) _ _ _
set_option maxRecDepth 50000 in
theorem q1_19 (C : am_Ct) (x2 : Int32) (x3 : Int32) (μ : am_Mem) : am_ev C 1 19 [.ref 41, .ref 1, .int x2, .int x3] [] μ = (if (μ 1 7) ≤ x3 then am_ev C 1 58 [.ref 41, .ref 1, .int x2, .int x3] [] μ else if (μ 41 0) = 0 then am_bV (C 2 [.ref 41, .ref 1, .int x3, .int x2] μ) (fun m1 => am_gb (Nat.blt (am_ix x3) 12) (am_ev C 1 19 [.ref 41, .ref 1, .int (x2 ||| (((am_c 1) : Int32) <<< ((m1 3 (am_ix x3)) &&& 31))), .int (x3 + (am_c 1))] [] m1)) else am_ev C 1 58 [.ref 41, .ref 1, .int x2, .int x3] [] μ) := am_blk (b := [(.iload_n 3, 1), (.aload_n 1, 1), (.getfield 21, 3), (.if_icmp .ge 34, 3), (.aload_n 0, 1), (.getfield 9, 3), (.ifCond .ne 27, 3), (.aload_n 0, 1), (.aload_n 1, 1), (.iload_n 3, 1), (.iload_n 2, 1), (.invokevirtual 26, 3), (.iload_n 2, 1), (.iconst 1, 1), (.aload_n 1, 1), (.getfield 30, 3), (.iload_n 3, 1), (.iaload, 1), (.ishl, 1), (.ior, 1), (.istore_n 2, 1), (.iinc 3 1, 3), (.goto (-36), 3)]) rfl rfl (rfl : am_z 1 = 0) _ _ _
set_option maxRecDepth 50000 in
theorem q1_58 (C : am_Ct) (x2 : Int32) (x3 : Int32) (μ : am_Mem) : am_ev C 1 58 [.ref 41, .ref 1, .int x2, .int x3] [] μ = (am_ret none μ) := am_blk (b := [(.return_, 1)]) rfl rfl (rfl : am_z 1 = 0) _ _ _
theorem e1 (d : Nat) (μ : am_Mem) : am_call (d + 1) 1 [.ref 41, .ref 1] μ = am_ev (am_call d) 1 0 [.ref 41, .ref 1, .null, .null] [] μ := rfl
/-! NoWordTwice$Judgement.passOnEntry(LNoWordTwice$Told;II)V  -/
set_option maxRecDepth 50000 in
theorem q2_0 (C : am_Ct) (x2 : Int32) (x3 : Int32) (x4 : Value) (x5 : Value) (μ : am_Mem) : am_ev C 2 0 [.ref 41, .ref 1, .int x2, .int x3, x4, x5] [] μ = (am_gb (Nat.blt (am_ix x2) 12) (if ((x3 >>> ((μ 3 (am_ix x2)) &&& 31)) &&& (am_c 1)) = 0 then am_ev C 2 21 [.ref 41, .ref 1, .int x2, .int x3, x4, x5] [] μ else am_bV (C 3 [.ref 41, .int (am_c 1), .int x2, .int (am_c (-1))] μ) (fun m1 => am_ret none m1))) := am_blk (b := [(.iload_n 3, 1), (.aload_n 1, 1), (.getfield 30, 3), (.iload_n 2, 1), (.iaload, 1), (.ishr, 1), (.iconst 1, 1), (.iand, 1), (.ifCond .eq 11, 3), (.aload_n 0, 1), (.iconst 1, 1), (.iload_n 2, 1), (.iconst (-1), 1), (.invokevirtual 34, 3), (.return_, 1)]) rfl rfl (rfl : am_z 2 = 0) _ _ _
set_option maxRecDepth 50000 in
theorem q2_21 (C : am_Ct) (x2 : Int32) (x3 : Int32) (x4 : Value) (x5 : Value) (μ : am_Mem) : am_ev C 2 21 [.ref 41, .ref 1, .int x2, .int x3, x4, x5] [] μ = (am_bI (C 4 [.ref 1, .int x2] μ) (fun r1 m1 => if r1 = (am_c (-1)) then am_ev C 2 43 [.ref 41, .ref 1, .int x2, .int x3, .int r1, x5] [] m1 else am_bV (C 3 [.ref 41, .int (am_c 2), .int x2, .int r1] m1) (fun m2 => am_ret none m2))) := am_blk (b := [(.aload_n 1, 1), (.iload_n 2, 1), (.invokestatic 38, 3), (.istore 4, 2), (.iload 4, 2), (.iconst (-1), 1), (.if_icmp .eq 12, 3), (.aload_n 0, 1), (.iconst 2, 1), (.iload_n 2, 1), (.iload 4, 2), (.invokevirtual 34, 3), (.return_, 1)]) rfl rfl (rfl : am_z 2 = 0) _ _ _
set_option maxRecDepth 50000 in
theorem q2_43 (C : am_Ct) (x2 : Int32) (x3 : Int32) (x4 : Int32) (x5 : Value) (μ : am_Mem) : am_ev C 2 43 [.ref 41, .ref 1, .int x2, .int x3, .int x4, x5] [] μ = (am_bI (C 717 [.ref 1, .int x2] μ) (fun r1 m1 => if r1 = 0 then am_bV (C 3 [.ref 41, .int (am_c 3), .int x2, .int (am_c (-1))] m1) (fun m2 => am_ret none m2) else am_ev C 2 59 [.ref 41, .ref 1, .int x2, .int x3, .int x4, x5] [] m1)) := am_blk (b := [(.aload_n 1, 1), (.iload_n 2, 1), (.invokevirtual 42, 3), (.ifCond .ne 11, 3), (.aload_n 0, 1), (.iconst 3, 1), (.iload_n 2, 1), (.iconst (-1), 1), (.invokevirtual 34, 3), (.return_, 1)]) rfl rfl (rfl : am_z 2 = 0) _ _ _
set_option maxRecDepth 50000 in
theorem q2_59 (C : am_Ct) (x2 : Int32) (x3 : Int32) (x4 : Int32) (x5 : Value) (μ : am_Mem) : am_ev C 2 59 [.ref 41, .ref 1, .int x2, .int x3, .int x4, x5] [] μ = (am_bI (C 5 [.ref 1, .int x2, .int ((μ 1 6) ||| x3)] μ) (fun r1 m1 => if r1 = (am_c (-1)) then am_ev C 2 86 [.ref 41, .ref 1, .int x2, .int x3, .int x4, .int r1] [] m1 else am_bV (C 3 [.ref 41, .int (am_c 4), .int x2, .int r1] m1) (fun m2 => am_ev C 2 86 [.ref 41, .ref 1, .int x2, .int x3, .int x4, .int r1] [] m2))) := am_blk (b := [(.aload_n 1, 1), (.iload_n 2, 1), (.aload_n 1, 1), (.getfield 46, 3), (.iload_n 3, 1), (.ior, 1), (.invokestatic 49, 3), (.istore 5, 2), (.iload 5, 2), (.iconst (-1), 1), (.if_icmp .eq 11, 3), (.aload_n 0, 1), (.iconst 4, 1), (.iload_n 2, 1), (.iload 5, 2), (.invokevirtual 34, 3)]) rfl rfl (rfl : am_z 2 = 0) _ _ _
set_option maxRecDepth 50000 in
theorem q2_86 (C : am_Ct) (x2 : Int32) (x3 : Int32) (x4 : Int32) (x5 : Int32) (μ : am_Mem) : am_ev C 2 86 [.ref 41, .ref 1, .int x2, .int x3, .int x4, .int x5] [] μ = (am_ret none μ) := am_blk (b := [(.return_, 1)]) rfl rfl (rfl : am_z 2 = 0) _ _ _
theorem e2 (d : Nat) (x2 : Int32) (x3 : Int32) (μ : am_Mem) : am_call (d + 1) 2 [.ref 41, .ref 1, .int x2, .int x3] μ = am_ev (am_call d) 2 0 [.ref 41, .ref 1, .int x2, .int x3, .null, .null] [] μ := rfl
/-! NoWordTwice$Judgement.find(III)V  -/
set_option maxRecDepth 50000 in
theorem q3_0 (C : am_Ct) (x1 : Int32) (x2 : Int32) (x3 : Int32) (μ : am_Mem) : am_ev C 3 0 [.ref 41, .int x1, .int x2, .int x3] [] μ = (am_ret none (am_up (am_up (am_up μ 41 0 x1) 41 1 x2) 41 2 x3)) := am_blk (b := [(.aload_n 0, 1), (.iload_n 1, 1), (.putfield 9, 3), (.aload_n 0, 1), (.iload_n 2, 1), (.putfield 15, 3), (.aload_n 0, 1), (.iload_n 3, 1), (.putfield 18, 3), (.return_, 1)]) rfl rfl (rfl : am_z 3 = 0) _ _ _
theorem e3 (d : Nat) (x1 : Int32) (x2 : Int32) (x3 : Int32) (μ : am_Mem) : am_call (d + 1) 3 [.ref 41, .int x1, .int x2, .int x3] μ = am_ev (am_call d) 3 0 [.ref 41, .int x1, .int x2, .int x3] [] μ := rfl
/-! NoWordTwice$Packing.pack(LNoWordTwice$Told;I)V  -/
set_option maxRecDepth 50000 in
theorem q301_0 (C : am_Ct) (x2 : Int32) (x3 : Value) (μ : am_Mem) : am_ev C 301 0 [.ref 48, .ref 1, .int x2, x3] [] μ = (am_bV (C 303 [.ref 48, .ref 1] (am_up μ 48 2 (μ 1 4))) (fun m1 => am_bV (C 302 [.ref 48] m1) (fun m2 => am_bI (C 306 [.int ((((am_c 1) : Int32) <<< ((m2 48 2) &&& 31)) - (am_c 1))] m2) (fun r3 m3 => am_bI (C 308 [.ref 48, .int (am_c 0), .int (x2 * r3)] m3) (fun r4 m4 => am_bV (C 310 [.ref 48, .int (x2 * r3)] (am_up m4 48 0 r4)) (fun m5 => am_ret none m5)))))) := am_blk (b := [(.aload_n 0, 1), (.aload_n 1, 1), (.getfield 33, 3), (.putfield 39, 3), (.aload_n 0, 1), (.aload_n 1, 1), (.invokevirtual 42, 3), (.aload_n 0, 1), (.invokevirtual 46, 3), (.iload_n 2, 1), (.iconst 1, 1), (.aload_n 0, 1), (.getfield 39, 3), (.ishl, 1), (.iconst 1, 1), (.isub, 1), (.invokestatic 49, 3), (.imul, 1), (.istore_n 3, 1), (.aload_n 0, 1), (.aload_n 0, 1), (.iconst 0, 1), (.iload_n 3, 1), (.invokevirtual 53, 3), (.putfield 57, 3), (.aload_n 0, 1), (.iload_n 3, 1), (.invokevirtual 60, 3), (.return_, 1)]) rfl rfl (rfl : am_z 301 = 0) _ _ _
theorem e301 (d : Nat) (x2 : Int32) (μ : am_Mem) : am_call (d + 1) 301 [.ref 48, .ref 1, .int x2] μ = am_ev (am_call d) 301 0 [.ref 48, .ref 1, .int x2, .null] [] μ := rfl
/-! NoWordTwice$Packing.forgetFound()V  -/
set_option maxRecDepth 50000 in
theorem q302_0 (C : am_Ct) (x1 : Value) (μ : am_Mem) : am_ev C 302 0 [.ref 48, x1] [] μ = (if (μ 48 9) = (am_c 2047) then am_ev C 302 12 [.ref 48, .int (am_c 0)] [] μ else am_ev C 302 37 [.ref 48, x1] [] μ) := am_blk (b := [(.aload_n 0, 1), (.getfield 64, 3), (.sipush 2047, 3), (.if_icmp .ne 30, 3), (.iconst 0, 1), (.istore_n 1, 1)]) rfl rfl (rfl : am_z 302 = 0) _ _ _
set_option maxRecDepth 50000 in
theorem q302_12 (C : am_Ct) (x1 : Int32) (μ : am_Mem) : am_ev C 302 12 [.ref 48, .int x1] [] μ = (if (am_c 4096) ≤ x1 then am_ev C 302 32 [.ref 48, .int x1] [] μ else am_gb (Nat.blt (am_ix x1) 4096) (am_ev C 302 12 [.ref 48, .int (x1 + (am_c 1))] [] (am_up μ 55 (am_ix x1) (am_c 0)))) := am_blk (b := [(.iload_n 1, 1), (.sipush 4096, 3), (.if_icmp .ge 16, 3), (.aload_n 0, 1), (.getfield 30, 3), (.iload_n 1, 1), (.iconst 0, 1), (.iastore, 1), (.iinc 1 1, 3), (.goto (-17), 3)]) rfl rfl (rfl : am_z 302 = 0) _ _ _
set_option maxRecDepth 50000 in
theorem q302_32 (C : am_Ct) (x1 : Int32) (μ : am_Mem) : am_ev C 302 32 [.ref 48, .int x1] [] μ = (am_ev C 302 37 [.ref 48, .int x1] [] (am_up μ 48 9 (am_c 0))) := am_blk (b := [(.aload_n 0, 1), (.iconst 0, 1), (.putfield 64, 3)]) rfl rfl (rfl : am_z 302 = 0) _ _ _
set_option maxRecDepth 50000 in
theorem q302_37 (C : am_Ct) (x1 : Value) (μ : am_Mem) : am_ev C 302 37 [.ref 48, x1] [] μ = (am_ret none (am_up μ 48 9 ((μ 48 9) + (am_c 1)))) := am_blk (b := [(.aload_n 0, 1), (.dup, 1), (.getfield 64, 3), (.iconst 1, 1), (.iadd, 1), (.putfield 64, 3), (.return_, 1)]) rfl rfl (rfl : am_z 302 = 0) _ _ _
theorem e302 (d : Nat) (μ : am_Mem) : am_call (d + 1) 302 [.ref 48] μ = am_ev (am_call d) 302 0 [.ref 48, .null] [] μ := rfl
/-! NoWordTwice$Packing.listSets(LNoWordTwice$Told;)V  -/
set_option maxRecDepth 50000 in
theorem q303_0 (C : am_Ct) (x2 : Value) (x3 : Value) (x4 : Value) (μ : am_Mem) : am_ev C 303 0 [.ref 48, .ref 1, x2, x3, x4] [] μ = (am_ev C 303 2 [.ref 48, .ref 1, .int (am_c 0), x3, x4] [] μ) := am_blk (b := [(.iconst 0, 1), (.istore_n 2, 1)]) rfl rfl (rfl : am_z 303 = 0) _ _ _
set_option maxRecDepth 50000 in
theorem q303_2 (C : am_Ct) (x2 : Int32) (x3 : Value) (x4 : Value) (μ : am_Mem) : am_ev C 303 2 [.ref 48, .ref 1, .int x2, x3, x4] [] μ = (if (μ 48 2) ≤ x2 then am_ev C 303 93 [.ref 48, .ref 1, .int x2, x3, x4] [] μ else am_gb (Nat.blt (am_ix x2) 7) (am_gb (Nat.blt (am_ix x2) 7) (am_bI (C 304 [.ref 48, .ref 1, .int x2] (am_up (am_up μ 51 (am_ix x2) (am_c 0)) 53 (am_ix x2) (am_c 0))) (fun r1 m1 => am_ev C 303 34 [.ref 48, .ref 1, .int x2, .int r1, .int (am_c 1)] [] m1)))) := am_blk (b := [(.iload_n 2, 1), (.aload_n 0, 1), (.getfield 39, 3), (.if_icmp .ge 86, 3), (.aload_n 0, 1), (.getfield 18, 3), (.iload_n 2, 1), (.iconst 0, 1), (.iastore, 1), (.aload_n 0, 1), (.getfield 24, 3), (.iload_n 2, 1), (.iconst 0, 1), (.iastore, 1), (.aload_n 0, 1), (.aload_n 1, 1), (.iload_n 2, 1), (.invokevirtual 67, 3), (.istore_n 3, 1), (.iconst 1, 1), (.istore 4, 2)]) rfl rfl (rfl : am_z 303 = 0) _ _ _
set_option maxRecDepth 50000 in
theorem q303_34 (C : am_Ct) (x2 : Int32) (x3 : Int32) (x4 : Int32) (μ : am_Mem) : am_ev C 303 34 [.ref 48, .ref 1, .int x2, .int x3, .int x4] [] μ = (if (((am_c 1) : Int32) <<< ((μ 48 2) &&& 31)) ≤ x4 then am_ev C 303 87 [.ref 48, .ref 1, .int x2, .int x3, .int x4] [] μ else am_bI (C 1200 [.int x4] μ) (fun r1 m1 => if (am_c 2) < r1 then am_ev C 303 81 [.ref 48, .ref 1, .int x2, .int x3, .int x4] [] m1 else if ((x4 >>> (x2 &&& 31)) &&& (am_c 1)) = 0 then am_bI (C 718 [.ref 1, .int x2, .int x4] m1) (fun r2 m2 => if r2 = 0 then am_ev C 303 81 [.ref 48, .ref 1, .int x2, .int x3, .int x4] [] m2 else am_bV (C 305 [.ref 48, .int x2, .int x4, .int x3] m2) (fun m3 => am_ev C 303 81 [.ref 48, .ref 1, .int x2, .int x3, .int x4] [] m3)) else am_ev C 303 81 [.ref 48, .ref 1, .int x2, .int x3, .int x4] [] m1)) := am_blk (b := [(.iload 4, 2), (.iconst 1, 1), (.aload_n 0, 1), (.getfield 39, 3), (.ishl, 1), (.if_icmp .ge 45, 3), (.iload 4, 2), (.invokestatic 71, 3), (.iconst 2, 1), (.if_icmp .gt 30, 3), (.iload 4, 2), (.iload_n 2, 1), (.ishr, 1), (.iconst 1, 1), (.iand, 1), (.ifCond .ne 21, 3), (.aload_n 1, 1), (.iload_n 2, 1), (.iload 4, 2), (.invokevirtual 76, 3), (.ifCond .eq 11, 3), (.aload_n 0, 1), (.iload_n 2, 1), (.iload 4, 2), (.iload_n 3, 1), (.invokevirtual 80, 3)]) rfl rfl (rfl : am_z 303 = 0) _ _ _
set_option maxRecDepth 50000 in
theorem q303_81 (C : am_Ct) (x2 : Int32) (x3 : Int32) (x4 : Int32) (μ : am_Mem) : am_ev C 303 81 [.ref 48, .ref 1, .int x2, .int x3, .int x4] [] μ = (am_ev C 303 34 [.ref 48, .ref 1, .int x2, .int x3, .int (x4 + (am_c 1))] [] μ) := am_blk (b := [(.iinc 4 1, 3), (.goto (-50), 3)]) rfl rfl (rfl : am_z 303 = 0) _ _ _
set_option maxRecDepth 50000 in
theorem q303_87 (C : am_Ct) (x2 : Int32) (x3 : Int32) (x4 : Int32) (μ : am_Mem) : am_ev C 303 87 [.ref 48, .ref 1, .int x2, .int x3, .int x4] [] μ = (am_ev C 303 2 [.ref 48, .ref 1, .int (x2 + (am_c 1)), .int x3, .int x4] [] μ) := am_blk (b := [(.iinc 2 1, 3), (.goto (-88), 3)]) rfl rfl (rfl : am_z 303 = 0) _ _ _
set_option maxRecDepth 50000 in
theorem q303_93 (C : am_Ct) (x2 : Int32) (x3 : Value) (x4 : Value) (μ : am_Mem) : am_ev C 303 93 [.ref 48, .ref 1, .int x2, x3, x4] [] μ = (am_gb (Nat.blt (am_ix (μ 48 2)) 8) (am_ev C 303 110 [.ref 48, .ref 1, .int (((am_up μ 54 (am_ix (μ 48 2)) (am_c 0)) 48 2) - (am_c 1)), x3, x4] [] (am_up μ 54 (am_ix (μ 48 2)) (am_c 0)))) := am_blk (b := [(.aload_n 0, 1), (.getfield 27, 3), (.aload_n 0, 1), (.getfield 39, 3), (.iconst 0, 1), (.iastore, 1), (.aload_n 0, 1), (.getfield 39, 3), (.iconst 1, 1), (.isub, 1), (.istore_n 2, 1)]) rfl rfl (rfl : am_z 303 = 0) _ _ _
set_option maxRecDepth 50000 in
theorem q303_110 (C : am_Ct) (x2 : Int32) (x3 : Value) (x4 : Value) (μ : am_Mem) : am_ev C 303 110 [.ref 48, .ref 1, .int x2, x3, x4] [] μ = (if x2 < 0 then am_ev C 303 149 [.ref 48, .ref 1, .int x2, x3, x4] [] μ else am_gb (Nat.blt (am_ix (x2 + (am_c 1))) 8) (am_gb (Nat.blt (am_ix x2) 7) (if (μ 51 (am_ix x2)) ≤ 0 then am_ev C 303 140 [.ref 48, .ref 1, .int x2, x3, x4] [.int (μ 54 (am_ix (x2 + (am_c 1)))), .int x2, .ref 54] μ else am_ev C 303 141 [.ref 48, .ref 1, .int x2, x3, x4] [.int (am_c 1), .int (μ 54 (am_ix (x2 + (am_c 1)))), .int x2, .ref 54] μ))) := am_blk (b := [(.iload_n 2, 1), (.ifCond .lt 38, 3), (.aload_n 0, 1), (.getfield 27, 3), (.iload_n 2, 1), (.aload_n 0, 1), (.getfield 27, 3), (.iload_n 2, 1), (.iconst 1, 1), (.iadd, 1), (.iaload, 1), (.aload_n 0, 1), (.getfield 18, 3), (.iload_n 2, 1), (.iaload, 1), (.ifCond .le 7, 3), (.iconst 1, 1), (.goto 4, 3)]) rfl rfl (rfl : am_z 303 = 0) _ _ _
set_option maxRecDepth 50000 in
theorem q303_140 (C : am_Ct) (x2 : Int32) (x3 : Value) (x4 : Value) (s0 : Int32) (s1 : Int32) (μ : am_Mem) : am_ev C 303 140 [.ref 48, .ref 1, .int x2, x3, x4] [.int s0, .int s1, .ref 54] μ = (am_ev C 303 141 [.ref 48, .ref 1, .int x2, x3, x4] [.int (am_c 0), .int s0, .int s1, .ref 54] μ) := am_blk (b := [(.iconst 0, 1)]) rfl rfl (rfl : am_z 303 = 0) _ _ _
set_option maxRecDepth 50000 in
theorem q303_141 (C : am_Ct) (x2 : Int32) (x3 : Value) (x4 : Value) (s0 : Int32) (s1 : Int32) (s2 : Int32) (μ : am_Mem) : am_ev C 303 141 [.ref 48, .ref 1, .int x2, x3, x4] [.int s0, .int s1, .int s2, .ref 54] μ = (am_gb (Nat.blt (am_ix s2) 8) (am_ev C 303 110 [.ref 48, .ref 1, .int (x2 + (am_c (-1))), x3, x4] [] (am_up μ 54 (am_ix s2) (s1 + s0)))) := am_blk (b := [(.iadd, 1), (.iastore, 1), (.iinc 2 (-1), 3), (.goto (-36), 3)]) rfl rfl (rfl : am_z 303 = 0) _ _ _
set_option maxRecDepth 50000 in
theorem q303_149 (C : am_Ct) (x2 : Int32) (x3 : Value) (x4 : Value) (μ : am_Mem) : am_ev C 303 149 [.ref 48, .ref 1, .int x2, x3, x4] [] μ = (am_ret none μ) := am_blk (b := [(.return_, 1)]) rfl rfl (rfl : am_z 303 = 0) _ _ _
theorem e303 (d : Nat) (μ : am_Mem) : am_call (d + 1) 303 [.ref 48, .ref 1] μ = am_ev (am_call d) 303 0 [.ref 48, .ref 1, .null, .null, .null] [] μ := rfl
/-! NoWordTwice$Packing.singlesThatFix(LNoWordTwice$Told;I)I  -/
set_option maxRecDepth 50000 in
theorem q304_0 (C : am_Ct) (x2 : Int32) (x3 : Value) (x4 : Value) (μ : am_Mem) : am_ev C 304 0 [.ref 48, .ref 1, .int x2, x3, x4] [] μ = (am_ev C 304 5 [.ref 48, .ref 1, .int x2, .int (am_c 0), .int (am_c 0)] [] μ) := am_blk (b := [(.iconst 0, 1), (.istore_n 3, 1), (.iconst 0, 1), (.istore 4, 2)]) rfl rfl (rfl : am_z 304 = 0) _ _ _
set_option maxRecDepth 50000 in
theorem q304_5 (C : am_Ct) (x2 : Int32) (x3 : Int32) (x4 : Int32) (μ : am_Mem) : am_ev C 304 5 [.ref 48, .ref 1, .int x2, .int x3, .int x4] [] μ = (if (μ 48 2) ≤ x4 then am_ev C 304 45 [.ref 48, .ref 1, .int x2, .int x3, .int x4] [] μ else if x4 = x2 then am_ev C 304 39 [.ref 48, .ref 1, .int x2, .int x3, .int x4] [] μ else am_bI (C 718 [.ref 1, .int x2, .int (((am_c 1) : Int32) <<< (x4 &&& 31))] μ) (fun r1 m1 => if r1 = 0 then am_ev C 304 39 [.ref 48, .ref 1, .int x2, .int x3, .int x4] [] m1 else am_ev C 304 39 [.ref 48, .ref 1, .int x2, .int (x3 ||| (((am_c 1) : Int32) <<< (x4 &&& 31))), .int x4] [] m1)) := am_blk (b := [(.iload 4, 2), (.aload_n 0, 1), (.getfield 39, 3), (.if_icmp .ge 34, 3), (.iload 4, 2), (.iload_n 2, 1), (.if_icmp .eq 22, 3), (.aload_n 1, 1), (.iload_n 2, 1), (.iconst 1, 1), (.iload 4, 2), (.ishl, 1), (.invokevirtual 76, 3), (.ifCond .eq 10, 3), (.iload_n 3, 1), (.iconst 1, 1), (.iload 4, 2), (.ishl, 1), (.ior, 1), (.istore_n 3, 1)]) rfl rfl (rfl : am_z 304 = 0) _ _ _
set_option maxRecDepth 50000 in
theorem q304_39 (C : am_Ct) (x2 : Int32) (x3 : Int32) (x4 : Int32) (μ : am_Mem) : am_ev C 304 39 [.ref 48, .ref 1, .int x2, .int x3, .int x4] [] μ = (am_ev C 304 5 [.ref 48, .ref 1, .int x2, .int x3, .int (x4 + (am_c 1))] [] μ) := am_blk (b := [(.iinc 4 1, 3), (.goto (-37), 3)]) rfl rfl (rfl : am_z 304 = 0) _ _ _
set_option maxRecDepth 50000 in
theorem q304_45 (C : am_Ct) (x2 : Int32) (x3 : Int32) (x4 : Int32) (μ : am_Mem) : am_ev C 304 45 [.ref 48, .ref 1, .int x2, .int x3, .int x4] [] μ = (am_ret (some (.int x3)) μ) := am_blk (b := [(.iload_n 3, 1), (.ireturn, 1)]) rfl rfl (rfl : am_z 304 = 0) _ _ _
theorem e304 (d : Nat) (x2 : Int32) (μ : am_Mem) : am_call (d + 1) 304 [.ref 48, .ref 1, .int x2] μ = am_ev (am_call d) 304 0 [.ref 48, .ref 1, .int x2, .null, .null] [] μ := rfl
/-! NoWordTwice$Packing.addSet(III)V  -/
set_option maxRecDepth 50000 in
theorem q305_0 (C : am_Ct) (x1 : Int32) (x2 : Int32) (x3 : Int32) (μ : am_Mem) : am_ev C 305 0 [.ref 48, .int x1, .int x2, .int x3] [] μ = (am_gb (Nat.blt (am_ix x1) 7) (am_gb (Nat.blt (am_ix ((x1 * (am_c 21)) + (μ 51 (am_ix x1)))) 147) (am_gb (Nat.blt (am_ix x1) 7) (am_gb (Nat.blt (am_ix x1) 7) (if (x2 &&& x3) = 0 then am_ev C 305 41 [.ref 48, .int x1, .int x2, .int x3] [] (am_up (am_up μ 50 (am_ix ((x1 * (am_c 21)) + (μ 51 (am_ix x1)))) x2) 51 (am_ix x1) (((am_up μ 50 (am_ix ((x1 * (am_c 21)) + (μ 51 (am_ix x1)))) x2) 51 (am_ix x1)) + (am_c 1))) else am_bI (C 1200 [.int x2] (am_up (am_up μ 50 (am_ix ((x1 * (am_c 21)) + (μ 51 (am_ix x1)))) x2) 51 (am_ix x1) (((am_up μ 50 (am_ix ((x1 * (am_c 21)) + (μ 51 (am_ix x1)))) x2) 51 (am_ix x1)) + (am_c 1)))) (fun r1 m1 => if r1 = (am_c 1) then am_ev C 305 41 [.ref 48, .int x1, .int x2, .int x3] [] m1 else am_ev C 305 71 [.ref 48, .int x1, .int x2, .int x3] [] m1)))))) := am_blk (b := [(.aload_n 0, 1), (.getfield 15, 3), (.iload_n 1, 1), (.bipush 21, 2), (.imul, 1), (.aload_n 0, 1), (.getfield 18, 3), (.iload_n 1, 1), (.iaload, 1), (.iadd, 1), (.iload_n 2, 1), (.iastore, 1), (.aload_n 0, 1), (.getfield 18, 3), (.iload_n 1, 1), (.dup2, 1), (.iaload, 1), (.iconst 1, 1), (.iadd, 1), (.iastore, 1), (.iload_n 2, 1), (.iload_n 3, 1), (.iand, 1), (.ifCond .eq 11, 3), (.iload_n 2, 1), (.invokestatic 71, 3), (.iconst 1, 1), (.if_icmp .ne 33, 3)]) rfl rfl (rfl : am_z 305 = 0) _ _ _
set_option maxRecDepth 50000 in
theorem q305_41 (C : am_Ct) (x1 : Int32) (x2 : Int32) (x3 : Int32) (μ : am_Mem) : am_ev C 305 41 [.ref 48, .int x1, .int x2, .int x3] [] μ = (am_gb (Nat.blt (am_ix x1) 7) (am_bI (C 306 [.int x2] μ) (fun r1 m1 => am_gb (Nat.blt (am_ix ((x1 * (am_c 21)) + (μ 53 (am_ix x1)))) 147) (am_gb (Nat.blt (am_ix x1) 7) (am_gb (Nat.blt (am_ix x1) 7) (am_ev C 305 71 [.ref 48, .int x1, .int x2, .int x3] [] (am_up (am_up m1 52 (am_ix ((x1 * (am_c 21)) + (μ 53 (am_ix x1)))) r1) 53 (am_ix x1) (((am_up m1 52 (am_ix ((x1 * (am_c 21)) + (μ 53 (am_ix x1)))) r1) 53 (am_ix x1)) + (am_c 1))))))))) := am_blk (b := [(.aload_n 0, 1), (.getfield 21, 3), (.iload_n 1, 1), (.bipush 21, 2), (.imul, 1), (.aload_n 0, 1), (.getfield 24, 3), (.iload_n 1, 1), (.iaload, 1), (.iadd, 1), (.iload_n 2, 1), (.invokestatic 49, 3), (.iastore, 1), (.aload_n 0, 1), (.getfield 24, 3), (.iload_n 1, 1), (.dup2, 1), (.iaload, 1), (.iconst 1, 1), (.iadd, 1), (.iastore, 1)]) rfl rfl (rfl : am_z 305 = 0) _ _ _
set_option maxRecDepth 50000 in
theorem q305_71 (C : am_Ct) (x1 : Int32) (x2 : Int32) (x3 : Int32) (μ : am_Mem) : am_ev C 305 71 [.ref 48, .int x1, .int x2, .int x3] [] μ = (am_ret none μ) := am_blk (b := [(.return_, 1)]) rfl rfl (rfl : am_z 305 = 0) _ _ _
theorem e305 (d : Nat) (x1 : Int32) (x2 : Int32) (x3 : Int32) (μ : am_Mem) : am_call (d + 1) 305 [.ref 48, .int x1, .int x2, .int x3] μ = am_ev (am_call d) 305 0 [.ref 48, .int x1, .int x2, .int x3] [] μ := rfl
/-! NoWordTwice$Packing.spaced(I)I  -/
set_option maxRecDepth 50000 in
theorem q306_0 (C : am_Ct) (x0 : Int32) (x1 : Value) (x2 : Value) (μ : am_Mem) : am_ev C 306 0 [.int x0, x1, x2] [] μ = (am_ev C 306 4 [.int x0, .int (am_c 0), .int (am_c 0)] [] μ) := am_blk (b := [(.iconst 0, 1), (.istore_n 1, 1), (.iconst 0, 1), (.istore_n 2, 1)]) rfl rfl (rfl : am_z 306 = 0) _ _ _
set_option maxRecDepth 50000 in
theorem q306_4 (C : am_Ct) (x0 : Int32) (x1 : Int32) (x2 : Int32) (μ : am_Mem) : am_ev C 306 4 [.int x0, .int x1, .int x2] [] μ = (if (am_c 7) ≤ x2 then am_ev C 306 28 [.int x0, .int x1, .int x2] [] μ else am_ev C 306 4 [.int x0, .int (x1 ||| (((x0 >>> (x2 &&& 31)) &&& (am_c 1)) <<< (((am_c 2) * x2) &&& 31))), .int (x2 + (am_c 1))] [] μ) := am_blk (b := [(.iload_n 2, 1), (.bipush 7, 2), (.if_icmp .ge 21, 3), (.iload_n 1, 1), (.iload_n 0, 1), (.iload_n 2, 1), (.ishr, 1), (.iconst 1, 1), (.iand, 1), (.iconst 2, 1), (.iload_n 2, 1), (.imul, 1), (.ishl, 1), (.ior, 1), (.istore_n 1, 1), (.iinc 2 1, 3), (.goto (-21), 3)]) rfl rfl (rfl : am_z 306 = 0) _ _ _
set_option maxRecDepth 50000 in
theorem q306_28 (C : am_Ct) (x0 : Int32) (x1 : Int32) (x2 : Int32) (μ : am_Mem) : am_ev C 306 28 [.int x0, .int x1, .int x2] [] μ = (am_ret (some (.int x1)) μ) := am_blk (b := [(.iload_n 1, 1), (.ireturn, 1)]) rfl rfl (rfl : am_z 306 = 0) _ _ _
theorem e306 (d : Nat) (x0 : Int32) (μ : am_Mem) : am_call (d + 1) 306 [.int x0] μ = am_ev (am_call d) 306 0 [.int x0, .null, .null] [] μ := rfl
/-! NoWordTwice$Packing.fits(II)Z  -/
set_option maxRecDepth 50000 in
theorem q307_0 (C : am_Ct) (x0 : Int32) (x1 : Int32) (μ : am_Mem) : am_ev C 307 0 [.int x0, .int x1] [] μ = (if (x1 &&& (((x0 ||| (x0 >>> ((am_c 1) &&& 31))) &&& (am_c 5461)) ^^^ (am_c (-1)))) = 0 then am_ev C 307 21 [.int x0, .int x1] [.int (am_c 1)] μ else am_ev C 307 20 [.int x0, .int x1] [] μ) := am_blk (b := [(.iload_n 1, 1), (.iload_n 0, 1), (.iload_n 0, 1), (.iconst 1, 1), (.ishr, 1), (.ior, 1), (.sipush 5461, 3), (.iand, 1), (.iconst (-1), 1), (.ixor, 1), (.iand, 1), (.ifCond .ne 7, 3), (.iconst 1, 1), (.goto 4, 3)]) rfl rfl (rfl : am_z 307 = 2) _ _ _
set_option maxRecDepth 50000 in
theorem q307_20 (C : am_Ct) (x0 : Int32) (x1 : Int32) (μ : am_Mem) : am_ev C 307 20 [.int x0, .int x1] [] μ = (am_ev C 307 21 [.int x0, .int x1] [.int (am_c 0)] μ) := am_blk (b := [(.iconst 0, 1)]) rfl rfl (rfl : am_z 307 = 2) _ _ _
set_option maxRecDepth 50000 in
theorem q307_21 (C : am_Ct) (x0 : Int32) (x1 : Int32) (s0 : Int32) (μ : am_Mem) : am_ev C 307 21 [.int x0, .int x1] [.int s0] μ = (am_gb (Nat.blt (am_ix s0) 2) (am_ret (some (.int s0)) μ)) := am_blk (b := [(.ireturn, 1)]) rfl rfl (rfl : am_z 307 = 2) _ _ _
theorem e307 (d : Nat) (x0 : Int32) (x1 : Int32) (μ : am_Mem) : am_call (d + 1) 307 [.int x0, .int x1] μ = am_ev (am_call d) 307 0 [.int x0, .int x1] [] μ := rfl
/-! NoWordTwice$Packing.mostFrom(II)I  -/
set_option maxRecDepth 50000 in
theorem q308_0 (C : am_Ct) (x1 : Int32) (x2 : Int32) (x3 : Value) (x4 : Value) (x5 : Value) (x6 : Value) (x7 : Value) (μ : am_Mem) : am_ev C 308 0 [.ref 48, .int x1, .int x2, x3, x4, x5, x6, x7] [] μ = (if (μ 48 2) ≤ x1 then am_ev C 308 17 [.ref 48, .int x1, .int x2, x3, x4, x5, x6, x7] [] μ else am_gb (Nat.blt (am_ix x1) 8) (if (μ 54 (am_ix x1)) = 0 then am_ev C 308 17 [.ref 48, .int x1, .int x2, x3, x4, x5, x6, x7] [] μ else am_ev C 308 19 [.ref 48, .int x1, .int x2, x3, x4, x5, x6, x7] [] μ)) := am_blk (b := [(.iload_n 1, 1), (.aload_n 0, 1), (.getfield 39, 3), (.if_icmp .ge 12, 3), (.aload_n 0, 1), (.getfield 27, 3), (.iload_n 1, 1), (.iaload, 1), (.ifCond .ne 5, 3)]) rfl rfl (rfl : am_z 308 = 0) _ _ _
set_option maxRecDepth 50000 in
theorem q308_17 (C : am_Ct) (x1 : Int32) (x2 : Int32) (x3 : Value) (x4 : Value) (x5 : Value) (x6 : Value) (x7 : Value) (μ : am_Mem) : am_ev C 308 17 [.ref 48, .int x1, .int x2, x3, x4, x5, x6, x7] [] μ = (am_ret (some (.int (am_c 0))) μ) := am_blk (b := [(.iconst 0, 1), (.ireturn, 1)]) rfl rfl (rfl : am_z 308 = 0) _ _ _
set_option maxRecDepth 50000 in
theorem q308_19 (C : am_Ct) (x1 : Int32) (x2 : Int32) (x3 : Value) (x4 : Value) (x5 : Value) (x6 : Value) (x7 : Value) (μ : am_Mem) : am_ev C 308 19 [.ref 48, .int x1, .int x2, x3, x4, x5, x6, x7] [] μ = (am_bI (C 309 [.int ((((μ 48 9) <<< ((am_c 17) &&& 31)) ||| (x1 <<< ((am_c 14) &&& 31))) ||| x2)] μ) (fun r1 m1 => am_gb (Nat.blt (am_ix r1) 4096) (if ((m1 55 (am_ix r1)) >>> ((am_c 3) &&& 31)) = ((((μ 48 9) <<< ((am_c 17) &&& 31)) ||| (x1 <<< ((am_c 14) &&& 31))) ||| x2) then am_gb (Nat.blt (am_ix r1) 4096) (am_ret (some (.int ((m1 55 (am_ix r1)) &&& (am_c 7)))) m1) else am_ev C 308 64 [.ref 48, .int x1, .int x2, .int ((((μ 48 9) <<< ((am_c 17) &&& 31)) ||| (x1 <<< ((am_c 14) &&& 31))) ||| x2), .int r1, x5, x6, x7] [] m1))) := am_blk (b := [(.aload_n 0, 1), (.getfield 64, 3), (.bipush 17, 2), (.ishl, 1), (.iload_n 1, 1), (.bipush 14, 2), (.ishl, 1), (.ior, 1), (.iload_n 2, 1), (.ior, 1), (.istore_n 3, 1), (.iload_n 3, 1), (.invokestatic 84, 3), (.istore 4, 2), (.aload_n 0, 1), (.getfield 30, 3), (.iload 4, 2), (.iaload, 1), (.iconst 3, 1), (.ishr, 1), (.iload_n 3, 1), (.if_icmp .ne 14, 3), (.aload_n 0, 1), (.getfield 30, 3), (.iload 4, 2), (.iaload, 1), (.bipush 7, 2), (.iand, 1), (.ireturn, 1)]) rfl rfl (rfl : am_z 308 = 0) _ _ _
set_option maxRecDepth 50000 in
theorem q308_64 (C : am_Ct) (x1 : Int32) (x2 : Int32) (x3 : Int32) (x4 : Int32) (x5 : Value) (x6 : Value) (x7 : Value) (μ : am_Mem) : am_ev C 308 64 [.ref 48, .int x1, .int x2, .int x3, .int x4, x5, x6, x7] [] μ = (am_ev C 308 70 [.ref 48, .int x1, .int x2, .int x3, .int x4, .int (am_c 0), .int (am_c 0), x7] [] μ) := am_blk (b := [(.iconst 0, 1), (.istore 5, 2), (.iconst 0, 1), (.istore 6, 2)]) rfl rfl (rfl : am_z 308 = 0) _ _ _
set_option maxRecDepth 50000 in
theorem q308_70 (C : am_Ct) (x1 : Int32) (x2 : Int32) (x3 : Int32) (x4 : Int32) (x5 : Int32) (x6 : Int32) (x7 : Value) (μ : am_Mem) : am_ev C 308 70 [.ref 48, .int x1, .int x2, .int x3, .int x4, .int x5, .int x6, x7] [] μ = (am_gb (Nat.blt (am_ix x1) 7) (if (μ 53 (am_ix x1)) ≤ x6 then am_ev C 308 141 [.ref 48, .int x1, .int x2, .int x3, .int x4, .int x5, .int x6, x7] [] μ else am_gb (Nat.blt (am_ix x1) 8) (if (μ 54 (am_ix x1)) ≤ x5 then am_ev C 308 141 [.ref 48, .int x1, .int x2, .int x3, .int x4, .int x5, .int x6, x7] [] μ else am_gb (Nat.blt (am_ix ((x1 * (am_c 21)) + x6)) 147) (am_bI (C 307 [.int x2, .int (μ 52 (am_ix ((x1 * (am_c 21)) + x6)))] μ) (fun r1 m1 => if r1 = 0 then am_ev C 308 135 [.ref 48, .int x1, .int x2, .int x3, .int x4, .int x5, .int x6, .int (μ 52 (am_ix ((x1 * (am_c 21)) + x6)))] [] m1 else am_bI (C 308 [.ref 48, .int (x1 + (am_c 1)), .int (x2 - (μ 52 (am_ix ((x1 * (am_c 21)) + x6))))] m1) (fun r2 m2 => am_bI (C 1300 [.int x5, .int ((am_c 1) + r2)] m2) (fun r3 m3 => am_ev C 308 135 [.ref 48, .int x1, .int x2, .int x3, .int x4, .int r3, .int x6, .int (μ 52 (am_ix ((x1 * (am_c 21)) + x6)))] [] m3))))))) := am_blk (b := [(.iload 6, 2), (.aload_n 0, 1), (.getfield 24, 3), (.iload_n 1, 1), (.iaload, 1), (.if_icmp .ge 63, 3), (.iload 5, 2), (.aload_n 0, 1), (.getfield 27, 3), (.iload_n 1, 1), (.iaload, 1), (.if_icmp .ge 52, 3), (.aload_n 0, 1), (.getfield 21, 3), (.iload_n 1, 1), (.bipush 21, 2), (.imul, 1), (.iload 6, 2), (.iadd, 1), (.iaload, 1), (.istore 7, 2), (.iload_n 2, 1), (.iload 7, 2), (.invokestatic 87, 3), (.ifCond .eq 23, 3), (.iload 5, 2), (.iconst 1, 1), (.aload_n 0, 1), (.iload_n 1, 1), (.iconst 1, 1), (.iadd, 1), (.iload_n 2, 1), (.iload 7, 2), (.isub, 1), (.invokevirtual 53, 3), (.iadd, 1), (.invokestatic 90, 3), (.istore 5, 2)]) rfl rfl (rfl : am_z 308 = 0) _ _ _
set_option maxRecDepth 50000 in
theorem q308_135 (C : am_Ct) (x1 : Int32) (x2 : Int32) (x3 : Int32) (x4 : Int32) (x5 : Int32) (x6 : Int32) (x7 : Int32) (μ : am_Mem) : am_ev C 308 135 [.ref 48, .int x1, .int x2, .int x3, .int x4, .int x5, .int x6, .int x7] [] μ = (am_ev C 308 70 [.ref 48, .int x1, .int x2, .int x3, .int x4, .int x5, .int (x6 + (am_c 1)), .int x7] [] μ) := am_blk (b := [(.iinc 6 1, 3), (.goto (-68), 3)]) rfl rfl (rfl : am_z 308 = 0) _ _ _
set_option maxRecDepth 50000 in
theorem q308_141 (C : am_Ct) (x1 : Int32) (x2 : Int32) (x3 : Int32) (x4 : Int32) (x5 : Int32) (x6 : Int32) (x7 : Value) (μ : am_Mem) : am_ev C 308 141 [.ref 48, .int x1, .int x2, .int x3, .int x4, .int x5, .int x6, x7] [] μ = (am_gb (Nat.blt (am_ix (x1 + (am_c 1))) 8) (if (μ 54 (am_ix (x1 + (am_c 1)))) ≤ x5 then am_ev C 308 169 [.ref 48, .int x1, .int x2, .int x3, .int x4, .int x5, .int x6, x7] [] μ else am_bI (C 308 [.ref 48, .int (x1 + (am_c 1)), .int x2] μ) (fun r1 m1 => am_bI (C 1300 [.int x5, .int r1] m1) (fun r2 m2 => am_ev C 308 169 [.ref 48, .int x1, .int x2, .int x3, .int x4, .int r2, .int x6, x7] [] m2)))) := am_blk (b := [(.iload 5, 2), (.aload_n 0, 1), (.getfield 27, 3), (.iload_n 1, 1), (.iconst 1, 1), (.iadd, 1), (.iaload, 1), (.if_icmp .ge 18, 3), (.iload 5, 2), (.aload_n 0, 1), (.iload_n 1, 1), (.iconst 1, 1), (.iadd, 1), (.iload_n 2, 1), (.invokevirtual 53, 3), (.invokestatic 90, 3), (.istore 5, 2)]) rfl rfl (rfl : am_z 308 = 0) _ _ _
set_option maxRecDepth 50000 in
theorem q308_169 (C : am_Ct) (x1 : Int32) (x2 : Int32) (x3 : Int32) (x4 : Int32) (x5 : Int32) (x6 : Int32) (x7 : Value) (μ : am_Mem) : am_ev C 308 169 [.ref 48, .int x1, .int x2, .int x3, .int x4, .int x5, .int x6, x7] [] μ = (am_gb (Nat.blt (am_ix x4) 4096) (am_ret (some (.int x5)) (am_up μ 55 (am_ix x4) ((x3 <<< ((am_c 3) &&& 31)) ||| x5)))) := am_blk (b := [(.aload_n 0, 1), (.getfield 30, 3), (.iload 4, 2), (.iload_n 3, 1), (.iconst 3, 1), (.ishl, 1), (.iload 5, 2), (.ior, 1), (.iastore, 1), (.iload 5, 2), (.ireturn, 1)]) rfl rfl (rfl : am_z 308 = 0) _ _ _
theorem e308 (d : Nat) (x1 : Int32) (x2 : Int32) (μ : am_Mem) : am_call (d + 1) 308 [.ref 48, .int x1, .int x2] μ = am_ev (am_call d) 308 0 [.ref 48, .int x1, .int x2, .null, .null, .null, .null, .null] [] μ := rfl
/-! NoWordTwice$Packing.slotOf(I)I  -/
set_option maxRecDepth 50000 in
theorem q309_0 (C : am_Ct) (x0 : Int32) (μ : am_Mem) : am_ev C 309 0 [.int x0] [] μ = (am_ret (some (.int (((Int32.toUInt32 (x0 * (-1640531535))) >>> ((Int32.toUInt32 (am_c 20)) &&& Int32.toUInt32 31)).toInt32))) μ) := am_blk (b := [(.iload_n 0, 1), (.ldc 95, 2), (.imul, 1), (.bipush 20, 2), (.iushr, 1), (.ireturn, 1)]) rfl rfl (rfl : am_z 309 = 0) _ _ _
theorem e309 (d : Nat) (x0 : Int32) (μ : am_Mem) : am_call (d + 1) 309 [.int x0] μ = am_ev (am_call d) 309 0 [.int x0] [] μ := rfl
/-! NoWordTwice$Packing.choose(I)V  -/
set_option maxRecDepth 50000 in
theorem q310_0 (C : am_Ct) (x1 : Int32) (x2 : Value) (x3 : Value) (x4 : Value) (μ : am_Mem) : am_ev C 310 0 [.ref 48, .int x1, x2, x3, x4] [] μ = (am_ev C 310 10 [.ref 48, .int x1, .int x1, .int (μ 48 0), .int (am_c 0)] [] μ) := am_blk (b := [(.iload_n 1, 1), (.istore_n 2, 1), (.aload_n 0, 1), (.getfield 57, 3), (.istore_n 3, 1), (.iconst 0, 1), (.istore 4, 2)]) rfl rfl (rfl : am_z 310 = 0) _ _ _
set_option maxRecDepth 50000 in
theorem q310_10 (C : am_Ct) (x1 : Int32) (x2 : Int32) (x3 : Int32) (x4 : Int32) (μ : am_Mem) : am_ev C 310 10 [.ref 48, .int x1, .int x2, .int x3, .int x4] [] μ = (if (μ 48 2) ≤ x4 then am_ev C 310 83 [.ref 48, .int x1, .int x2, .int x3, .int x4] [] μ else am_bI (C 308 [.ref 48, .int (x4 + (am_c 1)), .int x2] μ) (fun r1 m1 => if r1 = x3 then am_ev C 310 50 [.ref 48, .int x1, .int x2, .int x3, .int x4] [.int (am_c 0), .int x4, .ref 49] m1 else am_ev C 310 42 [.ref 48, .int x1, .int x2, .int x3, .int x4] [.int x4, .ref 49] m1)) := am_blk (b := [(.iload 4, 2), (.aload_n 0, 1), (.getfield 39, 3), (.if_icmp .ge 67, 3), (.aload_n 0, 1), (.getfield 9, 3), (.iload 4, 2), (.aload_n 0, 1), (.iload 4, 2), (.iconst 1, 1), (.iadd, 1), (.iload_n 2, 1), (.invokevirtual 53, 3), (.iload_n 3, 1), (.if_icmp .ne 7, 3), (.iconst 0, 1), (.goto 11, 3)]) rfl rfl (rfl : am_z 310 = 0) _ _ _
set_option maxRecDepth 50000 in
theorem q310_42 (C : am_Ct) (x1 : Int32) (x2 : Int32) (x3 : Int32) (x4 : Int32) (s0 : Int32) (μ : am_Mem) : am_ev C 310 42 [.ref 48, .int x1, .int x2, .int x3, .int x4] [.int s0, .ref 49] μ = (am_bI (C 311 [.ref 48, .int x4, .int x2, .int x3] μ) (fun r1 m1 => am_ev C 310 50 [.ref 48, .int x1, .int x2, .int x3, .int x4] [.int r1, .int s0, .ref 49] m1)) := am_blk (b := [(.aload_n 0, 1), (.iload 4, 2), (.iload_n 2, 1), (.iload_n 3, 1), (.invokevirtual 96, 3)]) rfl rfl (rfl : am_z 310 = 0) _ _ _
set_option maxRecDepth 50000 in
theorem q310_50 (C : am_Ct) (x1 : Int32) (x2 : Int32) (x3 : Int32) (x4 : Int32) (s0 : Int32) (s1 : Int32) (μ : am_Mem) : am_ev C 310 50 [.ref 48, .int x1, .int x2, .int x3, .int x4] [.int s0, .int s1, .ref 49] μ = (am_gb (Nat.blt (am_ix s1) 7) (am_gb (Nat.blt (am_ix x4) 7) (if ((am_up μ 49 (am_ix s1) s0) 49 (am_ix x4)) = 0 then am_ev C 310 77 [.ref 48, .int x1, .int x2, .int x3, .int x4] [] (am_up μ 49 (am_ix s1) s0) else am_gb (Nat.blt (am_ix x4) 7) (am_bI (C 306 [.int ((am_up μ 49 (am_ix s1) s0) 49 (am_ix x4))] (am_up μ 49 (am_ix s1) s0)) (fun r1 m1 => am_ev C 310 77 [.ref 48, .int x1, .int (x2 - r1), .int (x3 + (am_c (-1))), .int x4] [] m1))))) := am_blk (b := [(.iastore, 1), (.aload_n 0, 1), (.getfield 9, 3), (.iload 4, 2), (.iaload, 1), (.ifCond .eq 19, 3), (.iload_n 2, 1), (.aload_n 0, 1), (.getfield 9, 3), (.iload 4, 2), (.iaload, 1), (.invokestatic 49, 3), (.isub, 1), (.istore_n 2, 1), (.iinc 3 (-1), 3)]) rfl rfl (rfl : am_z 310 = 0) _ _ _
set_option maxRecDepth 50000 in
theorem q310_77 (C : am_Ct) (x1 : Int32) (x2 : Int32) (x3 : Int32) (x4 : Int32) (μ : am_Mem) : am_ev C 310 77 [.ref 48, .int x1, .int x2, .int x3, .int x4] [] μ = (am_ev C 310 10 [.ref 48, .int x1, .int x2, .int x3, .int (x4 + (am_c 1))] [] μ) := am_blk (b := [(.iinc 4 1, 3), (.goto (-70), 3)]) rfl rfl (rfl : am_z 310 = 0) _ _ _
set_option maxRecDepth 50000 in
theorem q310_83 (C : am_Ct) (x1 : Int32) (x2 : Int32) (x3 : Int32) (x4 : Int32) (μ : am_Mem) : am_ev C 310 83 [.ref 48, .int x1, .int x2, .int x3, .int x4] [] μ = (am_ret none μ) := am_blk (b := [(.return_, 1)]) rfl rfl (rfl : am_z 310 = 0) _ _ _
theorem e310 (d : Nat) (x1 : Int32) (μ : am_Mem) : am_call (d + 1) 310 [.ref 48, .int x1] μ = am_ev (am_call d) 310 0 [.ref 48, .int x1, .null, .null, .null] [] μ := rfl
/-! NoWordTwice$Packing.leastSet(III)I  -/
set_option maxRecDepth 50000 in
theorem q311_0 (C : am_Ct) (x1 : Int32) (x2 : Int32) (x3 : Int32) (x4 : Value) (x5 : Value) (x6 : Value) (μ : am_Mem) : am_ev C 311 0 [.ref 48, .int x1, .int x2, .int x3, x4, x5, x6] [] μ = (am_ev C 311 3 [.ref 48, .int x1, .int x2, .int x3, .int (am_c 0), x5, x6] [] μ) := am_blk (b := [(.iconst 0, 1), (.istore 4, 2)]) rfl rfl (rfl : am_z 311 = 0) _ _ _
set_option maxRecDepth 50000 in
theorem q311_3 (C : am_Ct) (x1 : Int32) (x2 : Int32) (x3 : Int32) (x4 : Int32) (x5 : Value) (x6 : Value) (μ : am_Mem) : am_ev C 311 3 [.ref 48, .int x1, .int x2, .int x3, .int x4, x5, x6] [] μ = (am_gb (Nat.blt (am_ix x1) 7) (if (μ 51 (am_ix x1)) ≤ x4 then am_ev C 311 70 [.ref 48, .int x1, .int x2, .int x3, .int x4, x5, x6] [] μ else am_gb (Nat.blt (am_ix ((x1 * (am_c 21)) + x4)) 147) (am_bI (C 306 [.int (μ 50 (am_ix ((x1 * (am_c 21)) + x4)))] μ) (fun r1 m1 => am_bI (C 307 [.int x2, .int r1] m1) (fun r2 m2 => if r2 = 0 then am_ev C 311 64 [.ref 48, .int x1, .int x2, .int x3, .int x4, .int (μ 50 (am_ix ((x1 * (am_c 21)) + x4))), .int r1] [] m2 else am_bI (C 308 [.ref 48, .int (x1 + (am_c 1)), .int (x2 - r1)] m2) (fun r3 m3 => if ((am_c 1) + r3) = x3 then am_ret (some (.int (μ 50 (am_ix ((x1 * (am_c 21)) + x4))))) m3 else am_ev C 311 64 [.ref 48, .int x1, .int x2, .int x3, .int x4, .int (μ 50 (am_ix ((x1 * (am_c 21)) + x4))), .int r1] [] m3)))))) := am_blk (b := [(.iload 4, 2), (.aload_n 0, 1), (.getfield 18, 3), (.iload_n 1, 1), (.iaload, 1), (.if_icmp .ge 59, 3), (.aload_n 0, 1), (.getfield 15, 3), (.iload_n 1, 1), (.bipush 21, 2), (.imul, 1), (.iload 4, 2), (.iadd, 1), (.iaload, 1), (.istore 5, 2), (.iload 5, 2), (.invokestatic 49, 3), (.istore 6, 2), (.iload_n 2, 1), (.iload 6, 2), (.invokestatic 87, 3), (.ifCond .eq 23, 3), (.iconst 1, 1), (.aload_n 0, 1), (.iload_n 1, 1), (.iconst 1, 1), (.iadd, 1), (.iload_n 2, 1), (.iload 6, 2), (.isub, 1), (.invokevirtual 53, 3), (.iadd, 1), (.iload_n 3, 1), (.if_icmp .ne 6, 3), (.iload 5, 2), (.ireturn, 1)]) rfl rfl (rfl : am_z 311 = 0) _ _ _
set_option maxRecDepth 50000 in
theorem q311_64 (C : am_Ct) (x1 : Int32) (x2 : Int32) (x3 : Int32) (x4 : Int32) (x5 : Int32) (x6 : Int32) (μ : am_Mem) : am_ev C 311 64 [.ref 48, .int x1, .int x2, .int x3, .int x4, .int x5, .int x6] [] μ = (am_ev C 311 3 [.ref 48, .int x1, .int x2, .int x3, .int (x4 + (am_c 1)), .int x5, .int x6] [] μ) := am_blk (b := [(.iinc 4 1, 3), (.goto (-64), 3)]) rfl rfl (rfl : am_z 311 = 0) _ _ _
set_option maxRecDepth 50000 in
theorem q311_70 (C : am_Ct) (x1 : Int32) (x2 : Int32) (x3 : Int32) (x4 : Int32) (x5 : Value) (x6 : Value) (μ : am_Mem) : am_ev C 311 70 [.ref 48, .int x1, .int x2, .int x3, .int x4, x5, x6] [] μ = (am_ret (some (.int (am_c 0))) μ) := am_blk (b := [(.iconst 0, 1), (.ireturn, 1)]) rfl rfl (rfl : am_z 311 = 0) _ _ _
theorem e311 (d : Nat) (x1 : Int32) (x2 : Int32) (x3 : Int32) (μ : am_Mem) : am_call (d + 1) 311 [.ref 48, .int x1, .int x2, .int x3] μ = am_ev (am_call d) 311 0 [.ref 48, .int x1, .int x2, .int x3, .null, .null, .null] [] μ := rfl
/-! NoWordTwice$Judgement.firstSpent(LNoWordTwice$Told;I)I  -/
set_option maxRecDepth 50000 in
theorem q4_0 (C : am_Ct) (x1 : Int32) (x2 : Value) (x3 : Value) (μ : am_Mem) : am_ev C 4 0 [.ref 1, .int x1, x2, x3] [] μ = (am_ev C 4 2 [.ref 1, .int x1, .int (am_c 0), x3] [] μ) := am_blk (b := [(.iconst 0, 1), (.istore_n 2, 1)]) rfl rfl (rfl : am_z 4 = 0) _ _ _
set_option maxRecDepth 50000 in
theorem q4_2 (C : am_Ct) (x1 : Int32) (x2 : Int32) (x3 : Value) (μ : am_Mem) : am_ev C 4 2 [.ref 1, .int x1, .int x2, x3] [] μ = (am_gb (Nat.blt (am_ix x1) 12) (if (μ 4 (am_ix x1)) ≤ x2 then am_ev C 4 44 [.ref 1, .int x1, .int x2, x3] [] μ else am_gb (Nat.blt (am_ix ((x1 * (am_c 3)) + x2)) 36) (am_bI (C 713 [.ref 1, .int (μ 5 (am_ix ((x1 * (am_c 3)) + x2))), .int x1] μ) (fun r1 m1 => if r1 < (m1 1 1) then am_ev C 4 38 [.ref 1, .int x1, .int x2, .int (μ 5 (am_ix ((x1 * (am_c 3)) + x2)))] [] m1 else am_ret (some (.int (μ 5 (am_ix ((x1 * (am_c 3)) + x2))))) m1)))) := am_blk (b := [(.iload_n 2, 1), (.aload_n 0, 1), (.getfield 53, 3), (.iload_n 1, 1), (.iaload, 1), (.if_icmp .ge 35, 3), (.aload_n 0, 1), (.getfield 56, 3), (.iload_n 1, 1), (.iconst 3, 1), (.imul, 1), (.iload_n 2, 1), (.iadd, 1), (.iaload, 1), (.istore_n 3, 1), (.aload_n 0, 1), (.iload_n 3, 1), (.iload_n 1, 1), (.invokevirtual 59, 3), (.aload_n 0, 1), (.getfield 63, 3), (.if_icmp .lt 5, 3), (.iload_n 3, 1), (.ireturn, 1)]) rfl rfl (rfl : am_z 4 = 0) _ _ _
set_option maxRecDepth 50000 in
theorem q4_38 (C : am_Ct) (x1 : Int32) (x2 : Int32) (x3 : Int32) (μ : am_Mem) : am_ev C 4 38 [.ref 1, .int x1, .int x2, .int x3] [] μ = (am_ev C 4 2 [.ref 1, .int x1, .int (x2 + (am_c 1)), .int x3] [] μ) := am_blk (b := [(.iinc 2 1, 3), (.goto (-39), 3)]) rfl rfl (rfl : am_z 4 = 0) _ _ _
set_option maxRecDepth 50000 in
theorem q4_44 (C : am_Ct) (x1 : Int32) (x2 : Int32) (x3 : Value) (μ : am_Mem) : am_ev C 4 44 [.ref 1, .int x1, .int x2, x3] [] μ = (am_ret (some (.int (am_c (-1)))) μ) := am_blk (b := [(.iconst (-1), 1), (.ireturn, 1)]) rfl rfl (rfl : am_z 4 = 0) _ _ _
theorem e4 (d : Nat) (x1 : Int32) (μ : am_Mem) : am_call (d + 1) 4 [.ref 1, .int x1] μ = am_ev (am_call d) 4 0 [.ref 1, .int x1, .null, .null] [] μ := rfl
/-! NoWordTwice$Judgement.firstOutside(LNoWordTwice$Told;II)I  -/
set_option maxRecDepth 50000 in
theorem q5_0 (C : am_Ct) (x1 : Int32) (x2 : Int32) (x3 : Value) (x4 : Value) (μ : am_Mem) : am_ev C 5 0 [.ref 1, .int x1, .int x2, x3, x4] [] μ = (am_ev C 5 2 [.ref 1, .int x1, .int x2, .int (am_c 0), x4] [] μ) := am_blk (b := [(.iconst 0, 1), (.istore_n 3, 1)]) rfl rfl (rfl : am_z 5 = 0) _ _ _
set_option maxRecDepth 50000 in
theorem q5_2 (C : am_Ct) (x1 : Int32) (x2 : Int32) (x3 : Int32) (x4 : Value) (μ : am_Mem) : am_ev C 5 2 [.ref 1, .int x1, .int x2, .int x3, x4] [] μ = (am_gb (Nat.blt (am_ix x1) 12) (if (μ 4 (am_ix x1)) ≤ x3 then am_ev C 5 42 [.ref 1, .int x1, .int x2, .int x3, x4] [] μ else am_gb (Nat.blt (am_ix ((x1 * (am_c 3)) + x3)) 36) (if ((x2 >>> ((μ 5 (am_ix ((x1 * (am_c 3)) + x3))) &&& 31)) &&& (am_c 1)) = 0 then am_ret (some (.int (μ 5 (am_ix ((x1 * (am_c 3)) + x3))))) μ else am_ev C 5 36 [.ref 1, .int x1, .int x2, .int x3, .int (μ 5 (am_ix ((x1 * (am_c 3)) + x3)))] [] μ))) := am_blk (b := [(.iload_n 3, 1), (.aload_n 0, 1), (.getfield 53, 3), (.iload_n 1, 1), (.iaload, 1), (.if_icmp .ge 33, 3), (.aload_n 0, 1), (.getfield 56, 3), (.iload_n 1, 1), (.iconst 3, 1), (.imul, 1), (.iload_n 3, 1), (.iadd, 1), (.iaload, 1), (.istore 4, 2), (.iload_n 2, 1), (.iload 4, 2), (.ishr, 1), (.iconst 1, 1), (.iand, 1), (.ifCond .ne 6, 3), (.iload 4, 2), (.ireturn, 1)]) rfl rfl (rfl : am_z 5 = 0) _ _ _
set_option maxRecDepth 50000 in
theorem q5_36 (C : am_Ct) (x1 : Int32) (x2 : Int32) (x3 : Int32) (x4 : Int32) (μ : am_Mem) : am_ev C 5 36 [.ref 1, .int x1, .int x2, .int x3, .int x4] [] μ = (am_ev C 5 2 [.ref 1, .int x1, .int x2, .int (x3 + (am_c 1)), .int x4] [] μ) := am_blk (b := [(.iinc 3 1, 3), (.goto (-37), 3)]) rfl rfl (rfl : am_z 5 = 0) _ _ _
set_option maxRecDepth 50000 in
theorem q5_42 (C : am_Ct) (x1 : Int32) (x2 : Int32) (x3 : Int32) (x4 : Value) (μ : am_Mem) : am_ev C 5 42 [.ref 1, .int x1, .int x2, .int x3, x4] [] μ = (am_ret (some (.int (am_c (-1)))) μ) := am_blk (b := [(.iconst (-1), 1), (.ireturn, 1)]) rfl rfl (rfl : am_z 5 = 0) _ _ _
theorem e5 (d : Nat) (x1 : Int32) (x2 : Int32) (μ : am_Mem) : am_call (d + 1) 5 [.ref 1, .int x1, .int x2] μ = am_ev (am_call d) 5 0 [.ref 1, .int x1, .int x2, .null, .null] [] μ := rfl
/-! NoWordTwice$Thought.takeEntries(LNoWordTwice$Told;)V  -/
set_option maxRecDepth 50000 in
theorem q501_0 (C : am_Ct) (x2 : Value) (μ : am_Mem) : am_ev C 501 0 [.ref 42, .ref 1, x2] [] μ = (am_ev C 501 7 [.ref 42, .ref 1, .int (am_c 0)] [] (am_up μ 42 2 (am_c 0))) := am_blk (b := [(.aload_n 0, 1), (.iconst 0, 1), (.putfield 21, 3), (.iconst 0, 1), (.istore_n 2, 1)]) rfl rfl (rfl : am_z 501 = 0) _ _ _
set_option maxRecDepth 50000 in
theorem q501_7 (C : am_Ct) (x2 : Int32) (μ : am_Mem) : am_ev C 501 7 [.ref 42, .ref 1, .int x2] [] μ = (if (μ 1 7) ≤ x2 then am_ev C 501 27 [.ref 42, .ref 1, .int x2] [] μ else am_bV (C 503 [.ref 42, .ref 1, .int x2] μ) (fun m1 => am_ev C 501 7 [.ref 42, .ref 1, .int (x2 + (am_c 1))] [] m1)) := am_blk (b := [(.iload_n 2, 1), (.aload_n 1, 1), (.getfield 25, 3), (.if_icmp .ge 15, 3), (.aload_n 0, 1), (.aload_n 1, 1), (.iload_n 2, 1), (.invokevirtual 30, 3), (.iinc 2 1, 3), (.goto (-17), 3)]) rfl rfl (rfl : am_z 501 = 0) _ _ _
set_option maxRecDepth 50000 in
theorem q501_27 (C : am_Ct) (x2 : Int32) (μ : am_Mem) : am_ev C 501 27 [.ref 42, .ref 1, .int x2] [] μ = (am_ret none μ) := am_blk (b := [(.return_, 1)]) rfl rfl (rfl : am_z 501 = 0) _ _ _
theorem e501 (d : Nat) (μ : am_Mem) : am_call (d + 1) 501 [.ref 42, .ref 1] μ = am_ev (am_call d) 501 0 [.ref 42, .ref 1, .null] [] μ := rfl
/-! NoWordTwice$Thought.takeFixedEntries(LNoWordTwice$Told;)V  -/
set_option maxRecDepth 50000 in
theorem q502_0 (C : am_Ct) (x2 : Value) (μ : am_Mem) : am_ev C 502 0 [.ref 42, .ref 1, x2] [] μ = (am_ev C 502 7 [.ref 42, .ref 1, .int (am_c 0)] [] (am_up μ 42 2 (am_c 0))) := am_blk (b := [(.aload_n 0, 1), (.iconst 0, 1), (.putfield 21, 3), (.iconst 0, 1), (.istore_n 2, 1)]) rfl rfl (rfl : am_z 502 = 0) _ _ _
set_option maxRecDepth 50000 in
theorem q502_7 (C : am_Ct) (x2 : Int32) (μ : am_Mem) : am_ev C 502 7 [.ref 42, .ref 1, .int x2] [] μ = (if (μ 1 7) ≤ x2 then am_ev C 502 35 [.ref 42, .ref 1, .int x2] [] μ else am_bI (C 717 [.ref 1, .int x2] μ) (fun r1 m1 => if r1 = 0 then am_ev C 502 29 [.ref 42, .ref 1, .int x2] [] m1 else am_bV (C 503 [.ref 42, .ref 1, .int x2] m1) (fun m2 => am_ev C 502 29 [.ref 42, .ref 1, .int x2] [] m2))) := am_blk (b := [(.iload_n 2, 1), (.aload_n 1, 1), (.getfield 25, 3), (.if_icmp .ge 23, 3), (.aload_n 1, 1), (.iload_n 2, 1), (.invokevirtual 34, 3), (.ifCond .eq 9, 3), (.aload_n 0, 1), (.aload_n 1, 1), (.iload_n 2, 1), (.invokevirtual 30, 3)]) rfl rfl (rfl : am_z 502 = 0) _ _ _
set_option maxRecDepth 50000 in
theorem q502_29 (C : am_Ct) (x2 : Int32) (μ : am_Mem) : am_ev C 502 29 [.ref 42, .ref 1, .int x2] [] μ = (am_ev C 502 7 [.ref 42, .ref 1, .int (x2 + (am_c 1))] [] μ) := am_blk (b := [(.iinc 2 1, 3), (.goto (-25), 3)]) rfl rfl (rfl : am_z 502 = 0) _ _ _
set_option maxRecDepth 50000 in
theorem q502_35 (C : am_Ct) (x2 : Int32) (μ : am_Mem) : am_ev C 502 35 [.ref 42, .ref 1, .int x2] [] μ = (am_ret none μ) := am_blk (b := [(.return_, 1)]) rfl rfl (rfl : am_z 502 = 0) _ _ _
theorem e502 (d : Nat) (μ : am_Mem) : am_call (d + 1) 502 [.ref 42, .ref 1] μ = am_ev (am_call d) 502 0 [.ref 42, .ref 1, .null] [] μ := rfl
/-! NoWordTwice$Thought.addRule(LNoWordTwice$Told;I)V  -/
set_option maxRecDepth 50000 in
theorem q503_0 (C : am_Ct) (x2 : Int32) (μ : am_Mem) : am_ev C 503 0 [.ref 42, .ref 1, .int x2] [] μ = (am_bI (C 711 [.ref 1, .int x2] μ) (fun r1 m1 => am_gb (Nat.blt (am_ix (μ 42 2)) 12) (am_gb (Nat.blt (am_ix x2) 12) (am_gb (Nat.blt (am_ix ((am_up m1 43 (am_ix (μ 42 2)) r1) 42 2)) 12) (am_ret none (am_up (am_up (am_up m1 43 (am_ix (μ 42 2)) r1) 44 (am_ix ((am_up m1 43 (am_ix (μ 42 2)) r1) 42 2)) (((am_c 1) : Int32) <<< (((am_up m1 43 (am_ix (μ 42 2)) r1) 3 (am_ix x2)) &&& 31))) 42 2 (((am_up (am_up m1 43 (am_ix (μ 42 2)) r1) 44 (am_ix ((am_up m1 43 (am_ix (μ 42 2)) r1) 42 2)) (((am_c 1) : Int32) <<< (((am_up m1 43 (am_ix (μ 42 2)) r1) 3 (am_ix x2)) &&& 31))) 42 2) + (am_c 1)))))))) := am_blk (b := [(.aload_n 0, 1), (.getfield 9, 3), (.aload_n 0, 1), (.getfield 21, 3), (.aload_n 1, 1), (.iload_n 2, 1), (.invokevirtual 38, 3), (.iastore, 1), (.aload_n 0, 1), (.getfield 15, 3), (.aload_n 0, 1), (.getfield 21, 3), (.iconst 1, 1), (.aload_n 1, 1), (.getfield 42, 3), (.iload_n 2, 1), (.iaload, 1), (.ishl, 1), (.iastore, 1), (.aload_n 0, 1), (.dup, 1), (.getfield 21, 3), (.iconst 1, 1), (.iadd, 1), (.putfield 21, 3), (.return_, 1)]) rfl rfl (rfl : am_z 503 = 0) _ _ _
theorem e503 (d : Nat) (x2 : Int32) (μ : am_Mem) : am_call (d + 1) 503 [.ref 42, .ref 1, .int x2] μ = am_ev (am_call d) 503 0 [.ref 42, .ref 1, .int x2] [] μ := rfl
/-! NoWordTwice$Thought.allNeeds()I  -/
set_option maxRecDepth 50000 in
theorem q504_0 (C : am_Ct) (x1 : Value) (x2 : Value) (μ : am_Mem) : am_ev C 504 0 [.ref 42, x1, x2] [] μ = (am_ev C 504 4 [.ref 42, .int (am_c 0), .int (am_c 0)] [] μ) := am_blk (b := [(.iconst 0, 1), (.istore_n 1, 1), (.iconst 0, 1), (.istore_n 2, 1)]) rfl rfl (rfl : am_z 504 = 0) _ _ _
set_option maxRecDepth 50000 in
theorem q504_4 (C : am_Ct) (x1 : Int32) (x2 : Int32) (μ : am_Mem) : am_ev C 504 4 [.ref 42, .int x1, .int x2] [] μ = (if (μ 42 2) ≤ x2 then am_ev C 504 27 [.ref 42, .int x1, .int x2] [] μ else am_gb (Nat.blt (am_ix x2) 12) (am_ev C 504 4 [.ref 42, .int (x1 ||| (μ 43 (am_ix x2))), .int (x2 + (am_c 1))] [] μ)) := am_blk (b := [(.iload_n 2, 1), (.aload_n 0, 1), (.getfield 21, 3), (.if_icmp .ge 18, 3), (.iload_n 1, 1), (.aload_n 0, 1), (.getfield 9, 3), (.iload_n 2, 1), (.iaload, 1), (.ior, 1), (.istore_n 1, 1), (.iinc 2 1, 3), (.goto (-20), 3)]) rfl rfl (rfl : am_z 504 = 0) _ _ _
set_option maxRecDepth 50000 in
theorem q504_27 (C : am_Ct) (x1 : Int32) (x2 : Int32) (μ : am_Mem) : am_ev C 504 27 [.ref 42, .int x1, .int x2] [] μ = (am_ret (some (.int x1)) μ) := am_blk (b := [(.iload_n 1, 1), (.ireturn, 1)]) rfl rfl (rfl : am_z 504 = 0) _ _ _
theorem e504 (d : Nat) (μ : am_Mem) : am_call (d + 1) 504 [.ref 42] μ = am_ev (am_call d) 504 0 [.ref 42, .null, .null] [] μ := rfl
/-! NoWordTwice$Thought.learnFrom(I)V  -/
set_option maxRecDepth 50000 in
theorem q505_0 (C : am_Ct) (x1 : Int32) (x2 : Value) (x3 : Value) (μ : am_Mem) : am_ev C 505 0 [.ref 42, .int x1, x2, x3] [] μ = (am_ev C 505 12 [.ref 42, .int x1, .int (am_c 0), x3] [] (am_up (am_up μ 42 6 x1) 42 7 (am_c 0))) := am_blk (b := [(.aload_n 0, 1), (.iload_n 1, 1), (.putfield 45, 3), (.aload_n 0, 1), (.iconst 0, 1), (.putfield 48, 3), (.iconst 0, 1), (.istore_n 2, 1)]) rfl rfl (rfl : am_z 505 = 0) _ _ _
set_option maxRecDepth 50000 in
theorem q505_12 (C : am_Ct) (x1 : Int32) (x2 : Int32) (x3 : Value) (μ : am_Mem) : am_ev C 505 12 [.ref 42, .int x1, .int x2, x3] [] μ = (if (μ 42 2) ≤ x2 then am_ev C 505 64 [.ref 42, .int x1, .int x2, x3] [] μ else am_bI (C 506 [.ref 42, .int (μ 42 6)] μ) (fun r1 m1 => if ((μ 42 6) ||| r1) = (m1 42 6) then am_ret none m1 else am_ev C 505 43 [.ref 42, .int x1, .int x2, .int ((μ 42 6) ||| r1)] [] m1)) := am_blk (b := [(.iload_n 2, 1), (.aload_n 0, 1), (.getfield 21, 3), (.if_icmp .ge 47, 3), (.aload_n 0, 1), (.getfield 45, 3), (.aload_n 0, 1), (.aload_n 0, 1), (.getfield 45, 3), (.invokevirtual 51, 3), (.ior, 1), (.istore_n 3, 1), (.iload_n 3, 1), (.aload_n 0, 1), (.getfield 45, 3), (.if_icmp .ne 4, 3), (.return_, 1)]) rfl rfl (rfl : am_z 505 = 0) _ _ _
set_option maxRecDepth 50000 in
theorem q505_43 (C : am_Ct) (x1 : Int32) (x2 : Int32) (x3 : Int32) (μ : am_Mem) : am_ev C 505 43 [.ref 42, .int x1, .int x2, .int x3] [] μ = (am_ev C 505 12 [.ref 42, .int x1, .int (x2 + (am_c 1)), .int x3] [] (am_up (am_up μ 42 6 x3) 42 7 (((am_up μ 42 6 x3) 42 7) + (am_c 1)))) := am_blk (b := [(.aload_n 0, 1), (.iload_n 3, 1), (.putfield 45, 3), (.aload_n 0, 1), (.dup, 1), (.getfield 48, 3), (.iconst 1, 1), (.iadd, 1), (.putfield 48, 3), (.iinc 2 1, 3), (.goto (-49), 3)]) rfl rfl (rfl : am_z 505 = 0) _ _ _
set_option maxRecDepth 50000 in
theorem q505_64 (C : am_Ct) (x1 : Int32) (x2 : Int32) (x3 : Value) (μ : am_Mem) : am_ev C 505 64 [.ref 42, .int x1, .int x2, x3] [] μ = (am_ret none μ) := am_blk (b := [(.return_, 1)]) rfl rfl (rfl : am_z 505 = 0) _ _ _
theorem e505 (d : Nat) (x1 : Int32) (μ : am_Mem) : am_call (d + 1) 505 [.ref 42, .int x1] μ = am_ev (am_call d) 505 0 [.ref 42, .int x1, .null, .null] [] μ := rfl
/-! NoWordTwice$Thought.given(I)I  -/
set_option maxRecDepth 50000 in
theorem q506_0 (C : am_Ct) (x1 : Int32) (x2 : Value) (x3 : Value) (μ : am_Mem) : am_ev C 506 0 [.ref 42, .int x1, x2, x3] [] μ = (am_ev C 506 4 [.ref 42, .int x1, .int (am_c 0), .int (am_c 0)] [] μ) := am_blk (b := [(.iconst 0, 1), (.istore_n 2, 1), (.iconst 0, 1), (.istore_n 3, 1)]) rfl rfl (rfl : am_z 506 = 0) _ _ _
set_option maxRecDepth 50000 in
theorem q506_4 (C : am_Ct) (x1 : Int32) (x2 : Int32) (x3 : Int32) (μ : am_Mem) : am_ev C 506 4 [.ref 42, .int x1, .int x2, .int x3] [] μ = (if (μ 42 2) ≤ x3 then am_ev C 506 40 [.ref 42, .int x1, .int x2, .int x3] [] μ else am_gb (Nat.blt (am_ix x3) 12) (if ((μ 43 (am_ix x3)) &&& (x1 ^^^ (am_c (-1)))) = 0 then am_gb (Nat.blt (am_ix x3) 12) (am_ev C 506 34 [.ref 42, .int x1, .int (x2 ||| (μ 44 (am_ix x3))), .int x3] [] μ) else am_ev C 506 34 [.ref 42, .int x1, .int x2, .int x3] [] μ)) := am_blk (b := [(.iload_n 3, 1), (.aload_n 0, 1), (.getfield 21, 3), (.if_icmp .ge 31, 3), (.aload_n 0, 1), (.getfield 9, 3), (.iload_n 3, 1), (.iaload, 1), (.iload_n 1, 1), (.iconst (-1), 1), (.ixor, 1), (.iand, 1), (.ifCond .ne 12, 3), (.iload_n 2, 1), (.aload_n 0, 1), (.getfield 15, 3), (.iload_n 3, 1), (.iaload, 1), (.ior, 1), (.istore_n 2, 1)]) rfl rfl (rfl : am_z 506 = 0) _ _ _
set_option maxRecDepth 50000 in
theorem q506_34 (C : am_Ct) (x1 : Int32) (x2 : Int32) (x3 : Int32) (μ : am_Mem) : am_ev C 506 34 [.ref 42, .int x1, .int x2, .int x3] [] μ = (am_ev C 506 4 [.ref 42, .int x1, .int x2, .int (x3 + (am_c 1))] [] μ) := am_blk (b := [(.iinc 3 1, 3), (.goto (-33), 3)]) rfl rfl (rfl : am_z 506 = 0) _ _ _
set_option maxRecDepth 50000 in
theorem q506_40 (C : am_Ct) (x1 : Int32) (x2 : Int32) (x3 : Int32) (μ : am_Mem) : am_ev C 506 40 [.ref 42, .int x1, .int x2, .int x3] [] μ = (am_ret (some (.int x2)) μ) := am_blk (b := [(.iload_n 2, 1), (.ireturn, 1)]) rfl rfl (rfl : am_z 506 = 0) _ _ _
theorem e506 (d : Nat) (x1 : Int32) (μ : am_Mem) : am_call (d + 1) 506 [.ref 42, .int x1] μ = am_ev (am_call d) 506 0 [.ref 42, .int x1, .null, .null] [] μ := rfl
/-! NoWordTwice$Thought.orderEntries(LNoWordTwice$Told;)V  -/
set_option maxRecDepth 50000 in
theorem q507_0 (C : am_Ct) (x2 : Value) (x3 : Value) (x4 : Value) (μ : am_Mem) : am_ev C 507 0 [.ref 42, .ref 1, x2, x3, x4] [] μ = (am_bV (C 501 [.ref 42, .ref 1] μ) (fun m1 => am_ev C 507 29 [.ref 42, .ref 1, .int ((am_up (am_up m1 42 4 (am_c 0)) 42 5 ((((am_c 1) : Int32) <<< (((am_up m1 42 4 (am_c 0)) 42 2) &&& 31)) - (am_c 1))) 1 6), .int (am_c 0), x4] [] (am_up (am_up m1 42 4 (am_c 0)) 42 5 ((((am_c 1) : Int32) <<< (((am_up m1 42 4 (am_c 0)) 42 2) &&& 31)) - (am_c 1))))) := am_blk (b := [(.aload_n 0, 1), (.aload_n 1, 1), (.invokevirtual 54, 3), (.aload_n 0, 1), (.iconst 0, 1), (.putfield 58, 3), (.aload_n 0, 1), (.iconst 1, 1), (.aload_n 0, 1), (.getfield 21, 3), (.ishl, 1), (.iconst 1, 1), (.isub, 1), (.putfield 61, 3), (.aload_n 1, 1), (.getfield 64, 3), (.istore_n 2, 1), (.iconst 0, 1), (.istore_n 3, 1)]) rfl rfl (rfl : am_z 507 = 0) _ _ _
set_option maxRecDepth 50000 in
theorem q507_29 (C : am_Ct) (x2 : Int32) (x3 : Int32) (x4 : Value) (μ : am_Mem) : am_ev C 507 29 [.ref 42, .ref 1, .int x2, .int x3, x4] [] μ = (if (μ 42 2) ≤ x3 then am_ev C 507 103 [.ref 42, .ref 1, .int x2, .int x3, x4] [] μ else am_bI (C 508 [.ref 42, .int x2] μ) (fun r1 m1 => if r1 = (am_c (-1)) then am_ret none m1 else am_ev C 507 51 [.ref 42, .ref 1, .int x2, .int x3, .int r1] [] m1)) := am_blk (b := [(.iload_n 3, 1), (.aload_n 0, 1), (.getfield 21, 3), (.if_icmp .ge 69, 3), (.aload_n 0, 1), (.iload_n 2, 1), (.invokevirtual 67, 3), (.istore 4, 2), (.iload 4, 2), (.iconst (-1), 1), (.if_icmp .ne 4, 3), (.return_, 1)]) rfl rfl (rfl : am_z 507 = 0) _ _ _
set_option maxRecDepth 50000 in
theorem q507_51 (C : am_Ct) (x2 : Int32) (x3 : Int32) (x4 : Int32) (μ : am_Mem) : am_ev C 507 51 [.ref 42, .ref 1, .int x2, .int x3, .int x4] [] μ = (am_gb (Nat.blt (am_ix (μ 42 4)) 12) (am_gb (Nat.blt (am_ix x4) 12) (am_ev C 507 29 [.ref 42, .ref 1, .int (x2 ||| ((am_up (am_up (am_up μ 45 (am_ix (μ 42 4)) x4) 42 4 (((am_up μ 45 (am_ix (μ 42 4)) x4) 42 4) + (am_c 1))) 42 5 (((am_up (am_up μ 45 (am_ix (μ 42 4)) x4) 42 4 (((am_up μ 45 (am_ix (μ 42 4)) x4) 42 4) + (am_c 1))) 42 5) &&& ((((am_c 1) : Int32) <<< (x4 &&& 31)) ^^^ (am_c (-1))))) 44 (am_ix x4))), .int (x3 + (am_c 1)), .int x4] [] (am_up (am_up (am_up μ 45 (am_ix (μ 42 4)) x4) 42 4 (((am_up μ 45 (am_ix (μ 42 4)) x4) 42 4) + (am_c 1))) 42 5 (((am_up (am_up μ 45 (am_ix (μ 42 4)) x4) 42 4 (((am_up μ 45 (am_ix (μ 42 4)) x4) 42 4) + (am_c 1))) 42 5) &&& ((((am_c 1) : Int32) <<< (x4 &&& 31)) ^^^ (am_c (-1)))))))) := am_blk (b := [(.aload_n 0, 1), (.getfield 18, 3), (.aload_n 0, 1), (.getfield 58, 3), (.iload 4, 2), (.iastore, 1), (.aload_n 0, 1), (.dup, 1), (.getfield 58, 3), (.iconst 1, 1), (.iadd, 1), (.putfield 58, 3), (.aload_n 0, 1), (.dup, 1), (.getfield 61, 3), (.iconst 1, 1), (.iload 4, 2), (.ishl, 1), (.iconst (-1), 1), (.ixor, 1), (.iand, 1), (.putfield 61, 3), (.iload_n 2, 1), (.aload_n 0, 1), (.getfield 15, 3), (.iload 4, 2), (.iaload, 1), (.ior, 1), (.istore_n 2, 1), (.iinc 3 1, 3), (.goto (-71), 3)]) rfl rfl (rfl : am_z 507 = 0) _ _ _
set_option maxRecDepth 50000 in
theorem q507_103 (C : am_Ct) (x2 : Int32) (x3 : Int32) (x4 : Value) (μ : am_Mem) : am_ev C 507 103 [.ref 42, .ref 1, .int x2, .int x3, x4] [] μ = (am_ret none μ) := am_blk (b := [(.return_, 1)]) rfl rfl (rfl : am_z 507 = 0) _ _ _
theorem e507 (d : Nat) (μ : am_Mem) : am_call (d + 1) 507 [.ref 42, .ref 1] μ = am_ev (am_call d) 507 0 [.ref 42, .ref 1, .null, .null, .null] [] μ := rfl
/-! NoWordTwice$Thought.firstReady(I)I  -/
set_option maxRecDepth 50000 in
theorem q508_0 (C : am_Ct) (x1 : Int32) (x2 : Value) (μ : am_Mem) : am_ev C 508 0 [.ref 42, .int x1, x2] [] μ = (am_ev C 508 2 [.ref 42, .int x1, .int (am_c 0)] [] μ) := am_blk (b := [(.iconst 0, 1), (.istore_n 2, 1)]) rfl rfl (rfl : am_z 508 = 0) _ _ _
set_option maxRecDepth 50000 in
theorem q508_2 (C : am_Ct) (x1 : Int32) (x2 : Int32) (μ : am_Mem) : am_ev C 508 2 [.ref 42, .int x1, .int x2] [] μ = (if (μ 42 2) ≤ x2 then am_ev C 508 42 [.ref 42, .int x1, .int x2] [] μ else if (((μ 42 5) >>> (x2 &&& 31)) &&& (am_c 1)) = 0 then am_ev C 508 36 [.ref 42, .int x1, .int x2] [] μ else am_gb (Nat.blt (am_ix x2) 12) (if ((μ 43 (am_ix x2)) &&& (x1 ^^^ (am_c (-1)))) = 0 then am_ret (some (.int x2)) μ else am_ev C 508 36 [.ref 42, .int x1, .int x2] [] μ)) := am_blk (b := [(.iload_n 2, 1), (.aload_n 0, 1), (.getfield 21, 3), (.if_icmp .ge 35, 3), (.aload_n 0, 1), (.getfield 61, 3), (.iload_n 2, 1), (.ishr, 1), (.iconst 1, 1), (.iand, 1), (.ifCond .eq 18, 3), (.aload_n 0, 1), (.getfield 9, 3), (.iload_n 2, 1), (.iaload, 1), (.iload_n 1, 1), (.iconst (-1), 1), (.ixor, 1), (.iand, 1), (.ifCond .ne 5, 3), (.iload_n 2, 1), (.ireturn, 1)]) rfl rfl (rfl : am_z 508 = 0) _ _ _
set_option maxRecDepth 50000 in
theorem q508_36 (C : am_Ct) (x1 : Int32) (x2 : Int32) (μ : am_Mem) : am_ev C 508 36 [.ref 42, .int x1, .int x2] [] μ = (am_ev C 508 2 [.ref 42, .int x1, .int (x2 + (am_c 1))] [] μ) := am_blk (b := [(.iinc 2 1, 3), (.goto (-37), 3)]) rfl rfl (rfl : am_z 508 = 0) _ _ _
set_option maxRecDepth 50000 in
theorem q508_42 (C : am_Ct) (x1 : Int32) (x2 : Int32) (μ : am_Mem) : am_ev C 508 42 [.ref 42, .int x1, .int x2] [] μ = (am_ret (some (.int (am_c (-1)))) μ) := am_blk (b := [(.iconst (-1), 1), (.ireturn, 1)]) rfl rfl (rfl : am_z 508 = 0) _ _ _
theorem e508 (d : Nat) (x1 : Int32) (μ : am_Mem) : am_call (d + 1) 508 [.ref 42, .int x1] μ = am_ev (am_call d) 508 0 [.ref 42, .int x1, .null] [] μ := rfl
/-! NoWordTwice$Thought.fewest(II)I  -/
set_option maxRecDepth 50000 in
theorem q509_0 (C : am_Ct) (x1 : Int32) (x2 : Int32) (x3 : Value) (x4 : Value) (x5 : Value) (x6 : Value) (x7 : Value) (μ : am_Mem) : am_ev C 509 0 [.ref 42, .int x1, .int x2, x3, x4, x5, x6, x7] [] μ = (am_ev C 509 10 [.ref 42, .int x1, .int x2, .int (am_c 0), .int (am_c 0), x5, x6, x7] [] (am_up μ 42 8 x2)) := am_blk (b := [(.aload_n 0, 1), (.iload_n 2, 1), (.putfield 70, 3), (.iconst 0, 1), (.istore_n 3, 1), (.iconst 0, 1), (.istore 4, 2)]) rfl rfl (rfl : am_z 509 = 0) _ _ _
set_option maxRecDepth 50000 in
theorem q509_10 (C : am_Ct) (x1 : Int32) (x2 : Int32) (x3 : Int32) (x4 : Int32) (x5 : Value) (x6 : Value) (x7 : Value) (μ : am_Mem) : am_ev C 509 10 [.ref 42, .int x1, .int x2, .int x3, .int x4, x5, x6, x7] [] μ = (if (μ 42 2) ≤ x4 then am_ev C 509 35 [.ref 42, .int x1, .int x2, .int x3, .int x4, x5, x6, x7] [] μ else am_gb (Nat.blt (am_ix x4) 12) (am_ev C 509 10 [.ref 42, .int x1, .int x2, .int (x3 ||| (μ 44 (am_ix x4))), .int (x4 + (am_c 1)), x5, x6, x7] [] μ)) := am_blk (b := [(.iload 4, 2), (.aload_n 0, 1), (.getfield 21, 3), (.if_icmp .ge 19, 3), (.iload_n 3, 1), (.aload_n 0, 1), (.getfield 15, 3), (.iload 4, 2), (.iaload, 1), (.ior, 1), (.istore_n 3, 1), (.iinc 4 1, 3), (.goto (-22), 3)]) rfl rfl (rfl : am_z 509 = 0) _ _ _
set_option maxRecDepth 50000 in
theorem q509_35 (C : am_Ct) (x1 : Int32) (x2 : Int32) (x3 : Int32) (x4 : Int32) (x5 : Value) (x6 : Value) (x7 : Value) (μ : am_Mem) : am_ev C 509 35 [.ref 42, .int x1, .int x2, .int x3, .int x4, x5, x6, x7] [] μ = (am_bI (C 511 [.ref 42, .int (x1 ||| ((x2 &&& (x1 ^^^ (am_c (-1)))) &&& (x3 ^^^ (am_c (-1)))))] μ) (fun r1 m1 => am_ev C 509 69 [.ref 42, .int x1, .int x2, .int x3, .int ((x2 &&& (x1 ^^^ (am_c (-1)))) &&& (x3 ^^^ (am_c (-1)))), .int r1, .int (am_c 0), x7] [] (am_up m1 42 9 (x2 &&& (r1 ^^^ (am_c (-1))))))) := am_blk (b := [(.iload_n 2, 1), (.iload_n 1, 1), (.iconst (-1), 1), (.ixor, 1), (.iand, 1), (.iload_n 3, 1), (.iconst (-1), 1), (.ixor, 1), (.iand, 1), (.istore 4, 2), (.aload_n 0, 1), (.iload_n 1, 1), (.iload 4, 2), (.ior, 1), (.invokevirtual 73, 3), (.istore 5, 2), (.aload_n 0, 1), (.iload_n 2, 1), (.iload 5, 2), (.iconst (-1), 1), (.ixor, 1), (.iand, 1), (.putfield 76, 3), (.iconst 0, 1), (.istore 6, 2)]) rfl rfl (rfl : am_z 509 = 0) _ _ _
set_option maxRecDepth 50000 in
theorem q509_69 (C : am_Ct) (x1 : Int32) (x2 : Int32) (x3 : Int32) (x4 : Int32) (x5 : Int32) (x6 : Int32) (x7 : Value) (μ : am_Mem) : am_ev C 509 69 [.ref 42, .int x1, .int x2, .int x3, .int x4, .int x5, .int x6, x7] [] μ = (if (μ 42 2) ≤ x6 then am_ev C 509 120 [.ref 42, .int x1, .int x2, .int x3, .int x4, .int x5, .int x6, x7] [] μ else am_gb (Nat.blt (am_ix x6) 12) (if ((μ 44 (am_ix x6)) &&& (x5 ^^^ (am_c (-1)))) = 0 then am_ev C 509 114 [.ref 42, .int x1, .int x2, .int x3, .int x4, .int x5, .int x6, x7] [] μ else am_gb (Nat.blt (am_ix x6) 12) (am_ev C 509 114 [.ref 42, .int x1, .int x2, .int x3, .int x4, .int x5, .int x6, x7] [] (am_up μ 42 9 ((μ 42 9) ||| ((μ 43 (am_ix x6)) &&& (x5 ^^^ (am_c (-1))))))))) := am_blk (b := [(.iload 6, 2), (.aload_n 0, 1), (.getfield 21, 3), (.if_icmp .ge 45, 3), (.aload_n 0, 1), (.getfield 15, 3), (.iload 6, 2), (.iaload, 1), (.iload 5, 2), (.iconst (-1), 1), (.ixor, 1), (.iand, 1), (.ifCond .eq 24, 3), (.aload_n 0, 1), (.dup, 1), (.getfield 76, 3), (.aload_n 0, 1), (.getfield 9, 3), (.iload 6, 2), (.iaload, 1), (.iload 5, 2), (.iconst (-1), 1), (.ixor, 1), (.iand, 1), (.ior, 1), (.putfield 76, 3)]) rfl rfl (rfl : am_z 509 = 0) _ _ _
set_option maxRecDepth 50000 in
theorem q509_114 (C : am_Ct) (x1 : Int32) (x2 : Int32) (x3 : Int32) (x4 : Int32) (x5 : Int32) (x6 : Int32) (x7 : Value) (μ : am_Mem) : am_ev C 509 114 [.ref 42, .int x1, .int x2, .int x3, .int x4, .int x5, .int x6, x7] [] μ = (am_ev C 509 69 [.ref 42, .int x1, .int x2, .int x3, .int x4, .int x5, .int (x6 + (am_c 1)), x7] [] μ) := am_blk (b := [(.iinc 6 1, 3), (.goto (-48), 3)]) rfl rfl (rfl : am_z 509 = 0) _ _ _
set_option maxRecDepth 50000 in
theorem q509_120 (C : am_Ct) (x1 : Int32) (x2 : Int32) (x3 : Int32) (x4 : Int32) (x5 : Int32) (x6 : Int32) (x7 : Value) (μ : am_Mem) : am_ev C 509 120 [.ref 42, .int x1, .int x2, .int x3, .int x4, .int x5, .int x6, x7] [] μ = (am_ev C 509 123 [.ref 42, .int x1, .int x2, .int x3, .int x4, .int x5, .int (am_c 0), x7] [] μ) := am_blk (b := [(.iconst 0, 1), (.istore 6, 2)]) rfl rfl (rfl : am_z 509 = 0) _ _ _
set_option maxRecDepth 50000 in
theorem q509_123 (C : am_Ct) (x1 : Int32) (x2 : Int32) (x3 : Int32) (x4 : Int32) (x5 : Int32) (x6 : Int32) (x7 : Value) (μ : am_Mem) : am_ev C 509 123 [.ref 42, .int x1, .int x2, .int x3, .int x4, .int x5, .int x6, x7] [] μ = (if (am_c 16) < x6 then am_ev C 509 160 [.ref 42, .int x1, .int x2, .int x3, .int x4, .int x5, .int x6, x7] [] μ else am_bI (C 510 [.ref 42, .int x5, .int x6, .int (am_c 16)] μ) (fun r1 m1 => if r1 = (am_c (-1)) then am_ev C 509 154 [.ref 42, .int x1, .int x2, .int x3, .int x4, .int x5, .int x6, .int r1] [] m1 else am_ret (some (.int (x4 ||| r1))) m1)) := am_blk (b := [(.iload 6, 2), (.bipush 16, 2), (.if_icmp .gt 33, 3), (.aload_n 0, 1), (.iload 5, 2), (.iload 6, 2), (.bipush 16, 2), (.invokevirtual 79, 3), (.istore 7, 2), (.iload 7, 2), (.iconst (-1), 1), (.if_icmp .eq 9, 3), (.iload 4, 2), (.iload 7, 2), (.ior, 1), (.ireturn, 1)]) rfl rfl (rfl : am_z 509 = 0) _ _ _
set_option maxRecDepth 50000 in
theorem q509_154 (C : am_Ct) (x1 : Int32) (x2 : Int32) (x3 : Int32) (x4 : Int32) (x5 : Int32) (x6 : Int32) (x7 : Int32) (μ : am_Mem) : am_ev C 509 154 [.ref 42, .int x1, .int x2, .int x3, .int x4, .int x5, .int x6, .int x7] [] μ = (am_ev C 509 123 [.ref 42, .int x1, .int x2, .int x3, .int x4, .int x5, .int (x6 + (am_c 1)), .int x7] [] μ) := am_blk (b := [(.iinc 6 1, 3), (.goto (-34), 3)]) rfl rfl (rfl : am_z 509 = 0) _ _ _
set_option maxRecDepth 50000 in
theorem q509_160 (C : am_Ct) (x1 : Int32) (x2 : Int32) (x3 : Int32) (x4 : Int32) (x5 : Int32) (x6 : Int32) (x7 : Value) (μ : am_Mem) : am_ev C 509 160 [.ref 42, .int x1, .int x2, .int x3, .int x4, .int x5, .int x6, x7] [] μ = (am_ret (some (.int (x4 ||| (μ 42 9)))) μ) := am_blk (b := [(.iload 4, 2), (.aload_n 0, 1), (.getfield 76, 3), (.ior, 1), (.ireturn, 1)]) rfl rfl (rfl : am_z 509 = 0) _ _ _
theorem e509 (d : Nat) (x1 : Int32) (x2 : Int32) (μ : am_Mem) : am_call (d + 1) 509 [.ref 42, .int x1, .int x2] μ = am_ev (am_call d) 509 0 [.ref 42, .int x1, .int x2, .null, .null, .null, .null, .null] [] μ := rfl
/-! NoWordTwice$Thought.pick(III)I  -/
set_option maxRecDepth 50000 in
theorem q510_0 (C : am_Ct) (x1 : Int32) (x2 : Int32) (x3 : Int32) (x4 : Value) (x5 : Value) (μ : am_Mem) : am_ev C 510 0 [.ref 42, .int x1, .int x2, .int x3, x4, x5] [] μ = (if x2 = 0 then if ((μ 42 8) &&& (x1 ^^^ (am_c (-1)))) = 0 then am_ev C 510 20 [.ref 42, .int x1, .int x2, .int x3, x4, x5] [.int (am_c 0)] μ else am_ev C 510 19 [.ref 42, .int x1, .int x2, .int x3, x4, x5] [] μ else am_ev C 510 21 [.ref 42, .int x1, .int x2, .int x3, x4, x5] [] μ) := am_blk (b := [(.iload_n 2, 1), (.ifCond .ne 20, 3), (.aload_n 0, 1), (.getfield 70, 3), (.iload_n 1, 1), (.iconst (-1), 1), (.ixor, 1), (.iand, 1), (.ifCond .ne 7, 3), (.iconst 0, 1), (.goto 4, 3)]) rfl rfl (rfl : am_z 510 = 0) _ _ _
set_option maxRecDepth 50000 in
theorem q510_19 (C : am_Ct) (x1 : Int32) (x2 : Int32) (x3 : Int32) (x4 : Value) (x5 : Value) (μ : am_Mem) : am_ev C 510 19 [.ref 42, .int x1, .int x2, .int x3, x4, x5] [] μ = (am_ev C 510 20 [.ref 42, .int x1, .int x2, .int x3, x4, x5] [.int (am_c (-1))] μ) := am_blk (b := [(.iconst (-1), 1)]) rfl rfl (rfl : am_z 510 = 0) _ _ _
set_option maxRecDepth 50000 in
theorem q510_20 (C : am_Ct) (x1 : Int32) (x2 : Int32) (x3 : Int32) (x4 : Value) (x5 : Value) (s0 : Int32) (μ : am_Mem) : am_ev C 510 20 [.ref 42, .int x1, .int x2, .int x3, x4, x5] [.int s0] μ = (am_ret (some (.int s0)) μ) := am_blk (b := [(.ireturn, 1)]) rfl rfl (rfl : am_z 510 = 0) _ _ _
set_option maxRecDepth 50000 in
theorem q510_21 (C : am_Ct) (x1 : Int32) (x2 : Int32) (x3 : Int32) (x4 : Value) (x5 : Value) (μ : am_Mem) : am_ev C 510 21 [.ref 42, .int x1, .int x2, .int x3, x4, x5] [] μ = (am_ev C 510 26 [.ref 42, .int x1, .int x2, .int x3, .int (x2 - (am_c 1)), x5] [] μ) := am_blk (b := [(.iload_n 2, 1), (.iconst 1, 1), (.isub, 1), (.istore 4, 2)]) rfl rfl (rfl : am_z 510 = 0) _ _ _
set_option maxRecDepth 50000 in
theorem q510_26 (C : am_Ct) (x1 : Int32) (x2 : Int32) (x3 : Int32) (x4 : Int32) (x5 : Value) (μ : am_Mem) : am_ev C 510 26 [.ref 42, .int x1, .int x2, .int x3, .int x4, x5] [] μ = (if x3 ≤ x4 then am_ev C 510 89 [.ref 42, .int x1, .int x2, .int x3, .int x4, x5] [] μ else if (((μ 42 9) &&& (x1 ^^^ (am_c (-1)))) &&& (((am_c 1) : Int32) <<< (x4 &&& 31))) = 0 then am_ev C 510 83 [.ref 42, .int x1, .int x2, .int x3, .int x4, x5] [] μ else am_bI (C 511 [.ref 42, .int (x1 ||| (((am_c 1) : Int32) <<< (x4 &&& 31)))] μ) (fun r1 m1 => am_bI (C 510 [.ref 42, .int r1, .int (x2 - (am_c 1)), .int x4] m1) (fun r2 m2 => if r2 = (am_c (-1)) then am_ev C 510 83 [.ref 42, .int x1, .int x2, .int x3, .int x4, .int r2] [] m2 else am_ret (some (.int (r2 ||| (((am_c 1) : Int32) <<< (x4 &&& 31))))) m2))) := am_blk (b := [(.iload 4, 2), (.iload_n 3, 1), (.if_icmp .ge 60, 3), (.aload_n 0, 1), (.getfield 76, 3), (.iload_n 1, 1), (.iconst (-1), 1), (.ixor, 1), (.iand, 1), (.iconst 1, 1), (.iload 4, 2), (.ishl, 1), (.iand, 1), (.ifCond .eq 38, 3), (.aload_n 0, 1), (.aload_n 0, 1), (.iload_n 1, 1), (.iconst 1, 1), (.iload 4, 2), (.ishl, 1), (.ior, 1), (.invokevirtual 73, 3), (.iload_n 2, 1), (.iconst 1, 1), (.isub, 1), (.iload 4, 2), (.invokevirtual 79, 3), (.istore 5, 2), (.iload 5, 2), (.iconst (-1), 1), (.if_icmp .eq 11, 3), (.iload 5, 2), (.iconst 1, 1), (.iload 4, 2), (.ishl, 1), (.ior, 1), (.ireturn, 1)]) rfl rfl (rfl : am_z 510 = 0) _ _ _
set_option maxRecDepth 50000 in
theorem q510_83 (C : am_Ct) (x1 : Int32) (x2 : Int32) (x3 : Int32) (x4 : Int32) (x5 : Value) (μ : am_Mem) : am_ev C 510 83 [.ref 42, .int x1, .int x2, .int x3, .int x4, x5] [] μ = (am_ev C 510 26 [.ref 42, .int x1, .int x2, .int x3, .int (x4 + (am_c 1)), x5] [] μ) := am_blk (b := [(.iinc 4 1, 3), (.goto (-60), 3)]) rfl rfl (rfl : am_z 510 = 0) _ _ _
set_option maxRecDepth 50000 in
theorem q510_89 (C : am_Ct) (x1 : Int32) (x2 : Int32) (x3 : Int32) (x4 : Int32) (x5 : Value) (μ : am_Mem) : am_ev C 510 89 [.ref 42, .int x1, .int x2, .int x3, .int x4, x5] [] μ = (am_ret (some (.int (am_c (-1)))) μ) := am_blk (b := [(.iconst (-1), 1), (.ireturn, 1)]) rfl rfl (rfl : am_z 510 = 0) _ _ _
theorem e510 (d : Nat) (x1 : Int32) (x2 : Int32) (x3 : Int32) (μ : am_Mem) : am_call (d + 1) 510 [.ref 42, .int x1, .int x2, .int x3] μ = am_ev (am_call d) 510 0 [.ref 42, .int x1, .int x2, .int x3, .null, .null] [] μ := rfl
/-! NoWordTwice$Thought.spread(I)I  -/
set_option maxRecDepth 50000 in
theorem q511_0 (C : am_Ct) (x1 : Int32) (x2 : Value) (x3 : Value) (x4 : Value) (x5 : Value) (μ : am_Mem) : am_ev C 511 0 [.ref 42, .int x1, x2, x3, x4, x5] [] μ = (am_ev C 511 4 [.ref 42, .int x1, .int x1, .int (am_c 0), x4, x5] [] μ) := am_blk (b := [(.iload_n 1, 1), (.istore_n 2, 1), (.iconst 0, 1), (.istore_n 3, 1)]) rfl rfl (rfl : am_z 511 = 0) _ _ _
set_option maxRecDepth 50000 in
theorem q511_4 (C : am_Ct) (x1 : Int32) (x2 : Int32) (x3 : Int32) (x4 : Value) (x5 : Value) (μ : am_Mem) : am_ev C 511 4 [.ref 42, .int x1, .int x2, .int x3, x4, x5] [] μ = (if (μ 42 2) ≤ x3 then am_ev C 511 71 [.ref 42, .int x1, .int x2, .int x3, x4, x5] [] μ else am_ev C 511 18 [.ref 42, .int x1, .int x2, .int x3, .int x2, .int (am_c 0)] [] μ) := am_blk (b := [(.iload_n 3, 1), (.aload_n 0, 1), (.getfield 21, 3), (.if_icmp .ge 62, 3), (.iload_n 2, 1), (.istore 4, 2), (.iconst 0, 1), (.istore 5, 2)]) rfl rfl (rfl : am_z 511 = 0) _ _ _
set_option maxRecDepth 50000 in
theorem q511_18 (C : am_Ct) (x1 : Int32) (x2 : Int32) (x3 : Int32) (x4 : Int32) (x5 : Int32) (μ : am_Mem) : am_ev C 511 18 [.ref 42, .int x1, .int x2, .int x3, .int x4, .int x5] [] μ = (if (μ 42 2) ≤ x5 then am_ev C 511 57 [.ref 42, .int x1, .int x2, .int x3, .int x4, .int x5] [] μ else am_gb (Nat.blt (am_ix x5) 12) (if ((μ 43 (am_ix x5)) &&& (x2 ^^^ (am_c (-1)))) = 0 then am_gb (Nat.blt (am_ix x5) 12) (am_ev C 511 51 [.ref 42, .int x1, .int (x2 ||| (μ 44 (am_ix x5))), .int x3, .int x4, .int x5] [] μ) else am_ev C 511 51 [.ref 42, .int x1, .int x2, .int x3, .int x4, .int x5] [] μ)) := am_blk (b := [(.iload 5, 2), (.aload_n 0, 1), (.getfield 21, 3), (.if_icmp .ge 33, 3), (.aload_n 0, 1), (.getfield 9, 3), (.iload 5, 2), (.iaload, 1), (.iload_n 2, 1), (.iconst (-1), 1), (.ixor, 1), (.iand, 1), (.ifCond .ne 13, 3), (.iload_n 2, 1), (.aload_n 0, 1), (.getfield 15, 3), (.iload 5, 2), (.iaload, 1), (.ior, 1), (.istore_n 2, 1)]) rfl rfl (rfl : am_z 511 = 0) _ _ _
set_option maxRecDepth 50000 in
theorem q511_51 (C : am_Ct) (x1 : Int32) (x2 : Int32) (x3 : Int32) (x4 : Int32) (x5 : Int32) (μ : am_Mem) : am_ev C 511 51 [.ref 42, .int x1, .int x2, .int x3, .int x4, .int x5] [] μ = (am_ev C 511 18 [.ref 42, .int x1, .int x2, .int x3, .int x4, .int (x5 + (am_c 1))] [] μ) := am_blk (b := [(.iinc 5 1, 3), (.goto (-36), 3)]) rfl rfl (rfl : am_z 511 = 0) _ _ _
set_option maxRecDepth 50000 in
theorem q511_57 (C : am_Ct) (x1 : Int32) (x2 : Int32) (x3 : Int32) (x4 : Int32) (x5 : Int32) (μ : am_Mem) : am_ev C 511 57 [.ref 42, .int x1, .int x2, .int x3, .int x4, .int x5] [] μ = (if x2 = x4 then am_ret (some (.int x2)) μ else am_ev C 511 65 [.ref 42, .int x1, .int x2, .int x3, .int x4, .int x5] [] μ) := am_blk (b := [(.iload_n 2, 1), (.iload 4, 2), (.if_icmp .ne 5, 3), (.iload_n 2, 1), (.ireturn, 1)]) rfl rfl (rfl : am_z 511 = 0) _ _ _
set_option maxRecDepth 50000 in
theorem q511_65 (C : am_Ct) (x1 : Int32) (x2 : Int32) (x3 : Int32) (x4 : Int32) (x5 : Int32) (μ : am_Mem) : am_ev C 511 65 [.ref 42, .int x1, .int x2, .int x3, .int x4, .int x5] [] μ = (am_ev C 511 4 [.ref 42, .int x1, .int x2, .int (x3 + (am_c 1)), .int x4, .int x5] [] μ) := am_blk (b := [(.iinc 3 1, 3), (.goto (-64), 3)]) rfl rfl (rfl : am_z 511 = 0) _ _ _
set_option maxRecDepth 50000 in
theorem q511_71 (C : am_Ct) (x1 : Int32) (x2 : Int32) (x3 : Int32) (x4 : Value) (x5 : Value) (μ : am_Mem) : am_ev C 511 71 [.ref 42, .int x1, .int x2, .int x3, x4, x5] [] μ = (am_ret (some (.int x2)) μ) := am_blk (b := [(.iload_n 2, 1), (.ireturn, 1)]) rfl rfl (rfl : am_z 511 = 0) _ _ _
theorem e511 (d : Nat) (x1 : Int32) (μ : am_Mem) : am_call (d + 1) 511 [.ref 42, .int x1] μ = am_ev (am_call d) 511 0 [.ref 42, .int x1, .null, .null, .null, .null] [] μ := rfl
/-! NoWordTwice$Told.copyFrom(LNoWordTwice$Told;)V (('r', 1), ('r', 13)) -/
set_option maxRecDepth 50000 in
theorem q701a_0 (C : am_Ct) (μ : am_Mem) : am_ev C 701 0 [.ref 1, .ref 13] [] μ = (am_bV (C 2004 [.ref 14, .int (am_c 0), .ref 2, .int (am_c 0), .int 16] (am_up (am_up (am_up (am_up (am_up μ 1 0 (μ 13 0)) 1 1 ((am_up μ 1 0 (μ 13 0)) 13 1)) 1 2 ((am_up (am_up μ 1 0 (μ 13 0)) 1 1 ((am_up μ 1 0 (μ 13 0)) 13 1)) 13 2)) 1 3 ((am_up (am_up (am_up μ 1 0 (μ 13 0)) 1 1 ((am_up μ 1 0 (μ 13 0)) 13 1)) 1 2 ((am_up (am_up μ 1 0 (μ 13 0)) 1 1 ((am_up μ 1 0 (μ 13 0)) 13 1)) 13 2)) 13 3)) 1 4 ((am_up (am_up (am_up (am_up μ 1 0 (μ 13 0)) 1 1 ((am_up μ 1 0 (μ 13 0)) 13 1)) 1 2 ((am_up (am_up μ 1 0 (μ 13 0)) 1 1 ((am_up μ 1 0 (μ 13 0)) 13 1)) 13 2)) 1 3 ((am_up (am_up (am_up μ 1 0 (μ 13 0)) 1 1 ((am_up μ 1 0 (μ 13 0)) 13 1)) 1 2 ((am_up (am_up μ 1 0 (μ 13 0)) 1 1 ((am_up μ 1 0 (μ 13 0)) 13 1)) 13 2)) 13 3)) 13 4))) (fun m1 => am_bV (C 2004 [.ref 15, .int (am_c 0), .ref 3, .int (am_c 0), .int 12] (am_up (am_up m1 1 6 (m1 13 6)) 1 7 ((am_up m1 1 6 (m1 13 6)) 13 7))) (fun m2 => am_bV (C 2004 [.ref 16, .int (am_c 0), .ref 4, .int (am_c 0), .int 12] m2) (fun m3 => am_bV (C 2004 [.ref 17, .int (am_c 0), .ref 5, .int (am_c 0), .int 36] m3) (fun m4 => am_bV (C 2004 [.ref 18, .int (am_c 0), .ref 6, .int (am_c 0), .int 320] (am_up m4 1 11 (m4 13 11))) (fun m5 => am_bV (C 101 [.ref 7, .ref 19] m5) (fun m6 => am_ret none m6))))))) := am_blk (b := [(.aload_n 0, 1), (.aload_n 1, 1), (.getfield 38, 3), (.putfield 38, 3), (.aload_n 0, 1), (.aload_n 1, 1), (.getfield 9, 3), (.putfield 9, 3), (.aload_n 0, 1), (.aload_n 1, 1), (.getfield 41, 3), (.putfield 41, 3), (.aload_n 0, 1), (.aload_n 1, 1), (.getfield 44, 3), (.putfield 44, 3), (.aload_n 0, 1), (.aload_n 1, 1), (.getfield 47, 3), (.putfield 47, 3), (.aload_n 1, 1), (.getfield 15, 3), (.iconst 0, 1), (.aload_n 0, 1), (.getfield 15, 3), (.iconst 0, 1), (.aload_n 0, 1), (.getfield 15, 3), (.arraylength, 1), (.invokestatic 50, 3), (.aload_n 0, 1), (.aload_n 1, 1), (.getfield 56, 3), (.putfield 56, 3), (.aload_n 0, 1), (.aload_n 1, 1), (.getfield 59, 3), (.putfield 59, 3), (.aload_n 1, 1), (.getfield 19, 3), (.iconst 0, 1), (.aload_n 0, 1), (.getfield 19, 3), (.iconst 0, 1), (.aload_n 0, 1), (.getfield 19, 3), (.arraylength, 1), (.invokestatic 50, 3), (.aload_n 1, 1), (.getfield 22, 3), (.iconst 0, 1), (.aload_n 0, 1), (.getfield 22, 3), (.iconst 0, 1), (.aload_n 0, 1), (.getfield 22, 3), (.arraylength, 1), (.invokestatic 50, 3), (.aload_n 1, 1), (.getfield 25, 3), (.iconst 0, 1), (.aload_n 0, 1), (.getfield 25, 3), (.iconst 0, 1), (.aload_n 0, 1), (.getfield 25, 3), (.arraylength, 1), (.invokestatic 50, 3), (.aload_n 0, 1), (.aload_n 1, 1), (.getfield 62, 3), (.putfield 62, 3), (.aload_n 1, 1), (.getfield 28, 3), (.iconst 0, 1), (.aload_n 0, 1), (.getfield 28, 3), (.iconst 0, 1), (.aload_n 0, 1), (.getfield 28, 3), (.arraylength, 1), (.invokestatic 50, 3), (.aload_n 0, 1), (.getfield 34, 3), (.aload_n 1, 1), (.getfield 34, 3), (.invokevirtual 65, 3), (.return_, 1)]) rfl rfl (rfl : am_z 701 = 0) _ _ _
theorem e701a (d : Nat) (μ : am_Mem) : am_call (d + 1) 701 [.ref 1, .ref 13] μ = am_ev (am_call d) 701 0 [.ref 1, .ref 13] [] μ := rfl
/-! NoWordTwice$Told.copyFrom(LNoWordTwice$Told;)V (('r', 13), ('r', 1)) -/
set_option maxRecDepth 50000 in
theorem q701b_0 (C : am_Ct) (μ : am_Mem) : am_ev C 701 0 [.ref 13, .ref 1] [] μ = (am_bV (C 2004 [.ref 2, .int (am_c 0), .ref 14, .int (am_c 0), .int 16] (am_up (am_up (am_up (am_up (am_up μ 13 0 (μ 1 0)) 13 1 ((am_up μ 13 0 (μ 1 0)) 1 1)) 13 2 ((am_up (am_up μ 13 0 (μ 1 0)) 13 1 ((am_up μ 13 0 (μ 1 0)) 1 1)) 1 2)) 13 3 ((am_up (am_up (am_up μ 13 0 (μ 1 0)) 13 1 ((am_up μ 13 0 (μ 1 0)) 1 1)) 13 2 ((am_up (am_up μ 13 0 (μ 1 0)) 13 1 ((am_up μ 13 0 (μ 1 0)) 1 1)) 1 2)) 1 3)) 13 4 ((am_up (am_up (am_up (am_up μ 13 0 (μ 1 0)) 13 1 ((am_up μ 13 0 (μ 1 0)) 1 1)) 13 2 ((am_up (am_up μ 13 0 (μ 1 0)) 13 1 ((am_up μ 13 0 (μ 1 0)) 1 1)) 1 2)) 13 3 ((am_up (am_up (am_up μ 13 0 (μ 1 0)) 13 1 ((am_up μ 13 0 (μ 1 0)) 1 1)) 13 2 ((am_up (am_up μ 13 0 (μ 1 0)) 13 1 ((am_up μ 13 0 (μ 1 0)) 1 1)) 1 2)) 1 3)) 1 4))) (fun m1 => am_bV (C 2004 [.ref 3, .int (am_c 0), .ref 15, .int (am_c 0), .int 12] (am_up (am_up m1 13 6 (m1 1 6)) 13 7 ((am_up m1 13 6 (m1 1 6)) 1 7))) (fun m2 => am_bV (C 2004 [.ref 4, .int (am_c 0), .ref 16, .int (am_c 0), .int 12] m2) (fun m3 => am_bV (C 2004 [.ref 5, .int (am_c 0), .ref 17, .int (am_c 0), .int 36] m3) (fun m4 => am_bV (C 2004 [.ref 6, .int (am_c 0), .ref 18, .int (am_c 0), .int 320] (am_up m4 13 11 (m4 1 11))) (fun m5 => am_bV (C 101 [.ref 19, .ref 7] m5) (fun m6 => am_ret none m6))))))) := am_blk (b := [(.aload_n 0, 1), (.aload_n 1, 1), (.getfield 38, 3), (.putfield 38, 3), (.aload_n 0, 1), (.aload_n 1, 1), (.getfield 9, 3), (.putfield 9, 3), (.aload_n 0, 1), (.aload_n 1, 1), (.getfield 41, 3), (.putfield 41, 3), (.aload_n 0, 1), (.aload_n 1, 1), (.getfield 44, 3), (.putfield 44, 3), (.aload_n 0, 1), (.aload_n 1, 1), (.getfield 47, 3), (.putfield 47, 3), (.aload_n 1, 1), (.getfield 15, 3), (.iconst 0, 1), (.aload_n 0, 1), (.getfield 15, 3), (.iconst 0, 1), (.aload_n 0, 1), (.getfield 15, 3), (.arraylength, 1), (.invokestatic 50, 3), (.aload_n 0, 1), (.aload_n 1, 1), (.getfield 56, 3), (.putfield 56, 3), (.aload_n 0, 1), (.aload_n 1, 1), (.getfield 59, 3), (.putfield 59, 3), (.aload_n 1, 1), (.getfield 19, 3), (.iconst 0, 1), (.aload_n 0, 1), (.getfield 19, 3), (.iconst 0, 1), (.aload_n 0, 1), (.getfield 19, 3), (.arraylength, 1), (.invokestatic 50, 3), (.aload_n 1, 1), (.getfield 22, 3), (.iconst 0, 1), (.aload_n 0, 1), (.getfield 22, 3), (.iconst 0, 1), (.aload_n 0, 1), (.getfield 22, 3), (.arraylength, 1), (.invokestatic 50, 3), (.aload_n 1, 1), (.getfield 25, 3), (.iconst 0, 1), (.aload_n 0, 1), (.getfield 25, 3), (.iconst 0, 1), (.aload_n 0, 1), (.getfield 25, 3), (.arraylength, 1), (.invokestatic 50, 3), (.aload_n 0, 1), (.aload_n 1, 1), (.getfield 62, 3), (.putfield 62, 3), (.aload_n 1, 1), (.getfield 28, 3), (.iconst 0, 1), (.aload_n 0, 1), (.getfield 28, 3), (.iconst 0, 1), (.aload_n 0, 1), (.getfield 28, 3), (.arraylength, 1), (.invokestatic 50, 3), (.aload_n 0, 1), (.getfield 34, 3), (.aload_n 1, 1), (.getfield 34, 3), (.invokevirtual 65, 3), (.return_, 1)]) rfl rfl (rfl : am_z 701 = 0) _ _ _
theorem e701b (d : Nat) (μ : am_Mem) : am_call (d + 1) 701 [.ref 13, .ref 1] μ = am_ev (am_call d) 701 0 [.ref 13, .ref 1] [] μ := rfl
/-! NoWordTwice$Told.hasWord(I)Z  -/
set_option maxRecDepth 50000 in
theorem q702_0 (C : am_Ct) (x1 : Int32) (μ : am_Mem) : am_ev C 702 0 [.ref 1, .int x1] [] μ = (if x1 < 0 then am_ev C 702 16 [.ref 1, .int x1] [] μ else if (μ 1 4) ≤ x1 then am_ev C 702 16 [.ref 1, .int x1] [] μ else am_ev C 702 17 [.ref 1, .int x1] [.int (am_c 1)] μ) := am_blk (b := [(.iload_n 1, 1), (.ifCond .lt 15, 3), (.iload_n 1, 1), (.aload_n 0, 1), (.getfield 47, 3), (.if_icmp .ge 7, 3), (.iconst 1, 1), (.goto 4, 3)]) rfl rfl (rfl : am_z 702 = 2) _ _ _
set_option maxRecDepth 50000 in
theorem q702_16 (C : am_Ct) (x1 : Int32) (μ : am_Mem) : am_ev C 702 16 [.ref 1, .int x1] [] μ = (am_ev C 702 17 [.ref 1, .int x1] [.int (am_c 0)] μ) := am_blk (b := [(.iconst 0, 1)]) rfl rfl (rfl : am_z 702 = 2) _ _ _
set_option maxRecDepth 50000 in
theorem q702_17 (C : am_Ct) (x1 : Int32) (s0 : Int32) (μ : am_Mem) : am_ev C 702 17 [.ref 1, .int x1] [.int s0] μ = (am_gb (Nat.blt (am_ix s0) 2) (am_ret (some (.int s0)) μ)) := am_blk (b := [(.ireturn, 1)]) rfl rfl (rfl : am_z 702 = 2) _ _ _
theorem e702 (d : Nat) (x1 : Int32) (μ : am_Mem) : am_call (d + 1) 702 [.ref 1, .int x1] μ = am_ev (am_call d) 702 0 [.ref 1, .int x1] [] μ := rfl
/-! NoWordTwice$Told.hasEntry(I)Z  -/
set_option maxRecDepth 50000 in
theorem q703_0 (C : am_Ct) (x1 : Int32) (μ : am_Mem) : am_ev C 703 0 [.ref 1, .int x1] [] μ = (if x1 < 0 then am_ev C 703 16 [.ref 1, .int x1] [] μ else if (μ 1 7) ≤ x1 then am_ev C 703 16 [.ref 1, .int x1] [] μ else am_ev C 703 17 [.ref 1, .int x1] [.int (am_c 1)] μ) := am_blk (b := [(.iload_n 1, 1), (.ifCond .lt 15, 3), (.iload_n 1, 1), (.aload_n 0, 1), (.getfield 59, 3), (.if_icmp .ge 7, 3), (.iconst 1, 1), (.goto 4, 3)]) rfl rfl (rfl : am_z 703 = 2) _ _ _
set_option maxRecDepth 50000 in
theorem q703_16 (C : am_Ct) (x1 : Int32) (μ : am_Mem) : am_ev C 703 16 [.ref 1, .int x1] [] μ = (am_ev C 703 17 [.ref 1, .int x1] [.int (am_c 0)] μ) := am_blk (b := [(.iconst 0, 1)]) rfl rfl (rfl : am_z 703 = 2) _ _ _
set_option maxRecDepth 50000 in
theorem q703_17 (C : am_Ct) (x1 : Int32) (s0 : Int32) (μ : am_Mem) : am_ev C 703 17 [.ref 1, .int x1] [.int s0] μ = (am_gb (Nat.blt (am_ix s0) 2) (am_ret (some (.int s0)) μ)) := am_blk (b := [(.ireturn, 1)]) rfl rfl (rfl : am_z 703 = 2) _ _ _
theorem e703 (d : Nat) (x1 : Int32) (μ : am_Mem) : am_call (d + 1) 703 [.ref 1, .int x1] μ = am_ev (am_call d) 703 0 [.ref 1, .int x1] [] μ := rfl
/-! NoWordTwice$Told.hasSet(I)Z  -/
set_option maxRecDepth 50000 in
theorem q704_0 (C : am_Ct) (x1 : Int32) (μ : am_Mem) : am_ev C 704 0 [.ref 1, .int x1] [] μ = (if (((Int32.toUInt32 x1) >>> ((Int32.toUInt32 (μ 1 4)) &&& Int32.toUInt32 31)).toInt32) = 0 then am_ev C 704 14 [.ref 1, .int x1] [.int (am_c 1)] μ else am_ev C 704 13 [.ref 1, .int x1] [] μ) := am_blk (b := [(.iload_n 1, 1), (.aload_n 0, 1), (.getfield 47, 3), (.iushr, 1), (.ifCond .ne 7, 3), (.iconst 1, 1), (.goto 4, 3)]) rfl rfl (rfl : am_z 704 = 2) _ _ _
set_option maxRecDepth 50000 in
theorem q704_13 (C : am_Ct) (x1 : Int32) (μ : am_Mem) : am_ev C 704 13 [.ref 1, .int x1] [] μ = (am_ev C 704 14 [.ref 1, .int x1] [.int (am_c 0)] μ) := am_blk (b := [(.iconst 0, 1)]) rfl rfl (rfl : am_z 704 = 2) _ _ _
set_option maxRecDepth 50000 in
theorem q704_14 (C : am_Ct) (x1 : Int32) (s0 : Int32) (μ : am_Mem) : am_ev C 704 14 [.ref 1, .int x1] [.int s0] μ = (am_gb (Nat.blt (am_ix s0) 2) (am_ret (some (.int s0)) μ)) := am_blk (b := [(.ireturn, 1)]) rfl rfl (rfl : am_z 704 = 2) _ _ _
theorem e704 (d : Nat) (x1 : Int32) (μ : am_Mem) : am_call (d + 1) 704 [.ref 1, .int x1] μ = am_ev (am_call d) 704 0 [.ref 1, .int x1] [] μ := rfl
/-! NoWordTwice$Told.canBeEntry(IIII)Z  -/
set_option maxRecDepth 50000 in
theorem q705_0 (C : am_Ct) (x1 : Int32) (x2 : Int32) (x3 : Int32) (x4 : Int32) (μ : am_Mem) : am_ev C 705 0 [.ref 1, .int x1, .int x2, .int x3, .int x4] [] μ = (am_bI (C 702 [.ref 1, .int x1] μ) (fun r1 m1 => if r1 = 0 then am_ev C 705 21 [.ref 1, .int x1, .int x2, .int x3, .int x4] [] m1 else am_bI (C 702 [.ref 1, .int x2] m1) (fun r2 m2 => if r2 = 0 then am_ev C 705 21 [.ref 1, .int x1, .int x2, .int x3, .int x4] [] m2 else if x2 = x1 then am_ev C 705 21 [.ref 1, .int x1, .int x2, .int x3, .int x4] [] m2 else am_ev C 705 23 [.ref 1, .int x1, .int x2, .int x3, .int x4] [] m2))) := am_blk (b := [(.aload_n 0, 1), (.iload_n 1, 1), (.invokevirtual 69, 3), (.ifCond .eq 16, 3), (.aload_n 0, 1), (.iload_n 2, 1), (.invokevirtual 69, 3), (.ifCond .eq 8, 3), (.iload_n 2, 1), (.iload_n 1, 1), (.if_icmp .ne 5, 3)]) rfl rfl (rfl : am_z 705 = 2) _ _ _
set_option maxRecDepth 50000 in
theorem q705_21 (C : am_Ct) (x1 : Int32) (x2 : Int32) (x3 : Int32) (x4 : Int32) (μ : am_Mem) : am_ev C 705 21 [.ref 1, .int x1, .int x2, .int x3, .int x4] [] μ = (am_ret (some (.int (am_c 0))) μ) := am_blk (b := [(.iconst 0, 1), (.ireturn, 1)]) rfl rfl (rfl : am_z 705 = 2) _ _ _
set_option maxRecDepth 50000 in
theorem q705_23 (C : am_Ct) (x1 : Int32) (x2 : Int32) (x3 : Int32) (x4 : Int32) (μ : am_Mem) : am_ev C 705 23 [.ref 1, .int x1, .int x2, .int x3, .int x4] [] μ = (if x3 = (am_c (-1)) then if x4 = (am_c (-1)) then am_ev C 705 39 [.ref 1, .int x1, .int x2, .int x3, .int x4] [.int (am_c 1)] μ else am_ev C 705 38 [.ref 1, .int x1, .int x2, .int x3, .int x4] [] μ else am_ev C 705 40 [.ref 1, .int x1, .int x2, .int x3, .int x4] [] μ) := am_blk (b := [(.iload_n 3, 1), (.iconst (-1), 1), (.if_icmp .ne 15, 3), (.iload 4, 2), (.iconst (-1), 1), (.if_icmp .ne 7, 3), (.iconst 1, 1), (.goto 4, 3)]) rfl rfl (rfl : am_z 705 = 2) _ _ _
set_option maxRecDepth 50000 in
theorem q705_38 (C : am_Ct) (x1 : Int32) (x2 : Int32) (x3 : Int32) (x4 : Int32) (μ : am_Mem) : am_ev C 705 38 [.ref 1, .int x1, .int x2, .int x3, .int x4] [] μ = (am_ev C 705 39 [.ref 1, .int x1, .int x2, .int x3, .int x4] [.int (am_c 0)] μ) := am_blk (b := [(.iconst 0, 1)]) rfl rfl (rfl : am_z 705 = 2) _ _ _
set_option maxRecDepth 50000 in
theorem q705_39 (C : am_Ct) (x1 : Int32) (x2 : Int32) (x3 : Int32) (x4 : Int32) (s0 : Int32) (μ : am_Mem) : am_ev C 705 39 [.ref 1, .int x1, .int x2, .int x3, .int x4] [.int s0] μ = (am_gb (Nat.blt (am_ix s0) 2) (am_ret (some (.int s0)) μ)) := am_blk (b := [(.ireturn, 1)]) rfl rfl (rfl : am_z 705 = 2) _ _ _
set_option maxRecDepth 50000 in
theorem q705_40 (C : am_Ct) (x1 : Int32) (x2 : Int32) (x3 : Int32) (x4 : Int32) (μ : am_Mem) : am_ev C 705 40 [.ref 1, .int x1, .int x2, .int x3, .int x4] [] μ = (am_bI (C 702 [.ref 1, .int x3] μ) (fun r1 m1 => if r1 = 0 then am_ev C 705 58 [.ref 1, .int x1, .int x2, .int x3, .int x4] [] m1 else if x3 = x1 then am_ev C 705 58 [.ref 1, .int x1, .int x2, .int x3, .int x4] [] m1 else if x3 = x2 then am_ev C 705 58 [.ref 1, .int x1, .int x2, .int x3, .int x4] [] m1 else am_ev C 705 60 [.ref 1, .int x1, .int x2, .int x3, .int x4] [] m1)) := am_blk (b := [(.aload_n 0, 1), (.iload_n 3, 1), (.invokevirtual 69, 3), (.ifCond .eq 13, 3), (.iload_n 3, 1), (.iload_n 1, 1), (.if_icmp .eq 8, 3), (.iload_n 3, 1), (.iload_n 2, 1), (.if_icmp .ne 5, 3)]) rfl rfl (rfl : am_z 705 = 2) _ _ _
set_option maxRecDepth 50000 in
theorem q705_58 (C : am_Ct) (x1 : Int32) (x2 : Int32) (x3 : Int32) (x4 : Int32) (μ : am_Mem) : am_ev C 705 58 [.ref 1, .int x1, .int x2, .int x3, .int x4] [] μ = (am_ret (some (.int (am_c 0))) μ) := am_blk (b := [(.iconst 0, 1), (.ireturn, 1)]) rfl rfl (rfl : am_z 705 = 2) _ _ _
set_option maxRecDepth 50000 in
theorem q705_60 (C : am_Ct) (x1 : Int32) (x2 : Int32) (x3 : Int32) (x4 : Int32) (μ : am_Mem) : am_ev C 705 60 [.ref 1, .int x1, .int x2, .int x3, .int x4] [] μ = (if x4 = (am_c (-1)) then am_ev C 705 93 [.ref 1, .int x1, .int x2, .int x3, .int x4] [] μ else am_bI (C 702 [.ref 1, .int x4] μ) (fun r1 m1 => if r1 = 0 then am_ev C 705 97 [.ref 1, .int x1, .int x2, .int x3, .int x4] [] m1 else if x4 = x1 then am_ev C 705 97 [.ref 1, .int x1, .int x2, .int x3, .int x4] [] m1 else if x4 = x2 then am_ev C 705 97 [.ref 1, .int x1, .int x2, .int x3, .int x4] [] m1 else if x4 = x3 then am_ev C 705 97 [.ref 1, .int x1, .int x2, .int x3, .int x4] [] m1 else am_ev C 705 93 [.ref 1, .int x1, .int x2, .int x3, .int x4] [] m1)) := am_blk (b := [(.iload 4, 2), (.iconst (-1), 1), (.if_icmp .eq 30, 3), (.aload_n 0, 1), (.iload 4, 2), (.invokevirtual 69, 3), (.ifCond .eq 25, 3), (.iload 4, 2), (.iload_n 1, 1), (.if_icmp .eq 19, 3), (.iload 4, 2), (.iload_n 2, 1), (.if_icmp .eq 13, 3), (.iload 4, 2), (.iload_n 3, 1), (.if_icmp .eq 7, 3)]) rfl rfl (rfl : am_z 705 = 2) _ _ _
set_option maxRecDepth 50000 in
theorem q705_93 (C : am_Ct) (x1 : Int32) (x2 : Int32) (x3 : Int32) (x4 : Int32) (μ : am_Mem) : am_ev C 705 93 [.ref 1, .int x1, .int x2, .int x3, .int x4] [] μ = (am_ev C 705 98 [.ref 1, .int x1, .int x2, .int x3, .int x4] [.int (am_c 1)] μ) := am_blk (b := [(.iconst 1, 1), (.goto 4, 3)]) rfl rfl (rfl : am_z 705 = 2) _ _ _
set_option maxRecDepth 50000 in
theorem q705_97 (C : am_Ct) (x1 : Int32) (x2 : Int32) (x3 : Int32) (x4 : Int32) (μ : am_Mem) : am_ev C 705 97 [.ref 1, .int x1, .int x2, .int x3, .int x4] [] μ = (am_ev C 705 98 [.ref 1, .int x1, .int x2, .int x3, .int x4] [.int (am_c 0)] μ) := am_blk (b := [(.iconst 0, 1)]) rfl rfl (rfl : am_z 705 = 2) _ _ _
set_option maxRecDepth 50000 in
theorem q705_98 (C : am_Ct) (x1 : Int32) (x2 : Int32) (x3 : Int32) (x4 : Int32) (s0 : Int32) (μ : am_Mem) : am_ev C 705 98 [.ref 1, .int x1, .int x2, .int x3, .int x4] [.int s0] μ = (am_gb (Nat.blt (am_ix s0) 2) (am_ret (some (.int s0)) μ)) := am_blk (b := [(.ireturn, 1)]) rfl rfl (rfl : am_z 705 = 2) _ _ _
theorem e705 (d : Nat) (x1 : Int32) (x2 : Int32) (x3 : Int32) (x4 : Int32) (μ : am_Mem) : am_call (d + 1) 705 [.ref 1, .int x1, .int x2, .int x3, .int x4] μ = am_ev (am_call d) 705 0 [.ref 1, .int x1, .int x2, .int x3, .int x4] [] μ := rfl
/-! NoWordTwice$Told.addEntry(IIII)I  -/
set_option maxRecDepth 50000 in
theorem q706_0 (C : am_Ct) (x1 : Int32) (x2 : Int32) (x3 : Int32) (x4 : Int32) (x5 : Value) (μ : am_Mem) : am_ev C 706 0 [.ref 1, .int x1, .int x2, .int x3, .int x4, x5] [] μ = (am_gb (Nat.blt (am_ix (μ 1 7)) 12) (if x3 = (am_c (-1)) then am_ev C 706 40 [.ref 1, .int x1, .int x2, .int x3, .int x4, .int (μ 1 7)] [.int (am_c 1), .int (μ 1 7), .ref 4] (am_up μ 3 (am_ix (μ 1 7)) x1) else am_ev C 706 29 [.ref 1, .int x1, .int x2, .int x3, .int x4, .int (μ 1 7)] [.int (μ 1 7), .ref 4] (am_up μ 3 (am_ix (μ 1 7)) x1))) := am_blk (b := [(.aload_n 0, 1), (.getfield 59, 3), (.istore 5, 2), (.aload_n 0, 1), (.getfield 19, 3), (.iload 5, 2), (.iload_n 1, 1), (.iastore, 1), (.aload_n 0, 1), (.getfield 22, 3), (.iload 5, 2), (.iload_n 3, 1), (.iconst (-1), 1), (.if_icmp .ne 7, 3), (.iconst 1, 1), (.goto 14, 3)]) rfl rfl (rfl : am_z 706 = 0) _ _ _
set_option maxRecDepth 50000 in
theorem q706_29 (C : am_Ct) (x1 : Int32) (x2 : Int32) (x3 : Int32) (x4 : Int32) (x5 : Int32) (s0 : Int32) (μ : am_Mem) : am_ev C 706 29 [.ref 1, .int x1, .int x2, .int x3, .int x4, .int x5] [.int s0, .ref 4] μ = (if x4 = (am_c (-1)) then am_ev C 706 40 [.ref 1, .int x1, .int x2, .int x3, .int x4, .int x5] [.int (am_c 2), .int s0, .ref 4] μ else am_ev C 706 39 [.ref 1, .int x1, .int x2, .int x3, .int x4, .int x5] [.int s0, .ref 4] μ) := am_blk (b := [(.iload 4, 2), (.iconst (-1), 1), (.if_icmp .ne 7, 3), (.iconst 2, 1), (.goto 4, 3)]) rfl rfl (rfl : am_z 706 = 0) _ _ _
set_option maxRecDepth 50000 in
theorem q706_39 (C : am_Ct) (x1 : Int32) (x2 : Int32) (x3 : Int32) (x4 : Int32) (x5 : Int32) (s0 : Int32) (μ : am_Mem) : am_ev C 706 39 [.ref 1, .int x1, .int x2, .int x3, .int x4, .int x5] [.int s0, .ref 4] μ = (am_ev C 706 40 [.ref 1, .int x1, .int x2, .int x3, .int x4, .int x5] [.int (am_c 3), .int s0, .ref 4] μ) := am_blk (b := [(.iconst 3, 1)]) rfl rfl (rfl : am_z 706 = 0) _ _ _
set_option maxRecDepth 50000 in
theorem q706_40 (C : am_Ct) (x1 : Int32) (x2 : Int32) (x3 : Int32) (x4 : Int32) (x5 : Int32) (s0 : Int32) (s1 : Int32) (μ : am_Mem) : am_ev C 706 40 [.ref 1, .int x1, .int x2, .int x3, .int x4, .int x5] [.int s0, .int s1, .ref 4] μ = (am_gb (Nat.blt (am_ix s1) 12) (am_gb (Nat.blt (am_ix (x5 * (am_c 3))) 36) (am_gb (Nat.blt (am_ix ((x5 * (am_c 3)) + (am_c 1))) 36) (am_gb (Nat.blt (am_ix ((x5 * (am_c 3)) + (am_c 2))) 36) (am_ret (some (.int x5)) (am_up (am_up (am_up (am_up (am_up μ 4 (am_ix s1) s0) 5 (am_ix (x5 * (am_c 3))) x2) 5 (am_ix ((x5 * (am_c 3)) + (am_c 1))) x3) 5 (am_ix ((x5 * (am_c 3)) + (am_c 2))) x4) 1 7 (x5 + (am_c 1)))))))) := am_blk (b := [(.iastore, 1), (.aload_n 0, 1), (.getfield 25, 3), (.iload 5, 2), (.iconst 3, 1), (.imul, 1), (.iload_n 2, 1), (.iastore, 1), (.aload_n 0, 1), (.getfield 25, 3), (.iload 5, 2), (.iconst 3, 1), (.imul, 1), (.iconst 1, 1), (.iadd, 1), (.iload_n 3, 1), (.iastore, 1), (.aload_n 0, 1), (.getfield 25, 3), (.iload 5, 2), (.iconst 3, 1), (.imul, 1), (.iconst 2, 1), (.iadd, 1), (.iload 4, 2), (.iastore, 1), (.aload_n 0, 1), (.iload 5, 2), (.iconst 1, 1), (.iadd, 1), (.putfield 59, 3), (.iload 5, 2), (.ireturn, 1)]) rfl rfl (rfl : am_z 706 = 0) _ _ _
theorem e706 (d : Nat) (x1 : Int32) (x2 : Int32) (x3 : Int32) (x4 : Int32) (μ : am_Mem) : am_call (d + 1) 706 [.ref 1, .int x1, .int x2, .int x3, .int x4] μ = am_ev (am_call d) 706 0 [.ref 1, .int x1, .int x2, .int x3, .int x4, .null] [] μ := rfl
/-! NoWordTwice$Told.moveEntry(II)V  -/
set_option maxRecDepth 50000 in
theorem q707_0 (C : am_Ct) (x1 : Int32) (x2 : Int32) (x3 : Value) (μ : am_Mem) : am_ev C 707 0 [.ref 1, .int x1, .int x2, x3] [] μ = (am_ev C 707 2 [.ref 1, .int x1, .int x2, .int x1] [] μ) := am_blk (b := [(.iload_n 1, 1), (.istore_n 3, 1)]) rfl rfl (rfl : am_z 707 = 0) _ _ _
set_option maxRecDepth 50000 in
theorem q707_2 (C : am_Ct) (x1 : Int32) (x2 : Int32) (x3 : Int32) (μ : am_Mem) : am_ev C 707 2 [.ref 1, .int x1, .int x2, .int x3] [] μ = (if x2 ≤ x3 then am_ev C 707 21 [.ref 1, .int x1, .int x2, .int x3] [] μ else am_bV (C 708 [.ref 1, .int x3, .int (x3 + (am_c 1))] μ) (fun m1 => am_ev C 707 2 [.ref 1, .int x1, .int x2, .int (x3 + (am_c 1))] [] m1)) := am_blk (b := [(.iload_n 3, 1), (.iload_n 2, 1), (.if_icmp .ge 17, 3), (.aload_n 0, 1), (.iload_n 3, 1), (.iload_n 3, 1), (.iconst 1, 1), (.iadd, 1), (.invokevirtual 73, 3), (.iinc 3 1, 3), (.goto (-16), 3)]) rfl rfl (rfl : am_z 707 = 0) _ _ _
set_option maxRecDepth 50000 in
theorem q707_21 (C : am_Ct) (x1 : Int32) (x2 : Int32) (x3 : Int32) (μ : am_Mem) : am_ev C 707 21 [.ref 1, .int x1, .int x2, .int x3] [] μ = (am_ev C 707 23 [.ref 1, .int x1, .int x2, .int x1] [] μ) := am_blk (b := [(.iload_n 1, 1), (.istore_n 3, 1)]) rfl rfl (rfl : am_z 707 = 0) _ _ _
set_option maxRecDepth 50000 in
theorem q707_23 (C : am_Ct) (x1 : Int32) (x2 : Int32) (x3 : Int32) (μ : am_Mem) : am_ev C 707 23 [.ref 1, .int x1, .int x2, .int x3] [] μ = (if x3 ≤ x2 then am_ev C 707 42 [.ref 1, .int x1, .int x2, .int x3] [] μ else am_bV (C 708 [.ref 1, .int x3, .int (x3 - (am_c 1))] μ) (fun m1 => am_ev C 707 23 [.ref 1, .int x1, .int x2, .int (x3 + (am_c (-1)))] [] m1)) := am_blk (b := [(.iload_n 3, 1), (.iload_n 2, 1), (.if_icmp .le 17, 3), (.aload_n 0, 1), (.iload_n 3, 1), (.iload_n 3, 1), (.iconst 1, 1), (.isub, 1), (.invokevirtual 73, 3), (.iinc 3 (-1), 3), (.goto (-16), 3)]) rfl rfl (rfl : am_z 707 = 0) _ _ _
set_option maxRecDepth 50000 in
theorem q707_42 (C : am_Ct) (x1 : Int32) (x2 : Int32) (x3 : Int32) (μ : am_Mem) : am_ev C 707 42 [.ref 1, .int x1, .int x2, .int x3] [] μ = (am_ret none μ) := am_blk (b := [(.return_, 1)]) rfl rfl (rfl : am_z 707 = 0) _ _ _
theorem e707 (d : Nat) (x1 : Int32) (x2 : Int32) (μ : am_Mem) : am_call (d + 1) 707 [.ref 1, .int x1, .int x2] μ = am_ev (am_call d) 707 0 [.ref 1, .int x1, .int x2, .null] [] μ := rfl
/-! NoWordTwice$Told.swapEntries(II)V  -/
set_option maxRecDepth 50000 in
theorem q708_0 (C : am_Ct) (x1 : Int32) (x2 : Int32) (x3 : Value) (μ : am_Mem) : am_ev C 708 0 [.ref 1, .int x1, .int x2, x3] [] μ = (am_bV (C 709 [.ref 3, .int x1, .int x2] μ) (fun m1 => am_bV (C 709 [.ref 4, .int x1, .int x2] m1) (fun m2 => am_ev C 708 20 [.ref 1, .int x1, .int x2, .int (am_c 0)] [] m2))) := am_blk (b := [(.aload_n 0, 1), (.getfield 19, 3), (.iload_n 1, 1), (.iload_n 2, 1), (.invokestatic 77, 3), (.aload_n 0, 1), (.getfield 22, 3), (.iload_n 1, 1), (.iload_n 2, 1), (.invokestatic 77, 3), (.iconst 0, 1), (.istore_n 3, 1)]) rfl rfl (rfl : am_z 708 = 0) _ _ _
set_option maxRecDepth 50000 in
theorem q708_20 (C : am_Ct) (x1 : Int32) (x2 : Int32) (x3 : Int32) (μ : am_Mem) : am_ev C 708 20 [.ref 1, .int x1, .int x2, .int x3] [] μ = (if (am_c 3) ≤ x3 then am_ev C 708 48 [.ref 1, .int x1, .int x2, .int x3] [] μ else am_bV (C 709 [.ref 5, .int ((x1 * (am_c 3)) + x3), .int ((x2 * (am_c 3)) + x3)] μ) (fun m1 => am_ev C 708 20 [.ref 1, .int x1, .int x2, .int (x3 + (am_c 1))] [] m1)) := am_blk (b := [(.iload_n 3, 1), (.iconst 3, 1), (.if_icmp .ge 26, 3), (.aload_n 0, 1), (.getfield 25, 3), (.iload_n 1, 1), (.iconst 3, 1), (.imul, 1), (.iload_n 3, 1), (.iadd, 1), (.iload_n 2, 1), (.iconst 3, 1), (.imul, 1), (.iload_n 3, 1), (.iadd, 1), (.invokestatic 77, 3), (.iinc 3 1, 3), (.goto (-25), 3)]) rfl rfl (rfl : am_z 708 = 0) _ _ _
set_option maxRecDepth 50000 in
theorem q708_48 (C : am_Ct) (x1 : Int32) (x2 : Int32) (x3 : Int32) (μ : am_Mem) : am_ev C 708 48 [.ref 1, .int x1, .int x2, .int x3] [] μ = (am_ret none μ) := am_blk (b := [(.return_, 1)]) rfl rfl (rfl : am_z 708 = 0) _ _ _
theorem e708 (d : Nat) (x1 : Int32) (x2 : Int32) (μ : am_Mem) : am_call (d + 1) 708 [.ref 1, .int x1, .int x2] μ = am_ev (am_call d) 708 0 [.ref 1, .int x1, .int x2, .null] [] μ := rfl
/-! NoWordTwice$Told.swapNumbers([III)V (('r', 3), ('i',), ('i',)) -/
set_option maxRecDepth 50000 in
theorem q709a_0 (C : am_Ct) (x1 : Int32) (x2 : Int32) (x3 : Value) (μ : am_Mem) : am_ev C 709 0 [.ref 3, .int x1, .int x2, x3] [] μ = (am_gb (Nat.blt (am_ix x1) 12) (am_gb (Nat.blt (am_ix x2) 12) (am_gb (Nat.blt (am_ix x1) 12) (am_gb (Nat.blt (am_ix x2) 12) (am_ret none (am_up (am_up μ 3 (am_ix x1) (μ 3 (am_ix x2))) 3 (am_ix x2) (μ 3 (am_ix x1)))))))) := am_blk (b := [(.aload_n 0, 1), (.iload_n 1, 1), (.iaload, 1), (.istore_n 3, 1), (.aload_n 0, 1), (.iload_n 1, 1), (.aload_n 0, 1), (.iload_n 2, 1), (.iaload, 1), (.iastore, 1), (.aload_n 0, 1), (.iload_n 2, 1), (.iload_n 3, 1), (.iastore, 1), (.return_, 1)]) rfl rfl (rfl : am_z 709 = 0) _ _ _
theorem e709a (d : Nat) (x1 : Int32) (x2 : Int32) (μ : am_Mem) : am_call (d + 1) 709 [.ref 3, .int x1, .int x2] μ = am_ev (am_call d) 709 0 [.ref 3, .int x1, .int x2, .null] [] μ := rfl
/-! NoWordTwice$Told.swapNumbers([III)V (('r', 4), ('i',), ('i',)) -/
set_option maxRecDepth 50000 in
theorem q709b_0 (C : am_Ct) (x1 : Int32) (x2 : Int32) (x3 : Value) (μ : am_Mem) : am_ev C 709 0 [.ref 4, .int x1, .int x2, x3] [] μ = (am_gb (Nat.blt (am_ix x1) 12) (am_gb (Nat.blt (am_ix x2) 12) (am_gb (Nat.blt (am_ix x1) 12) (am_gb (Nat.blt (am_ix x2) 12) (am_ret none (am_up (am_up μ 4 (am_ix x1) (μ 4 (am_ix x2))) 4 (am_ix x2) (μ 4 (am_ix x1)))))))) := am_blk (b := [(.aload_n 0, 1), (.iload_n 1, 1), (.iaload, 1), (.istore_n 3, 1), (.aload_n 0, 1), (.iload_n 1, 1), (.aload_n 0, 1), (.iload_n 2, 1), (.iaload, 1), (.iastore, 1), (.aload_n 0, 1), (.iload_n 2, 1), (.iload_n 3, 1), (.iastore, 1), (.return_, 1)]) rfl rfl (rfl : am_z 709 = 0) _ _ _
theorem e709b (d : Nat) (x1 : Int32) (x2 : Int32) (μ : am_Mem) : am_call (d + 1) 709 [.ref 4, .int x1, .int x2] μ = am_ev (am_call d) 709 0 [.ref 4, .int x1, .int x2, .null] [] μ := rfl
/-! NoWordTwice$Told.swapNumbers([III)V (('r', 5), ('i',), ('i',)) -/
set_option maxRecDepth 50000 in
theorem q709c_0 (C : am_Ct) (x1 : Int32) (x2 : Int32) (x3 : Value) (μ : am_Mem) : am_ev C 709 0 [.ref 5, .int x1, .int x2, x3] [] μ = (am_gb (Nat.blt (am_ix x1) 36) (am_gb (Nat.blt (am_ix x2) 36) (am_gb (Nat.blt (am_ix x1) 36) (am_gb (Nat.blt (am_ix x2) 36) (am_ret none (am_up (am_up μ 5 (am_ix x1) (μ 5 (am_ix x2))) 5 (am_ix x2) (μ 5 (am_ix x1)))))))) := am_blk (b := [(.aload_n 0, 1), (.iload_n 1, 1), (.iaload, 1), (.istore_n 3, 1), (.aload_n 0, 1), (.iload_n 1, 1), (.aload_n 0, 1), (.iload_n 2, 1), (.iaload, 1), (.iastore, 1), (.aload_n 0, 1), (.iload_n 2, 1), (.iload_n 3, 1), (.iastore, 1), (.return_, 1)]) rfl rfl (rfl : am_z 709 = 0) _ _ _
theorem e709c (d : Nat) (x1 : Int32) (x2 : Int32) (μ : am_Mem) : am_call (d + 1) 709 [.ref 5, .int x1, .int x2] μ = am_ev (am_call d) 709 0 [.ref 5, .int x1, .int x2, .null] [] μ := rfl
/-! NoWordTwice$Told.usedWord(II)I  -/
set_option maxRecDepth 50000 in
theorem q710_0 (C : am_Ct) (x1 : Int32) (x2 : Int32) (μ : am_Mem) : am_ev C 710 0 [.ref 1, .int x1, .int x2] [] μ = (if x2 < 0 then am_ev C 710 27 [.ref 1, .int x1, .int x2] [] μ else am_gb (Nat.blt (am_ix x1) 12) (if (μ 4 (am_ix x1)) ≤ x2 then am_ev C 710 27 [.ref 1, .int x1, .int x2] [] μ else am_gb (Nat.blt (am_ix ((x1 * (am_c 3)) + x2)) 36) (am_ev C 710 28 [.ref 1, .int x1, .int x2] [.int (μ 5 (am_ix ((x1 * (am_c 3)) + x2)))] μ))) := am_blk (b := [(.iload_n 2, 1), (.ifCond .lt 26, 3), (.iload_n 2, 1), (.aload_n 0, 1), (.getfield 22, 3), (.iload_n 1, 1), (.iaload, 1), (.if_icmp .ge 16, 3), (.aload_n 0, 1), (.getfield 25, 3), (.iload_n 1, 1), (.iconst 3, 1), (.imul, 1), (.iload_n 2, 1), (.iadd, 1), (.iaload, 1), (.goto 4, 3)]) rfl rfl (rfl : am_z 710 = 0) _ _ _
set_option maxRecDepth 50000 in
theorem q710_27 (C : am_Ct) (x1 : Int32) (x2 : Int32) (μ : am_Mem) : am_ev C 710 27 [.ref 1, .int x1, .int x2] [] μ = (am_ev C 710 28 [.ref 1, .int x1, .int x2] [.int (am_c (-1))] μ) := am_blk (b := [(.iconst (-1), 1)]) rfl rfl (rfl : am_z 710 = 0) _ _ _
set_option maxRecDepth 50000 in
theorem q710_28 (C : am_Ct) (x1 : Int32) (x2 : Int32) (s0 : Int32) (μ : am_Mem) : am_ev C 710 28 [.ref 1, .int x1, .int x2] [.int s0] μ = (am_ret (some (.int s0)) μ) := am_blk (b := [(.ireturn, 1)]) rfl rfl (rfl : am_z 710 = 0) _ _ _
theorem e710 (d : Nat) (x1 : Int32) (x2 : Int32) (μ : am_Mem) : am_call (d + 1) 710 [.ref 1, .int x1, .int x2] μ = am_ev (am_call d) 710 0 [.ref 1, .int x1, .int x2] [] μ := rfl
/-! NoWordTwice$Told.usedSet(I)I  -/
set_option maxRecDepth 50000 in
theorem q711_0 (C : am_Ct) (x1 : Int32) (x2 : Value) (x3 : Value) (μ : am_Mem) : am_ev C 711 0 [.ref 1, .int x1, x2, x3] [] μ = (am_ev C 711 4 [.ref 1, .int x1, .int (am_c 0), .int (am_c 0)] [] μ) := am_blk (b := [(.iconst 0, 1), (.istore_n 2, 1), (.iconst 0, 1), (.istore_n 3, 1)]) rfl rfl (rfl : am_z 711 = 0) _ _ _
set_option maxRecDepth 50000 in
theorem q711_4 (C : am_Ct) (x1 : Int32) (x2 : Int32) (x3 : Int32) (μ : am_Mem) : am_ev C 711 4 [.ref 1, .int x1, .int x2, .int x3] [] μ = (am_gb (Nat.blt (am_ix x1) 12) (if (μ 4 (am_ix x1)) ≤ x3 then am_ev C 711 35 [.ref 1, .int x1, .int x2, .int x3] [] μ else am_gb (Nat.blt (am_ix ((x1 * (am_c 3)) + x3)) 36) (am_ev C 711 4 [.ref 1, .int x1, .int (x2 ||| (((am_c 1) : Int32) <<< ((μ 5 (am_ix ((x1 * (am_c 3)) + x3))) &&& 31))), .int (x3 + (am_c 1))] [] μ))) := am_blk (b := [(.iload_n 3, 1), (.aload_n 0, 1), (.getfield 22, 3), (.iload_n 1, 1), (.iaload, 1), (.if_icmp .ge 24, 3), (.iload_n 2, 1), (.iconst 1, 1), (.aload_n 0, 1), (.getfield 25, 3), (.iload_n 1, 1), (.iconst 3, 1), (.imul, 1), (.iload_n 3, 1), (.iadd, 1), (.iaload, 1), (.ishl, 1), (.ior, 1), (.istore_n 2, 1), (.iinc 3 1, 3), (.goto (-28), 3)]) rfl rfl (rfl : am_z 711 = 0) _ _ _
set_option maxRecDepth 50000 in
theorem q711_35 (C : am_Ct) (x1 : Int32) (x2 : Int32) (x3 : Int32) (μ : am_Mem) : am_ev C 711 35 [.ref 1, .int x1, .int x2, .int x3] [] μ = (am_ret (some (.int x2)) μ) := am_blk (b := [(.iload_n 2, 1), (.ireturn, 1)]) rfl rfl (rfl : am_z 711 = 0) _ _ _
theorem e711 (d : Nat) (x1 : Int32) (μ : am_Mem) : am_call (d + 1) 711 [.ref 1, .int x1] μ = am_ev (am_call d) 711 0 [.ref 1, .int x1, .null, .null] [] μ := rfl
/-! NoWordTwice$Told.uses(II)Z  -/
set_option maxRecDepth 50000 in
theorem q712_0 (C : am_Ct) (x1 : Int32) (x2 : Int32) (μ : am_Mem) : am_ev C 712 0 [.ref 1, .int x1, .int x2] [] μ = (am_bI (C 711 [.ref 1, .int x1] μ) (fun r1 m1 => if ((r1 >>> (x2 &&& 31)) &&& (am_c 1)) = 0 then am_ev C 712 16 [.ref 1, .int x1, .int x2] [] m1 else am_ev C 712 17 [.ref 1, .int x1, .int x2] [.int (am_c 1)] m1)) := am_blk (b := [(.aload_n 0, 1), (.iload_n 1, 1), (.invokevirtual 81, 3), (.iload_n 2, 1), (.ishr, 1), (.iconst 1, 1), (.iand, 1), (.ifCond .eq 7, 3), (.iconst 1, 1), (.goto 4, 3)]) rfl rfl (rfl : am_z 712 = 2) _ _ _
set_option maxRecDepth 50000 in
theorem q712_16 (C : am_Ct) (x1 : Int32) (x2 : Int32) (μ : am_Mem) : am_ev C 712 16 [.ref 1, .int x1, .int x2] [] μ = (am_ev C 712 17 [.ref 1, .int x1, .int x2] [.int (am_c 0)] μ) := am_blk (b := [(.iconst 0, 1)]) rfl rfl (rfl : am_z 712 = 2) _ _ _
set_option maxRecDepth 50000 in
theorem q712_17 (C : am_Ct) (x1 : Int32) (x2 : Int32) (s0 : Int32) (μ : am_Mem) : am_ev C 712 17 [.ref 1, .int x1, .int x2] [.int s0] μ = (am_gb (Nat.blt (am_ix s0) 2) (am_ret (some (.int s0)) μ)) := am_blk (b := [(.ireturn, 1)]) rfl rfl (rfl : am_z 712 = 2) _ _ _
theorem e712 (d : Nat) (x1 : Int32) (x2 : Int32) (μ : am_Mem) : am_call (d + 1) 712 [.ref 1, .int x1, .int x2] μ = am_ev (am_call d) 712 0 [.ref 1, .int x1, .int x2] [] μ := rfl
/-! NoWordTwice$Told.usesAhead(II)I  -/
set_option maxRecDepth 50000 in
theorem q713_0 (C : am_Ct) (x1 : Int32) (x2 : Int32) (x3 : Value) (x4 : Value) (μ : am_Mem) : am_ev C 713 0 [.ref 1, .int x1, .int x2, x3, x4] [] μ = (am_ev C 713 5 [.ref 1, .int x1, .int x2, .int (am_c 0), .int (am_c 0)] [] μ) := am_blk (b := [(.iconst 0, 1), (.istore_n 3, 1), (.iconst 0, 1), (.istore 4, 2)]) rfl rfl (rfl : am_z 713 = 0) _ _ _
set_option maxRecDepth 50000 in
theorem q713_5 (C : am_Ct) (x1 : Int32) (x2 : Int32) (x3 : Int32) (x4 : Int32) (μ : am_Mem) : am_ev C 713 5 [.ref 1, .int x1, .int x2, .int x3, .int x4] [] μ = (if x2 ≤ x4 then am_ev C 713 30 [.ref 1, .int x1, .int x2, .int x3, .int x4] [] μ else am_bI (C 712 [.ref 1, .int x4, .int x1] μ) (fun r1 m1 => if r1 = 0 then am_ev C 713 24 [.ref 1, .int x1, .int x2, .int x3, .int x4] [] m1 else am_ev C 713 24 [.ref 1, .int x1, .int x2, .int (x3 + (am_c 1)), .int x4] [] m1)) := am_blk (b := [(.iload 4, 2), (.iload_n 2, 1), (.if_icmp .ge 22, 3), (.aload_n 0, 1), (.iload 4, 2), (.iload_n 1, 1), (.invokevirtual 85, 3), (.ifCond .eq 6, 3), (.iinc 3 1, 3)]) rfl rfl (rfl : am_z 713 = 0) _ _ _
set_option maxRecDepth 50000 in
theorem q713_24 (C : am_Ct) (x1 : Int32) (x2 : Int32) (x3 : Int32) (x4 : Int32) (μ : am_Mem) : am_ev C 713 24 [.ref 1, .int x1, .int x2, .int x3, .int x4] [] μ = (am_ev C 713 5 [.ref 1, .int x1, .int x2, .int x3, .int (x4 + (am_c 1))] [] μ) := am_blk (b := [(.iinc 4 1, 3), (.goto (-22), 3)]) rfl rfl (rfl : am_z 713 = 0) _ _ _
set_option maxRecDepth 50000 in
theorem q713_30 (C : am_Ct) (x1 : Int32) (x2 : Int32) (x3 : Int32) (x4 : Int32) (μ : am_Mem) : am_ev C 713 30 [.ref 1, .int x1, .int x2, .int x3, .int x4] [] μ = (am_ret (some (.int x3)) μ) := am_blk (b := [(.iload_n 3, 1), (.ireturn, 1)]) rfl rfl (rfl : am_z 713 = 0) _ _ _
theorem e713 (d : Nat) (x1 : Int32) (x2 : Int32) (μ : am_Mem) : am_call (d + 1) 713 [.ref 1, .int x1, .int x2] μ = am_ev (am_call d) 713 0 [.ref 1, .int x1, .int x2, .null, .null] [] μ := rfl
/-! NoWordTwice$Told.firstUse(I)I  -/
set_option maxRecDepth 50000 in
theorem q714_0 (C : am_Ct) (x1 : Int32) (x2 : Value) (μ : am_Mem) : am_ev C 714 0 [.ref 1, .int x1, x2] [] μ = (am_ev C 714 2 [.ref 1, .int x1, .int (am_c 0)] [] μ) := am_blk (b := [(.iconst 0, 1), (.istore_n 2, 1)]) rfl rfl (rfl : am_z 714 = 0) _ _ _
set_option maxRecDepth 50000 in
theorem q714_2 (C : am_Ct) (x1 : Int32) (x2 : Int32) (μ : am_Mem) : am_ev C 714 2 [.ref 1, .int x1, .int x2] [] μ = (if (μ 1 7) ≤ x2 then am_ev C 714 27 [.ref 1, .int x1, .int x2] [] μ else am_bI (C 712 [.ref 1, .int x2, .int x1] μ) (fun r1 m1 => if r1 = 0 then am_ev C 714 21 [.ref 1, .int x1, .int x2] [] m1 else am_ret (some (.int x2)) m1)) := am_blk (b := [(.iload_n 2, 1), (.aload_n 0, 1), (.getfield 59, 3), (.if_icmp .ge 20, 3), (.aload_n 0, 1), (.iload_n 2, 1), (.iload_n 1, 1), (.invokevirtual 85, 3), (.ifCond .eq 5, 3), (.iload_n 2, 1), (.ireturn, 1)]) rfl rfl (rfl : am_z 714 = 0) _ _ _
set_option maxRecDepth 50000 in
theorem q714_21 (C : am_Ct) (x1 : Int32) (x2 : Int32) (μ : am_Mem) : am_ev C 714 21 [.ref 1, .int x1, .int x2] [] μ = (am_ev C 714 2 [.ref 1, .int x1, .int (x2 + (am_c 1))] [] μ) := am_blk (b := [(.iinc 2 1, 3), (.goto (-22), 3)]) rfl rfl (rfl : am_z 714 = 0) _ _ _
set_option maxRecDepth 50000 in
theorem q714_27 (C : am_Ct) (x1 : Int32) (x2 : Int32) (μ : am_Mem) : am_ev C 714 27 [.ref 1, .int x1, .int x2] [] μ = (am_ret (some (.int (am_c (-1)))) μ) := am_blk (b := [(.iconst (-1), 1), (.ireturn, 1)]) rfl rfl (rfl : am_z 714 = 0) _ _ _
theorem e714 (d : Nat) (x1 : Int32) (μ : am_Mem) : am_call (d + 1) 714 [.ref 1, .int x1] μ = am_ev (am_call d) 714 0 [.ref 1, .int x1, .null] [] μ := rfl
/-! NoWordTwice$Told.alike(I)I  -/
set_option maxRecDepth 50000 in
theorem q715_0 (C : am_Ct) (x1 : Int32) (x2 : Value) (x3 : Value) (μ : am_Mem) : am_ev C 715 0 [.ref 1, .int x1, x2, x3] [] μ = (am_ev C 715 4 [.ref 1, .int x1, .int (am_c 0), .int (am_c 0)] [] μ) := am_blk (b := [(.iconst 0, 1), (.istore_n 2, 1), (.iconst 0, 1), (.istore_n 3, 1)]) rfl rfl (rfl : am_z 715 = 0) _ _ _
set_option maxRecDepth 50000 in
theorem q715_4 (C : am_Ct) (x1 : Int32) (x2 : Int32) (x3 : Int32) (μ : am_Mem) : am_ev C 715 4 [.ref 1, .int x1, .int x2, .int x3] [] μ = (if (μ 1 4) ≤ x3 then am_ev C 715 44 [.ref 1, .int x1, .int x2, .int x3] [] μ else if x3 = x1 then am_ev C 715 38 [.ref 1, .int x1, .int x2, .int x3] [] μ else am_gb (Nat.blt (am_ix x3) 16) (am_gb (Nat.blt (am_ix x1) 16) (if (μ 2 (am_ix x3)) = (μ 2 (am_ix x1)) then am_ev C 715 38 [.ref 1, .int x1, .int (x2 ||| (((am_c 1) : Int32) <<< (x3 &&& 31))), .int x3] [] μ else am_ev C 715 38 [.ref 1, .int x1, .int x2, .int x3] [] μ))) := am_blk (b := [(.iload_n 3, 1), (.aload_n 0, 1), (.getfield 47, 3), (.if_icmp .ge 35, 3), (.iload_n 3, 1), (.iload_n 1, 1), (.if_icmp .eq 24, 3), (.aload_n 0, 1), (.getfield 15, 3), (.iload_n 3, 1), (.iaload, 1), (.aload_n 0, 1), (.getfield 15, 3), (.iload_n 1, 1), (.iaload, 1), (.if_icmp .ne 9, 3), (.iload_n 2, 1), (.iconst 1, 1), (.iload_n 3, 1), (.ishl, 1), (.ior, 1), (.istore_n 2, 1)]) rfl rfl (rfl : am_z 715 = 0) _ _ _
set_option maxRecDepth 50000 in
theorem q715_38 (C : am_Ct) (x1 : Int32) (x2 : Int32) (x3 : Int32) (μ : am_Mem) : am_ev C 715 38 [.ref 1, .int x1, .int x2, .int x3] [] μ = (am_ev C 715 4 [.ref 1, .int x1, .int x2, .int (x3 + (am_c 1))] [] μ) := am_blk (b := [(.iinc 3 1, 3), (.goto (-37), 3)]) rfl rfl (rfl : am_z 715 = 0) _ _ _
set_option maxRecDepth 50000 in
theorem q715_44 (C : am_Ct) (x1 : Int32) (x2 : Int32) (x3 : Int32) (μ : am_Mem) : am_ev C 715 44 [.ref 1, .int x1, .int x2, .int x3] [] μ = (am_ret (some (.int x2)) μ) := am_blk (b := [(.iload_n 2, 1), (.ireturn, 1)]) rfl rfl (rfl : am_z 715 = 0) _ _ _
theorem e715 (d : Nat) (x1 : Int32) (μ : am_Mem) : am_call (d + 1) 715 [.ref 1, .int x1] μ = am_ev (am_call d) 715 0 [.ref 1, .int x1, .null, .null] [] μ := rfl
/-! NoWordTwice$Told.allHeads()I  -/
set_option maxRecDepth 50000 in
theorem q716_0 (C : am_Ct) (x1 : Value) (x2 : Value) (μ : am_Mem) : am_ev C 716 0 [.ref 1, x1, x2] [] μ = (am_ev C 716 4 [.ref 1, .int (am_c 0), .int (am_c 0)] [] μ) := am_blk (b := [(.iconst 0, 1), (.istore_n 1, 1), (.iconst 0, 1), (.istore_n 2, 1)]) rfl rfl (rfl : am_z 716 = 0) _ _ _
set_option maxRecDepth 50000 in
theorem q716_4 (C : am_Ct) (x1 : Int32) (x2 : Int32) (μ : am_Mem) : am_ev C 716 4 [.ref 1, .int x1, .int x2] [] μ = (if (μ 1 7) ≤ x2 then am_ev C 716 29 [.ref 1, .int x1, .int x2] [] μ else am_gb (Nat.blt (am_ix x2) 12) (am_ev C 716 4 [.ref 1, .int (x1 ||| (((am_c 1) : Int32) <<< ((μ 3 (am_ix x2)) &&& 31))), .int (x2 + (am_c 1))] [] μ)) := am_blk (b := [(.iload_n 2, 1), (.aload_n 0, 1), (.getfield 59, 3), (.if_icmp .ge 20, 3), (.iload_n 1, 1), (.iconst 1, 1), (.aload_n 0, 1), (.getfield 19, 3), (.iload_n 2, 1), (.iaload, 1), (.ishl, 1), (.ior, 1), (.istore_n 1, 1), (.iinc 2 1, 3), (.goto (-22), 3)]) rfl rfl (rfl : am_z 716 = 0) _ _ _
set_option maxRecDepth 50000 in
theorem q716_29 (C : am_Ct) (x1 : Int32) (x2 : Int32) (μ : am_Mem) : am_ev C 716 29 [.ref 1, .int x1, .int x2] [] μ = (am_ret (some (.int x1)) μ) := am_blk (b := [(.iload_n 1, 1), (.ireturn, 1)]) rfl rfl (rfl : am_z 716 = 0) _ _ _
theorem e716 (d : Nat) (μ : am_Mem) : am_call (d + 1) 716 [.ref 1] μ = am_ev (am_call d) 716 0 [.ref 1, .null, .null] [] μ := rfl
/-! NoWordTwice$Told.isFixed(I)Z  -/
set_option maxRecDepth 50000 in
theorem q717_0 (C : am_Ct) (x1 : Int32) (μ : am_Mem) : am_ev C 717 0 [.ref 1, .int x1] [] μ = (am_gb (Nat.blt (am_ix x1) 12) (am_bI (C 711 [.ref 1, .int x1] μ) (fun r1 m1 => am_bI (C 718 [.ref 1, .int (μ 3 (am_ix x1)), .int r1] m1) (fun r2 m2 => am_gb (Nat.blt (am_ix r2) 2) (am_ret (some (.int r2)) m2))))) := am_blk (b := [(.aload_n 0, 1), (.aload_n 0, 1), (.getfield 19, 3), (.iload_n 1, 1), (.iaload, 1), (.aload_n 0, 1), (.iload_n 1, 1), (.invokevirtual 81, 3), (.invokevirtual 89, 3), (.ireturn, 1)]) rfl rfl (rfl : am_z 717 = 2) _ _ _
theorem e717 (d : Nat) (x1 : Int32) (μ : am_Mem) : am_call (d + 1) 717 [.ref 1, .int x1] μ = am_ev (am_call d) 717 0 [.ref 1, .int x1] [] μ := rfl
/-! NoWordTwice$Told.fixedBy(II)Z  -/
set_option maxRecDepth 50000 in
theorem q718_0 (C : am_Ct) (x1 : Int32) (x2 : Int32) (x3 : Value) (x4 : Value) (μ : am_Mem) : am_ev C 718 0 [.ref 1, .int x1, .int x2, x3, x4] [] μ = (am_ev C 718 5 [.ref 1, .int x1, .int x2, .int (am_c 0), .int (am_c 0)] [] μ) := am_blk (b := [(.iconst 0, 1), (.istore_n 3, 1), (.iconst 0, 1), (.istore 4, 2)]) rfl rfl (rfl : am_z 718 = 2) _ _ _
set_option maxRecDepth 50000 in
theorem q718_5 (C : am_Ct) (x1 : Int32) (x2 : Int32) (x3 : Int32) (x4 : Int32) (μ : am_Mem) : am_ev C 718 5 [.ref 1, .int x1, .int x2, .int x3, .int x4] [] μ = (if (μ 1 4) ≤ x4 then am_ev C 718 39 [.ref 1, .int x1, .int x2, .int x3, .int x4] [] μ else if ((x2 >>> (x4 &&& 31)) &&& (am_c 1)) = 0 then am_ev C 718 33 [.ref 1, .int x1, .int x2, .int x3, .int x4] [] μ else am_gb (Nat.blt (am_ix x4) 16) (am_ev C 718 33 [.ref 1, .int x1, .int x2, .int (x3 ||| (μ 2 (am_ix x4))), .int x4] [] μ)) := am_blk (b := [(.iload 4, 2), (.aload_n 0, 1), (.getfield 47, 3), (.if_icmp .ge 28, 3), (.iload_n 2, 1), (.iload 4, 2), (.ishr, 1), (.iconst 1, 1), (.iand, 1), (.ifCond .eq 13, 3), (.iload_n 3, 1), (.aload_n 0, 1), (.getfield 15, 3), (.iload 4, 2), (.iaload, 1), (.ior, 1), (.istore_n 3, 1)]) rfl rfl (rfl : am_z 718 = 2) _ _ _
set_option maxRecDepth 50000 in
theorem q718_33 (C : am_Ct) (x1 : Int32) (x2 : Int32) (x3 : Int32) (x4 : Int32) (μ : am_Mem) : am_ev C 718 33 [.ref 1, .int x1, .int x2, .int x3, .int x4] [] μ = (am_ev C 718 5 [.ref 1, .int x1, .int x2, .int x3, .int (x4 + (am_c 1))] [] μ) := am_blk (b := [(.iinc 4 1, 3), (.goto (-31), 3)]) rfl rfl (rfl : am_z 718 = 2) _ _ _
set_option maxRecDepth 50000 in
theorem q718_39 (C : am_Ct) (x1 : Int32) (x2 : Int32) (x3 : Int32) (x4 : Int32) (μ : am_Mem) : am_ev C 718 39 [.ref 1, .int x1, .int x2, .int x3, .int x4] [] μ = (am_gb (Nat.blt (am_ix x1) 16) (am_bI (C 1200 [.int ((μ 2 (am_ix x1)) &&& x3)] μ) (fun r1 m1 => am_bV (C 102 [.ref 7, .int (am_c 9), .int r1] m1) (fun m2 => am_gb (Nat.blt (am_ix x1) 16) (am_bI (C 1200 [.int ((m2 2 (am_ix x1)) &&& (x3 ^^^ (am_c (-1))))] m2) (fun r3 m3 => am_bV (C 102 [.ref 7, .int (am_c 10), .int r3] m3) (fun m4 => am_gb (Nat.blt (am_ix x1) 16) (am_bI (C 1200 [.int (x3 &&& ((m4 2 (am_ix x1)) ^^^ (am_c (-1))))] m4) (fun r5 m5 => am_bV (C 102 [.ref 7, .int (am_c 11), .int r5] m5) (fun m6 => am_bI (C 1200 [.int x2] m6) (fun r7 m7 => am_bV (C 102 [.ref 7, .int (am_c 12), .int r7] m7) (fun m8 => am_bI (C 719 [.ref 1, .int x3, .int (x2 ||| (((am_c 1) : Int32) <<< (x1 &&& 31)))] m8) (fun r9 m9 => am_bV (C 102 [.ref 7, .int (am_c 13), .int r9] m9) (fun m10 => am_bV (C 102 [.ref 7, .int (am_c 14), .int x1] m10) (fun m11 => am_bI (C 103 [.ref 7] m11) (fun r12 m12 => am_gb (Nat.blt (am_ix r12) 2) (am_ret (some (.int r12)) m12))))))))))))))))) := am_blk (b := [(.aload_n 0, 1), (.getfield 34, 3), (.bipush 9, 2), (.aload_n 0, 1), (.getfield 15, 3), (.iload_n 1, 1), (.iaload, 1), (.iload_n 3, 1), (.iand, 1), (.invokestatic 92, 3), (.invokevirtual 97, 3), (.aload_n 0, 1), (.getfield 34, 3), (.bipush 10, 2), (.aload_n 0, 1), (.getfield 15, 3), (.iload_n 1, 1), (.iaload, 1), (.iload_n 3, 1), (.iconst (-1), 1), (.ixor, 1), (.iand, 1), (.invokestatic 92, 3), (.invokevirtual 97, 3), (.aload_n 0, 1), (.getfield 34, 3), (.bipush 11, 2), (.iload_n 3, 1), (.aload_n 0, 1), (.getfield 15, 3), (.iload_n 1, 1), (.iaload, 1), (.iconst (-1), 1), (.ixor, 1), (.iand, 1), (.invokestatic 92, 3), (.invokevirtual 97, 3), (.aload_n 0, 1), (.getfield 34, 3), (.bipush 12, 2), (.iload_n 2, 1), (.invokestatic 92, 3), (.invokevirtual 97, 3), (.aload_n 0, 1), (.getfield 34, 3), (.bipush 13, 2), (.aload_n 0, 1), (.iload_n 3, 1), (.iload_n 2, 1), (.iconst 1, 1), (.iload_n 1, 1), (.ishl, 1), (.ior, 1), (.invokevirtual 100, 3), (.invokevirtual 97, 3), (.aload_n 0, 1), (.getfield 34, 3), (.bipush 14, 2), (.iload_n 1, 1), (.invokevirtual 97, 3), (.aload_n 0, 1), (.getfield 34, 3), (.invokevirtual 104, 3), (.ireturn, 1)]) rfl rfl (rfl : am_z 718 = 2) _ _ _
theorem e718 (d : Nat) (x1 : Int32) (x2 : Int32) (μ : am_Mem) : am_call (d + 1) 718 [.ref 1, .int x1, .int x2] μ = am_ev (am_call d) 718 0 [.ref 1, .int x1, .int x2, .null, .null] [] μ := rfl
/-! NoWordTwice$Told.otherWordsWithin(II)I  -/
set_option maxRecDepth 50000 in
theorem q719_0 (C : am_Ct) (x1 : Int32) (x2 : Int32) (x3 : Value) (x4 : Value) (μ : am_Mem) : am_ev C 719 0 [.ref 1, .int x1, .int x2, x3, x4] [] μ = (am_ev C 719 5 [.ref 1, .int x1, .int x2, .int (am_c 0), .int (am_c 0)] [] μ) := am_blk (b := [(.iconst 0, 1), (.istore_n 3, 1), (.iconst 0, 1), (.istore 4, 2)]) rfl rfl (rfl : am_z 719 = 0) _ _ _
set_option maxRecDepth 50000 in
theorem q719_5 (C : am_Ct) (x1 : Int32) (x2 : Int32) (x3 : Int32) (x4 : Int32) (μ : am_Mem) : am_ev C 719 5 [.ref 1, .int x1, .int x2, .int x3, .int x4] [] μ = (if (μ 1 4) ≤ x4 then am_ev C 719 46 [.ref 1, .int x1, .int x2, .int x3, .int x4] [] μ else if ((x2 >>> (x4 &&& 31)) &&& (am_c 1)) = 0 then am_gb (Nat.blt (am_ix x4) 16) (if ((μ 2 (am_ix x4)) &&& (x1 ^^^ (am_c (-1)))) = 0 then am_ev C 719 40 [.ref 1, .int x1, .int x2, .int (x3 + (am_c 1)), .int x4] [] μ else am_ev C 719 40 [.ref 1, .int x1, .int x2, .int x3, .int x4] [] μ) else am_ev C 719 40 [.ref 1, .int x1, .int x2, .int x3, .int x4] [] μ) := am_blk (b := [(.iload 4, 2), (.aload_n 0, 1), (.getfield 47, 3), (.if_icmp .ge 35, 3), (.iload_n 2, 1), (.iload 4, 2), (.ishr, 1), (.iconst 1, 1), (.iand, 1), (.ifCond .ne 20, 3), (.aload_n 0, 1), (.getfield 15, 3), (.iload 4, 2), (.iaload, 1), (.iload_n 1, 1), (.iconst (-1), 1), (.ixor, 1), (.iand, 1), (.ifCond .ne 6, 3), (.iinc 3 1, 3)]) rfl rfl (rfl : am_z 719 = 0) _ _ _
set_option maxRecDepth 50000 in
theorem q719_40 (C : am_Ct) (x1 : Int32) (x2 : Int32) (x3 : Int32) (x4 : Int32) (μ : am_Mem) : am_ev C 719 40 [.ref 1, .int x1, .int x2, .int x3, .int x4] [] μ = (am_ev C 719 5 [.ref 1, .int x1, .int x2, .int x3, .int (x4 + (am_c 1))] [] μ) := am_blk (b := [(.iinc 4 1, 3), (.goto (-38), 3)]) rfl rfl (rfl : am_z 719 = 0) _ _ _
set_option maxRecDepth 50000 in
theorem q719_46 (C : am_Ct) (x1 : Int32) (x2 : Int32) (x3 : Int32) (x4 : Int32) (μ : am_Mem) : am_ev C 719 46 [.ref 1, .int x1, .int x2, .int x3, .int x4] [] μ = (am_ret (some (.int x3)) μ) := am_blk (b := [(.iload_n 3, 1), (.ireturn, 1)]) rfl rfl (rfl : am_z 719 = 0) _ _ _
theorem e719 (d : Nat) (x1 : Int32) (x2 : Int32) (μ : am_Mem) : am_call (d + 1) 719 [.ref 1, .int x1, .int x2] μ = am_ev (am_call d) 719 0 [.ref 1, .int x1, .int x2, .null, .null] [] μ := rfl
/-! NoWordTwice$Told.readable(II)I  -/
set_option maxRecDepth 50000 in
theorem q720_0 (C : am_Ct) (x1 : Int32) (x2 : Int32) (x3 : Value) (x4 : Value) (x5 : Value) (x6 : Value) (x7 : Value) (μ : am_Mem) : am_ev C 720 0 [.ref 1, .int x1, .int x2, x3, x4, x5, x6, x7] [] μ = (am_bI (C 711 [.ref 1, .int x1] μ) (fun r1 m1 => am_gb (Nat.blt (am_ix ((x1 * (am_c 3)) + x2)) 36) (am_gb (Nat.blt (am_ix x1) 12) (am_ev C 720 39 [.ref 1, .int x1, .int x2, .int (r1 &&& ((((am_c 1) : Int32) <<< ((m1 5 (am_ix ((x1 * (am_c 3)) + x2))) &&& 31)) ^^^ (am_c (-1)))), .int ((r1 &&& ((((am_c 1) : Int32) <<< ((m1 5 (am_ix ((x1 * (am_c 3)) + x2))) &&& 31)) ^^^ (am_c (-1)))) ||| (((am_c 1) : Int32) <<< ((m1 3 (am_ix x1)) &&& 31))), .int (am_c 0), .int (am_c 0), x7] [] m1)))) := am_blk (b := [(.aload_n 0, 1), (.iload_n 1, 1), (.invokevirtual 81, 3), (.iconst 1, 1), (.aload_n 0, 1), (.getfield 25, 3), (.iload_n 1, 1), (.iconst 3, 1), (.imul, 1), (.iload_n 2, 1), (.iadd, 1), (.iaload, 1), (.ishl, 1), (.iconst (-1), 1), (.ixor, 1), (.iand, 1), (.istore_n 3, 1), (.iload_n 3, 1), (.iconst 1, 1), (.aload_n 0, 1), (.getfield 19, 3), (.iload_n 1, 1), (.iaload, 1), (.ishl, 1), (.ior, 1), (.istore 4, 2), (.iconst 0, 1), (.istore 5, 2), (.iconst 0, 1), (.istore 6, 2)]) rfl rfl (rfl : am_z 720 = 0) _ _ _
set_option maxRecDepth 50000 in
theorem q720_39 (C : am_Ct) (x1 : Int32) (x2 : Int32) (x3 : Int32) (x4 : Int32) (x5 : Int32) (x6 : Int32) (x7 : Value) (μ : am_Mem) : am_ev C 720 39 [.ref 1, .int x1, .int x2, .int x3, .int x4, .int x5, .int x6, x7] [] μ = (if (μ 1 4) ≤ x6 then am_ev C 720 118 [.ref 1, .int x1, .int x2, .int x3, .int x4, .int x5, .int x6, x7] [] μ else if ((x4 >>> (x6 &&& 31)) &&& (am_c 1)) = 0 then am_bI (C 721 [.ref 1, .int x6, .int x1] μ) (fun r1 m1 => if (m1 1 1) ≤ r1 then am_ev C 720 76 [.ref 1, .int x1, .int x2, .int x3, .int x4, .int x5, .int x6, x7] [] m1 else am_ev C 720 77 [.ref 1, .int x1, .int x2, .int x3, .int x4, .int x5, .int x6, x7] [.int (am_c 1)] m1) else am_ev C 720 76 [.ref 1, .int x1, .int x2, .int x3, .int x4, .int x5, .int x6, x7] [] μ) := am_blk (b := [(.iload 6, 2), (.aload_n 0, 1), (.getfield 47, 3), (.if_icmp .ge 73, 3), (.iload 4, 2), (.iload 6, 2), (.ishr, 1), (.iconst 1, 1), (.iand, 1), (.ifCond .ne 21, 3), (.aload_n 0, 1), (.iload 6, 2), (.iload_n 1, 1), (.invokevirtual 108, 3), (.aload_n 0, 1), (.getfield 9, 3), (.if_icmp .ge 7, 3), (.iconst 1, 1), (.goto 4, 3)]) rfl rfl (rfl : am_z 720 = 0) _ _ _
set_option maxRecDepth 50000 in
theorem q720_76 (C : am_Ct) (x1 : Int32) (x2 : Int32) (x3 : Int32) (x4 : Int32) (x5 : Int32) (x6 : Int32) (x7 : Value) (μ : am_Mem) : am_ev C 720 76 [.ref 1, .int x1, .int x2, .int x3, .int x4, .int x5, .int x6, x7] [] μ = (am_ev C 720 77 [.ref 1, .int x1, .int x2, .int x3, .int x4, .int x5, .int x6, x7] [.int (am_c 0)] μ) := am_blk (b := [(.iconst 0, 1)]) rfl rfl (rfl : am_z 720 = 0) _ _ _
set_option maxRecDepth 50000 in
theorem q720_77 (C : am_Ct) (x1 : Int32) (x2 : Int32) (x3 : Int32) (x4 : Int32) (x5 : Int32) (x6 : Int32) (x7 : Value) (s0 : Int32) (μ : am_Mem) : am_ev C 720 77 [.ref 1, .int x1, .int x2, .int x3, .int x4, .int x5, .int x6, x7] [.int s0] μ = (if s0 = 0 then am_ev C 720 112 [.ref 1, .int x1, .int x2, .int x3, .int x4, .int x5, .int x6, .int s0] [] μ else am_gb (Nat.blt (am_ix x1) 12) (am_bI (C 718 [.ref 1, .int (μ 3 (am_ix x1)), .int (x3 ||| (((am_c 1) : Int32) <<< (x6 &&& 31)))] μ) (fun r1 m1 => if r1 = 0 then am_ev C 720 112 [.ref 1, .int x1, .int x2, .int x3, .int x4, .int x5, .int x6, .int s0] [] m1 else am_ev C 720 112 [.ref 1, .int x1, .int x2, .int x3, .int x4, .int (x5 ||| (((am_c 1) : Int32) <<< (x6 &&& 31))), .int x6, .int s0] [] m1))) := am_blk (b := [(.istore 7, 2), (.iload 7, 2), (.ifCond .eq 31, 3), (.aload_n 0, 1), (.aload_n 0, 1), (.getfield 19, 3), (.iload_n 1, 1), (.iaload, 1), (.iload_n 3, 1), (.iconst 1, 1), (.iload 6, 2), (.ishl, 1), (.ior, 1), (.invokevirtual 89, 3), (.ifCond .eq 12, 3), (.iload 5, 2), (.iconst 1, 1), (.iload 6, 2), (.ishl, 1), (.ior, 1), (.istore 5, 2)]) rfl rfl (rfl : am_z 720 = 0) _ _ _
set_option maxRecDepth 50000 in
theorem q720_112 (C : am_Ct) (x1 : Int32) (x2 : Int32) (x3 : Int32) (x4 : Int32) (x5 : Int32) (x6 : Int32) (x7 : Int32) (μ : am_Mem) : am_ev C 720 112 [.ref 1, .int x1, .int x2, .int x3, .int x4, .int x5, .int x6, .int x7] [] μ = (am_ev C 720 39 [.ref 1, .int x1, .int x2, .int x3, .int x4, .int x5, .int (x6 + (am_c 1)), .int x7] [] μ) := am_blk (b := [(.iinc 6 1, 3), (.goto (-76), 3)]) rfl rfl (rfl : am_z 720 = 0) _ _ _
set_option maxRecDepth 50000 in
theorem q720_118 (C : am_Ct) (x1 : Int32) (x2 : Int32) (x3 : Int32) (x4 : Int32) (x5 : Int32) (x6 : Int32) (x7 : Value) (μ : am_Mem) : am_ev C 720 118 [.ref 1, .int x1, .int x2, .int x3, .int x4, .int x5, .int x6, x7] [] μ = (am_ret (some (.int x5)) μ) := am_blk (b := [(.iload 5, 2), (.ireturn, 1)]) rfl rfl (rfl : am_z 720 = 0) _ _ _
theorem e720 (d : Nat) (x1 : Int32) (x2 : Int32) (μ : am_Mem) : am_call (d + 1) 720 [.ref 1, .int x1, .int x2] μ = am_ev (am_call d) 720 0 [.ref 1, .int x1, .int x2, .null, .null, .null, .null, .null] [] μ := rfl
/-! NoWordTwice$Told.usesElsewhere(II)I  -/
set_option maxRecDepth 50000 in
theorem q721_0 (C : am_Ct) (x1 : Int32) (x2 : Int32) (x3 : Value) (μ : am_Mem) : am_ev C 721 0 [.ref 1, .int x1, .int x2, x3] [] μ = (am_bI (C 713 [.ref 1, .int x1, .int (μ 1 7)] μ) (fun r1 m1 => am_bI (C 712 [.ref 1, .int x2, .int x1] m1) (fun r2 m2 => if r2 = 0 then am_ev C 721 25 [.ref 1, .int x1, .int x2, .int r1] [] m2 else am_ev C 721 26 [.ref 1, .int x1, .int x2, .int r1] [.int (r1 - (am_c 1))] m2))) := am_blk (b := [(.aload_n 0, 1), (.iload_n 1, 1), (.aload_n 0, 1), (.getfield 59, 3), (.invokevirtual 111, 3), (.istore_n 3, 1), (.aload_n 0, 1), (.iload_n 2, 1), (.iload_n 1, 1), (.invokevirtual 85, 3), (.ifCond .eq 9, 3), (.iload_n 3, 1), (.iconst 1, 1), (.isub, 1), (.goto 4, 3)]) rfl rfl (rfl : am_z 721 = 0) _ _ _
set_option maxRecDepth 50000 in
theorem q721_25 (C : am_Ct) (x1 : Int32) (x2 : Int32) (x3 : Int32) (μ : am_Mem) : am_ev C 721 25 [.ref 1, .int x1, .int x2, .int x3] [] μ = (am_ev C 721 26 [.ref 1, .int x1, .int x2, .int x3] [.int x3] μ) := am_blk (b := [(.iload_n 3, 1)]) rfl rfl (rfl : am_z 721 = 0) _ _ _
set_option maxRecDepth 50000 in
theorem q721_26 (C : am_Ct) (x1 : Int32) (x2 : Int32) (x3 : Int32) (s0 : Int32) (μ : am_Mem) : am_ev C 721 26 [.ref 1, .int x1, .int x2, .int x3] [.int s0] μ = (am_ret (some (.int s0)) μ) := am_blk (b := [(.ireturn, 1)]) rfl rfl (rfl : am_z 721 = 0) _ _ _
theorem e721 (d : Nat) (x1 : Int32) (x2 : Int32) (μ : am_Mem) : am_call (d + 1) 721 [.ref 1, .int x1, .int x2] μ = am_ev (am_call d) 721 0 [.ref 1, .int x1, .int x2, .null] [] μ := rfl
/-! NoWordTwice$Told.draw(I)I  -/
set_option maxRecDepth 50000 in
theorem q722_0 (C : am_Ct) (x1 : Int32) (μ : am_Mem) : am_ev C 722 0 [.ref 1, .int x1] [] μ = (if x1 ≤ 0 then am_ev C 722 30 [.ref 1, .int x1] [] (am_up μ 1 0 (((μ 1 0) * 1664525) + 1013904223)) else am_gb (!(Nat.beq (am_ix x1) 0)) (am_ev C 722 31 [.ref 1, .int x1] [.int ((((Int32.toUInt32 ((am_up μ 1 0 (((μ 1 0) * 1664525) + 1013904223)) 1 0)) >>> ((Int32.toUInt32 (am_c 8)) &&& Int32.toUInt32 31)).toInt32) - (((Int32.toUInt32 ((am_up μ 1 0 (((μ 1 0) * 1664525) + 1013904223)) 1 0)) >>> ((Int32.toUInt32 (am_c 8)) &&& Int32.toUInt32 31)).toInt32) / x1 * x1)] (am_up μ 1 0 (((μ 1 0) * 1664525) + 1013904223)))) := am_blk (b := [(.aload_n 0, 1), (.aload_n 0, 1), (.getfield 38, 3), (.ldc 114, 2), (.imul, 1), (.ldc 115, 2), (.iadd, 1), (.putfield 38, 3), (.iload_n 1, 1), (.ifCond .le 15, 3), (.aload_n 0, 1), (.getfield 38, 3), (.bipush 8, 2), (.iushr, 1), (.iload_n 1, 1), (.irem, 1), (.goto 4, 3)]) rfl rfl (rfl : am_z 722 = 0) _ _ _
set_option maxRecDepth 50000 in
theorem q722_30 (C : am_Ct) (x1 : Int32) (μ : am_Mem) : am_ev C 722 30 [.ref 1, .int x1] [] μ = (am_ev C 722 31 [.ref 1, .int x1] [.int (am_c 0)] μ) := am_blk (b := [(.iconst 0, 1)]) rfl rfl (rfl : am_z 722 = 0) _ _ _
set_option maxRecDepth 50000 in
theorem q722_31 (C : am_Ct) (x1 : Int32) (s0 : Int32) (μ : am_Mem) : am_ev C 722 31 [.ref 1, .int x1] [.int s0] μ = (am_ret (some (.int s0)) μ) := am_blk (b := [(.ireturn, 1)]) rfl rfl (rfl : am_z 722 = 0) _ _ _
theorem e722 (d : Nat) (x1 : Int32) (μ : am_Mem) : am_call (d + 1) 722 [.ref 1, .int x1] μ = am_ev (am_call d) 722 0 [.ref 1, .int x1] [] μ := rfl
/-! NoWordTwice$Told.bringOutEdition()I  -/
set_option maxRecDepth 50000 in
theorem q723_0 (C : am_Ct) (x1 : Value) (x2 : Value) (μ : am_Mem) : am_ev C 723 0 [.ref 1, x1, x2] [] μ = (am_ev C 723 4 [.ref 1, .int (am_c 0), .int (am_c 0)] [] μ) := am_blk (b := [(.iconst 0, 1), (.istore_n 1, 1), (.iconst 0, 1), (.istore_n 2, 1)]) rfl rfl (rfl : am_z 723 = 0) _ _ _
set_option maxRecDepth 50000 in
theorem q723_4 (C : am_Ct) (x1 : Int32) (x2 : Int32) (μ : am_Mem) : am_ev C 723 4 [.ref 1, .int x1, .int x2] [] μ = (if (μ 1 7) ≤ x2 then am_ev C 723 50 [.ref 1, .int x1, .int x2] [] μ else if (μ 1 2) ≤ 0 then am_ev C 723 44 [.ref 1, .int x1, .int x2] [] μ else am_bI (C 722 [.ref 1, .int (am_c 1000)] μ) (fun r1 m1 => if (m1 1 2) ≤ r1 then am_ev C 723 44 [.ref 1, .int x1, .int x2] [] m1 else am_bI (C 724 [.ref 1, .int x2] m1) (fun r2 m2 => if r2 = 0 then am_ev C 723 44 [.ref 1, .int x1, .int x2] [] m2 else am_ev C 723 44 [.ref 1, .int (x1 + (am_c 1)), .int x2] [] m2))) := am_blk (b := [(.iload_n 2, 1), (.aload_n 0, 1), (.getfield 59, 3), (.if_icmp .ge 41, 3), (.aload_n 0, 1), (.getfield 41, 3), (.ifCond .le 28, 3), (.aload_n 0, 1), (.sipush 1000, 3), (.invokevirtual 116, 3), (.aload_n 0, 1), (.getfield 41, 3), (.if_icmp .ge 14, 3), (.aload_n 0, 1), (.iload_n 2, 1), (.invokevirtual 119, 3), (.ifCond .eq 6, 3), (.iinc 1 1, 3)]) rfl rfl (rfl : am_z 723 = 0) _ _ _
set_option maxRecDepth 50000 in
theorem q723_44 (C : am_Ct) (x1 : Int32) (x2 : Int32) (μ : am_Mem) : am_ev C 723 44 [.ref 1, .int x1, .int x2] [] μ = (am_ev C 723 4 [.ref 1, .int x1, .int (x2 + (am_c 1))] [] μ) := am_blk (b := [(.iinc 2 1, 3), (.goto (-43), 3)]) rfl rfl (rfl : am_z 723 = 0) _ _ _
set_option maxRecDepth 50000 in
theorem q723_50 (C : am_Ct) (x1 : Int32) (x2 : Int32) (μ : am_Mem) : am_ev C 723 50 [.ref 1, .int x1, .int x2] [] μ = (am_ret (some (.int x1)) (am_up μ 1 3 ((μ 1 3) + (am_c 1)))) := am_blk (b := [(.aload_n 0, 1), (.dup, 1), (.getfield 44, 3), (.iconst 1, 1), (.iadd, 1), (.putfield 44, 3), (.iload_n 1, 1), (.ireturn, 1)]) rfl rfl (rfl : am_z 723 = 0) _ _ _
theorem e723 (d : Nat) (μ : am_Mem) : am_call (d + 1) 723 [.ref 1] μ = am_ev (am_call d) 723 0 [.ref 1, .null, .null] [] μ := rfl
/-! NoWordTwice$Told.changeWord(I)Z  -/
set_option maxRecDepth 50000 in
theorem q724_0 (C : am_Ct) (x1 : Int32) (x2 : Value) (x3 : Value) (μ : am_Mem) : am_ev C 724 0 [.ref 1, .int x1, x2, x3] [] μ = (am_gb (Nat.blt (am_ix x1) 12) (am_bI (C 722 [.ref 1, .int (μ 4 (am_ix x1))] μ) (fun r1 m1 => am_bI (C 722 [.ref 1, .int (m1 1 4)] m1) (fun r2 m2 => am_gb (Nat.blt (am_ix x1) 12) (if r2 = (m2 3 (am_ix x1)) then am_ev C 724 43 [.ref 1, .int x1, .int ((x1 * (am_c 3)) + r1), .int r2] [] m2 else am_bI (C 712 [.ref 1, .int x1, .int r2] m2) (fun r3 m3 => if r3 = 0 then am_ev C 724 45 [.ref 1, .int x1, .int ((x1 * (am_c 3)) + r1), .int r2] [] m3 else am_ev C 724 43 [.ref 1, .int x1, .int ((x1 * (am_c 3)) + r1), .int r2] [] m3)))))) := am_blk (b := [(.iload_n 1, 1), (.iconst 3, 1), (.imul, 1), (.aload_n 0, 1), (.aload_n 0, 1), (.getfield 22, 3), (.iload_n 1, 1), (.iaload, 1), (.invokevirtual 116, 3), (.iadd, 1), (.istore_n 2, 1), (.aload_n 0, 1), (.aload_n 0, 1), (.getfield 47, 3), (.invokevirtual 116, 3), (.istore_n 3, 1), (.iload_n 3, 1), (.aload_n 0, 1), (.getfield 19, 3), (.iload_n 1, 1), (.iaload, 1), (.if_icmp .eq 12, 3), (.aload_n 0, 1), (.iload_n 1, 1), (.iload_n 3, 1), (.invokevirtual 85, 3), (.ifCond .eq 5, 3)]) rfl rfl (rfl : am_z 724 = 2) _ _ _
set_option maxRecDepth 50000 in
theorem q724_43 (C : am_Ct) (x1 : Int32) (x2 : Int32) (x3 : Int32) (μ : am_Mem) : am_ev C 724 43 [.ref 1, .int x1, .int x2, .int x3] [] μ = (am_ret (some (.int (am_c 0))) μ) := am_blk (b := [(.iconst 0, 1), (.ireturn, 1)]) rfl rfl (rfl : am_z 724 = 2) _ _ _
set_option maxRecDepth 50000 in
theorem q724_45 (C : am_Ct) (x1 : Int32) (x2 : Int32) (x3 : Int32) (μ : am_Mem) : am_ev C 724 45 [.ref 1, .int x1, .int x2, .int x3] [] μ = (am_gb (Nat.blt (am_ix x2) 36) (am_bV (C 725 [.ref 1, .int x1, .int (μ 5 (am_ix x2)), .int x3] μ) (fun m1 => am_gb (Nat.blt (am_ix x2) 36) (am_ret (some (.int (am_c 1))) (am_up m1 5 (am_ix x2) x3))))) := am_blk (b := [(.aload_n 0, 1), (.iload_n 1, 1), (.aload_n 0, 1), (.getfield 25, 3), (.iload_n 2, 1), (.iaload, 1), (.iload_n 3, 1), (.invokevirtual 122, 3), (.aload_n 0, 1), (.getfield 25, 3), (.iload_n 2, 1), (.iload_n 3, 1), (.iastore, 1), (.iconst 1, 1), (.ireturn, 1)]) rfl rfl (rfl : am_z 724 = 2) _ _ _
theorem e724 (d : Nat) (x1 : Int32) (μ : am_Mem) : am_call (d + 1) 724 [.ref 1, .int x1] μ = am_ev (am_call d) 724 0 [.ref 1, .int x1, .null, .null] [] μ := rfl
/-! NoWordTwice$Told.writeBook(III)V  -/
set_option maxRecDepth 50000 in
theorem q725_0 (C : am_Ct) (x1 : Int32) (x2 : Int32) (x3 : Int32) (x4 : Value) (μ : am_Mem) : am_ev C 725 0 [.ref 1, .int x1, .int x2, .int x3, x4] [] μ = (if (μ 1 11) < (am_c 80) then am_ev C 725 10 [.ref 1, .int x1, .int x2, .int x3, x4] [] μ else am_ret none μ) := am_blk (b := [(.aload_n 0, 1), (.getfield 62, 3), (.bipush 80, 2), (.if_icmp .lt 4, 3), (.return_, 1)]) rfl rfl (rfl : am_z 725 = 0) _ _ _
set_option maxRecDepth 50000 in
theorem q725_10 (C : am_Ct) (x1 : Int32) (x2 : Int32) (x3 : Int32) (x4 : Value) (μ : am_Mem) : am_ev C 725 10 [.ref 1, .int x1, .int x2, .int x3, x4] [] μ = (am_gb (Nat.blt (am_ix ((μ 1 11) * (am_c 4))) 320) (am_gb (Nat.blt (am_ix (((μ 1 11) * (am_c 4)) + (am_c 1))) 320) (am_gb (Nat.blt (am_ix (((μ 1 11) * (am_c 4)) + (am_c 2))) 320) (am_gb (Nat.blt (am_ix (((μ 1 11) * (am_c 4)) + (am_c 3))) 320) (am_ret none (am_up (am_up (am_up (am_up (am_up μ 6 (am_ix ((μ 1 11) * (am_c 4))) (μ 1 3)) 6 (am_ix (((μ 1 11) * (am_c 4)) + (am_c 1))) x1) 6 (am_ix (((μ 1 11) * (am_c 4)) + (am_c 2))) x2) 6 (am_ix (((μ 1 11) * (am_c 4)) + (am_c 3))) x3) 1 11 (((am_up (am_up (am_up (am_up μ 6 (am_ix ((μ 1 11) * (am_c 4))) (μ 1 3)) 6 (am_ix (((μ 1 11) * (am_c 4)) + (am_c 1))) x1) 6 (am_ix (((μ 1 11) * (am_c 4)) + (am_c 2))) x2) 6 (am_ix (((μ 1 11) * (am_c 4)) + (am_c 3))) x3) 1 11) + (am_c 1)))))))) := am_blk (b := [(.aload_n 0, 1), (.getfield 62, 3), (.iconst 4, 1), (.imul, 1), (.istore 4, 2), (.aload_n 0, 1), (.getfield 28, 3), (.iload 4, 2), (.aload_n 0, 1), (.getfield 44, 3), (.iastore, 1), (.aload_n 0, 1), (.getfield 28, 3), (.iload 4, 2), (.iconst 1, 1), (.iadd, 1), (.iload_n 1, 1), (.iastore, 1), (.aload_n 0, 1), (.getfield 28, 3), (.iload 4, 2), (.iconst 2, 1), (.iadd, 1), (.iload_n 2, 1), (.iastore, 1), (.aload_n 0, 1), (.getfield 28, 3), (.iload 4, 2), (.iconst 3, 1), (.iadd, 1), (.iload_n 3, 1), (.iastore, 1), (.aload_n 0, 1), (.dup, 1), (.getfield 62, 3), (.iconst 1, 1), (.iadd, 1), (.putfield 62, 3), (.return_, 1)]) rfl rfl (rfl : am_z 725 = 0) _ _ _
theorem e725 (d : Nat) (x1 : Int32) (x2 : Int32) (x3 : Int32) (μ : am_Mem) : am_call (d + 1) 725 [.ref 1, .int x1, .int x2, .int x3] μ = am_ev (am_call d) 725 0 [.ref 1, .int x1, .int x2, .int x3, .null] [] μ := rfl
/-! NoWordTwice$Trades.seek(LNoWordTwice$Told;)V  -/
set_option maxRecDepth 50000 in
theorem q801_0 (C : am_Ct) (x2 : Value) (x3 : Value) (x4 : Value) (μ : am_Mem) : am_ev C 801 0 [.ref 46, .ref 1, x2, x3, x4] [] μ = (am_ev C 801 12 [.ref 46, .ref 1, .int (am_c 0), x3, x4] [] (am_up (am_up μ 46 0 (am_c 0)) 46 2 (am_c 0))) := am_blk (b := [(.aload_n 0, 1), (.iconst 0, 1), (.putfield 15, 3), (.aload_n 0, 1), (.iconst 0, 1), (.putfield 19, 3), (.iconst 0, 1), (.istore_n 2, 1)]) rfl rfl (rfl : am_z 801 = 0) _ _ _
set_option maxRecDepth 50000 in
theorem q801_12 (C : am_Ct) (x2 : Int32) (x3 : Value) (x4 : Value) (μ : am_Mem) : am_ev C 801 12 [.ref 46, .ref 1, .int x2, x3, x4] [] μ = (if 4 ≤ x2 then am_ev C 801 34 [.ref 46, .ref 1, .int x2, x3, x4] [] μ else am_gb (Nat.blt (am_ix x2) 4) (am_ev C 801 12 [.ref 46, .ref 1, .int (x2 + (am_c 1)), x3, x4] [] (am_up μ 47 (am_ix x2) (am_c (-1))))) := am_blk (b := [(.iload_n 2, 1), (.aload_n 0, 1), (.getfield 9, 3), (.arraylength, 1), (.if_icmp .ge 16, 3), (.aload_n 0, 1), (.getfield 9, 3), (.iload_n 2, 1), (.iconst (-1), 1), (.iastore, 1), (.iinc 2 1, 3), (.goto (-19), 3)]) rfl rfl (rfl : am_z 801 = 0) _ _ _
set_option maxRecDepth 50000 in
theorem q801_34 (C : am_Ct) (x2 : Int32) (x3 : Value) (x4 : Value) (μ : am_Mem) : am_ev C 801 34 [.ref 46, .ref 1, .int x2, x3, x4] [] μ = (am_ev C 801 36 [.ref 46, .ref 1, .int (am_c 0), x3, x4] [] μ) := am_blk (b := [(.iconst 0, 1), (.istore_n 2, 1)]) rfl rfl (rfl : am_z 801 = 0) _ _ _
set_option maxRecDepth 50000 in
theorem q801_36 (C : am_Ct) (x2 : Int32) (x3 : Value) (x4 : Value) (μ : am_Mem) : am_ev C 801 36 [.ref 46, .ref 1, .int x2, x3, x4] [] μ = (if (μ 1 7) ≤ x2 then am_ev C 801 74 [.ref 46, .ref 1, .int x2, x3, x4] [] μ else am_bI (C 717 [.ref 1, .int x2] μ) (fun r1 m1 => if r1 = 0 then am_ev C 801 63 [.ref 46, .ref 1, .int x2, x3, x4] [.int (μ 46 2), .ref 46] m1 else am_ev C 801 64 [.ref 46, .ref 1, .int x2, x3, x4] [.int (((am_c 1) : Int32) <<< (x2 &&& 31)), .int (μ 46 2), .ref 46] m1)) := am_blk (b := [(.iload_n 2, 1), (.aload_n 1, 1), (.getfield 22, 3), (.if_icmp .ge 33, 3), (.aload_n 0, 1), (.dup, 1), (.getfield 19, 3), (.aload_n 1, 1), (.iload_n 2, 1), (.invokevirtual 27, 3), (.ifCond .eq 9, 3), (.iconst 1, 1), (.iload_n 2, 1), (.ishl, 1), (.goto 4, 3)]) rfl rfl (rfl : am_z 801 = 0) _ _ _
set_option maxRecDepth 50000 in
theorem q801_63 (C : am_Ct) (x2 : Int32) (x3 : Value) (x4 : Value) (s0 : Int32) (μ : am_Mem) : am_ev C 801 63 [.ref 46, .ref 1, .int x2, x3, x4] [.int s0, .ref 46] μ = (am_ev C 801 64 [.ref 46, .ref 1, .int x2, x3, x4] [.int (am_c 0), .int s0, .ref 46] μ) := am_blk (b := [(.iconst 0, 1)]) rfl rfl (rfl : am_z 801 = 0) _ _ _
set_option maxRecDepth 50000 in
theorem q801_64 (C : am_Ct) (x2 : Int32) (x3 : Value) (x4 : Value) (s0 : Int32) (s1 : Int32) (μ : am_Mem) : am_ev C 801 64 [.ref 46, .ref 1, .int x2, x3, x4] [.int s0, .int s1, .ref 46] μ = (am_ev C 801 36 [.ref 46, .ref 1, .int (x2 + (am_c 1)), x3, x4] [] (am_up μ 46 2 (s1 ||| s0))) := am_blk (b := [(.ior, 1), (.putfield 19, 3), (.iinc 2 1, 3), (.goto (-35), 3)]) rfl rfl (rfl : am_z 801 = 0) _ _ _
set_option maxRecDepth 50000 in
theorem q801_74 (C : am_Ct) (x2 : Int32) (x3 : Value) (x4 : Value) (μ : am_Mem) : am_ev C 801 74 [.ref 46, .ref 1, .int x2, x3, x4] [] μ = (am_ev C 801 76 [.ref 46, .ref 1, .int (am_c 0), x3, x4] [] μ) := am_blk (b := [(.iconst 0, 1), (.istore_n 2, 1)]) rfl rfl (rfl : am_z 801 = 0) _ _ _
set_option maxRecDepth 50000 in
theorem q801_76 (C : am_Ct) (x2 : Int32) (x3 : Value) (x4 : Value) (μ : am_Mem) : am_ev C 801 76 [.ref 46, .ref 1, .int x2, x3, x4] [] μ = (if (μ 1 7) ≤ x2 then am_ev C 801 136 [.ref 46, .ref 1, .int x2, x3, x4] [] μ else am_ev C 801 88 [.ref 46, .ref 1, .int x2, .int (x2 + (am_c 1)), x4] [] μ) := am_blk (b := [(.iload_n 2, 1), (.aload_n 1, 1), (.getfield 22, 3), (.if_icmp .ge 55, 3), (.iload_n 2, 1), (.iconst 1, 1), (.iadd, 1), (.istore_n 3, 1)]) rfl rfl (rfl : am_z 801 = 0) _ _ _
set_option maxRecDepth 50000 in
theorem q801_88 (C : am_Ct) (x2 : Int32) (x3 : Int32) (x4 : Value) (μ : am_Mem) : am_ev C 801 88 [.ref 46, .ref 1, .int x2, .int x3, x4] [] μ = (if (μ 1 7) ≤ x3 then am_ev C 801 130 [.ref 46, .ref 1, .int x2, .int x3, x4] [] μ else if ((μ 46 2) &&& ((((am_c 1) : Int32) <<< (x2 &&& 31)) ||| (((am_c 1) : Int32) <<< (x3 &&& 31)))) = ((((am_c 1) : Int32) <<< (x2 &&& 31)) ||| (((am_c 1) : Int32) <<< (x3 &&& 31))) then am_ev C 801 124 [.ref 46, .ref 1, .int x2, .int x3, .int ((((am_c 1) : Int32) <<< (x2 &&& 31)) ||| (((am_c 1) : Int32) <<< (x3 &&& 31)))] [] μ else am_bV (C 802 [.ref 46, .ref 1, .int x2, .int x3] μ) (fun m1 => am_ev C 801 124 [.ref 46, .ref 1, .int x2, .int x3, .int ((((am_c 1) : Int32) <<< (x2 &&& 31)) ||| (((am_c 1) : Int32) <<< (x3 &&& 31)))] [] m1)) := am_blk (b := [(.iload_n 3, 1), (.aload_n 1, 1), (.getfield 22, 3), (.if_icmp .ge 37, 3), (.iconst 1, 1), (.iload_n 2, 1), (.ishl, 1), (.iconst 1, 1), (.iload_n 3, 1), (.ishl, 1), (.ior, 1), (.istore 4, 2), (.aload_n 0, 1), (.getfield 19, 3), (.iload 4, 2), (.iand, 1), (.iload 4, 2), (.if_icmp .eq 10, 3), (.aload_n 0, 1), (.aload_n 1, 1), (.iload_n 2, 1), (.iload_n 3, 1), (.invokevirtual 31, 3)]) rfl rfl (rfl : am_z 801 = 0) _ _ _
set_option maxRecDepth 50000 in
theorem q801_124 (C : am_Ct) (x2 : Int32) (x3 : Int32) (x4 : Int32) (μ : am_Mem) : am_ev C 801 124 [.ref 46, .ref 1, .int x2, .int x3, .int x4] [] μ = (am_ev C 801 88 [.ref 46, .ref 1, .int x2, .int (x3 + (am_c 1)), .int x4] [] μ) := am_blk (b := [(.iinc 3 1, 3), (.goto (-39), 3)]) rfl rfl (rfl : am_z 801 = 0) _ _ _
set_option maxRecDepth 50000 in
theorem q801_130 (C : am_Ct) (x2 : Int32) (x3 : Int32) (x4 : Value) (μ : am_Mem) : am_ev C 801 130 [.ref 46, .ref 1, .int x2, .int x3, x4] [] μ = (am_ev C 801 76 [.ref 46, .ref 1, .int (x2 + (am_c 1)), .int x3, x4] [] μ) := am_blk (b := [(.iinc 2 1, 3), (.goto (-57), 3)]) rfl rfl (rfl : am_z 801 = 0) _ _ _
set_option maxRecDepth 50000 in
theorem q801_136 (C : am_Ct) (x2 : Int32) (x3 : Value) (x4 : Value) (μ : am_Mem) : am_ev C 801 136 [.ref 46, .ref 1, .int x2, x3, x4] [] μ = (am_ret none μ) := am_blk (b := [(.return_, 1)]) rfl rfl (rfl : am_z 801 = 0) _ _ _
theorem e801 (d : Nat) (μ : am_Mem) : am_call (d + 1) 801 [.ref 46, .ref 1] μ = am_ev (am_call d) 801 0 [.ref 46, .ref 1, .null, .null, .null] [] μ := rfl
/-! NoWordTwice$Trades.seekBetween(LNoWordTwice$Told;II)V  -/
set_option maxRecDepth 50000 in
theorem q802_0 (C : am_Ct) (x2 : Int32) (x3 : Int32) (x4 : Value) (x5 : Value) (μ : am_Mem) : am_ev C 802 0 [.ref 46, .ref 1, .int x2, .int x3, x4, x5] [] μ = (am_ev C 802 3 [.ref 46, .ref 1, .int x2, .int x3, .int (am_c 0), x5] [] μ) := am_blk (b := [(.iconst 0, 1), (.istore 4, 2)]) rfl rfl (rfl : am_z 802 = 0) _ _ _
set_option maxRecDepth 50000 in
theorem q802_3 (C : am_Ct) (x2 : Int32) (x3 : Int32) (x4 : Int32) (x5 : Value) (μ : am_Mem) : am_ev C 802 3 [.ref 46, .ref 1, .int x2, .int x3, .int x4, x5] [] μ = (am_gb (Nat.blt (am_ix x2) 12) (if (μ 4 (am_ix x2)) ≤ x4 then am_ev C 802 92 [.ref 46, .ref 1, .int x2, .int x3, .int x4, x5] [] μ else am_ev C 802 17 [.ref 46, .ref 1, .int x2, .int x3, .int x4, .int (am_c 0)] [] μ)) := am_blk (b := [(.iload 4, 2), (.aload_n 1, 1), (.getfield 35, 3), (.iload_n 2, 1), (.iaload, 1), (.if_icmp .ge 81, 3), (.iconst 0, 1), (.istore 5, 2)]) rfl rfl (rfl : am_z 802 = 0) _ _ _
set_option maxRecDepth 50000 in
theorem q802_17 (C : am_Ct) (x2 : Int32) (x3 : Int32) (x4 : Int32) (x5 : Int32) (μ : am_Mem) : am_ev C 802 17 [.ref 46, .ref 1, .int x2, .int x3, .int x4, .int x5] [] μ = (am_gb (Nat.blt (am_ix x3) 12) (if (μ 4 (am_ix x3)) ≤ x5 then am_ev C 802 86 [.ref 46, .ref 1, .int x2, .int x3, .int x4, .int x5] [] μ else am_gb (Nat.blt (am_ix ((x3 * (am_c 3)) + x5)) 36) (am_bI (C 803 [.ref 1, .int x2, .int x4, .int (μ 5 (am_ix ((x3 * (am_c 3)) + x5)))] μ) (fun r1 m1 => if r1 = 0 then am_ev C 802 80 [.ref 46, .ref 1, .int x2, .int x3, .int x4, .int x5] [] m1 else am_gb (Nat.blt (am_ix ((x2 * (am_c 3)) + x4)) 36) (am_bI (C 803 [.ref 1, .int x3, .int x5, .int (m1 5 (am_ix ((x2 * (am_c 3)) + x4)))] m1) (fun r2 m2 => if r2 = 0 then am_ev C 802 80 [.ref 46, .ref 1, .int x2, .int x3, .int x4, .int x5] [] m2 else am_bV (C 804 [.ref 46, .int x2, .int x3, .int x4, .int x5] m2) (fun m3 => am_ev C 802 80 [.ref 46, .ref 1, .int x2, .int x3, .int x4, .int x5] [] m3))))))) := am_blk (b := [(.iload 5, 2), (.aload_n 1, 1), (.getfield 35, 3), (.iload_n 3, 1), (.iaload, 1), (.if_icmp .ge 61, 3), (.aload_n 1, 1), (.iload_n 2, 1), (.iload 4, 2), (.aload_n 1, 1), (.getfield 38, 3), (.iload_n 3, 1), (.iconst 3, 1), (.imul, 1), (.iload 5, 2), (.iadd, 1), (.iaload, 1), (.invokestatic 41, 3), (.ifCond .eq 34, 3), (.aload_n 1, 1), (.iload_n 3, 1), (.iload 5, 2), (.aload_n 1, 1), (.getfield 38, 3), (.iload_n 2, 1), (.iconst 3, 1), (.imul, 1), (.iload 4, 2), (.iadd, 1), (.iaload, 1), (.invokestatic 41, 3), (.ifCond .eq 13, 3), (.aload_n 0, 1), (.iload_n 2, 1), (.iload_n 3, 1), (.iload 4, 2), (.iload 5, 2), (.invokevirtual 45, 3)]) rfl rfl (rfl : am_z 802 = 0) _ _ _
set_option maxRecDepth 50000 in
theorem q802_80 (C : am_Ct) (x2 : Int32) (x3 : Int32) (x4 : Int32) (x5 : Int32) (μ : am_Mem) : am_ev C 802 80 [.ref 46, .ref 1, .int x2, .int x3, .int x4, .int x5] [] μ = (am_ev C 802 17 [.ref 46, .ref 1, .int x2, .int x3, .int x4, .int (x5 + (am_c 1))] [] μ) := am_blk (b := [(.iinc 5 1, 3), (.goto (-66), 3)]) rfl rfl (rfl : am_z 802 = 0) _ _ _
set_option maxRecDepth 50000 in
theorem q802_86 (C : am_Ct) (x2 : Int32) (x3 : Int32) (x4 : Int32) (x5 : Int32) (μ : am_Mem) : am_ev C 802 86 [.ref 46, .ref 1, .int x2, .int x3, .int x4, .int x5] [] μ = (am_ev C 802 3 [.ref 46, .ref 1, .int x2, .int x3, .int (x4 + (am_c 1)), .int x5] [] μ) := am_blk (b := [(.iinc 4 1, 3), (.goto (-86), 3)]) rfl rfl (rfl : am_z 802 = 0) _ _ _
set_option maxRecDepth 50000 in
theorem q802_92 (C : am_Ct) (x2 : Int32) (x3 : Int32) (x4 : Int32) (x5 : Value) (μ : am_Mem) : am_ev C 802 92 [.ref 46, .ref 1, .int x2, .int x3, .int x4, x5] [] μ = (am_ret none μ) := am_blk (b := [(.return_, 1)]) rfl rfl (rfl : am_z 802 = 0) _ _ _
theorem e802 (d : Nat) (x2 : Int32) (x3 : Int32) (μ : am_Mem) : am_call (d + 1) 802 [.ref 46, .ref 1, .int x2, .int x3] μ = am_ev (am_call d) 802 0 [.ref 46, .ref 1, .int x2, .int x3, .null, .null] [] μ := rfl
/-! NoWordTwice$Trades.wouldFix(LNoWordTwice$Told;III)Z  -/
set_option maxRecDepth 50000 in
theorem q803_0 (C : am_Ct) (x1 : Int32) (x2 : Int32) (x3 : Int32) (x4 : Value) (x5 : Value) (μ : am_Mem) : am_ev C 803 0 [.ref 1, .int x1, .int x2, .int x3, x4, x5] [] μ = (am_gb (Nat.blt (am_ix x1) 12) (am_bI (C 711 [.ref 1, .int x1] μ) (fun r1 m1 => am_gb (Nat.blt (am_ix ((x1 * (am_c 3)) + x2)) 36) (if x3 = (μ 3 (am_ix x1)) then am_ev C 803 45 [.ref 1, .int x1, .int x2, .int x3, .int (μ 3 (am_ix x1)), .int (r1 &&& ((((am_c 1) : Int32) <<< ((m1 5 (am_ix ((x1 * (am_c 3)) + x2))) &&& 31)) ^^^ (am_c (-1))))] [] m1 else if (((r1 &&& ((((am_c 1) : Int32) <<< ((m1 5 (am_ix ((x1 * (am_c 3)) + x2))) &&& 31)) ^^^ (am_c (-1)))) >>> (x3 &&& 31)) &&& (am_c 1)) = 0 then am_ev C 803 47 [.ref 1, .int x1, .int x2, .int x3, .int (μ 3 (am_ix x1)), .int (r1 &&& ((((am_c 1) : Int32) <<< ((m1 5 (am_ix ((x1 * (am_c 3)) + x2))) &&& 31)) ^^^ (am_c (-1))))] [] m1 else am_ev C 803 45 [.ref 1, .int x1, .int x2, .int x3, .int (μ 3 (am_ix x1)), .int (r1 &&& ((((am_c 1) : Int32) <<< ((m1 5 (am_ix ((x1 * (am_c 3)) + x2))) &&& 31)) ^^^ (am_c (-1))))] [] m1)))) := am_blk (b := [(.aload_n 0, 1), (.getfield 49, 3), (.iload_n 1, 1), (.iaload, 1), (.istore 4, 2), (.aload_n 0, 1), (.iload_n 1, 1), (.invokevirtual 52, 3), (.iconst 1, 1), (.aload_n 0, 1), (.getfield 38, 3), (.iload_n 1, 1), (.iconst 3, 1), (.imul, 1), (.iload_n 2, 1), (.iadd, 1), (.iaload, 1), (.ishl, 1), (.iconst (-1), 1), (.ixor, 1), (.iand, 1), (.istore 5, 2), (.iload_n 3, 1), (.iload 4, 2), (.if_icmp .eq 12, 3), (.iload 5, 2), (.iload_n 3, 1), (.ishr, 1), (.iconst 1, 1), (.iand, 1), (.ifCond .eq 5, 3)]) rfl rfl (rfl : am_z 803 = 2) _ _ _
set_option maxRecDepth 50000 in
theorem q803_45 (C : am_Ct) (x1 : Int32) (x2 : Int32) (x3 : Int32) (x4 : Int32) (x5 : Int32) (μ : am_Mem) : am_ev C 803 45 [.ref 1, .int x1, .int x2, .int x3, .int x4, .int x5] [] μ = (am_ret (some (.int (am_c 0))) μ) := am_blk (b := [(.iconst 0, 1), (.ireturn, 1)]) rfl rfl (rfl : am_z 803 = 2) _ _ _
set_option maxRecDepth 50000 in
theorem q803_47 (C : am_Ct) (x1 : Int32) (x2 : Int32) (x3 : Int32) (x4 : Int32) (x5 : Int32) (μ : am_Mem) : am_ev C 803 47 [.ref 1, .int x1, .int x2, .int x3, .int x4, .int x5] [] μ = (am_bI (C 718 [.ref 1, .int x4, .int (x5 ||| (((am_c 1) : Int32) <<< (x3 &&& 31)))] μ) (fun r1 m1 => am_gb (Nat.blt (am_ix r1) 2) (am_ret (some (.int r1)) m1))) := am_blk (b := [(.aload_n 0, 1), (.iload 4, 2), (.iload 5, 2), (.iconst 1, 1), (.iload_n 3, 1), (.ishl, 1), (.ior, 1), (.invokevirtual 56, 3), (.ireturn, 1)]) rfl rfl (rfl : am_z 803 = 2) _ _ _
theorem e803 (d : Nat) (x1 : Int32) (x2 : Int32) (x3 : Int32) (μ : am_Mem) : am_call (d + 1) 803 [.ref 1, .int x1, .int x2, .int x3] μ = am_ev (am_call d) 803 0 [.ref 1, .int x1, .int x2, .int x3, .null, .null] [] μ := rfl
/-! NoWordTwice$Trades.note(IIII)V  -/
set_option maxRecDepth 50000 in
theorem q804_0 (C : am_Ct) (x1 : Int32) (x2 : Int32) (x3 : Int32) (x4 : Int32) (μ : am_Mem) : am_ev C 804 0 [.ref 46, .int x1, .int x2, .int x3, .int x4] [] μ = (if (μ 46 0) = 0 then am_ev C 804 36 [.ref 46, .int x1, .int x2, .int x3, .int x4] [] (am_up (am_up (am_up (am_up μ 47 0 x1) 47 1 x2) 47 2 x3) 47 3 x4) else am_ev C 804 36 [.ref 46, .int x1, .int x2, .int x3, .int x4] [] μ) := am_blk (b := [(.aload_n 0, 1), (.getfield 15, 3), (.ifCond .ne 32, 3), (.aload_n 0, 1), (.getfield 9, 3), (.iconst 0, 1), (.iload_n 1, 1), (.iastore, 1), (.aload_n 0, 1), (.getfield 9, 3), (.iconst 1, 1), (.iload_n 2, 1), (.iastore, 1), (.aload_n 0, 1), (.getfield 9, 3), (.iconst 2, 1), (.iload_n 3, 1), (.iastore, 1), (.aload_n 0, 1), (.getfield 9, 3), (.iconst 3, 1), (.iload 4, 2), (.iastore, 1)]) rfl rfl (rfl : am_z 804 = 0) _ _ _
set_option maxRecDepth 50000 in
theorem q804_36 (C : am_Ct) (x1 : Int32) (x2 : Int32) (x3 : Int32) (x4 : Int32) (μ : am_Mem) : am_ev C 804 36 [.ref 46, .int x1, .int x2, .int x3, .int x4] [] μ = (am_ret none (am_up μ 46 0 ((μ 46 0) + (am_c 1)))) := am_blk (b := [(.aload_n 0, 1), (.dup, 1), (.getfield 15, 3), (.iconst 1, 1), (.iadd, 1), (.putfield 15, 3), (.return_, 1)]) rfl rfl (rfl : am_z 804 = 0) _ _ _
theorem e804 (d : Nat) (x1 : Int32) (x2 : Int32) (x3 : Int32) (x4 : Int32) (μ : am_Mem) : am_call (d + 1) 804 [.ref 46, .int x1, .int x2, .int x3, .int x4] μ = am_ev (am_call d) 804 0 [.ref 46, .int x1, .int x2, .int x3, .int x4] [] μ := rfl
end
section
/-! NoWordTwice.state(I)I  -/
set_option maxRecDepth 50000 in
theorem q901_0 (C : am_Ct) (x1 : Int32) (x2 : Value) (μ : am_Mem) : am_ev C 901 0 [.ref 0, .int x1, x2] [] μ = (am_bV (C 401 [.ref 37] (am_up μ 1 0 x1)) (fun m1 => am_ret (some (.int (μ 1 0))) m1)) := am_blk (b := [(.aload_n 0, 1), (.getfield 10, 3), (.getfield 73, 3), (.istore_n 2, 1), (.aload_n 0, 1), (.getfield 10, 3), (.iload_n 1, 1), (.putfield 73, 3), (.aload_n 0, 1), (.getfield 41, 3), (.invokevirtual 76, 3), (.iload_n 2, 1), (.ireturn, 1)]) rfl rfl (rfl : am_z 901 = 0) _ _ _
theorem e901 (d : Nat) (x1 : Int32) (μ : am_Mem) : am_call (d + 1) 901 [.ref 0, .int x1] μ = am_ev (am_call d) 901 0 [.ref 0, .int x1, .null] [] μ := rfl
/-! NoWordTwice.word(I)I  -/
set_option maxRecDepth 50000 in
theorem q902_0 (C : am_Ct) (x1 : Int32) (x2 : Value) (μ : am_Mem) : am_ev C 902 0 [.ref 0, .int x1, x2] [] μ = (if (am_c 16) ≤ (μ 1 4) then am_ev C 902 19 [.ref 0, .int x1, x2] [] μ else am_bI (C 928 [.int x1] μ) (fun r1 m1 => if r1 = 0 then am_ev C 902 19 [.ref 0, .int x1, x2] [] m1 else am_ev C 902 21 [.ref 0, .int x1, x2] [] m1)) := am_blk (b := [(.aload_n 0, 1), (.getfield 10, 3), (.getfield 79, 3), (.bipush 16, 2), (.if_icmp .ge 10, 3), (.iload_n 1, 1), (.invokestatic 82, 3), (.ifCond .ne 5, 3)]) rfl rfl (rfl : am_z 902 = 0) _ _ _
set_option maxRecDepth 50000 in
theorem q902_19 (C : am_Ct) (x1 : Int32) (x2 : Value) (μ : am_Mem) : am_ev C 902 19 [.ref 0, .int x1, x2] [] μ = (am_ret (some (.int (am_c (-1)))) μ) := am_blk (b := [(.iconst (-1), 1), (.ireturn, 1)]) rfl rfl (rfl : am_z 902 = 0) _ _ _
set_option maxRecDepth 50000 in
theorem q902_21 (C : am_Ct) (x1 : Int32) (x2 : Value) (μ : am_Mem) : am_ev C 902 21 [.ref 0, .int x1, x2] [] μ = (am_gb (Nat.blt (am_ix (μ 1 4)) 16) (am_bV (C 401 [.ref 37] (am_up (am_up μ 2 (am_ix (μ 1 4)) x1) 1 4 ((μ 1 4) + (am_c 1)))) (fun m1 => am_ret (some (.int (μ 1 4))) m1))) := am_blk (b := [(.aload_n 0, 1), (.getfield 10, 3), (.getfield 79, 3), (.istore_n 2, 1), (.aload_n 0, 1), (.getfield 10, 3), (.getfield 86, 3), (.iload_n 2, 1), (.iload_n 1, 1), (.iastore, 1), (.aload_n 0, 1), (.getfield 10, 3), (.iload_n 2, 1), (.iconst 1, 1), (.iadd, 1), (.putfield 79, 3), (.aload_n 0, 1), (.getfield 41, 3), (.invokevirtual 76, 3), (.iload_n 2, 1), (.ireturn, 1)]) rfl rfl (rfl : am_z 902 = 0) _ _ _
theorem e902 (d : Nat) (x1 : Int32) (μ : am_Mem) : am_call (d + 1) 902 [.ref 0, .int x1] μ = am_ev (am_call d) 902 0 [.ref 0, .int x1, .null] [] μ := rfl
/-! NoWordTwice.set(III)Z  -/
set_option maxRecDepth 50000 in
theorem q903_0 (C : am_Ct) (x1 : Int32) (x2 : Int32) (x3 : Int32) (x4 : Value) (μ : am_Mem) : am_ev C 903 0 [.ref 0, .int x1, .int x2, .int x3, x4] [] μ = (if x1 = (am_c 0) then am_ev C 903 32 [.ref 0, .int x1, .int x2, .int x3, x4] [] μ else if x1 = (am_c 1) then am_ev C 903 42 [.ref 0, .int x1, .int x2, .int x3, x4] [] μ else if x1 = (am_c 2) then am_ev C 903 52 [.ref 0, .int x1, .int x2, .int x3, x4] [] μ else if x1 = (am_c 3) then am_ev C 903 63 [.ref 0, .int x1, .int x2, .int x3, x4] [] μ else am_ev C 903 74 [.ref 0, .int x1, .int x2, .int x3, x4] [] μ) := am_blk (b := [(.iload_n 1, 1), (.tableswitch 73 0 3 #[31, 41, 51, 62], 31)]) rfl rfl (rfl : am_z 903 = 2) _ _ _
set_option maxRecDepth 50000 in
theorem q903_32 (C : am_Ct) (x1 : Int32) (x2 : Int32) (x3 : Int32) (x4 : Value) (μ : am_Mem) : am_ev C 903 32 [.ref 0, .int x1, .int x2, .int x3, x4] [] μ = (am_bI (C 929 [.ref 0, .int x3] μ) (fun r1 m1 => am_ev C 903 77 [.ref 0, .int x1, .int x2, .int x3, .int r1] [] m1)) := am_blk (b := [(.aload_n 0, 1), (.iload_n 3, 1), (.invokevirtual 90, 3), (.istore 4, 2), (.goto 38, 3)]) rfl rfl (rfl : am_z 903 = 2) _ _ _
set_option maxRecDepth 50000 in
theorem q903_42 (C : am_Ct) (x1 : Int32) (x2 : Int32) (x3 : Int32) (x4 : Value) (μ : am_Mem) : am_ev C 903 42 [.ref 0, .int x1, .int x2, .int x3, x4] [] μ = (am_bI (C 930 [.ref 0, .int x3] μ) (fun r1 m1 => am_ev C 903 77 [.ref 0, .int x1, .int x2, .int x3, .int r1] [] m1)) := am_blk (b := [(.aload_n 0, 1), (.iload_n 3, 1), (.invokevirtual 93, 3), (.istore 4, 2), (.goto 28, 3)]) rfl rfl (rfl : am_z 903 = 2) _ _ _
set_option maxRecDepth 50000 in
theorem q903_52 (C : am_Ct) (x1 : Int32) (x2 : Int32) (x3 : Int32) (x4 : Value) (μ : am_Mem) : am_ev C 903 52 [.ref 0, .int x1, .int x2, .int x3, x4] [] μ = (am_bI (C 931 [.ref 0, .int x2, .int x3] μ) (fun r1 m1 => am_ev C 903 77 [.ref 0, .int x1, .int x2, .int x3, .int r1] [] m1)) := am_blk (b := [(.aload_n 0, 1), (.iload_n 2, 1), (.iload_n 3, 1), (.invokevirtual 96, 3), (.istore 4, 2), (.goto 17, 3)]) rfl rfl (rfl : am_z 903 = 2) _ _ _
set_option maxRecDepth 50000 in
theorem q903_63 (C : am_Ct) (x1 : Int32) (x2 : Int32) (x3 : Int32) (x4 : Value) (μ : am_Mem) : am_ev C 903 63 [.ref 0, .int x1, .int x2, .int x3, x4] [] μ = (am_bI (C 932 [.ref 0, .int x2, .int x3] μ) (fun r1 m1 => am_ev C 903 77 [.ref 0, .int x1, .int x2, .int x3, .int r1] [] m1)) := am_blk (b := [(.aload_n 0, 1), (.iload_n 2, 1), (.iload_n 3, 1), (.invokevirtual 100, 3), (.istore 4, 2), (.goto 6, 3)]) rfl rfl (rfl : am_z 903 = 2) _ _ _
set_option maxRecDepth 50000 in
theorem q903_74 (C : am_Ct) (x1 : Int32) (x2 : Int32) (x3 : Int32) (x4 : Value) (μ : am_Mem) : am_ev C 903 74 [.ref 0, .int x1, .int x2, .int x3, x4] [] μ = (am_ev C 903 77 [.ref 0, .int x1, .int x2, .int x3, .int (am_c 0)] [] μ) := am_blk (b := [(.iconst 0, 1), (.istore 4, 2)]) rfl rfl (rfl : am_z 903 = 2) _ _ _
set_option maxRecDepth 50000 in
theorem q903_77 (C : am_Ct) (x1 : Int32) (x2 : Int32) (x3 : Int32) (x4 : Int32) (μ : am_Mem) : am_ev C 903 77 [.ref 0, .int x1, .int x2, .int x3, .int x4] [] μ = (if x4 = 0 then am_ev C 903 89 [.ref 0, .int x1, .int x2, .int x3, .int x4] [] μ else am_bV (C 401 [.ref 37] μ) (fun m1 => am_ev C 903 89 [.ref 0, .int x1, .int x2, .int x3, .int x4] [] m1)) := am_blk (b := [(.iload 4, 2), (.ifCond .eq 10, 3), (.aload_n 0, 1), (.getfield 41, 3), (.invokevirtual 76, 3)]) rfl rfl (rfl : am_z 903 = 2) _ _ _
set_option maxRecDepth 50000 in
theorem q903_89 (C : am_Ct) (x1 : Int32) (x2 : Int32) (x3 : Int32) (x4 : Int32) (μ : am_Mem) : am_ev C 903 89 [.ref 0, .int x1, .int x2, .int x3, .int x4] [] μ = (am_gb (Nat.blt (am_ix x4) 2) (am_ret (some (.int x4)) μ)) := am_blk (b := [(.iload 4, 2), (.ireturn, 1)]) rfl rfl (rfl : am_z 903 = 2) _ _ _
theorem e903 (d : Nat) (x1 : Int32) (x2 : Int32) (x3 : Int32) (μ : am_Mem) : am_call (d + 1) 903 [.ref 0, .int x1, .int x2, .int x3] μ = am_ev (am_call d) 903 0 [.ref 0, .int x1, .int x2, .int x3, .null] [] μ := rfl
/-! NoWordTwice.entry(IIII)I  -/
set_option maxRecDepth 50000 in
theorem q904_0 (C : am_Ct) (x1 : Int32) (x2 : Int32) (x3 : Int32) (x4 : Int32) (x5 : Value) (μ : am_Mem) : am_ev C 904 0 [.ref 0, .int x1, .int x2, .int x3, .int x4, x5] [] μ = (if (am_c 12) ≤ (μ 1 7) then am_ev C 904 27 [.ref 0, .int x1, .int x2, .int x3, .int x4, x5] [] μ else am_bI (C 705 [.ref 1, .int x1, .int x2, .int x3, .int x4] μ) (fun r1 m1 => if r1 = 0 then am_ev C 904 27 [.ref 0, .int x1, .int x2, .int x3, .int x4, x5] [] m1 else am_ev C 904 29 [.ref 0, .int x1, .int x2, .int x3, .int x4, x5] [] m1)) := am_blk (b := [(.aload_n 0, 1), (.getfield 10, 3), (.getfield 103, 3), (.bipush 12, 2), (.if_icmp .ge 18, 3), (.aload_n 0, 1), (.getfield 10, 3), (.iload_n 1, 1), (.iload_n 2, 1), (.iload_n 3, 1), (.iload 4, 2), (.invokevirtual 106, 3), (.ifCond .ne 5, 3)]) rfl rfl (rfl : am_z 904 = 0) _ _ _
set_option maxRecDepth 50000 in
theorem q904_27 (C : am_Ct) (x1 : Int32) (x2 : Int32) (x3 : Int32) (x4 : Int32) (x5 : Value) (μ : am_Mem) : am_ev C 904 27 [.ref 0, .int x1, .int x2, .int x3, .int x4, x5] [] μ = (am_ret (some (.int (am_c (-1)))) μ) := am_blk (b := [(.iconst (-1), 1), (.ireturn, 1)]) rfl rfl (rfl : am_z 904 = 0) _ _ _
set_option maxRecDepth 50000 in
theorem q904_29 (C : am_Ct) (x1 : Int32) (x2 : Int32) (x3 : Int32) (x4 : Int32) (x5 : Value) (μ : am_Mem) : am_ev C 904 29 [.ref 0, .int x1, .int x2, .int x3, .int x4, x5] [] μ = (am_bI (C 706 [.ref 1, .int x1, .int x2, .int x3, .int x4] μ) (fun r1 m1 => am_bV (C 401 [.ref 37] m1) (fun m2 => am_ret (some (.int r1)) m2))) := am_blk (b := [(.aload_n 0, 1), (.getfield 10, 3), (.iload_n 1, 1), (.iload_n 2, 1), (.iload_n 3, 1), (.iload 4, 2), (.invokevirtual 110, 3), (.istore 5, 2), (.aload_n 0, 1), (.getfield 41, 3), (.invokevirtual 76, 3), (.iload 5, 2), (.ireturn, 1)]) rfl rfl (rfl : am_z 904 = 0) _ _ _
theorem e904 (d : Nat) (x1 : Int32) (x2 : Int32) (x3 : Int32) (x4 : Int32) (μ : am_Mem) : am_call (d + 1) 904 [.ref 0, .int x1, .int x2, .int x3, .int x4] μ = am_ev (am_call d) 904 0 [.ref 0, .int x1, .int x2, .int x3, .int x4, .null] [] μ := rfl
/-! NoWordTwice.drop(I)Z  -/
set_option maxRecDepth 50000 in
theorem q905_0 (C : am_Ct) (x1 : Int32) (μ : am_Mem) : am_ev C 905 0 [.ref 0, .int x1] [] μ = (am_bI (C 703 [.ref 1, .int x1] μ) (fun r1 m1 => if r1 = 0 then am_ret (some (.int (am_c 0))) m1 else am_ev C 905 13 [.ref 0, .int x1] [] m1)) := am_blk (b := [(.aload_n 0, 1), (.getfield 10, 3), (.iload_n 1, 1), (.invokevirtual 114, 3), (.ifCond .ne 5, 3), (.iconst 0, 1), (.ireturn, 1)]) rfl rfl (rfl : am_z 905 = 2) _ _ _
set_option maxRecDepth 50000 in
theorem q905_13 (C : am_Ct) (x1 : Int32) (μ : am_Mem) : am_ev C 905 13 [.ref 0, .int x1] [] μ = (am_bV (C 707 [.ref 1, .int x1, .int ((μ 1 7) - (am_c 1))] μ) (fun m1 => am_bV (C 401 [.ref 37] (am_up m1 1 7 ((m1 1 7) - (am_c 1)))) (fun m2 => am_ret (some (.int (am_c 1))) m2))) := am_blk (b := [(.aload_n 0, 1), (.getfield 10, 3), (.iload_n 1, 1), (.aload_n 0, 1), (.getfield 10, 3), (.getfield 103, 3), (.iconst 1, 1), (.isub, 1), (.invokevirtual 117, 3), (.aload_n 0, 1), (.getfield 10, 3), (.dup, 1), (.getfield 103, 3), (.iconst 1, 1), (.isub, 1), (.putfield 103, 3), (.aload_n 0, 1), (.getfield 41, 3), (.invokevirtual 76, 3), (.iconst 1, 1), (.ireturn, 1)]) rfl rfl (rfl : am_z 905 = 2) _ _ _
theorem e905 (d : Nat) (x1 : Int32) (μ : am_Mem) : am_call (d + 1) 905 [.ref 0, .int x1] μ = am_ev (am_call d) 905 0 [.ref 0, .int x1] [] μ := rfl
/-! NoWordTwice.move(II)Z  -/
set_option maxRecDepth 50000 in
theorem q906_0 (C : am_Ct) (x1 : Int32) (x2 : Int32) (μ : am_Mem) : am_ev C 906 0 [.ref 0, .int x1, .int x2] [] μ = (am_bI (C 703 [.ref 1, .int x1] μ) (fun r1 m1 => if r1 = 0 then am_ev C 906 22 [.ref 0, .int x1, .int x2] [] m1 else am_bI (C 703 [.ref 1, .int x2] m1) (fun r2 m2 => if r2 = 0 then am_ev C 906 22 [.ref 0, .int x1, .int x2] [] m2 else am_ev C 906 24 [.ref 0, .int x1, .int x2] [] m2))) := am_blk (b := [(.aload_n 0, 1), (.getfield 10, 3), (.iload_n 1, 1), (.invokevirtual 114, 3), (.ifCond .eq 14, 3), (.aload_n 0, 1), (.getfield 10, 3), (.iload_n 2, 1), (.invokevirtual 114, 3), (.ifCond .ne 5, 3)]) rfl rfl (rfl : am_z 906 = 2) _ _ _
set_option maxRecDepth 50000 in
theorem q906_22 (C : am_Ct) (x1 : Int32) (x2 : Int32) (μ : am_Mem) : am_ev C 906 22 [.ref 0, .int x1, .int x2] [] μ = (am_ret (some (.int (am_c 0))) μ) := am_blk (b := [(.iconst 0, 1), (.ireturn, 1)]) rfl rfl (rfl : am_z 906 = 2) _ _ _
set_option maxRecDepth 50000 in
theorem q906_24 (C : am_Ct) (x1 : Int32) (x2 : Int32) (μ : am_Mem) : am_ev C 906 24 [.ref 0, .int x1, .int x2] [] μ = (am_bV (C 707 [.ref 1, .int x1, .int x2] μ) (fun m1 => am_bV (C 401 [.ref 37] m1) (fun m2 => am_ret (some (.int (am_c 1))) m2))) := am_blk (b := [(.aload_n 0, 1), (.getfield 10, 3), (.iload_n 1, 1), (.iload_n 2, 1), (.invokevirtual 117, 3), (.aload_n 0, 1), (.getfield 41, 3), (.invokevirtual 76, 3), (.iconst 1, 1), (.ireturn, 1)]) rfl rfl (rfl : am_z 906 = 2) _ _ _
theorem e906 (d : Nat) (x1 : Int32) (x2 : Int32) (μ : am_Mem) : am_call (d + 1) 906 [.ref 0, .int x1, .int x2] μ = am_ev (am_call d) 906 0 [.ref 0, .int x1, .int x2] [] μ := rfl
/-! NoWordTwice.feed(IIIII)I  -/
set_option maxRecDepth 50000 in
theorem q907_0 (C : am_Ct) (x1 : Int32) (x2 : Int32) (x3 : Int32) (x4 : Int32) (x5 : Int32) (μ : am_Mem) : am_ev C 907 0 [.ref 0, .int x1, .int x2, .int x3, .int x4, .int x5] [] μ = (if ((μ 0 4) + (am_c 20)) ≤ (am_c 400) then am_ev C 907 15 [.ref 0, .int x1, .int x2, .int x3, .int x4, .int x5] [] μ else am_ret (some (.int (am_c (-1)))) μ) := am_blk (b := [(.aload_n 0, 1), (.getfield 27, 3), (.bipush 20, 2), (.iadd, 1), (.sipush 400, 3), (.if_icmp .le 5, 3), (.iconst (-1), 1), (.ireturn, 1)]) rfl rfl (rfl : am_z 907 = 0) _ _ _
set_option maxRecDepth 50000 in
theorem q907_15 (C : am_Ct) (x1 : Int32) (x2 : Int32) (x3 : Int32) (x4 : Int32) (x5 : Int32) (μ : am_Mem) : am_ev C 907 15 [.ref 0, .int x1, .int x2, .int x3, .int x4, .int x5] [] μ = (am_bV (C 933 [.ref 0, .int x1] μ) (fun m1 => am_bV (C 933 [.ref 0, .int x2] m1) (fun m2 => am_bV (C 933 [.ref 0, .int x3] m2) (fun m3 => am_bV (C 933 [.ref 0, .int x4] m3) (fun m4 => am_bV (C 933 [.ref 0, .int x5] m4) (fun m5 => am_ret (some (.int (m5 0 4))) m5)))))) := am_blk (b := [(.aload_n 0, 1), (.iload_n 1, 1), (.invokevirtual 121, 3), (.aload_n 0, 1), (.iload_n 2, 1), (.invokevirtual 121, 3), (.aload_n 0, 1), (.iload_n 3, 1), (.invokevirtual 121, 3), (.aload_n 0, 1), (.iload 4, 2), (.invokevirtual 121, 3), (.aload_n 0, 1), (.iload 5, 2), (.invokevirtual 121, 3), (.aload_n 0, 1), (.getfield 27, 3), (.ireturn, 1)]) rfl rfl (rfl : am_z 907 = 0) _ _ _
theorem e907 (d : Nat) (x1 : Int32) (x2 : Int32) (x3 : Int32) (x4 : Int32) (x5 : Int32) (μ : am_Mem) : am_call (d + 1) 907 [.ref 0, .int x1, .int x2, .int x3, .int x4, .int x5] μ = am_ev (am_call d) 907 0 [.ref 0, .int x1, .int x2, .int x3, .int x4, .int x5] [] μ := rfl
/-! NoWordTwice.end(I)Z  -/
set_option maxRecDepth 50000 in
theorem q908_0 (C : am_Ct) (x1 : Int32) (μ : am_Mem) : am_ev C 908 0 [.ref 0, .int x1] [] μ = (if x1 < 0 then am_ev C 908 12 [.ref 0, .int x1] [] μ else if x1 ≤ (μ 0 4) then am_ev C 908 14 [.ref 0, .int x1] [] μ else am_ev C 908 12 [.ref 0, .int x1] [] μ) := am_blk (b := [(.iload_n 1, 1), (.ifCond .lt 11, 3), (.iload_n 1, 1), (.aload_n 0, 1), (.getfield 27, 3), (.if_icmp .le 5, 3)]) rfl rfl (rfl : am_z 908 = 2) _ _ _
set_option maxRecDepth 50000 in
theorem q908_12 (C : am_Ct) (x1 : Int32) (μ : am_Mem) : am_ev C 908 12 [.ref 0, .int x1] [] μ = (am_ret (some (.int (am_c 0))) μ) := am_blk (b := [(.iconst 0, 1), (.ireturn, 1)]) rfl rfl (rfl : am_z 908 = 2) _ _ _
set_option maxRecDepth 50000 in
theorem q908_14 (C : am_Ct) (x1 : Int32) (μ : am_Mem) : am_ev C 908 14 [.ref 0, .int x1] [] μ = (am_ret (some (.int (am_c 1))) (am_up μ 0 4 x1)) := am_blk (b := [(.aload_n 0, 1), (.iload_n 1, 1), (.putfield 27, 3), (.iconst 1, 1), (.ireturn, 1)]) rfl rfl (rfl : am_z 908 = 2) _ _ _
theorem e908 (d : Nat) (x1 : Int32) (μ : am_Mem) : am_call (d + 1) 908 [.ref 0, .int x1] μ = am_ev (am_call d) 908 0 [.ref 0, .int x1] [] μ := rfl
/-! NoWordTwice.text()I  -/
set_option maxRecDepth 50000 in
theorem q909_0 (C : am_Ct) (x1 : Value) (μ : am_Mem) : am_ev C 909 0 [.ref 0, x1] [] μ = (am_bI (C 201 [.ref 26, .ref 25, .int (μ 0 4)] μ) (fun r1 m1 => if r1 = 0 then am_ret (some (.int (am_c (-1)))) (am_up m1 0 4 (am_c 0)) else am_ev C 909 27 [.ref 0, .int r1] [] (am_up m1 0 4 (am_c 0)))) := am_blk (b := [(.aload_n 0, 1), (.getfield 34, 3), (.aload_n 0, 1), (.getfield 23, 3), (.aload_n 0, 1), (.getfield 27, 3), (.invokevirtual 125, 3), (.istore_n 1, 1), (.aload_n 0, 1), (.iconst 0, 1), (.putfield 27, 3), (.iload_n 1, 1), (.ifCond .ne 5, 3), (.iconst (-1), 1), (.ireturn, 1)]) rfl rfl (rfl : am_z 909 = 0) _ _ _
set_option maxRecDepth 50000 in
theorem q909_27 (C : am_Ct) (x1 : Int32) (μ : am_Mem) : am_ev C 909 27 [.ref 0, .int x1] [] μ = (am_bV (C 101 [.ref 7, .ref 31] μ) (fun m1 => am_ret (some (.int (m1 7 0))) m1)) := am_blk (b := [(.aload_n 0, 1), (.getfield 10, 3), (.getfield 129, 3), (.aload_n 0, 1), (.getfield 34, 3), (.getfield 133, 3), (.invokevirtual 134, 3), (.aload_n 0, 1), (.getfield 10, 3), (.getfield 129, 3), (.getfield 140, 3), (.ireturn, 1)]) rfl rfl (rfl : am_z 909 = 0) _ _ _
theorem e909 (d : Nat) (μ : am_Mem) : am_call (d + 1) 909 [.ref 0] μ = am_ev (am_call d) 909 0 [.ref 0, .null] [] μ := rfl
/-! NoWordTwice.fault(I)I  -/
set_option maxRecDepth 50000 in
theorem q910_0 (C : am_Ct) (x1 : Int32) (μ : am_Mem) : am_ev C 910 0 [.ref 0, .int x1] [] μ = (if x1 = (am_c 0) then am_ev C 910 28 [.ref 0, .int x1] [] μ else if x1 = (am_c 1) then am_ev C 910 36 [.ref 0, .int x1] [] μ else am_ev C 910 44 [.ref 0, .int x1] [] μ) := am_blk (b := [(.iload_n 1, 1), (.lookupswitch 43 #[(0, 27), (1, 35)], 27)]) rfl rfl (rfl : am_z 910 = 0) _ _ _
set_option maxRecDepth 50000 in
theorem q910_28 (C : am_Ct) (x1 : Int32) (μ : am_Mem) : am_ev C 910 28 [.ref 0, .int x1] [] μ = (am_ret (some (.int (μ 26 5))) μ) := am_blk (b := [(.aload_n 0, 1), (.getfield 34, 3), (.getfield 143, 3), (.ireturn, 1)]) rfl rfl (rfl : am_z 910 = 0) _ _ _
set_option maxRecDepth 50000 in
theorem q910_36 (C : am_Ct) (x1 : Int32) (μ : am_Mem) : am_ev C 910 36 [.ref 0, .int x1] [] μ = (am_ret (some (.int (μ 26 6))) μ) := am_blk (b := [(.aload_n 0, 1), (.getfield 34, 3), (.getfield 146, 3), (.ireturn, 1)]) rfl rfl (rfl : am_z 910 = 0) _ _ _
set_option maxRecDepth 50000 in
theorem q910_44 (C : am_Ct) (x1 : Int32) (μ : am_Mem) : am_ev C 910 44 [.ref 0, .int x1] [] μ = (am_ret (some (.int (am_c (-1)))) μ) := am_blk (b := [(.iconst (-1), 1), (.ireturn, 1)]) rfl rfl (rfl : am_z 910 = 0) _ _ _
theorem e910 (d : Nat) (x1 : Int32) (μ : am_Mem) : am_call (d + 1) 910 [.ref 0, .int x1] μ = am_ev (am_call d) 910 0 [.ref 0, .int x1] [] μ := rfl
/-! NoWordTwice.editions(I)I  -/
set_option maxRecDepth 50000 in
theorem q911_0 (C : am_Ct) (x1 : Int32) (x2 : Value) (x3 : Value) (μ : am_Mem) : am_ev C 911 0 [.ref 0, .int x1, x2, x3] [] μ = (if x1 < (am_c 1) then am_ev C 911 26 [.ref 0, .int x1, x2, x3] [] μ else if (am_c 50) < x1 then am_ev C 911 26 [.ref 0, .int x1, x2, x3] [] μ else if ((μ 1 3) + x1) ≤ (am_c 9999) then am_ev C 911 28 [.ref 0, .int x1, x2, x3] [] μ else am_ev C 911 26 [.ref 0, .int x1, x2, x3] [] μ) := am_blk (b := [(.iload_n 1, 1), (.iconst 1, 1), (.if_icmp .lt 24, 3), (.iload_n 1, 1), (.bipush 50, 2), (.if_icmp .gt 18, 3), (.aload_n 0, 1), (.getfield 10, 3), (.getfield 149, 3), (.iload_n 1, 1), (.iadd, 1), (.sipush 9999, 3), (.if_icmp .le 5, 3)]) rfl rfl (rfl : am_z 911 = 0) _ _ _
set_option maxRecDepth 50000 in
theorem q911_26 (C : am_Ct) (x1 : Int32) (x2 : Value) (x3 : Value) (μ : am_Mem) : am_ev C 911 26 [.ref 0, .int x1, x2, x3] [] μ = (am_ret (some (.int (am_c (-1)))) μ) := am_blk (b := [(.iconst (-1), 1), (.ireturn, 1)]) rfl rfl (rfl : am_z 911 = 0) _ _ _
set_option maxRecDepth 50000 in
theorem q911_28 (C : am_Ct) (x1 : Int32) (x2 : Value) (x3 : Value) (μ : am_Mem) : am_ev C 911 28 [.ref 0, .int x1, x2, x3] [] μ = (am_ev C 911 32 [.ref 0, .int x1, .int (am_c 0), .int (am_c 0)] [] μ) := am_blk (b := [(.iconst 0, 1), (.istore_n 2, 1), (.iconst 0, 1), (.istore_n 3, 1)]) rfl rfl (rfl : am_z 911 = 0) _ _ _
set_option maxRecDepth 50000 in
theorem q911_32 (C : am_Ct) (x1 : Int32) (x2 : Int32) (x3 : Int32) (μ : am_Mem) : am_ev C 911 32 [.ref 0, .int x1, .int x2, .int x3] [] μ = (if x1 ≤ x3 then am_ev C 911 64 [.ref 0, .int x1, .int x2, .int x3] [] μ else am_bV (C 402 [.ref 37, .ref 1] μ) (fun m1 => am_bI (C 723 [.ref 1] m1) (fun r2 m2 => am_ev C 911 32 [.ref 0, .int x1, .int (x2 + r2), .int (x3 + (am_c 1))] [] m2))) := am_blk (b := [(.iload_n 3, 1), (.iload_n 1, 1), (.if_icmp .ge 30, 3), (.aload_n 0, 1), (.getfield 41, 3), (.aload_n 0, 1), (.getfield 10, 3), (.invokevirtual 152, 3), (.iload_n 2, 1), (.aload_n 0, 1), (.getfield 10, 3), (.invokevirtual 156, 3), (.iadd, 1), (.istore_n 2, 1), (.iinc 3 1, 3), (.goto (-29), 3)]) rfl rfl (rfl : am_z 911 = 0) _ _ _
set_option maxRecDepth 50000 in
theorem q911_64 (C : am_Ct) (x1 : Int32) (x2 : Int32) (x3 : Int32) (μ : am_Mem) : am_ev C 911 64 [.ref 0, .int x1, .int x2, .int x3] [] μ = (am_ret (some (.int x2)) μ) := am_blk (b := [(.iload_n 2, 1), (.ireturn, 1)]) rfl rfl (rfl : am_z 911 = 0) _ _ _
theorem e911 (d : Nat) (x1 : Int32) (μ : am_Mem) : am_call (d + 1) 911 [.ref 0, .int x1] μ = am_ev (am_call d) 911 0 [.ref 0, .int x1, .null, .null] [] μ := rfl
/-! NoWordTwice.of(II)I  -/
set_option maxRecDepth 50000 in
theorem q912_0 (C : am_Ct) (x1 : Int32) (x2 : Int32) (μ : am_Mem) : am_ev C 912 0 [.ref 0, .int x1, .int x2] [] μ = (am_bI (C 702 [.ref 1, .int x1] μ) (fun r1 m1 => if r1 = 0 then am_ret (some (.int (am_c (-2)))) m1 else am_ev C 912 14 [.ref 0, .int x1, .int x2] [] m1)) := am_blk (b := [(.aload_n 0, 1), (.getfield 10, 3), (.iload_n 1, 1), (.invokevirtual 160, 3), (.ifCond .ne 6, 3), (.bipush (-2), 2), (.ireturn, 1)]) rfl rfl (rfl : am_z 912 = 0) _ _ _
set_option maxRecDepth 50000 in
theorem q912_14 (C : am_Ct) (x1 : Int32) (x2 : Int32) (μ : am_Mem) : am_ev C 912 14 [.ref 0, .int x1, .int x2] [] μ = (if x2 = (am_c 0) then am_ev C 912 48 [.ref 0, .int x1, .int x2] [] μ else if x2 = (am_c 1) then am_ev C 912 58 [.ref 0, .int x1, .int x2] [] μ else if x2 = (am_c 2) then am_ev C 912 70 [.ref 0, .int x1, .int x2] [] μ else if x2 = (am_c 3) then am_ev C 912 86 [.ref 0, .int x1, .int x2] [] μ else if x2 = (am_c 4) then am_ev C 912 95 [.ref 0, .int x1, .int x2] [] μ else am_ev C 912 104 [.ref 0, .int x1, .int x2] [] μ) := am_blk (b := [(.iload_n 2, 1), (.tableswitch 89 0 4 #[33, 43, 55, 71, 80], 33)]) rfl rfl (rfl : am_z 912 = 0) _ _ _
set_option maxRecDepth 50000 in
theorem q912_48 (C : am_Ct) (x1 : Int32) (x2 : Int32) (μ : am_Mem) : am_ev C 912 48 [.ref 0, .int x1, .int x2] [] μ = (am_gb (Nat.blt (am_ix x1) 16) (am_ret (some (.int (μ 2 (am_ix x1)))) μ)) := am_blk (b := [(.aload_n 0, 1), (.getfield 10, 3), (.getfield 86, 3), (.iload_n 1, 1), (.iaload, 1), (.ireturn, 1)]) rfl rfl (rfl : am_z 912 = 0) _ _ _
set_option maxRecDepth 50000 in
theorem q912_58 (C : am_Ct) (x1 : Int32) (x2 : Int32) (μ : am_Mem) : am_ev C 912 58 [.ref 0, .int x1, .int x2] [] μ = (am_ret (some (.int (((μ 1 6) >>> (x1 &&& 31)) &&& (am_c 1)))) μ) := am_blk (b := [(.aload_n 0, 1), (.getfield 10, 3), (.getfield 163, 3), (.iload_n 1, 1), (.ishr, 1), (.iconst 1, 1), (.iand, 1), (.ireturn, 1)]) rfl rfl (rfl : am_z 912 = 0) _ _ _
set_option maxRecDepth 50000 in
theorem q912_70 (C : am_Ct) (x1 : Int32) (x2 : Int32) (μ : am_Mem) : am_ev C 912 70 [.ref 0, .int x1, .int x2] [] μ = (am_bI (C 713 [.ref 1, .int x1, .int (μ 1 7)] μ) (fun r1 m1 => am_ret (some (.int r1)) m1)) := am_blk (b := [(.aload_n 0, 1), (.getfield 10, 3), (.iload_n 1, 1), (.aload_n 0, 1), (.getfield 10, 3), (.getfield 103, 3), (.invokevirtual 166, 3), (.ireturn, 1)]) rfl rfl (rfl : am_z 912 = 0) _ _ _
set_option maxRecDepth 50000 in
theorem q912_86 (C : am_Ct) (x1 : Int32) (x2 : Int32) (μ : am_Mem) : am_ev C 912 86 [.ref 0, .int x1, .int x2] [] μ = (am_bI (C 714 [.ref 1, .int x1] μ) (fun r1 m1 => am_ret (some (.int r1)) m1)) := am_blk (b := [(.aload_n 0, 1), (.getfield 10, 3), (.iload_n 1, 1), (.invokevirtual 170, 3), (.ireturn, 1)]) rfl rfl (rfl : am_z 912 = 0) _ _ _
set_option maxRecDepth 50000 in
theorem q912_95 (C : am_Ct) (x1 : Int32) (x2 : Int32) (μ : am_Mem) : am_ev C 912 95 [.ref 0, .int x1, .int x2] [] μ = (am_bI (C 715 [.ref 1, .int x1] μ) (fun r1 m1 => am_ret (some (.int r1)) m1)) := am_blk (b := [(.aload_n 0, 1), (.getfield 10, 3), (.iload_n 1, 1), (.invokevirtual 174, 3), (.ireturn, 1)]) rfl rfl (rfl : am_z 912 = 0) _ _ _
set_option maxRecDepth 50000 in
theorem q912_104 (C : am_Ct) (x1 : Int32) (x2 : Int32) (μ : am_Mem) : am_ev C 912 104 [.ref 0, .int x1, .int x2] [] μ = (am_ret (some (.int (am_c (-2)))) μ) := am_blk (b := [(.bipush (-2), 2), (.ireturn, 1)]) rfl rfl (rfl : am_z 912 = 0) _ _ _
theorem e912 (d : Nat) (x1 : Int32) (x2 : Int32) (μ : am_Mem) : am_call (d + 1) 912 [.ref 0, .int x1, .int x2] μ = am_ev (am_call d) 912 0 [.ref 0, .int x1, .int x2] [] μ := rfl
/-! NoWordTwice.at(II)I  -/
set_option maxRecDepth 50000 in
theorem q913_0 (C : am_Ct) (x1 : Int32) (x2 : Int32) (μ : am_Mem) : am_ev C 913 0 [.ref 0, .int x1, .int x2] [] μ = (am_bI (C 703 [.ref 1, .int x1] μ) (fun r1 m1 => if r1 = 0 then am_ret (some (.int (am_c (-1)))) m1 else am_ev C 913 13 [.ref 0, .int x1, .int x2] [] m1)) := am_blk (b := [(.aload_n 0, 1), (.getfield 10, 3), (.iload_n 1, 1), (.invokevirtual 114, 3), (.ifCond .ne 5, 3), (.iconst (-1), 1), (.ireturn, 1)]) rfl rfl (rfl : am_z 913 = 0) _ _ _
set_option maxRecDepth 50000 in
theorem q913_13 (C : am_Ct) (x1 : Int32) (x2 : Int32) (μ : am_Mem) : am_ev C 913 13 [.ref 0, .int x1, .int x2] [] μ = (if x2 = (am_c 0) then am_ev C 913 40 [.ref 0, .int x1, .int x2] [] μ else if x2 = (am_c 1) then am_ev C 913 50 [.ref 0, .int x1, .int x2] [] μ else if x2 = (am_c 2) then am_ev C 913 60 [.ref 0, .int x1, .int x2] [] μ else am_ev C 913 77 [.ref 0, .int x1, .int x2] [] μ) := am_blk (b := [(.iload_n 2, 1), (.tableswitch 63 0 2 #[26, 36, 46], 26)]) rfl rfl (rfl : am_z 913 = 0) _ _ _
set_option maxRecDepth 50000 in
theorem q913_40 (C : am_Ct) (x1 : Int32) (x2 : Int32) (μ : am_Mem) : am_ev C 913 40 [.ref 0, .int x1, .int x2] [] μ = (am_gb (Nat.blt (am_ix x1) 12) (am_ret (some (.int (μ 3 (am_ix x1)))) μ)) := am_blk (b := [(.aload_n 0, 1), (.getfield 10, 3), (.getfield 177, 3), (.iload_n 1, 1), (.iaload, 1), (.ireturn, 1)]) rfl rfl (rfl : am_z 913 = 0) _ _ _
set_option maxRecDepth 50000 in
theorem q913_50 (C : am_Ct) (x1 : Int32) (x2 : Int32) (μ : am_Mem) : am_ev C 913 50 [.ref 0, .int x1, .int x2] [] μ = (am_gb (Nat.blt (am_ix x1) 12) (am_ret (some (.int (μ 4 (am_ix x1)))) μ)) := am_blk (b := [(.aload_n 0, 1), (.getfield 10, 3), (.getfield 180, 3), (.iload_n 1, 1), (.iaload, 1), (.ireturn, 1)]) rfl rfl (rfl : am_z 913 = 0) _ _ _
set_option maxRecDepth 50000 in
theorem q913_60 (C : am_Ct) (x1 : Int32) (x2 : Int32) (μ : am_Mem) : am_ev C 913 60 [.ref 0, .int x1, .int x2] [] μ = (am_bI (C 717 [.ref 1, .int x1] μ) (fun r1 m1 => if r1 = 0 then am_ev C 913 75 [.ref 0, .int x1, .int x2] [] m1 else am_ev C 913 76 [.ref 0, .int x1, .int x2] [.int (am_c 1)] m1)) := am_blk (b := [(.aload_n 0, 1), (.getfield 10, 3), (.iload_n 1, 1), (.invokevirtual 183, 3), (.ifCond .eq 7, 3), (.iconst 1, 1), (.goto 4, 3)]) rfl rfl (rfl : am_z 913 = 0) _ _ _
set_option maxRecDepth 50000 in
theorem q913_75 (C : am_Ct) (x1 : Int32) (x2 : Int32) (μ : am_Mem) : am_ev C 913 75 [.ref 0, .int x1, .int x2] [] μ = (am_ev C 913 76 [.ref 0, .int x1, .int x2] [.int (am_c 0)] μ) := am_blk (b := [(.iconst 0, 1)]) rfl rfl (rfl : am_z 913 = 0) _ _ _
set_option maxRecDepth 50000 in
theorem q913_76 (C : am_Ct) (x1 : Int32) (x2 : Int32) (s0 : Int32) (μ : am_Mem) : am_ev C 913 76 [.ref 0, .int x1, .int x2] [.int s0] μ = (am_ret (some (.int s0)) μ) := am_blk (b := [(.ireturn, 1)]) rfl rfl (rfl : am_z 913 = 0) _ _ _
set_option maxRecDepth 50000 in
theorem q913_77 (C : am_Ct) (x1 : Int32) (x2 : Int32) (μ : am_Mem) : am_ev C 913 77 [.ref 0, .int x1, .int x2] [] μ = (if x2 < (am_c 10) then am_ev C 913 98 [.ref 0, .int x1, .int x2] [] μ else am_bI (C 710 [.ref 1, .int x1, .int (x2 - (am_c 10))] μ) (fun r1 m1 => am_ev C 913 99 [.ref 0, .int x1, .int x2] [.int r1] m1)) := am_blk (b := [(.iload_n 2, 1), (.bipush 10, 2), (.if_icmp .lt 18, 3), (.aload_n 0, 1), (.getfield 10, 3), (.iload_n 1, 1), (.iload_n 2, 1), (.bipush 10, 2), (.isub, 1), (.invokevirtual 186, 3), (.goto 4, 3)]) rfl rfl (rfl : am_z 913 = 0) _ _ _
set_option maxRecDepth 50000 in
theorem q913_98 (C : am_Ct) (x1 : Int32) (x2 : Int32) (μ : am_Mem) : am_ev C 913 98 [.ref 0, .int x1, .int x2] [] μ = (am_ev C 913 99 [.ref 0, .int x1, .int x2] [.int (am_c (-1))] μ) := am_blk (b := [(.iconst (-1), 1)]) rfl rfl (rfl : am_z 913 = 0) _ _ _
set_option maxRecDepth 50000 in
theorem q913_99 (C : am_Ct) (x1 : Int32) (x2 : Int32) (s0 : Int32) (μ : am_Mem) : am_ev C 913 99 [.ref 0, .int x1, .int x2] [.int s0] μ = (am_ret (some (.int s0)) μ) := am_blk (b := [(.ireturn, 1)]) rfl rfl (rfl : am_z 913 = 0) _ _ _
theorem e913 (d : Nat) (x1 : Int32) (x2 : Int32) (μ : am_Mem) : am_call (d + 1) 913 [.ref 0, .int x1, .int x2] μ = am_ev (am_call d) 913 0 [.ref 0, .int x1, .int x2] [] μ := rfl
/-! NoWordTwice.fixes(II)I  -/
set_option maxRecDepth 50000 in
theorem q914_0 (C : am_Ct) (x1 : Int32) (x2 : Int32) (μ : am_Mem) : am_ev C 914 0 [.ref 0, .int x1, .int x2] [] μ = (am_bI (C 702 [.ref 1, .int x1] μ) (fun r1 m1 => if r1 = 0 then am_ev C 914 34 [.ref 0, .int x1, .int x2] [] m1 else am_bI (C 704 [.ref 1, .int x2] m1) (fun r2 m2 => if r2 = 0 then am_ev C 914 34 [.ref 0, .int x1, .int x2] [] m2 else if x2 = 0 then am_ev C 914 34 [.ref 0, .int x1, .int x2] [] m2 else if ((x2 >>> (x1 &&& 31)) &&& (am_c 1)) = 0 then am_ev C 914 36 [.ref 0, .int x1, .int x2] [] m2 else am_ev C 914 34 [.ref 0, .int x1, .int x2] [] m2))) := am_blk (b := [(.aload_n 0, 1), (.getfield 10, 3), (.iload_n 1, 1), (.invokevirtual 160, 3), (.ifCond .eq 26, 3), (.aload_n 0, 1), (.getfield 10, 3), (.iload_n 2, 1), (.invokevirtual 189, 3), (.ifCond .eq 15, 3), (.iload_n 2, 1), (.ifCond .eq 11, 3), (.iload_n 2, 1), (.iload_n 1, 1), (.ishr, 1), (.iconst 1, 1), (.iand, 1), (.ifCond .eq 5, 3)]) rfl rfl (rfl : am_z 914 = 0) _ _ _
set_option maxRecDepth 50000 in
theorem q914_34 (C : am_Ct) (x1 : Int32) (x2 : Int32) (μ : am_Mem) : am_ev C 914 34 [.ref 0, .int x1, .int x2] [] μ = (am_ret (some (.int (am_c (-1)))) μ) := am_blk (b := [(.iconst (-1), 1), (.ireturn, 1)]) rfl rfl (rfl : am_z 914 = 0) _ _ _
set_option maxRecDepth 50000 in
theorem q914_36 (C : am_Ct) (x1 : Int32) (x2 : Int32) (μ : am_Mem) : am_ev C 914 36 [.ref 0, .int x1, .int x2] [] μ = (am_bI (C 718 [.ref 1, .int x1, .int x2] μ) (fun r1 m1 => if r1 = 0 then am_ev C 914 52 [.ref 0, .int x1, .int x2] [] m1 else am_ev C 914 53 [.ref 0, .int x1, .int x2] [.int (am_c 1)] m1)) := am_blk (b := [(.aload_n 0, 1), (.getfield 10, 3), (.iload_n 1, 1), (.iload_n 2, 1), (.invokevirtual 192, 3), (.ifCond .eq 7, 3), (.iconst 1, 1), (.goto 4, 3)]) rfl rfl (rfl : am_z 914 = 0) _ _ _
set_option maxRecDepth 50000 in
theorem q914_52 (C : am_Ct) (x1 : Int32) (x2 : Int32) (μ : am_Mem) : am_ev C 914 52 [.ref 0, .int x1, .int x2] [] μ = (am_ev C 914 53 [.ref 0, .int x1, .int x2] [.int (am_c 0)] μ) := am_blk (b := [(.iconst 0, 1)]) rfl rfl (rfl : am_z 914 = 0) _ _ _
set_option maxRecDepth 50000 in
theorem q914_53 (C : am_Ct) (x1 : Int32) (x2 : Int32) (s0 : Int32) (μ : am_Mem) : am_ev C 914 53 [.ref 0, .int x1, .int x2] [.int s0] μ = (am_ret (some (.int s0)) μ) := am_blk (b := [(.ireturn, 1)]) rfl rfl (rfl : am_z 914 = 0) _ _ _
theorem e914 (d : Nat) (x1 : Int32) (x2 : Int32) (μ : am_Mem) : am_call (d + 1) 914 [.ref 0, .int x1, .int x2] μ = am_ev (am_call d) 914 0 [.ref 0, .int x1, .int x2] [] μ := rfl
/-! NoWordTwice.judge(I)I  -/
set_option maxRecDepth 50000 in
theorem q915_0 (C : am_Ct) (x1 : Int32) (μ : am_Mem) : am_ev C 915 0 [.ref 0, .int x1] [] μ = (am_bV (C 1 [.ref 41, .ref 1] μ) (fun m1 => if x1 = (am_c 0) then am_ev C 915 40 [.ref 0, .int x1] [] m1 else if x1 = (am_c 1) then am_ev C 915 48 [.ref 0, .int x1] [] m1 else if x1 = (am_c 2) then am_ev C 915 56 [.ref 0, .int x1] [] m1 else am_ev C 915 64 [.ref 0, .int x1] [] m1)) := am_blk (b := [(.aload_n 0, 1), (.getfield 48, 3), (.aload_n 0, 1), (.getfield 10, 3), (.invokevirtual 195, 3), (.iload_n 1, 1), (.tableswitch 52 0 2 #[28, 36, 44], 28)]) rfl rfl (rfl : am_z 915 = 0) _ _ _
set_option maxRecDepth 50000 in
theorem q915_40 (C : am_Ct) (x1 : Int32) (μ : am_Mem) : am_ev C 915 40 [.ref 0, .int x1] [] μ = (am_ret (some (.int (μ 41 0))) μ) := am_blk (b := [(.aload_n 0, 1), (.getfield 48, 3), (.getfield 198, 3), (.ireturn, 1)]) rfl rfl (rfl : am_z 915 = 0) _ _ _
set_option maxRecDepth 50000 in
theorem q915_48 (C : am_Ct) (x1 : Int32) (μ : am_Mem) : am_ev C 915 48 [.ref 0, .int x1] [] μ = (am_ret (some (.int (μ 41 1))) μ) := am_blk (b := [(.aload_n 0, 1), (.getfield 48, 3), (.getfield 201, 3), (.ireturn, 1)]) rfl rfl (rfl : am_z 915 = 0) _ _ _
set_option maxRecDepth 50000 in
theorem q915_56 (C : am_Ct) (x1 : Int32) (μ : am_Mem) : am_ev C 915 56 [.ref 0, .int x1] [] μ = (am_ret (some (.int (μ 41 2))) μ) := am_blk (b := [(.aload_n 0, 1), (.getfield 48, 3), (.getfield 204, 3), (.ireturn, 1)]) rfl rfl (rfl : am_z 915 = 0) _ _ _
set_option maxRecDepth 50000 in
theorem q915_64 (C : am_Ct) (x1 : Int32) (μ : am_Mem) : am_ev C 915 64 [.ref 0, .int x1] [] μ = (am_ret (some (.int (am_c (-1)))) μ) := am_blk (b := [(.iconst (-1), 1), (.ireturn, 1)]) rfl rfl (rfl : am_z 915 = 0) _ _ _
theorem e915 (d : Nat) (x1 : Int32) (μ : am_Mem) : am_call (d + 1) 915 [.ref 0, .int x1] μ = am_ev (am_call d) 915 0 [.ref 0, .int x1] [] μ := rfl
/-! NoWordTwice.learnt(II)I  -/
set_option maxRecDepth 50000 in
theorem q916_0 (C : am_Ct) (x1 : Int32) (x2 : Int32) (μ : am_Mem) : am_ev C 916 0 [.ref 0, .int x1, .int x2] [] μ = (am_bI (C 704 [.ref 1, .int x1] μ) (fun r1 m1 => if r1 = 0 then am_ev C 916 20 [.ref 0, .int x1, .int x2] [] m1 else if x2 < 0 then am_ev C 916 20 [.ref 0, .int x1, .int x2] [] m1 else if x2 ≤ (am_c 1) then am_ev C 916 22 [.ref 0, .int x1, .int x2] [] m1 else am_ev C 916 20 [.ref 0, .int x1, .int x2] [] m1)) := am_blk (b := [(.aload_n 0, 1), (.getfield 10, 3), (.iload_n 1, 1), (.invokevirtual 189, 3), (.ifCond .eq 12, 3), (.iload_n 2, 1), (.ifCond .lt 8, 3), (.iload_n 2, 1), (.iconst 1, 1), (.if_icmp .le 5, 3)]) rfl rfl (rfl : am_z 916 = 0) _ _ _
set_option maxRecDepth 50000 in
theorem q916_20 (C : am_Ct) (x1 : Int32) (x2 : Int32) (μ : am_Mem) : am_ev C 916 20 [.ref 0, .int x1, .int x2] [] μ = (am_ret (some (.int (am_c (-1)))) μ) := am_blk (b := [(.iconst (-1), 1), (.ireturn, 1)]) rfl rfl (rfl : am_z 916 = 0) _ _ _
set_option maxRecDepth 50000 in
theorem q916_22 (C : am_Ct) (x1 : Int32) (x2 : Int32) (μ : am_Mem) : am_ev C 916 22 [.ref 0, .int x1, .int x2] [] μ = (am_bV (C 502 [.ref 42, .ref 1] μ) (fun m1 => am_bV (C 505 [.ref 42, .int x1] m1) (fun m2 => if x2 = 0 then am_ev C 916 62 [.ref 0, .int x1, .int x2] [.int (m2 42 6)] m2 else am_ev C 916 55 [.ref 0, .int x1, .int x2] [] m2))) := am_blk (b := [(.aload_n 0, 1), (.getfield 55, 3), (.aload_n 0, 1), (.getfield 10, 3), (.invokevirtual 207, 3), (.aload_n 0, 1), (.getfield 55, 3), (.iload_n 1, 1), (.invokevirtual 210, 3), (.iload_n 2, 1), (.ifCond .ne 13, 3), (.aload_n 0, 1), (.getfield 55, 3), (.getfield 213, 3), (.goto 10, 3)]) rfl rfl (rfl : am_z 916 = 0) _ _ _
set_option maxRecDepth 50000 in
theorem q916_55 (C : am_Ct) (x1 : Int32) (x2 : Int32) (μ : am_Mem) : am_ev C 916 55 [.ref 0, .int x1, .int x2] [] μ = (am_ev C 916 62 [.ref 0, .int x1, .int x2] [.int (μ 42 7)] μ) := am_blk (b := [(.aload_n 0, 1), (.getfield 55, 3), (.getfield 216, 3)]) rfl rfl (rfl : am_z 916 = 0) _ _ _
set_option maxRecDepth 50000 in
theorem q916_62 (C : am_Ct) (x1 : Int32) (x2 : Int32) (s0 : Int32) (μ : am_Mem) : am_ev C 916 62 [.ref 0, .int x1, .int x2] [.int s0] μ = (am_ret (some (.int s0)) μ) := am_blk (b := [(.ireturn, 1)]) rfl rfl (rfl : am_z 916 = 0) _ _ _
theorem e916 (d : Nat) (x1 : Int32) (x2 : Int32) (μ : am_Mem) : am_call (d + 1) 916 [.ref 0, .int x1, .int x2] μ = am_ev (am_call d) 916 0 [.ref 0, .int x1, .int x2] [] μ := rfl
/-! NoWordTwice.order(I)I  -/
set_option maxRecDepth 50000 in
theorem q917_0 (C : am_Ct) (x1 : Int32) (μ : am_Mem) : am_ev C 917 0 [.ref 0, .int x1] [] μ = (am_bV (C 507 [.ref 42, .ref 1] μ) (fun m1 => if x1 < 0 then am_ev C 917 38 [.ref 0, .int x1] [] m1 else if (m1 42 4) ≤ x1 then am_ev C 917 38 [.ref 0, .int x1] [] m1 else am_gb (Nat.blt (am_ix x1) 12) (am_ev C 917 39 [.ref 0, .int x1] [.int (m1 45 (am_ix x1))] m1))) := am_blk (b := [(.aload_n 0, 1), (.getfield 55, 3), (.aload_n 0, 1), (.getfield 10, 3), (.invokevirtual 219, 3), (.iload_n 1, 1), (.ifCond .lt 26, 3), (.iload_n 1, 1), (.aload_n 0, 1), (.getfield 55, 3), (.getfield 222, 3), (.if_icmp .ge 15, 3), (.aload_n 0, 1), (.getfield 55, 3), (.getfield 225, 3), (.iload_n 1, 1), (.iaload, 1), (.goto 4, 3)]) rfl rfl (rfl : am_z 917 = 0) _ _ _
set_option maxRecDepth 50000 in
theorem q917_38 (C : am_Ct) (x1 : Int32) (μ : am_Mem) : am_ev C 917 38 [.ref 0, .int x1] [] μ = (am_ev C 917 39 [.ref 0, .int x1] [.int (am_c (-1))] μ) := am_blk (b := [(.iconst (-1), 1)]) rfl rfl (rfl : am_z 917 = 0) _ _ _
set_option maxRecDepth 50000 in
theorem q917_39 (C : am_Ct) (x1 : Int32) (s0 : Int32) (μ : am_Mem) : am_ev C 917 39 [.ref 0, .int x1] [.int s0] μ = (am_ret (some (.int s0)) μ) := am_blk (b := [(.ireturn, 1)]) rfl rfl (rfl : am_z 917 = 0) _ _ _
theorem e917 (d : Nat) (x1 : Int32) (μ : am_Mem) : am_call (d + 1) 917 [.ref 0, .int x1] μ = am_ev (am_call d) 917 0 [.ref 0, .int x1] [] μ := rfl
/-! NoWordTwice.ring()I  -/
set_option maxRecDepth 50000 in
theorem q918_0 (C : am_Ct) (μ : am_Mem) : am_ev C 918 0 [.ref 0] [] μ = (am_bV (C 507 [.ref 42, .ref 1] μ) (fun m1 => am_ret (some (.int (m1 42 5))) m1)) := am_blk (b := [(.aload_n 0, 1), (.getfield 55, 3), (.aload_n 0, 1), (.getfield 10, 3), (.invokevirtual 219, 3), (.aload_n 0, 1), (.getfield 55, 3), (.getfield 228, 3), (.ireturn, 1)]) rfl rfl (rfl : am_z 918 = 0) _ _ _
theorem e918 (d : Nat) (μ : am_Mem) : am_call (d + 1) 918 [.ref 0] μ = am_ev (am_call d) 918 0 [.ref 0] [] μ := rfl
/-! NoWordTwice.cut()I  -/
set_option maxRecDepth 50000 in
theorem q919_0 (C : am_Ct) (μ : am_Mem) : am_ev C 919 0 [.ref 0] [] μ = (am_bV (C 501 [.ref 42, .ref 1] μ) (fun m1 => am_bI (C 504 [.ref 42] m1) (fun r2 m2 => am_bI (C 509 [.ref 42, .int (m1 1 6), .int r2] m2) (fun r3 m3 => am_ret (some (.int r3)) m3)))) := am_blk (b := [(.aload_n 0, 1), (.getfield 55, 3), (.aload_n 0, 1), (.getfield 10, 3), (.invokevirtual 231, 3), (.aload_n 0, 1), (.getfield 55, 3), (.aload_n 0, 1), (.getfield 10, 3), (.getfield 163, 3), (.aload_n 0, 1), (.getfield 55, 3), (.invokevirtual 234, 3), (.invokevirtual 237, 3), (.ireturn, 1)]) rfl rfl (rfl : am_z 919 = 0) _ _ _
theorem e919 (d : Nat) (μ : am_Mem) : am_call (d + 1) 919 [.ref 0] μ = am_ev (am_call d) 919 0 [.ref 0] [] μ := rfl
/-! NoWordTwice.least()I  -/
set_option maxRecDepth 50000 in
theorem q920_0 (C : am_Ct) (μ : am_Mem) : am_ev C 920 0 [.ref 0] [] μ = (am_bV (C 502 [.ref 42, .ref 1] μ) (fun m1 => am_bI (C 716 [.ref 1] m1) (fun r2 m2 => am_bI (C 509 [.ref 42, .int (am_c 0), .int r2] m2) (fun r3 m3 => am_ret (some (.int r3)) m3)))) := am_blk (b := [(.aload_n 0, 1), (.getfield 55, 3), (.aload_n 0, 1), (.getfield 10, 3), (.invokevirtual 207, 3), (.aload_n 0, 1), (.getfield 55, 3), (.iconst 0, 1), (.aload_n 0, 1), (.getfield 10, 3), (.invokevirtual 240, 3), (.invokevirtual 237, 3), (.ireturn, 1)]) rfl rfl (rfl : am_z 920 = 0) _ _ _
theorem e920 (d : Nat) (μ : am_Mem) : am_call (d + 1) 920 [.ref 0] μ = am_ev (am_call d) 920 0 [.ref 0] [] μ := rfl
/-! NoWordTwice.most(II)I  -/
set_option maxRecDepth 50000 in
theorem q921_0 (C : am_Ct) (x1 : Int32) (x2 : Int32) (x3 : Value) (μ : am_Mem) : am_ev C 921 0 [.ref 0, .int x1, .int x2, x3] [] μ = (if x2 = 0 then am_ev C 921 24 [.ref 0, .int x1, .int x2, x3] [] μ else if x2 < (am_c 10) then am_ev C 921 28 [.ref 0, .int x1, .int x2, x3] [] μ else am_bI (C 702 [.ref 1, .int (x2 - (am_c 10))] μ) (fun r1 m1 => if r1 = 0 then am_ev C 921 28 [.ref 0, .int x1, .int x2, x3] [] m1 else am_ev C 921 24 [.ref 0, .int x1, .int x2, x3] [] m1)) := am_blk (b := [(.iload_n 2, 1), (.ifCond .eq 23, 3), (.iload_n 2, 1), (.bipush 10, 2), (.if_icmp .lt 21, 3), (.aload_n 0, 1), (.getfield 10, 3), (.iload_n 2, 1), (.bipush 10, 2), (.isub, 1), (.invokevirtual 160, 3), (.ifCond .eq 7, 3)]) rfl rfl (rfl : am_z 921 = 0) _ _ _
set_option maxRecDepth 50000 in
theorem q921_24 (C : am_Ct) (x1 : Int32) (x2 : Int32) (x3 : Value) (μ : am_Mem) : am_ev C 921 24 [.ref 0, .int x1, .int x2, x3] [] μ = (am_ev C 921 29 [.ref 0, .int x1, .int x2, x3] [.int (am_c 1)] μ) := am_blk (b := [(.iconst 1, 1), (.goto 4, 3)]) rfl rfl (rfl : am_z 921 = 0) _ _ _
set_option maxRecDepth 50000 in
theorem q921_28 (C : am_Ct) (x1 : Int32) (x2 : Int32) (x3 : Value) (μ : am_Mem) : am_ev C 921 28 [.ref 0, .int x1, .int x2, x3] [] μ = (am_ev C 921 29 [.ref 0, .int x1, .int x2, x3] [.int (am_c 0)] μ) := am_blk (b := [(.iconst 0, 1)]) rfl rfl (rfl : am_z 921 = 0) _ _ _
set_option maxRecDepth 50000 in
theorem q921_29 (C : am_Ct) (x1 : Int32) (x2 : Int32) (x3 : Value) (s0 : Int32) (μ : am_Mem) : am_ev C 921 29 [.ref 0, .int x1, .int x2, x3] [.int s0] μ = (if x1 < (am_c 1) then am_ev C 921 56 [.ref 0, .int x1, .int x2, .int s0] [] μ else if (am_c 3) < x1 then am_ev C 921 56 [.ref 0, .int x1, .int x2, .int s0] [] μ else if (am_c 7) < (μ 1 4) then am_ev C 921 56 [.ref 0, .int x1, .int x2, .int s0] [] μ else if s0 = 0 then am_ev C 921 56 [.ref 0, .int x1, .int x2, .int s0] [] μ else am_ev C 921 58 [.ref 0, .int x1, .int x2, .int s0] [] μ) := am_blk (b := [(.istore_n 3, 1), (.iload_n 1, 1), (.iconst 1, 1), (.if_icmp .lt 24, 3), (.iload_n 1, 1), (.iconst 3, 1), (.if_icmp .gt 19, 3), (.aload_n 0, 1), (.getfield 10, 3), (.getfield 79, 3), (.bipush 7, 2), (.if_icmp .gt 7, 3), (.iload_n 3, 1), (.ifCond .ne 5, 3)]) rfl rfl (rfl : am_z 921 = 0) _ _ _
set_option maxRecDepth 50000 in
theorem q921_56 (C : am_Ct) (x1 : Int32) (x2 : Int32) (x3 : Int32) (μ : am_Mem) : am_ev C 921 56 [.ref 0, .int x1, .int x2, .int x3] [] μ = (am_ret (some (.int (am_c (-1)))) μ) := am_blk (b := [(.iconst (-1), 1), (.ireturn, 1)]) rfl rfl (rfl : am_z 921 = 0) _ _ _
set_option maxRecDepth 50000 in
theorem q921_58 (C : am_Ct) (x1 : Int32) (x2 : Int32) (x3 : Int32) (μ : am_Mem) : am_ev C 921 58 [.ref 0, .int x1, .int x2, .int x3] [] μ = (am_bV (C 301 [.ref 48, .ref 1, .int x1] μ) (fun m1 => if x2 = 0 then am_ev C 921 96 [.ref 0, .int x1, .int x2, .int x3] [.int (m1 48 0)] m1 else am_ev C 921 84 [.ref 0, .int x1, .int x2, .int x3] [] m1)) := am_blk (b := [(.aload_n 0, 1), (.getfield 69, 3), (.aload_n 0, 1), (.getfield 10, 3), (.iload_n 1, 1), (.invokevirtual 243, 3), (.iload_n 2, 1), (.ifCond .ne 13, 3), (.aload_n 0, 1), (.getfield 69, 3), (.getfield 247, 3), (.goto 15, 3)]) rfl rfl (rfl : am_z 921 = 0) _ _ _
set_option maxRecDepth 50000 in
theorem q921_84 (C : am_Ct) (x1 : Int32) (x2 : Int32) (x3 : Int32) (μ : am_Mem) : am_ev C 921 84 [.ref 0, .int x1, .int x2, .int x3] [] μ = (am_gb (Nat.blt (am_ix (x2 - (am_c 10))) 7) (am_ev C 921 96 [.ref 0, .int x1, .int x2, .int x3] [.int (μ 49 (am_ix (x2 - (am_c 10))))] μ)) := am_blk (b := [(.aload_n 0, 1), (.getfield 69, 3), (.getfield 250, 3), (.iload_n 2, 1), (.bipush 10, 2), (.isub, 1), (.iaload, 1)]) rfl rfl (rfl : am_z 921 = 0) _ _ _
set_option maxRecDepth 50000 in
theorem q921_96 (C : am_Ct) (x1 : Int32) (x2 : Int32) (x3 : Int32) (s0 : Int32) (μ : am_Mem) : am_ev C 921 96 [.ref 0, .int x1, .int x2, .int x3] [.int s0] μ = (am_ret (some (.int s0)) μ) := am_blk (b := [(.ireturn, 1)]) rfl rfl (rfl : am_z 921 = 0) _ _ _
theorem e921 (d : Nat) (x1 : Int32) (x2 : Int32) (μ : am_Mem) : am_call (d + 1) 921 [.ref 0, .int x1, .int x2] μ = am_ev (am_call d) 921 0 [.ref 0, .int x1, .int x2, .null] [] μ := rfl
/-! NoWordTwice.worn(II)I  -/
set_option maxRecDepth 50000 in
theorem q922_0 (C : am_Ct) (x1 : Int32) (x2 : Int32) (μ : am_Mem) : am_ev C 922 0 [.ref 0, .int x1, .int x2] [] μ = (am_bI (C 703 [.ref 1, .int x1] μ) (fun r1 m1 => if r1 = 0 then am_ev C 922 28 [.ref 0, .int x1, .int x2] [] m1 else if x2 < 0 then am_ev C 922 28 [.ref 0, .int x1, .int x2] [] m1 else am_gb (Nat.blt (am_ix x1) 12) (if x2 < (m1 4 (am_ix x1)) then am_ev C 922 30 [.ref 0, .int x1, .int x2] [] m1 else am_ev C 922 28 [.ref 0, .int x1, .int x2] [] m1))) := am_blk (b := [(.aload_n 0, 1), (.getfield 10, 3), (.iload_n 1, 1), (.invokevirtual 114, 3), (.ifCond .eq 20, 3), (.iload_n 2, 1), (.ifCond .lt 16, 3), (.iload_n 2, 1), (.aload_n 0, 1), (.getfield 10, 3), (.getfield 180, 3), (.iload_n 1, 1), (.iaload, 1), (.if_icmp .lt 5, 3)]) rfl rfl (rfl : am_z 922 = 0) _ _ _
set_option maxRecDepth 50000 in
theorem q922_28 (C : am_Ct) (x1 : Int32) (x2 : Int32) (μ : am_Mem) : am_ev C 922 28 [.ref 0, .int x1, .int x2] [] μ = (am_ret (some (.int (am_c (-1)))) μ) := am_blk (b := [(.iconst (-1), 1), (.ireturn, 1)]) rfl rfl (rfl : am_z 922 = 0) _ _ _
set_option maxRecDepth 50000 in
theorem q922_30 (C : am_Ct) (x1 : Int32) (x2 : Int32) (μ : am_Mem) : am_ev C 922 30 [.ref 0, .int x1, .int x2] [] μ = (am_bI (C 720 [.ref 1, .int x1, .int x2] μ) (fun r1 m1 => am_ret (some (.int r1)) m1)) := am_blk (b := [(.aload_n 0, 1), (.getfield 10, 3), (.iload_n 1, 1), (.iload_n 2, 1), (.invokevirtual 253, 3), (.ireturn, 1)]) rfl rfl (rfl : am_z 922 = 0) _ _ _
theorem e922 (d : Nat) (x1 : Int32) (x2 : Int32) (μ : am_Mem) : am_call (d + 1) 922 [.ref 0, .int x1, .int x2] μ = am_ev (am_call d) 922 0 [.ref 0, .int x1, .int x2] [] μ := rfl
/-! NoWordTwice.trade(I)I  -/
set_option maxRecDepth 50000 in
theorem q923_0 (C : am_Ct) (x1 : Int32) (μ : am_Mem) : am_ev C 923 0 [.ref 0, .int x1] [] μ = (if x1 < 0 then am_ev C 923 9 [.ref 0, .int x1] [] μ else if x1 ≤ (am_c 4) then am_ev C 923 11 [.ref 0, .int x1] [] μ else am_ev C 923 9 [.ref 0, .int x1] [] μ) := am_blk (b := [(.iload_n 1, 1), (.ifCond .lt 8, 3), (.iload_n 1, 1), (.iconst 4, 1), (.if_icmp .le 5, 3)]) rfl rfl (rfl : am_z 923 = 0) _ _ _
set_option maxRecDepth 50000 in
theorem q923_9 (C : am_Ct) (x1 : Int32) (μ : am_Mem) : am_ev C 923 9 [.ref 0, .int x1] [] μ = (am_ret (some (.int (am_c (-1)))) μ) := am_blk (b := [(.iconst (-1), 1), (.ireturn, 1)]) rfl rfl (rfl : am_z 923 = 0) _ _ _
set_option maxRecDepth 50000 in
theorem q923_11 (C : am_Ct) (x1 : Int32) (μ : am_Mem) : am_ev C 923 11 [.ref 0, .int x1] [] μ = (am_bV (C 801 [.ref 46, .ref 1] μ) (fun m1 => if x1 = 0 then am_ev C 923 47 [.ref 0, .int x1] [.int (m1 46 0)] m1 else am_ev C 923 36 [.ref 0, .int x1] [] m1)) := am_blk (b := [(.aload_n 0, 1), (.getfield 62, 3), (.aload_n 0, 1), (.getfield 10, 3), (.invokevirtual 256, 3), (.iload_n 1, 1), (.ifCond .ne 13, 3), (.aload_n 0, 1), (.getfield 62, 3), (.getfield 259, 3), (.goto 14, 3)]) rfl rfl (rfl : am_z 923 = 0) _ _ _
set_option maxRecDepth 50000 in
theorem q923_36 (C : am_Ct) (x1 : Int32) (μ : am_Mem) : am_ev C 923 36 [.ref 0, .int x1] [] μ = (am_gb (Nat.blt (am_ix (x1 - (am_c 1))) 4) (am_ev C 923 47 [.ref 0, .int x1] [.int (μ 47 (am_ix (x1 - (am_c 1))))] μ)) := am_blk (b := [(.aload_n 0, 1), (.getfield 62, 3), (.getfield 262, 3), (.iload_n 1, 1), (.iconst 1, 1), (.isub, 1), (.iaload, 1)]) rfl rfl (rfl : am_z 923 = 0) _ _ _
set_option maxRecDepth 50000 in
theorem q923_47 (C : am_Ct) (x1 : Int32) (s0 : Int32) (μ : am_Mem) : am_ev C 923 47 [.ref 0, .int x1] [.int s0] μ = (am_ret (some (.int s0)) μ) := am_blk (b := [(.ireturn, 1)]) rfl rfl (rfl : am_z 923 = 0) _ _ _
theorem e923 (d : Nat) (x1 : Int32) (μ : am_Mem) : am_call (d + 1) 923 [.ref 0, .int x1] μ = am_ev (am_call d) 923 0 [.ref 0, .int x1] [] μ := rfl
/-! NoWordTwice.book(II)I  -/
set_option maxRecDepth 50000 in
theorem q924_0 (C : am_Ct) (x1 : Int32) (x2 : Int32) (μ : am_Mem) : am_ev C 924 0 [.ref 0, .int x1, .int x2] [] μ = (if x1 < 0 then am_ev C 924 24 [.ref 0, .int x1, .int x2] [] μ else if (μ 1 11) ≤ x1 then am_ev C 924 24 [.ref 0, .int x1, .int x2] [] μ else if x2 < 0 then am_ev C 924 24 [.ref 0, .int x1, .int x2] [] μ else if x2 < (am_c 4) then am_ev C 924 26 [.ref 0, .int x1, .int x2] [] μ else am_ev C 924 24 [.ref 0, .int x1, .int x2] [] μ) := am_blk (b := [(.iload_n 1, 1), (.ifCond .lt 23, 3), (.iload_n 1, 1), (.aload_n 0, 1), (.getfield 10, 3), (.getfield 265, 3), (.if_icmp .ge 12, 3), (.iload_n 2, 1), (.ifCond .lt 8, 3), (.iload_n 2, 1), (.iconst 4, 1), (.if_icmp .lt 5, 3)]) rfl rfl (rfl : am_z 924 = 0) _ _ _
set_option maxRecDepth 50000 in
theorem q924_24 (C : am_Ct) (x1 : Int32) (x2 : Int32) (μ : am_Mem) : am_ev C 924 24 [.ref 0, .int x1, .int x2] [] μ = (am_ret (some (.int (am_c (-1)))) μ) := am_blk (b := [(.iconst (-1), 1), (.ireturn, 1)]) rfl rfl (rfl : am_z 924 = 0) _ _ _
set_option maxRecDepth 50000 in
theorem q924_26 (C : am_Ct) (x1 : Int32) (x2 : Int32) (μ : am_Mem) : am_ev C 924 26 [.ref 0, .int x1, .int x2] [] μ = (am_gb (Nat.blt (am_ix ((x1 * (am_c 4)) + x2)) 320) (am_ret (some (.int (μ 6 (am_ix ((x1 * (am_c 4)) + x2))))) μ)) := am_blk (b := [(.aload_n 0, 1), (.getfield 10, 3), (.getfield 268, 3), (.iload_n 1, 1), (.iconst 4, 1), (.imul, 1), (.iload_n 2, 1), (.iadd, 1), (.iaload, 1), (.ireturn, 1)]) rfl rfl (rfl : am_z 924 = 0) _ _ _
theorem e924 (d : Nat) (x1 : Int32) (x2 : Int32) (μ : am_Mem) : am_call (d + 1) 924 [.ref 0, .int x1, .int x2] μ = am_ev (am_call d) 924 0 [.ref 0, .int x1, .int x2] [] μ := rfl
/-! NoWordTwice.undo()Z  -/
set_option maxRecDepth 50000 in
theorem q925_0 (C : am_Ct) (μ : am_Mem) : am_ev C 925 0 [.ref 0] [] μ = (if (μ 37 4) = 0 then am_ret (some (.int (am_c 0))) μ else am_ev C 925 12 [.ref 0] [] μ) := am_blk (b := [(.aload_n 0, 1), (.getfield 41, 3), (.getfield 271, 3), (.ifCond .ne 5, 3), (.iconst 0, 1), (.ireturn, 1)]) rfl rfl (rfl : am_z 925 = 2) _ _ _
set_option maxRecDepth 50000 in
theorem q925_12 (C : am_Ct) (μ : am_Mem) : am_ev C 925 12 [.ref 0] [] μ = (am_bV (C 403 [.ref 37, .ref 1] μ) (fun m1 => am_ret (some (.int (am_c 1))) m1)) := am_blk (b := [(.aload_n 0, 1), (.getfield 41, 3), (.aload_n 0, 1), (.getfield 10, 3), (.invokevirtual 274, 3), (.iconst 1, 1), (.ireturn, 1)]) rfl rfl (rfl : am_z 925 = 2) _ _ _
theorem e925 (d : Nat) (μ : am_Mem) : am_call (d + 1) 925 [.ref 0] μ = am_ev (am_call d) 925 0 [.ref 0] [] μ := rfl
/-! NoWordTwice.image(Z)Z  -/
set_option maxRecDepth 50000 in
theorem q926_0 (C : am_Ct) (x1 : Int32) (μ : am_Mem) : am_ev C 926 0 [.ref 0, .int x1] [] μ = (if x1 = 0 then am_ev C 926 22 [.ref 0, .int x1] [] μ else am_bV (C 701 [.ref 13, .ref 1] μ) (fun m1 => am_ret (some (.int (am_c 1))) (am_up m1 0 2 (am_c 1)))) := am_blk (b := [(.iload_n 1, 1), (.ifCond .eq 21, 3), (.aload_n 0, 1), (.getfield 16, 3), (.aload_n 0, 1), (.getfield 10, 3), (.invokevirtual 277, 3), (.aload_n 0, 1), (.iconst 1, 1), (.putfield 19, 3), (.iconst 1, 1), (.ireturn, 1)]) rfl rfl (rfl : am_z 926 = 2) _ _ _
set_option maxRecDepth 50000 in
theorem q926_22 (C : am_Ct) (x1 : Int32) (μ : am_Mem) : am_ev C 926 22 [.ref 0, .int x1] [] μ = (if (μ 0 2) = 0 then am_ret (some (.int (am_c 0))) μ else am_ev C 926 31 [.ref 0, .int x1] [] μ) := am_blk (b := [(.aload_n 0, 1), (.getfield 19, 3), (.ifCond .ne 5, 3), (.iconst 0, 1), (.ireturn, 1)]) rfl rfl (rfl : am_z 926 = 2) _ _ _
set_option maxRecDepth 50000 in
theorem q926_31 (C : am_Ct) (x1 : Int32) (μ : am_Mem) : am_ev C 926 31 [.ref 0, .int x1] [] μ = (am_bV (C 701 [.ref 1, .ref 13] μ) (fun m1 => am_bV (C 401 [.ref 37] m1) (fun m2 => am_ret (some (.int (am_c 1))) m2))) := am_blk (b := [(.aload_n 0, 1), (.getfield 10, 3), (.aload_n 0, 1), (.getfield 16, 3), (.invokevirtual 277, 3), (.aload_n 0, 1), (.getfield 41, 3), (.invokevirtual 76, 3), (.iconst 1, 1), (.ireturn, 1)]) rfl rfl (rfl : am_z 926 = 2) _ _ _
theorem e926 (d : Nat) (x1 : Int32) (μ : am_Mem) : am_call (d + 1) 926 [.ref 0, .int x1] μ = am_ev (am_call d) 926 0 [.ref 0, .int x1] [] μ := rfl
/-! NoWordTwice.look(I)I  -/
set_option maxRecDepth 50000 in
theorem q927_0 (C : am_Ct) (x1 : Int32) (μ : am_Mem) : am_ev C 927 0 [.ref 0, .int x1] [] μ = (if x1 = (am_c 0) then am_ev C 927 52 [.ref 0, .int x1] [] μ else if x1 = (am_c 1) then am_ev C 927 60 [.ref 0, .int x1] [] μ else if x1 = (am_c 2) then am_ev C 927 68 [.ref 0, .int x1] [] μ else if x1 = (am_c 3) then am_ev C 927 76 [.ref 0, .int x1] [] μ else if x1 = (am_c 4) then am_ev C 927 84 [.ref 0, .int x1] [] μ else if x1 = (am_c 5) then am_ev C 927 92 [.ref 0, .int x1] [] μ else if x1 = (am_c 6) then am_ev C 927 100 [.ref 0, .int x1] [] μ else if x1 = (am_c 7) then am_ev C 927 108 [.ref 0, .int x1] [] μ else if x1 = (am_c 8) then am_ev C 927 119 [.ref 0, .int x1] [] μ else am_ev C 927 127 [.ref 0, .int x1] [] μ) := am_blk (b := [(.iload_n 1, 1), (.tableswitch 126 0 8 #[51, 59, 67, 75, 83, 91, 99, 107, 118], 51)]) rfl rfl (rfl : am_z 927 = 0) _ _ _
set_option maxRecDepth 50000 in
theorem q927_52 (C : am_Ct) (x1 : Int32) (μ : am_Mem) : am_ev C 927 52 [.ref 0, .int x1] [] μ = (am_ret (some (.int (μ 1 4))) μ) := am_blk (b := [(.aload_n 0, 1), (.getfield 10, 3), (.getfield 79, 3), (.ireturn, 1)]) rfl rfl (rfl : am_z 927 = 0) _ _ _
set_option maxRecDepth 50000 in
theorem q927_60 (C : am_Ct) (x1 : Int32) (μ : am_Mem) : am_ev C 927 60 [.ref 0, .int x1] [] μ = (am_ret (some (.int (μ 1 7))) μ) := am_blk (b := [(.aload_n 0, 1), (.getfield 10, 3), (.getfield 103, 3), (.ireturn, 1)]) rfl rfl (rfl : am_z 927 = 0) _ _ _
set_option maxRecDepth 50000 in
theorem q927_68 (C : am_Ct) (x1 : Int32) (μ : am_Mem) : am_ev C 927 68 [.ref 0, .int x1] [] μ = (am_ret (some (.int (μ 1 1))) μ) := am_blk (b := [(.aload_n 0, 1), (.getfield 10, 3), (.getfield 279, 3), (.ireturn, 1)]) rfl rfl (rfl : am_z 927 = 0) _ _ _
set_option maxRecDepth 50000 in
theorem q927_76 (C : am_Ct) (x1 : Int32) (μ : am_Mem) : am_ev C 927 76 [.ref 0, .int x1] [] μ = (am_ret (some (.int (μ 1 2))) μ) := am_blk (b := [(.aload_n 0, 1), (.getfield 10, 3), (.getfield 282, 3), (.ireturn, 1)]) rfl rfl (rfl : am_z 927 = 0) _ _ _
set_option maxRecDepth 50000 in
theorem q927_84 (C : am_Ct) (x1 : Int32) (μ : am_Mem) : am_ev C 927 84 [.ref 0, .int x1] [] μ = (am_ret (some (.int (μ 1 3))) μ) := am_blk (b := [(.aload_n 0, 1), (.getfield 10, 3), (.getfield 149, 3), (.ireturn, 1)]) rfl rfl (rfl : am_z 927 = 0) _ _ _
set_option maxRecDepth 50000 in
theorem q927_92 (C : am_Ct) (x1 : Int32) (μ : am_Mem) : am_ev C 927 92 [.ref 0, .int x1] [] μ = (am_ret (some (.int (μ 1 11))) μ) := am_blk (b := [(.aload_n 0, 1), (.getfield 10, 3), (.getfield 265, 3), (.ireturn, 1)]) rfl rfl (rfl : am_z 927 = 0) _ _ _
set_option maxRecDepth 50000 in
theorem q927_100 (C : am_Ct) (x1 : Int32) (μ : am_Mem) : am_ev C 927 100 [.ref 0, .int x1] [] μ = (am_ret (some (.int (μ 1 0))) μ) := am_blk (b := [(.aload_n 0, 1), (.getfield 10, 3), (.getfield 73, 3), (.ireturn, 1)]) rfl rfl (rfl : am_z 927 = 0) _ _ _
set_option maxRecDepth 50000 in
theorem q927_108 (C : am_Ct) (x1 : Int32) (μ : am_Mem) : am_ev C 927 108 [.ref 0, .int x1] [] μ = (am_ret (some (.int (μ 7 0))) μ) := am_blk (b := [(.aload_n 0, 1), (.getfield 10, 3), (.getfield 129, 3), (.getfield 140, 3), (.ireturn, 1)]) rfl rfl (rfl : am_z 927 = 0) _ _ _
set_option maxRecDepth 50000 in
theorem q927_119 (C : am_Ct) (x1 : Int32) (μ : am_Mem) : am_ev C 927 119 [.ref 0, .int x1] [] μ = (am_ret (some (.int (μ 37 4))) μ) := am_blk (b := [(.aload_n 0, 1), (.getfield 41, 3), (.getfield 271, 3), (.ireturn, 1)]) rfl rfl (rfl : am_z 927 = 0) _ _ _
set_option maxRecDepth 50000 in
theorem q927_127 (C : am_Ct) (x1 : Int32) (μ : am_Mem) : am_ev C 927 127 [.ref 0, .int x1] [] μ = (am_ret (some (.int (am_c (-1)))) μ) := am_blk (b := [(.iconst (-1), 1), (.ireturn, 1)]) rfl rfl (rfl : am_z 927 = 0) _ _ _
theorem e927 (d : Nat) (x1 : Int32) (μ : am_Mem) : am_call (d + 1) 927 [.ref 0, .int x1] μ = am_ev (am_call d) 927 0 [.ref 0, .int x1] [] μ := rfl
/-! NoWordTwice.canBeMarks(I)Z  -/
set_option maxRecDepth 50000 in
theorem q928_0 (C : am_Ct) (x0 : Int32) (μ : am_Mem) : am_ev C 928 0 [.int x0] [] μ = (if x0 < (am_c 1) then am_ev C 928 16 [.int x0] [] μ else if (am_c 1023) < x0 then am_ev C 928 16 [.int x0] [] μ else am_ev C 928 17 [.int x0] [.int (am_c 1)] μ) := am_blk (b := [(.iload_n 0, 1), (.iconst 1, 1), (.if_icmp .lt 14, 3), (.iload_n 0, 1), (.sipush 1023, 3), (.if_icmp .gt 7, 3), (.iconst 1, 1), (.goto 4, 3)]) rfl rfl (rfl : am_z 928 = 2) _ _ _
set_option maxRecDepth 50000 in
theorem q928_16 (C : am_Ct) (x0 : Int32) (μ : am_Mem) : am_ev C 928 16 [.int x0] [] μ = (am_ev C 928 17 [.int x0] [.int (am_c 0)] μ) := am_blk (b := [(.iconst 0, 1)]) rfl rfl (rfl : am_z 928 = 2) _ _ _
set_option maxRecDepth 50000 in
theorem q928_17 (C : am_Ct) (x0 : Int32) (s0 : Int32) (μ : am_Mem) : am_ev C 928 17 [.int x0] [.int s0] μ = (am_gb (Nat.blt (am_ix s0) 2) (am_ret (some (.int s0)) μ)) := am_blk (b := [(.ireturn, 1)]) rfl rfl (rfl : am_z 928 = 2) _ _ _
theorem e928 (d : Nat) (x0 : Int32) (μ : am_Mem) : am_call (d + 1) 928 [.int x0] μ = am_ev (am_call d) 928 0 [.int x0] [] μ := rfl
/-! NoWordTwice.setLimit(I)Z  -/
set_option maxRecDepth 50000 in
theorem q929_0 (C : am_Ct) (x1 : Int32) (μ : am_Mem) : am_ev C 929 0 [.ref 0, .int x1] [] μ = (if x1 < (am_c 1) then am_ev C 929 10 [.ref 0, .int x1] [] μ else if x1 ≤ (am_c 3) then am_ev C 929 12 [.ref 0, .int x1] [] μ else am_ev C 929 10 [.ref 0, .int x1] [] μ) := am_blk (b := [(.iload_n 1, 1), (.iconst 1, 1), (.if_icmp .lt 8, 3), (.iload_n 1, 1), (.iconst 3, 1), (.if_icmp .le 5, 3)]) rfl rfl (rfl : am_z 929 = 2) _ _ _
set_option maxRecDepth 50000 in
theorem q929_10 (C : am_Ct) (x1 : Int32) (μ : am_Mem) : am_ev C 929 10 [.ref 0, .int x1] [] μ = (am_ret (some (.int (am_c 0))) μ) := am_blk (b := [(.iconst 0, 1), (.ireturn, 1)]) rfl rfl (rfl : am_z 929 = 2) _ _ _
set_option maxRecDepth 50000 in
theorem q929_12 (C : am_Ct) (x1 : Int32) (μ : am_Mem) : am_ev C 929 12 [.ref 0, .int x1] [] μ = (am_ret (some (.int (am_c 1))) (am_up μ 1 1 x1)) := am_blk (b := [(.aload_n 0, 1), (.getfield 10, 3), (.iload_n 1, 1), (.putfield 279, 3), (.iconst 1, 1), (.ireturn, 1)]) rfl rfl (rfl : am_z 929 = 2) _ _ _
theorem e929 (d : Nat) (x1 : Int32) (μ : am_Mem) : am_call (d + 1) 929 [.ref 0, .int x1] μ = am_ev (am_call d) 929 0 [.ref 0, .int x1] [] μ := rfl
/-! NoWordTwice.setChange(I)Z  -/
set_option maxRecDepth 50000 in
theorem q930_0 (C : am_Ct) (x1 : Int32) (μ : am_Mem) : am_ev C 930 0 [.ref 0, .int x1] [] μ = (if x1 < 0 then am_ev C 930 11 [.ref 0, .int x1] [] μ else if x1 ≤ (am_c 1000) then am_ev C 930 13 [.ref 0, .int x1] [] μ else am_ev C 930 11 [.ref 0, .int x1] [] μ) := am_blk (b := [(.iload_n 1, 1), (.ifCond .lt 10, 3), (.iload_n 1, 1), (.sipush 1000, 3), (.if_icmp .le 5, 3)]) rfl rfl (rfl : am_z 930 = 2) _ _ _
set_option maxRecDepth 50000 in
theorem q930_11 (C : am_Ct) (x1 : Int32) (μ : am_Mem) : am_ev C 930 11 [.ref 0, .int x1] [] μ = (am_ret (some (.int (am_c 0))) μ) := am_blk (b := [(.iconst 0, 1), (.ireturn, 1)]) rfl rfl (rfl : am_z 930 = 2) _ _ _
set_option maxRecDepth 50000 in
theorem q930_13 (C : am_Ct) (x1 : Int32) (μ : am_Mem) : am_ev C 930 13 [.ref 0, .int x1] [] μ = (am_ret (some (.int (am_c 1))) (am_up μ 1 2 x1)) := am_blk (b := [(.aload_n 0, 1), (.getfield 10, 3), (.iload_n 1, 1), (.putfield 282, 3), (.iconst 1, 1), (.ireturn, 1)]) rfl rfl (rfl : am_z 930 = 2) _ _ _
theorem e930 (d : Nat) (x1 : Int32) (μ : am_Mem) : am_call (d + 1) 930 [.ref 0, .int x1] μ = am_ev (am_call d) 930 0 [.ref 0, .int x1] [] μ := rfl
/-! NoWordTwice.setKnown(II)Z  -/
set_option maxRecDepth 50000 in
theorem q931_0 (C : am_Ct) (x1 : Int32) (x2 : Int32) (μ : am_Mem) : am_ev C 931 0 [.ref 0, .int x1, .int x2] [] μ = (am_bI (C 702 [.ref 1, .int x1] μ) (fun r1 m1 => if r1 = 0 then am_ev C 931 20 [.ref 0, .int x1, .int x2] [] m1 else if x2 < 0 then am_ev C 931 20 [.ref 0, .int x1, .int x2] [] m1 else if x2 ≤ (am_c 1) then am_ev C 931 22 [.ref 0, .int x1, .int x2] [] m1 else am_ev C 931 20 [.ref 0, .int x1, .int x2] [] m1)) := am_blk (b := [(.aload_n 0, 1), (.getfield 10, 3), (.iload_n 1, 1), (.invokevirtual 160, 3), (.ifCond .eq 12, 3), (.iload_n 2, 1), (.ifCond .lt 8, 3), (.iload_n 2, 1), (.iconst 1, 1), (.if_icmp .le 5, 3)]) rfl rfl (rfl : am_z 931 = 2) _ _ _
set_option maxRecDepth 50000 in
theorem q931_20 (C : am_Ct) (x1 : Int32) (x2 : Int32) (μ : am_Mem) : am_ev C 931 20 [.ref 0, .int x1, .int x2] [] μ = (am_ret (some (.int (am_c 0))) μ) := am_blk (b := [(.iconst 0, 1), (.ireturn, 1)]) rfl rfl (rfl : am_z 931 = 2) _ _ _
set_option maxRecDepth 50000 in
theorem q931_22 (C : am_Ct) (x1 : Int32) (x2 : Int32) (μ : am_Mem) : am_ev C 931 22 [.ref 0, .int x1, .int x2] [] μ = (am_ret (some (.int (am_c 1))) (am_up μ 1 6 (((μ 1 6) &&& ((((am_c 1) : Int32) <<< (x1 &&& 31)) ^^^ (am_c (-1)))) ||| (x2 <<< (x1 &&& 31))))) := am_blk (b := [(.aload_n 0, 1), (.getfield 10, 3), (.aload_n 0, 1), (.getfield 10, 3), (.getfield 163, 3), (.iconst 1, 1), (.iload_n 1, 1), (.ishl, 1), (.iconst (-1), 1), (.ixor, 1), (.iand, 1), (.iload_n 2, 1), (.iload_n 1, 1), (.ishl, 1), (.ior, 1), (.putfield 163, 3), (.iconst 1, 1), (.ireturn, 1)]) rfl rfl (rfl : am_z 931 = 2) _ _ _
theorem e931 (d : Nat) (x1 : Int32) (x2 : Int32) (μ : am_Mem) : am_call (d + 1) 931 [.ref 0, .int x1, .int x2] μ = am_ev (am_call d) 931 0 [.ref 0, .int x1, .int x2] [] μ := rfl
/-! NoWordTwice.setMarks(II)Z  -/
set_option maxRecDepth 50000 in
theorem q932_0 (C : am_Ct) (x1 : Int32) (x2 : Int32) (μ : am_Mem) : am_ev C 932 0 [.ref 0, .int x1, .int x2] [] μ = (am_bI (C 702 [.ref 1, .int x1] μ) (fun r1 m1 => if r1 = 0 then am_ev C 932 18 [.ref 0, .int x1, .int x2] [] m1 else am_bI (C 928 [.int x2] m1) (fun r2 m2 => if r2 = 0 then am_ev C 932 18 [.ref 0, .int x1, .int x2] [] m2 else am_ev C 932 20 [.ref 0, .int x1, .int x2] [] m2))) := am_blk (b := [(.aload_n 0, 1), (.getfield 10, 3), (.iload_n 1, 1), (.invokevirtual 160, 3), (.ifCond .eq 10, 3), (.iload_n 2, 1), (.invokestatic 82, 3), (.ifCond .ne 5, 3)]) rfl rfl (rfl : am_z 932 = 2) _ _ _
set_option maxRecDepth 50000 in
theorem q932_18 (C : am_Ct) (x1 : Int32) (x2 : Int32) (μ : am_Mem) : am_ev C 932 18 [.ref 0, .int x1, .int x2] [] μ = (am_ret (some (.int (am_c 0))) μ) := am_blk (b := [(.iconst 0, 1), (.ireturn, 1)]) rfl rfl (rfl : am_z 932 = 2) _ _ _
set_option maxRecDepth 50000 in
theorem q932_20 (C : am_Ct) (x1 : Int32) (x2 : Int32) (μ : am_Mem) : am_ev C 932 20 [.ref 0, .int x1, .int x2] [] μ = (am_gb (Nat.blt (am_ix x1) 16) (am_ret (some (.int (am_c 1))) (am_up μ 2 (am_ix x1) x2))) := am_blk (b := [(.aload_n 0, 1), (.getfield 10, 3), (.getfield 86, 3), (.iload_n 1, 1), (.iload_n 2, 1), (.iastore, 1), (.iconst 1, 1), (.ireturn, 1)]) rfl rfl (rfl : am_z 932 = 2) _ _ _
theorem e932 (d : Nat) (x1 : Int32) (x2 : Int32) (μ : am_Mem) : am_call (d + 1) 932 [.ref 0, .int x1, .int x2] μ = am_ev (am_call d) 932 0 [.ref 0, .int x1, .int x2] [] μ := rfl
/-! NoWordTwice.putBytes(I)V  -/
set_option maxRecDepth 50000 in
theorem q933_0 (C : am_Ct) (x1 : Int32) (x2 : Value) (μ : am_Mem) : am_ev C 933 0 [.ref 0, .int x1, x2] [] μ = (am_ev C 933 3 [.ref 0, .int x1, .int (am_c 24)] [] μ) := am_blk (b := [(.bipush 24, 2), (.istore_n 2, 1)]) rfl rfl (rfl : am_z 933 = 0) _ _ _
set_option maxRecDepth 50000 in
theorem q933_3 (C : am_Ct) (x1 : Int32) (x2 : Int32) (μ : am_Mem) : am_ev C 933 3 [.ref 0, .int x1, .int x2] [] μ = (if x2 < 0 then am_ev C 933 48 [.ref 0, .int x1, .int x2] [] μ else if 400 ≤ (μ 0 4) then am_ev C 933 48 [.ref 0, .int x1, .int x2] [] μ else am_gb (Nat.blt (am_ix (μ 0 4)) 400) (am_ev C 933 3 [.ref 0, .int x1, .int (x2 + (am_c (-8)))] [] (am_up (am_up μ 25 (am_ix (μ 0 4)) (am_nar 1 ((Int32.toInt8 (x1 >>> (x2 &&& 31))).toInt32))) 0 4 (((am_up μ 25 (am_ix (μ 0 4)) (am_nar 1 ((Int32.toInt8 (x1 >>> (x2 &&& 31))).toInt32))) 0 4) + (am_c 1))))) := am_blk (b := [(.iload_n 2, 1), (.ifCond .lt 44, 3), (.aload_n 0, 1), (.getfield 27, 3), (.aload_n 0, 1), (.getfield 23, 3), (.arraylength, 1), (.if_icmp .ge 32, 3), (.aload_n 0, 1), (.getfield 23, 3), (.aload_n 0, 1), (.getfield 27, 3), (.iload_n 1, 1), (.iload_n 2, 1), (.ishr, 1), (.i2b, 1), (.bastore, 1), (.aload_n 0, 1), (.dup, 1), (.getfield 27, 3), (.iconst 1, 1), (.iadd, 1), (.putfield 27, 3), (.iinc 2 (-8), 3), (.goto (-42), 3)]) rfl rfl (rfl : am_z 933 = 0) _ _ _
set_option maxRecDepth 50000 in
theorem q933_48 (C : am_Ct) (x1 : Int32) (x2 : Int32) (μ : am_Mem) : am_ev C 933 48 [.ref 0, .int x1, .int x2] [] μ = (am_ret none μ) := am_blk (b := [(.return_, 1)]) rfl rfl (rfl : am_z 933 = 0) _ _ _
theorem e933 (d : Nat) (x1 : Int32) (μ : am_Mem) : am_call (d + 1) 933 [.ref 0, .int x1] μ = am_ev (am_call d) 933 0 [.ref 0, .int x1, .null] [] μ := rfl
end
section
/-! NoWordTwiceModel.isIn(III)Z  -/
set_option maxRecDepth 50000 in
theorem q1001_0 (C : am_Ct) (x0 : Int32) (x1 : Int32) (x2 : Int32) (μ : am_Mem) : am_ev C 1001 0 [.int x0, .int x1, .int x2] [] μ = (if x0 < x1 then am_ev C 1001 14 [.int x0, .int x1, .int x2] [] μ else if x2 < x0 then am_ev C 1001 14 [.int x0, .int x1, .int x2] [] μ else am_ev C 1001 15 [.int x0, .int x1, .int x2] [.int (am_c 1)] μ) := am_blk (b := [(.iload_n 0, 1), (.iload_n 1, 1), (.if_icmp .lt 12, 3), (.iload_n 0, 1), (.iload_n 2, 1), (.if_icmp .gt 7, 3), (.iconst 1, 1), (.goto 4, 3)]) rfl rfl (rfl : am_z 1001 = 2) _ _ _
set_option maxRecDepth 50000 in
theorem q1001_14 (C : am_Ct) (x0 : Int32) (x1 : Int32) (x2 : Int32) (μ : am_Mem) : am_ev C 1001 14 [.int x0, .int x1, .int x2] [] μ = (am_ev C 1001 15 [.int x0, .int x1, .int x2] [.int (am_c 0)] μ) := am_blk (b := [(.iconst 0, 1)]) rfl rfl (rfl : am_z 1001 = 2) _ _ _
set_option maxRecDepth 50000 in
theorem q1001_15 (C : am_Ct) (x0 : Int32) (x1 : Int32) (x2 : Int32) (s0 : Int32) (μ : am_Mem) : am_ev C 1001 15 [.int x0, .int x1, .int x2] [.int s0] μ = (am_gb (Nat.blt (am_ix s0) 2) (am_ret (some (.int s0)) μ)) := am_blk (b := [(.ireturn, 1)]) rfl rfl (rfl : am_z 1001 = 2) _ _ _
theorem e1001 (d : Nat) (x0 : Int32) (x1 : Int32) (x2 : Int32) (μ : am_Mem) : am_call (d + 1) 1001 [.int x0, .int x1, .int x2] μ = am_ev (am_call d) 1001 0 [.int x0, .int x1, .int x2] [] μ := rfl
/-! NoWordTwiceModel.isWord(I)Z  -/
set_option maxRecDepth 50000 in
theorem q1002_0 (C : am_Ct) (x1 : Int32) (μ : am_Mem) : am_ev C 1002 0 [.ref 56, .int x1] [] μ = (am_bI (C 1001 [.int x1, .int (am_c 0), .int ((μ 57 0) - (am_c 1))] μ) (fun r1 m1 => am_gb (Nat.blt (am_ix r1) 2) (am_ret (some (.int r1)) m1))) := am_blk (b := [(.iload_n 1, 1), (.iconst 0, 1), (.aload_n 0, 1), (.getfield 7, 3), (.iconst 0, 1), (.iaload, 1), (.iconst 1, 1), (.isub, 1), (.invokestatic 64, 3), (.ireturn, 1)]) rfl rfl (rfl : am_z 1002 = 2) _ _ _
theorem e1002 (d : Nat) (x1 : Int32) (μ : am_Mem) : am_call (d + 1) 1002 [.ref 56, .int x1] μ = am_ev (am_call d) 1002 0 [.ref 56, .int x1] [] μ := rfl
/-! NoWordTwiceModel.isEntry(I)Z  -/
set_option maxRecDepth 50000 in
theorem q1003_0 (C : am_Ct) (x1 : Int32) (μ : am_Mem) : am_ev C 1003 0 [.ref 56, .int x1] [] μ = (am_bI (C 1001 [.int x1, .int (am_c 0), .int ((μ 57 1) - (am_c 1))] μ) (fun r1 m1 => am_gb (Nat.blt (am_ix r1) 2) (am_ret (some (.int r1)) m1))) := am_blk (b := [(.iload_n 1, 1), (.iconst 0, 1), (.aload_n 0, 1), (.getfield 7, 3), (.iconst 1, 1), (.iaload, 1), (.iconst 1, 1), (.isub, 1), (.invokestatic 64, 3), (.ireturn, 1)]) rfl rfl (rfl : am_z 1003 = 2) _ _ _
theorem e1003 (d : Nat) (x1 : Int32) (μ : am_Mem) : am_call (d + 1) 1003 [.ref 56, .int x1] μ = am_ev (am_call d) 1003 0 [.ref 56, .int x1] [] μ := rfl
/-! NoWordTwiceModel.isSet(I)Z  -/
set_option maxRecDepth 50000 in
theorem q1004_0 (C : am_Ct) (x1 : Int32) (μ : am_Mem) : am_ev C 1004 0 [.ref 56, .int x1] [] μ = (am_bI (C 1001 [.int x1, .int (am_c 0), .int ((((am_c 1) : Int32) <<< ((μ 57 0) &&& 31)) - (am_c 1))] μ) (fun r1 m1 => am_gb (Nat.blt (am_ix r1) 2) (am_ret (some (.int r1)) m1))) := am_blk (b := [(.iload_n 1, 1), (.iconst 0, 1), (.iconst 1, 1), (.aload_n 0, 1), (.getfield 7, 3), (.iconst 0, 1), (.iaload, 1), (.ishl, 1), (.iconst 1, 1), (.isub, 1), (.invokestatic 64, 3), (.ireturn, 1)]) rfl rfl (rfl : am_z 1004 = 2) _ _ _
theorem e1004 (d : Nat) (x1 : Int32) (μ : am_Mem) : am_call (d + 1) 1004 [.ref 56, .int x1] μ = am_ev (am_call d) 1004 0 [.ref 56, .int x1] [] μ := rfl
/-! NoWordTwiceModel.own(II)I  -/
set_option maxRecDepth 50000 in
theorem q1005_0 (C : am_Ct) (x1 : Int32) (x2 : Int32) (μ : am_Mem) : am_ev C 1005 0 [.ref 56, .int x1, .int x2] [] μ = (am_gb (Nat.blt (am_ix (((am_c 45) + ((am_c 5) * x1)) + x2)) 1320) (am_ret (some (.int (μ 57 (am_ix (((am_c 45) + ((am_c 5) * x1)) + x2))))) μ)) := am_blk (b := [(.aload_n 0, 1), (.getfield 7, 3), (.bipush 45, 2), (.iconst 5, 1), (.iload_n 1, 1), (.imul, 1), (.iadd, 1), (.iload_n 2, 1), (.iadd, 1), (.iaload, 1), (.ireturn, 1)]) rfl rfl (rfl : am_z 1005 = 0) _ _ _
theorem e1005 (d : Nat) (x1 : Int32) (x2 : Int32) (μ : am_Mem) : am_call (d + 1) 1005 [.ref 56, .int x1, .int x2] μ = am_ev (am_call d) 1005 0 [.ref 56, .int x1, .int x2] [] μ := rfl
/-! NoWordTwiceModel.gives(III)V  -/
set_option maxRecDepth 50000 in
theorem q1006_0 (C : am_Ct) (x1 : Int32) (x2 : Int32) (x3 : Int32) (μ : am_Mem) : am_ev C 1006 0 [.ref 56, .int x1, .int x2, .int x3] [] μ = (am_gb (Nat.blt (am_ix (((am_c 45) + ((am_c 5) * x1)) + x2)) 1320) (am_ret none (am_up μ 57 (am_ix (((am_c 45) + ((am_c 5) * x1)) + x2)) x3))) := am_blk (b := [(.aload_n 0, 1), (.getfield 7, 3), (.bipush 45, 2), (.iconst 5, 1), (.iload_n 1, 1), (.imul, 1), (.iadd, 1), (.iload_n 2, 1), (.iadd, 1), (.iload_n 3, 1), (.iastore, 1), (.return_, 1)]) rfl rfl (rfl : am_z 1006 = 0) _ _ _
theorem e1006 (d : Nat) (x1 : Int32) (x2 : Int32) (x3 : Int32) (μ : am_Mem) : am_call (d + 1) 1006 [.ref 56, .int x1, .int x2, .int x3] μ = am_ev (am_call d) 1006 0 [.ref 56, .int x1, .int x2, .int x3] [] μ := rfl
/-! NoWordTwiceModel.count(I)I  -/
set_option maxRecDepth 50000 in
theorem q1007_0 (C : am_Ct) (x0 : Int32) (x1 : Value) (x2 : Value) (μ : am_Mem) : am_ev C 1007 0 [.int x0, x1, x2] [] μ = (am_ev C 1007 4 [.int x0, .int (am_c 0), .int (am_c 0)] [] μ) := am_blk (b := [(.iconst 0, 1), (.istore_n 1, 1), (.iconst 0, 1), (.istore_n 2, 1)]) rfl rfl (rfl : am_z 1007 = 0) _ _ _
set_option maxRecDepth 50000 in
theorem q1007_4 (C : am_Ct) (x0 : Int32) (x1 : Int32) (x2 : Int32) (μ : am_Mem) : am_ev C 1007 4 [.int x0, .int x1, .int x2] [] μ = (if (am_c 16) ≤ x2 then am_ev C 1007 24 [.int x0, .int x1, .int x2] [] μ else am_ev C 1007 4 [.int x0, .int (x1 + ((x0 >>> (x2 &&& 31)) &&& (am_c 1))), .int (x2 + (am_c 1))] [] μ) := am_blk (b := [(.iload_n 2, 1), (.bipush 16, 2), (.if_icmp .ge 17, 3), (.iload_n 1, 1), (.iload_n 0, 1), (.iload_n 2, 1), (.ishr, 1), (.iconst 1, 1), (.iand, 1), (.iadd, 1), (.istore_n 1, 1), (.iinc 2 1, 3), (.goto (-17), 3)]) rfl rfl (rfl : am_z 1007 = 0) _ _ _
set_option maxRecDepth 50000 in
theorem q1007_24 (C : am_Ct) (x0 : Int32) (x1 : Int32) (x2 : Int32) (μ : am_Mem) : am_ev C 1007 24 [.int x0, .int x1, .int x2] [] μ = (am_ret (some (.int x1)) μ) := am_blk (b := [(.iload_n 1, 1), (.ireturn, 1)]) rfl rfl (rfl : am_z 1007 = 0) _ _ _
theorem e1007 (d : Nat) (x0 : Int32) (μ : am_Mem) : am_call (d + 1) 1007 [.int x0] μ = am_ev (am_call d) 1007 0 [.int x0, .null, .null] [] μ := rfl
/-! NoWordTwiceModel.forgets()V  -/
set_option maxRecDepth 50000 in
theorem q1008_0 (C : am_Ct) (μ : am_Mem) : am_ev C 1008 0 [.ref 56] [] μ = (am_ret none (am_up μ 56 3 (am_c 0))) := am_blk (b := [(.aload_n 0, 1), (.iconst 0, 1), (.putfield 68, 3), (.return_, 1)]) rfl rfl (rfl : am_z 1008 = 0) _ _ _
theorem e1008 (d : Nat) (μ : am_Mem) : am_call (d + 1) 1008 [.ref 56] μ = am_ev (am_call d) 1008 0 [.ref 56] [] μ := rfl
/-! NoWordTwiceModel.state(I)I  -/
set_option maxRecDepth 50000 in
theorem q1009_0 (C : am_Ct) (x1 : Int32) (x2 : Value) (μ : am_Mem) : am_ev C 1009 0 [.ref 56, .int x1, x2] [] μ = (am_bV (C 1008 [.ref 56] (am_up μ 57 6 x1)) (fun m1 => am_ret (some (.int (μ 57 6))) m1)) := am_blk (b := [(.aload_n 0, 1), (.getfield 7, 3), (.bipush 6, 2), (.iaload, 1), (.istore_n 2, 1), (.aload_n 0, 1), (.getfield 7, 3), (.bipush 6, 2), (.iload_n 1, 1), (.iastore, 1), (.aload_n 0, 1), (.invokevirtual 71, 3), (.iload_n 2, 1), (.ireturn, 1)]) rfl rfl (rfl : am_z 1009 = 0) _ _ _
theorem e1009 (d : Nat) (x1 : Int32) (μ : am_Mem) : am_call (d + 1) 1009 [.ref 56, .int x1] μ = am_ev (am_call d) 1009 0 [.ref 56, .int x1, .null] [] μ := rfl
/-! NoWordTwiceModel.draw(I)I  -/
set_option maxRecDepth 50000 in
theorem q1010_0 (C : am_Ct) (x1 : Int32) (μ : am_Mem) : am_ev C 1010 0 [.ref 56, .int x1] [] μ = (am_gb (!(Nat.beq (am_ix x1) 0)) (am_ret (some (.int ((((Int32.toUInt32 ((am_up μ 57 6 ((1664525 * (μ 57 6)) + 1013904223)) 57 6)) >>> ((Int32.toUInt32 (am_c 8)) &&& Int32.toUInt32 31)).toInt32) - (((Int32.toUInt32 ((am_up μ 57 6 ((1664525 * (μ 57 6)) + 1013904223)) 57 6)) >>> ((Int32.toUInt32 (am_c 8)) &&& Int32.toUInt32 31)).toInt32) / x1 * x1))) (am_up μ 57 6 ((1664525 * (μ 57 6)) + 1013904223)))) := am_blk (b := [(.aload_n 0, 1), (.getfield 7, 3), (.bipush 6, 2), (.ldc 74, 2), (.aload_n 0, 1), (.getfield 7, 3), (.bipush 6, 2), (.iaload, 1), (.imul, 1), (.ldc 75, 2), (.iadd, 1), (.iastore, 1), (.aload_n 0, 1), (.getfield 7, 3), (.bipush 6, 2), (.iaload, 1), (.bipush 8, 2), (.iushr, 1), (.iload_n 1, 1), (.irem, 1), (.ireturn, 1)]) rfl rfl (rfl : am_z 1010 = 0) _ _ _
theorem e1010 (d : Nat) (x1 : Int32) (μ : am_Mem) : am_call (d + 1) 1010 [.ref 56, .int x1] μ = am_ev (am_call d) 1010 0 [.ref 56, .int x1] [] μ := rfl
/-! NoWordTwiceModel.word(I)I  -/
set_option maxRecDepth 50000 in
theorem q1011_0 (C : am_Ct) (x1 : Int32) (μ : am_Mem) : am_ev C 1011 0 [.ref 56, .int x1] [] μ = (am_bI (C 1001 [.int x1, .int (am_c 1), .int (am_c 1023)] μ) (fun r1 m1 => if r1 = 0 then am_ev C 1011 22 [.ref 56, .int x1] [] m1 else if (m1 57 0) = (am_c 16) then am_ev C 1011 22 [.ref 56, .int x1] [] m1 else am_ev C 1011 24 [.ref 56, .int x1] [] m1)) := am_blk (b := [(.iload_n 1, 1), (.iconst 1, 1), (.sipush 1023, 3), (.invokestatic 64, 3), (.ifCond .eq 14, 3), (.aload_n 0, 1), (.getfield 7, 3), (.iconst 0, 1), (.iaload, 1), (.bipush 16, 2), (.if_icmp .ne 5, 3)]) rfl rfl (rfl : am_z 1011 = 0) _ _ _
set_option maxRecDepth 50000 in
theorem q1011_22 (C : am_Ct) (x1 : Int32) (μ : am_Mem) : am_ev C 1011 22 [.ref 56, .int x1] [] μ = (am_ret (some (.int (am_c (-1)))) μ) := am_blk (b := [(.iconst (-1), 1), (.ireturn, 1)]) rfl rfl (rfl : am_z 1011 = 0) _ _ _
set_option maxRecDepth 50000 in
theorem q1011_24 (C : am_Ct) (x1 : Int32) (μ : am_Mem) : am_ev C 1011 24 [.ref 56, .int x1] [] μ = (am_gb (Nat.blt (am_ix ((am_c 10) + (μ 57 0))) 1320) (am_gb (Nat.blt (am_ix ((am_c 26) + ((am_up μ 57 (am_ix ((am_c 10) + (μ 57 0))) x1) 57 0))) 1320) (am_bV (C 1008 [.ref 56] (am_up (am_up (am_up μ 57 (am_ix ((am_c 10) + (μ 57 0))) x1) 57 (am_ix ((am_c 26) + ((am_up μ 57 (am_ix ((am_c 10) + (μ 57 0))) x1) 57 0))) (am_c 0)) 57 0 (((am_up (am_up μ 57 (am_ix ((am_c 10) + (μ 57 0))) x1) 57 (am_ix ((am_c 26) + ((am_up μ 57 (am_ix ((am_c 10) + (μ 57 0))) x1) 57 0))) (am_c 0)) 57 0) + (am_c 1)))) (fun m1 => am_ret (some (.int ((m1 57 0) - (am_c 1)))) m1)))) := am_blk (b := [(.aload_n 0, 1), (.getfield 7, 3), (.bipush 10, 2), (.aload_n 0, 1), (.getfield 7, 3), (.iconst 0, 1), (.iaload, 1), (.iadd, 1), (.iload_n 1, 1), (.iastore, 1), (.aload_n 0, 1), (.getfield 7, 3), (.bipush 26, 2), (.aload_n 0, 1), (.getfield 7, 3), (.iconst 0, 1), (.iaload, 1), (.iadd, 1), (.iconst 0, 1), (.iastore, 1), (.aload_n 0, 1), (.getfield 7, 3), (.iconst 0, 1), (.dup2, 1), (.iaload, 1), (.iconst 1, 1), (.iadd, 1), (.iastore, 1), (.aload_n 0, 1), (.invokevirtual 71, 3), (.aload_n 0, 1), (.getfield 7, 3), (.iconst 0, 1), (.iaload, 1), (.iconst 1, 1), (.isub, 1), (.ireturn, 1)]) rfl rfl (rfl : am_z 1011 = 0) _ _ _
theorem e1011 (d : Nat) (x1 : Int32) (μ : am_Mem) : am_call (d + 1) 1011 [.ref 56, .int x1] μ = am_ev (am_call d) 1011 0 [.ref 56, .int x1] [] μ := rfl
/-! NoWordTwiceModel.set(III)Z  -/
set_option maxRecDepth 50000 in
theorem q1012_0 (C : am_Ct) (x1 : Int32) (x2 : Int32) (x3 : Int32) (μ : am_Mem) : am_ev C 1012 0 [.ref 56, .int x1, .int x2, .int x3] [] μ = (if x1 = 0 then am_bI (C 1001 [.int x3, .int (am_c 1), .int (am_c 3)] μ) (fun r1 m1 => if r1 = 0 then am_ev C 1012 23 [.ref 56, .int x1, .int x2, .int x3] [] m1 else am_ev C 1012 123 [.ref 56, .int x1, .int x2, .int x3] [] (am_up m1 57 2 x3)) else am_ev C 1012 23 [.ref 56, .int x1, .int x2, .int x3] [] μ) := am_blk (b := [(.iload_n 1, 1), (.ifCond .ne 22, 3), (.iload_n 3, 1), (.iconst 1, 1), (.iconst 3, 1), (.invokestatic 64, 3), (.ifCond .eq 13, 3), (.aload_n 0, 1), (.getfield 7, 3), (.iconst 2, 1), (.iload_n 3, 1), (.iastore, 1), (.goto 103, 3)]) rfl rfl (rfl : am_z 1012 = 2) _ _ _
set_option maxRecDepth 50000 in
theorem q1012_23 (C : am_Ct) (x1 : Int32) (x2 : Int32) (x3 : Int32) (μ : am_Mem) : am_ev C 1012 23 [.ref 56, .int x1, .int x2, .int x3] [] μ = (if x1 = (am_c 1) then am_bI (C 1001 [.int x3, .int (am_c 0), .int (am_c 1000)] μ) (fun r1 m1 => if r1 = 0 then am_ev C 1012 49 [.ref 56, .int x1, .int x2, .int x3] [] m1 else am_ev C 1012 123 [.ref 56, .int x1, .int x2, .int x3] [] (am_up m1 57 3 x3)) else am_ev C 1012 49 [.ref 56, .int x1, .int x2, .int x3] [] μ) := am_blk (b := [(.iload_n 1, 1), (.iconst 1, 1), (.if_icmp .ne 24, 3), (.iload_n 3, 1), (.iconst 0, 1), (.sipush 1000, 3), (.invokestatic 64, 3), (.ifCond .eq 13, 3), (.aload_n 0, 1), (.getfield 7, 3), (.iconst 3, 1), (.iload_n 3, 1), (.iastore, 1), (.goto 77, 3)]) rfl rfl (rfl : am_z 1012 = 2) _ _ _
set_option maxRecDepth 50000 in
theorem q1012_49 (C : am_Ct) (x1 : Int32) (x2 : Int32) (x3 : Int32) (μ : am_Mem) : am_ev C 1012 49 [.ref 56, .int x1, .int x2, .int x3] [] μ = (if x1 = (am_c 2) then am_bI (C 1002 [.ref 56, .int x2] μ) (fun r1 m1 => if r1 = 0 then am_ev C 1012 84 [.ref 56, .int x1, .int x2, .int x3] [] m1 else am_bI (C 1001 [.int x3, .int (am_c 0), .int (am_c 1)] m1) (fun r2 m2 => if r2 = 0 then am_ev C 1012 84 [.ref 56, .int x1, .int x2, .int x3] [] m2 else am_gb (Nat.blt (am_ix ((am_c 26) + x2)) 1320) (am_ev C 1012 123 [.ref 56, .int x1, .int x2, .int x3] [] (am_up m2 57 (am_ix ((am_c 26) + x2)) x3)))) else am_ev C 1012 84 [.ref 56, .int x1, .int x2, .int x3] [] μ) := am_blk (b := [(.iload_n 1, 1), (.iconst 2, 1), (.if_icmp .ne 33, 3), (.aload_n 0, 1), (.iload_n 2, 1), (.invokevirtual 76, 3), (.ifCond .eq 25, 3), (.iload_n 3, 1), (.iconst 0, 1), (.iconst 1, 1), (.invokestatic 64, 3), (.ifCond .eq 16, 3), (.aload_n 0, 1), (.getfield 7, 3), (.bipush 26, 2), (.iload_n 2, 1), (.iadd, 1), (.iload_n 3, 1), (.iastore, 1), (.goto 42, 3)]) rfl rfl (rfl : am_z 1012 = 2) _ _ _
set_option maxRecDepth 50000 in
theorem q1012_84 (C : am_Ct) (x1 : Int32) (x2 : Int32) (x3 : Int32) (μ : am_Mem) : am_ev C 1012 84 [.ref 56, .int x1, .int x2, .int x3] [] μ = (if x1 = (am_c 3) then am_bI (C 1002 [.ref 56, .int x2] μ) (fun r1 m1 => if r1 = 0 then am_ev C 1012 121 [.ref 56, .int x1, .int x2, .int x3] [] m1 else am_bI (C 1001 [.int x3, .int (am_c 1), .int (am_c 1023)] m1) (fun r2 m2 => if r2 = 0 then am_ev C 1012 121 [.ref 56, .int x1, .int x2, .int x3] [] m2 else am_gb (Nat.blt (am_ix ((am_c 10) + x2)) 1320) (am_ev C 1012 123 [.ref 56, .int x1, .int x2, .int x3] [] (am_up m2 57 (am_ix ((am_c 10) + x2)) x3)))) else am_ev C 1012 121 [.ref 56, .int x1, .int x2, .int x3] [] μ) := am_blk (b := [(.iload_n 1, 1), (.iconst 3, 1), (.if_icmp .ne 35, 3), (.aload_n 0, 1), (.iload_n 2, 1), (.invokevirtual 76, 3), (.ifCond .eq 27, 3), (.iload_n 3, 1), (.iconst 1, 1), (.sipush 1023, 3), (.invokestatic 64, 3), (.ifCond .eq 16, 3), (.aload_n 0, 1), (.getfield 7, 3), (.bipush 10, 2), (.iload_n 2, 1), (.iadd, 1), (.iload_n 3, 1), (.iastore, 1), (.goto 5, 3)]) rfl rfl (rfl : am_z 1012 = 2) _ _ _
set_option maxRecDepth 50000 in
theorem q1012_121 (C : am_Ct) (x1 : Int32) (x2 : Int32) (x3 : Int32) (μ : am_Mem) : am_ev C 1012 121 [.ref 56, .int x1, .int x2, .int x3] [] μ = (am_ret (some (.int (am_c 0))) μ) := am_blk (b := [(.iconst 0, 1), (.ireturn, 1)]) rfl rfl (rfl : am_z 1012 = 2) _ _ _
set_option maxRecDepth 50000 in
theorem q1012_123 (C : am_Ct) (x1 : Int32) (x2 : Int32) (x3 : Int32) (μ : am_Mem) : am_ev C 1012 123 [.ref 56, .int x1, .int x2, .int x3] [] μ = (am_bV (C 1008 [.ref 56] μ) (fun m1 => am_ret (some (.int (am_c 1))) m1)) := am_blk (b := [(.aload_n 0, 1), (.invokevirtual 71, 3), (.iconst 1, 1), (.ireturn, 1)]) rfl rfl (rfl : am_z 1012 = 2) _ _ _
theorem e1012 (d : Nat) (x1 : Int32) (x2 : Int32) (x3 : Int32) (μ : am_Mem) : am_call (d + 1) 1012 [.ref 56, .int x1, .int x2, .int x3] μ = am_ev (am_call d) 1012 0 [.ref 56, .int x1, .int x2, .int x3] [] μ := rfl
/-! NoWordTwiceModel.isOther(IIII)Z  -/
set_option maxRecDepth 50000 in
theorem q1013_0 (C : am_Ct) (x1 : Int32) (x2 : Int32) (x3 : Int32) (x4 : Int32) (μ : am_Mem) : am_ev C 1013 0 [.ref 56, .int x1, .int x2, .int x3, .int x4] [] μ = (am_bI (C 1002 [.ref 56, .int x1] μ) (fun r1 m1 => if r1 = 0 then am_ev C 1013 28 [.ref 56, .int x1, .int x2, .int x3, .int x4] [] m1 else if x1 = x2 then am_ev C 1013 28 [.ref 56, .int x1, .int x2, .int x3, .int x4] [] m1 else if x1 = x3 then am_ev C 1013 28 [.ref 56, .int x1, .int x2, .int x3, .int x4] [] m1 else if x1 = x4 then am_ev C 1013 28 [.ref 56, .int x1, .int x2, .int x3, .int x4] [] m1 else am_ev C 1013 29 [.ref 56, .int x1, .int x2, .int x3, .int x4] [.int (am_c 1)] m1)) := am_blk (b := [(.aload_n 0, 1), (.iload_n 1, 1), (.invokevirtual 76, 3), (.ifCond .eq 23, 3), (.iload_n 1, 1), (.iload_n 2, 1), (.if_icmp .eq 18, 3), (.iload_n 1, 1), (.iload_n 3, 1), (.if_icmp .eq 13, 3), (.iload_n 1, 1), (.iload 4, 2), (.if_icmp .eq 7, 3), (.iconst 1, 1), (.goto 4, 3)]) rfl rfl (rfl : am_z 1013 = 2) _ _ _
set_option maxRecDepth 50000 in
theorem q1013_28 (C : am_Ct) (x1 : Int32) (x2 : Int32) (x3 : Int32) (x4 : Int32) (μ : am_Mem) : am_ev C 1013 28 [.ref 56, .int x1, .int x2, .int x3, .int x4] [] μ = (am_ev C 1013 29 [.ref 56, .int x1, .int x2, .int x3, .int x4] [.int (am_c 0)] μ) := am_blk (b := [(.iconst 0, 1)]) rfl rfl (rfl : am_z 1013 = 2) _ _ _
set_option maxRecDepth 50000 in
theorem q1013_29 (C : am_Ct) (x1 : Int32) (x2 : Int32) (x3 : Int32) (x4 : Int32) (s0 : Int32) (μ : am_Mem) : am_ev C 1013 29 [.ref 56, .int x1, .int x2, .int x3, .int x4] [.int s0] μ = (am_gb (Nat.blt (am_ix s0) 2) (am_ret (some (.int s0)) μ)) := am_blk (b := [(.ireturn, 1)]) rfl rfl (rfl : am_z 1013 = 2) _ _ _
theorem e1013 (d : Nat) (x1 : Int32) (x2 : Int32) (x3 : Int32) (x4 : Int32) (μ : am_Mem) : am_call (d + 1) 1013 [.ref 56, .int x1, .int x2, .int x3, .int x4] μ = am_ev (am_call d) 1013 0 [.ref 56, .int x1, .int x2, .int x3, .int x4] [] μ := rfl
/-! NoWordTwiceModel.entry(IIII)I  -/
set_option maxRecDepth 50000 in
theorem q1014_0 (C : am_Ct) (x1 : Int32) (x2 : Int32) (x3 : Int32) (x4 : Int32) (x5 : Value) (μ : am_Mem) : am_ev C 1014 0 [.ref 56, .int x1, .int x2, .int x3, .int x4, x5] [] μ = (am_bI (C 1002 [.ref 56, .int x1] μ) (fun r1 m1 => if r1 = 0 then am_ev C 1014 69 [.ref 56, .int x1, .int x2, .int x3, .int x4, x5] [] m1 else am_bI (C 1013 [.ref 56, .int x2, .int x1, .int (am_c (-1)), .int (am_c (-1))] m1) (fun r2 m2 => if r2 = 0 then am_ev C 1014 69 [.ref 56, .int x1, .int x2, .int x3, .int x4, x5] [] m2 else if x3 = (am_c (-1)) then am_ev C 1014 35 [.ref 56, .int x1, .int x2, .int x3, .int x4, x5] [] m2 else am_bI (C 1013 [.ref 56, .int x3, .int x1, .int x2, .int (am_c (-1))] m2) (fun r3 m3 => if r3 = 0 then am_ev C 1014 69 [.ref 56, .int x1, .int x2, .int x3, .int x4, x5] [] m3 else am_ev C 1014 35 [.ref 56, .int x1, .int x2, .int x3, .int x4, x5] [] m3)))) := am_blk (b := [(.aload_n 0, 1), (.iload_n 1, 1), (.invokevirtual 76, 3), (.ifCond .eq 64, 3), (.aload_n 0, 1), (.iload_n 2, 1), (.iload_n 1, 1), (.iconst (-1), 1), (.iconst (-1), 1), (.invokevirtual 80, 3), (.ifCond .eq 53, 3), (.iload_n 3, 1), (.iconst (-1), 1), (.if_icmp .eq 14, 3), (.aload_n 0, 1), (.iload_n 3, 1), (.iload_n 1, 1), (.iload_n 2, 1), (.iconst (-1), 1), (.invokevirtual 80, 3), (.ifCond .eq 37, 3)]) rfl rfl (rfl : am_z 1014 = 0) _ _ _
set_option maxRecDepth 50000 in
theorem q1014_35 (C : am_Ct) (x1 : Int32) (x2 : Int32) (x3 : Int32) (x4 : Int32) (x5 : Value) (μ : am_Mem) : am_ev C 1014 35 [.ref 56, .int x1, .int x2, .int x3, .int x4, x5] [] μ = (if x4 = (am_c (-1)) then am_ev C 1014 58 [.ref 56, .int x1, .int x2, .int x3, .int x4, x5] [] μ else if x3 = (am_c (-1)) then am_ev C 1014 69 [.ref 56, .int x1, .int x2, .int x3, .int x4, x5] [] μ else am_bI (C 1013 [.ref 56, .int x4, .int x1, .int x2, .int x3] μ) (fun r1 m1 => if r1 = 0 then am_ev C 1014 69 [.ref 56, .int x1, .int x2, .int x3, .int x4, x5] [] m1 else am_ev C 1014 58 [.ref 56, .int x1, .int x2, .int x3, .int x4, x5] [] m1)) := am_blk (b := [(.iload 4, 2), (.iconst (-1), 1), (.if_icmp .eq 20, 3), (.iload_n 3, 1), (.iconst (-1), 1), (.if_icmp .eq 26, 3), (.aload_n 0, 1), (.iload 4, 2), (.iload_n 1, 1), (.iload_n 2, 1), (.iload_n 3, 1), (.invokevirtual 80, 3), (.ifCond .eq 14, 3)]) rfl rfl (rfl : am_z 1014 = 0) _ _ _
set_option maxRecDepth 50000 in
theorem q1014_58 (C : am_Ct) (x1 : Int32) (x2 : Int32) (x3 : Int32) (x4 : Int32) (x5 : Value) (μ : am_Mem) : am_ev C 1014 58 [.ref 56, .int x1, .int x2, .int x3, .int x4, x5] [] μ = (if (μ 57 1) = (am_c 12) then am_ev C 1014 69 [.ref 56, .int x1, .int x2, .int x3, .int x4, x5] [] μ else am_ev C 1014 71 [.ref 56, .int x1, .int x2, .int x3, .int x4, x5] [] μ) := am_blk (b := [(.aload_n 0, 1), (.getfield 7, 3), (.iconst 1, 1), (.iaload, 1), (.bipush 12, 2), (.if_icmp .ne 5, 3)]) rfl rfl (rfl : am_z 1014 = 0) _ _ _
set_option maxRecDepth 50000 in
theorem q1014_69 (C : am_Ct) (x1 : Int32) (x2 : Int32) (x3 : Int32) (x4 : Int32) (x5 : Value) (μ : am_Mem) : am_ev C 1014 69 [.ref 56, .int x1, .int x2, .int x3, .int x4, x5] [] μ = (am_ret (some (.int (am_c (-1)))) μ) := am_blk (b := [(.iconst (-1), 1), (.ireturn, 1)]) rfl rfl (rfl : am_z 1014 = 0) _ _ _
set_option maxRecDepth 50000 in
theorem q1014_71 (C : am_Ct) (x1 : Int32) (x2 : Int32) (x3 : Int32) (x4 : Int32) (x5 : Value) (μ : am_Mem) : am_ev C 1014 71 [.ref 56, .int x1, .int x2, .int x3, .int x4, x5] [] μ = (am_bV (C 1006 [.ref 56, .int (μ 57 1), .int (am_c 0), .int x1] μ) (fun m1 => if x3 = (am_c (-1)) then am_ev C 1014 111 [.ref 56, .int x1, .int x2, .int x3, .int x4, .int (μ 57 1)] [.int (am_c 1), .int (am_c 1), .int (μ 57 1), .ref 56] m1 else am_ev C 1014 100 [.ref 56, .int x1, .int x2, .int x3, .int x4, .int (μ 57 1)] [.int (am_c 1), .int (μ 57 1), .ref 56] m1)) := am_blk (b := [(.aload_n 0, 1), (.getfield 7, 3), (.iconst 1, 1), (.iaload, 1), (.istore 5, 2), (.aload_n 0, 1), (.iload 5, 2), (.iconst 0, 1), (.iload_n 1, 1), (.invokevirtual 84, 3), (.aload_n 0, 1), (.iload 5, 2), (.iconst 1, 1), (.iload_n 3, 1), (.iconst (-1), 1), (.if_icmp .ne 7, 3), (.iconst 1, 1), (.goto 14, 3)]) rfl rfl (rfl : am_z 1014 = 0) _ _ _
set_option maxRecDepth 50000 in
theorem q1014_100 (C : am_Ct) (x1 : Int32) (x2 : Int32) (x3 : Int32) (x4 : Int32) (x5 : Int32) (s0 : Int32) (s1 : Int32) (μ : am_Mem) : am_ev C 1014 100 [.ref 56, .int x1, .int x2, .int x3, .int x4, .int x5] [.int s0, .int s1, .ref 56] μ = (if x4 = (am_c (-1)) then am_ev C 1014 111 [.ref 56, .int x1, .int x2, .int x3, .int x4, .int x5] [.int (am_c 2), .int s0, .int s1, .ref 56] μ else am_ev C 1014 110 [.ref 56, .int x1, .int x2, .int x3, .int x4, .int x5] [.int s0, .int s1, .ref 56] μ) := am_blk (b := [(.iload 4, 2), (.iconst (-1), 1), (.if_icmp .ne 7, 3), (.iconst 2, 1), (.goto 4, 3)]) rfl rfl (rfl : am_z 1014 = 0) _ _ _
set_option maxRecDepth 50000 in
theorem q1014_110 (C : am_Ct) (x1 : Int32) (x2 : Int32) (x3 : Int32) (x4 : Int32) (x5 : Int32) (s0 : Int32) (s1 : Int32) (μ : am_Mem) : am_ev C 1014 110 [.ref 56, .int x1, .int x2, .int x3, .int x4, .int x5] [.int s0, .int s1, .ref 56] μ = (am_ev C 1014 111 [.ref 56, .int x1, .int x2, .int x3, .int x4, .int x5] [.int (am_c 3), .int s0, .int s1, .ref 56] μ) := am_blk (b := [(.iconst 3, 1)]) rfl rfl (rfl : am_z 1014 = 0) _ _ _
set_option maxRecDepth 50000 in
theorem q1014_111 (C : am_Ct) (x1 : Int32) (x2 : Int32) (x3 : Int32) (x4 : Int32) (x5 : Int32) (s0 : Int32) (s1 : Int32) (s2 : Int32) (μ : am_Mem) : am_ev C 1014 111 [.ref 56, .int x1, .int x2, .int x3, .int x4, .int x5] [.int s0, .int s1, .int s2, .ref 56] μ = (am_bV (C 1006 [.ref 56, .int s2, .int s1, .int s0] μ) (fun m1 => am_bV (C 1006 [.ref 56, .int x5, .int (am_c 2), .int x2] m1) (fun m2 => am_bV (C 1006 [.ref 56, .int x5, .int (am_c 3), .int x3] m2) (fun m3 => am_bV (C 1006 [.ref 56, .int x5, .int (am_c 4), .int x4] m3) (fun m4 => am_bV (C 1008 [.ref 56] (am_up m4 57 1 ((m4 57 1) + (am_c 1)))) (fun m5 => am_ret (some (.int x5)) m5)))))) := am_blk (b := [(.invokevirtual 84, 3), (.aload_n 0, 1), (.iload 5, 2), (.iconst 2, 1), (.iload_n 2, 1), (.invokevirtual 84, 3), (.aload_n 0, 1), (.iload 5, 2), (.iconst 3, 1), (.iload_n 3, 1), (.invokevirtual 84, 3), (.aload_n 0, 1), (.iload 5, 2), (.iconst 4, 1), (.iload 4, 2), (.invokevirtual 84, 3), (.aload_n 0, 1), (.getfield 7, 3), (.iconst 1, 1), (.dup2, 1), (.iaload, 1), (.iconst 1, 1), (.iadd, 1), (.iastore, 1), (.aload_n 0, 1), (.invokevirtual 71, 3), (.iload 5, 2), (.ireturn, 1)]) rfl rfl (rfl : am_z 1014 = 0) _ _ _
theorem e1014 (d : Nat) (x1 : Int32) (x2 : Int32) (x3 : Int32) (x4 : Int32) (μ : am_Mem) : am_call (d + 1) 1014 [.ref 56, .int x1, .int x2, .int x3, .int x4] μ = am_ev (am_call d) 1014 0 [.ref 56, .int x1, .int x2, .int x3, .int x4, .null] [] μ := rfl
/-! NoWordTwiceModel.copies(II)V  -/
set_option maxRecDepth 50000 in
theorem q1015_0 (C : am_Ct) (x1 : Int32) (x2 : Int32) (x3 : Value) (μ : am_Mem) : am_ev C 1015 0 [.ref 56, .int x1, .int x2, x3] [] μ = (am_ev C 1015 2 [.ref 56, .int x1, .int x2, .int (am_c 0)] [] μ) := am_blk (b := [(.iconst 0, 1), (.istore_n 3, 1)]) rfl rfl (rfl : am_z 1015 = 0) _ _ _
set_option maxRecDepth 50000 in
theorem q1015_2 (C : am_Ct) (x1 : Int32) (x2 : Int32) (x3 : Int32) (μ : am_Mem) : am_ev C 1015 2 [.ref 56, .int x1, .int x2, .int x3] [] μ = (if (am_c 5) ≤ x3 then am_ev C 1015 25 [.ref 56, .int x1, .int x2, .int x3] [] μ else am_bI (C 1005 [.ref 56, .int x1, .int x3] μ) (fun r1 m1 => am_bV (C 1006 [.ref 56, .int x2, .int x3, .int r1] m1) (fun m2 => am_ev C 1015 2 [.ref 56, .int x1, .int x2, .int (x3 + (am_c 1))] [] m2))) := am_blk (b := [(.iload_n 3, 1), (.iconst 5, 1), (.if_icmp .ge 21, 3), (.aload_n 0, 1), (.iload_n 2, 1), (.iload_n 3, 1), (.aload_n 0, 1), (.iload_n 1, 1), (.iload_n 3, 1), (.invokevirtual 88, 3), (.invokevirtual 84, 3), (.iinc 3 1, 3), (.goto (-20), 3)]) rfl rfl (rfl : am_z 1015 = 0) _ _ _
set_option maxRecDepth 50000 in
theorem q1015_25 (C : am_Ct) (x1 : Int32) (x2 : Int32) (x3 : Int32) (μ : am_Mem) : am_ev C 1015 25 [.ref 56, .int x1, .int x2, .int x3] [] μ = (am_ret none μ) := am_blk (b := [(.return_, 1)]) rfl rfl (rfl : am_z 1015 = 0) _ _ _
theorem e1015 (d : Nat) (x1 : Int32) (x2 : Int32) (μ : am_Mem) : am_call (d + 1) 1015 [.ref 56, .int x1, .int x2] μ = am_ev (am_call d) 1015 0 [.ref 56, .int x1, .int x2, .null] [] μ := rfl
/-! NoWordTwiceModel.drop(I)Z  -/
set_option maxRecDepth 50000 in
theorem q1016_0 (C : am_Ct) (x1 : Int32) (x2 : Value) (μ : am_Mem) : am_ev C 1016 0 [.ref 56, .int x1, x2] [] μ = (am_bI (C 1003 [.ref 56, .int x1] μ) (fun r1 m1 => if r1 = 0 then am_ret (some (.int (am_c 0))) m1 else am_ev C 1016 10 [.ref 56, .int x1, x2] [] m1)) := am_blk (b := [(.aload_n 0, 1), (.iload_n 1, 1), (.invokevirtual 92, 3), (.ifCond .ne 5, 3), (.iconst 0, 1), (.ireturn, 1)]) rfl rfl (rfl : am_z 1016 = 2) _ _ _
set_option maxRecDepth 50000 in
theorem q1016_10 (C : am_Ct) (x1 : Int32) (x2 : Value) (μ : am_Mem) : am_ev C 1016 10 [.ref 56, .int x1, x2] [] μ = (am_ev C 1016 14 [.ref 56, .int x1, .int (x1 + (am_c 1))] [] μ) := am_blk (b := [(.iload_n 1, 1), (.iconst 1, 1), (.iadd, 1), (.istore_n 2, 1)]) rfl rfl (rfl : am_z 1016 = 2) _ _ _
set_option maxRecDepth 50000 in
theorem q1016_14 (C : am_Ct) (x1 : Int32) (x2 : Int32) (μ : am_Mem) : am_ev C 1016 14 [.ref 56, .int x1, .int x2] [] μ = (if (μ 57 1) ≤ x2 then am_ev C 1016 38 [.ref 56, .int x1, .int x2] [] μ else am_bV (C 1015 [.ref 56, .int x2, .int (x2 - (am_c 1))] μ) (fun m1 => am_ev C 1016 14 [.ref 56, .int x1, .int (x2 + (am_c 1))] [] m1)) := am_blk (b := [(.iload_n 2, 1), (.aload_n 0, 1), (.getfield 7, 3), (.iconst 1, 1), (.iaload, 1), (.if_icmp .ge 17, 3), (.aload_n 0, 1), (.iload_n 2, 1), (.iload_n 2, 1), (.iconst 1, 1), (.isub, 1), (.invokevirtual 95, 3), (.iinc 2 1, 3), (.goto (-21), 3)]) rfl rfl (rfl : am_z 1016 = 2) _ _ _
set_option maxRecDepth 50000 in
theorem q1016_38 (C : am_Ct) (x1 : Int32) (x2 : Int32) (μ : am_Mem) : am_ev C 1016 38 [.ref 56, .int x1, .int x2] [] μ = (am_bV (C 1008 [.ref 56] (am_up μ 57 1 ((μ 57 1) - (am_c 1)))) (fun m1 => am_ret (some (.int (am_c 1))) m1)) := am_blk (b := [(.aload_n 0, 1), (.getfield 7, 3), (.iconst 1, 1), (.dup2, 1), (.iaload, 1), (.iconst 1, 1), (.isub, 1), (.iastore, 1), (.aload_n 0, 1), (.invokevirtual 71, 3), (.iconst 1, 1), (.ireturn, 1)]) rfl rfl (rfl : am_z 1016 = 2) _ _ _
theorem e1016 (d : Nat) (x1 : Int32) (μ : am_Mem) : am_call (d + 1) 1016 [.ref 56, .int x1] μ = am_ev (am_call d) 1016 0 [.ref 56, .int x1, .null] [] μ := rfl
/-! NoWordTwiceModel.move(II)Z  -/
set_option maxRecDepth 50000 in
theorem q1017_0 (C : am_Ct) (x1 : Int32) (x2 : Int32) (x3 : Value) (μ : am_Mem) : am_ev C 1017 0 [.ref 56, .int x1, .int x2, x3] [] μ = (am_bI (C 1003 [.ref 56, .int x1] μ) (fun r1 m1 => if r1 = 0 then am_ev C 1017 16 [.ref 56, .int x1, .int x2, x3] [] m1 else am_bI (C 1003 [.ref 56, .int x2] m1) (fun r2 m2 => if r2 = 0 then am_ev C 1017 16 [.ref 56, .int x1, .int x2, x3] [] m2 else am_ev C 1017 18 [.ref 56, .int x1, .int x2, x3] [] m2))) := am_blk (b := [(.aload_n 0, 1), (.iload_n 1, 1), (.invokevirtual 92, 3), (.ifCond .eq 11, 3), (.aload_n 0, 1), (.iload_n 2, 1), (.invokevirtual 92, 3), (.ifCond .ne 5, 3)]) rfl rfl (rfl : am_z 1017 = 2) _ _ _
set_option maxRecDepth 50000 in
theorem q1017_16 (C : am_Ct) (x1 : Int32) (x2 : Int32) (x3 : Value) (μ : am_Mem) : am_ev C 1017 16 [.ref 56, .int x1, .int x2, x3] [] μ = (am_ret (some (.int (am_c 0))) μ) := am_blk (b := [(.iconst 0, 1), (.ireturn, 1)]) rfl rfl (rfl : am_z 1017 = 2) _ _ _
set_option maxRecDepth 50000 in
theorem q1017_18 (C : am_Ct) (x1 : Int32) (x2 : Int32) (x3 : Value) (μ : am_Mem) : am_ev C 1017 18 [.ref 56, .int x1, .int x2, x3] [] μ = (am_ev C 1017 20 [.ref 56, .int x1, .int x2, .int (am_c 0)] [] μ) := am_blk (b := [(.iconst 0, 1), (.istore_n 3, 1)]) rfl rfl (rfl : am_z 1017 = 2) _ _ _
set_option maxRecDepth 50000 in
theorem q1017_20 (C : am_Ct) (x1 : Int32) (x2 : Int32) (x3 : Int32) (μ : am_Mem) : am_ev C 1017 20 [.ref 56, .int x1, .int x2, .int x3] [] μ = (if (am_c 5) ≤ x3 then am_ev C 1017 43 [.ref 56, .int x1, .int x2, .int x3] [] μ else am_bI (C 1005 [.ref 56, .int x1, .int x3] μ) (fun r1 m1 => am_gb (Nat.blt (am_ix x3) 5) (am_ev C 1017 20 [.ref 56, .int x1, .int x2, .int (x3 + (am_c 1))] [] (am_up m1 60 (am_ix x3) r1)))) := am_blk (b := [(.iload_n 3, 1), (.iconst 5, 1), (.if_icmp .ge 21, 3), (.aload_n 0, 1), (.getfield 19, 3), (.iload_n 3, 1), (.aload_n 0, 1), (.iload_n 1, 1), (.iload_n 3, 1), (.invokevirtual 88, 3), (.iastore, 1), (.iinc 3 1, 3), (.goto (-20), 3)]) rfl rfl (rfl : am_z 1017 = 2) _ _ _
set_option maxRecDepth 50000 in
theorem q1017_43 (C : am_Ct) (x1 : Int32) (x2 : Int32) (x3 : Int32) (μ : am_Mem) : am_ev C 1017 43 [.ref 56, .int x1, .int x2, .int x3] [] μ = (am_ev C 1017 45 [.ref 56, .int x1, .int x2, .int x1] [] μ) := am_blk (b := [(.iload_n 1, 1), (.istore_n 3, 1)]) rfl rfl (rfl : am_z 1017 = 2) _ _ _
set_option maxRecDepth 50000 in
theorem q1017_45 (C : am_Ct) (x1 : Int32) (x2 : Int32) (x3 : Int32) (μ : am_Mem) : am_ev C 1017 45 [.ref 56, .int x1, .int x2, .int x3] [] μ = (if x2 ≤ x3 then am_ev C 1017 64 [.ref 56, .int x1, .int x2, .int x3] [] μ else am_bV (C 1015 [.ref 56, .int (x3 + (am_c 1)), .int x3] μ) (fun m1 => am_ev C 1017 45 [.ref 56, .int x1, .int x2, .int (x3 + (am_c 1))] [] m1)) := am_blk (b := [(.iload_n 3, 1), (.iload_n 2, 1), (.if_icmp .ge 17, 3), (.aload_n 0, 1), (.iload_n 3, 1), (.iconst 1, 1), (.iadd, 1), (.iload_n 3, 1), (.invokevirtual 95, 3), (.iinc 3 1, 3), (.goto (-16), 3)]) rfl rfl (rfl : am_z 1017 = 2) _ _ _
set_option maxRecDepth 50000 in
theorem q1017_64 (C : am_Ct) (x1 : Int32) (x2 : Int32) (x3 : Int32) (μ : am_Mem) : am_ev C 1017 64 [.ref 56, .int x1, .int x2, .int x3] [] μ = (am_ev C 1017 66 [.ref 56, .int x1, .int x2, .int x1] [] μ) := am_blk (b := [(.iload_n 1, 1), (.istore_n 3, 1)]) rfl rfl (rfl : am_z 1017 = 2) _ _ _
set_option maxRecDepth 50000 in
theorem q1017_66 (C : am_Ct) (x1 : Int32) (x2 : Int32) (x3 : Int32) (μ : am_Mem) : am_ev C 1017 66 [.ref 56, .int x1, .int x2, .int x3] [] μ = (if x3 ≤ x2 then am_ev C 1017 85 [.ref 56, .int x1, .int x2, .int x3] [] μ else am_bV (C 1015 [.ref 56, .int (x3 - (am_c 1)), .int x3] μ) (fun m1 => am_ev C 1017 66 [.ref 56, .int x1, .int x2, .int (x3 + (am_c (-1)))] [] m1)) := am_blk (b := [(.iload_n 3, 1), (.iload_n 2, 1), (.if_icmp .le 17, 3), (.aload_n 0, 1), (.iload_n 3, 1), (.iconst 1, 1), (.isub, 1), (.iload_n 3, 1), (.invokevirtual 95, 3), (.iinc 3 (-1), 3), (.goto (-16), 3)]) rfl rfl (rfl : am_z 1017 = 2) _ _ _
set_option maxRecDepth 50000 in
theorem q1017_85 (C : am_Ct) (x1 : Int32) (x2 : Int32) (x3 : Int32) (μ : am_Mem) : am_ev C 1017 85 [.ref 56, .int x1, .int x2, .int x3] [] μ = (am_ev C 1017 87 [.ref 56, .int x1, .int x2, .int (am_c 0)] [] μ) := am_blk (b := [(.iconst 0, 1), (.istore_n 3, 1)]) rfl rfl (rfl : am_z 1017 = 2) _ _ _
set_option maxRecDepth 50000 in
theorem q1017_87 (C : am_Ct) (x1 : Int32) (x2 : Int32) (x3 : Int32) (μ : am_Mem) : am_ev C 1017 87 [.ref 56, .int x1, .int x2, .int x3] [] μ = (if (am_c 5) ≤ x3 then am_ev C 1017 110 [.ref 56, .int x1, .int x2, .int x3] [] μ else am_gb (Nat.blt (am_ix x3) 5) (am_bV (C 1006 [.ref 56, .int x2, .int x3, .int (μ 60 (am_ix x3))] μ) (fun m1 => am_ev C 1017 87 [.ref 56, .int x1, .int x2, .int (x3 + (am_c 1))] [] m1))) := am_blk (b := [(.iload_n 3, 1), (.iconst 5, 1), (.if_icmp .ge 21, 3), (.aload_n 0, 1), (.iload_n 2, 1), (.iload_n 3, 1), (.aload_n 0, 1), (.getfield 19, 3), (.iload_n 3, 1), (.iaload, 1), (.invokevirtual 84, 3), (.iinc 3 1, 3), (.goto (-20), 3)]) rfl rfl (rfl : am_z 1017 = 2) _ _ _
set_option maxRecDepth 50000 in
theorem q1017_110 (C : am_Ct) (x1 : Int32) (x2 : Int32) (x3 : Int32) (μ : am_Mem) : am_ev C 1017 110 [.ref 56, .int x1, .int x2, .int x3] [] μ = (am_bV (C 1008 [.ref 56] μ) (fun m1 => am_ret (some (.int (am_c 1))) m1)) := am_blk (b := [(.aload_n 0, 1), (.invokevirtual 71, 3), (.iconst 1, 1), (.ireturn, 1)]) rfl rfl (rfl : am_z 1017 = 2) _ _ _
theorem e1017 (d : Nat) (x1 : Int32) (x2 : Int32) (μ : am_Mem) : am_call (d + 1) 1017 [.ref 56, .int x1, .int x2] μ = am_ev (am_call d) 1017 0 [.ref 56, .int x1, .int x2, .null] [] μ := rfl
/-! NoWordTwiceModel.feed(IIIII)I  -/
set_option maxRecDepth 50000 in
theorem q1018_0 (C : am_Ct) (x1 : Int32) (x2 : Int32) (x3 : Int32) (x4 : Int32) (x5 : Int32) (x6 : Value) (x7 : Value) (μ : am_Mem) : am_ev C 1018 0 [.ref 56, .int x1, .int x2, .int x3, .int x4, .int x5, x6, x7] [] μ = (if ((μ 56 13) + (am_c 20)) ≤ (am_c 400) then am_ev C 1018 15 [.ref 56, .int x1, .int x2, .int x3, .int x4, .int x5, x6, x7] [] μ else am_ret (some (.int (am_c (-1)))) μ) := am_blk (b := [(.aload_n 0, 1), (.getfield 99, 3), (.bipush 20, 2), (.iadd, 1), (.sipush 400, 3), (.if_icmp .le 5, 3), (.iconst (-1), 1), (.ireturn, 1)]) rfl rfl (rfl : am_z 1018 = 0) _ _ _
set_option maxRecDepth 50000 in
theorem q1018_15 (C : am_Ct) (x1 : Int32) (x2 : Int32) (x3 : Int32) (x4 : Int32) (x5 : Int32) (x6 : Value) (x7 : Value) (μ : am_Mem) : am_ev C 1018 15 [.ref 56, .int x1, .int x2, .int x3, .int x4, .int x5, x6, x7] [] μ = (am_ev C 1018 18 [.ref 56, .int x1, .int x2, .int x3, .int x4, .int x5, .int (am_c 0), x7] [] μ) := am_blk (b := [(.iconst 0, 1), (.istore 6, 2)]) rfl rfl (rfl : am_z 1018 = 0) _ _ _
set_option maxRecDepth 50000 in
theorem q1018_18 (C : am_Ct) (x1 : Int32) (x2 : Int32) (x3 : Int32) (x4 : Int32) (x5 : Int32) (x6 : Int32) (x7 : Value) (μ : am_Mem) : am_ev C 1018 18 [.ref 56, .int x1, .int x2, .int x3, .int x4, .int x5, .int x6, x7] [] μ = (if (am_c 20) ≤ x6 then am_ev C 1018 115 [.ref 56, .int x1, .int x2, .int x3, .int x4, .int x5, .int x6, x7] [] μ else if (am_c 4) ≤ x6 then am_ev C 1018 35 [.ref 56, .int x1, .int x2, .int x3, .int x4, .int x5, .int x6, x7] [] μ else am_ev C 1018 71 [.ref 56, .int x1, .int x2, .int x3, .int x4, .int x5, .int x6, x7] [.int x1] μ) := am_blk (b := [(.iload 6, 2), (.bipush 20, 2), (.if_icmp .ge 93, 3), (.iload 6, 2), (.iconst 4, 1), (.if_icmp .ge 7, 3), (.iload_n 1, 1), (.goto 39, 3)]) rfl rfl (rfl : am_z 1018 = 0) _ _ _
set_option maxRecDepth 50000 in
theorem q1018_35 (C : am_Ct) (x1 : Int32) (x2 : Int32) (x3 : Int32) (x4 : Int32) (x5 : Int32) (x6 : Int32) (x7 : Value) (μ : am_Mem) : am_ev C 1018 35 [.ref 56, .int x1, .int x2, .int x3, .int x4, .int x5, .int x6, x7] [] μ = (if (am_c 8) ≤ x6 then am_ev C 1018 46 [.ref 56, .int x1, .int x2, .int x3, .int x4, .int x5, .int x6, x7] [] μ else am_ev C 1018 71 [.ref 56, .int x1, .int x2, .int x3, .int x4, .int x5, .int x6, x7] [.int x2] μ) := am_blk (b := [(.iload 6, 2), (.bipush 8, 2), (.if_icmp .ge 7, 3), (.iload_n 2, 1), (.goto 28, 3)]) rfl rfl (rfl : am_z 1018 = 0) _ _ _
set_option maxRecDepth 50000 in
theorem q1018_46 (C : am_Ct) (x1 : Int32) (x2 : Int32) (x3 : Int32) (x4 : Int32) (x5 : Int32) (x6 : Int32) (x7 : Value) (μ : am_Mem) : am_ev C 1018 46 [.ref 56, .int x1, .int x2, .int x3, .int x4, .int x5, .int x6, x7] [] μ = (if (am_c 12) ≤ x6 then am_ev C 1018 57 [.ref 56, .int x1, .int x2, .int x3, .int x4, .int x5, .int x6, x7] [] μ else am_ev C 1018 71 [.ref 56, .int x1, .int x2, .int x3, .int x4, .int x5, .int x6, x7] [.int x3] μ) := am_blk (b := [(.iload 6, 2), (.bipush 12, 2), (.if_icmp .ge 7, 3), (.iload_n 3, 1), (.goto 17, 3)]) rfl rfl (rfl : am_z 1018 = 0) _ _ _
set_option maxRecDepth 50000 in
theorem q1018_57 (C : am_Ct) (x1 : Int32) (x2 : Int32) (x3 : Int32) (x4 : Int32) (x5 : Int32) (x6 : Int32) (x7 : Value) (μ : am_Mem) : am_ev C 1018 57 [.ref 56, .int x1, .int x2, .int x3, .int x4, .int x5, .int x6, x7] [] μ = (if (am_c 16) ≤ x6 then am_ev C 1018 69 [.ref 56, .int x1, .int x2, .int x3, .int x4, .int x5, .int x6, x7] [] μ else am_ev C 1018 71 [.ref 56, .int x1, .int x2, .int x3, .int x4, .int x5, .int x6, x7] [.int x4] μ) := am_blk (b := [(.iload 6, 2), (.bipush 16, 2), (.if_icmp .ge 8, 3), (.iload 4, 2), (.goto 5, 3)]) rfl rfl (rfl : am_z 1018 = 0) _ _ _
set_option maxRecDepth 50000 in
theorem q1018_69 (C : am_Ct) (x1 : Int32) (x2 : Int32) (x3 : Int32) (x4 : Int32) (x5 : Int32) (x6 : Int32) (x7 : Value) (μ : am_Mem) : am_ev C 1018 69 [.ref 56, .int x1, .int x2, .int x3, .int x4, .int x5, .int x6, x7] [] μ = (am_ev C 1018 71 [.ref 56, .int x1, .int x2, .int x3, .int x4, .int x5, .int x6, x7] [.int x5] μ) := am_blk (b := [(.iload 5, 2)]) rfl rfl (rfl : am_z 1018 = 0) _ _ _
set_option maxRecDepth 50000 in
theorem q1018_71 (C : am_Ct) (x1 : Int32) (x2 : Int32) (x3 : Int32) (x4 : Int32) (x5 : Int32) (x6 : Int32) (x7 : Value) (s0 : Int32) (μ : am_Mem) : am_ev C 1018 71 [.ref 56, .int x1, .int x2, .int x3, .int x4, .int x5, .int x6, x7] [.int s0] μ = (am_gb (Nat.blt (am_ix (μ 56 13)) 400) (am_ev C 1018 18 [.ref 56, .int x1, .int x2, .int x3, .int x4, .int x5, .int (x6 + (am_c 1)), .int s0] [] (am_up (am_up μ 63 (am_ix (μ 56 13)) ((s0 >>> (((am_c 24) - ((am_c 8) * (x6 - x6 / (am_c 4) * (am_c 4)))) &&& 31)) &&& (am_c 255))) 56 13 (((am_up μ 63 (am_ix (μ 56 13)) ((s0 >>> (((am_c 24) - ((am_c 8) * (x6 - x6 / (am_c 4) * (am_c 4)))) &&& 31)) &&& (am_c 255))) 56 13) + (am_c 1))))) := am_blk (b := [(.istore 7, 2), (.aload_n 0, 1), (.getfield 28, 3), (.aload_n 0, 1), (.getfield 99, 3), (.iload 7, 2), (.bipush 24, 2), (.bipush 8, 2), (.iload 6, 2), (.iconst 4, 1), (.irem, 1), (.imul, 1), (.isub, 1), (.ishr, 1), (.sipush 255, 3), (.iand, 1), (.iastore, 1), (.aload_n 0, 1), (.dup, 1), (.getfield 99, 3), (.iconst 1, 1), (.iadd, 1), (.putfield 99, 3), (.iinc 6 1, 3), (.goto (-94), 3)]) rfl rfl (rfl : am_z 1018 = 0) _ _ _
set_option maxRecDepth 50000 in
theorem q1018_115 (C : am_Ct) (x1 : Int32) (x2 : Int32) (x3 : Int32) (x4 : Int32) (x5 : Int32) (x6 : Int32) (x7 : Value) (μ : am_Mem) : am_ev C 1018 115 [.ref 56, .int x1, .int x2, .int x3, .int x4, .int x5, .int x6, x7] [] μ = (am_ret (some (.int (μ 56 13))) μ) := am_blk (b := [(.aload_n 0, 1), (.getfield 99, 3), (.ireturn, 1)]) rfl rfl (rfl : am_z 1018 = 0) _ _ _
theorem e1018 (d : Nat) (x1 : Int32) (x2 : Int32) (x3 : Int32) (x4 : Int32) (x5 : Int32) (μ : am_Mem) : am_call (d + 1) 1018 [.ref 56, .int x1, .int x2, .int x3, .int x4, .int x5] μ = am_ev (am_call d) 1018 0 [.ref 56, .int x1, .int x2, .int x3, .int x4, .int x5, .null, .null] [] μ := rfl
/-! NoWordTwiceModel.end(I)Z  -/
set_option maxRecDepth 50000 in
theorem q1019_0 (C : am_Ct) (x1 : Int32) (μ : am_Mem) : am_ev C 1019 0 [.ref 56, .int x1] [] μ = (am_bI (C 1001 [.int x1, .int (am_c 0), .int (μ 56 13)] μ) (fun r1 m1 => if r1 = 0 then am_ret (some (.int (am_c 0))) m1 else am_ev C 1019 14 [.ref 56, .int x1] [] m1)) := am_blk (b := [(.iload_n 1, 1), (.iconst 0, 1), (.aload_n 0, 1), (.getfield 99, 3), (.invokestatic 64, 3), (.ifCond .ne 5, 3), (.iconst 0, 1), (.ireturn, 1)]) rfl rfl (rfl : am_z 1019 = 2) _ _ _
set_option maxRecDepth 50000 in
theorem q1019_14 (C : am_Ct) (x1 : Int32) (μ : am_Mem) : am_ev C 1019 14 [.ref 56, .int x1] [] μ = (am_ret (some (.int (am_c 1))) (am_up μ 56 13 x1)) := am_blk (b := [(.aload_n 0, 1), (.iload_n 1, 1), (.putfield 99, 3), (.iconst 1, 1), (.ireturn, 1)]) rfl rfl (rfl : am_z 1019 = 2) _ _ _
theorem e1019 (d : Nat) (x1 : Int32) (μ : am_Mem) : am_call (d + 1) 1019 [.ref 56, .int x1] μ = am_ev (am_call d) 1019 0 [.ref 56, .int x1] [] μ := rfl
/-! NoWordTwiceModel.see(I)I  -/
set_option maxRecDepth 50000 in
theorem q1020_0 (C : am_Ct) (x1 : Int32) (μ : am_Mem) : am_ev C 1020 0 [.ref 56, .int x1] [] μ = (if (μ 56 13) ≤ x1 then am_ev C 1020 17 [.ref 56, .int x1] [] μ else am_gb (Nat.blt (am_ix x1) 400) (am_ev C 1020 18 [.ref 56, .int x1] [.int (μ 63 (am_ix x1))] μ)) := am_blk (b := [(.iload_n 1, 1), (.aload_n 0, 1), (.getfield 99, 3), (.if_icmp .ge 12, 3), (.aload_n 0, 1), (.getfield 28, 3), (.iload_n 1, 1), (.iaload, 1), (.goto 4, 3)]) rfl rfl (rfl : am_z 1020 = 0) _ _ _
set_option maxRecDepth 50000 in
theorem q1020_17 (C : am_Ct) (x1 : Int32) (μ : am_Mem) : am_ev C 1020 17 [.ref 56, .int x1] [] μ = (am_ev C 1020 18 [.ref 56, .int x1] [.int (am_c (-1))] μ) := am_blk (b := [(.iconst (-1), 1)]) rfl rfl (rfl : am_z 1020 = 0) _ _ _
set_option maxRecDepth 50000 in
theorem q1020_18 (C : am_Ct) (x1 : Int32) (s0 : Int32) (μ : am_Mem) : am_ev C 1020 18 [.ref 56, .int x1] [.int s0] μ = (am_ret (some (.int s0)) μ) := am_blk (b := [(.ireturn, 1)]) rfl rfl (rfl : am_z 1020 = 0) _ _ _
theorem e1020 (d : Nat) (x1 : Int32) (μ : am_Mem) : am_call (d + 1) 1020 [.ref 56, .int x1] μ = am_ev (am_call d) 1020 0 [.ref 56, .int x1] [] μ := rfl
/-! NoWordTwiceModel.isLetter(I)Z  -/
set_option maxRecDepth 50000 in
theorem q1021_0 (C : am_Ct) (x0 : Int32) (μ : am_Mem) : am_ev C 1021 0 [.int x0] [] μ = (am_bI (C 1001 [.int x0, .int (am_c 97), .int (am_c 122)] μ) (fun r1 m1 => if r1 = 0 then am_bI (C 1001 [.int x0, .int (am_c 65), .int (am_c 90)] m1) (fun r2 m2 => if r2 = 0 then am_ev C 1021 26 [.int x0] [] m2 else am_ev C 1021 22 [.int x0] [] m2) else am_ev C 1021 22 [.int x0] [] m1)) := am_blk (b := [(.iload_n 0, 1), (.bipush 97, 2), (.bipush 122, 2), (.invokestatic 64, 3), (.ifCond .ne 14, 3), (.iload_n 0, 1), (.bipush 65, 2), (.bipush 90, 2), (.invokestatic 64, 3), (.ifCond .eq 7, 3)]) rfl rfl (rfl : am_z 1021 = 2) _ _ _
set_option maxRecDepth 50000 in
theorem q1021_22 (C : am_Ct) (x0 : Int32) (μ : am_Mem) : am_ev C 1021 22 [.int x0] [] μ = (am_ev C 1021 27 [.int x0] [.int (am_c 1)] μ) := am_blk (b := [(.iconst 1, 1), (.goto 4, 3)]) rfl rfl (rfl : am_z 1021 = 2) _ _ _
set_option maxRecDepth 50000 in
theorem q1021_26 (C : am_Ct) (x0 : Int32) (μ : am_Mem) : am_ev C 1021 26 [.int x0] [] μ = (am_ev C 1021 27 [.int x0] [.int (am_c 0)] μ) := am_blk (b := [(.iconst 0, 1)]) rfl rfl (rfl : am_z 1021 = 2) _ _ _
set_option maxRecDepth 50000 in
theorem q1021_27 (C : am_Ct) (x0 : Int32) (s0 : Int32) (μ : am_Mem) : am_ev C 1021 27 [.int x0] [.int s0] μ = (am_gb (Nat.blt (am_ix s0) 2) (am_ret (some (.int s0)) μ)) := am_blk (b := [(.ireturn, 1)]) rfl rfl (rfl : am_z 1021 = 2) _ _ _
theorem e1021 (d : Nat) (x0 : Int32) (μ : am_Mem) : am_call (d + 1) 1021 [.int x0] μ = am_ev (am_call d) 1021 0 [.int x0] [] μ := rfl
/-! NoWordTwiceModel.isDigit(I)Z  -/
set_option maxRecDepth 50000 in
theorem q1022_0 (C : am_Ct) (x0 : Int32) (μ : am_Mem) : am_ev C 1022 0 [.int x0] [] μ = (am_bI (C 1001 [.int x0, .int (am_c 48), .int (am_c 57)] μ) (fun r1 m1 => am_gb (Nat.blt (am_ix r1) 2) (am_ret (some (.int r1)) m1))) := am_blk (b := [(.iload_n 0, 1), (.bipush 48, 2), (.bipush 57, 2), (.invokestatic 64, 3), (.ireturn, 1)]) rfl rfl (rfl : am_z 1022 = 2) _ _ _
theorem e1022 (d : Nat) (x0 : Int32) (μ : am_Mem) : am_call (d + 1) 1022 [.int x0] μ = am_ev (am_call d) 1022 0 [.int x0] [] μ := rfl
/-! NoWordTwiceModel.is(Ljava/lang/String;)Z  -/
set_option maxRecDepth 50000 in
theorem q1023_0 (C : am_Ct) (x1 : Nat) (x2 : Value) (x3 : Value) (μ : am_Mem) : am_ev C 1023 0 [.ref 56, .retAddr x1, x2, x3] [] μ = (am_gb (Nat.blt x1 13) (am_bI (C 1400 [.retAddr x1] μ) (fun r1 m1 => if ((μ 56 14) - (μ 56 16)) = r1 then am_ev C 1023 21 [.ref 56, .retAddr x1, x2, x3] [.int (am_c 1)] m1 else am_ev C 1023 20 [.ref 56, .retAddr x1, x2, x3] [] m1))) := am_blk (b := [(.aload_n 0, 1), (.getfield 102, 3), (.aload_n 0, 1), (.getfield 105, 3), (.isub, 1), (.aload_n 1, 1), (.invokevirtual 108, 3), (.if_icmp .ne 7, 3), (.iconst 1, 1), (.goto 4, 3)]) rfl rfl (rfl : am_z 1023 = 2) _ _ _
set_option maxRecDepth 50000 in
theorem q1023_20 (C : am_Ct) (x1 : Nat) (x2 : Value) (x3 : Value) (μ : am_Mem) : am_ev C 1023 20 [.ref 56, .retAddr x1, x2, x3] [] μ = (am_ev C 1023 21 [.ref 56, .retAddr x1, x2, x3] [.int (am_c 0)] μ) := am_blk (b := [(.iconst 0, 1)]) rfl rfl (rfl : am_z 1023 = 2) _ _ _
set_option maxRecDepth 50000 in
theorem q1023_21 (C : am_Ct) (x1 : Nat) (x2 : Value) (x3 : Value) (s0 : Int32) (μ : am_Mem) : am_ev C 1023 21 [.ref 56, .retAddr x1, x2, x3] [.int s0] μ = (am_ev C 1023 24 [.ref 56, .retAddr x1, .int s0, .int (am_c 0)] [] μ) := am_blk (b := [(.istore_n 2, 1), (.iconst 0, 1), (.istore_n 3, 1)]) rfl rfl (rfl : am_z 1023 = 2) _ _ _
set_option maxRecDepth 50000 in
theorem q1023_24 (C : am_Ct) (x1 : Nat) (x2 : Int32) (x3 : Int32) (μ : am_Mem) : am_ev C 1023 24 [.ref 56, .retAddr x1, .int x2, .int x3] [] μ = (am_gb (Nat.blt x1 13) (am_bI (C 1400 [.retAddr x1] μ) (fun r1 m1 => if r1 ≤ x3 then am_ev C 1023 67 [.ref 56, .retAddr x1, .int x2, .int x3] [] m1 else if x2 = 0 then am_ev C 1023 67 [.ref 56, .retAddr x1, .int x2, .int x3] [] m1 else am_gb (Nat.blt (am_ix ((m1 56 16) + x3)) 400) (am_gb (Nat.blt x1 13) (am_bI (C 1401 [.retAddr x1, .int x3] m1) (fun r2 m2 => if (m1 63 (am_ix ((m1 56 16) + x3))) = r2 then am_ev C 1023 60 [.ref 56, .retAddr x1, .int x2, .int x3] [.int (am_c 1)] m2 else am_ev C 1023 59 [.ref 56, .retAddr x1, .int x2, .int x3] [] m2)))))) := am_blk (b := [(.iload_n 3, 1), (.aload_n 1, 1), (.invokevirtual 108, 3), (.if_icmp .ge 38, 3), (.iload_n 2, 1), (.ifCond .eq 34, 3), (.aload_n 0, 1), (.getfield 28, 3), (.aload_n 0, 1), (.getfield 105, 3), (.iload_n 3, 1), (.iadd, 1), (.iaload, 1), (.aload_n 1, 1), (.iload_n 3, 1), (.invokevirtual 114, 3), (.if_icmp .ne 7, 3), (.iconst 1, 1), (.goto 4, 3)]) rfl rfl (rfl : am_z 1023 = 2) _ _ _
set_option maxRecDepth 50000 in
theorem q1023_59 (C : am_Ct) (x1 : Nat) (x2 : Int32) (x3 : Int32) (μ : am_Mem) : am_ev C 1023 59 [.ref 56, .retAddr x1, .int x2, .int x3] [] μ = (am_ev C 1023 60 [.ref 56, .retAddr x1, .int x2, .int x3] [.int (am_c 0)] μ) := am_blk (b := [(.iconst 0, 1)]) rfl rfl (rfl : am_z 1023 = 2) _ _ _
set_option maxRecDepth 50000 in
theorem q1023_60 (C : am_Ct) (x1 : Nat) (x2 : Int32) (x3 : Int32) (s0 : Int32) (μ : am_Mem) : am_ev C 1023 60 [.ref 56, .retAddr x1, .int x2, .int x3] [.int s0] μ = (am_ev C 1023 24 [.ref 56, .retAddr x1, .int s0, .int (x3 + (am_c 1))] [] μ) := am_blk (b := [(.istore_n 2, 1), (.iinc 3 1, 3), (.goto (-40), 3)]) rfl rfl (rfl : am_z 1023 = 2) _ _ _
set_option maxRecDepth 50000 in
theorem q1023_67 (C : am_Ct) (x1 : Nat) (x2 : Int32) (x3 : Int32) (μ : am_Mem) : am_ev C 1023 67 [.ref 56, .retAddr x1, .int x2, .int x3] [] μ = (am_gb (Nat.blt (am_ix x2) 2) (am_ret (some (.int x2)) μ)) := am_blk (b := [(.iload_n 2, 1), (.ireturn, 1)]) rfl rfl (rfl : am_z 1023 = 2) _ _ _
theorem e1023 (d : Nat) (x1 : Nat) (μ : am_Mem) : am_call (d + 1) 1023 [.ref 56, .retAddr x1] μ = am_ev (am_call d) 1023 0 [.ref 56, .retAddr x1, .null, .null] [] μ := rfl
/-! NoWordTwiceModel.nameWord()I  -/
set_option maxRecDepth 50000 in
theorem q1024_0 (C : am_Ct) (μ : am_Mem) : am_ev C 1024 0 [.ref 56] [] μ = (am_bI (C 1023 [.ref 56, .retAddr 6] μ) (fun r1 m1 => if r1 = 0 then am_ev C 1024 12 [.ref 56] [] m1 else am_ret (some (.int (am_c 41))) m1)) := am_blk (b := [(.aload_n 0, 1), (.ldc 118, 2), (.invokevirtual 120, 3), (.ifCond .eq 6, 3), (.bipush 41, 2), (.ireturn, 1)]) rfl rfl (rfl : am_z 1024 = 0) _ _ _
set_option maxRecDepth 50000 in
theorem q1024_12 (C : am_Ct) (μ : am_Mem) : am_ev C 1024 12 [.ref 56] [] μ = (am_bI (C 1023 [.ref 56, .retAddr 7] μ) (fun r1 m1 => if r1 = 0 then am_ev C 1024 24 [.ref 56] [] m1 else am_ret (some (.int (am_c 42))) m1)) := am_blk (b := [(.aload_n 0, 1), (.ldc 124, 2), (.invokevirtual 120, 3), (.ifCond .eq 6, 3), (.bipush 42, 2), (.ireturn, 1)]) rfl rfl (rfl : am_z 1024 = 0) _ _ _
set_option maxRecDepth 50000 in
theorem q1024_24 (C : am_Ct) (μ : am_Mem) : am_ev C 1024 24 [.ref 56] [] μ = (am_bI (C 1023 [.ref 56, .retAddr 8] μ) (fun r1 m1 => if r1 = 0 then am_ev C 1024 36 [.ref 56] [] m1 else am_ret (some (.int (am_c 43))) m1)) := am_blk (b := [(.aload_n 0, 1), (.ldc 126, 2), (.invokevirtual 120, 3), (.ifCond .eq 6, 3), (.bipush 43, 2), (.ireturn, 1)]) rfl rfl (rfl : am_z 1024 = 0) _ _ _
set_option maxRecDepth 50000 in
theorem q1024_36 (C : am_Ct) (μ : am_Mem) : am_ev C 1024 36 [.ref 56] [] μ = (am_bI (C 1023 [.ref 56, .retAddr 9] μ) (fun r1 m1 => if r1 = 0 then am_ev C 1024 48 [.ref 56] [] m1 else am_ret (some (.int (am_c 44))) m1)) := am_blk (b := [(.aload_n 0, 1), (.ldc 128, 2), (.invokevirtual 120, 3), (.ifCond .eq 6, 3), (.bipush 44, 2), (.ireturn, 1)]) rfl rfl (rfl : am_z 1024 = 0) _ _ _
set_option maxRecDepth 50000 in
theorem q1024_48 (C : am_Ct) (μ : am_Mem) : am_ev C 1024 48 [.ref 56] [] μ = (am_bI (C 1023 [.ref 56, .retAddr 10] μ) (fun r1 m1 => if r1 = 0 then am_ev C 1024 60 [.ref 56] [] m1 else am_ret (some (.int (am_c 45))) m1)) := am_blk (b := [(.aload_n 0, 1), (.ldc 130, 2), (.invokevirtual 120, 3), (.ifCond .eq 6, 3), (.bipush 45, 2), (.ireturn, 1)]) rfl rfl (rfl : am_z 1024 = 0) _ _ _
set_option maxRecDepth 50000 in
theorem q1024_60 (C : am_Ct) (μ : am_Mem) : am_ev C 1024 60 [.ref 56] [] μ = (am_bI (C 1023 [.ref 56, .retAddr 11] μ) (fun r1 m1 => if r1 = 0 then am_ev C 1024 74 [.ref 56] [] m1 else am_ev C 1024 75 [.ref 56] [.int (am_c 46)] m1)) := am_blk (b := [(.aload_n 0, 1), (.ldc 132, 2), (.invokevirtual 120, 3), (.ifCond .eq 8, 3), (.bipush 46, 2), (.goto 4, 3)]) rfl rfl (rfl : am_z 1024 = 0) _ _ _
set_option maxRecDepth 50000 in
theorem q1024_74 (C : am_Ct) (μ : am_Mem) : am_ev C 1024 74 [.ref 56] [] μ = (am_ev C 1024 75 [.ref 56] [.int (am_c 1)] μ) := am_blk (b := [(.iconst 1, 1)]) rfl rfl (rfl : am_z 1024 = 0) _ _ _
set_option maxRecDepth 50000 in
theorem q1024_75 (C : am_Ct) (s0 : Int32) (μ : am_Mem) : am_ev C 1024 75 [.ref 56] [.int s0] μ = (am_ret (some (.int s0)) μ) := am_blk (b := [(.ireturn, 1)]) rfl rfl (rfl : am_z 1024 = 0) _ _ _
theorem e1024 (d : Nat) (μ : am_Mem) : am_call (d + 1) 1024 [.ref 56] μ = am_ev (am_call d) 1024 0 [.ref 56] [] μ := rfl
/-! NoWordTwiceModel.keyword()I  -/
set_option maxRecDepth 50000 in
theorem q1025_0 (C : am_Ct) (μ : am_Mem) : am_ev C 1025 0 [.ref 56] [] μ = (am_bI (C 1023 [.ref 56, .retAddr 2] μ) (fun r1 m1 => if r1 = 0 then am_ev C 1025 11 [.ref 56] [] m1 else am_ret (some (.int (am_c 3))) m1)) := am_blk (b := [(.aload_n 0, 1), (.ldc 134, 2), (.invokevirtual 120, 3), (.ifCond .eq 5, 3), (.iconst 3, 1), (.ireturn, 1)]) rfl rfl (rfl : am_z 1025 = 0) _ _ _
set_option maxRecDepth 50000 in
theorem q1025_11 (C : am_Ct) (μ : am_Mem) : am_ev C 1025 11 [.ref 56] [] μ = (am_bI (C 1023 [.ref 56, .retAddr 3] μ) (fun r1 m1 => if r1 = 0 then am_ev C 1025 22 [.ref 56] [] m1 else am_ret (some (.int (am_c 4))) m1)) := am_blk (b := [(.aload_n 0, 1), (.ldc 136, 2), (.invokevirtual 120, 3), (.ifCond .eq 5, 3), (.iconst 4, 1), (.ireturn, 1)]) rfl rfl (rfl : am_z 1025 = 0) _ _ _
set_option maxRecDepth 50000 in
theorem q1025_22 (C : am_Ct) (μ : am_Mem) : am_ev C 1025 22 [.ref 56] [] μ = (am_bI (C 1023 [.ref 56, .retAddr 4] μ) (fun r1 m1 => if r1 = 0 then am_ev C 1025 33 [.ref 56] [] m1 else am_ret (some (.int (am_c 5))) m1)) := am_blk (b := [(.aload_n 0, 1), (.ldc 138, 2), (.invokevirtual 120, 3), (.ifCond .eq 5, 3), (.iconst 5, 1), (.ireturn, 1)]) rfl rfl (rfl : am_z 1025 = 0) _ _ _
set_option maxRecDepth 50000 in
theorem q1025_33 (C : am_Ct) (μ : am_Mem) : am_ev C 1025 33 [.ref 56] [] μ = (am_bI (C 1023 [.ref 56, .retAddr 5] μ) (fun r1 m1 => if r1 = 0 then am_ev C 1025 45 [.ref 56] [] m1 else am_ret (some (.int (am_c 6))) m1)) := am_blk (b := [(.aload_n 0, 1), (.ldc 140, 2), (.invokevirtual 120, 3), (.ifCond .eq 6, 3), (.bipush 6, 2), (.ireturn, 1)]) rfl rfl (rfl : am_z 1025 = 0) _ _ _
set_option maxRecDepth 50000 in
theorem q1025_45 (C : am_Ct) (μ : am_Mem) : am_ev C 1025 45 [.ref 56] [] μ = (am_bI (C 1023 [.ref 56, .retAddr 0] μ) (fun r1 m1 => if r1 = 0 then am_ev C 1025 57 [.ref 56] [] m1 else am_ret (some (.int (am_c 20))) m1)) := am_blk (b := [(.aload_n 0, 1), (.ldc 142, 2), (.invokevirtual 120, 3), (.ifCond .eq 6, 3), (.bipush 20, 2), (.ireturn, 1)]) rfl rfl (rfl : am_z 1025 = 0) _ _ _
set_option maxRecDepth 50000 in
theorem q1025_57 (C : am_Ct) (μ : am_Mem) : am_ev C 1025 57 [.ref 56] [] μ = (am_bI (C 1023 [.ref 56, .retAddr 1] μ) (fun r1 m1 => if r1 = 0 then am_ev C 1025 71 [.ref 56] [] m1 else am_ev C 1025 75 [.ref 56] [.int (am_c 21)] m1)) := am_blk (b := [(.aload_n 0, 1), (.ldc 144, 2), (.invokevirtual 120, 3), (.ifCond .eq 8, 3), (.bipush 21, 2), (.goto 7, 3)]) rfl rfl (rfl : am_z 1025 = 0) _ _ _
set_option maxRecDepth 50000 in
theorem q1025_71 (C : am_Ct) (μ : am_Mem) : am_ev C 1025 71 [.ref 56] [] μ = (am_bI (C 1024 [.ref 56] μ) (fun r1 m1 => am_ev C 1025 75 [.ref 56] [.int r1] m1)) := am_blk (b := [(.aload_n 0, 1), (.invokevirtual 146, 3)]) rfl rfl (rfl : am_z 1025 = 0) _ _ _
set_option maxRecDepth 50000 in
theorem q1025_75 (C : am_Ct) (s0 : Int32) (μ : am_Mem) : am_ev C 1025 75 [.ref 56] [.int s0] μ = (am_ret (some (.int s0)) μ) := am_blk (b := [(.ireturn, 1)]) rfl rfl (rfl : am_z 1025 = 0) _ _ _
theorem e1025 (d : Nat) (μ : am_Mem) : am_call (d + 1) 1025 [.ref 56] μ = am_ev (am_call d) 1025 0 [.ref 56] [] μ := rfl
/-! NoWordTwiceModel.next0()V  -/
set_option maxRecDepth 50000 in
theorem q1026_0 (C : am_Ct) (x1 : Value) (x2 : Value) (μ : am_Mem) : am_ev C 1026 0 [.ref 56, x1, x2] [] μ = (am_bI (C 1020 [.ref 56, .int (μ 56 14)] μ) (fun r1 m1 => if r1 = (am_c 32) then am_ev C 1026 26 [.ref 56, x1, x2] [] m1 else am_bI (C 1020 [.ref 56, .int (m1 56 14)] m1) (fun r2 m2 => if r2 = (am_c 10) then am_ev C 1026 26 [.ref 56, x1, x2] [] m2 else am_ev C 1026 39 [.ref 56, x1, x2] [] m2))) := am_blk (b := [(.aload_n 0, 1), (.aload_n 0, 1), (.getfield 102, 3), (.invokevirtual 149, 3), (.bipush 32, 2), (.if_icmp .eq 16, 3), (.aload_n 0, 1), (.aload_n 0, 1), (.getfield 102, 3), (.invokevirtual 149, 3), (.bipush 10, 2), (.if_icmp .ne 16, 3)]) rfl rfl (rfl : am_z 1026 = 0) _ _ _
set_option maxRecDepth 50000 in
theorem q1026_26 (C : am_Ct) (x1 : Value) (x2 : Value) (μ : am_Mem) : am_ev C 1026 26 [.ref 56, x1, x2] [] μ = (am_ev C 1026 0 [.ref 56, x1, x2] [] (am_up μ 56 14 ((μ 56 14) + (am_c 1)))) := am_blk (b := [(.aload_n 0, 1), (.dup, 1), (.getfield 102, 3), (.iconst 1, 1), (.iadd, 1), (.putfield 102, 3), (.goto (-36), 3)]) rfl rfl (rfl : am_z 1026 = 0) _ _ _
set_option maxRecDepth 50000 in
theorem q1026_39 (C : am_Ct) (x1 : Value) (x2 : Value) (μ : am_Mem) : am_ev C 1026 39 [.ref 56, x1, x2] [] μ = (am_bI (C 1020 [.ref 56, .int ((am_up μ 56 16 (μ 56 14)) 56 14)] (am_up μ 56 16 (μ 56 14))) (fun r1 m1 => if r1 = (am_c (-1)) then am_ev C 1026 306 [.ref 56, .int r1, x2] [] (am_up m1 56 15 (am_c 0)) else am_ev C 1026 69 [.ref 56, .int r1, x2] [] m1)) := am_blk (b := [(.aload_n 0, 1), (.aload_n 0, 1), (.getfield 102, 3), (.putfield 105, 3), (.aload_n 0, 1), (.aload_n 0, 1), (.getfield 102, 3), (.invokevirtual 149, 3), (.istore_n 1, 1), (.iload_n 1, 1), (.iconst (-1), 1), (.if_icmp .ne 11, 3), (.aload_n 0, 1), (.iconst 0, 1), (.putfield 153, 3), (.goto 240, 3)]) rfl rfl (rfl : am_z 1026 = 0) _ _ _
set_option maxRecDepth 50000 in
theorem q1026_69 (C : am_Ct) (x1 : Int32) (x2 : Value) (μ : am_Mem) : am_ev C 1026 69 [.ref 56, .int x1, x2] [] μ = (am_bI (C 1021 [.int x1] μ) (fun r1 m1 => if r1 = 0 then am_ev C 1026 114 [.ref 56, .int x1, x2] [] m1 else am_ev C 1026 76 [.ref 56, .int x1, x2] [] m1)) := am_blk (b := [(.iload_n 1, 1), (.invokestatic 156, 3), (.ifCond .eq 41, 3)]) rfl rfl (rfl : am_z 1026 = 0) _ _ _
set_option maxRecDepth 50000 in
theorem q1026_76 (C : am_Ct) (x1 : Int32) (x2 : Value) (μ : am_Mem) : am_ev C 1026 76 [.ref 56, .int x1, x2] [] μ = (am_bI (C 1020 [.ref 56, .int (μ 56 14)] μ) (fun r1 m1 => am_bI (C 1021 [.int r1] m1) (fun r2 m2 => if r2 = 0 then am_ev C 1026 103 [.ref 56, .int x1, x2] [] m2 else am_ev C 1026 76 [.ref 56, .int x1, x2] [] (am_up m2 56 14 ((m2 56 14) + (am_c 1)))))) := am_blk (b := [(.aload_n 0, 1), (.aload_n 0, 1), (.getfield 102, 3), (.invokevirtual 149, 3), (.invokestatic 156, 3), (.ifCond .eq 16, 3), (.aload_n 0, 1), (.dup, 1), (.getfield 102, 3), (.iconst 1, 1), (.iadd, 1), (.putfield 102, 3), (.goto (-24), 3)]) rfl rfl (rfl : am_z 1026 = 0) _ _ _
set_option maxRecDepth 50000 in
theorem q1026_103 (C : am_Ct) (x1 : Int32) (x2 : Value) (μ : am_Mem) : am_ev C 1026 103 [.ref 56, .int x1, x2] [] μ = (am_bI (C 1025 [.ref 56] μ) (fun r1 m1 => am_ev C 1026 306 [.ref 56, .int x1, x2] [] (am_up m1 56 15 r1))) := am_blk (b := [(.aload_n 0, 1), (.aload_n 0, 1), (.invokevirtual 159, 3), (.putfield 153, 3), (.goto 195, 3)]) rfl rfl (rfl : am_z 1026 = 0) _ _ _
set_option maxRecDepth 50000 in
theorem q1026_114 (C : am_Ct) (x1 : Int32) (x2 : Value) (μ : am_Mem) : am_ev C 1026 114 [.ref 56, .int x1, x2] [] μ = (am_bI (C 1022 [.int x1] μ) (fun r1 m1 => if r1 = 0 then am_ev C 1026 214 [.ref 56, .int x1, x2] [] m1 else am_ev C 1026 126 [.ref 56, .int x1, x2] [] (am_up m1 56 17 (am_c 0)))) := am_blk (b := [(.iload_n 1, 1), (.invokestatic 162, 3), (.ifCond .eq 96, 3), (.aload_n 0, 1), (.iconst 0, 1), (.putfield 165, 3)]) rfl rfl (rfl : am_z 1026 = 0) _ _ _
set_option maxRecDepth 50000 in
theorem q1026_126 (C : am_Ct) (x1 : Int32) (x2 : Value) (μ : am_Mem) : am_ev C 1026 126 [.ref 56, .int x1, x2] [] μ = (am_bI (C 1020 [.ref 56, .int (μ 56 14)] μ) (fun r1 m1 => am_bI (C 1022 [.int r1] m1) (fun r2 m2 => if r2 = 0 then am_ev C 1026 189 [.ref 56, .int x1, x2] [] m2 else if ((m2 56 16) + (am_c 4)) ≤ (m2 56 14) then am_ev C 1026 176 [.ref 56, .int x1, x2] [] m2 else am_bI (C 1020 [.ref 56, .int (m2 56 14)] m2) (fun r3 m3 => am_ev C 1026 176 [.ref 56, .int x1, x2] [] (am_up m3 56 17 ((((am_c 10) * (m2 56 17)) + r3) - (am_c 48))))))) := am_blk (b := [(.aload_n 0, 1), (.aload_n 0, 1), (.getfield 102, 3), (.invokevirtual 149, 3), (.invokestatic 162, 3), (.ifCond .eq 52, 3), (.aload_n 0, 1), (.getfield 102, 3), (.aload_n 0, 1), (.getfield 105, 3), (.iconst 4, 1), (.iadd, 1), (.if_icmp .ge 26, 3), (.aload_n 0, 1), (.bipush 10, 2), (.aload_n 0, 1), (.getfield 165, 3), (.imul, 1), (.aload_n 0, 1), (.aload_n 0, 1), (.getfield 102, 3), (.invokevirtual 149, 3), (.iadd, 1), (.bipush 48, 2), (.isub, 1), (.putfield 165, 3)]) rfl rfl (rfl : am_z 1026 = 0) _ _ _
set_option maxRecDepth 50000 in
theorem q1026_176 (C : am_Ct) (x1 : Int32) (x2 : Value) (μ : am_Mem) : am_ev C 1026 176 [.ref 56, .int x1, x2] [] μ = (am_ev C 1026 126 [.ref 56, .int x1, x2] [] (am_up μ 56 14 ((μ 56 14) + (am_c 1)))) := am_blk (b := [(.aload_n 0, 1), (.dup, 1), (.getfield 102, 3), (.iconst 1, 1), (.iadd, 1), (.putfield 102, 3), (.goto (-60), 3)]) rfl rfl (rfl : am_z 1026 = 0) _ _ _
set_option maxRecDepth 50000 in
theorem q1026_189 (C : am_Ct) (x1 : Int32) (x2 : Value) (μ : am_Mem) : am_ev C 1026 189 [.ref 56, .int x1, x2] [] μ = (if (am_c 5) ≤ ((μ 56 14) - (μ 56 16)) then am_ev C 1026 207 [.ref 56, .int x1, x2] [.ref 56] μ else am_ev C 1026 208 [.ref 56, .int x1, x2] [.int (am_c 2), .ref 56] μ) := am_blk (b := [(.aload_n 0, 1), (.aload_n 0, 1), (.getfield 102, 3), (.aload_n 0, 1), (.getfield 105, 3), (.isub, 1), (.iconst 5, 1), (.if_icmp .ge 7, 3), (.iconst 2, 1), (.goto 4, 3)]) rfl rfl (rfl : am_z 1026 = 0) _ _ _
set_option maxRecDepth 50000 in
theorem q1026_207 (C : am_Ct) (x1 : Int32) (x2 : Value) (μ : am_Mem) : am_ev C 1026 207 [.ref 56, .int x1, x2] [.ref 56] μ = (am_ev C 1026 208 [.ref 56, .int x1, x2] [.int (am_c 1), .ref 56] μ) := am_blk (b := [(.iconst 1, 1)]) rfl rfl (rfl : am_z 1026 = 0) _ _ _
set_option maxRecDepth 50000 in
theorem q1026_208 (C : am_Ct) (x1 : Int32) (x2 : Value) (s0 : Int32) (μ : am_Mem) : am_ev C 1026 208 [.ref 56, .int x1, x2] [.int s0, .ref 56] μ = (am_ev C 1026 306 [.ref 56, .int x1, x2] [] (am_up μ 56 15 s0)) := am_blk (b := [(.putfield 153, 3), (.goto 95, 3)]) rfl rfl (rfl : am_z 1026 = 0) _ _ _
set_option maxRecDepth 50000 in
theorem q1026_214 (C : am_Ct) (x1 : Int32) (x2 : Value) (μ : am_Mem) : am_ev C 1026 214 [.ref 56, .int x1, x2] [] μ = (if x1 = (am_c 59) then am_ev C 1026 284 [.ref 56, .int x1, x2] [] (am_up μ 56 14 ((μ 56 14) + (am_c 1))) else if x1 = (am_c 43) then am_ev C 1026 284 [.ref 56, .int x1, x2] [] (am_up μ 56 14 ((μ 56 14) + (am_c 1))) else if x1 = (am_c 45) then am_ev C 1026 284 [.ref 56, .int x1, x2] [] (am_up μ 56 14 ((μ 56 14) + (am_c 1))) else if x1 = (am_c 42) then am_ev C 1026 284 [.ref 56, .int x1, x2] [] (am_up μ 56 14 ((μ 56 14) + (am_c 1))) else if x1 = (am_c 47) then am_ev C 1026 284 [.ref 56, .int x1, x2] [] (am_up μ 56 14 ((μ 56 14) + (am_c 1))) else if x1 = (am_c 40) then am_ev C 1026 284 [.ref 56, .int x1, x2] [] (am_up μ 56 14 ((μ 56 14) + (am_c 1))) else if x1 = (am_c 41) then am_ev C 1026 284 [.ref 56, .int x1, x2] [] (am_up μ 56 14 ((μ 56 14) + (am_c 1))) else if x1 = (am_c 60) then am_ev C 1026 284 [.ref 56, .int x1, x2] [] (am_up μ 56 14 ((μ 56 14) + (am_c 1))) else if x1 = (am_c 61) then am_ev C 1026 284 [.ref 56, .int x1, x2] [] (am_up μ 56 14 ((μ 56 14) + (am_c 1))) else if x1 = (am_c 62) then am_ev C 1026 284 [.ref 56, .int x1, x2] [] (am_up μ 56 14 ((μ 56 14) + (am_c 1))) else am_ev C 1026 288 [.ref 56, .int x1, x2] [] (am_up μ 56 14 ((μ 56 14) + (am_c 1)))) := am_blk (b := [(.aload_n 0, 1), (.dup, 1), (.getfield 102, 3), (.iconst 1, 1), (.iadd, 1), (.putfield 102, 3), (.iload_n 1, 1), (.bipush 59, 2), (.if_icmp .eq 57, 3), (.iload_n 1, 1), (.bipush 43, 2), (.if_icmp .eq 51, 3), (.iload_n 1, 1), (.bipush 45, 2), (.if_icmp .eq 45, 3), (.iload_n 1, 1), (.bipush 42, 2), (.if_icmp .eq 39, 3), (.iload_n 1, 1), (.bipush 47, 2), (.if_icmp .eq 33, 3), (.iload_n 1, 1), (.bipush 40, 2), (.if_icmp .eq 27, 3), (.iload_n 1, 1), (.bipush 41, 2), (.if_icmp .eq 21, 3), (.iload_n 1, 1), (.bipush 60, 2), (.if_icmp .eq 15, 3), (.iload_n 1, 1), (.bipush 61, 2), (.if_icmp .eq 9, 3), (.iload_n 1, 1), (.bipush 62, 2), (.if_icmp .ne 7, 3)]) rfl rfl (rfl : am_z 1026 = 0) _ _ _
set_option maxRecDepth 50000 in
theorem q1026_284 (C : am_Ct) (x1 : Int32) (x2 : Value) (μ : am_Mem) : am_ev C 1026 284 [.ref 56, .int x1, x2] [] μ = (am_ev C 1026 289 [.ref 56, .int x1, x2] [.int (am_c 1)] μ) := am_blk (b := [(.iconst 1, 1), (.goto 4, 3)]) rfl rfl (rfl : am_z 1026 = 0) _ _ _
set_option maxRecDepth 50000 in
theorem q1026_288 (C : am_Ct) (x1 : Int32) (x2 : Value) (μ : am_Mem) : am_ev C 1026 288 [.ref 56, .int x1, x2] [] μ = (am_ev C 1026 289 [.ref 56, .int x1, x2] [.int (am_c 0)] μ) := am_blk (b := [(.iconst 0, 1)]) rfl rfl (rfl : am_z 1026 = 0) _ _ _
set_option maxRecDepth 50000 in
theorem q1026_289 (C : am_Ct) (x1 : Int32) (x2 : Value) (s0 : Int32) (μ : am_Mem) : am_ev C 1026 289 [.ref 56, .int x1, x2] [.int s0] μ = (if s0 = 0 then am_ev C 1026 302 [.ref 56, .int x1, .int s0] [.ref 56] μ else am_ev C 1026 303 [.ref 56, .int x1, .int s0] [.int ((am_c 100) + x1), .ref 56] μ) := am_blk (b := [(.istore_n 2, 1), (.aload_n 0, 1), (.iload_n 2, 1), (.ifCond .eq 10, 3), (.bipush 100, 2), (.iload_n 1, 1), (.iadd, 1), (.goto 4, 3)]) rfl rfl (rfl : am_z 1026 = 0) _ _ _
set_option maxRecDepth 50000 in
theorem q1026_302 (C : am_Ct) (x1 : Int32) (x2 : Int32) (μ : am_Mem) : am_ev C 1026 302 [.ref 56, .int x1, .int x2] [.ref 56] μ = (am_ev C 1026 303 [.ref 56, .int x1, .int x2] [.int (am_c 1), .ref 56] μ) := am_blk (b := [(.iconst 1, 1)]) rfl rfl (rfl : am_z 1026 = 0) _ _ _
set_option maxRecDepth 50000 in
theorem q1026_303 (C : am_Ct) (x1 : Int32) (x2 : Int32) (s0 : Int32) (μ : am_Mem) : am_ev C 1026 303 [.ref 56, .int x1, .int x2] [.int s0, .ref 56] μ = (am_ev C 1026 306 [.ref 56, .int x1, .int x2] [] (am_up μ 56 15 s0)) := am_blk (b := [(.putfield 153, 3)]) rfl rfl (rfl : am_z 1026 = 0) _ _ _
set_option maxRecDepth 50000 in
theorem q1026_306 (C : am_Ct) (x1 : Int32) (x2 : Value) (μ : am_Mem) : am_ev C 1026 306 [.ref 56, .int x1, x2] [] μ = (am_ret none μ) := am_blk (b := [(.return_, 1)]) rfl rfl (rfl : am_z 1026 = 0) _ _ _
theorem e1026 (d : Nat) (μ : am_Mem) : am_call (d + 1) 1026 [.ref 56] μ = am_ev (am_call d) 1026 0 [.ref 56, .null, .null] [] μ := rfl
/-! NoWordTwiceModel.bad(I)Z  -/
set_option maxRecDepth 50000 in
theorem q1027_0 (C : am_Ct) (x1 : Int32) (μ : am_Mem) : am_ev C 1027 0 [.ref 56, .int x1] [] μ = (am_ret (some (.int (am_c 0))) (am_up (am_up μ 56 18 x1) 56 19 ((am_up μ 56 18 x1) 56 16))) := am_blk (b := [(.aload_n 0, 1), (.iload_n 1, 1), (.putfield 168, 3), (.aload_n 0, 1), (.aload_n 0, 1), (.getfield 105, 3), (.putfield 171, 3), (.iconst 0, 1), (.ireturn, 1)]) rfl rfl (rfl : am_z 1027 = 2) _ _ _
theorem e1027 (d : Nat) (x1 : Int32) (μ : am_Mem) : am_call (d + 1) 1027 [.ref 56, .int x1] μ = am_ev (am_call d) 1027 0 [.ref 56, .int x1] [] μ := rfl
/-! NoWordTwiceModel.need(I)Z  -/
set_option maxRecDepth 50000 in
theorem q1028_0 (C : am_Ct) (x1 : Int32) (μ : am_Mem) : am_ev C 1028 0 [.ref 56, .int x1] [] μ = (if (μ 56 15) = x1 then am_ev C 1028 14 [.ref 56, .int x1] [] μ else am_bI (C 1027 [.ref 56, .int (am_c 1)] μ) (fun r1 m1 => am_gb (Nat.blt (am_ix r1) 2) (am_ret (some (.int r1)) m1))) := am_blk (b := [(.aload_n 0, 1), (.getfield 153, 3), (.iload_n 1, 1), (.if_icmp .eq 9, 3), (.aload_n 0, 1), (.iconst 1, 1), (.invokevirtual 174, 3), (.ireturn, 1)]) rfl rfl (rfl : am_z 1028 = 2) _ _ _
set_option maxRecDepth 50000 in
theorem q1028_14 (C : am_Ct) (x1 : Int32) (μ : am_Mem) : am_ev C 1028 14 [.ref 56, .int x1] [] μ = (am_bV (C 1026 [.ref 56] μ) (fun m1 => am_ret (some (.int (am_c 1))) m1)) := am_blk (b := [(.aload_n 0, 1), (.invokevirtual 177, 3), (.iconst 1, 1), (.ireturn, 1)]) rfl rfl (rfl : am_z 1028 = 2) _ _ _
theorem e1028 (d : Nat) (x1 : Int32) (μ : am_Mem) : am_call (d + 1) 1028 [.ref 56, .int x1] μ = am_ev (am_call d) 1028 0 [.ref 56, .int x1] [] μ := rfl
/-! NoWordTwiceModel.lay(II)V  -/
set_option maxRecDepth 50000 in
theorem q1029_0 (C : am_Ct) (x1 : Int32) (x2 : Int32) (μ : am_Mem) : am_ev C 1029 0 [.ref 56, .int x1, .int x2] [] μ = (am_gb (Nat.blt (am_ix ((am_c 2) * (μ 56 12))) 820) (am_gb (Nat.blt (am_ix (((am_c 2) * ((am_up μ 62 (am_ix ((am_c 2) * (μ 56 12))) x1) 56 12)) + (am_c 1))) 820) (am_ret none (am_up (am_up (am_up μ 62 (am_ix ((am_c 2) * (μ 56 12))) x1) 62 (am_ix (((am_c 2) * ((am_up μ 62 (am_ix ((am_c 2) * (μ 56 12))) x1) 56 12)) + (am_c 1))) x2) 56 12 (((am_up (am_up μ 62 (am_ix ((am_c 2) * (μ 56 12))) x1) 62 (am_ix (((am_c 2) * ((am_up μ 62 (am_ix ((am_c 2) * (μ 56 12))) x1) 56 12)) + (am_c 1))) x2) 56 12) + (am_c 1)))))) := am_blk (b := [(.aload_n 0, 1), (.getfield 25, 3), (.iconst 2, 1), (.aload_n 0, 1), (.getfield 180, 3), (.imul, 1), (.iload_n 1, 1), (.iastore, 1), (.aload_n 0, 1), (.getfield 25, 3), (.iconst 2, 1), (.aload_n 0, 1), (.getfield 180, 3), (.imul, 1), (.iconst 1, 1), (.iadd, 1), (.iload_n 2, 1), (.iastore, 1), (.aload_n 0, 1), (.dup, 1), (.getfield 180, 3), (.iconst 1, 1), (.iadd, 1), (.putfield 180, 3), (.return_, 1)]) rfl rfl (rfl : am_z 1029 = 0) _ _ _
theorem e1029 (d : Nat) (x1 : Int32) (x2 : Int32) (μ : am_Mem) : am_call (d + 1) 1029 [.ref 56, .int x1, .int x2] μ = am_ev (am_call d) 1029 0 [.ref 56, .int x1, .int x2] [] μ := rfl
/-! NoWordTwiceModel.opens()Z  -/
set_option maxRecDepth 50000 in
theorem q1030_0 (C : am_Ct) (μ : am_Mem) : am_ev C 1030 0 [.ref 56] [] μ = (if (μ 56 21) = (am_c 8) then am_bI (C 1027 [.ref 56, .int (am_c 3)] μ) (fun r1 m1 => am_gb (Nat.blt (am_ix r1) 2) (am_ret (some (.int r1)) m1)) else am_ev C 1030 15 [.ref 56] [] μ) := am_blk (b := [(.aload_n 0, 1), (.getfield 183, 3), (.bipush 8, 2), (.if_icmp .ne 9, 3), (.aload_n 0, 1), (.iconst 3, 1), (.invokevirtual 174, 3), (.ireturn, 1)]) rfl rfl (rfl : am_z 1030 = 2) _ _ _
set_option maxRecDepth 50000 in
theorem q1030_15 (C : am_Ct) (μ : am_Mem) : am_ev C 1030 15 [.ref 56] [] μ = (am_bV (C 1026 [.ref 56] (am_up μ 56 21 ((μ 56 21) + (am_c 1)))) (fun m1 => am_ret (some (.int (am_c 1))) m1)) := am_blk (b := [(.aload_n 0, 1), (.dup, 1), (.getfield 183, 3), (.iconst 1, 1), (.iadd, 1), (.putfield 183, 3), (.aload_n 0, 1), (.invokevirtual 177, 3), (.iconst 1, 1), (.ireturn, 1)]) rfl rfl (rfl : am_z 1030 = 2) _ _ _
theorem e1030 (d : Nat) (μ : am_Mem) : am_call (d + 1) 1030 [.ref 56] μ = am_ev (am_call d) 1030 0 [.ref 56] [] μ := rfl
/-! NoWordTwiceModel.sumUp()Z  -/
set_option maxRecDepth 50000 in
theorem q1031_0 (C : am_Ct) (x1 : Value) (μ : am_Mem) : am_ev C 1031 0 [.ref 56, x1] [] μ = (am_bI (C 1032 [.ref 56] μ) (fun r1 m1 => if r1 = 0 then am_ret (some (.int (am_c 0))) m1 else am_ev C 1031 9 [.ref 56, x1] [] m1)) := am_blk (b := [(.aload_n 0, 1), (.invokevirtual 186, 3), (.ifCond .ne 5, 3), (.iconst 0, 1), (.ireturn, 1)]) rfl rfl (rfl : am_z 1031 = 2) _ _ _
set_option maxRecDepth 50000 in
theorem q1031_9 (C : am_Ct) (x1 : Value) (μ : am_Mem) : am_ev C 1031 9 [.ref 56, x1] [] μ = (if (μ 56 15) = (am_c 143) then am_ev C 1031 29 [.ref 56, x1] [] μ else if (μ 56 15) = (am_c 145) then am_ev C 1031 29 [.ref 56, x1] [] μ else am_ev C 1031 69 [.ref 56, x1] [] μ) := am_blk (b := [(.aload_n 0, 1), (.getfield 153, 3), (.sipush 143, 3), (.if_icmp .eq 13, 3), (.aload_n 0, 1), (.getfield 153, 3), (.sipush 145, 3), (.if_icmp .ne 43, 3)]) rfl rfl (rfl : am_z 1031 = 2) _ _ _
set_option maxRecDepth 50000 in
theorem q1031_29 (C : am_Ct) (x1 : Value) (μ : am_Mem) : am_ev C 1031 29 [.ref 56, x1] [] μ = (if (μ 56 15) = (am_c 143) then am_ev C 1031 46 [.ref 56, x1] [.int (am_c 13)] μ else am_ev C 1031 44 [.ref 56, x1] [] μ) := am_blk (b := [(.aload_n 0, 1), (.getfield 153, 3), (.sipush 143, 3), (.if_icmp .ne 8, 3), (.bipush 13, 2), (.goto 5, 3)]) rfl rfl (rfl : am_z 1031 = 2) _ _ _
set_option maxRecDepth 50000 in
theorem q1031_44 (C : am_Ct) (x1 : Value) (μ : am_Mem) : am_ev C 1031 44 [.ref 56, x1] [] μ = (am_ev C 1031 46 [.ref 56, x1] [.int (am_c 14)] μ) := am_blk (b := [(.bipush 14, 2)]) rfl rfl (rfl : am_z 1031 = 2) _ _ _
set_option maxRecDepth 50000 in
theorem q1031_46 (C : am_Ct) (x1 : Value) (s0 : Int32) (μ : am_Mem) : am_ev C 1031 46 [.ref 56, x1] [.int s0] μ = (am_bV (C 1026 [.ref 56] μ) (fun m1 => am_bI (C 1032 [.ref 56] m1) (fun r2 m2 => if r2 = 0 then am_ret (some (.int (am_c 0))) m2 else am_ev C 1031 60 [.ref 56, .int s0] [] m2))) := am_blk (b := [(.istore_n 1, 1), (.aload_n 0, 1), (.invokevirtual 177, 3), (.aload_n 0, 1), (.invokevirtual 186, 3), (.ifCond .ne 5, 3), (.iconst 0, 1), (.ireturn, 1)]) rfl rfl (rfl : am_z 1031 = 2) _ _ _
set_option maxRecDepth 50000 in
theorem q1031_60 (C : am_Ct) (x1 : Int32) (μ : am_Mem) : am_ev C 1031 60 [.ref 56, .int x1] [] μ = (am_bV (C 1029 [.ref 56, .int x1, .int (am_c 0)] μ) (fun m1 => am_ev C 1031 9 [.ref 56, .int x1] [] m1)) := am_blk (b := [(.aload_n 0, 1), (.iload_n 1, 1), (.iconst 0, 1), (.invokevirtual 190, 3), (.goto (-57), 3)]) rfl rfl (rfl : am_z 1031 = 2) _ _ _
set_option maxRecDepth 50000 in
theorem q1031_69 (C : am_Ct) (x1 : Value) (μ : am_Mem) : am_ev C 1031 69 [.ref 56, x1] [] μ = (am_ret (some (.int (am_c 1))) μ) := am_blk (b := [(.iconst 1, 1), (.ireturn, 1)]) rfl rfl (rfl : am_z 1031 = 2) _ _ _
theorem e1031 (d : Nat) (μ : am_Mem) : am_call (d + 1) 1031 [.ref 56] μ = am_ev (am_call d) 1031 0 [.ref 56, .null] [] μ := rfl
/-! NoWordTwiceModel.product()Z  -/
set_option maxRecDepth 50000 in
theorem q1032_0 (C : am_Ct) (x1 : Value) (x2 : Value) (μ : am_Mem) : am_ev C 1032 0 [.ref 56, x1, x2] [] μ = (am_bI (C 1033 [.ref 56] μ) (fun r1 m1 => if r1 = 0 then am_ret (some (.int (am_c 0))) m1 else am_ev C 1032 9 [.ref 56, x1, x2] [] m1)) := am_blk (b := [(.aload_n 0, 1), (.invokevirtual 193, 3), (.ifCond .ne 5, 3), (.iconst 0, 1), (.ireturn, 1)]) rfl rfl (rfl : am_z 1032 = 2) _ _ _
set_option maxRecDepth 50000 in
theorem q1032_9 (C : am_Ct) (x1 : Value) (x2 : Value) (μ : am_Mem) : am_ev C 1032 9 [.ref 56, x1, x2] [] μ = (if (μ 56 15) = (am_c 142) then am_ev C 1032 29 [.ref 56, x1, x2] [] μ else if (μ 56 15) = (am_c 147) then am_ev C 1032 29 [.ref 56, x1, x2] [] μ else am_ev C 1032 115 [.ref 56, x1, x2] [] μ) := am_blk (b := [(.aload_n 0, 1), (.getfield 153, 3), (.sipush 142, 3), (.if_icmp .eq 13, 3), (.aload_n 0, 1), (.getfield 153, 3), (.sipush 147, 3), (.if_icmp .ne 89, 3)]) rfl rfl (rfl : am_z 1032 = 2) _ _ _
set_option maxRecDepth 50000 in
theorem q1032_29 (C : am_Ct) (x1 : Value) (x2 : Value) (μ : am_Mem) : am_ev C 1032 29 [.ref 56, x1, x2] [] μ = (if (μ 56 15) = (am_c 147) then am_ev C 1032 44 [.ref 56, x1, x2] [.int (am_c 1)] μ else am_ev C 1032 43 [.ref 56, x1, x2] [] μ) := am_blk (b := [(.aload_n 0, 1), (.getfield 153, 3), (.sipush 147, 3), (.if_icmp .ne 7, 3), (.iconst 1, 1), (.goto 4, 3)]) rfl rfl (rfl : am_z 1032 = 2) _ _ _
set_option maxRecDepth 50000 in
theorem q1032_43 (C : am_Ct) (x1 : Value) (x2 : Value) (μ : am_Mem) : am_ev C 1032 43 [.ref 56, x1, x2] [] μ = (am_ev C 1032 44 [.ref 56, x1, x2] [.int (am_c 0)] μ) := am_blk (b := [(.iconst 0, 1)]) rfl rfl (rfl : am_z 1032 = 2) _ _ _
set_option maxRecDepth 50000 in
theorem q1032_44 (C : am_Ct) (x1 : Value) (x2 : Value) (s0 : Int32) (μ : am_Mem) : am_ev C 1032 44 [.ref 56, x1, x2] [.int s0] μ = (am_bV (C 1026 [.ref 56] μ) (fun m1 => if s0 = 0 then am_ev C 1032 96 [.ref 56, .int s0, x2] [] m1 else if (m1 56 15) = (am_c 2) then am_ev C 1032 72 [.ref 56, .int s0, .int (m1 56 17)] [] m1 else am_bI (C 1027 [.ref 56, .int (am_c 1)] m1) (fun r2 m2 => am_gb (Nat.blt (am_ix r2) 2) (am_ret (some (.int r2)) m2)))) := am_blk (b := [(.istore_n 1, 1), (.aload_n 0, 1), (.invokevirtual 177, 3), (.iload_n 1, 1), (.ifCond .eq 46, 3), (.aload_n 0, 1), (.getfield 165, 3), (.istore_n 2, 1), (.aload_n 0, 1), (.getfield 153, 3), (.iconst 2, 1), (.if_icmp .eq 9, 3), (.aload_n 0, 1), (.iconst 1, 1), (.invokevirtual 174, 3), (.ireturn, 1)]) rfl rfl (rfl : am_z 1032 = 2) _ _ _
set_option maxRecDepth 50000 in
theorem q1032_72 (C : am_Ct) (x1 : Int32) (x2 : Int32) (μ : am_Mem) : am_ev C 1032 72 [.ref 56, .int x1, .int x2] [] μ = (if x2 = 0 then am_bI (C 1027 [.ref 56, .int (am_c 2)] μ) (fun r1 m1 => am_gb (Nat.blt (am_ix r1) 2) (am_ret (some (.int r1)) m1)) else am_ev C 1032 82 [.ref 56, .int x1, .int x2] [] μ) := am_blk (b := [(.iload_n 2, 1), (.ifCond .ne 9, 3), (.aload_n 0, 1), (.iconst 2, 1), (.invokevirtual 174, 3), (.ireturn, 1)]) rfl rfl (rfl : am_z 1032 = 2) _ _ _
set_option maxRecDepth 50000 in
theorem q1032_82 (C : am_Ct) (x1 : Int32) (x2 : Int32) (μ : am_Mem) : am_ev C 1032 82 [.ref 56, .int x1, .int x2] [] μ = (am_bV (C 1026 [.ref 56] μ) (fun m1 => am_bV (C 1029 [.ref 56, .int (am_c 16), .int x2] m1) (fun m2 => am_ev C 1032 112 [.ref 56, .int x1, .int x2] [] m2))) := am_blk (b := [(.aload_n 0, 1), (.invokevirtual 177, 3), (.aload_n 0, 1), (.bipush 16, 2), (.iload_n 2, 1), (.invokevirtual 190, 3), (.goto 19, 3)]) rfl rfl (rfl : am_z 1032 = 2) _ _ _
set_option maxRecDepth 50000 in
theorem q1032_96 (C : am_Ct) (x1 : Int32) (x2 : Value) (μ : am_Mem) : am_ev C 1032 96 [.ref 56, .int x1, x2] [] μ = (am_bI (C 1033 [.ref 56] μ) (fun r1 m1 => if r1 = 0 then am_ret (some (.int (am_c 0))) m1 else am_ev C 1032 105 [.ref 56, .int x1, x2] [] m1)) := am_blk (b := [(.aload_n 0, 1), (.invokevirtual 193, 3), (.ifCond .ne 5, 3), (.iconst 0, 1), (.ireturn, 1)]) rfl rfl (rfl : am_z 1032 = 2) _ _ _
set_option maxRecDepth 50000 in
theorem q1032_105 (C : am_Ct) (x1 : Int32) (x2 : Value) (μ : am_Mem) : am_ev C 1032 105 [.ref 56, .int x1, x2] [] μ = (am_bV (C 1029 [.ref 56, .int (am_c 15), .int (am_c 0)] μ) (fun m1 => am_ev C 1032 112 [.ref 56, .int x1, x2] [] m1)) := am_blk (b := [(.aload_n 0, 1), (.bipush 15, 2), (.iconst 0, 1), (.invokevirtual 190, 3)]) rfl rfl (rfl : am_z 1032 = 2) _ _ _
set_option maxRecDepth 50000 in
theorem q1032_112 (C : am_Ct) (x1 : Int32) (x2 : Value) (μ : am_Mem) : am_ev C 1032 112 [.ref 56, .int x1, x2] [] μ = (am_ev C 1032 9 [.ref 56, .int x1, x2] [] μ) := am_blk (b := [(.goto (-103), 3)]) rfl rfl (rfl : am_z 1032 = 2) _ _ _
set_option maxRecDepth 50000 in
theorem q1032_115 (C : am_Ct) (x1 : Value) (x2 : Value) (μ : am_Mem) : am_ev C 1032 115 [.ref 56, x1, x2] [] μ = (am_ret (some (.int (am_c 1))) μ) := am_blk (b := [(.iconst 1, 1), (.ireturn, 1)]) rfl rfl (rfl : am_z 1032 = 2) _ _ _
theorem e1032 (d : Nat) (μ : am_Mem) : am_call (d + 1) 1032 [.ref 56] μ = am_ev (am_call d) 1032 0 [.ref 56, .null, .null] [] μ := rfl
/-! NoWordTwiceModel.unit()Z  -/
set_option maxRecDepth 50000 in
theorem q1033_0 (C : am_Ct) (x1 : Value) (μ : am_Mem) : am_ev C 1033 0 [.ref 56, x1] [] μ = (am_bI (C 1001 [.int (μ 56 15), .int (am_c 41), .int (am_c 46)] μ) (fun r1 m1 => if (m1 56 15) = (am_c 2) then am_ev C 1033 30 [.ref 56, .int r1] [] m1 else if r1 = 0 then am_bI (C 1027 [.ref 56, .int (am_c 1)] m1) (fun r2 m2 => am_gb (Nat.blt (am_ix r2) 2) (am_ret (some (.int r2)) m2)) else am_ev C 1033 30 [.ref 56, .int r1] [] m1)) := am_blk (b := [(.aload_n 0, 1), (.getfield 153, 3), (.bipush 41, 2), (.bipush 46, 2), (.invokestatic 64, 3), (.istore_n 1, 1), (.aload_n 0, 1), (.getfield 153, 3), (.iconst 2, 1), (.if_icmp .eq 13, 3), (.iload_n 1, 1), (.ifCond .ne 9, 3), (.aload_n 0, 1), (.iconst 1, 1), (.invokevirtual 174, 3), (.ireturn, 1)]) rfl rfl (rfl : am_z 1033 = 2) _ _ _
set_option maxRecDepth 50000 in
theorem q1033_30 (C : am_Ct) (x1 : Int32) (μ : am_Mem) : am_ev C 1033 30 [.ref 56, .int x1] [] μ = (if x1 = 0 then am_ev C 1033 45 [.ref 56, .int x1] [.ref 56] μ else am_ev C 1033 46 [.ref 56, .int x1] [.int ((μ 56 15) - (am_c 40)), .ref 56] μ) := am_blk (b := [(.aload_n 0, 1), (.iload_n 1, 1), (.ifCond .eq 13, 3), (.aload_n 0, 1), (.getfield 153, 3), (.bipush 40, 2), (.isub, 1), (.goto 4, 3)]) rfl rfl (rfl : am_z 1033 = 2) _ _ _
set_option maxRecDepth 50000 in
theorem q1033_45 (C : am_Ct) (x1 : Int32) (μ : am_Mem) : am_ev C 1033 45 [.ref 56, .int x1] [.ref 56] μ = (am_ev C 1033 46 [.ref 56, .int x1] [.int (am_c 0), .ref 56] μ) := am_blk (b := [(.iconst 0, 1)]) rfl rfl (rfl : am_z 1033 = 2) _ _ _
set_option maxRecDepth 50000 in
theorem q1033_46 (C : am_Ct) (x1 : Int32) (s0 : Int32) (μ : am_Mem) : am_ev C 1033 46 [.ref 56, .int x1] [.int s0, .ref 56] μ = (am_bV (C 1029 [.ref 56, .int s0, .int (μ 56 17)] μ) (fun m1 => am_bV (C 1026 [.ref 56] m1) (fun m2 => am_ret (some (.int (am_c 1))) m2))) := am_blk (b := [(.aload_n 0, 1), (.getfield 165, 3), (.invokevirtual 190, 3), (.aload_n 0, 1), (.invokevirtual 177, 3), (.iconst 1, 1), (.ireturn, 1)]) rfl rfl (rfl : am_z 1033 = 2) _ _ _
theorem e1033 (d : Nat) (μ : am_Mem) : am_call (d + 1) 1033 [.ref 56] μ = am_ev (am_call d) 1033 0 [.ref 56, .null] [] μ := rfl
/-! NoWordTwiceModel.any()Z  -/
set_option maxRecDepth 50000 in
theorem q1034_0 (C : am_Ct) (μ : am_Mem) : am_ev C 1034 0 [.ref 56] [] μ = (am_bI (C 1035 [.ref 56] μ) (fun r1 m1 => if r1 = 0 then am_ret (some (.int (am_c 0))) m1 else am_ev C 1034 9 [.ref 56] [] m1)) := am_blk (b := [(.aload_n 0, 1), (.invokevirtual 196, 3), (.ifCond .ne 5, 3), (.iconst 0, 1), (.ireturn, 1)]) rfl rfl (rfl : am_z 1034 = 2) _ _ _
set_option maxRecDepth 50000 in
theorem q1034_9 (C : am_Ct) (μ : am_Mem) : am_ev C 1034 9 [.ref 56] [] μ = (if (μ 56 15) = (am_c 4) then am_bV (C 1026 [.ref 56] μ) (fun m1 => am_bI (C 1035 [.ref 56] m1) (fun r2 m2 => if r2 = 0 then am_ret (some (.int (am_c 0))) m2 else am_ev C 1034 30 [.ref 56] [] m2)) else am_ev C 1034 40 [.ref 56] [] μ) := am_blk (b := [(.aload_n 0, 1), (.getfield 153, 3), (.iconst 4, 1), (.if_icmp .ne 26, 3), (.aload_n 0, 1), (.invokevirtual 177, 3), (.aload_n 0, 1), (.invokevirtual 196, 3), (.ifCond .ne 5, 3), (.iconst 0, 1), (.ireturn, 1)]) rfl rfl (rfl : am_z 1034 = 2) _ _ _
set_option maxRecDepth 50000 in
theorem q1034_30 (C : am_Ct) (μ : am_Mem) : am_ev C 1034 30 [.ref 56] [] μ = (am_bV (C 1029 [.ref 56, .int (am_c 22), .int (am_c 0)] μ) (fun m1 => am_ev C 1034 9 [.ref 56] [] m1)) := am_blk (b := [(.aload_n 0, 1), (.bipush 22, 2), (.iconst 0, 1), (.invokevirtual 190, 3), (.goto (-28), 3)]) rfl rfl (rfl : am_z 1034 = 2) _ _ _
set_option maxRecDepth 50000 in
theorem q1034_40 (C : am_Ct) (μ : am_Mem) : am_ev C 1034 40 [.ref 56] [] μ = (am_ret (some (.int (am_c 1))) μ) := am_blk (b := [(.iconst 1, 1), (.ireturn, 1)]) rfl rfl (rfl : am_z 1034 = 2) _ _ _
theorem e1034 (d : Nat) (μ : am_Mem) : am_call (d + 1) 1034 [.ref 56] μ = am_ev (am_call d) 1034 0 [.ref 56] [] μ := rfl
/-! NoWordTwiceModel.every()Z  -/
set_option maxRecDepth 50000 in
theorem q1035_0 (C : am_Ct) (μ : am_Mem) : am_ev C 1035 0 [.ref 56] [] μ = (am_bI (C 1036 [.ref 56] μ) (fun r1 m1 => if r1 = 0 then am_ret (some (.int (am_c 0))) m1 else am_ev C 1035 9 [.ref 56] [] m1)) := am_blk (b := [(.aload_n 0, 1), (.invokevirtual 199, 3), (.ifCond .ne 5, 3), (.iconst 0, 1), (.ireturn, 1)]) rfl rfl (rfl : am_z 1035 = 2) _ _ _
set_option maxRecDepth 50000 in
theorem q1035_9 (C : am_Ct) (μ : am_Mem) : am_ev C 1035 9 [.ref 56] [] μ = (if (μ 56 15) = (am_c 5) then am_bV (C 1026 [.ref 56] μ) (fun m1 => am_bI (C 1036 [.ref 56] m1) (fun r2 m2 => if r2 = 0 then am_ret (some (.int (am_c 0))) m2 else am_ev C 1035 30 [.ref 56] [] m2)) else am_ev C 1035 40 [.ref 56] [] μ) := am_blk (b := [(.aload_n 0, 1), (.getfield 153, 3), (.iconst 5, 1), (.if_icmp .ne 26, 3), (.aload_n 0, 1), (.invokevirtual 177, 3), (.aload_n 0, 1), (.invokevirtual 199, 3), (.ifCond .ne 5, 3), (.iconst 0, 1), (.ireturn, 1)]) rfl rfl (rfl : am_z 1035 = 2) _ _ _
set_option maxRecDepth 50000 in
theorem q1035_30 (C : am_Ct) (μ : am_Mem) : am_ev C 1035 30 [.ref 56] [] μ = (am_bV (C 1029 [.ref 56, .int (am_c 21), .int (am_c 0)] μ) (fun m1 => am_ev C 1035 9 [.ref 56] [] m1)) := am_blk (b := [(.aload_n 0, 1), (.bipush 21, 2), (.iconst 0, 1), (.invokevirtual 190, 3), (.goto (-28), 3)]) rfl rfl (rfl : am_z 1035 = 2) _ _ _
set_option maxRecDepth 50000 in
theorem q1035_40 (C : am_Ct) (μ : am_Mem) : am_ev C 1035 40 [.ref 56] [] μ = (am_ret (some (.int (am_c 1))) μ) := am_blk (b := [(.iconst 1, 1), (.ireturn, 1)]) rfl rfl (rfl : am_z 1035 = 2) _ _ _
theorem e1035 (d : Nat) (μ : am_Mem) : am_call (d + 1) 1035 [.ref 56] μ = am_ev (am_call d) 1035 0 [.ref 56] [] μ := rfl
/-! NoWordTwiceModel.oneTest()Z  -/
set_option maxRecDepth 50000 in
theorem q1036_0 (C : am_Ct) (x1 : Value) (μ : am_Mem) : am_ev C 1036 0 [.ref 56, x1] [] μ = (if (μ 56 15) = (am_c 6) then am_bI (C 1030 [.ref 56] μ) (fun r1 m1 => if r1 = 0 then am_ev C 1036 23 [.ref 56, x1] [] m1 else am_bI (C 1036 [.ref 56] m1) (fun r2 m2 => if r2 = 0 then am_ev C 1036 23 [.ref 56, x1] [] m2 else am_ev C 1036 25 [.ref 56, x1] [] m2)) else am_ev C 1036 44 [.ref 56, x1] [] μ) := am_blk (b := [(.aload_n 0, 1), (.getfield 153, 3), (.bipush 6, 2), (.if_icmp .ne 38, 3), (.aload_n 0, 1), (.invokevirtual 202, 3), (.ifCond .eq 10, 3), (.aload_n 0, 1), (.invokevirtual 199, 3), (.ifCond .ne 5, 3)]) rfl rfl (rfl : am_z 1036 = 2) _ _ _
set_option maxRecDepth 50000 in
theorem q1036_23 (C : am_Ct) (x1 : Value) (μ : am_Mem) : am_ev C 1036 23 [.ref 56, x1] [] μ = (am_ret (some (.int (am_c 0))) μ) := am_blk (b := [(.iconst 0, 1), (.ireturn, 1)]) rfl rfl (rfl : am_z 1036 = 2) _ _ _
set_option maxRecDepth 50000 in
theorem q1036_25 (C : am_Ct) (x1 : Value) (μ : am_Mem) : am_ev C 1036 25 [.ref 56, x1] [] μ = (am_bV (C 1029 [.ref 56, .int (am_c 20), .int (am_c 0)] (am_up μ 56 21 ((μ 56 21) - (am_c 1)))) (fun m1 => am_ret (some (.int (am_c 1))) m1)) := am_blk (b := [(.aload_n 0, 1), (.dup, 1), (.getfield 183, 3), (.iconst 1, 1), (.isub, 1), (.putfield 183, 3), (.aload_n 0, 1), (.bipush 20, 2), (.iconst 0, 1), (.invokevirtual 190, 3), (.iconst 1, 1), (.ireturn, 1)]) rfl rfl (rfl : am_z 1036 = 2) _ _ _
set_option maxRecDepth 50000 in
theorem q1036_44 (C : am_Ct) (x1 : Value) (μ : am_Mem) : am_ev C 1036 44 [.ref 56, x1] [] μ = (if (μ 56 15) = (am_c 140) then am_bI (C 1030 [.ref 56] μ) (fun r1 m1 => if r1 = 0 then am_ev C 1036 78 [.ref 56, x1] [] m1 else am_bI (C 1034 [.ref 56] m1) (fun r2 m2 => if r2 = 0 then am_ev C 1036 78 [.ref 56, x1] [] m2 else am_bI (C 1028 [.ref 56, .int (am_c 141)] m2) (fun r3 m3 => if r3 = 0 then am_ev C 1036 78 [.ref 56, x1] [] m3 else am_ev C 1036 80 [.ref 56, x1] [] m3))) else am_ev C 1036 92 [.ref 56, x1] [] μ) := am_blk (b := [(.aload_n 0, 1), (.getfield 153, 3), (.sipush 140, 3), (.if_icmp .ne 41, 3), (.aload_n 0, 1), (.invokevirtual 202, 3), (.ifCond .eq 20, 3), (.aload_n 0, 1), (.invokevirtual 205, 3), (.ifCond .eq 13, 3), (.aload_n 0, 1), (.sipush 141, 3), (.invokevirtual 208, 3), (.ifCond .ne 5, 3)]) rfl rfl (rfl : am_z 1036 = 2) _ _ _
set_option maxRecDepth 50000 in
theorem q1036_78 (C : am_Ct) (x1 : Value) (μ : am_Mem) : am_ev C 1036 78 [.ref 56, x1] [] μ = (am_ret (some (.int (am_c 0))) μ) := am_blk (b := [(.iconst 0, 1), (.ireturn, 1)]) rfl rfl (rfl : am_z 1036 = 2) _ _ _
set_option maxRecDepth 50000 in
theorem q1036_80 (C : am_Ct) (x1 : Value) (μ : am_Mem) : am_ev C 1036 80 [.ref 56, x1] [] μ = (am_ret (some (.int (am_c 1))) (am_up μ 56 21 ((μ 56 21) - (am_c 1)))) := am_blk (b := [(.aload_n 0, 1), (.dup, 1), (.getfield 183, 3), (.iconst 1, 1), (.isub, 1), (.putfield 183, 3), (.iconst 1, 1), (.ireturn, 1)]) rfl rfl (rfl : am_z 1036 = 2) _ _ _
set_option maxRecDepth 50000 in
theorem q1036_92 (C : am_Ct) (x1 : Value) (μ : am_Mem) : am_ev C 1036 92 [.ref 56, x1] [] μ = (am_bI (C 1031 [.ref 56] μ) (fun r1 m1 => if r1 = 0 then am_ret (some (.int (am_c 0))) m1 else am_ev C 1036 101 [.ref 56, x1] [] m1)) := am_blk (b := [(.aload_n 0, 1), (.invokevirtual 211, 3), (.ifCond .ne 5, 3), (.iconst 0, 1), (.ireturn, 1)]) rfl rfl (rfl : am_z 1036 = 2) _ _ _
set_option maxRecDepth 50000 in
theorem q1036_101 (C : am_Ct) (x1 : Value) (μ : am_Mem) : am_ev C 1036 101 [.ref 56, x1] [] μ = (if (μ 56 15) = (am_c 160) then am_ev C 1036 147 [.ref 56, x1] [.int (am_c 17)] μ else am_ev C 1036 116 [.ref 56, x1] [] μ) := am_blk (b := [(.aload_n 0, 1), (.getfield 153, 3), (.sipush 160, 3), (.if_icmp .ne 8, 3), (.bipush 17, 2), (.goto 34, 3)]) rfl rfl (rfl : am_z 1036 = 2) _ _ _
set_option maxRecDepth 50000 in
theorem q1036_116 (C : am_Ct) (x1 : Value) (μ : am_Mem) : am_ev C 1036 116 [.ref 56, x1] [] μ = (if (μ 56 15) = (am_c 161) then am_ev C 1036 147 [.ref 56, x1] [.int (am_c 18)] μ else am_ev C 1036 131 [.ref 56, x1] [] μ) := am_blk (b := [(.aload_n 0, 1), (.getfield 153, 3), (.sipush 161, 3), (.if_icmp .ne 8, 3), (.bipush 18, 2), (.goto 19, 3)]) rfl rfl (rfl : am_z 1036 = 2) _ _ _
set_option maxRecDepth 50000 in
theorem q1036_131 (C : am_Ct) (x1 : Value) (μ : am_Mem) : am_ev C 1036 131 [.ref 56, x1] [] μ = (if (μ 56 15) = (am_c 162) then am_ev C 1036 147 [.ref 56, x1] [.int (am_c 19)] μ else am_ev C 1036 146 [.ref 56, x1] [] μ) := am_blk (b := [(.aload_n 0, 1), (.getfield 153, 3), (.sipush 162, 3), (.if_icmp .ne 8, 3), (.bipush 19, 2), (.goto 4, 3)]) rfl rfl (rfl : am_z 1036 = 2) _ _ _
set_option maxRecDepth 50000 in
theorem q1036_146 (C : am_Ct) (x1 : Value) (μ : am_Mem) : am_ev C 1036 146 [.ref 56, x1] [] μ = (am_ev C 1036 147 [.ref 56, x1] [.int (am_c (-1))] μ) := am_blk (b := [(.iconst (-1), 1)]) rfl rfl (rfl : am_z 1036 = 2) _ _ _
set_option maxRecDepth 50000 in
theorem q1036_147 (C : am_Ct) (x1 : Value) (s0 : Int32) (μ : am_Mem) : am_ev C 1036 147 [.ref 56, x1] [.int s0] μ = (if s0 = (am_c (-1)) then am_bI (C 1027 [.ref 56, .int (am_c 1)] μ) (fun r1 m1 => am_gb (Nat.blt (am_ix r1) 2) (am_ret (some (.int r1)) m1)) else am_ev C 1036 159 [.ref 56, .int s0] [] μ) := am_blk (b := [(.istore_n 1, 1), (.iload_n 1, 1), (.iconst (-1), 1), (.if_icmp .ne 9, 3), (.aload_n 0, 1), (.iconst 1, 1), (.invokevirtual 174, 3), (.ireturn, 1)]) rfl rfl (rfl : am_z 1036 = 2) _ _ _
set_option maxRecDepth 50000 in
theorem q1036_159 (C : am_Ct) (x1 : Int32) (μ : am_Mem) : am_ev C 1036 159 [.ref 56, .int x1] [] μ = (am_bV (C 1026 [.ref 56] μ) (fun m1 => am_bI (C 1031 [.ref 56] m1) (fun r2 m2 => if r2 = 0 then am_ret (some (.int (am_c 0))) m2 else am_ev C 1036 172 [.ref 56, .int x1] [] m2))) := am_blk (b := [(.aload_n 0, 1), (.invokevirtual 177, 3), (.aload_n 0, 1), (.invokevirtual 211, 3), (.ifCond .ne 5, 3), (.iconst 0, 1), (.ireturn, 1)]) rfl rfl (rfl : am_z 1036 = 2) _ _ _
set_option maxRecDepth 50000 in
theorem q1036_172 (C : am_Ct) (x1 : Int32) (μ : am_Mem) : am_ev C 1036 172 [.ref 56, .int x1] [] μ = (am_bV (C 1029 [.ref 56, .int x1, .int (am_c 0)] μ) (fun m1 => am_ret (some (.int (am_c 1))) m1)) := am_blk (b := [(.aload_n 0, 1), (.iload_n 1, 1), (.iconst 0, 1), (.invokevirtual 190, 3), (.iconst 1, 1), (.ireturn, 1)]) rfl rfl (rfl : am_z 1036 = 2) _ _ _
theorem e1036 (d : Nat) (μ : am_Mem) : am_call (d + 1) 1036 [.ref 56] μ = am_ev (am_call d) 1036 0 [.ref 56, .null] [] μ := rfl
/-! NoWordTwiceModel.aLine()Z  -/
set_option maxRecDepth 50000 in
theorem q1037_0 (C : am_Ct) (μ : am_Mem) : am_ev C 1037 0 [.ref 56] [] μ = (am_bI (C 1001 [.int (μ 56 15), .int (am_c 20), .int (am_c 21)] μ) (fun r1 m1 => if r1 = 0 then am_bI (C 1027 [.ref 56, .int (am_c 1)] m1) (fun r2 m2 => am_gb (Nat.blt (am_ix r2) 2) (am_ret (some (.int r2)) m2)) else am_ev C 1037 20 [.ref 56] [] m1)) := am_blk (b := [(.aload_n 0, 1), (.getfield 153, 3), (.bipush 20, 2), (.bipush 21, 2), (.invokestatic 64, 3), (.ifCond .ne 9, 3), (.aload_n 0, 1), (.iconst 1, 1), (.invokevirtual 174, 3), (.ireturn, 1)]) rfl rfl (rfl : am_z 1037 = 2) _ _ _
set_option maxRecDepth 50000 in
theorem q1037_20 (C : am_Ct) (μ : am_Mem) : am_ev C 1037 20 [.ref 56] [] μ = (if (μ 56 11) = (am_c 16) then am_bI (C 1027 [.ref 56, .int (am_c 3)] μ) (fun r1 m1 => am_gb (Nat.blt (am_ix r1) 2) (am_ret (some (.int r1)) m1)) else am_ev C 1037 35 [.ref 56] [] μ) := am_blk (b := [(.aload_n 0, 1), (.getfield 214, 3), (.bipush 16, 2), (.if_icmp .ne 9, 3), (.aload_n 0, 1), (.iconst 3, 1), (.invokevirtual 174, 3), (.ireturn, 1)]) rfl rfl (rfl : am_z 1037 = 2) _ _ _
set_option maxRecDepth 50000 in
theorem q1037_35 (C : am_Ct) (μ : am_Mem) : am_ev C 1037 35 [.ref 56] [] μ = (am_gb (Nat.blt (am_ix ((am_c 3) * (μ 56 11))) 48) (am_bV (C 1026 [.ref 56] (am_up (am_up μ 61 (am_ix ((am_c 3) * (μ 56 11))) ((μ 56 15) - (am_c 20))) 56 21 (am_c 0))) (fun m1 => am_gb (Nat.blt (am_ix (((am_c 3) * (m1 56 11)) + (am_c 1))) 48) (if ((am_up m1 61 (am_ix (((am_c 3) * (m1 56 11)) + (am_c 1))) (m1 56 12)) 56 15) = (am_c 3) then am_bV (C 1026 [.ref 56] (am_up m1 61 (am_ix (((am_c 3) * (m1 56 11)) + (am_c 1))) (m1 56 12))) (fun m2 => am_bI (C 1034 [.ref 56] m2) (fun r3 m3 => if r3 = 0 then am_ret (some (.int (am_c 0))) m3 else am_ev C 1037 100 [.ref 56] [] m3)) else am_ev C 1037 100 [.ref 56] [] (am_up m1 61 (am_ix (((am_c 3) * (m1 56 11)) + (am_c 1))) (m1 56 12)))))) := am_blk (b := [(.aload_n 0, 1), (.getfield 22, 3), (.iconst 3, 1), (.aload_n 0, 1), (.getfield 214, 3), (.imul, 1), (.aload_n 0, 1), (.getfield 153, 3), (.bipush 20, 2), (.isub, 1), (.iastore, 1), (.aload_n 0, 1), (.iconst 0, 1), (.putfield 183, 3), (.aload_n 0, 1), (.invokevirtual 177, 3), (.aload_n 0, 1), (.getfield 22, 3), (.iconst 3, 1), (.aload_n 0, 1), (.getfield 214, 3), (.imul, 1), (.iconst 1, 1), (.iadd, 1), (.aload_n 0, 1), (.getfield 180, 3), (.iastore, 1), (.aload_n 0, 1), (.getfield 153, 3), (.iconst 3, 1), (.if_icmp .ne 16, 3), (.aload_n 0, 1), (.invokevirtual 177, 3), (.aload_n 0, 1), (.invokevirtual 205, 3), (.ifCond .ne 5, 3), (.iconst 0, 1), (.ireturn, 1)]) rfl rfl (rfl : am_z 1037 = 2) _ _ _
set_option maxRecDepth 50000 in
theorem q1037_100 (C : am_Ct) (μ : am_Mem) : am_ev C 1037 100 [.ref 56] [] μ = (am_gb (Nat.blt (am_ix (((am_c 3) * (μ 56 11)) + (am_c 2))) 48) (am_bI (C 1028 [.ref 56, .int (am_c 159)] (am_up μ 61 (am_ix (((am_c 3) * (μ 56 11)) + (am_c 2))) (μ 56 12))) (fun r1 m1 => am_gb (Nat.blt (am_ix r1) 2) (am_ret (some (.int r1)) m1)))) := am_blk (b := [(.aload_n 0, 1), (.getfield 22, 3), (.iconst 3, 1), (.aload_n 0, 1), (.getfield 214, 3), (.imul, 1), (.iconst 2, 1), (.iadd, 1), (.aload_n 0, 1), (.getfield 180, 3), (.iastore, 1), (.aload_n 0, 1), (.sipush 159, 3), (.invokevirtual 208, 3), (.ireturn, 1)]) rfl rfl (rfl : am_z 1037 = 2) _ _ _
theorem e1037 (d : Nat) (μ : am_Mem) : am_call (d + 1) 1037 [.ref 56] μ = am_ev (am_call d) 1037 0 [.ref 56] [] μ := rfl
/-! NoWordTwiceModel.text()I  -/
set_option maxRecDepth 50000 in
theorem q1038_0 (C : am_Ct) (x1 : Value) (x2 : Value) (μ : am_Mem) : am_ev C 1038 0 [.ref 56, x1, x2] [] μ = (am_bV (C 1026 [.ref 56] (am_up (am_up (am_up (am_up μ 56 18 (am_c 0)) 56 14 (am_c 0)) 56 11 (am_c 0)) 56 12 (am_c 0))) (fun m1 => am_ev C 1038 26 [.ref 56, .int (am_c 1), x2] [] m1)) := am_blk (b := [(.aload_n 0, 1), (.iconst 0, 1), (.putfield 168, 3), (.aload_n 0, 1), (.iconst 0, 1), (.putfield 102, 3), (.aload_n 0, 1), (.iconst 0, 1), (.putfield 214, 3), (.aload_n 0, 1), (.iconst 0, 1), (.putfield 180, 3), (.aload_n 0, 1), (.invokevirtual 177, 3), (.iconst 1, 1), (.istore_n 1, 1)]) rfl rfl (rfl : am_z 1038 = 0) _ _ _
set_option maxRecDepth 50000 in
theorem q1038_26 (C : am_Ct) (x1 : Int32) (x2 : Value) (μ : am_Mem) : am_ev C 1038 26 [.ref 56, .int x1, x2] [] μ = (if x1 = 0 then am_ev C 1038 63 [.ref 56, .int x1, x2] [] μ else if (μ 56 15) = 0 then am_ev C 1038 63 [.ref 56, .int x1, x2] [] μ else am_bI (C 1037 [.ref 56] μ) (fun r1 m1 => if r1 = 0 then am_ev C 1038 55 [.ref 56, .int r1, x2] [.int (m1 56 11), .ref 56] m1 else am_ev C 1038 56 [.ref 56, .int r1, x2] [.int (am_c 1), .int (m1 56 11), .ref 56] m1)) := am_blk (b := [(.iload_n 1, 1), (.ifCond .eq 36, 3), (.aload_n 0, 1), (.getfield 153, 3), (.ifCond .eq 29, 3), (.aload_n 0, 1), (.invokevirtual 217, 3), (.istore_n 1, 1), (.aload_n 0, 1), (.dup, 1), (.getfield 214, 3), (.iload_n 1, 1), (.ifCond .eq 7, 3), (.iconst 1, 1), (.goto 4, 3)]) rfl rfl (rfl : am_z 1038 = 0) _ _ _
set_option maxRecDepth 50000 in
theorem q1038_55 (C : am_Ct) (x1 : Int32) (x2 : Value) (s0 : Int32) (μ : am_Mem) : am_ev C 1038 55 [.ref 56, .int x1, x2] [.int s0, .ref 56] μ = (am_ev C 1038 56 [.ref 56, .int x1, x2] [.int (am_c 0), .int s0, .ref 56] μ) := am_blk (b := [(.iconst 0, 1)]) rfl rfl (rfl : am_z 1038 = 0) _ _ _
set_option maxRecDepth 50000 in
theorem q1038_56 (C : am_Ct) (x1 : Int32) (x2 : Value) (s0 : Int32) (s1 : Int32) (μ : am_Mem) : am_ev C 1038 56 [.ref 56, .int x1, x2] [.int s0, .int s1, .ref 56] μ = (am_ev C 1038 26 [.ref 56, .int x1, x2] [] (am_up μ 56 11 (s1 + s0))) := am_blk (b := [(.iadd, 1), (.putfield 214, 3), (.goto (-34), 3)]) rfl rfl (rfl : am_z 1038 = 0) _ _ _
set_option maxRecDepth 50000 in
theorem q1038_63 (C : am_Ct) (x1 : Int32) (x2 : Value) (μ : am_Mem) : am_ev C 1038 63 [.ref 56, .int x1, x2] [] μ = (if x1 = 0 then am_ev C 1038 85 [.ref 56, .int x1, x2] [.ref 56] (am_up (am_up μ 56 13 (am_c 0)) 56 20 ((am_up μ 56 13 (am_c 0)) 56 18)) else am_ev C 1038 89 [.ref 56, .int x1, x2] [.int (am_c (-1)), .ref 56] (am_up (am_up μ 56 13 (am_c 0)) 56 20 ((am_up μ 56 13 (am_c 0)) 56 18))) := am_blk (b := [(.aload_n 0, 1), (.iconst 0, 1), (.putfield 99, 3), (.aload_n 0, 1), (.aload_n 0, 1), (.getfield 168, 3), (.putfield 220, 3), (.aload_n 0, 1), (.iload_n 1, 1), (.ifCond .eq 7, 3), (.iconst (-1), 1), (.goto 7, 3)]) rfl rfl (rfl : am_z 1038 = 0) _ _ _
set_option maxRecDepth 50000 in
theorem q1038_85 (C : am_Ct) (x1 : Int32) (x2 : Value) (μ : am_Mem) : am_ev C 1038 85 [.ref 56, .int x1, x2] [.ref 56] μ = (am_ev C 1038 89 [.ref 56, .int x1, x2] [.int (μ 56 19), .ref 56] μ) := am_blk (b := [(.aload_n 0, 1), (.getfield 171, 3)]) rfl rfl (rfl : am_z 1038 = 0) _ _ _
set_option maxRecDepth 50000 in
theorem q1038_89 (C : am_Ct) (x1 : Int32) (x2 : Value) (s0 : Int32) (μ : am_Mem) : am_ev C 1038 89 [.ref 56, .int x1, x2] [.int s0, .ref 56] μ = (if x1 = 0 then am_ret (some (.int (am_c (-1)))) (am_up μ 56 22 s0) else am_ev C 1038 98 [.ref 56, .int x1, x2] [] (am_up μ 56 22 s0)) := am_blk (b := [(.putfield 37, 3), (.iload_n 1, 1), (.ifCond .ne 5, 3), (.iconst (-1), 1), (.ireturn, 1)]) rfl rfl (rfl : am_z 1038 = 0) _ _ _
set_option maxRecDepth 50000 in
theorem q1038_98 (C : am_Ct) (x1 : Int32) (x2 : Value) (μ : am_Mem) : am_ev C 1038 98 [.ref 56, .int x1, x2] [] μ = (am_ev C 1038 112 [.ref 56, .int x1, .int (am_c 0)] [] (am_up μ 57 435 (μ 56 11))) := am_blk (b := [(.aload_n 0, 1), (.getfield 7, 3), (.sipush 435, 3), (.aload_n 0, 1), (.getfield 214, 3), (.iastore, 1), (.iconst 0, 1), (.istore_n 2, 1)]) rfl rfl (rfl : am_z 1038 = 0) _ _ _
set_option maxRecDepth 50000 in
theorem q1038_112 (C : am_Ct) (x1 : Int32) (x2 : Int32) (μ : am_Mem) : am_ev C 1038 112 [.ref 56, .int x1, .int x2] [] μ = (if (μ 56 11) ≤ x2 then am_ev C 1038 184 [.ref 56, .int x1, .int x2] [] μ else am_gb (Nat.blt (am_ix ((am_c 3) * x2)) 48) (am_gb (Nat.blt (am_ix ((am_c 440) + x2)) 1320) (am_gb (Nat.blt (am_ix (((am_c 3) * x2) + (am_c 1))) 48) (am_gb (Nat.blt (am_ix ((am_c 460) + x2)) 1320) (am_gb (Nat.blt (am_ix (((am_c 3) * x2) + (am_c 2))) 48) (am_gb (Nat.blt (am_ix ((am_c 480) + x2)) 1320) (am_ev C 1038 112 [.ref 56, .int x1, .int (x2 + (am_c 1))] [] (am_up (am_up (am_up μ 57 (am_ix ((am_c 440) + x2)) (μ 61 (am_ix ((am_c 3) * x2)))) 57 (am_ix ((am_c 460) + x2)) ((am_up μ 57 (am_ix ((am_c 440) + x2)) (μ 61 (am_ix ((am_c 3) * x2)))) 61 (am_ix (((am_c 3) * x2) + (am_c 1))))) 57 (am_ix ((am_c 480) + x2)) ((am_up (am_up μ 57 (am_ix ((am_c 440) + x2)) (μ 61 (am_ix ((am_c 3) * x2)))) 57 (am_ix ((am_c 460) + x2)) ((am_up μ 57 (am_ix ((am_c 440) + x2)) (μ 61 (am_ix ((am_c 3) * x2)))) 61 (am_ix (((am_c 3) * x2) + (am_c 1))))) 61 (am_ix (((am_c 3) * x2) + (am_c 2)))))))))))) := am_blk (b := [(.iload_n 2, 1), (.aload_n 0, 1), (.getfield 214, 3), (.if_icmp .ge 67, 3), (.aload_n 0, 1), (.getfield 7, 3), (.sipush 440, 3), (.iload_n 2, 1), (.iadd, 1), (.aload_n 0, 1), (.getfield 22, 3), (.iconst 3, 1), (.iload_n 2, 1), (.imul, 1), (.iaload, 1), (.iastore, 1), (.aload_n 0, 1), (.getfield 7, 3), (.sipush 460, 3), (.iload_n 2, 1), (.iadd, 1), (.aload_n 0, 1), (.getfield 22, 3), (.iconst 3, 1), (.iload_n 2, 1), (.imul, 1), (.iconst 1, 1), (.iadd, 1), (.iaload, 1), (.iastore, 1), (.aload_n 0, 1), (.getfield 7, 3), (.sipush 480, 3), (.iload_n 2, 1), (.iadd, 1), (.aload_n 0, 1), (.getfield 22, 3), (.iconst 3, 1), (.iload_n 2, 1), (.imul, 1), (.iconst 2, 1), (.iadd, 1), (.iaload, 1), (.iastore, 1), (.iinc 2 1, 3), (.goto (-69), 3)]) rfl rfl (rfl : am_z 1038 = 0) _ _ _
set_option maxRecDepth 50000 in
theorem q1038_184 (C : am_Ct) (x1 : Int32) (x2 : Int32) (μ : am_Mem) : am_ev C 1038 184 [.ref 56, .int x1, .int x2] [] μ = (am_ev C 1038 186 [.ref 56, .int x1, .int (am_c 0)] [] μ) := am_blk (b := [(.iconst 0, 1), (.istore_n 2, 1)]) rfl rfl (rfl : am_z 1038 = 0) _ _ _
set_option maxRecDepth 50000 in
theorem q1038_186 (C : am_Ct) (x1 : Int32) (x2 : Int32) (μ : am_Mem) : am_ev C 1038 186 [.ref 56, .int x1, .int x2] [] μ = (if ((am_c 2) * (μ 56 12)) ≤ x2 then am_ev C 1038 218 [.ref 56, .int x1, .int x2] [] μ else am_gb (Nat.blt (am_ix x2) 820) (am_gb (Nat.blt (am_ix ((am_c 500) + x2)) 1320) (am_ev C 1038 186 [.ref 56, .int x1, .int (x2 + (am_c 1))] [] (am_up μ 57 (am_ix ((am_c 500) + x2)) (μ 62 (am_ix x2)))))) := am_blk (b := [(.iload_n 2, 1), (.iconst 2, 1), (.aload_n 0, 1), (.getfield 180, 3), (.imul, 1), (.if_icmp .ge 25, 3), (.aload_n 0, 1), (.getfield 7, 3), (.sipush 500, 3), (.iload_n 2, 1), (.iadd, 1), (.aload_n 0, 1), (.getfield 25, 3), (.iload_n 2, 1), (.iaload, 1), (.iastore, 1), (.iinc 2 1, 3), (.goto (-29), 3)]) rfl rfl (rfl : am_z 1038 = 0) _ _ _
set_option maxRecDepth 50000 in
theorem q1038_218 (C : am_Ct) (x1 : Int32) (x2 : Int32) (μ : am_Mem) : am_ev C 1038 218 [.ref 56, .int x1, .int x2] [] μ = (am_ret (some (.int (μ 56 11))) μ) := am_blk (b := [(.aload_n 0, 1), (.getfield 214, 3), (.ireturn, 1)]) rfl rfl (rfl : am_z 1038 = 0) _ _ _
theorem e1038 (d : Nat) (μ : am_Mem) : am_call (d + 1) 1038 [.ref 56] μ = am_ev (am_call d) 1038 0 [.ref 56, .null, .null] [] μ := rfl
/-! NoWordTwiceModel.fault(I)I  -/
set_option maxRecDepth 50000 in
theorem q1039_0 (C : am_Ct) (x1 : Int32) (μ : am_Mem) : am_ev C 1039 0 [.ref 56, .int x1] [] μ = (if x1 = 0 then am_ev C 1039 24 [.ref 56, .int x1] [.int (μ 56 20)] μ else am_ev C 1039 11 [.ref 56, .int x1] [] μ) := am_blk (b := [(.iload_n 1, 1), (.ifCond .ne 10, 3), (.aload_n 0, 1), (.getfield 220, 3), (.goto 16, 3)]) rfl rfl (rfl : am_z 1039 = 0) _ _ _
set_option maxRecDepth 50000 in
theorem q1039_11 (C : am_Ct) (x1 : Int32) (μ : am_Mem) : am_ev C 1039 11 [.ref 56, .int x1] [] μ = (if x1 = (am_c 1) then am_ev C 1039 24 [.ref 56, .int x1] [.int (μ 56 22)] μ else am_ev C 1039 23 [.ref 56, .int x1] [] μ) := am_blk (b := [(.iload_n 1, 1), (.iconst 1, 1), (.if_icmp .ne 10, 3), (.aload_n 0, 1), (.getfield 37, 3), (.goto 4, 3)]) rfl rfl (rfl : am_z 1039 = 0) _ _ _
set_option maxRecDepth 50000 in
theorem q1039_23 (C : am_Ct) (x1 : Int32) (μ : am_Mem) : am_ev C 1039 23 [.ref 56, .int x1] [] μ = (am_ev C 1039 24 [.ref 56, .int x1] [.int (am_c (-1))] μ) := am_blk (b := [(.iconst (-1), 1)]) rfl rfl (rfl : am_z 1039 = 0) _ _ _
set_option maxRecDepth 50000 in
theorem q1039_24 (C : am_Ct) (x1 : Int32) (s0 : Int32) (μ : am_Mem) : am_ev C 1039 24 [.ref 56, .int x1] [.int s0] μ = (am_ret (some (.int s0)) μ) := am_blk (b := [(.ireturn, 1)]) rfl rfl (rfl : am_z 1039 = 0) _ _ _
theorem e1039 (d : Nat) (x1 : Int32) (μ : am_Mem) : am_call (d + 1) 1039 [.ref 56, .int x1] μ = am_ev (am_call d) 1039 0 [.ref 56, .int x1] [] μ := rfl
end
section
/-! NoWordTwiceModel.both(III)I  -/
set_option maxRecDepth 50000 in
theorem q1040_0 (C : am_Ct) (x0 : Int32) (x1 : Int32) (x2 : Int32) (μ : am_Mem) : am_ev C 1040 0 [.int x0, .int x1, .int x2] [] μ = (if x0 = (am_c 13) then am_ev C 1040 52 [.int x0, .int x1, .int x2] [] μ else if x0 = (am_c 14) then am_ev C 1040 56 [.int x0, .int x1, .int x2] [] μ else if x0 = (am_c 15) then am_ev C 1040 60 [.int x0, .int x1, .int x2] [] μ else if x0 = (am_c 16) then am_ev C 1040 101 [.int x0, .int x1, .int x2] [] μ else if x0 = (am_c 17) then am_ev C 1040 64 [.int x0, .int x1, .int x2] [] μ else if x0 = (am_c 18) then am_ev C 1040 75 [.int x0, .int x1, .int x2] [] μ else if x0 = (am_c 19) then am_ev C 1040 86 [.int x0, .int x1, .int x2] [] μ else if x0 = (am_c 20) then am_ev C 1040 101 [.int x0, .int x1, .int x2] [] μ else if x0 = (am_c 21) then am_ev C 1040 97 [.int x0, .int x1, .int x2] [] μ else am_ev C 1040 101 [.int x0, .int x1, .int x2] [] μ) := am_blk (b := [(.iload_n 0, 1), (.tableswitch 100 13 21 #[51, 55, 59, 100, 63, 74, 85, 100, 96], 51)]) rfl rfl (rfl : am_z 1040 = 0) _ _ _
set_option maxRecDepth 50000 in
theorem q1040_52 (C : am_Ct) (x0 : Int32) (x1 : Int32) (x2 : Int32) (μ : am_Mem) : am_ev C 1040 52 [.int x0, .int x1, .int x2] [] μ = (am_ret (some (.int (x1 + x2))) μ) := am_blk (b := [(.iload_n 1, 1), (.iload_n 2, 1), (.iadd, 1), (.ireturn, 1)]) rfl rfl (rfl : am_z 1040 = 0) _ _ _
set_option maxRecDepth 50000 in
theorem q1040_56 (C : am_Ct) (x0 : Int32) (x1 : Int32) (x2 : Int32) (μ : am_Mem) : am_ev C 1040 56 [.int x0, .int x1, .int x2] [] μ = (am_ret (some (.int (x1 - x2))) μ) := am_blk (b := [(.iload_n 1, 1), (.iload_n 2, 1), (.isub, 1), (.ireturn, 1)]) rfl rfl (rfl : am_z 1040 = 0) _ _ _
set_option maxRecDepth 50000 in
theorem q1040_60 (C : am_Ct) (x0 : Int32) (x1 : Int32) (x2 : Int32) (μ : am_Mem) : am_ev C 1040 60 [.int x0, .int x1, .int x2] [] μ = (am_ret (some (.int (x1 * x2))) μ) := am_blk (b := [(.iload_n 1, 1), (.iload_n 2, 1), (.imul, 1), (.ireturn, 1)]) rfl rfl (rfl : am_z 1040 = 0) _ _ _
set_option maxRecDepth 50000 in
theorem q1040_64 (C : am_Ct) (x0 : Int32) (x1 : Int32) (x2 : Int32) (μ : am_Mem) : am_ev C 1040 64 [.int x0, .int x1, .int x2] [] μ = (if x2 ≤ x1 then am_ev C 1040 73 [.int x0, .int x1, .int x2] [] μ else am_ev C 1040 74 [.int x0, .int x1, .int x2] [.int (am_c 1)] μ) := am_blk (b := [(.iload_n 1, 1), (.iload_n 2, 1), (.if_icmp .ge 7, 3), (.iconst 1, 1), (.goto 4, 3)]) rfl rfl (rfl : am_z 1040 = 0) _ _ _
set_option maxRecDepth 50000 in
theorem q1040_73 (C : am_Ct) (x0 : Int32) (x1 : Int32) (x2 : Int32) (μ : am_Mem) : am_ev C 1040 73 [.int x0, .int x1, .int x2] [] μ = (am_ev C 1040 74 [.int x0, .int x1, .int x2] [.int (am_c 0)] μ) := am_blk (b := [(.iconst 0, 1)]) rfl rfl (rfl : am_z 1040 = 0) _ _ _
set_option maxRecDepth 50000 in
theorem q1040_74 (C : am_Ct) (x0 : Int32) (x1 : Int32) (x2 : Int32) (s0 : Int32) (μ : am_Mem) : am_ev C 1040 74 [.int x0, .int x1, .int x2] [.int s0] μ = (am_ret (some (.int s0)) μ) := am_blk (b := [(.ireturn, 1)]) rfl rfl (rfl : am_z 1040 = 0) _ _ _
set_option maxRecDepth 50000 in
theorem q1040_75 (C : am_Ct) (x0 : Int32) (x1 : Int32) (x2 : Int32) (μ : am_Mem) : am_ev C 1040 75 [.int x0, .int x1, .int x2] [] μ = (if x1 = x2 then am_ev C 1040 85 [.int x0, .int x1, .int x2] [.int (am_c 1)] μ else am_ev C 1040 84 [.int x0, .int x1, .int x2] [] μ) := am_blk (b := [(.iload_n 1, 1), (.iload_n 2, 1), (.if_icmp .ne 7, 3), (.iconst 1, 1), (.goto 4, 3)]) rfl rfl (rfl : am_z 1040 = 0) _ _ _
set_option maxRecDepth 50000 in
theorem q1040_84 (C : am_Ct) (x0 : Int32) (x1 : Int32) (x2 : Int32) (μ : am_Mem) : am_ev C 1040 84 [.int x0, .int x1, .int x2] [] μ = (am_ev C 1040 85 [.int x0, .int x1, .int x2] [.int (am_c 0)] μ) := am_blk (b := [(.iconst 0, 1)]) rfl rfl (rfl : am_z 1040 = 0) _ _ _
set_option maxRecDepth 50000 in
theorem q1040_85 (C : am_Ct) (x0 : Int32) (x1 : Int32) (x2 : Int32) (s0 : Int32) (μ : am_Mem) : am_ev C 1040 85 [.int x0, .int x1, .int x2] [.int s0] μ = (am_ret (some (.int s0)) μ) := am_blk (b := [(.ireturn, 1)]) rfl rfl (rfl : am_z 1040 = 0) _ _ _
set_option maxRecDepth 50000 in
theorem q1040_86 (C : am_Ct) (x0 : Int32) (x1 : Int32) (x2 : Int32) (μ : am_Mem) : am_ev C 1040 86 [.int x0, .int x1, .int x2] [] μ = (if x1 ≤ x2 then am_ev C 1040 95 [.int x0, .int x1, .int x2] [] μ else am_ev C 1040 96 [.int x0, .int x1, .int x2] [.int (am_c 1)] μ) := am_blk (b := [(.iload_n 1, 1), (.iload_n 2, 1), (.if_icmp .le 7, 3), (.iconst 1, 1), (.goto 4, 3)]) rfl rfl (rfl : am_z 1040 = 0) _ _ _
set_option maxRecDepth 50000 in
theorem q1040_95 (C : am_Ct) (x0 : Int32) (x1 : Int32) (x2 : Int32) (μ : am_Mem) : am_ev C 1040 95 [.int x0, .int x1, .int x2] [] μ = (am_ev C 1040 96 [.int x0, .int x1, .int x2] [.int (am_c 0)] μ) := am_blk (b := [(.iconst 0, 1)]) rfl rfl (rfl : am_z 1040 = 0) _ _ _
set_option maxRecDepth 50000 in
theorem q1040_96 (C : am_Ct) (x0 : Int32) (x1 : Int32) (x2 : Int32) (s0 : Int32) (μ : am_Mem) : am_ev C 1040 96 [.int x0, .int x1, .int x2] [.int s0] μ = (am_ret (some (.int s0)) μ) := am_blk (b := [(.ireturn, 1)]) rfl rfl (rfl : am_z 1040 = 0) _ _ _
set_option maxRecDepth 50000 in
theorem q1040_97 (C : am_Ct) (x0 : Int32) (x1 : Int32) (x2 : Int32) (μ : am_Mem) : am_ev C 1040 97 [.int x0, .int x1, .int x2] [] μ = (am_ret (some (.int (x1 &&& x2))) μ) := am_blk (b := [(.iload_n 1, 1), (.iload_n 2, 1), (.iand, 1), (.ireturn, 1)]) rfl rfl (rfl : am_z 1040 = 0) _ _ _
set_option maxRecDepth 50000 in
theorem q1040_101 (C : am_Ct) (x0 : Int32) (x1 : Int32) (x2 : Int32) (μ : am_Mem) : am_ev C 1040 101 [.int x0, .int x1, .int x2] [] μ = (am_ret (some (.int (x1 ||| x2))) μ) := am_blk (b := [(.iload_n 1, 1), (.iload_n 2, 1), (.ior, 1), (.ireturn, 1)]) rfl rfl (rfl : am_z 1040 = 0) _ _ _
theorem e1040 (d : Nat) (x0 : Int32) (x1 : Int32) (x2 : Int32) (μ : am_Mem) : am_call (d + 1) 1040 [.int x0, .int x1, .int x2] μ = am_ev (am_call d) 1040 0 [.int x0, .int x1, .int x2] [] μ := rfl
/-! NoWordTwiceModel.comesTo(II)I  -/
set_option maxRecDepth 50000 in
theorem q1041_0 (C : am_Ct) (x1 : Int32) (x2 : Int32) (x3 : Value) (x4 : Value) (x5 : Value) (x6 : Value) (μ : am_Mem) : am_ev C 1041 0 [.ref 56, .int x1, .int x2, x3, x4, x5, x6] [] μ = (am_ev C 1041 5 [.ref 56, .int x1, .int x2, .int (am_c 0), .int x1, x5, x6] [] μ) := am_blk (b := [(.iconst 0, 1), (.istore_n 3, 1), (.iload_n 1, 1), (.istore 4, 2)]) rfl rfl (rfl : am_z 1041 = 0) _ _ _
set_option maxRecDepth 50000 in
theorem q1041_5 (C : am_Ct) (x1 : Int32) (x2 : Int32) (x3 : Int32) (x4 : Int32) (x5 : Value) (x6 : Value) (μ : am_Mem) : am_ev C 1041 5 [.ref 56, .int x1, .int x2, .int x3, .int x4, x5, x6] [] μ = (if x2 ≤ x4 then am_ev C 1041 166 [.ref 56, .int x1, .int x2, .int x3, .int x4, x5, x6] [] μ else am_gb (Nat.blt (am_ix ((am_c 500) + ((am_c 2) * x4))) 1320) (am_gb (Nat.blt (am_ix (((am_c 500) + ((am_c 2) * x4)) + (am_c 1))) 1320) (if (am_c 13) ≤ (μ 57 (am_ix ((am_c 500) + ((am_c 2) * x4)))) then am_ev C 1041 79 [.ref 56, .int x1, .int x2, .int x3, .int x4, .int (μ 57 (am_ix ((am_c 500) + ((am_c 2) * x4)))), .int (μ 57 (am_ix (((am_c 500) + ((am_c 2) * x4)) + (am_c 1))))] [] μ else if (μ 57 (am_ix ((am_c 500) + ((am_c 2) * x4)))) = 0 then am_ev C 1041 72 [.ref 56, .int x1, .int x2, .int x3, .int x4, .int (μ 57 (am_ix ((am_c 500) + ((am_c 2) * x4)))), .int (μ 57 (am_ix (((am_c 500) + ((am_c 2) * x4)) + (am_c 1))))] [.int (μ 57 (am_ix (((am_c 500) + ((am_c 2) * x4)) + (am_c 1)))), .int x3, .ref 64] μ else am_ev C 1041 65 [.ref 56, .int x1, .int x2, .int x3, .int x4, .int (μ 57 (am_ix ((am_c 500) + ((am_c 2) * x4)))), .int (μ 57 (am_ix (((am_c 500) + ((am_c 2) * x4)) + (am_c 1))))] [.int x3, .ref 64] μ))) := am_blk (b := [(.iload 4, 2), (.iload_n 2, 1), (.if_icmp .ge 158, 3), (.aload_n 0, 1), (.getfield 7, 3), (.sipush 500, 3), (.iconst 2, 1), (.iload 4, 2), (.imul, 1), (.iadd, 1), (.iaload, 1), (.istore 5, 2), (.aload_n 0, 1), (.getfield 7, 3), (.sipush 500, 3), (.iconst 2, 1), (.iload 4, 2), (.imul, 1), (.iadd, 1), (.iconst 1, 1), (.iadd, 1), (.iaload, 1), (.istore 6, 2), (.iload 5, 2), (.bipush 13, 2), (.if_icmp .ge 32, 3), (.aload_n 0, 1), (.getfield 31, 3), (.iload_n 3, 1), (.iload 5, 2), (.ifCond .ne 8, 3), (.iload 6, 2), (.goto 10, 3)]) rfl rfl (rfl : am_z 1041 = 0) _ _ _
set_option maxRecDepth 50000 in
theorem q1041_65 (C : am_Ct) (x1 : Int32) (x2 : Int32) (x3 : Int32) (x4 : Int32) (x5 : Int32) (x6 : Int32) (s0 : Int32) (μ : am_Mem) : am_ev C 1041 65 [.ref 56, .int x1, .int x2, .int x3, .int x4, .int x5, .int x6] [.int s0, .ref 64] μ = (am_gb (Nat.blt (am_ix x5) 7) (am_ev C 1041 72 [.ref 56, .int x1, .int x2, .int x3, .int x4, .int x5, .int x6] [.int (μ 65 (am_ix x5)), .int s0, .ref 64] μ)) := am_blk (b := [(.aload_n 0, 1), (.getfield 34, 3), (.iload 5, 2), (.iaload, 1)]) rfl rfl (rfl : am_z 1041 = 0) _ _ _
set_option maxRecDepth 50000 in
theorem q1041_72 (C : am_Ct) (x1 : Int32) (x2 : Int32) (x3 : Int32) (x4 : Int32) (x5 : Int32) (x6 : Int32) (s0 : Int32) (s1 : Int32) (μ : am_Mem) : am_ev C 1041 72 [.ref 56, .int x1, .int x2, .int x3, .int x4, .int x5, .int x6] [.int s0, .int s1, .ref 64] μ = (am_gb (Nat.blt (am_ix s1) 420) (am_ev C 1041 160 [.ref 56, .int x1, .int x2, .int (x3 + (am_c 1)), .int x4, .int x5, .int x6] [] (am_up μ 64 (am_ix s1) s0))) := am_blk (b := [(.iastore, 1), (.iinc 3 1, 3), (.goto 84, 3)]) rfl rfl (rfl : am_z 1041 = 0) _ _ _
set_option maxRecDepth 50000 in
theorem q1041_79 (C : am_Ct) (x1 : Int32) (x2 : Int32) (x3 : Int32) (x4 : Int32) (x5 : Int32) (x6 : Int32) (μ : am_Mem) : am_ev C 1041 79 [.ref 56, .int x1, .int x2, .int x3, .int x4, .int x5, .int x6] [] μ = (if x5 = (am_c 16) then am_gb (Nat.blt (am_ix (x3 - (am_c 1))) 420) (am_gb (!(Nat.beq (am_ix x6) 0)) (am_gb (Nat.blt (am_ix (x3 - (am_c 1))) 420) (am_ev C 1041 160 [.ref 56, .int x1, .int x2, .int x3, .int x4, .int x5, .int x6] [] (am_up μ 64 (am_ix (x3 - (am_c 1))) ((μ 64 (am_ix (x3 - (am_c 1)))) / x6))))) else am_ev C 1041 102 [.ref 56, .int x1, .int x2, .int x3, .int x4, .int x5, .int x6] [] μ) := am_blk (b := [(.iload 5, 2), (.bipush 16, 2), (.if_icmp .ne 19, 3), (.aload_n 0, 1), (.getfield 31, 3), (.iload_n 3, 1), (.iconst 1, 1), (.isub, 1), (.dup2, 1), (.iaload, 1), (.iload 6, 2), (.idiv, 1), (.iastore, 1), (.goto 61, 3)]) rfl rfl (rfl : am_z 1041 = 0) _ _ _
set_option maxRecDepth 50000 in
theorem q1041_102 (C : am_Ct) (x1 : Int32) (x2 : Int32) (x3 : Int32) (x4 : Int32) (x5 : Int32) (x6 : Int32) (μ : am_Mem) : am_ev C 1041 102 [.ref 56, .int x1, .int x2, .int x3, .int x4, .int x5, .int x6] [] μ = (if x5 = (am_c 20) then am_gb (Nat.blt (am_ix (x3 - (am_c 1))) 420) (am_gb (Nat.blt (am_ix (x3 - (am_c 1))) 420) (am_ev C 1041 160 [.ref 56, .int x1, .int x2, .int x3, .int x4, .int x5, .int x6] [] (am_up μ 64 (am_ix (x3 - (am_c 1))) ((am_c 1) - (μ 64 (am_ix (x3 - (am_c 1)))))))) else am_ev C 1041 130 [.ref 56, .int x1, .int x2, .int x3, .int x4, .int x5, .int x6] [] μ) := am_blk (b := [(.iload 5, 2), (.bipush 20, 2), (.if_icmp .ne 24, 3), (.aload_n 0, 1), (.getfield 31, 3), (.iload_n 3, 1), (.iconst 1, 1), (.isub, 1), (.iconst 1, 1), (.aload_n 0, 1), (.getfield 31, 3), (.iload_n 3, 1), (.iconst 1, 1), (.isub, 1), (.iaload, 1), (.isub, 1), (.iastore, 1), (.goto 33, 3)]) rfl rfl (rfl : am_z 1041 = 0) _ _ _
theorem am_x_iinc3 {C : am_Ct} {own z : Nat} {E : am_Kt} {n : Int} {l : Nat} {rest : List (Instr × Nat)} {pc : Nat} {a b c e f g : Value} {x : Int32} {st : am_V} {μ : am_Mem} : am_x C own z E ((.iinc 3 n, l) :: rest) pc [a, b, c, .int x, e, f, g] st μ = am_x C own z E rest (pc + l) [a, b, c, .int (x + am_c n), e, f, g] st μ := rfl
set_option maxRecDepth 50000 in
theorem q1041_130_1 (C : am_Ct) (x1 : Int32) (x2 : Int32) (x3 : Int32) (x4 : Int32) (x5 : Int32) (x6 : Int32) (μ : am_Mem) : am_x C 10 0 (am_ev C 1041) [(.aload_n 0, 1), (.getfield 31, 3), (.iload_n 3, 1), (.iconst 1, 1), (.isub, 1), (.iload 5, 2), (.aload_n 0, 1), (.getfield 31, 3), (.iload_n 3, 1), (.iconst 1, 1), (.isub, 1), (.iaload, 1), (.aload_n 0, 1), (.getfield 31, 3), (.iload_n 3, 1), (.iaload, 1), (.invokestatic 223, 3), (.iastore, 1)] (130 + 3) [.ref 56, .int x1, .int x2, .int x3, .int x4, .int x5, .int x6] [] μ = (am_gb (Nat.blt (am_ix (x3 - (am_c 1))) 420) (am_gb (Nat.blt (am_ix x3) 420) (am_bI (C 1040 [.int x5, .int (μ 64 (am_ix (x3 - (am_c 1)))), .int (μ 64 (am_ix x3))] μ) (fun r1 m1 => am_gb (Nat.blt (am_ix (x3 - (am_c 1))) 420) (am_ev C 1041 160 [.ref 56, .int x1, .int x2, .int x3, .int x4, .int x5, .int x6] [] (am_up m1 64 (am_ix (x3 - (am_c 1))) r1)))))) := rfl
set_option maxRecDepth 50000 in
theorem q1041_130_y (C : am_Ct) (x1 : Int32) (x2 : Int32) (x3 : Int32) (x4 : Int32) (x5 : Int32) (x6 : Int32) (μ : am_Mem) (y : Int32) (hy : x3 + (am_c (-1)) = y) : am_ev C 1041 130 [.ref 56, .int x1, .int x2, .int x3, .int x4, .int x5, .int x6] [] μ = (am_gb (Nat.blt (am_ix (y - (am_c 1))) 420) (am_gb (Nat.blt (am_ix y) 420) (am_bI (C 1040 [.int x5, .int (μ 64 (am_ix (y - (am_c 1)))), .int (μ 64 (am_ix y))] μ) (fun r1 m1 => am_gb (Nat.blt (am_ix (y - (am_c 1))) 420) (am_ev C 1041 160 [.ref 56, .int x1, .int x2, .int y, .int x4, .int x5, .int x6] [] (am_up m1 64 (am_ix (y - (am_c 1))) r1)))))) := by
  rw [am_blk (b := [(.iinc 3 (-1), 3), (.aload_n 0, 1), (.getfield 31, 3), (.iload_n 3, 1), (.iconst 1, 1), (.isub, 1), (.iload 5, 2), (.aload_n 0, 1), (.getfield 31, 3), (.iload_n 3, 1), (.iconst 1, 1), (.isub, 1), (.iaload, 1), (.aload_n 0, 1), (.getfield 31, 3), (.iload_n 3, 1), (.iaload, 1), (.invokestatic 223, 3), (.iastore, 1)]) rfl rfl (rfl : am_z 1041 = 0) [.ref 56, .int x1, .int x2, .int x3, .int x4, .int x5, .int x6] [] μ, am_x_iinc3, hy]
  exact q1041_130_1 C x1 x2 y x4 x5 x6 μ
theorem q1041_130 (C : am_Ct) (x1 : Int32) (x2 : Int32) (x3 : Int32) (x4 : Int32) (x5 : Int32) (x6 : Int32) (μ : am_Mem) : am_ev C 1041 130 [.ref 56, .int x1, .int x2, .int x3, .int x4, .int x5, .int x6] [] μ = (am_gb (Nat.blt (am_ix ((x3 + (am_c (-1))) - (am_c 1))) 420) (am_gb (Nat.blt (am_ix (x3 + (am_c (-1)))) 420) (am_bI (C 1040 [.int x5, .int (μ 64 (am_ix ((x3 + (am_c (-1))) - (am_c 1)))), .int (μ 64 (am_ix (x3 + (am_c (-1)))))] μ) (fun r1 m1 => am_gb (Nat.blt (am_ix ((x3 + (am_c (-1))) - (am_c 1))) 420) (am_ev C 1041 160 [.ref 56, .int x1, .int x2, .int (x3 + (am_c (-1))), .int x4, .int x5, .int x6] [] (am_up m1 64 (am_ix ((x3 + (am_c (-1))) - (am_c 1))) r1)))))) := q1041_130_y C x1 x2 x3 x4 x5 x6 μ _ rfl
set_option maxRecDepth 50000 in
theorem q1041_160 (C : am_Ct) (x1 : Int32) (x2 : Int32) (x3 : Int32) (x4 : Int32) (x5 : Int32) (x6 : Int32) (μ : am_Mem) : am_ev C 1041 160 [.ref 56, .int x1, .int x2, .int x3, .int x4, .int x5, .int x6] [] μ = (am_ev C 1041 5 [.ref 56, .int x1, .int x2, .int x3, .int (x4 + (am_c 1)), .int x5, .int x6] [] μ) := am_blk (b := [(.iinc 4 1, 3), (.goto (-158), 3)]) rfl rfl (rfl : am_z 1041 = 0) _ _ _
set_option maxRecDepth 50000 in
theorem q1041_166 (C : am_Ct) (x1 : Int32) (x2 : Int32) (x3 : Int32) (x4 : Int32) (x5 : Value) (x6 : Value) (μ : am_Mem) : am_ev C 1041 166 [.ref 56, .int x1, .int x2, .int x3, .int x4, x5, x6] [] μ = (am_ret (some (.int (μ 64 0))) μ) := am_blk (b := [(.aload_n 0, 1), (.getfield 31, 3), (.iconst 0, 1), (.iaload, 1), (.ireturn, 1)]) rfl rfl (rfl : am_z 1041 = 0) _ _ _
theorem e1041 (d : Nat) (x1 : Int32) (x2 : Int32) (μ : am_Mem) : am_call (d + 1) 1041 [.ref 56, .int x1, .int x2] μ = am_ev (am_call d) 1041 0 [.ref 56, .int x1, .int x2, .null, .null, .null, .null] [] μ := rfl
/-! NoWordTwiceModel.allMarks(I)I  -/
set_option maxRecDepth 50000 in
theorem q1042_0 (C : am_Ct) (x1 : Int32) (x2 : Value) (x3 : Value) (μ : am_Mem) : am_ev C 1042 0 [.ref 56, .int x1, x2, x3] [] μ = (am_ev C 1042 4 [.ref 56, .int x1, .int (am_c 0), .int (am_c 0)] [] μ) := am_blk (b := [(.iconst 0, 1), (.istore_n 2, 1), (.iconst 0, 1), (.istore_n 3, 1)]) rfl rfl (rfl : am_z 1042 = 0) _ _ _
set_option maxRecDepth 50000 in
theorem q1042_4 (C : am_Ct) (x1 : Int32) (x2 : Int32) (x3 : Int32) (μ : am_Mem) : am_ev C 1042 4 [.ref 56, .int x1, .int x2, .int x3] [] μ = (if (μ 57 0) ≤ x3 then am_ev C 1042 45 [.ref 56, .int x1, .int x2, .int x3] [] μ else if ((x1 >>> (x3 &&& 31)) &&& (am_c 1)) = (am_c 1) then am_gb (Nat.blt (am_ix ((am_c 10) + x3)) 1320) (am_ev C 1042 37 [.ref 56, .int x1, .int x2, .int x3] [.int (μ 57 (am_ix ((am_c 10) + x3))), .int x2] μ) else am_ev C 1042 36 [.ref 56, .int x1, .int x2, .int x3] [.int x2] μ) := am_blk (b := [(.iload_n 3, 1), (.aload_n 0, 1), (.getfield 7, 3), (.iconst 0, 1), (.iaload, 1), (.if_icmp .ge 34, 3), (.iload_n 2, 1), (.iload_n 1, 1), (.iload_n 3, 1), (.ishr, 1), (.iconst 1, 1), (.iand, 1), (.iconst 1, 1), (.if_icmp .ne 15, 3), (.aload_n 0, 1), (.getfield 7, 3), (.bipush 10, 2), (.iload_n 3, 1), (.iadd, 1), (.iaload, 1), (.goto 4, 3)]) rfl rfl (rfl : am_z 1042 = 0) _ _ _
set_option maxRecDepth 50000 in
theorem q1042_36 (C : am_Ct) (x1 : Int32) (x2 : Int32) (x3 : Int32) (s0 : Int32) (μ : am_Mem) : am_ev C 1042 36 [.ref 56, .int x1, .int x2, .int x3] [.int s0] μ = (am_ev C 1042 37 [.ref 56, .int x1, .int x2, .int x3] [.int (am_c 0), .int s0] μ) := am_blk (b := [(.iconst 0, 1)]) rfl rfl (rfl : am_z 1042 = 0) _ _ _
set_option maxRecDepth 50000 in
theorem q1042_37 (C : am_Ct) (x1 : Int32) (x2 : Int32) (x3 : Int32) (s0 : Int32) (s1 : Int32) (μ : am_Mem) : am_ev C 1042 37 [.ref 56, .int x1, .int x2, .int x3] [.int s0, .int s1] μ = (am_ev C 1042 4 [.ref 56, .int x1, .int (s1 ||| s0), .int (x3 + (am_c 1))] [] μ) := am_blk (b := [(.ior, 1), (.istore_n 2, 1), (.iinc 3 1, 3), (.goto (-38), 3)]) rfl rfl (rfl : am_z 1042 = 0) _ _ _
set_option maxRecDepth 50000 in
theorem q1042_45 (C : am_Ct) (x1 : Int32) (x2 : Int32) (x3 : Int32) (μ : am_Mem) : am_ev C 1042 45 [.ref 56, .int x1, .int x2, .int x3] [] μ = (am_ret (some (.int x2)) μ) := am_blk (b := [(.iload_n 2, 1), (.ireturn, 1)]) rfl rfl (rfl : am_z 1042 = 0) _ _ _
theorem e1042 (d : Nat) (x1 : Int32) (μ : am_Mem) : am_call (d + 1) 1042 [.ref 56, .int x1] μ = am_ev (am_call d) 1042 0 [.ref 56, .int x1, .null, .null] [] μ := rfl
/-! NoWordTwiceModel.isFixed(II)Z  -/
set_option maxRecDepth 50000 in
theorem q1043_0 (C : am_Ct) (x1 : Int32) (x2 : Int32) (x3 : Value) (x4 : Value) (μ : am_Mem) : am_ev C 1043 0 [.ref 56, .int x1, .int x2, x3, x4] [] μ = (am_bI (C 1042 [.ref 56, .int x2] μ) (fun r1 m1 => am_gb (Nat.blt (am_ix ((am_c 10) + x1)) 1320) (am_bI (C 1007 [.int ((m1 57 (am_ix ((am_c 10) + x1))) &&& r1)] m1) (fun r2 m2 => am_gb (Nat.blt (am_ix ((am_c 10) + x1)) 1320) (am_bI (C 1007 [.int (((am_up m2 65 1 r2) 57 (am_ix ((am_c 10) + x1))) &&& (r1 ^^^ (am_c (-1))))] (am_up m2 65 1 r2)) (fun r3 m3 => am_gb (Nat.blt (am_ix ((am_c 10) + x1)) 1320) (am_bI (C 1007 [.int (r1 &&& (((am_up m3 65 2 r3) 57 (am_ix ((am_c 10) + x1))) ^^^ (am_c (-1))))] (am_up m3 65 2 r3)) (fun r4 m4 => am_bI (C 1007 [.int x2] (am_up m4 65 3 r4)) (fun r5 m5 => am_ev C 1043 90 [.ref 56, .int x1, .int x2, .int r1, .int (am_c 0)] [] (am_up (am_up m5 65 4 r5) 65 5 (am_c 0))))))))))) := am_blk (b := [(.aload_n 0, 1), (.iload_n 2, 1), (.invokevirtual 227, 3), (.istore_n 3, 1), (.aload_n 0, 1), (.getfield 34, 3), (.iconst 1, 1), (.aload_n 0, 1), (.getfield 7, 3), (.bipush 10, 2), (.iload_n 1, 1), (.iadd, 1), (.iaload, 1), (.iload_n 3, 1), (.iand, 1), (.invokestatic 230, 3), (.iastore, 1), (.aload_n 0, 1), (.getfield 34, 3), (.iconst 2, 1), (.aload_n 0, 1), (.getfield 7, 3), (.bipush 10, 2), (.iload_n 1, 1), (.iadd, 1), (.iaload, 1), (.iload_n 3, 1), (.iconst (-1), 1), (.ixor, 1), (.iand, 1), (.invokestatic 230, 3), (.iastore, 1), (.aload_n 0, 1), (.getfield 34, 3), (.iconst 3, 1), (.iload_n 3, 1), (.aload_n 0, 1), (.getfield 7, 3), (.bipush 10, 2), (.iload_n 1, 1), (.iadd, 1), (.iaload, 1), (.iconst (-1), 1), (.ixor, 1), (.iand, 1), (.invokestatic 230, 3), (.iastore, 1), (.aload_n 0, 1), (.getfield 34, 3), (.iconst 4, 1), (.iload_n 2, 1), (.invokestatic 230, 3), (.iastore, 1), (.aload_n 0, 1), (.getfield 34, 3), (.iconst 5, 1), (.iconst 0, 1), (.iastore, 1), (.iconst 0, 1), (.istore 4, 2)]) rfl rfl (rfl : am_z 1043 = 2) _ _ _
set_option maxRecDepth 50000 in
theorem q1043_90 (C : am_Ct) (x1 : Int32) (x2 : Int32) (x3 : Int32) (x4 : Int32) (μ : am_Mem) : am_ev C 1043 90 [.ref 56, .int x1, .int x2, .int x3, .int x4] [] μ = (if (μ 57 0) ≤ x4 then am_ev C 1043 153 [.ref 56, .int x1, .int x2, .int x3, .int x4] [] μ else if x4 = x1 then am_ev C 1043 144 [.ref 56, .int x1, .int x2, .int x3, .int x4] [.int (μ 65 5), .int (am_c 5), .ref 65] μ else if ((x2 >>> (x4 &&& 31)) &&& (am_c 1)) = 0 then am_gb (Nat.blt (am_ix ((am_c 10) + x4)) 1320) (if ((μ 57 (am_ix ((am_c 10) + x4))) &&& (x3 ^^^ (am_c (-1)))) = 0 then am_ev C 1043 145 [.ref 56, .int x1, .int x2, .int x3, .int x4] [.int (am_c 1), .int (μ 65 5), .int (am_c 5), .ref 65] μ else am_ev C 1043 144 [.ref 56, .int x1, .int x2, .int x3, .int x4] [.int (μ 65 5), .int (am_c 5), .ref 65] μ) else am_ev C 1043 144 [.ref 56, .int x1, .int x2, .int x3, .int x4] [.int (μ 65 5), .int (am_c 5), .ref 65] μ) := am_blk (b := [(.iload 4, 2), (.aload_n 0, 1), (.getfield 7, 3), (.iconst 0, 1), (.iaload, 1), (.if_icmp .ge 55, 3), (.aload_n 0, 1), (.getfield 34, 3), (.iconst 5, 1), (.dup2, 1), (.iaload, 1), (.iload 4, 2), (.iload_n 1, 1), (.if_icmp .eq 33, 3), (.iload_n 2, 1), (.iload 4, 2), (.ishr, 1), (.iconst 1, 1), (.iand, 1), (.ifCond .ne 24, 3), (.aload_n 0, 1), (.getfield 7, 3), (.bipush 10, 2), (.iload 4, 2), (.iadd, 1), (.iaload, 1), (.iload_n 3, 1), (.iconst (-1), 1), (.ixor, 1), (.iand, 1), (.ifCond .ne 7, 3), (.iconst 1, 1), (.goto 4, 3)]) rfl rfl (rfl : am_z 1043 = 2) _ _ _
set_option maxRecDepth 50000 in
theorem q1043_144 (C : am_Ct) (x1 : Int32) (x2 : Int32) (x3 : Int32) (x4 : Int32) (s0 : Int32) (s1 : Int32) (μ : am_Mem) : am_ev C 1043 144 [.ref 56, .int x1, .int x2, .int x3, .int x4] [.int s0, .int s1, .ref 65] μ = (am_ev C 1043 145 [.ref 56, .int x1, .int x2, .int x3, .int x4] [.int (am_c 0), .int s0, .int s1, .ref 65] μ) := am_blk (b := [(.iconst 0, 1)]) rfl rfl (rfl : am_z 1043 = 2) _ _ _
set_option maxRecDepth 50000 in
theorem q1043_145 (C : am_Ct) (x1 : Int32) (x2 : Int32) (x3 : Int32) (x4 : Int32) (s0 : Int32) (s1 : Int32) (s2 : Int32) (μ : am_Mem) : am_ev C 1043 145 [.ref 56, .int x1, .int x2, .int x3, .int x4] [.int s0, .int s1, .int s2, .ref 65] μ = (am_gb (Nat.blt (am_ix s2) 7) (am_ev C 1043 90 [.ref 56, .int x1, .int x2, .int x3, .int (x4 + (am_c 1))] [] (am_up μ 65 (am_ix s2) (s1 + s0)))) := am_blk (b := [(.iadd, 1), (.iastore, 1), (.iinc 4 1, 3), (.goto (-60), 3)]) rfl rfl (rfl : am_z 1043 = 2) _ _ _
set_option maxRecDepth 50000 in
theorem q1043_153 (C : am_Ct) (x1 : Int32) (x2 : Int32) (x3 : Int32) (x4 : Int32) (μ : am_Mem) : am_ev C 1043 153 [.ref 56, .int x1, .int x2, .int x3, .int x4] [] μ = (am_ev C 1043 164 [.ref 56, .int x1, .int x2, .int x3, .int (am_c 0)] [] (am_up μ 65 6 x1)) := am_blk (b := [(.aload_n 0, 1), (.getfield 34, 3), (.bipush 6, 2), (.iload_n 1, 1), (.iastore, 1), (.iconst 0, 1), (.istore 4, 2)]) rfl rfl (rfl : am_z 1043 = 2) _ _ _
set_option maxRecDepth 50000 in
theorem q1043_164 (C : am_Ct) (x1 : Int32) (x2 : Int32) (x3 : Int32) (x4 : Int32) (μ : am_Mem) : am_ev C 1043 164 [.ref 56, .int x1, .int x2, .int x3, .int x4] [] μ = (if (μ 57 435) ≤ x4 then am_ev C 1043 258 [.ref 56, .int x1, .int x2, .int x3, .int x4] [] μ else am_gb (Nat.blt (am_ix ((am_c 480) + x4)) 1320) (am_gb (Nat.blt (am_ix ((am_c 460) + x4)) 1320) (if (μ 57 (am_ix ((am_c 480) + x4))) = (μ 57 (am_ix ((am_c 460) + x4))) then am_ev C 1043 232 [.ref 56, .int x1, .int x2, .int x3, .int x4] [] μ else am_gb (Nat.blt (am_ix ((am_c 460) + x4)) 1320) (am_gb (Nat.blt (am_ix ((am_c 480) + x4)) 1320) (am_bI (C 1041 [.ref 56, .int (μ 57 (am_ix ((am_c 460) + x4))), .int (μ 57 (am_ix ((am_c 480) + x4)))] μ) (fun r1 m1 => if r1 = (am_c 1) then am_ev C 1043 232 [.ref 56, .int x1, .int x2, .int x3, .int x4] [] m1 else am_ev C 1043 252 [.ref 56, .int x1, .int x2, .int x3, .int x4] [] m1)))))) := am_blk (b := [(.iload 4, 2), (.aload_n 0, 1), (.getfield 7, 3), (.sipush 435, 3), (.iaload, 1), (.if_icmp .ge 84, 3), (.aload_n 0, 1), (.getfield 7, 3), (.sipush 480, 3), (.iload 4, 2), (.iadd, 1), (.iaload, 1), (.aload_n 0, 1), (.getfield 7, 3), (.sipush 460, 3), (.iload 4, 2), (.iadd, 1), (.iaload, 1), (.if_icmp .eq 33, 3), (.aload_n 0, 1), (.aload_n 0, 1), (.getfield 7, 3), (.sipush 460, 3), (.iload 4, 2), (.iadd, 1), (.iaload, 1), (.aload_n 0, 1), (.getfield 7, 3), (.sipush 480, 3), (.iload 4, 2), (.iadd, 1), (.iaload, 1), (.invokevirtual 233, 3), (.iconst 1, 1), (.if_icmp .ne 23, 3)]) rfl rfl (rfl : am_z 1043 = 2) _ _ _
set_option maxRecDepth 50000 in
theorem q1043_232 (C : am_Ct) (x1 : Int32) (x2 : Int32) (x3 : Int32) (x4 : Int32) (μ : am_Mem) : am_ev C 1043 232 [.ref 56, .int x1, .int x2, .int x3, .int x4] [] μ = (am_gb (Nat.blt (am_ix ((am_c 440) + x4)) 1320) (if (μ 57 (am_ix ((am_c 440) + x4))) = 0 then am_ev C 1043 251 [.ref 56, .int x1, .int x2, .int x3, .int x4] [.int (am_c 1)] μ else am_ev C 1043 250 [.ref 56, .int x1, .int x2, .int x3, .int x4] [] μ)) := am_blk (b := [(.aload_n 0, 1), (.getfield 7, 3), (.sipush 440, 3), (.iload 4, 2), (.iadd, 1), (.iaload, 1), (.ifCond .ne 7, 3), (.iconst 1, 1), (.goto 4, 3)]) rfl rfl (rfl : am_z 1043 = 2) _ _ _
set_option maxRecDepth 50000 in
theorem q1043_250 (C : am_Ct) (x1 : Int32) (x2 : Int32) (x3 : Int32) (x4 : Int32) (μ : am_Mem) : am_ev C 1043 250 [.ref 56, .int x1, .int x2, .int x3, .int x4] [] μ = (am_ev C 1043 251 [.ref 56, .int x1, .int x2, .int x3, .int x4] [.int (am_c 0)] μ) := am_blk (b := [(.iconst 0, 1)]) rfl rfl (rfl : am_z 1043 = 2) _ _ _
set_option maxRecDepth 50000 in
theorem q1043_251 (C : am_Ct) (x1 : Int32) (x2 : Int32) (x3 : Int32) (x4 : Int32) (s0 : Int32) (μ : am_Mem) : am_ev C 1043 251 [.ref 56, .int x1, .int x2, .int x3, .int x4] [.int s0] μ = (am_gb (Nat.blt (am_ix s0) 2) (am_ret (some (.int s0)) μ)) := am_blk (b := [(.ireturn, 1)]) rfl rfl (rfl : am_z 1043 = 2) _ _ _
set_option maxRecDepth 50000 in
theorem q1043_252 (C : am_Ct) (x1 : Int32) (x2 : Int32) (x3 : Int32) (x4 : Int32) (μ : am_Mem) : am_ev C 1043 252 [.ref 56, .int x1, .int x2, .int x3, .int x4] [] μ = (am_ev C 1043 164 [.ref 56, .int x1, .int x2, .int x3, .int (x4 + (am_c 1))] [] μ) := am_blk (b := [(.iinc 4 1, 3), (.goto (-91), 3)]) rfl rfl (rfl : am_z 1043 = 2) _ _ _
set_option maxRecDepth 50000 in
theorem q1043_258 (C : am_Ct) (x1 : Int32) (x2 : Int32) (x3 : Int32) (x4 : Int32) (μ : am_Mem) : am_ev C 1043 258 [.ref 56, .int x1, .int x2, .int x3, .int x4] [] μ = (am_ret (some (.int (am_c 0))) μ) := am_blk (b := [(.iconst 0, 1), (.ireturn, 1)]) rfl rfl (rfl : am_z 1043 = 2) _ _ _
theorem e1043 (d : Nat) (x1 : Int32) (x2 : Int32) (μ : am_Mem) : am_call (d + 1) 1043 [.ref 56, .int x1, .int x2] μ = am_ev (am_call d) 1043 0 [.ref 56, .int x1, .int x2, .null, .null] [] μ := rfl
/-! NoWordTwiceModel.usedBy(I)I  -/
set_option maxRecDepth 50000 in
theorem q1044_0 (C : am_Ct) (x1 : Int32) (x2 : Value) (x3 : Value) (μ : am_Mem) : am_ev C 1044 0 [.ref 56, .int x1, x2, x3] [] μ = (am_ev C 1044 4 [.ref 56, .int x1, .int (am_c 0), .int (am_c 0)] [] μ) := am_blk (b := [(.iconst 0, 1), (.istore_n 2, 1), (.iconst 0, 1), (.istore_n 3, 1)]) rfl rfl (rfl : am_z 1044 = 0) _ _ _
set_option maxRecDepth 50000 in
theorem q1044_4 (C : am_Ct) (x1 : Int32) (x2 : Int32) (x3 : Int32) (μ : am_Mem) : am_ev C 1044 4 [.ref 56, .int x1, .int x2, .int x3] [] μ = (am_bI (C 1005 [.ref 56, .int x1, .int (am_c 1)] μ) (fun r1 m1 => if r1 ≤ x3 then am_ev C 1044 33 [.ref 56, .int x1, .int x2, .int x3] [] m1 else am_bI (C 1005 [.ref 56, .int x1, .int ((am_c 2) + x3)] m1) (fun r2 m2 => am_ev C 1044 4 [.ref 56, .int x1, .int (x2 ||| (((am_c 1) : Int32) <<< (r2 &&& 31))), .int (x3 + (am_c 1))] [] m2))) := am_blk (b := [(.iload_n 3, 1), (.aload_n 0, 1), (.iload_n 1, 1), (.iconst 1, 1), (.invokevirtual 88, 3), (.if_icmp .ge 22, 3), (.iload_n 2, 1), (.iconst 1, 1), (.aload_n 0, 1), (.iload_n 1, 1), (.iconst 2, 1), (.iload_n 3, 1), (.iadd, 1), (.invokevirtual 88, 3), (.ishl, 1), (.ior, 1), (.istore_n 2, 1), (.iinc 3 1, 3), (.goto (-26), 3)]) rfl rfl (rfl : am_z 1044 = 0) _ _ _
set_option maxRecDepth 50000 in
theorem q1044_33 (C : am_Ct) (x1 : Int32) (x2 : Int32) (x3 : Int32) (μ : am_Mem) : am_ev C 1044 33 [.ref 56, .int x1, .int x2, .int x3] [] μ = (am_ret (some (.int x2)) μ) := am_blk (b := [(.iload_n 2, 1), (.ireturn, 1)]) rfl rfl (rfl : am_z 1044 = 0) _ _ _
theorem e1044 (d : Nat) (x1 : Int32) (μ : am_Mem) : am_call (d + 1) 1044 [.ref 56, .int x1] μ = am_ev (am_call d) 1044 0 [.ref 56, .int x1, .null, .null] [] μ := rfl
/-! NoWordTwiceModel.isEntryFixed(I)Z  -/
set_option maxRecDepth 50000 in
theorem q1045_0 (C : am_Ct) (x1 : Int32) (μ : am_Mem) : am_ev C 1045 0 [.ref 56, .int x1] [] μ = (am_bI (C 1005 [.ref 56, .int x1, .int (am_c 0)] μ) (fun r1 m1 => am_bI (C 1044 [.ref 56, .int x1] m1) (fun r2 m2 => am_bI (C 1043 [.ref 56, .int r1, .int r2] m2) (fun r3 m3 => am_gb (Nat.blt (am_ix r3) 2) (am_ret (some (.int r3)) m3))))) := am_blk (b := [(.aload_n 0, 1), (.aload_n 0, 1), (.iload_n 1, 1), (.iconst 0, 1), (.invokevirtual 88, 3), (.aload_n 0, 1), (.iload_n 1, 1), (.invokevirtual 236, 3), (.invokevirtual 239, 3), (.ireturn, 1)]) rfl rfl (rfl : am_z 1045 = 2) _ _ _
theorem e1045 (d : Nat) (x1 : Int32) (μ : am_Mem) : am_call (d + 1) 1045 [.ref 56, .int x1] μ = am_ev (am_call d) 1045 0 [.ref 56, .int x1] [] μ := rfl
/-! NoWordTwiceModel.usesAhead(II)I  -/
set_option maxRecDepth 50000 in
theorem q1046_0 (C : am_Ct) (x1 : Int32) (x2 : Int32) (x3 : Value) (x4 : Value) (μ : am_Mem) : am_ev C 1046 0 [.ref 56, .int x1, .int x2, x3, x4] [] μ = (am_ev C 1046 5 [.ref 56, .int x1, .int x2, .int (am_c 0), .int (am_c 0)] [] μ) := am_blk (b := [(.iconst 0, 1), (.istore_n 3, 1), (.iconst 0, 1), (.istore 4, 2)]) rfl rfl (rfl : am_z 1046 = 0) _ _ _
set_option maxRecDepth 50000 in
theorem q1046_5 (C : am_Ct) (x1 : Int32) (x2 : Int32) (x3 : Int32) (x4 : Int32) (μ : am_Mem) : am_ev C 1046 5 [.ref 56, .int x1, .int x2, .int x3, .int x4] [] μ = (if x2 ≤ x4 then am_ev C 1046 30 [.ref 56, .int x1, .int x2, .int x3, .int x4] [] μ else am_bI (C 1044 [.ref 56, .int x4] μ) (fun r1 m1 => am_ev C 1046 5 [.ref 56, .int x1, .int x2, .int (x3 + ((r1 >>> (x1 &&& 31)) &&& (am_c 1))), .int (x4 + (am_c 1))] [] m1)) := am_blk (b := [(.iload 4, 2), (.iload_n 2, 1), (.if_icmp .ge 22, 3), (.iload_n 3, 1), (.aload_n 0, 1), (.iload 4, 2), (.invokevirtual 236, 3), (.iload_n 1, 1), (.ishr, 1), (.iconst 1, 1), (.iand, 1), (.iadd, 1), (.istore_n 3, 1), (.iinc 4 1, 3), (.goto (-22), 3)]) rfl rfl (rfl : am_z 1046 = 0) _ _ _
set_option maxRecDepth 50000 in
theorem q1046_30 (C : am_Ct) (x1 : Int32) (x2 : Int32) (x3 : Int32) (x4 : Int32) (μ : am_Mem) : am_ev C 1046 30 [.ref 56, .int x1, .int x2, .int x3, .int x4] [] μ = (am_ret (some (.int x3)) μ) := am_blk (b := [(.iload_n 3, 1), (.ireturn, 1)]) rfl rfl (rfl : am_z 1046 = 0) _ _ _
theorem e1046 (d : Nat) (x1 : Int32) (x2 : Int32) (μ : am_Mem) : am_call (d + 1) 1046 [.ref 56, .int x1, .int x2] μ = am_ev (am_call d) 1046 0 [.ref 56, .int x1, .int x2, .null, .null] [] μ := rfl
/-! NoWordTwiceModel.fixes(II)I  -/
set_option maxRecDepth 50000 in
theorem q1047_0 (C : am_Ct) (x1 : Int32) (x2 : Int32) (μ : am_Mem) : am_ev C 1047 0 [.ref 56, .int x1, .int x2] [] μ = (am_bI (C 1002 [.ref 56, .int x1] μ) (fun r1 m1 => if r1 = 0 then am_ev C 1047 29 [.ref 56, .int x1, .int x2] [] m1 else if x2 = 0 then am_ev C 1047 29 [.ref 56, .int x1, .int x2] [] m1 else am_bI (C 1004 [.ref 56, .int x2] m1) (fun r2 m2 => if r2 = 0 then am_ev C 1047 29 [.ref 56, .int x1, .int x2] [] m2 else if ((x2 >>> (x1 &&& 31)) &&& (am_c 1)) = (am_c 1) then am_ev C 1047 29 [.ref 56, .int x1, .int x2] [] m2 else am_ev C 1047 31 [.ref 56, .int x1, .int x2] [] m2))) := am_blk (b := [(.aload_n 0, 1), (.iload_n 1, 1), (.invokevirtual 76, 3), (.ifCond .eq 24, 3), (.iload_n 2, 1), (.ifCond .eq 20, 3), (.aload_n 0, 1), (.iload_n 2, 1), (.invokevirtual 243, 3), (.ifCond .eq 12, 3), (.iload_n 2, 1), (.iload_n 1, 1), (.ishr, 1), (.iconst 1, 1), (.iand, 1), (.iconst 1, 1), (.if_icmp .ne 5, 3)]) rfl rfl (rfl : am_z 1047 = 0) _ _ _
set_option maxRecDepth 50000 in
theorem q1047_29 (C : am_Ct) (x1 : Int32) (x2 : Int32) (μ : am_Mem) : am_ev C 1047 29 [.ref 56, .int x1, .int x2] [] μ = (am_ret (some (.int (am_c (-1)))) μ) := am_blk (b := [(.iconst (-1), 1), (.ireturn, 1)]) rfl rfl (rfl : am_z 1047 = 0) _ _ _
set_option maxRecDepth 50000 in
theorem q1047_31 (C : am_Ct) (x1 : Int32) (x2 : Int32) (μ : am_Mem) : am_ev C 1047 31 [.ref 56, .int x1, .int x2] [] μ = (am_bI (C 1043 [.ref 56, .int x1, .int x2] μ) (fun r1 m1 => if r1 = 0 then am_ev C 1047 44 [.ref 56, .int x1, .int x2] [] m1 else am_ev C 1047 45 [.ref 56, .int x1, .int x2] [.int (am_c 1)] m1)) := am_blk (b := [(.aload_n 0, 1), (.iload_n 1, 1), (.iload_n 2, 1), (.invokevirtual 239, 3), (.ifCond .eq 7, 3), (.iconst 1, 1), (.goto 4, 3)]) rfl rfl (rfl : am_z 1047 = 0) _ _ _
set_option maxRecDepth 50000 in
theorem q1047_44 (C : am_Ct) (x1 : Int32) (x2 : Int32) (μ : am_Mem) : am_ev C 1047 44 [.ref 56, .int x1, .int x2] [] μ = (am_ev C 1047 45 [.ref 56, .int x1, .int x2] [.int (am_c 0)] μ) := am_blk (b := [(.iconst 0, 1)]) rfl rfl (rfl : am_z 1047 = 0) _ _ _
set_option maxRecDepth 50000 in
theorem q1047_45 (C : am_Ct) (x1 : Int32) (x2 : Int32) (s0 : Int32) (μ : am_Mem) : am_ev C 1047 45 [.ref 56, .int x1, .int x2] [.int s0] μ = (am_ret (some (.int s0)) μ) := am_blk (b := [(.ireturn, 1)]) rfl rfl (rfl : am_z 1047 = 0) _ _ _
theorem e1047 (d : Nat) (x1 : Int32) (x2 : Int32) (μ : am_Mem) : am_call (d + 1) 1047 [.ref 56, .int x1, .int x2] μ = am_ev (am_call d) 1047 0 [.ref 56, .int x1, .int x2] [] μ := rfl
/-! NoWordTwiceModel.keeps()V  -/
set_option maxRecDepth 50000 in
theorem q1048_0 (C : am_Ct) (x1 : Value) (x2 : Value) (μ : am_Mem) : am_ev C 1048 0 [.ref 56, x1, x2] [] μ = (if (μ 56 3) = (am_c 6) then am_ev C 1048 11 [.ref 56, .int (am_c 0), x2] [] μ else am_ev C 1048 49 [.ref 56, x1, x2] [] μ) := am_blk (b := [(.aload_n 0, 1), (.getfield 68, 3), (.bipush 6, 2), (.if_icmp .ne 43, 3), (.iconst 0, 1), (.istore_n 1, 1)]) rfl rfl (rfl : am_z 1048 = 0) _ _ _
set_option maxRecDepth 50000 in
theorem q1048_11 (C : am_Ct) (x1 : Int32) (x2 : Value) (μ : am_Mem) : am_ev C 1048 11 [.ref 56, .int x1, x2] [] μ = (if (am_c 315) ≤ x1 then am_ev C 1048 39 [.ref 56, .int x1, x2] [] μ else am_gb (Nat.blt (am_ix (x1 + (am_c 63))) 378) (am_gb (Nat.blt (am_ix x1) 378) (am_ev C 1048 11 [.ref 56, .int (x1 + (am_c 1)), x2] [] (am_up μ 59 (am_ix x1) (μ 59 (am_ix (x1 + (am_c 63)))))))) := am_blk (b := [(.iload_n 1, 1), (.sipush 315, 3), (.if_icmp .ge 24, 3), (.aload_n 0, 1), (.getfield 16, 3), (.iload_n 1, 1), (.aload_n 0, 1), (.getfield 16, 3), (.iload_n 1, 1), (.bipush 63, 2), (.iadd, 1), (.iaload, 1), (.iastore, 1), (.iinc 1 1, 3), (.goto (-25), 3)]) rfl rfl (rfl : am_z 1048 = 0) _ _ _
set_option maxRecDepth 50000 in
theorem q1048_39 (C : am_Ct) (x1 : Int32) (x2 : Value) (μ : am_Mem) : am_ev C 1048 39 [.ref 56, .int x1, x2] [] μ = (am_ev C 1048 49 [.ref 56, .int x1, x2] [] (am_up μ 56 3 ((μ 56 3) - (am_c 1)))) := am_blk (b := [(.aload_n 0, 1), (.dup, 1), (.getfield 68, 3), (.iconst 1, 1), (.isub, 1), (.putfield 68, 3)]) rfl rfl (rfl : am_z 1048 = 0) _ _ _
set_option maxRecDepth 50000 in
theorem q1048_49 (C : am_Ct) (x1 : Value) (x2 : Value) (μ : am_Mem) : am_ev C 1048 49 [.ref 56, x1, x2] [] μ = (am_gb (Nat.blt (am_ix ((am_c 63) * (μ 56 3))) 378) (am_gb (Nat.blt (am_ix (((am_c 63) * (μ 56 3)) + (am_c 1))) 378) (am_gb (Nat.blt (am_ix (((am_c 63) * (μ 56 3)) + (am_c 2))) 378) (am_ev C 1048 100 [.ref 56, .int ((am_c 63) * (μ 56 3)), .int (am_c 0)] [] (am_up (am_up (am_up μ 59 (am_ix ((am_c 63) * (μ 56 3))) (μ 57 4)) 59 (am_ix (((am_c 63) * (μ 56 3)) + (am_c 1))) ((am_up μ 59 (am_ix ((am_c 63) * (μ 56 3))) (μ 57 4)) 57 5)) 59 (am_ix (((am_c 63) * (μ 56 3)) + (am_c 2))) ((am_up (am_up μ 59 (am_ix ((am_c 63) * (μ 56 3))) (μ 57 4)) 59 (am_ix (((am_c 63) * (μ 56 3)) + (am_c 1))) ((am_up μ 59 (am_ix ((am_c 63) * (μ 56 3))) (μ 57 4)) 57 5)) 57 6)))))) := am_blk (b := [(.bipush 63, 2), (.aload_n 0, 1), (.getfield 68, 3), (.imul, 1), (.istore_n 1, 1), (.aload_n 0, 1), (.getfield 16, 3), (.iload_n 1, 1), (.aload_n 0, 1), (.getfield 7, 3), (.iconst 4, 1), (.iaload, 1), (.iastore, 1), (.aload_n 0, 1), (.getfield 16, 3), (.iload_n 1, 1), (.iconst 1, 1), (.iadd, 1), (.aload_n 0, 1), (.getfield 7, 3), (.iconst 5, 1), (.iaload, 1), (.iastore, 1), (.aload_n 0, 1), (.getfield 16, 3), (.iload_n 1, 1), (.iconst 2, 1), (.iadd, 1), (.aload_n 0, 1), (.getfield 7, 3), (.bipush 6, 2), (.iaload, 1), (.iastore, 1), (.iconst 0, 1), (.istore_n 2, 1)]) rfl rfl (rfl : am_z 1048 = 0) _ _ _
set_option maxRecDepth 50000 in
theorem q1048_100 (C : am_Ct) (x1 : Int32) (x2 : Int32) (μ : am_Mem) : am_ev C 1048 100 [.ref 56, .int x1, .int x2] [] μ = (if (am_c 60) ≤ x2 then am_ev C 1048 131 [.ref 56, .int x1, .int x2] [] μ else am_gb (Nat.blt (am_ix ((am_c 45) + x2)) 1320) (am_gb (Nat.blt (am_ix ((x1 + (am_c 3)) + x2)) 378) (am_ev C 1048 100 [.ref 56, .int x1, .int (x2 + (am_c 1))] [] (am_up μ 59 (am_ix ((x1 + (am_c 3)) + x2)) (μ 57 (am_ix ((am_c 45) + x2))))))) := am_blk (b := [(.iload_n 2, 1), (.bipush 60, 2), (.if_icmp .ge 28, 3), (.aload_n 0, 1), (.getfield 16, 3), (.iload_n 1, 1), (.iconst 3, 1), (.iadd, 1), (.iload_n 2, 1), (.iadd, 1), (.aload_n 0, 1), (.getfield 7, 3), (.bipush 45, 2), (.iload_n 2, 1), (.iadd, 1), (.iaload, 1), (.iastore, 1), (.iinc 2 1, 3), (.goto (-28), 3)]) rfl rfl (rfl : am_z 1048 = 0) _ _ _
set_option maxRecDepth 50000 in
theorem q1048_131 (C : am_Ct) (x1 : Int32) (x2 : Int32) (μ : am_Mem) : am_ev C 1048 131 [.ref 56, .int x1, .int x2] [] μ = (am_ret none (am_up μ 56 3 ((μ 56 3) + (am_c 1)))) := am_blk (b := [(.aload_n 0, 1), (.dup, 1), (.getfield 68, 3), (.iconst 1, 1), (.iadd, 1), (.putfield 68, 3), (.return_, 1)]) rfl rfl (rfl : am_z 1048 = 0) _ _ _
theorem e1048 (d : Nat) (μ : am_Mem) : am_call (d + 1) 1048 [.ref 56] μ = am_ev (am_call d) 1048 0 [.ref 56, .null, .null] [] μ := rfl
/-! NoWordTwiceModel.undo()Z  -/
set_option maxRecDepth 50000 in
theorem q1049_0 (C : am_Ct) (x1 : Value) (x2 : Value) (μ : am_Mem) : am_ev C 1049 0 [.ref 56, x1, x2] [] μ = (if (μ 56 3) = 0 then am_ret (some (.int (am_c 0))) μ else am_ev C 1049 9 [.ref 56, x1, x2] [] μ) := am_blk (b := [(.aload_n 0, 1), (.getfield 68, 3), (.ifCond .ne 5, 3), (.iconst 0, 1), (.ireturn, 1)]) rfl rfl (rfl : am_z 1049 = 2) _ _ _
set_option maxRecDepth 50000 in
theorem q1049_9 (C : am_Ct) (x1 : Value) (x2 : Value) (μ : am_Mem) : am_ev C 1049 9 [.ref 56, x1, x2] [] μ = (am_gb (Nat.blt (am_ix ((am_c 63) * ((am_up μ 56 3 ((μ 56 3) - (am_c 1))) 56 3))) 378) (am_gb (Nat.blt (am_ix (((am_c 63) * ((am_up μ 56 3 ((μ 56 3) - (am_c 1))) 56 3)) + (am_c 1))) 378) (am_gb (Nat.blt (am_ix (((am_c 63) * ((am_up μ 56 3 ((μ 56 3) - (am_c 1))) 56 3)) + (am_c 2))) 378) (am_ev C 1049 70 [.ref 56, .int ((am_c 63) * ((am_up μ 56 3 ((μ 56 3) - (am_c 1))) 56 3)), .int (am_c 0)] [] (am_up (am_up (am_up (am_up μ 56 3 ((μ 56 3) - (am_c 1))) 57 4 ((am_up μ 56 3 ((μ 56 3) - (am_c 1))) 59 (am_ix ((am_c 63) * ((am_up μ 56 3 ((μ 56 3) - (am_c 1))) 56 3))))) 57 5 ((am_up (am_up μ 56 3 ((μ 56 3) - (am_c 1))) 57 4 ((am_up μ 56 3 ((μ 56 3) - (am_c 1))) 59 (am_ix ((am_c 63) * ((am_up μ 56 3 ((μ 56 3) - (am_c 1))) 56 3))))) 59 (am_ix (((am_c 63) * ((am_up μ 56 3 ((μ 56 3) - (am_c 1))) 56 3)) + (am_c 1))))) 57 6 ((am_up (am_up (am_up μ 56 3 ((μ 56 3) - (am_c 1))) 57 4 ((am_up μ 56 3 ((μ 56 3) - (am_c 1))) 59 (am_ix ((am_c 63) * ((am_up μ 56 3 ((μ 56 3) - (am_c 1))) 56 3))))) 57 5 ((am_up (am_up μ 56 3 ((μ 56 3) - (am_c 1))) 57 4 ((am_up μ 56 3 ((μ 56 3) - (am_c 1))) 59 (am_ix ((am_c 63) * ((am_up μ 56 3 ((μ 56 3) - (am_c 1))) 56 3))))) 59 (am_ix (((am_c 63) * ((am_up μ 56 3 ((μ 56 3) - (am_c 1))) 56 3)) + (am_c 1))))) 59 (am_ix (((am_c 63) * ((am_up μ 56 3 ((μ 56 3) - (am_c 1))) 56 3)) + (am_c 2))))))))) := am_blk (b := [(.aload_n 0, 1), (.dup, 1), (.getfield 68, 3), (.iconst 1, 1), (.isub, 1), (.putfield 68, 3), (.bipush 63, 2), (.aload_n 0, 1), (.getfield 68, 3), (.imul, 1), (.istore_n 1, 1), (.aload_n 0, 1), (.getfield 7, 3), (.iconst 4, 1), (.aload_n 0, 1), (.getfield 16, 3), (.iload_n 1, 1), (.iaload, 1), (.iastore, 1), (.aload_n 0, 1), (.getfield 7, 3), (.iconst 5, 1), (.aload_n 0, 1), (.getfield 16, 3), (.iload_n 1, 1), (.iconst 1, 1), (.iadd, 1), (.iaload, 1), (.iastore, 1), (.aload_n 0, 1), (.getfield 7, 3), (.bipush 6, 2), (.aload_n 0, 1), (.getfield 16, 3), (.iload_n 1, 1), (.iconst 2, 1), (.iadd, 1), (.iaload, 1), (.iastore, 1), (.iconst 0, 1), (.istore_n 2, 1)]) rfl rfl (rfl : am_z 1049 = 2) _ _ _
set_option maxRecDepth 50000 in
theorem q1049_70 (C : am_Ct) (x1 : Int32) (x2 : Int32) (μ : am_Mem) : am_ev C 1049 70 [.ref 56, .int x1, .int x2] [] μ = (if (am_c 60) ≤ x2 then am_ev C 1049 101 [.ref 56, .int x1, .int x2] [] μ else am_gb (Nat.blt (am_ix ((x1 + (am_c 3)) + x2)) 378) (am_gb (Nat.blt (am_ix ((am_c 45) + x2)) 1320) (am_ev C 1049 70 [.ref 56, .int x1, .int (x2 + (am_c 1))] [] (am_up μ 57 (am_ix ((am_c 45) + x2)) (μ 59 (am_ix ((x1 + (am_c 3)) + x2))))))) := am_blk (b := [(.iload_n 2, 1), (.bipush 60, 2), (.if_icmp .ge 28, 3), (.aload_n 0, 1), (.getfield 7, 3), (.bipush 45, 2), (.iload_n 2, 1), (.iadd, 1), (.aload_n 0, 1), (.getfield 16, 3), (.iload_n 1, 1), (.iconst 3, 1), (.iadd, 1), (.iload_n 2, 1), (.iadd, 1), (.iaload, 1), (.iastore, 1), (.iinc 2 1, 3), (.goto (-28), 3)]) rfl rfl (rfl : am_z 1049 = 2) _ _ _
set_option maxRecDepth 50000 in
theorem q1049_101 (C : am_Ct) (x1 : Int32) (x2 : Int32) (μ : am_Mem) : am_ev C 1049 101 [.ref 56, .int x1, .int x2] [] μ = (am_ret (some (.int (am_c 1))) μ) := am_blk (b := [(.iconst 1, 1), (.ireturn, 1)]) rfl rfl (rfl : am_z 1049 = 2) _ _ _
theorem e1049 (d : Nat) (μ : am_Mem) : am_call (d + 1) 1049 [.ref 56] μ = am_ev (am_call d) 1049 0 [.ref 56, .null, .null] [] μ := rfl
/-! NoWordTwiceModel.writes(III)V  -/
set_option maxRecDepth 50000 in
theorem q1050_0 (C : am_Ct) (x1 : Int32) (x2 : Int32) (x3 : Int32) (x4 : Value) (μ : am_Mem) : am_ev C 1050 0 [.ref 56, .int x1, .int x2, .int x3, x4] [] μ = (if (μ 57 5) = (am_c 80) then am_ret none μ else am_ev C 1050 12 [.ref 56, .int x1, .int x2, .int x3, x4] [] μ) := am_blk (b := [(.aload_n 0, 1), (.getfield 7, 3), (.iconst 5, 1), (.iaload, 1), (.bipush 80, 2), (.if_icmp .ne 4, 3), (.return_, 1)]) rfl rfl (rfl : am_z 1050 = 0) _ _ _
set_option maxRecDepth 50000 in
theorem q1050_12 (C : am_Ct) (x1 : Int32) (x2 : Int32) (x3 : Int32) (x4 : Value) (μ : am_Mem) : am_ev C 1050 12 [.ref 56, .int x1, .int x2, .int x3, x4] [] μ = (am_gb (Nat.blt (am_ix ((am_c 110) + ((am_c 4) * (μ 57 5)))) 1320) (am_gb (Nat.blt (am_ix (((am_c 110) + ((am_c 4) * (μ 57 5))) + (am_c 1))) 1320) (am_gb (Nat.blt (am_ix (((am_c 110) + ((am_c 4) * (μ 57 5))) + (am_c 2))) 1320) (am_gb (Nat.blt (am_ix (((am_c 110) + ((am_c 4) * (μ 57 5))) + (am_c 3))) 1320) (am_ret none (am_up (am_up (am_up (am_up (am_up μ 57 (am_ix ((am_c 110) + ((am_c 4) * (μ 57 5)))) (μ 57 4)) 57 (am_ix (((am_c 110) + ((am_c 4) * (μ 57 5))) + (am_c 1))) x1) 57 (am_ix (((am_c 110) + ((am_c 4) * (μ 57 5))) + (am_c 2))) x2) 57 (am_ix (((am_c 110) + ((am_c 4) * (μ 57 5))) + (am_c 3))) x3) 57 5 (((am_up (am_up (am_up (am_up μ 57 (am_ix ((am_c 110) + ((am_c 4) * (μ 57 5)))) (μ 57 4)) 57 (am_ix (((am_c 110) + ((am_c 4) * (μ 57 5))) + (am_c 1))) x1) 57 (am_ix (((am_c 110) + ((am_c 4) * (μ 57 5))) + (am_c 2))) x2) 57 (am_ix (((am_c 110) + ((am_c 4) * (μ 57 5))) + (am_c 3))) x3) 57 5) + (am_c 1)))))))) := am_blk (b := [(.bipush 110, 2), (.iconst 4, 1), (.aload_n 0, 1), (.getfield 7, 3), (.iconst 5, 1), (.iaload, 1), (.imul, 1), (.iadd, 1), (.istore 4, 2), (.aload_n 0, 1), (.getfield 7, 3), (.iload 4, 2), (.aload_n 0, 1), (.getfield 7, 3), (.iconst 4, 1), (.iaload, 1), (.iastore, 1), (.aload_n 0, 1), (.getfield 7, 3), (.iload 4, 2), (.iconst 1, 1), (.iadd, 1), (.iload_n 1, 1), (.iastore, 1), (.aload_n 0, 1), (.getfield 7, 3), (.iload 4, 2), (.iconst 2, 1), (.iadd, 1), (.iload_n 2, 1), (.iastore, 1), (.aload_n 0, 1), (.getfield 7, 3), (.iload 4, 2), (.iconst 3, 1), (.iadd, 1), (.iload_n 3, 1), (.iastore, 1), (.aload_n 0, 1), (.getfield 7, 3), (.iconst 5, 1), (.dup2, 1), (.iaload, 1), (.iconst 1, 1), (.iadd, 1), (.iastore, 1), (.return_, 1)]) rfl rfl (rfl : am_z 1050 = 0) _ _ _
theorem e1050 (d : Nat) (x1 : Int32) (x2 : Int32) (x3 : Int32) (μ : am_Mem) : am_call (d + 1) 1050 [.ref 56, .int x1, .int x2, .int x3] μ = am_ev (am_call d) 1050 0 [.ref 56, .int x1, .int x2, .int x3, .null] [] μ := rfl
/-! NoWordTwiceModel.anEdition()I  -/
set_option maxRecDepth 50000 in
theorem q1051_0 (C : am_Ct) (x1 : Value) (x2 : Value) (x3 : Value) (x4 : Value) (μ : am_Mem) : am_ev C 1051 0 [.ref 56, x1, x2, x3, x4] [] μ = (am_ev C 1051 4 [.ref 56, .int (am_c 0), .int (am_c 0), x3, x4] [] μ) := am_blk (b := [(.iconst 0, 1), (.istore_n 1, 1), (.iconst 0, 1), (.istore_n 2, 1)]) rfl rfl (rfl : am_z 1051 = 0) _ _ _
set_option maxRecDepth 50000 in
theorem q1051_4 (C : am_Ct) (x1 : Int32) (x2 : Int32) (x3 : Value) (x4 : Value) (μ : am_Mem) : am_ev C 1051 4 [.ref 56, .int x1, .int x2, x3, x4] [] μ = (if (μ 57 1) ≤ x2 then am_ev C 1051 127 [.ref 56, .int x1, .int x2, x3, x4] [] μ else if (μ 57 3) = 0 then am_ev C 1051 121 [.ref 56, .int x1, .int x2, x3, x4] [] μ else am_bI (C 1010 [.ref 56, .int (am_c 1000)] μ) (fun r1 m1 => if r1 < (m1 57 3) then am_ev C 1051 42 [.ref 56, .int x1, .int x2, x3, x4] [] m1 else am_ev C 1051 121 [.ref 56, .int x1, .int x2, x3, x4] [] m1)) := am_blk (b := [(.iload_n 2, 1), (.aload_n 0, 1), (.getfield 7, 3), (.iconst 1, 1), (.iaload, 1), (.if_icmp .ge 116, 3), (.aload_n 0, 1), (.getfield 7, 3), (.iconst 3, 1), (.iaload, 1), (.ifCond .eq 101, 3), (.aload_n 0, 1), (.sipush 1000, 3), (.invokevirtual 246, 3), (.aload_n 0, 1), (.getfield 7, 3), (.iconst 3, 1), (.iaload, 1), (.if_icmp .lt 6, 3), (.goto 82, 3)]) rfl rfl (rfl : am_z 1051 = 0) _ _ _
set_option maxRecDepth 50000 in
theorem q1051_42 (C : am_Ct) (x1 : Int32) (x2 : Int32) (x3 : Value) (x4 : Value) (μ : am_Mem) : am_ev C 1051 42 [.ref 56, .int x1, .int x2, x3, x4] [] μ = (am_bI (C 1005 [.ref 56, .int x2, .int (am_c 1)] μ) (fun r1 m1 => am_bI (C 1010 [.ref 56, .int r1] m1) (fun r2 m2 => am_bI (C 1010 [.ref 56, .int (m2 57 0)] m2) (fun r3 m3 => am_bI (C 1005 [.ref 56, .int x2, .int (am_c 0)] m3) (fun r4 m4 => if r3 = r4 then am_ev C 1051 121 [.ref 56, .int x1, .int x2, .int r2, .int r3] [] m4 else am_bI (C 1044 [.ref 56, .int x2] m4) (fun r5 m5 => if ((r5 >>> (r3 &&& 31)) &&& (am_c 1)) = (am_c 1) then am_ev C 1051 121 [.ref 56, .int x1, .int x2, .int r2, .int r3] [] m5 else am_ev C 1051 93 [.ref 56, .int x1, .int x2, .int r2, .int r3] [] m5)))))) := am_blk (b := [(.aload_n 0, 1), (.aload_n 0, 1), (.iload_n 2, 1), (.iconst 1, 1), (.invokevirtual 88, 3), (.invokevirtual 246, 3), (.istore_n 3, 1), (.aload_n 0, 1), (.aload_n 0, 1), (.getfield 7, 3), (.iconst 0, 1), (.iaload, 1), (.invokevirtual 246, 3), (.istore 4, 2), (.iload 4, 2), (.aload_n 0, 1), (.iload_n 2, 1), (.iconst 0, 1), (.invokevirtual 88, 3), (.if_icmp .eq 48, 3), (.aload_n 0, 1), (.iload_n 2, 1), (.invokevirtual 236, 3), (.iload 4, 2), (.ishr, 1), (.iconst 1, 1), (.iand, 1), (.iconst 1, 1), (.if_icmp .ne 6, 3), (.goto 31, 3)]) rfl rfl (rfl : am_z 1051 = 0) _ _ _
set_option maxRecDepth 50000 in
theorem q1051_93 (C : am_Ct) (x1 : Int32) (x2 : Int32) (x3 : Int32) (x4 : Int32) (μ : am_Mem) : am_ev C 1051 93 [.ref 56, .int x1, .int x2, .int x3, .int x4] [] μ = (am_bI (C 1005 [.ref 56, .int x2, .int ((am_c 2) + x3)] μ) (fun r1 m1 => am_bV (C 1050 [.ref 56, .int x2, .int r1, .int x4] m1) (fun m2 => am_bV (C 1006 [.ref 56, .int x2, .int ((am_c 2) + x3), .int x4] m2) (fun m3 => am_ev C 1051 121 [.ref 56, .int (x1 + (am_c 1)), .int x2, .int x3, .int x4] [] m3)))) := am_blk (b := [(.aload_n 0, 1), (.iload_n 2, 1), (.aload_n 0, 1), (.iload_n 2, 1), (.iconst 2, 1), (.iload_n 3, 1), (.iadd, 1), (.invokevirtual 88, 3), (.iload 4, 2), (.invokevirtual 249, 3), (.aload_n 0, 1), (.iload_n 2, 1), (.iconst 2, 1), (.iload_n 3, 1), (.iadd, 1), (.iload 4, 2), (.invokevirtual 84, 3), (.iinc 1 1, 3)]) rfl rfl (rfl : am_z 1051 = 0) _ _ _
set_option maxRecDepth 50000 in
theorem q1051_121 (C : am_Ct) (x1 : Int32) (x2 : Int32) (x3 : Value) (x4 : Value) (μ : am_Mem) : am_ev C 1051 121 [.ref 56, .int x1, .int x2, x3, x4] [] μ = (am_ev C 1051 4 [.ref 56, .int x1, .int (x2 + (am_c 1)), x3, x4] [] μ) := am_blk (b := [(.iinc 2 1, 3), (.goto (-120), 3)]) rfl rfl (rfl : am_z 1051 = 0) _ _ _
set_option maxRecDepth 50000 in
theorem q1051_127 (C : am_Ct) (x1 : Int32) (x2 : Int32) (x3 : Value) (x4 : Value) (μ : am_Mem) : am_ev C 1051 127 [.ref 56, .int x1, .int x2, x3, x4] [] μ = (am_ret (some (.int x1)) (am_up μ 57 4 ((μ 57 4) + (am_c 1)))) := am_blk (b := [(.aload_n 0, 1), (.getfield 7, 3), (.iconst 4, 1), (.dup2, 1), (.iaload, 1), (.iconst 1, 1), (.iadd, 1), (.iastore, 1), (.iload_n 1, 1), (.ireturn, 1)]) rfl rfl (rfl : am_z 1051 = 0) _ _ _
theorem e1051 (d : Nat) (μ : am_Mem) : am_call (d + 1) 1051 [.ref 56] μ = am_ev (am_call d) 1051 0 [.ref 56, .null, .null, .null, .null] [] μ := rfl
/-! NoWordTwiceModel.editions(I)I  -/
set_option maxRecDepth 50000 in
theorem q1052_0 (C : am_Ct) (x1 : Int32) (x2 : Value) (x3 : Value) (μ : am_Mem) : am_ev C 1052 0 [.ref 56, .int x1, x2, x3] [] μ = (am_bI (C 1001 [.int x1, .int (am_c 1), .int (am_c 50)] μ) (fun r1 m1 => if r1 = 0 then am_ev C 1052 24 [.ref 56, .int x1, x2, x3] [] m1 else if ((m1 57 4) + x1) ≤ (am_c 9999) then am_ev C 1052 26 [.ref 56, .int x1, x2, x3] [] m1 else am_ev C 1052 24 [.ref 56, .int x1, x2, x3] [] m1)) := am_blk (b := [(.iload_n 1, 1), (.iconst 1, 1), (.bipush 50, 2), (.invokestatic 64, 3), (.ifCond .eq 17, 3), (.aload_n 0, 1), (.getfield 7, 3), (.iconst 4, 1), (.iaload, 1), (.iload_n 1, 1), (.iadd, 1), (.sipush 9999, 3), (.if_icmp .le 5, 3)]) rfl rfl (rfl : am_z 1052 = 0) _ _ _
set_option maxRecDepth 50000 in
theorem q1052_24 (C : am_Ct) (x1 : Int32) (x2 : Value) (x3 : Value) (μ : am_Mem) : am_ev C 1052 24 [.ref 56, .int x1, x2, x3] [] μ = (am_ret (some (.int (am_c (-1)))) μ) := am_blk (b := [(.iconst (-1), 1), (.ireturn, 1)]) rfl rfl (rfl : am_z 1052 = 0) _ _ _
set_option maxRecDepth 50000 in
theorem q1052_26 (C : am_Ct) (x1 : Int32) (x2 : Value) (x3 : Value) (μ : am_Mem) : am_ev C 1052 26 [.ref 56, .int x1, x2, x3] [] μ = (am_ev C 1052 30 [.ref 56, .int x1, .int (am_c 0), .int (am_c 0)] [] μ) := am_blk (b := [(.iconst 0, 1), (.istore_n 2, 1), (.iconst 0, 1), (.istore_n 3, 1)]) rfl rfl (rfl : am_z 1052 = 0) _ _ _
set_option maxRecDepth 50000 in
theorem q1052_30 (C : am_Ct) (x1 : Int32) (x2 : Int32) (x3 : Int32) (μ : am_Mem) : am_ev C 1052 30 [.ref 56, .int x1, .int x2, .int x3] [] μ = (if x1 ≤ x3 then am_ev C 1052 52 [.ref 56, .int x1, .int x2, .int x3] [] μ else am_bV (C 1048 [.ref 56] μ) (fun m1 => am_bI (C 1051 [.ref 56] m1) (fun r2 m2 => am_ev C 1052 30 [.ref 56, .int x1, .int (x2 + r2), .int (x3 + (am_c 1))] [] m2))) := am_blk (b := [(.iload_n 3, 1), (.iload_n 1, 1), (.if_icmp .ge 20, 3), (.aload_n 0, 1), (.invokevirtual 252, 3), (.iload_n 2, 1), (.aload_n 0, 1), (.invokevirtual 255, 3), (.iadd, 1), (.istore_n 2, 1), (.iinc 3 1, 3), (.goto (-19), 3)]) rfl rfl (rfl : am_z 1052 = 0) _ _ _
set_option maxRecDepth 50000 in
theorem q1052_52 (C : am_Ct) (x1 : Int32) (x2 : Int32) (x3 : Int32) (μ : am_Mem) : am_ev C 1052 52 [.ref 56, .int x1, .int x2, .int x3] [] μ = (am_ret (some (.int x2)) μ) := am_blk (b := [(.iload_n 2, 1), (.ireturn, 1)]) rfl rfl (rfl : am_z 1052 = 0) _ _ _
theorem e1052 (d : Nat) (x1 : Int32) (μ : am_Mem) : am_call (d + 1) 1052 [.ref 56, .int x1] μ = am_ev (am_call d) 1052 0 [.ref 56, .int x1, .null, .null] [] μ := rfl
/-! NoWordTwiceModel.led(I)I  -/
set_option maxRecDepth 50000 in
theorem q1053_0 (C : am_Ct) (x1 : Int32) (x2 : Value) (μ : am_Mem) : am_ev C 1053 0 [.ref 56, .int x1, x2] [] μ = (am_ev C 1053 2 [.ref 56, .int x1, .int (am_c 0)] [] μ) := am_blk (b := [(.iconst 0, 1), (.istore_n 2, 1)]) rfl rfl (rfl : am_z 1053 = 0) _ _ _
set_option maxRecDepth 50000 in
theorem q1053_2 (C : am_Ct) (x1 : Int32) (x2 : Int32) (μ : am_Mem) : am_ev C 1053 2 [.ref 56, .int x1, .int x2] [] μ = (if (μ 57 1) ≤ x2 then am_ev C 1053 33 [.ref 56, .int x1, .int x2] [] μ else am_bI (C 1044 [.ref 56, .int x2] μ) (fun r1 m1 => if ((r1 >>> (x1 &&& 31)) &&& (am_c 1)) = (am_c 1) then am_ret (some (.int x2)) m1 else am_ev C 1053 27 [.ref 56, .int x1, .int x2] [] m1)) := am_blk (b := [(.iload_n 2, 1), (.aload_n 0, 1), (.getfield 7, 3), (.iconst 1, 1), (.iaload, 1), (.if_icmp .ge 24, 3), (.aload_n 0, 1), (.iload_n 2, 1), (.invokevirtual 236, 3), (.iload_n 1, 1), (.ishr, 1), (.iconst 1, 1), (.iand, 1), (.iconst 1, 1), (.if_icmp .ne 5, 3), (.iload_n 2, 1), (.ireturn, 1)]) rfl rfl (rfl : am_z 1053 = 0) _ _ _
set_option maxRecDepth 50000 in
theorem q1053_27 (C : am_Ct) (x1 : Int32) (x2 : Int32) (μ : am_Mem) : am_ev C 1053 27 [.ref 56, .int x1, .int x2] [] μ = (am_ev C 1053 2 [.ref 56, .int x1, .int (x2 + (am_c 1))] [] μ) := am_blk (b := [(.iinc 2 1, 3), (.goto (-28), 3)]) rfl rfl (rfl : am_z 1053 = 0) _ _ _
set_option maxRecDepth 50000 in
theorem q1053_33 (C : am_Ct) (x1 : Int32) (x2 : Int32) (μ : am_Mem) : am_ev C 1053 33 [.ref 56, .int x1, .int x2] [] μ = (am_ret (some (.int (am_c (-1)))) μ) := am_blk (b := [(.iconst (-1), 1), (.ireturn, 1)]) rfl rfl (rfl : am_z 1053 = 0) _ _ _
theorem e1053 (d : Nat) (x1 : Int32) (μ : am_Mem) : am_call (d + 1) 1053 [.ref 56, .int x1] μ = am_ev (am_call d) 1053 0 [.ref 56, .int x1, .null] [] μ := rfl
/-! NoWordTwiceModel.of(II)I  -/
set_option maxRecDepth 50000 in
theorem q1054_0 (C : am_Ct) (x1 : Int32) (x2 : Int32) (x3 : Value) (x4 : Value) (μ : am_Mem) : am_ev C 1054 0 [.ref 56, .int x1, .int x2, x3, x4] [] μ = (am_bI (C 1002 [.ref 56, .int x1] μ) (fun r1 m1 => if r1 = 0 then am_ret (some (.int (am_c (-2)))) m1 else am_ev C 1054 11 [.ref 56, .int x1, .int x2, x3, x4] [] m1)) := am_blk (b := [(.aload_n 0, 1), (.iload_n 1, 1), (.invokevirtual 76, 3), (.ifCond .ne 6, 3), (.bipush (-2), 2), (.ireturn, 1)]) rfl rfl (rfl : am_z 1054 = 0) _ _ _
set_option maxRecDepth 50000 in
theorem q1054_11 (C : am_Ct) (x1 : Int32) (x2 : Int32) (x3 : Value) (x4 : Value) (μ : am_Mem) : am_ev C 1054 11 [.ref 56, .int x1, .int x2, x3, x4] [] μ = (if x2 = (am_c 0) then am_ev C 1054 48 [.ref 56, .int x1, .int x2, x3, x4] [] μ else if x2 = (am_c 1) then am_ev C 1054 58 [.ref 56, .int x1, .int x2, x3, x4] [] μ else if x2 = (am_c 2) then am_ev C 1054 68 [.ref 56, .int x1, .int x2, x3, x4] [] μ else if x2 = (am_c 3) then am_ev C 1054 80 [.ref 56, .int x1, .int x2, x3, x4] [] μ else if x2 = (am_c 4) then am_ev C 1054 86 [.ref 56, .int x1, .int x2, x3, x4] [] μ else am_ev C 1054 149 [.ref 56, .int x1, .int x2, x3, x4] [] μ) := am_blk (b := [(.iload_n 2, 1), (.tableswitch 137 0 4 #[36, 46, 56, 68, 74], 36)]) rfl rfl (rfl : am_z 1054 = 0) _ _ _
set_option maxRecDepth 50000 in
theorem q1054_48 (C : am_Ct) (x1 : Int32) (x2 : Int32) (x3 : Value) (x4 : Value) (μ : am_Mem) : am_ev C 1054 48 [.ref 56, .int x1, .int x2, x3, x4] [] μ = (am_gb (Nat.blt (am_ix ((am_c 10) + x1)) 1320) (am_ret (some (.int (μ 57 (am_ix ((am_c 10) + x1))))) μ)) := am_blk (b := [(.aload_n 0, 1), (.getfield 7, 3), (.bipush 10, 2), (.iload_n 1, 1), (.iadd, 1), (.iaload, 1), (.ireturn, 1)]) rfl rfl (rfl : am_z 1054 = 0) _ _ _
set_option maxRecDepth 50000 in
theorem q1054_58 (C : am_Ct) (x1 : Int32) (x2 : Int32) (x3 : Value) (x4 : Value) (μ : am_Mem) : am_ev C 1054 58 [.ref 56, .int x1, .int x2, x3, x4] [] μ = (am_gb (Nat.blt (am_ix ((am_c 26) + x1)) 1320) (am_ret (some (.int (μ 57 (am_ix ((am_c 26) + x1))))) μ)) := am_blk (b := [(.aload_n 0, 1), (.getfield 7, 3), (.bipush 26, 2), (.iload_n 1, 1), (.iadd, 1), (.iaload, 1), (.ireturn, 1)]) rfl rfl (rfl : am_z 1054 = 0) _ _ _
set_option maxRecDepth 50000 in
theorem q1054_68 (C : am_Ct) (x1 : Int32) (x2 : Int32) (x3 : Value) (x4 : Value) (μ : am_Mem) : am_ev C 1054 68 [.ref 56, .int x1, .int x2, x3, x4] [] μ = (am_bI (C 1046 [.ref 56, .int x1, .int (μ 57 1)] μ) (fun r1 m1 => am_ret (some (.int r1)) m1)) := am_blk (b := [(.aload_n 0, 1), (.iload_n 1, 1), (.aload_n 0, 1), (.getfield 7, 3), (.iconst 1, 1), (.iaload, 1), (.invokevirtual 258, 3), (.ireturn, 1)]) rfl rfl (rfl : am_z 1054 = 0) _ _ _
set_option maxRecDepth 50000 in
theorem q1054_80 (C : am_Ct) (x1 : Int32) (x2 : Int32) (x3 : Value) (x4 : Value) (μ : am_Mem) : am_ev C 1054 80 [.ref 56, .int x1, .int x2, x3, x4] [] μ = (am_bI (C 1053 [.ref 56, .int x1] μ) (fun r1 m1 => am_ret (some (.int r1)) m1)) := am_blk (b := [(.aload_n 0, 1), (.iload_n 1, 1), (.invokevirtual 261, 3), (.ireturn, 1)]) rfl rfl (rfl : am_z 1054 = 0) _ _ _
set_option maxRecDepth 50000 in
theorem q1054_86 (C : am_Ct) (x1 : Int32) (x2 : Int32) (x3 : Value) (x4 : Value) (μ : am_Mem) : am_ev C 1054 86 [.ref 56, .int x1, .int x2, x3, x4] [] μ = (am_ev C 1054 91 [.ref 56, .int x1, .int x2, .int (am_c 0), .int (am_c 0)] [] μ) := am_blk (b := [(.iconst 0, 1), (.istore_n 3, 1), (.iconst 0, 1), (.istore 4, 2)]) rfl rfl (rfl : am_z 1054 = 0) _ _ _
set_option maxRecDepth 50000 in
theorem q1054_91 (C : am_Ct) (x1 : Int32) (x2 : Int32) (x3 : Int32) (x4 : Int32) (μ : am_Mem) : am_ev C 1054 91 [.ref 56, .int x1, .int x2, .int x3, .int x4] [] μ = (if (μ 57 0) ≤ x4 then am_ev C 1054 147 [.ref 56, .int x1, .int x2, .int x3, .int x4] [] μ else if x4 = x1 then am_ev C 1054 138 [.ref 56, .int x1, .int x2, .int x3, .int x4] [.int x3] μ else am_gb (Nat.blt (am_ix ((am_c 10) + x4)) 1320) (am_gb (Nat.blt (am_ix ((am_c 10) + x1)) 1320) (if (μ 57 (am_ix ((am_c 10) + x4))) = (μ 57 (am_ix ((am_c 10) + x1))) then am_ev C 1054 139 [.ref 56, .int x1, .int x2, .int x3, .int x4] [.int (((am_c 1) : Int32) <<< (x4 &&& 31)), .int x3] μ else am_ev C 1054 138 [.ref 56, .int x1, .int x2, .int x3, .int x4] [.int x3] μ))) := am_blk (b := [(.iload 4, 2), (.aload_n 0, 1), (.getfield 7, 3), (.iconst 0, 1), (.iaload, 1), (.if_icmp .ge 48, 3), (.iload_n 3, 1), (.iload 4, 2), (.iload_n 1, 1), (.if_icmp .eq 32, 3), (.aload_n 0, 1), (.getfield 7, 3), (.bipush 10, 2), (.iload 4, 2), (.iadd, 1), (.iaload, 1), (.aload_n 0, 1), (.getfield 7, 3), (.bipush 10, 2), (.iload_n 1, 1), (.iadd, 1), (.iaload, 1), (.if_icmp .ne 10, 3), (.iconst 1, 1), (.iload 4, 2), (.ishl, 1), (.goto 4, 3)]) rfl rfl (rfl : am_z 1054 = 0) _ _ _
set_option maxRecDepth 50000 in
theorem q1054_138 (C : am_Ct) (x1 : Int32) (x2 : Int32) (x3 : Int32) (x4 : Int32) (s0 : Int32) (μ : am_Mem) : am_ev C 1054 138 [.ref 56, .int x1, .int x2, .int x3, .int x4] [.int s0] μ = (am_ev C 1054 139 [.ref 56, .int x1, .int x2, .int x3, .int x4] [.int (am_c 0), .int s0] μ) := am_blk (b := [(.iconst 0, 1)]) rfl rfl (rfl : am_z 1054 = 0) _ _ _
set_option maxRecDepth 50000 in
theorem q1054_139 (C : am_Ct) (x1 : Int32) (x2 : Int32) (x3 : Int32) (x4 : Int32) (s0 : Int32) (s1 : Int32) (μ : am_Mem) : am_ev C 1054 139 [.ref 56, .int x1, .int x2, .int x3, .int x4] [.int s0, .int s1] μ = (am_ev C 1054 91 [.ref 56, .int x1, .int x2, .int (s1 ||| s0), .int (x4 + (am_c 1))] [] μ) := am_blk (b := [(.ior, 1), (.istore_n 3, 1), (.iinc 4 1, 3), (.goto (-53), 3)]) rfl rfl (rfl : am_z 1054 = 0) _ _ _
set_option maxRecDepth 50000 in
theorem q1054_147 (C : am_Ct) (x1 : Int32) (x2 : Int32) (x3 : Int32) (x4 : Int32) (μ : am_Mem) : am_ev C 1054 147 [.ref 56, .int x1, .int x2, .int x3, .int x4] [] μ = (am_ret (some (.int x3)) μ) := am_blk (b := [(.iload_n 3, 1), (.ireturn, 1)]) rfl rfl (rfl : am_z 1054 = 0) _ _ _
set_option maxRecDepth 50000 in
theorem q1054_149 (C : am_Ct) (x1 : Int32) (x2 : Int32) (x3 : Value) (x4 : Value) (μ : am_Mem) : am_ev C 1054 149 [.ref 56, .int x1, .int x2, x3, x4] [] μ = (am_ret (some (.int (am_c (-2)))) μ) := am_blk (b := [(.bipush (-2), 2), (.ireturn, 1)]) rfl rfl (rfl : am_z 1054 = 0) _ _ _
theorem e1054 (d : Nat) (x1 : Int32) (x2 : Int32) (μ : am_Mem) : am_call (d + 1) 1054 [.ref 56, .int x1, .int x2] μ = am_ev (am_call d) 1054 0 [.ref 56, .int x1, .int x2, .null, .null] [] μ := rfl
/-! NoWordTwiceModel.at(II)I  -/
set_option maxRecDepth 50000 in
theorem q1055_0 (C : am_Ct) (x1 : Int32) (x2 : Int32) (μ : am_Mem) : am_ev C 1055 0 [.ref 56, .int x1, .int x2] [] μ = (am_bI (C 1003 [.ref 56, .int x1] μ) (fun r1 m1 => if r1 = 0 then am_ret (some (.int (am_c (-1)))) m1 else am_ev C 1055 10 [.ref 56, .int x1, .int x2] [] m1)) := am_blk (b := [(.aload_n 0, 1), (.iload_n 1, 1), (.invokevirtual 92, 3), (.ifCond .ne 5, 3), (.iconst (-1), 1), (.ireturn, 1)]) rfl rfl (rfl : am_z 1055 = 0) _ _ _
set_option maxRecDepth 50000 in
theorem q1055_10 (C : am_Ct) (x1 : Int32) (x2 : Int32) (μ : am_Mem) : am_ev C 1055 10 [.ref 56, .int x1, .int x2] [] μ = (if x2 = (am_c 0) then am_ev C 1055 36 [.ref 56, .int x1, .int x2] [] μ else if x2 = (am_c 1) then am_ev C 1055 43 [.ref 56, .int x1, .int x2] [] μ else if x2 = (am_c 2) then am_ev C 1055 50 [.ref 56, .int x1, .int x2] [] μ else am_ev C 1055 64 [.ref 56, .int x1, .int x2] [] μ) := am_blk (b := [(.iload_n 2, 1), (.tableswitch 53 0 2 #[25, 32, 39], 25)]) rfl rfl (rfl : am_z 1055 = 0) _ _ _
set_option maxRecDepth 50000 in
theorem q1055_36 (C : am_Ct) (x1 : Int32) (x2 : Int32) (μ : am_Mem) : am_ev C 1055 36 [.ref 56, .int x1, .int x2] [] μ = (am_bI (C 1005 [.ref 56, .int x1, .int (am_c 0)] μ) (fun r1 m1 => am_ret (some (.int r1)) m1)) := am_blk (b := [(.aload_n 0, 1), (.iload_n 1, 1), (.iconst 0, 1), (.invokevirtual 88, 3), (.ireturn, 1)]) rfl rfl (rfl : am_z 1055 = 0) _ _ _
set_option maxRecDepth 50000 in
theorem q1055_43 (C : am_Ct) (x1 : Int32) (x2 : Int32) (μ : am_Mem) : am_ev C 1055 43 [.ref 56, .int x1, .int x2] [] μ = (am_bI (C 1005 [.ref 56, .int x1, .int (am_c 1)] μ) (fun r1 m1 => am_ret (some (.int r1)) m1)) := am_blk (b := [(.aload_n 0, 1), (.iload_n 1, 1), (.iconst 1, 1), (.invokevirtual 88, 3), (.ireturn, 1)]) rfl rfl (rfl : am_z 1055 = 0) _ _ _
set_option maxRecDepth 50000 in
theorem q1055_50 (C : am_Ct) (x1 : Int32) (x2 : Int32) (μ : am_Mem) : am_ev C 1055 50 [.ref 56, .int x1, .int x2] [] μ = (am_bI (C 1045 [.ref 56, .int x1] μ) (fun r1 m1 => if r1 = 0 then am_ev C 1055 62 [.ref 56, .int x1, .int x2] [] m1 else am_ev C 1055 63 [.ref 56, .int x1, .int x2] [.int (am_c 1)] m1)) := am_blk (b := [(.aload_n 0, 1), (.iload_n 1, 1), (.invokevirtual 264, 3), (.ifCond .eq 7, 3), (.iconst 1, 1), (.goto 4, 3)]) rfl rfl (rfl : am_z 1055 = 0) _ _ _
set_option maxRecDepth 50000 in
theorem q1055_62 (C : am_Ct) (x1 : Int32) (x2 : Int32) (μ : am_Mem) : am_ev C 1055 62 [.ref 56, .int x1, .int x2] [] μ = (am_ev C 1055 63 [.ref 56, .int x1, .int x2] [.int (am_c 0)] μ) := am_blk (b := [(.iconst 0, 1)]) rfl rfl (rfl : am_z 1055 = 0) _ _ _
set_option maxRecDepth 50000 in
theorem q1055_63 (C : am_Ct) (x1 : Int32) (x2 : Int32) (s0 : Int32) (μ : am_Mem) : am_ev C 1055 63 [.ref 56, .int x1, .int x2] [.int s0] μ = (am_ret (some (.int s0)) μ) := am_blk (b := [(.ireturn, 1)]) rfl rfl (rfl : am_z 1055 = 0) _ _ _
set_option maxRecDepth 50000 in
theorem q1055_64 (C : am_Ct) (x1 : Int32) (x2 : Int32) (μ : am_Mem) : am_ev C 1055 64 [.ref 56, .int x1, .int x2] [] μ = (am_bI (C 1005 [.ref 56, .int x1, .int (am_c 1)] μ) (fun r1 m1 => am_bI (C 1001 [.int x2, .int (am_c 10), .int ((am_c 9) + r1)] m1) (fun r2 m2 => if r2 = 0 then am_ev C 1055 96 [.ref 56, .int x1, .int x2] [] m2 else am_bI (C 1005 [.ref 56, .int x1, .int (((am_c 2) + x2) - (am_c 10))] m2) (fun r3 m3 => am_ev C 1055 97 [.ref 56, .int x1, .int x2] [.int r3] m3)))) := am_blk (b := [(.iload_n 2, 1), (.bipush 10, 2), (.bipush 9, 2), (.aload_n 0, 1), (.iload_n 1, 1), (.iconst 1, 1), (.invokevirtual 88, 3), (.iadd, 1), (.invokestatic 64, 3), (.ifCond .eq 17, 3), (.aload_n 0, 1), (.iload_n 1, 1), (.iconst 2, 1), (.iload_n 2, 1), (.iadd, 1), (.bipush 10, 2), (.isub, 1), (.invokevirtual 88, 3), (.goto 4, 3)]) rfl rfl (rfl : am_z 1055 = 0) _ _ _
set_option maxRecDepth 50000 in
theorem q1055_96 (C : am_Ct) (x1 : Int32) (x2 : Int32) (μ : am_Mem) : am_ev C 1055 96 [.ref 56, .int x1, .int x2] [] μ = (am_ev C 1055 97 [.ref 56, .int x1, .int x2] [.int (am_c (-1))] μ) := am_blk (b := [(.iconst (-1), 1)]) rfl rfl (rfl : am_z 1055 = 0) _ _ _
set_option maxRecDepth 50000 in
theorem q1055_97 (C : am_Ct) (x1 : Int32) (x2 : Int32) (s0 : Int32) (μ : am_Mem) : am_ev C 1055 97 [.ref 56, .int x1, .int x2] [.int s0] μ = (am_ret (some (.int s0)) μ) := am_blk (b := [(.ireturn, 1)]) rfl rfl (rfl : am_z 1055 = 0) _ _ _
theorem e1055 (d : Nat) (x1 : Int32) (x2 : Int32) (μ : am_Mem) : am_call (d + 1) 1055 [.ref 56, .int x1, .int x2] μ = am_ev (am_call d) 1055 0 [.ref 56, .int x1, .int x2] [] μ := rfl
/-! NoWordTwiceModel.isHeadAhead(II)Z  -/
set_option maxRecDepth 50000 in
theorem q1056_0 (C : am_Ct) (x1 : Int32) (x2 : Int32) (x3 : Value) (μ : am_Mem) : am_ev C 1056 0 [.ref 56, .int x1, .int x2, x3] [] μ = (am_ev C 1056 2 [.ref 56, .int x1, .int x2, .int (am_c 0)] [] μ) := am_blk (b := [(.iconst 0, 1), (.istore_n 3, 1)]) rfl rfl (rfl : am_z 1056 = 2) _ _ _
set_option maxRecDepth 50000 in
theorem q1056_2 (C : am_Ct) (x1 : Int32) (x2 : Int32) (x3 : Int32) (μ : am_Mem) : am_ev C 1056 2 [.ref 56, .int x1, .int x2, .int x3] [] μ = (if x2 ≤ x3 then am_ev C 1056 25 [.ref 56, .int x1, .int x2, .int x3] [] μ else am_bI (C 1005 [.ref 56, .int x3, .int (am_c 0)] μ) (fun r1 m1 => if r1 = x1 then am_ret (some (.int (am_c 1))) m1 else am_ev C 1056 19 [.ref 56, .int x1, .int x2, .int x3] [] m1)) := am_blk (b := [(.iload_n 3, 1), (.iload_n 2, 1), (.if_icmp .ge 21, 3), (.aload_n 0, 1), (.iload_n 3, 1), (.iconst 0, 1), (.invokevirtual 88, 3), (.iload_n 1, 1), (.if_icmp .ne 5, 3), (.iconst 1, 1), (.ireturn, 1)]) rfl rfl (rfl : am_z 1056 = 2) _ _ _
set_option maxRecDepth 50000 in
theorem q1056_19 (C : am_Ct) (x1 : Int32) (x2 : Int32) (x3 : Int32) (μ : am_Mem) : am_ev C 1056 19 [.ref 56, .int x1, .int x2, .int x3] [] μ = (am_ev C 1056 2 [.ref 56, .int x1, .int x2, .int (x3 + (am_c 1))] [] μ) := am_blk (b := [(.iinc 3 1, 3), (.goto (-20), 3)]) rfl rfl (rfl : am_z 1056 = 2) _ _ _
set_option maxRecDepth 50000 in
theorem q1056_25 (C : am_Ct) (x1 : Int32) (x2 : Int32) (x3 : Int32) (μ : am_Mem) : am_ev C 1056 25 [.ref 56, .int x1, .int x2, .int x3] [] μ = (am_ret (some (.int (am_c 0))) μ) := am_blk (b := [(.iconst 0, 1), (.ireturn, 1)]) rfl rfl (rfl : am_z 1056 = 2) _ _ _
theorem e1056 (d : Nat) (x1 : Int32) (x2 : Int32) (μ : am_Mem) : am_call (d + 1) 1056 [.ref 56, .int x1, .int x2] μ = am_ev (am_call d) 1056 0 [.ref 56, .int x1, .int x2, .null] [] μ := rfl
/-! NoWordTwiceModel.faultOf(I)I  -/
set_option maxRecDepth 50000 in
theorem q1057_0 (C : am_Ct) (x1 : Int32) (x2 : Value) (x3 : Value) (μ : am_Mem) : am_ev C 1057 0 [.ref 56, .int x1, x2, x3] [] μ = (am_bI (C 1005 [.ref 56, .int x1, .int (am_c 0)] (am_up μ 56 23 (am_c (-1)))) (fun r1 m1 => am_bI (C 1056 [.ref 56, .int r1, .int x1] m1) (fun r2 m2 => if r2 = 0 then am_ev C 1057 21 [.ref 56, .int x1, x2, x3] [] m2 else am_ret (some (.int (am_c 1))) m2))) := am_blk (b := [(.aload_n 0, 1), (.iconst (-1), 1), (.putfield 267, 3), (.aload_n 0, 1), (.aload_n 0, 1), (.iload_n 1, 1), (.iconst 0, 1), (.invokevirtual 88, 3), (.iload_n 1, 1), (.invokevirtual 270, 3), (.ifCond .eq 5, 3), (.iconst 1, 1), (.ireturn, 1)]) rfl rfl (rfl : am_z 1057 = 0) _ _ _
set_option maxRecDepth 50000 in
theorem q1057_21 (C : am_Ct) (x1 : Int32) (x2 : Value) (x3 : Value) (μ : am_Mem) : am_ev C 1057 21 [.ref 56, .int x1, x2, x3] [] μ = (am_ev C 1057 23 [.ref 56, .int x1, .int (am_c 0), x3] [] μ) := am_blk (b := [(.iconst 0, 1), (.istore_n 2, 1)]) rfl rfl (rfl : am_z 1057 = 0) _ _ _
set_option maxRecDepth 50000 in
theorem q1057_23 (C : am_Ct) (x1 : Int32) (x2 : Int32) (x3 : Value) (μ : am_Mem) : am_ev C 1057 23 [.ref 56, .int x1, .int x2, x3] [] μ = (am_bI (C 1005 [.ref 56, .int x1, .int (am_c 1)] μ) (fun r1 m1 => if r1 ≤ x2 then am_ev C 1057 78 [.ref 56, .int x1, .int x2, x3] [] m1 else am_bI (C 1005 [.ref 56, .int x1, .int ((am_c 2) + x2)] m1) (fun r2 m2 => am_bI (C 1046 [.ref 56, .int r2, .int x1] m2) (fun r3 m3 => if (m3 57 2) ≤ r3 then am_ev C 1057 58 [.ref 56, .int x1, .int x2, x3] [] m3 else am_ev C 1057 72 [.ref 56, .int x1, .int x2, x3] [] m3)))) := am_blk (b := [(.iload_n 2, 1), (.aload_n 0, 1), (.iload_n 1, 1), (.iconst 1, 1), (.invokevirtual 88, 3), (.if_icmp .ge 48, 3), (.aload_n 0, 1), (.aload_n 0, 1), (.iload_n 1, 1), (.iconst 2, 1), (.iload_n 2, 1), (.iadd, 1), (.invokevirtual 88, 3), (.iload_n 1, 1), (.invokevirtual 258, 3), (.aload_n 0, 1), (.getfield 7, 3), (.iconst 2, 1), (.iaload, 1), (.if_icmp .ge 6, 3), (.goto 17, 3)]) rfl rfl (rfl : am_z 1057 = 0) _ _ _
set_option maxRecDepth 50000 in
theorem q1057_58 (C : am_Ct) (x1 : Int32) (x2 : Int32) (x3 : Value) (μ : am_Mem) : am_ev C 1057 58 [.ref 56, .int x1, .int x2, x3] [] μ = (am_bI (C 1005 [.ref 56, .int x1, .int ((am_c 2) + x2)] μ) (fun r1 m1 => am_ret (some (.int (am_c 2))) (am_up m1 56 23 r1))) := am_blk (b := [(.aload_n 0, 1), (.aload_n 0, 1), (.iload_n 1, 1), (.iconst 2, 1), (.iload_n 2, 1), (.iadd, 1), (.invokevirtual 88, 3), (.putfield 267, 3), (.iconst 2, 1), (.ireturn, 1)]) rfl rfl (rfl : am_z 1057 = 0) _ _ _
set_option maxRecDepth 50000 in
theorem q1057_72 (C : am_Ct) (x1 : Int32) (x2 : Int32) (x3 : Value) (μ : am_Mem) : am_ev C 1057 72 [.ref 56, .int x1, .int x2, x3] [] μ = (am_ev C 1057 23 [.ref 56, .int x1, .int (x2 + (am_c 1)), x3] [] μ) := am_blk (b := [(.iinc 2 1, 3), (.goto (-52), 3)]) rfl rfl (rfl : am_z 1057 = 0) _ _ _
set_option maxRecDepth 50000 in
theorem q1057_78 (C : am_Ct) (x1 : Int32) (x2 : Int32) (x3 : Value) (μ : am_Mem) : am_ev C 1057 78 [.ref 56, .int x1, .int x2, x3] [] μ = (am_bI (C 1045 [.ref 56, .int x1] μ) (fun r1 m1 => if r1 = 0 then am_ret (some (.int (am_c 3))) m1 else am_ev C 1057 88 [.ref 56, .int x1, .int x2, x3] [] m1)) := am_blk (b := [(.aload_n 0, 1), (.iload_n 1, 1), (.invokevirtual 264, 3), (.ifCond .ne 5, 3), (.iconst 3, 1), (.ireturn, 1)]) rfl rfl (rfl : am_z 1057 = 0) _ _ _
set_option maxRecDepth 50000 in
theorem q1057_88 (C : am_Ct) (x1 : Int32) (x2 : Int32) (x3 : Value) (μ : am_Mem) : am_ev C 1057 88 [.ref 56, .int x1, .int x2, x3] [] μ = (am_ev C 1057 90 [.ref 56, .int x1, .int (am_c 0), x3] [] μ) := am_blk (b := [(.iconst 0, 1), (.istore_n 2, 1)]) rfl rfl (rfl : am_z 1057 = 0) _ _ _
set_option maxRecDepth 50000 in
theorem q1057_90 (C : am_Ct) (x1 : Int32) (x2 : Int32) (x3 : Value) (μ : am_Mem) : am_ev C 1057 90 [.ref 56, .int x1, .int x2, x3] [] μ = (am_bI (C 1005 [.ref 56, .int x1, .int (am_c 1)] μ) (fun r1 m1 => if r1 ≤ x2 then am_ev C 1057 147 [.ref 56, .int x1, .int x2, x3] [] m1 else am_bI (C 1005 [.ref 56, .int x1, .int ((am_c 2) + x2)] m1) (fun r2 m2 => am_gb (Nat.blt (am_ix ((am_c 26) + r2)) 1320) (if (m2 57 (am_ix ((am_c 26) + r2))) = (am_c 1) then am_ev C 1057 141 [.ref 56, .int x1, .int x2, .int r2] [] m2 else am_bI (C 1056 [.ref 56, .int r2, .int x1] m2) (fun r3 m3 => if r3 = 0 then am_ev C 1057 134 [.ref 56, .int x1, .int x2, .int r2] [] m3 else am_ev C 1057 141 [.ref 56, .int x1, .int x2, .int r2] [] m3))))) := am_blk (b := [(.iload_n 2, 1), (.aload_n 0, 1), (.iload_n 1, 1), (.iconst 1, 1), (.invokevirtual 88, 3), (.if_icmp .ge 50, 3), (.aload_n 0, 1), (.iload_n 1, 1), (.iconst 2, 1), (.iload_n 2, 1), (.iadd, 1), (.invokevirtual 88, 3), (.istore_n 3, 1), (.aload_n 0, 1), (.getfield 7, 3), (.bipush 26, 2), (.iload_n 3, 1), (.iadd, 1), (.iaload, 1), (.iconst 1, 1), (.if_icmp .eq 22, 3), (.aload_n 0, 1), (.iload_n 3, 1), (.iload_n 1, 1), (.invokevirtual 270, 3), (.ifCond .eq 6, 3), (.goto 10, 3)]) rfl rfl (rfl : am_z 1057 = 0) _ _ _
set_option maxRecDepth 50000 in
theorem q1057_134 (C : am_Ct) (x1 : Int32) (x2 : Int32) (x3 : Int32) (μ : am_Mem) : am_ev C 1057 134 [.ref 56, .int x1, .int x2, .int x3] [] μ = (am_ret (some (.int (am_c 4))) (am_up μ 56 23 x3)) := am_blk (b := [(.aload_n 0, 1), (.iload_n 3, 1), (.putfield 267, 3), (.iconst 4, 1), (.ireturn, 1)]) rfl rfl (rfl : am_z 1057 = 0) _ _ _
set_option maxRecDepth 50000 in
theorem q1057_141 (C : am_Ct) (x1 : Int32) (x2 : Int32) (x3 : Int32) (μ : am_Mem) : am_ev C 1057 141 [.ref 56, .int x1, .int x2, .int x3] [] μ = (am_ev C 1057 90 [.ref 56, .int x1, .int (x2 + (am_c 1)), .int x3] [] μ) := am_blk (b := [(.iinc 2 1, 3), (.goto (-54), 3)]) rfl rfl (rfl : am_z 1057 = 0) _ _ _
set_option maxRecDepth 50000 in
theorem q1057_147 (C : am_Ct) (x1 : Int32) (x2 : Int32) (x3 : Value) (μ : am_Mem) : am_ev C 1057 147 [.ref 56, .int x1, .int x2, x3] [] μ = (am_ret (some (.int (am_c 0))) μ) := am_blk (b := [(.iconst 0, 1), (.ireturn, 1)]) rfl rfl (rfl : am_z 1057 = 0) _ _ _
theorem e1057 (d : Nat) (x1 : Int32) (μ : am_Mem) : am_call (d + 1) 1057 [.ref 56, .int x1] μ = am_ev (am_call d) 1057 0 [.ref 56, .int x1, .null, .null] [] μ := rfl
/-! NoWordTwiceModel.judge(I)I  -/
set_option maxRecDepth 50000 in
theorem q1058_0 (C : am_Ct) (x1 : Int32) (x2 : Value) (x3 : Value) (μ : am_Mem) : am_ev C 1058 0 [.ref 56, .int x1, x2, x3] [] μ = (am_bI (C 1001 [.int x1, .int (am_c 0), .int (am_c 2)] μ) (fun r1 m1 => if r1 = 0 then am_ret (some (.int (am_c (-1)))) m1 else am_ev C 1058 11 [.ref 56, .int x1, x2, x3] [] m1)) := am_blk (b := [(.iload_n 1, 1), (.iconst 0, 1), (.iconst 2, 1), (.invokestatic 64, 3), (.ifCond .ne 5, 3), (.iconst (-1), 1), (.ireturn, 1)]) rfl rfl (rfl : am_z 1058 = 0) _ _ _
set_option maxRecDepth 50000 in
theorem q1058_11 (C : am_Ct) (x1 : Int32) (x2 : Value) (x3 : Value) (μ : am_Mem) : am_ev C 1058 11 [.ref 56, .int x1, x2, x3] [] μ = (am_ev C 1058 13 [.ref 56, .int x1, .int (am_c 0), x3] [] μ) := am_blk (b := [(.iconst 0, 1), (.istore_n 2, 1)]) rfl rfl (rfl : am_z 1058 = 0) _ _ _
set_option maxRecDepth 50000 in
theorem q1058_13 (C : am_Ct) (x1 : Int32) (x2 : Int32) (x3 : Value) (μ : am_Mem) : am_ev C 1058 13 [.ref 56, .int x1, .int x2, x3] [] μ = (if (μ 57 1) ≤ x2 then am_ev C 1058 61 [.ref 56, .int x1, .int x2, x3] [] μ else am_bI (C 1057 [.ref 56, .int x2] μ) (fun r1 m1 => if r1 ≤ 0 then am_ev C 1058 55 [.ref 56, .int x1, .int x2, .int r1] [] m1 else if x1 = 0 then am_ev C 1058 54 [.ref 56, .int x1, .int x2, .int r1] [.int r1] m1 else am_ev C 1058 41 [.ref 56, .int x1, .int x2, .int r1] [] m1)) := am_blk (b := [(.iload_n 2, 1), (.aload_n 0, 1), (.getfield 7, 3), (.iconst 1, 1), (.iaload, 1), (.if_icmp .ge 41, 3), (.aload_n 0, 1), (.iload_n 2, 1), (.invokevirtual 273, 3), (.istore_n 3, 1), (.iload_n 3, 1), (.ifCond .le 25, 3), (.iload_n 1, 1), (.ifCond .ne 7, 3), (.iload_n 3, 1), (.goto 16, 3)]) rfl rfl (rfl : am_z 1058 = 0) _ _ _
set_option maxRecDepth 50000 in
theorem q1058_41 (C : am_Ct) (x1 : Int32) (x2 : Int32) (x3 : Int32) (μ : am_Mem) : am_ev C 1058 41 [.ref 56, .int x1, .int x2, .int x3] [] μ = (if x1 = (am_c 1) then am_ev C 1058 54 [.ref 56, .int x1, .int x2, .int x3] [.int x2] μ else am_ev C 1058 50 [.ref 56, .int x1, .int x2, .int x3] [] μ) := am_blk (b := [(.iload_n 1, 1), (.iconst 1, 1), (.if_icmp .ne 7, 3), (.iload_n 2, 1), (.goto 7, 3)]) rfl rfl (rfl : am_z 1058 = 0) _ _ _
set_option maxRecDepth 50000 in
theorem q1058_50 (C : am_Ct) (x1 : Int32) (x2 : Int32) (x3 : Int32) (μ : am_Mem) : am_ev C 1058 50 [.ref 56, .int x1, .int x2, .int x3] [] μ = (am_ev C 1058 54 [.ref 56, .int x1, .int x2, .int x3] [.int (μ 56 23)] μ) := am_blk (b := [(.aload_n 0, 1), (.getfield 267, 3)]) rfl rfl (rfl : am_z 1058 = 0) _ _ _
set_option maxRecDepth 50000 in
theorem q1058_54 (C : am_Ct) (x1 : Int32) (x2 : Int32) (x3 : Int32) (s0 : Int32) (μ : am_Mem) : am_ev C 1058 54 [.ref 56, .int x1, .int x2, .int x3] [.int s0] μ = (am_ret (some (.int s0)) μ) := am_blk (b := [(.ireturn, 1)]) rfl rfl (rfl : am_z 1058 = 0) _ _ _
set_option maxRecDepth 50000 in
theorem q1058_55 (C : am_Ct) (x1 : Int32) (x2 : Int32) (x3 : Int32) (μ : am_Mem) : am_ev C 1058 55 [.ref 56, .int x1, .int x2, .int x3] [] μ = (am_ev C 1058 13 [.ref 56, .int x1, .int (x2 + (am_c 1)), .int x3] [] μ) := am_blk (b := [(.iinc 2 1, 3), (.goto (-45), 3)]) rfl rfl (rfl : am_z 1058 = 0) _ _ _
set_option maxRecDepth 50000 in
theorem q1058_61 (C : am_Ct) (x1 : Int32) (x2 : Int32) (x3 : Value) (μ : am_Mem) : am_ev C 1058 61 [.ref 56, .int x1, .int x2, x3] [] μ = (if x1 = 0 then am_ev C 1058 70 [.ref 56, .int x1, .int x2, x3] [.int (am_c 0)] μ else am_ev C 1058 69 [.ref 56, .int x1, .int x2, x3] [] μ) := am_blk (b := [(.iload_n 1, 1), (.ifCond .ne 7, 3), (.iconst 0, 1), (.goto 4, 3)]) rfl rfl (rfl : am_z 1058 = 0) _ _ _
set_option maxRecDepth 50000 in
theorem q1058_69 (C : am_Ct) (x1 : Int32) (x2 : Int32) (x3 : Value) (μ : am_Mem) : am_ev C 1058 69 [.ref 56, .int x1, .int x2, x3] [] μ = (am_ev C 1058 70 [.ref 56, .int x1, .int x2, x3] [.int (am_c (-1))] μ) := am_blk (b := [(.iconst (-1), 1)]) rfl rfl (rfl : am_z 1058 = 0) _ _ _
set_option maxRecDepth 50000 in
theorem q1058_70 (C : am_Ct) (x1 : Int32) (x2 : Int32) (x3 : Value) (s0 : Int32) (μ : am_Mem) : am_ev C 1058 70 [.ref 56, .int x1, .int x2, x3] [.int s0] μ = (am_ret (some (.int s0)) μ) := am_blk (b := [(.ireturn, 1)]) rfl rfl (rfl : am_z 1058 = 0) _ _ _
theorem e1058 (d : Nat) (x1 : Int32) (μ : am_Mem) : am_call (d + 1) 1058 [.ref 56, .int x1] μ = am_ev (am_call d) 1058 0 [.ref 56, .int x1, .null, .null] [] μ := rfl
/-! NoWordTwiceModel.laysEntries()V  -/
set_option maxRecDepth 50000 in
theorem q1059_0 (C : am_Ct) (x1 : Value) (μ : am_Mem) : am_ev C 1059 0 [.ref 56, x1] [] μ = (am_ev C 1059 2 [.ref 56, .int (am_c 0)] [] μ) := am_blk (b := [(.iconst 0, 1), (.istore_n 1, 1)]) rfl rfl (rfl : am_z 1059 = 0) _ _ _
set_option maxRecDepth 50000 in
theorem q1059_2 (C : am_Ct) (x1 : Int32) (μ : am_Mem) : am_ev C 1059 2 [.ref 56, .int x1] [] μ = (if (μ 57 1) ≤ x1 then am_ev C 1059 40 [.ref 56, .int x1] [] μ else am_bI (C 1044 [.ref 56, .int x1] μ) (fun r1 m1 => am_gb (Nat.blt (am_ix x1) 12) (am_bI (C 1045 [.ref 56, .int x1] (am_up m1 66 (am_ix x1) r1)) (fun r2 m2 => am_gb (Nat.blt (am_ix x1) 12) (am_ev C 1059 2 [.ref 56, .int (x1 + (am_c 1))] [] (am_up m2 67 (am_ix x1) (am_nar 2 r2))))))) := am_blk (b := [(.iload_n 1, 1), (.aload_n 0, 1), (.getfield 7, 3), (.iconst 1, 1), (.iaload, 1), (.if_icmp .ge 31, 3), (.aload_n 0, 1), (.getfield 41, 3), (.iload_n 1, 1), (.aload_n 0, 1), (.iload_n 1, 1), (.invokevirtual 236, 3), (.iastore, 1), (.aload_n 0, 1), (.getfield 44, 3), (.iload_n 1, 1), (.aload_n 0, 1), (.iload_n 1, 1), (.invokevirtual 264, 3), (.bastore, 1), (.iinc 1 1, 3), (.goto (-35), 3)]) rfl rfl (rfl : am_z 1059 = 0) _ _ _
set_option maxRecDepth 50000 in
theorem q1059_40 (C : am_Ct) (x1 : Int32) (μ : am_Mem) : am_ev C 1059 40 [.ref 56, .int x1] [] μ = (am_ret none μ) := am_blk (b := [(.return_, 1)]) rfl rfl (rfl : am_z 1059 = 0) _ _ _
theorem e1059 (d : Nat) (μ : am_Mem) : am_call (d + 1) 1059 [.ref 56] μ = am_ev (am_call d) 1059 0 [.ref 56, .null] [] μ := rfl
/-! NoWordTwiceModel.learns(I)I  -/
set_option maxRecDepth 50000 in
theorem q1060_0 (C : am_Ct) (x1 : Int32) (x2 : Value) (x3 : Value) (x4 : Value) (μ : am_Mem) : am_ev C 1060 0 [.ref 56, .int x1, x2, x3, x4] [] μ = (am_ev C 1060 9 [.ref 56, .int x1, .int x1, .int (am_c (-1)), x4] [] (am_up μ 56 26 (am_c (-1)))) := am_blk (b := [(.iload_n 1, 1), (.istore_n 2, 1), (.iconst (-1), 1), (.istore_n 3, 1), (.aload_n 0, 1), (.iconst (-1), 1), (.putfield 276, 3)]) rfl rfl (rfl : am_z 1060 = 0) _ _ _
set_option maxRecDepth 50000 in
theorem q1060_9 (C : am_Ct) (x1 : Int32) (x2 : Int32) (x3 : Int32) (x4 : Value) (μ : am_Mem) : am_ev C 1060 9 [.ref 56, .int x1, .int x2, .int x3, x4] [] μ = (if x3 = x2 then am_ev C 1060 85 [.ref 56, .int x1, .int x2, .int x3, x4] [] μ else am_ev C 1060 19 [.ref 56, .int x1, .int x2, .int x2, .int (am_c 0)] [] μ) := am_blk (b := [(.iload_n 3, 1), (.iload_n 2, 1), (.if_icmp .eq 74, 3), (.iload_n 2, 1), (.istore_n 3, 1), (.iconst 0, 1), (.istore 4, 2)]) rfl rfl (rfl : am_z 1060 = 0) _ _ _
set_option maxRecDepth 50000 in
theorem q1060_19 (C : am_Ct) (x1 : Int32) (x2 : Int32) (x3 : Int32) (x4 : Int32) (μ : am_Mem) : am_ev C 1060 19 [.ref 56, .int x1, .int x2, .int x3, .int x4] [] μ = (if (μ 57 1) ≤ x4 then am_ev C 1060 72 [.ref 56, .int x1, .int x2, .int x3, .int x4] [] μ else am_gb (Nat.blt (am_ix x4) 12) (if (μ 67 (am_ix x4)) = 0 then am_ev C 1060 66 [.ref 56, .int x1, .int x2, .int x3, .int x4] [] μ else am_gb (Nat.blt (am_ix x4) 12) (if ((μ 66 (am_ix x4)) &&& (x3 ^^^ (am_c (-1)))) = 0 then am_bI (C 1005 [.ref 56, .int x4, .int (am_c 0)] μ) (fun r1 m1 => am_ev C 1060 66 [.ref 56, .int x1, .int (x2 ||| (((am_c 1) : Int32) <<< (r1 &&& 31))), .int x3, .int x4] [] m1) else am_ev C 1060 66 [.ref 56, .int x1, .int x2, .int x3, .int x4] [] μ))) := am_blk (b := [(.iload 4, 2), (.aload_n 0, 1), (.getfield 7, 3), (.iconst 1, 1), (.iaload, 1), (.if_icmp .ge 45, 3), (.aload_n 0, 1), (.getfield 44, 3), (.iload 4, 2), (.baload, 1), (.ifCond .eq 29, 3), (.aload_n 0, 1), (.getfield 41, 3), (.iload 4, 2), (.iaload, 1), (.iload_n 3, 1), (.iconst (-1), 1), (.ixor, 1), (.iand, 1), (.ifCond .ne 15, 3), (.iload_n 2, 1), (.iconst 1, 1), (.aload_n 0, 1), (.iload 4, 2), (.iconst 0, 1), (.invokevirtual 88, 3), (.ishl, 1), (.ior, 1), (.istore_n 2, 1)]) rfl rfl (rfl : am_z 1060 = 0) _ _ _
set_option maxRecDepth 50000 in
theorem q1060_66 (C : am_Ct) (x1 : Int32) (x2 : Int32) (x3 : Int32) (x4 : Int32) (μ : am_Mem) : am_ev C 1060 66 [.ref 56, .int x1, .int x2, .int x3, .int x4] [] μ = (am_ev C 1060 19 [.ref 56, .int x1, .int x2, .int x3, .int (x4 + (am_c 1))] [] μ) := am_blk (b := [(.iinc 4 1, 3), (.goto (-50), 3)]) rfl rfl (rfl : am_z 1060 = 0) _ _ _
set_option maxRecDepth 50000 in
theorem q1060_72 (C : am_Ct) (x1 : Int32) (x2 : Int32) (x3 : Int32) (x4 : Int32) (μ : am_Mem) : am_ev C 1060 72 [.ref 56, .int x1, .int x2, .int x3, .int x4] [] μ = (am_ev C 1060 9 [.ref 56, .int x1, .int x2, .int x3, .int x4] [] (am_up μ 56 26 ((μ 56 26) + (am_c 1)))) := am_blk (b := [(.aload_n 0, 1), (.dup, 1), (.getfield 276, 3), (.iconst 1, 1), (.iadd, 1), (.putfield 276, 3), (.goto (-73), 3)]) rfl rfl (rfl : am_z 1060 = 0) _ _ _
set_option maxRecDepth 50000 in
theorem q1060_85 (C : am_Ct) (x1 : Int32) (x2 : Int32) (x3 : Int32) (x4 : Value) (μ : am_Mem) : am_ev C 1060 85 [.ref 56, .int x1, .int x2, .int x3, x4] [] μ = (am_ret (some (.int x2)) μ) := am_blk (b := [(.iload_n 2, 1), (.ireturn, 1)]) rfl rfl (rfl : am_z 1060 = 0) _ _ _
theorem e1060 (d : Nat) (x1 : Int32) (μ : am_Mem) : am_call (d + 1) 1060 [.ref 56, .int x1] μ = am_ev (am_call d) 1060 0 [.ref 56, .int x1, .null, .null, .null] [] μ := rfl
/-! NoWordTwiceModel.learnt(II)I  -/
set_option maxRecDepth 50000 in
theorem q1061_0 (C : am_Ct) (x1 : Int32) (x2 : Int32) (x3 : Value) (μ : am_Mem) : am_ev C 1061 0 [.ref 56, .int x1, .int x2, x3] [] μ = (am_bI (C 1004 [.ref 56, .int x1] μ) (fun r1 m1 => if r1 = 0 then am_ev C 1061 17 [.ref 56, .int x1, .int x2, x3] [] m1 else am_bI (C 1001 [.int x2, .int (am_c 0), .int (am_c 1)] m1) (fun r2 m2 => if r2 = 0 then am_ev C 1061 17 [.ref 56, .int x1, .int x2, x3] [] m2 else am_ev C 1061 19 [.ref 56, .int x1, .int x2, x3] [] m2))) := am_blk (b := [(.aload_n 0, 1), (.iload_n 1, 1), (.invokevirtual 243, 3), (.ifCond .eq 12, 3), (.iload_n 2, 1), (.iconst 0, 1), (.iconst 1, 1), (.invokestatic 64, 3), (.ifCond .ne 5, 3)]) rfl rfl (rfl : am_z 1061 = 0) _ _ _
set_option maxRecDepth 50000 in
theorem q1061_17 (C : am_Ct) (x1 : Int32) (x2 : Int32) (x3 : Value) (μ : am_Mem) : am_ev C 1061 17 [.ref 56, .int x1, .int x2, x3] [] μ = (am_ret (some (.int (am_c (-1)))) μ) := am_blk (b := [(.iconst (-1), 1), (.ireturn, 1)]) rfl rfl (rfl : am_z 1061 = 0) _ _ _
set_option maxRecDepth 50000 in
theorem q1061_19 (C : am_Ct) (x1 : Int32) (x2 : Int32) (x3 : Value) (μ : am_Mem) : am_ev C 1061 19 [.ref 56, .int x1, .int x2, x3] [] μ = (am_bV (C 1059 [.ref 56] μ) (fun m1 => am_bI (C 1060 [.ref 56, .int x1] m1) (fun r2 m2 => if x2 = 0 then am_ev C 1061 41 [.ref 56, .int x1, .int x2, .int r2] [.int r2] m2 else am_ev C 1061 37 [.ref 56, .int x1, .int x2, .int r2] [] m2))) := am_blk (b := [(.aload_n 0, 1), (.invokevirtual 279, 3), (.aload_n 0, 1), (.iload_n 1, 1), (.invokevirtual 282, 3), (.istore_n 3, 1), (.iload_n 2, 1), (.ifCond .ne 7, 3), (.iload_n 3, 1), (.goto 7, 3)]) rfl rfl (rfl : am_z 1061 = 0) _ _ _
set_option maxRecDepth 50000 in
theorem q1061_37 (C : am_Ct) (x1 : Int32) (x2 : Int32) (x3 : Int32) (μ : am_Mem) : am_ev C 1061 37 [.ref 56, .int x1, .int x2, .int x3] [] μ = (am_ev C 1061 41 [.ref 56, .int x1, .int x2, .int x3] [.int (μ 56 26)] μ) := am_blk (b := [(.aload_n 0, 1), (.getfield 276, 3)]) rfl rfl (rfl : am_z 1061 = 0) _ _ _
set_option maxRecDepth 50000 in
theorem q1061_41 (C : am_Ct) (x1 : Int32) (x2 : Int32) (x3 : Int32) (s0 : Int32) (μ : am_Mem) : am_ev C 1061 41 [.ref 56, .int x1, .int x2, .int x3] [.int s0] μ = (am_ret (some (.int s0)) μ) := am_blk (b := [(.ireturn, 1)]) rfl rfl (rfl : am_z 1061 = 0) _ _ _
theorem e1061 (d : Nat) (x1 : Int32) (x2 : Int32) (μ : am_Mem) : am_call (d + 1) 1061 [.ref 56, .int x1, .int x2] μ = am_ev (am_call d) 1061 0 [.ref 56, .int x1, .int x2, .null] [] μ := rfl
/-! NoWordTwiceModel.heads()I  -/
set_option maxRecDepth 50000 in
theorem q1062_0 (C : am_Ct) (x1 : Value) (x2 : Value) (μ : am_Mem) : am_ev C 1062 0 [.ref 56, x1, x2] [] μ = (am_ev C 1062 4 [.ref 56, .int (am_c 0), .int (am_c 0)] [] μ) := am_blk (b := [(.iconst 0, 1), (.istore_n 1, 1), (.iconst 0, 1), (.istore_n 2, 1)]) rfl rfl (rfl : am_z 1062 = 0) _ _ _
set_option maxRecDepth 50000 in
theorem q1062_4 (C : am_Ct) (x1 : Int32) (x2 : Int32) (μ : am_Mem) : am_ev C 1062 4 [.ref 56, .int x1, .int x2] [] μ = (if (μ 57 1) ≤ x2 then am_ev C 1062 31 [.ref 56, .int x1, .int x2] [] μ else am_bI (C 1005 [.ref 56, .int x2, .int (am_c 0)] μ) (fun r1 m1 => am_ev C 1062 4 [.ref 56, .int (x1 ||| (((am_c 1) : Int32) <<< (r1 &&& 31))), .int (x2 + (am_c 1))] [] m1)) := am_blk (b := [(.iload_n 2, 1), (.aload_n 0, 1), (.getfield 7, 3), (.iconst 1, 1), (.iaload, 1), (.if_icmp .ge 20, 3), (.iload_n 1, 1), (.iconst 1, 1), (.aload_n 0, 1), (.iload_n 2, 1), (.iconst 0, 1), (.invokevirtual 88, 3), (.ishl, 1), (.ior, 1), (.istore_n 1, 1), (.iinc 2 1, 3), (.goto (-24), 3)]) rfl rfl (rfl : am_z 1062 = 0) _ _ _
set_option maxRecDepth 50000 in
theorem q1062_31 (C : am_Ct) (x1 : Int32) (x2 : Int32) (μ : am_Mem) : am_ev C 1062 31 [.ref 56, .int x1, .int x2] [] μ = (am_ret (some (.int x1)) μ) := am_blk (b := [(.iload_n 1, 1), (.ireturn, 1)]) rfl rfl (rfl : am_z 1062 = 0) _ _ _
theorem e1062 (d : Nat) (μ : am_Mem) : am_call (d + 1) 1062 [.ref 56] μ = am_ev (am_call d) 1062 0 [.ref 56, .null, .null] [] μ := rfl
/-! NoWordTwiceModel.least()I  -/
set_option maxRecDepth 50000 in
theorem q1063_0 (C : am_Ct) (x1 : Value) (x2 : Value) (x3 : Value) (μ : am_Mem) : am_ev C 1063 0 [.ref 56, x1, x2, x3] [] μ = (am_bV (C 1059 [.ref 56] μ) (fun m1 => am_bI (C 1062 [.ref 56] m1) (fun r2 m2 => am_ev C 1063 13 [.ref 56, .int r2, .int (am_c (-1)), .int (am_c 0)] [] m2))) := am_blk (b := [(.aload_n 0, 1), (.invokevirtual 279, 3), (.aload_n 0, 1), (.invokevirtual 285, 3), (.istore_n 1, 1), (.iconst (-1), 1), (.istore_n 2, 1), (.iconst 0, 1), (.istore_n 3, 1)]) rfl rfl (rfl : am_z 1063 = 0) _ _ _
set_option maxRecDepth 50000 in
theorem q1063_13 (C : am_Ct) (x1 : Int32) (x2 : Int32) (x3 : Int32) (μ : am_Mem) : am_ev C 1063 13 [.ref 56, .int x1, .int x2, .int x3] [] μ = (if (((am_c 1) : Int32) <<< ((μ 57 0) &&& 31)) ≤ x3 then am_ev C 1063 60 [.ref 56, .int x1, .int x2, .int x3] [] μ else if x2 = (am_c (-1)) then am_ev C 1063 41 [.ref 56, .int x1, .int x2, .int x3] [] μ else am_bI (C 1007 [.int x3] μ) (fun r1 m1 => am_bI (C 1007 [.int x2] m1) (fun r2 m2 => if r2 ≤ r1 then am_ev C 1063 54 [.ref 56, .int x1, .int x2, .int x3] [] m2 else am_ev C 1063 41 [.ref 56, .int x1, .int x2, .int x3] [] m2))) := am_blk (b := [(.iload_n 3, 1), (.iconst 1, 1), (.aload_n 0, 1), (.getfield 7, 3), (.iconst 0, 1), (.iaload, 1), (.ishl, 1), (.if_icmp .ge 38, 3), (.iload_n 2, 1), (.iconst (-1), 1), (.if_icmp .eq 14, 3), (.iload_n 3, 1), (.invokestatic 230, 3), (.iload_n 2, 1), (.invokestatic 230, 3), (.if_icmp .ge 16, 3)]) rfl rfl (rfl : am_z 1063 = 0) _ _ _
set_option maxRecDepth 50000 in
theorem q1063_41 (C : am_Ct) (x1 : Int32) (x2 : Int32) (x3 : Int32) (μ : am_Mem) : am_ev C 1063 41 [.ref 56, .int x1, .int x2, .int x3] [] μ = (am_bI (C 1060 [.ref 56, .int x3] μ) (fun r1 m1 => if (r1 &&& x1) = x1 then am_ev C 1063 54 [.ref 56, .int x1, .int x3, .int x3] [] m1 else am_ev C 1063 54 [.ref 56, .int x1, .int x2, .int x3] [] m1)) := am_blk (b := [(.aload_n 0, 1), (.iload_n 3, 1), (.invokevirtual 282, 3), (.iload_n 1, 1), (.iand, 1), (.iload_n 1, 1), (.if_icmp .ne 5, 3), (.iload_n 3, 1), (.istore_n 2, 1)]) rfl rfl (rfl : am_z 1063 = 0) _ _ _
set_option maxRecDepth 50000 in
theorem q1063_54 (C : am_Ct) (x1 : Int32) (x2 : Int32) (x3 : Int32) (μ : am_Mem) : am_ev C 1063 54 [.ref 56, .int x1, .int x2, .int x3] [] μ = (am_ev C 1063 13 [.ref 56, .int x1, .int x2, .int (x3 + (am_c 1))] [] μ) := am_blk (b := [(.iinc 3 1, 3), (.goto (-44), 3)]) rfl rfl (rfl : am_z 1063 = 0) _ _ _
set_option maxRecDepth 50000 in
theorem q1063_60 (C : am_Ct) (x1 : Int32) (x2 : Int32) (x3 : Int32) (μ : am_Mem) : am_ev C 1063 60 [.ref 56, .int x1, .int x2, .int x3] [] μ = (am_ret (some (.int x2)) μ) := am_blk (b := [(.iload_n 2, 1), (.ireturn, 1)]) rfl rfl (rfl : am_z 1063 = 0) _ _ _
theorem e1063 (d : Nat) (μ : am_Mem) : am_call (d + 1) 1063 [.ref 56] μ = am_ev (am_call d) 1063 0 [.ref 56, .null, .null, .null] [] μ := rfl
/-! NoWordTwiceModel.knownSet()I  -/
set_option maxRecDepth 50000 in
theorem q1064_0 (C : am_Ct) (x1 : Value) (x2 : Value) (μ : am_Mem) : am_ev C 1064 0 [.ref 56, x1, x2] [] μ = (am_ev C 1064 4 [.ref 56, .int (am_c 0), .int (am_c 0)] [] μ) := am_blk (b := [(.iconst 0, 1), (.istore_n 1, 1), (.iconst 0, 1), (.istore_n 2, 1)]) rfl rfl (rfl : am_z 1064 = 0) _ _ _
set_option maxRecDepth 50000 in
theorem q1064_4 (C : am_Ct) (x1 : Int32) (x2 : Int32) (μ : am_Mem) : am_ev C 1064 4 [.ref 56, .int x1, .int x2] [] μ = (if (μ 57 0) ≤ x2 then am_ev C 1064 34 [.ref 56, .int x1, .int x2] [] μ else am_gb (Nat.blt (am_ix ((am_c 26) + x2)) 1320) (am_ev C 1064 4 [.ref 56, .int (x1 ||| ((μ 57 (am_ix ((am_c 26) + x2))) <<< (x2 &&& 31))), .int (x2 + (am_c 1))] [] μ)) := am_blk (b := [(.iload_n 2, 1), (.aload_n 0, 1), (.getfield 7, 3), (.iconst 0, 1), (.iaload, 1), (.if_icmp .ge 23, 3), (.iload_n 1, 1), (.aload_n 0, 1), (.getfield 7, 3), (.bipush 26, 2), (.iload_n 2, 1), (.iadd, 1), (.iaload, 1), (.iload_n 2, 1), (.ishl, 1), (.ior, 1), (.istore_n 1, 1), (.iinc 2 1, 3), (.goto (-27), 3)]) rfl rfl (rfl : am_z 1064 = 0) _ _ _
set_option maxRecDepth 50000 in
theorem q1064_34 (C : am_Ct) (x1 : Int32) (x2 : Int32) (μ : am_Mem) : am_ev C 1064 34 [.ref 56, .int x1, .int x2] [] μ = (am_ret (some (.int x1)) μ) := am_blk (b := [(.iload_n 1, 1), (.ireturn, 1)]) rfl rfl (rfl : am_z 1064 = 0) _ _ _
theorem e1064 (d : Nat) (μ : am_Mem) : am_call (d + 1) 1064 [.ref 56] μ = am_ev (am_call d) 1064 0 [.ref 56, .null, .null] [] μ := rfl
/-! NoWordTwiceModel.laysOrder(I)I  -/
set_option maxRecDepth 50000 in
theorem q1065_0 (C : am_Ct) (x1 : Int32) (x2 : Value) (x3 : Value) (x4 : Value) (μ : am_Mem) : am_ev C 1065 0 [.ref 56, .int x1, x2, x3, x4] [] μ = (am_ev C 1065 21 [.ref 56, .int x1, .int x1, .int ((((am_c 1) : Int32) <<< ((μ 57 1) &&& 31)) - (am_c 1)), .int (am_c 0)] [] (am_up μ 56 28 (am_c 0))) := am_blk (b := [(.iload_n 1, 1), (.istore_n 2, 1), (.iconst 1, 1), (.aload_n 0, 1), (.getfield 7, 3), (.iconst 1, 1), (.iaload, 1), (.ishl, 1), (.iconst 1, 1), (.isub, 1), (.istore_n 3, 1), (.aload_n 0, 1), (.iconst 0, 1), (.putfield 288, 3), (.iconst 0, 1), (.istore 4, 2)]) rfl rfl (rfl : am_z 1065 = 0) _ _ _
set_option maxRecDepth 50000 in
theorem q1065_21 (C : am_Ct) (x1 : Int32) (x2 : Int32) (x3 : Int32) (x4 : Int32) (μ : am_Mem) : am_ev C 1065 21 [.ref 56, .int x1, .int x2, .int x3, .int x4] [] μ = (if (μ 57 1) ≤ x4 then am_ev C 1065 109 [.ref 56, .int x1, .int x2, .int x3, .int x4] [] μ else if ((x3 >>> (x4 &&& 31)) &&& (am_c 1)) = 0 then am_ev C 1065 55 [.ref 56, .int x1, .int x2, .int x3, .int x4] [] μ else am_gb (Nat.blt (am_ix x4) 12) (if ((μ 66 (am_ix x4)) &&& (x2 ^^^ (am_c (-1)))) = 0 then am_ev C 1065 61 [.ref 56, .int x1, .int x2, .int x3, .int x4] [] μ else am_ev C 1065 55 [.ref 56, .int x1, .int x2, .int x3, .int x4] [] μ)) := am_blk (b := [(.iload 4, 2), (.aload_n 0, 1), (.getfield 7, 3), (.iconst 1, 1), (.iaload, 1), (.if_icmp .ge 80, 3), (.iload_n 3, 1), (.iload 4, 2), (.ishr, 1), (.iconst 1, 1), (.iand, 1), (.ifCond .eq 17, 3), (.aload_n 0, 1), (.getfield 41, 3), (.iload 4, 2), (.iaload, 1), (.iload_n 2, 1), (.iconst (-1), 1), (.ixor, 1), (.iand, 1), (.ifCond .eq 9, 3)]) rfl rfl (rfl : am_z 1065 = 0) _ _ _
set_option maxRecDepth 50000 in
theorem q1065_55 (C : am_Ct) (x1 : Int32) (x2 : Int32) (x3 : Int32) (x4 : Int32) (μ : am_Mem) : am_ev C 1065 55 [.ref 56, .int x1, .int x2, .int x3, .int x4] [] μ = (am_ev C 1065 21 [.ref 56, .int x1, .int x2, .int x3, .int (x4 + (am_c 1))] [] μ) := am_blk (b := [(.iinc 4 1, 3), (.goto (-37), 3)]) rfl rfl (rfl : am_z 1065 = 0) _ _ _
set_option maxRecDepth 50000 in
theorem q1065_61 (C : am_Ct) (x1 : Int32) (x2 : Int32) (x3 : Int32) (x4 : Int32) (μ : am_Mem) : am_ev C 1065 61 [.ref 56, .int x1, .int x2, .int x3, .int x4] [] μ = (am_gb (Nat.blt (am_ix (μ 56 28)) 12) (am_bI (C 1005 [.ref 56, .int x4, .int (am_c 0)] (am_up (am_up μ 68 (am_ix (μ 56 28)) x4) 56 28 (((am_up μ 68 (am_ix (μ 56 28)) x4) 56 28) + (am_c 1)))) (fun r1 m1 => am_ev C 1065 21 [.ref 56, .int x1, .int (x2 ||| (((am_c 1) : Int32) <<< (r1 &&& 31))), .int (x3 &&& ((((am_c 1) : Int32) <<< (x4 &&& 31)) ^^^ (am_c (-1)))), .int (am_c 0)] [] m1))) := am_blk (b := [(.aload_n 0, 1), (.getfield 48, 3), (.aload_n 0, 1), (.getfield 288, 3), (.iload 4, 2), (.iastore, 1), (.aload_n 0, 1), (.dup, 1), (.getfield 288, 3), (.iconst 1, 1), (.iadd, 1), (.putfield 288, 3), (.iload_n 3, 1), (.iconst 1, 1), (.iload 4, 2), (.ishl, 1), (.iconst (-1), 1), (.ixor, 1), (.iand, 1), (.istore_n 3, 1), (.iload_n 2, 1), (.iconst 1, 1), (.aload_n 0, 1), (.iload 4, 2), (.iconst 0, 1), (.invokevirtual 88, 3), (.ishl, 1), (.ior, 1), (.istore_n 2, 1), (.iconst 0, 1), (.istore 4, 2), (.goto (-85), 3)]) rfl rfl (rfl : am_z 1065 = 0) _ _ _
set_option maxRecDepth 50000 in
theorem q1065_109 (C : am_Ct) (x1 : Int32) (x2 : Int32) (x3 : Int32) (x4 : Int32) (μ : am_Mem) : am_ev C 1065 109 [.ref 56, .int x1, .int x2, .int x3, .int x4] [] μ = (am_ret (some (.int x3)) μ) := am_blk (b := [(.iload_n 3, 1), (.ireturn, 1)]) rfl rfl (rfl : am_z 1065 = 0) _ _ _
theorem e1065 (d : Nat) (x1 : Int32) (μ : am_Mem) : am_call (d + 1) 1065 [.ref 56, .int x1] μ = am_ev (am_call d) 1065 0 [.ref 56, .int x1, .null, .null, .null] [] μ := rfl
/-! NoWordTwiceModel.order(I)I  -/
set_option maxRecDepth 50000 in
theorem q1066_0 (C : am_Ct) (x1 : Int32) (μ : am_Mem) : am_ev C 1066 0 [.ref 56, .int x1] [] μ = (am_bV (C 1059 [.ref 56] μ) (fun m1 => am_bI (C 1064 [.ref 56] m1) (fun r2 m2 => am_bI (C 1065 [.ref 56, .int r2] m2) (fun r3 m3 => am_bI (C 1001 [.int x1, .int (am_c 0), .int ((m3 56 28) - (am_c 1))] m3) (fun r4 m4 => if r4 = 0 then am_ev C 1066 36 [.ref 56, .int x1] [] m4 else am_gb (Nat.blt (am_ix x1) 12) (am_ev C 1066 37 [.ref 56, .int x1] [.int (m4 68 (am_ix x1))] m4)))))) := am_blk (b := [(.aload_n 0, 1), (.invokevirtual 279, 3), (.aload_n 0, 1), (.aload_n 0, 1), (.invokevirtual 291, 3), (.invokevirtual 294, 3), (.pop, 1), (.iload_n 1, 1), (.iconst 0, 1), (.aload_n 0, 1), (.getfield 288, 3), (.iconst 1, 1), (.isub, 1), (.invokestatic 64, 3), (.ifCond .eq 12, 3), (.aload_n 0, 1), (.getfield 48, 3), (.iload_n 1, 1), (.iaload, 1), (.goto 4, 3)]) rfl rfl (rfl : am_z 1066 = 0) _ _ _
set_option maxRecDepth 50000 in
theorem q1066_36 (C : am_Ct) (x1 : Int32) (μ : am_Mem) : am_ev C 1066 36 [.ref 56, .int x1] [] μ = (am_ev C 1066 37 [.ref 56, .int x1] [.int (am_c (-1))] μ) := am_blk (b := [(.iconst (-1), 1)]) rfl rfl (rfl : am_z 1066 = 0) _ _ _
set_option maxRecDepth 50000 in
theorem q1066_37 (C : am_Ct) (x1 : Int32) (s0 : Int32) (μ : am_Mem) : am_ev C 1066 37 [.ref 56, .int x1] [.int s0] μ = (am_ret (some (.int s0)) μ) := am_blk (b := [(.ireturn, 1)]) rfl rfl (rfl : am_z 1066 = 0) _ _ _
theorem e1066 (d : Nat) (x1 : Int32) (μ : am_Mem) : am_call (d + 1) 1066 [.ref 56, .int x1] μ = am_ev (am_call d) 1066 0 [.ref 56, .int x1] [] μ := rfl
/-! NoWordTwiceModel.ring()I  -/
set_option maxRecDepth 50000 in
theorem q1067_0 (C : am_Ct) (μ : am_Mem) : am_ev C 1067 0 [.ref 56] [] μ = (am_bV (C 1059 [.ref 56] μ) (fun m1 => am_bI (C 1064 [.ref 56] m1) (fun r2 m2 => am_bI (C 1065 [.ref 56, .int r2] m2) (fun r3 m3 => am_ret (some (.int r3)) m3)))) := am_blk (b := [(.aload_n 0, 1), (.invokevirtual 279, 3), (.aload_n 0, 1), (.aload_n 0, 1), (.invokevirtual 291, 3), (.invokevirtual 294, 3), (.ireturn, 1)]) rfl rfl (rfl : am_z 1067 = 0) _ _ _
theorem e1067 (d : Nat) (μ : am_Mem) : am_call (d + 1) 1067 [.ref 56] μ = am_ev (am_call d) 1067 0 [.ref 56] [] μ := rfl
/-! NoWordTwiceModel.cut()I  -/
set_option maxRecDepth 50000 in
theorem q1068_0 (C : am_Ct) (x1 : Value) (x2 : Value) (x3 : Value) (μ : am_Mem) : am_ev C 1068 0 [.ref 56, x1, x2, x3] [] μ = (am_bV (C 1059 [.ref 56] μ) (fun m1 => am_bI (C 1064 [.ref 56] m1) (fun r2 m2 => am_ev C 1068 13 [.ref 56, .int r2, .int (am_c (-1)), .int (am_c 0)] [] m2))) := am_blk (b := [(.aload_n 0, 1), (.invokevirtual 279, 3), (.aload_n 0, 1), (.invokevirtual 291, 3), (.istore_n 1, 1), (.iconst (-1), 1), (.istore_n 2, 1), (.iconst 0, 1), (.istore_n 3, 1)]) rfl rfl (rfl : am_z 1068 = 0) _ _ _
set_option maxRecDepth 50000 in
theorem q1068_13 (C : am_Ct) (x1 : Int32) (x2 : Int32) (x3 : Int32) (μ : am_Mem) : am_ev C 1068 13 [.ref 56, .int x1, .int x2, .int x3] [] μ = (if (((am_c 1) : Int32) <<< ((μ 57 0) &&& 31)) ≤ x3 then am_ev C 1068 59 [.ref 56, .int x1, .int x2, .int x3] [] μ else if x2 = (am_c (-1)) then am_ev C 1068 41 [.ref 56, .int x1, .int x2, .int x3] [] μ else am_bI (C 1007 [.int x3] μ) (fun r1 m1 => am_bI (C 1007 [.int x2] m1) (fun r2 m2 => if r2 ≤ r1 then am_ev C 1068 53 [.ref 56, .int x1, .int x2, .int x3] [] m2 else am_ev C 1068 41 [.ref 56, .int x1, .int x2, .int x3] [] m2))) := am_blk (b := [(.iload_n 3, 1), (.iconst 1, 1), (.aload_n 0, 1), (.getfield 7, 3), (.iconst 0, 1), (.iaload, 1), (.ishl, 1), (.if_icmp .ge 37, 3), (.iload_n 2, 1), (.iconst (-1), 1), (.if_icmp .eq 14, 3), (.iload_n 3, 1), (.invokestatic 230, 3), (.iload_n 2, 1), (.invokestatic 230, 3), (.if_icmp .ge 15, 3)]) rfl rfl (rfl : am_z 1068 = 0) _ _ _
set_option maxRecDepth 50000 in
theorem q1068_41 (C : am_Ct) (x1 : Int32) (x2 : Int32) (x3 : Int32) (μ : am_Mem) : am_ev C 1068 41 [.ref 56, .int x1, .int x2, .int x3] [] μ = (am_bI (C 1065 [.ref 56, .int (x1 ||| x3)] μ) (fun r1 m1 => if r1 = 0 then am_ev C 1068 53 [.ref 56, .int x1, .int x3, .int x3] [] m1 else am_ev C 1068 53 [.ref 56, .int x1, .int x2, .int x3] [] m1)) := am_blk (b := [(.aload_n 0, 1), (.iload_n 1, 1), (.iload_n 3, 1), (.ior, 1), (.invokevirtual 294, 3), (.ifCond .ne 5, 3), (.iload_n 3, 1), (.istore_n 2, 1)]) rfl rfl (rfl : am_z 1068 = 0) _ _ _
set_option maxRecDepth 50000 in
theorem q1068_53 (C : am_Ct) (x1 : Int32) (x2 : Int32) (x3 : Int32) (μ : am_Mem) : am_ev C 1068 53 [.ref 56, .int x1, .int x2, .int x3] [] μ = (am_ev C 1068 13 [.ref 56, .int x1, .int x2, .int (x3 + (am_c 1))] [] μ) := am_blk (b := [(.iinc 3 1, 3), (.goto (-43), 3)]) rfl rfl (rfl : am_z 1068 = 0) _ _ _
set_option maxRecDepth 50000 in
theorem q1068_59 (C : am_Ct) (x1 : Int32) (x2 : Int32) (x3 : Int32) (μ : am_Mem) : am_ev C 1068 59 [.ref 56, .int x1, .int x2, .int x3] [] μ = (am_ret (some (.int x2)) μ) := am_blk (b := [(.iload_n 2, 1), (.ireturn, 1)]) rfl rfl (rfl : am_z 1068 = 0) _ _ _
theorem e1068 (d : Nat) (μ : am_Mem) : am_call (d + 1) 1068 [.ref 56] μ = am_ev (am_call d) 1068 0 [.ref 56, .null, .null, .null] [] μ := rfl
/-! NoWordTwiceModel.takes(III)I  -/
set_option maxRecDepth 50000 in
theorem q1069_0 (C : am_Ct) (x0 : Int32) (x1 : Int32) (x2 : Int32) (x3 : Value) (x4 : Value) (μ : am_Mem) : am_ev C 1069 0 [.int x0, .int x1, .int x2, x3, x4] [] μ = (am_ev C 1069 5 [.int x0, .int x1, .int x2, .int x0, .int (am_c 0)] [] μ) := am_blk (b := [(.iload_n 0, 1), (.istore_n 3, 1), (.iconst 0, 1), (.istore 4, 2)]) rfl rfl (rfl : am_z 1069 = 0) _ _ _
set_option maxRecDepth 50000 in
theorem q1069_5 (C : am_Ct) (x0 : Int32) (x1 : Int32) (x2 : Int32) (x3 : Int32) (x4 : Int32) (μ : am_Mem) : am_ev C 1069 5 [.int x0, .int x1, .int x2, .int x3, .int x4] [] μ = (if (am_c 7) ≤ x4 then am_ev C 1069 53 [.int x0, .int x1, .int x2, .int x3, .int x4] [] μ else if ((x1 >>> (x4 &&& 31)) &&& (am_c 1)) = 0 then am_ev C 1069 47 [.int x0, .int x1, .int x2, .int x3, .int x4] [] μ else am_ev C 1069 24 [.int x0, .int x1, .int x2, .int x3, .int x4] [] μ) := am_blk (b := [(.iload 4, 2), (.bipush 7, 2), (.if_icmp .ge 44, 3), (.iload_n 1, 1), (.iload 4, 2), (.ishr, 1), (.iconst 1, 1), (.iand, 1), (.ifCond .ne 6, 3), (.goto 26, 3)]) rfl rfl (rfl : am_z 1069 = 0) _ _ _
set_option maxRecDepth 50000 in
theorem q1069_24 (C : am_Ct) (x0 : Int32) (x1 : Int32) (x2 : Int32) (x3 : Int32) (x4 : Int32) (μ : am_Mem) : am_ev C 1069 24 [.int x0, .int x1, .int x2, .int x3, .int x4] [] μ = (if ((x3 >>> (((am_c 2) * x4) &&& 31)) &&& (am_c 3)) < x2 then am_ev C 1069 38 [.int x0, .int x1, .int x2, .int x3, .int x4] [] μ else am_ret (some (.int (am_c (-1)))) μ) := am_blk (b := [(.iload_n 3, 1), (.iconst 2, 1), (.iload 4, 2), (.imul, 1), (.ishr, 1), (.iconst 3, 1), (.iand, 1), (.iload_n 2, 1), (.if_icmp .lt 5, 3), (.iconst (-1), 1), (.ireturn, 1)]) rfl rfl (rfl : am_z 1069 = 0) _ _ _
set_option maxRecDepth 50000 in
theorem q1069_38 (C : am_Ct) (x0 : Int32) (x1 : Int32) (x2 : Int32) (x3 : Int32) (x4 : Int32) (μ : am_Mem) : am_ev C 1069 38 [.int x0, .int x1, .int x2, .int x3, .int x4] [] μ = (am_ev C 1069 47 [.int x0, .int x1, .int x2, .int (x3 + (((am_c 1) : Int32) <<< (((am_c 2) * x4) &&& 31))), .int x4] [] μ) := am_blk (b := [(.iload_n 3, 1), (.iconst 1, 1), (.iconst 2, 1), (.iload 4, 2), (.imul, 1), (.ishl, 1), (.iadd, 1), (.istore_n 3, 1)]) rfl rfl (rfl : am_z 1069 = 0) _ _ _
set_option maxRecDepth 50000 in
theorem q1069_47 (C : am_Ct) (x0 : Int32) (x1 : Int32) (x2 : Int32) (x3 : Int32) (x4 : Int32) (μ : am_Mem) : am_ev C 1069 47 [.int x0, .int x1, .int x2, .int x3, .int x4] [] μ = (am_ev C 1069 5 [.int x0, .int x1, .int x2, .int x3, .int (x4 + (am_c 1))] [] μ) := am_blk (b := [(.iinc 4 1, 3), (.goto (-45), 3)]) rfl rfl (rfl : am_z 1069 = 0) _ _ _
set_option maxRecDepth 50000 in
theorem q1069_53 (C : am_Ct) (x0 : Int32) (x1 : Int32) (x2 : Int32) (x3 : Int32) (x4 : Int32) (μ : am_Mem) : am_ev C 1069 53 [.int x0, .int x1, .int x2, .int x3, .int x4] [] μ = (am_ret (some (.int x3)) μ) := am_blk (b := [(.iload_n 3, 1), (.ireturn, 1)]) rfl rfl (rfl : am_z 1069 = 0) _ _ _
theorem e1069 (d : Nat) (x0 : Int32) (x1 : Int32) (x2 : Int32) (μ : am_Mem) : am_call (d + 1) 1069 [.int x0, .int x1, .int x2] μ = am_ev (am_call d) 1069 0 [.int x0, .int x1, .int x2, .null, .null] [] μ := rfl
/-! NoWordTwiceModel.bestBy(IIII)I  -/
set_option maxRecDepth 50000 in
theorem q1070_0 (C : am_Ct) (x1 : Int32) (x2 : Int32) (x3 : Int32) (x4 : Int32) (x5 : Value) (μ : am_Mem) : am_ev C 1070 0 [.ref 56, .int x1, .int x2, .int x3, .int x4, x5] [] μ = (if x3 = 0 then am_gb (Nat.blt (am_ix (((am_c 16384) * (x1 + (am_c 1))) + x2)) 131072) (am_ret (some (.int (μ 69 (am_ix (((am_c 16384) * (x1 + (am_c 1))) + x2))))) μ) else am_ev C 1070 19 [.ref 56, .int x1, .int x2, .int x3, .int x4, x5] [] μ) := am_blk (b := [(.iload_n 3, 1), (.ifCond .ne 18, 3), (.aload_n 0, 1), (.getfield 52, 3), (.sipush 16384, 3), (.iload_n 1, 1), (.iconst 1, 1), (.iadd, 1), (.imul, 1), (.iload_n 2, 1), (.iadd, 1), (.iaload, 1), (.ireturn, 1)]) rfl rfl (rfl : am_z 1070 = 0) _ _ _
set_option maxRecDepth 50000 in
theorem q1070_19 (C : am_Ct) (x1 : Int32) (x2 : Int32) (x3 : Int32) (x4 : Int32) (x5 : Value) (μ : am_Mem) : am_ev C 1070 19 [.ref 56, .int x1, .int x2, .int x3, .int x4, x5] [] μ = (am_gb (Nat.blt (am_ix (((am_c 128) * x1) + x3)) 896) (if (μ 71 (am_ix (((am_c 128) * x1) + x3))) = 0 then am_ev C 1070 44 [.ref 56, .int x1, .int x2, .int x3, .int x4, x5] [] μ else am_bI (C 1069 [.int x2, .int x3, .int x4] μ) (fun r1 m1 => am_ev C 1070 45 [.ref 56, .int x1, .int x2, .int x3, .int x4, x5] [.int r1] m1))) := am_blk (b := [(.aload_n 0, 1), (.getfield 58, 3), (.sipush 128, 3), (.iload_n 1, 1), (.imul, 1), (.iload_n 3, 1), (.iadd, 1), (.baload, 1), (.ifCond .eq 13, 3), (.iload_n 2, 1), (.iload_n 3, 1), (.iload 4, 2), (.invokestatic 297, 3), (.goto 4, 3)]) rfl rfl (rfl : am_z 1070 = 0) _ _ _
set_option maxRecDepth 50000 in
theorem q1070_44 (C : am_Ct) (x1 : Int32) (x2 : Int32) (x3 : Int32) (x4 : Int32) (x5 : Value) (μ : am_Mem) : am_ev C 1070 44 [.ref 56, .int x1, .int x2, .int x3, .int x4, x5] [] μ = (am_ev C 1070 45 [.ref 56, .int x1, .int x2, .int x3, .int x4, x5] [.int (am_c (-1))] μ) := am_blk (b := [(.iconst (-1), 1)]) rfl rfl (rfl : am_z 1070 = 0) _ _ _
set_option maxRecDepth 50000 in
theorem q1070_45 (C : am_Ct) (x1 : Int32) (x2 : Int32) (x3 : Int32) (x4 : Int32) (x5 : Value) (s0 : Int32) (μ : am_Mem) : am_ev C 1070 45 [.ref 56, .int x1, .int x2, .int x3, .int x4, x5] [.int s0] μ = (if s0 = (am_c (-1)) then am_ev C 1070 74 [.ref 56, .int x1, .int x2, .int x3, .int x4, .int s0] [.int (am_c (-1))] μ else am_ev C 1070 57 [.ref 56, .int x1, .int x2, .int x3, .int x4, .int s0] [] μ) := am_blk (b := [(.istore 5, 2), (.iload 5, 2), (.iconst (-1), 1), (.if_icmp .ne 7, 3), (.iconst (-1), 1), (.goto 20, 3)]) rfl rfl (rfl : am_z 1070 = 0) _ _ _
set_option maxRecDepth 50000 in
theorem q1070_57 (C : am_Ct) (x1 : Int32) (x2 : Int32) (x3 : Int32) (x4 : Int32) (x5 : Int32) (μ : am_Mem) : am_ev C 1070 57 [.ref 56, .int x1, .int x2, .int x3, .int x4, .int x5] [] μ = (am_gb (Nat.blt (am_ix (((am_c 16384) * (x1 + (am_c 1))) + x5)) 131072) (am_ev C 1070 74 [.ref 56, .int x1, .int x2, .int x3, .int x4, .int x5] [.int ((am_c 1) + (μ 69 (am_ix (((am_c 16384) * (x1 + (am_c 1))) + x5))))] μ)) := am_blk (b := [(.iconst 1, 1), (.aload_n 0, 1), (.getfield 52, 3), (.sipush 16384, 3), (.iload_n 1, 1), (.iconst 1, 1), (.iadd, 1), (.imul, 1), (.iload 5, 2), (.iadd, 1), (.iaload, 1), (.iadd, 1)]) rfl rfl (rfl : am_z 1070 = 0) _ _ _
set_option maxRecDepth 50000 in
theorem q1070_74 (C : am_Ct) (x1 : Int32) (x2 : Int32) (x3 : Int32) (x4 : Int32) (x5 : Int32) (s0 : Int32) (μ : am_Mem) : am_ev C 1070 74 [.ref 56, .int x1, .int x2, .int x3, .int x4, .int x5] [.int s0] μ = (am_ret (some (.int s0)) μ) := am_blk (b := [(.ireturn, 1)]) rfl rfl (rfl : am_z 1070 = 0) _ _ _
theorem e1070 (d : Nat) (x1 : Int32) (x2 : Int32) (x3 : Int32) (x4 : Int32) (μ : am_Mem) : am_call (d + 1) 1070 [.ref 56, .int x1, .int x2, .int x3, .int x4] μ = am_ev (am_call d) 1070 0 [.ref 56, .int x1, .int x2, .int x3, .int x4, .null] [] μ := rfl
/-! NoWordTwiceModel.laysMost(I)V  -/
set_option maxRecDepth 50000 in
theorem q1071_0 (C : am_Ct) (x1 : Int32) (x2 : Value) (x3 : Value) (x4 : Value) (x5 : Value) (x6 : Value) (x7 : Value) (μ : am_Mem) : am_ev C 1071 0 [.ref 56, .int x1, x2, x3, x4, x5, x6, x7] [] μ = (am_ev C 1071 9 [.ref 56, .int x1, .int (μ 57 0), .int (am_c 0), x4, x5, x6, x7] [] μ) := am_blk (b := [(.aload_n 0, 1), (.getfield 7, 3), (.iconst 0, 1), (.iaload, 1), (.istore_n 2, 1), (.iconst 0, 1), (.istore_n 3, 1)]) rfl rfl (rfl : am_z 1071 = 0) _ _ _
set_option maxRecDepth 50000 in
theorem q1071_9 (C : am_Ct) (x1 : Int32) (x2 : Int32) (x3 : Int32) (x4 : Value) (x5 : Value) (x6 : Value) (x7 : Value) (μ : am_Mem) : am_ev C 1071 9 [.ref 56, .int x1, .int x2, .int x3, x4, x5, x6, x7] [] μ = (if x2 ≤ x3 then am_ev C 1071 83 [.ref 56, .int x1, .int x2, .int x3, x4, x5, x6, x7] [] μ else am_ev C 1071 17 [.ref 56, .int x1, .int x2, .int x3, .int (am_c 1), x5, x6, x7] [] μ) := am_blk (b := [(.iload_n 3, 1), (.iload_n 2, 1), (.if_icmp .ge 72, 3), (.iconst 1, 1), (.istore 4, 2)]) rfl rfl (rfl : am_z 1071 = 0) _ _ _
set_option maxRecDepth 50000 in
theorem q1071_17 (C : am_Ct) (x1 : Int32) (x2 : Int32) (x3 : Int32) (x4 : Int32) (x5 : Value) (x6 : Value) (x7 : Value) (μ : am_Mem) : am_ev C 1071 17 [.ref 56, .int x1, .int x2, .int x3, .int x4, x5, x6, x7] [] μ = (if (((am_c 1) : Int32) <<< (x2 &&& 31)) ≤ x4 then am_ev C 1071 77 [.ref 56, .int x1, .int x2, .int x3, .int x4, x5, x6, x7] [] μ else am_bI (C 1007 [.int x4] μ) (fun r1 m1 => if (am_c 3) ≤ r1 then am_ev C 1071 69 [.ref 56, .int x1, .int x2, .int x3, .int x4, x5, x6, x7] [.int (((am_c 128) * x3) + x4), .ref 71] m1 else if ((x4 >>> (x3 &&& 31)) &&& (am_c 1)) = 0 then am_bI (C 1043 [.ref 56, .int x3, .int x4] m1) (fun r2 m2 => if r2 = 0 then am_ev C 1071 69 [.ref 56, .int x1, .int x2, .int x3, .int x4, x5, x6, x7] [.int (((am_c 128) * x3) + x4), .ref 71] m2 else am_ev C 1071 70 [.ref 56, .int x1, .int x2, .int x3, .int x4, x5, x6, x7] [.int (am_c 1), .int (((am_c 128) * x3) + x4), .ref 71] m2) else am_ev C 1071 69 [.ref 56, .int x1, .int x2, .int x3, .int x4, x5, x6, x7] [.int (((am_c 128) * x3) + x4), .ref 71] m1)) := am_blk (b := [(.iload 4, 2), (.iconst 1, 1), (.iload_n 2, 1), (.ishl, 1), (.if_icmp .ge 55, 3), (.aload_n 0, 1), (.getfield 58, 3), (.sipush 128, 3), (.iload_n 3, 1), (.imul, 1), (.iload 4, 2), (.iadd, 1), (.iload 4, 2), (.invokestatic 230, 3), (.iconst 3, 1), (.if_icmp .ge 26, 3), (.iload 4, 2), (.iload_n 3, 1), (.ishr, 1), (.iconst 1, 1), (.iand, 1), (.ifCond .ne 17, 3), (.aload_n 0, 1), (.iload_n 3, 1), (.iload 4, 2), (.invokevirtual 239, 3), (.ifCond .eq 7, 3), (.iconst 1, 1), (.goto 4, 3)]) rfl rfl (rfl : am_z 1071 = 0) _ _ _
set_option maxRecDepth 50000 in
theorem q1071_69 (C : am_Ct) (x1 : Int32) (x2 : Int32) (x3 : Int32) (x4 : Int32) (x5 : Value) (x6 : Value) (x7 : Value) (s0 : Int32) (μ : am_Mem) : am_ev C 1071 69 [.ref 56, .int x1, .int x2, .int x3, .int x4, x5, x6, x7] [.int s0, .ref 71] μ = (am_ev C 1071 70 [.ref 56, .int x1, .int x2, .int x3, .int x4, x5, x6, x7] [.int (am_c 0), .int s0, .ref 71] μ) := am_blk (b := [(.iconst 0, 1)]) rfl rfl (rfl : am_z 1071 = 0) _ _ _
set_option maxRecDepth 50000 in
theorem q1071_70 (C : am_Ct) (x1 : Int32) (x2 : Int32) (x3 : Int32) (x4 : Int32) (x5 : Value) (x6 : Value) (x7 : Value) (s0 : Int32) (s1 : Int32) (μ : am_Mem) : am_ev C 1071 70 [.ref 56, .int x1, .int x2, .int x3, .int x4, x5, x6, x7] [.int s0, .int s1, .ref 71] μ = (am_gb (Nat.blt (am_ix s1) 896) (am_ev C 1071 17 [.ref 56, .int x1, .int x2, .int x3, .int (x4 + (am_c 1)), x5, x6, x7] [] (am_up μ 71 (am_ix s1) (am_nar 2 s0)))) := am_blk (b := [(.bastore, 1), (.iinc 4 1, 3), (.goto (-57), 3)]) rfl rfl (rfl : am_z 1071 = 0) _ _ _
set_option maxRecDepth 50000 in
theorem q1071_77 (C : am_Ct) (x1 : Int32) (x2 : Int32) (x3 : Int32) (x4 : Int32) (x5 : Value) (x6 : Value) (x7 : Value) (μ : am_Mem) : am_ev C 1071 77 [.ref 56, .int x1, .int x2, .int x3, .int x4, x5, x6, x7] [] μ = (am_ev C 1071 9 [.ref 56, .int x1, .int x2, .int (x3 + (am_c 1)), .int x4, x5, x6, x7] [] μ) := am_blk (b := [(.iinc 3 1, 3), (.goto (-71), 3)]) rfl rfl (rfl : am_z 1071 = 0) _ _ _
set_option maxRecDepth 50000 in
theorem q1071_83 (C : am_Ct) (x1 : Int32) (x2 : Int32) (x3 : Int32) (x4 : Value) (x5 : Value) (x6 : Value) (x7 : Value) (μ : am_Mem) : am_ev C 1071 83 [.ref 56, .int x1, .int x2, .int x3, x4, x5, x6, x7] [] μ = (am_ev C 1071 85 [.ref 56, .int x1, .int x2, .int (am_c 0), x4, x5, x6, x7] [] μ) := am_blk (b := [(.iconst 0, 1), (.istore_n 3, 1)]) rfl rfl (rfl : am_z 1071 = 0) _ _ _
set_option maxRecDepth 50000 in
theorem q1071_85 (C : am_Ct) (x1 : Int32) (x2 : Int32) (x3 : Int32) (x4 : Value) (x5 : Value) (x6 : Value) (x7 : Value) (μ : am_Mem) : am_ev C 1071 85 [.ref 56, .int x1, .int x2, .int x3, x4, x5, x6, x7] [] μ = (if (((am_c 1) : Int32) <<< (((am_c 2) * x2) &&& 31)) ≤ x3 then am_ev C 1071 113 [.ref 56, .int x1, .int x2, .int x3, x4, x5, x6, x7] [] μ else am_gb (Nat.blt (am_ix (((am_c 16384) * x2) + x3)) 131072) (am_ev C 1071 85 [.ref 56, .int x1, .int x2, .int (x3 + (am_c 1)), x4, x5, x6, x7] [] (am_up μ 69 (am_ix (((am_c 16384) * x2) + x3)) (am_c 0)))) := am_blk (b := [(.iload_n 3, 1), (.iconst 1, 1), (.iconst 2, 1), (.iload_n 2, 1), (.imul, 1), (.ishl, 1), (.if_icmp .ge 22, 3), (.aload_n 0, 1), (.getfield 52, 3), (.sipush 16384, 3), (.iload_n 2, 1), (.imul, 1), (.iload_n 3, 1), (.iadd, 1), (.iconst 0, 1), (.iastore, 1), (.iinc 3 1, 3), (.goto (-25), 3)]) rfl rfl (rfl : am_z 1071 = 0) _ _ _
set_option maxRecDepth 50000 in
theorem q1071_113 (C : am_Ct) (x1 : Int32) (x2 : Int32) (x3 : Int32) (x4 : Value) (x5 : Value) (x6 : Value) (x7 : Value) (μ : am_Mem) : am_ev C 1071 113 [.ref 56, .int x1, .int x2, .int x3, x4, x5, x6, x7] [] μ = (am_ev C 1071 117 [.ref 56, .int x1, .int x2, .int (x2 - (am_c 1)), x4, x5, x6, x7] [] μ) := am_blk (b := [(.iload_n 2, 1), (.iconst 1, 1), (.isub, 1), (.istore_n 3, 1)]) rfl rfl (rfl : am_z 1071 = 0) _ _ _
set_option maxRecDepth 50000 in
theorem q1071_117 (C : am_Ct) (x1 : Int32) (x2 : Int32) (x3 : Int32) (x4 : Value) (x5 : Value) (x6 : Value) (x7 : Value) (μ : am_Mem) : am_ev C 1071 117 [.ref 56, .int x1, .int x2, .int x3, x4, x5, x6, x7] [] μ = (if x3 < 0 then am_ev C 1071 209 [.ref 56, .int x1, .int x2, .int x3, x4, x5, x6, x7] [] μ else am_ev C 1071 124 [.ref 56, .int x1, .int x2, .int x3, .int (am_c 0), x5, x6, x7] [] μ) := am_blk (b := [(.iload_n 3, 1), (.ifCond .lt 91, 3), (.iconst 0, 1), (.istore 4, 2)]) rfl rfl (rfl : am_z 1071 = 0) _ _ _
set_option maxRecDepth 50000 in
theorem q1071_124 (C : am_Ct) (x1 : Int32) (x2 : Int32) (x3 : Int32) (x4 : Int32) (x5 : Value) (x6 : Value) (x7 : Value) (μ : am_Mem) : am_ev C 1071 124 [.ref 56, .int x1, .int x2, .int x3, .int x4, x5, x6, x7] [] μ = (if (((am_c 1) : Int32) <<< (((am_c 2) * x2) &&& 31)) ≤ x4 then am_ev C 1071 203 [.ref 56, .int x1, .int x2, .int x3, .int x4, x5, x6, x7] [] μ else am_ev C 1071 140 [.ref 56, .int x1, .int x2, .int x3, .int x4, .int (am_c 0), .int (am_c 0), x7] [] μ) := am_blk (b := [(.iload 4, 2), (.iconst 1, 1), (.iconst 2, 1), (.iload_n 2, 1), (.imul, 1), (.ishl, 1), (.if_icmp .ge 72, 3), (.iconst 0, 1), (.istore 5, 2), (.iconst 0, 1), (.istore 6, 2)]) rfl rfl (rfl : am_z 1071 = 0) _ _ _
set_option maxRecDepth 50000 in
theorem q1071_140 (C : am_Ct) (x1 : Int32) (x2 : Int32) (x3 : Int32) (x4 : Int32) (x5 : Int32) (x6 : Int32) (x7 : Value) (μ : am_Mem) : am_ev C 1071 140 [.ref 56, .int x1, .int x2, .int x3, .int x4, .int x5, .int x6, x7] [] μ = (if (((am_c 1) : Int32) <<< (x2 &&& 31)) ≤ x6 then am_ev C 1071 182 [.ref 56, .int x1, .int x2, .int x3, .int x4, .int x5, .int x6, x7] [] μ else am_bI (C 1070 [.ref 56, .int x3, .int x4, .int x6, .int x1] μ) (fun r1 m1 => if r1 ≤ x5 then am_ev C 1071 172 [.ref 56, .int x1, .int x2, .int x3, .int x4, .int x5, .int x6, .int r1] [] m1 else am_ev C 1071 174 [.ref 56, .int x1, .int x2, .int x3, .int x4, .int x5, .int x6, .int r1] [.int r1] m1)) := am_blk (b := [(.iload 6, 2), (.iconst 1, 1), (.iload_n 2, 1), (.ishl, 1), (.if_icmp .ge 37, 3), (.aload_n 0, 1), (.iload_n 3, 1), (.iload 4, 2), (.iload 6, 2), (.iload_n 1, 1), (.invokevirtual 300, 3), (.istore 7, 2), (.iload 7, 2), (.iload 5, 2), (.if_icmp .le 8, 3), (.iload 7, 2), (.goto 5, 3)]) rfl rfl (rfl : am_z 1071 = 0) _ _ _
set_option maxRecDepth 50000 in
theorem q1071_172 (C : am_Ct) (x1 : Int32) (x2 : Int32) (x3 : Int32) (x4 : Int32) (x5 : Int32) (x6 : Int32) (x7 : Int32) (μ : am_Mem) : am_ev C 1071 172 [.ref 56, .int x1, .int x2, .int x3, .int x4, .int x5, .int x6, .int x7] [] μ = (am_ev C 1071 174 [.ref 56, .int x1, .int x2, .int x3, .int x4, .int x5, .int x6, .int x7] [.int x5] μ) := am_blk (b := [(.iload 5, 2)]) rfl rfl (rfl : am_z 1071 = 0) _ _ _
set_option maxRecDepth 50000 in
theorem q1071_174 (C : am_Ct) (x1 : Int32) (x2 : Int32) (x3 : Int32) (x4 : Int32) (x5 : Int32) (x6 : Int32) (x7 : Int32) (s0 : Int32) (μ : am_Mem) : am_ev C 1071 174 [.ref 56, .int x1, .int x2, .int x3, .int x4, .int x5, .int x6, .int x7] [.int s0] μ = (am_ev C 1071 140 [.ref 56, .int x1, .int x2, .int x3, .int x4, .int s0, .int (x6 + (am_c 1)), .int x7] [] μ) := am_blk (b := [(.istore 5, 2), (.iinc 6 1, 3), (.goto (-39), 3)]) rfl rfl (rfl : am_z 1071 = 0) _ _ _
set_option maxRecDepth 50000 in
theorem q1071_182 (C : am_Ct) (x1 : Int32) (x2 : Int32) (x3 : Int32) (x4 : Int32) (x5 : Int32) (x6 : Int32) (x7 : Value) (μ : am_Mem) : am_ev C 1071 182 [.ref 56, .int x1, .int x2, .int x3, .int x4, .int x5, .int x6, x7] [] μ = (am_gb (Nat.blt (am_ix (((am_c 16384) * x3) + x4)) 131072) (am_ev C 1071 124 [.ref 56, .int x1, .int x2, .int x3, .int (x4 + (am_c 1)), .int x5, .int x6, x7] [] (am_up μ 69 (am_ix (((am_c 16384) * x3) + x4)) x5))) := am_blk (b := [(.aload_n 0, 1), (.getfield 52, 3), (.sipush 16384, 3), (.iload_n 3, 1), (.imul, 1), (.iload 4, 2), (.iadd, 1), (.iload 5, 2), (.iastore, 1), (.iinc 4 1, 3), (.goto (-76), 3)]) rfl rfl (rfl : am_z 1071 = 0) _ _ _
set_option maxRecDepth 50000 in
theorem q1071_203 (C : am_Ct) (x1 : Int32) (x2 : Int32) (x3 : Int32) (x4 : Int32) (x5 : Value) (x6 : Value) (x7 : Value) (μ : am_Mem) : am_ev C 1071 203 [.ref 56, .int x1, .int x2, .int x3, .int x4, x5, x6, x7] [] μ = (am_ev C 1071 117 [.ref 56, .int x1, .int x2, .int (x3 + (am_c (-1))), .int x4, x5, x6, x7] [] μ) := am_blk (b := [(.iinc 3 (-1), 3), (.goto (-89), 3)]) rfl rfl (rfl : am_z 1071 = 0) _ _ _
set_option maxRecDepth 50000 in
theorem q1071_209 (C : am_Ct) (x1 : Int32) (x2 : Int32) (x3 : Int32) (x4 : Value) (x5 : Value) (x6 : Value) (x7 : Value) (μ : am_Mem) : am_ev C 1071 209 [.ref 56, .int x1, .int x2, .int x3, x4, x5, x6, x7] [] μ = (am_ev C 1071 214 [.ref 56, .int x1, .int x2, .int (am_c 0), .int (am_c 0), x5, x6, x7] [] μ) := am_blk (b := [(.iconst 0, 1), (.istore_n 3, 1), (.iconst 0, 1), (.istore 4, 2)]) rfl rfl (rfl : am_z 1071 = 0) _ _ _
set_option maxRecDepth 50000 in
theorem q1071_214 (C : am_Ct) (x1 : Int32) (x2 : Int32) (x3 : Int32) (x4 : Int32) (x5 : Value) (x6 : Value) (x7 : Value) (μ : am_Mem) : am_ev C 1071 214 [.ref 56, .int x1, .int x2, .int x3, .int x4, x5, x6, x7] [] μ = (if x2 ≤ x4 then am_ev C 1071 278 [.ref 56, .int x1, .int x2, .int x3, .int x4, x5, x6, x7] [] μ else am_ev C 1071 223 [.ref 56, .int x1, .int x2, .int x3, .int x4, .int (am_c 0), x6, x7] [] μ) := am_blk (b := [(.iload 4, 2), (.iload_n 2, 1), (.if_icmp .ge 61, 3), (.iconst 0, 1), (.istore 5, 2)]) rfl rfl (rfl : am_z 1071 = 0) _ _ _
set_option maxRecDepth 50000 in
theorem q1071_223 (C : am_Ct) (x1 : Int32) (x2 : Int32) (x3 : Int32) (x4 : Int32) (x5 : Int32) (x6 : Value) (x7 : Value) (μ : am_Mem) : am_ev C 1071 223 [.ref 56, .int x1, .int x2, .int x3, .int x4, .int x5, x6, x7] [] μ = (am_bI (C 1070 [.ref 56, .int x4, .int x3, .int x5, .int x1] μ) (fun r1 m1 => am_gb (Nat.blt (am_ix (((am_c 16384) * x4) + x3)) 131072) (if r1 = (m1 69 (am_ix (((am_c 16384) * x4) + x3))) then am_ev C 1071 255 [.ref 56, .int x1, .int x2, .int x3, .int x4, .int x5, x6, x7] [] m1 else am_ev C 1071 223 [.ref 56, .int x1, .int x2, .int x3, .int x4, .int (x5 + (am_c 1)), x6, x7] [] m1))) := am_blk (b := [(.aload_n 0, 1), (.iload 4, 2), (.iload_n 3, 1), (.iload 5, 2), (.iload_n 1, 1), (.invokevirtual 300, 3), (.aload_n 0, 1), (.getfield 52, 3), (.sipush 16384, 3), (.iload 4, 2), (.imul, 1), (.iload_n 3, 1), (.iadd, 1), (.iaload, 1), (.if_icmp .eq 9, 3), (.iinc 5 1, 3), (.goto (-29), 3)]) rfl rfl (rfl : am_z 1071 = 0) _ _ _
set_option maxRecDepth 50000 in
theorem q1071_255 (C : am_Ct) (x1 : Int32) (x2 : Int32) (x3 : Int32) (x4 : Int32) (x5 : Int32) (x6 : Value) (x7 : Value) (μ : am_Mem) : am_ev C 1071 255 [.ref 56, .int x1, .int x2, .int x3, .int x4, .int x5, x6, x7] [] μ = (am_gb (Nat.blt (am_ix x4) 7) (am_bI (C 1069 [.int x3, .int x5, .int x1] (am_up μ 70 (am_ix x4) x5)) (fun r1 m1 => am_ev C 1071 214 [.ref 56, .int x1, .int x2, .int r1, .int (x4 + (am_c 1)), .int x5, x6, x7] [] m1))) := am_blk (b := [(.aload_n 0, 1), (.getfield 55, 3), (.iload 4, 2), (.iload 5, 2), (.iastore, 1), (.iload_n 3, 1), (.iload 5, 2), (.iload_n 1, 1), (.invokestatic 297, 3), (.istore_n 3, 1), (.iinc 4 1, 3), (.goto (-61), 3)]) rfl rfl (rfl : am_z 1071 = 0) _ _ _
set_option maxRecDepth 50000 in
theorem q1071_278 (C : am_Ct) (x1 : Int32) (x2 : Int32) (x3 : Int32) (x4 : Int32) (x5 : Value) (x6 : Value) (x7 : Value) (μ : am_Mem) : am_ev C 1071 278 [.ref 56, .int x1, .int x2, .int x3, .int x4, x5, x6, x7] [] μ = (am_ret none μ) := am_blk (b := [(.return_, 1)]) rfl rfl (rfl : am_z 1071 = 0) _ _ _
theorem e1071 (d : Nat) (x1 : Int32) (μ : am_Mem) : am_call (d + 1) 1071 [.ref 56, .int x1] μ = am_ev (am_call d) 1071 0 [.ref 56, .int x1, .null, .null, .null, .null, .null, .null] [] μ := rfl
/-! NoWordTwiceModel.most(II)I  -/
set_option maxRecDepth 50000 in
theorem q1072_0 (C : am_Ct) (x1 : Int32) (x2 : Int32) (μ : am_Mem) : am_ev C 1072 0 [.ref 56, .int x1, .int x2] [] μ = (am_bI (C 1001 [.int x1, .int (am_c 1), .int (am_c 3)] μ) (fun r1 m1 => if r1 = 0 then am_ev C 1072 42 [.ref 56, .int x1, .int x2] [] m1 else if (am_c 7) < (m1 57 0) then am_ev C 1072 42 [.ref 56, .int x1, .int x2] [] m1 else if x2 = 0 then am_ev C 1072 44 [.ref 56, .int x1, .int x2] [] m1 else am_bI (C 1001 [.int x2, .int (am_c 10), .int ((am_c 9) + (m1 57 0))] m1) (fun r2 m2 => if r2 = 0 then am_ev C 1072 42 [.ref 56, .int x1, .int x2] [] m2 else am_ev C 1072 44 [.ref 56, .int x1, .int x2] [] m2))) := am_blk (b := [(.iload_n 1, 1), (.iconst 1, 1), (.iconst 3, 1), (.invokestatic 64, 3), (.ifCond .eq 36, 3), (.aload_n 0, 1), (.getfield 7, 3), (.iconst 0, 1), (.iaload, 1), (.bipush 7, 2), (.if_icmp .gt 25, 3), (.iload_n 2, 1), (.ifCond .eq 23, 3), (.iload_n 2, 1), (.bipush 10, 2), (.bipush 9, 2), (.aload_n 0, 1), (.getfield 7, 3), (.iconst 0, 1), (.iaload, 1), (.iadd, 1), (.invokestatic 64, 3), (.ifCond .ne 5, 3)]) rfl rfl (rfl : am_z 1072 = 0) _ _ _
set_option maxRecDepth 50000 in
theorem q1072_42 (C : am_Ct) (x1 : Int32) (x2 : Int32) (μ : am_Mem) : am_ev C 1072 42 [.ref 56, .int x1, .int x2] [] μ = (am_ret (some (.int (am_c (-1)))) μ) := am_blk (b := [(.iconst (-1), 1), (.ireturn, 1)]) rfl rfl (rfl : am_z 1072 = 0) _ _ _
set_option maxRecDepth 50000 in
theorem q1072_44 (C : am_Ct) (x1 : Int32) (x2 : Int32) (μ : am_Mem) : am_ev C 1072 44 [.ref 56, .int x1, .int x2] [] μ = (am_bV (C 1071 [.ref 56, .int x1] μ) (fun m1 => if x2 = 0 then am_ev C 1072 71 [.ref 56, .int x1, .int x2] [.int (m1 69 0)] m1 else am_ev C 1072 62 [.ref 56, .int x1, .int x2] [] m1)) := am_blk (b := [(.aload_n 0, 1), (.iload_n 1, 1), (.invokevirtual 304, 3), (.iload_n 2, 1), (.ifCond .ne 12, 3), (.aload_n 0, 1), (.getfield 52, 3), (.iconst 0, 1), (.iaload, 1), (.goto 12, 3)]) rfl rfl (rfl : am_z 1072 = 0) _ _ _
set_option maxRecDepth 50000 in
theorem q1072_62 (C : am_Ct) (x1 : Int32) (x2 : Int32) (μ : am_Mem) : am_ev C 1072 62 [.ref 56, .int x1, .int x2] [] μ = (am_gb (Nat.blt (am_ix (x2 - (am_c 10))) 7) (am_ev C 1072 71 [.ref 56, .int x1, .int x2] [.int (μ 70 (am_ix (x2 - (am_c 10))))] μ)) := am_blk (b := [(.aload_n 0, 1), (.getfield 55, 3), (.iload_n 2, 1), (.bipush 10, 2), (.isub, 1), (.iaload, 1)]) rfl rfl (rfl : am_z 1072 = 0) _ _ _
set_option maxRecDepth 50000 in
theorem q1072_71 (C : am_Ct) (x1 : Int32) (x2 : Int32) (s0 : Int32) (μ : am_Mem) : am_ev C 1072 71 [.ref 56, .int x1, .int x2] [.int s0] μ = (am_ret (some (.int s0)) μ) := am_blk (b := [(.ireturn, 1)]) rfl rfl (rfl : am_z 1072 = 0) _ _ _
theorem e1072 (d : Nat) (x1 : Int32) (x2 : Int32) (μ : am_Mem) : am_call (d + 1) 1072 [.ref 56, .int x1, .int x2] μ = am_ev (am_call d) 1072 0 [.ref 56, .int x1, .int x2] [] μ := rfl
/-! NoWordTwiceModel.worn(II)I  -/
set_option maxRecDepth 50000 in
theorem q1073_0 (C : am_Ct) (x1 : Int32) (x2 : Int32) (x3 : Value) (x4 : Value) (x5 : Value) (x6 : Value) (μ : am_Mem) : am_ev C 1073 0 [.ref 56, .int x1, .int x2, x3, x4, x5, x6] [] μ = (am_bI (C 1003 [.ref 56, .int x1] μ) (fun r1 m1 => if r1 = 0 then am_ev C 1073 24 [.ref 56, .int x1, .int x2, x3, x4, x5, x6] [] m1 else am_bI (C 1005 [.ref 56, .int x1, .int (am_c 1)] m1) (fun r2 m2 => am_bI (C 1001 [.int x2, .int (am_c 0), .int (r2 - (am_c 1))] m2) (fun r3 m3 => if r3 = 0 then am_ev C 1073 24 [.ref 56, .int x1, .int x2, x3, x4, x5, x6] [] m3 else am_ev C 1073 26 [.ref 56, .int x1, .int x2, x3, x4, x5, x6] [] m3)))) := am_blk (b := [(.aload_n 0, 1), (.iload_n 1, 1), (.invokevirtual 92, 3), (.ifCond .eq 19, 3), (.iload_n 2, 1), (.iconst 0, 1), (.aload_n 0, 1), (.iload_n 1, 1), (.iconst 1, 1), (.invokevirtual 88, 3), (.iconst 1, 1), (.isub, 1), (.invokestatic 64, 3), (.ifCond .ne 5, 3)]) rfl rfl (rfl : am_z 1073 = 0) _ _ _
set_option maxRecDepth 50000 in
theorem q1073_24 (C : am_Ct) (x1 : Int32) (x2 : Int32) (x3 : Value) (x4 : Value) (x5 : Value) (x6 : Value) (μ : am_Mem) : am_ev C 1073 24 [.ref 56, .int x1, .int x2, x3, x4, x5, x6] [] μ = (am_ret (some (.int (am_c (-1)))) μ) := am_blk (b := [(.iconst (-1), 1), (.ireturn, 1)]) rfl rfl (rfl : am_z 1073 = 0) _ _ _
set_option maxRecDepth 50000 in
theorem q1073_26 (C : am_Ct) (x1 : Int32) (x2 : Int32) (x3 : Value) (x4 : Value) (x5 : Value) (x6 : Value) (μ : am_Mem) : am_ev C 1073 26 [.ref 56, .int x1, .int x2, x3, x4, x5, x6] [] μ = (am_bI (C 1044 [.ref 56, .int x1] μ) (fun r1 m1 => am_bI (C 1005 [.ref 56, .int x1, .int ((am_c 2) + x2)] m1) (fun r2 m2 => am_ev C 1073 51 [.ref 56, .int x1, .int x2, .int (r1 &&& ((((am_c 1) : Int32) <<< (r2 &&& 31)) ^^^ (am_c (-1)))), .int (am_c 0), .int (am_c 0), x6] [] m2))) := am_blk (b := [(.aload_n 0, 1), (.iload_n 1, 1), (.invokevirtual 236, 3), (.iconst 1, 1), (.aload_n 0, 1), (.iload_n 1, 1), (.iconst 2, 1), (.iload_n 2, 1), (.iadd, 1), (.invokevirtual 88, 3), (.ishl, 1), (.iconst (-1), 1), (.ixor, 1), (.iand, 1), (.istore_n 3, 1), (.iconst 0, 1), (.istore 4, 2), (.iconst 0, 1), (.istore 5, 2)]) rfl rfl (rfl : am_z 1073 = 0) _ _ _
set_option maxRecDepth 50000 in
theorem q1073_51 (C : am_Ct) (x1 : Int32) (x2 : Int32) (x3 : Int32) (x4 : Int32) (x5 : Int32) (x6 : Value) (μ : am_Mem) : am_ev C 1073 51 [.ref 56, .int x1, .int x2, .int x3, .int x4, .int x5, x6] [] μ = (if (μ 57 0) ≤ x5 then am_ev C 1073 162 [.ref 56, .int x1, .int x2, .int x3, .int x4, .int x5, x6] [] μ else am_bI (C 1005 [.ref 56, .int x1, .int (am_c 0)] μ) (fun r1 m1 => if x5 = r1 then am_ev C 1073 156 [.ref 56, .int x1, .int x2, .int x3, .int x4, .int x5, x6] [] m1 else if ((x3 >>> (x5 &&& 31)) &&& (am_c 1)) = (am_c 1) then am_ev C 1073 156 [.ref 56, .int x1, .int x2, .int x3, .int x4, .int x5, x6] [] m1 else am_ev C 1073 86 [.ref 56, .int x1, .int x2, .int x3, .int x4, .int x5, x6] [] m1)) := am_blk (b := [(.iload 5, 2), (.aload_n 0, 1), (.getfield 7, 3), (.iconst 0, 1), (.iaload, 1), (.if_icmp .ge 103, 3), (.iload 5, 2), (.aload_n 0, 1), (.iload_n 1, 1), (.iconst 0, 1), (.invokevirtual 88, 3), (.if_icmp .eq 86, 3), (.iload_n 3, 1), (.iload 5, 2), (.ishr, 1), (.iconst 1, 1), (.iand, 1), (.iconst 1, 1), (.if_icmp .ne 6, 3), (.goto 73, 3)]) rfl rfl (rfl : am_z 1073 = 0) _ _ _
set_option maxRecDepth 50000 in
theorem q1073_86 (C : am_Ct) (x1 : Int32) (x2 : Int32) (x3 : Int32) (x4 : Int32) (x5 : Int32) (x6 : Value) (μ : am_Mem) : am_ev C 1073 86 [.ref 56, .int x1, .int x2, .int x3, .int x4, .int x5, x6] [] μ = (am_bI (C 1046 [.ref 56, .int x5, .int (μ 57 1)] μ) (fun r1 m1 => am_bI (C 1044 [.ref 56, .int x1] m1) (fun r2 m2 => if (m2 57 2) < ((r1 - ((r2 >>> (x5 &&& 31)) &&& (am_c 1))) + (am_c 1)) then am_ev C 1073 152 [.ref 56, .int x1, .int x2, .int x3, .int x4, .int x5, .int ((r1 - ((r2 >>> (x5 &&& 31)) &&& (am_c 1))) + (am_c 1))] [.int x4] m2 else am_bI (C 1005 [.ref 56, .int x1, .int (am_c 0)] m2) (fun r3 m3 => am_bI (C 1043 [.ref 56, .int r3, .int (x3 ||| (((am_c 1) : Int32) <<< (x5 &&& 31)))] m3) (fun r4 m4 => if r4 = 0 then am_ev C 1073 152 [.ref 56, .int x1, .int x2, .int x3, .int x4, .int x5, .int ((r1 - ((r2 >>> (x5 &&& 31)) &&& (am_c 1))) + (am_c 1))] [.int x4] m4 else am_ev C 1073 153 [.ref 56, .int x1, .int x2, .int x3, .int x4, .int x5, .int ((r1 - ((r2 >>> (x5 &&& 31)) &&& (am_c 1))) + (am_c 1))] [.int (((am_c 1) : Int32) <<< (x5 &&& 31)), .int x4] m4))))) := am_blk (b := [(.aload_n 0, 1), (.iload 5, 2), (.aload_n 0, 1), (.getfield 7, 3), (.iconst 1, 1), (.iaload, 1), (.invokevirtual 258, 3), (.aload_n 0, 1), (.iload_n 1, 1), (.invokevirtual 236, 3), (.iload 5, 2), (.ishr, 1), (.iconst 1, 1), (.iand, 1), (.isub, 1), (.iconst 1, 1), (.iadd, 1), (.istore 6, 2), (.iload 4, 2), (.iload 6, 2), (.aload_n 0, 1), (.getfield 7, 3), (.iconst 2, 1), (.iaload, 1), (.if_icmp .gt 29, 3), (.aload_n 0, 1), (.aload_n 0, 1), (.iload_n 1, 1), (.iconst 0, 1), (.invokevirtual 88, 3), (.iload_n 3, 1), (.iconst 1, 1), (.iload 5, 2), (.ishl, 1), (.ior, 1), (.invokevirtual 239, 3), (.ifCond .eq 10, 3), (.iconst 1, 1), (.iload 5, 2), (.ishl, 1), (.goto 4, 3)]) rfl rfl (rfl : am_z 1073 = 0) _ _ _
set_option maxRecDepth 50000 in
theorem q1073_152 (C : am_Ct) (x1 : Int32) (x2 : Int32) (x3 : Int32) (x4 : Int32) (x5 : Int32) (x6 : Int32) (s0 : Int32) (μ : am_Mem) : am_ev C 1073 152 [.ref 56, .int x1, .int x2, .int x3, .int x4, .int x5, .int x6] [.int s0] μ = (am_ev C 1073 153 [.ref 56, .int x1, .int x2, .int x3, .int x4, .int x5, .int x6] [.int (am_c 0), .int s0] μ) := am_blk (b := [(.iconst 0, 1)]) rfl rfl (rfl : am_z 1073 = 0) _ _ _
set_option maxRecDepth 50000 in
theorem q1073_153 (C : am_Ct) (x1 : Int32) (x2 : Int32) (x3 : Int32) (x4 : Int32) (x5 : Int32) (x6 : Int32) (s0 : Int32) (s1 : Int32) (μ : am_Mem) : am_ev C 1073 153 [.ref 56, .int x1, .int x2, .int x3, .int x4, .int x5, .int x6] [.int s0, .int s1] μ = (am_ev C 1073 156 [.ref 56, .int x1, .int x2, .int x3, .int (s1 ||| s0), .int x5, .int x6] [] μ) := am_blk (b := [(.ior, 1), (.istore 4, 2)]) rfl rfl (rfl : am_z 1073 = 0) _ _ _
set_option maxRecDepth 50000 in
theorem q1073_156 (C : am_Ct) (x1 : Int32) (x2 : Int32) (x3 : Int32) (x4 : Int32) (x5 : Int32) (x6 : Value) (μ : am_Mem) : am_ev C 1073 156 [.ref 56, .int x1, .int x2, .int x3, .int x4, .int x5, x6] [] μ = (am_ev C 1073 51 [.ref 56, .int x1, .int x2, .int x3, .int x4, .int (x5 + (am_c 1)), x6] [] μ) := am_blk (b := [(.iinc 5 1, 3), (.goto (-108), 3)]) rfl rfl (rfl : am_z 1073 = 0) _ _ _
set_option maxRecDepth 50000 in
theorem q1073_162 (C : am_Ct) (x1 : Int32) (x2 : Int32) (x3 : Int32) (x4 : Int32) (x5 : Int32) (x6 : Value) (μ : am_Mem) : am_ev C 1073 162 [.ref 56, .int x1, .int x2, .int x3, .int x4, .int x5, x6] [] μ = (am_ret (some (.int x4)) μ) := am_blk (b := [(.iload 4, 2), (.ireturn, 1)]) rfl rfl (rfl : am_z 1073 = 0) _ _ _
theorem e1073 (d : Nat) (x1 : Int32) (x2 : Int32) (μ : am_Mem) : am_call (d + 1) 1073 [.ref 56, .int x1, .int x2] μ = am_ev (am_call d) 1073 0 [.ref 56, .int x1, .int x2, .null, .null, .null, .null] [] μ := rfl
/-! NoWordTwiceModel.canTrade(IIII)Z  -/
set_option maxRecDepth 50000 in
theorem q1074_0 (C : am_Ct) (x1 : Int32) (x2 : Int32) (x3 : Int32) (x4 : Int32) (x5 : Value) (x6 : Value) (x7 : Value) (x8 : Value) (μ : am_Mem) : am_ev C 1074 0 [.ref 56, .int x1, .int x2, .int x3, .int x4, x5, x6, x7, x8] [] μ = (am_bI (C 1005 [.ref 56, .int x1, .int ((am_c 2) + x2)] μ) (fun r1 m1 => am_bI (C 1005 [.ref 56, .int x3, .int ((am_c 2) + x4)] m1) (fun r2 m2 => am_bI (C 1044 [.ref 56, .int x1] m2) (fun r3 m3 => am_bI (C 1044 [.ref 56, .int x3] m3) (fun r4 m4 => am_bI (C 1005 [.ref 56, .int x1, .int (am_c 0)] m4) (fun r5 m5 => if r2 = r5 then am_ev C 1074 93 [.ref 56, .int x1, .int x2, .int x3, .int x4, .int r1, .int r2, .int (r3 &&& ((((am_c 1) : Int32) <<< (r1 &&& 31)) ^^^ (am_c (-1)))), .int (r4 &&& ((((am_c 1) : Int32) <<< (r2 &&& 31)) ^^^ (am_c (-1))))] [] m5 else am_bI (C 1005 [.ref 56, .int x3, .int (am_c 0)] m5) (fun r6 m6 => if r1 = r6 then am_ev C 1074 93 [.ref 56, .int x1, .int x2, .int x3, .int x4, .int r1, .int r2, .int (r3 &&& ((((am_c 1) : Int32) <<< (r1 &&& 31)) ^^^ (am_c (-1)))), .int (r4 &&& ((((am_c 1) : Int32) <<< (r2 &&& 31)) ^^^ (am_c (-1))))] [] m6 else if (((r3 &&& ((((am_c 1) : Int32) <<< (r1 &&& 31)) ^^^ (am_c (-1)))) >>> (r2 &&& 31)) &&& (am_c 1)) = (am_c 1) then am_ev C 1074 93 [.ref 56, .int x1, .int x2, .int x3, .int x4, .int r1, .int r2, .int (r3 &&& ((((am_c 1) : Int32) <<< (r1 &&& 31)) ^^^ (am_c (-1)))), .int (r4 &&& ((((am_c 1) : Int32) <<< (r2 &&& 31)) ^^^ (am_c (-1))))] [] m6 else if (((r4 &&& ((((am_c 1) : Int32) <<< (r2 &&& 31)) ^^^ (am_c (-1)))) >>> (r1 &&& 31)) &&& (am_c 1)) = (am_c 1) then am_ev C 1074 93 [.ref 56, .int x1, .int x2, .int x3, .int x4, .int r1, .int r2, .int (r3 &&& ((((am_c 1) : Int32) <<< (r1 &&& 31)) ^^^ (am_c (-1)))), .int (r4 &&& ((((am_c 1) : Int32) <<< (r2 &&& 31)) ^^^ (am_c (-1))))] [] m6 else am_ev C 1074 95 [.ref 56, .int x1, .int x2, .int x3, .int x4, .int r1, .int r2, .int (r3 &&& ((((am_c 1) : Int32) <<< (r1 &&& 31)) ^^^ (am_c (-1)))), .int (r4 &&& ((((am_c 1) : Int32) <<< (r2 &&& 31)) ^^^ (am_c (-1))))] [] m6))))))) := am_blk (b := [(.aload_n 0, 1), (.iload_n 1, 1), (.iconst 2, 1), (.iload_n 2, 1), (.iadd, 1), (.invokevirtual 88, 3), (.istore 5, 2), (.aload_n 0, 1), (.iload_n 3, 1), (.iconst 2, 1), (.iload 4, 2), (.iadd, 1), (.invokevirtual 88, 3), (.istore 6, 2), (.aload_n 0, 1), (.iload_n 1, 1), (.invokevirtual 236, 3), (.iconst 1, 1), (.iload 5, 2), (.ishl, 1), (.iconst (-1), 1), (.ixor, 1), (.iand, 1), (.istore 7, 2), (.aload_n 0, 1), (.iload_n 3, 1), (.invokevirtual 236, 3), (.iconst 1, 1), (.iload 6, 2), (.ishl, 1), (.iconst (-1), 1), (.ixor, 1), (.iand, 1), (.istore 8, 2), (.iload 6, 2), (.aload_n 0, 1), (.iload_n 1, 1), (.iconst 0, 1), (.invokevirtual 88, 3), (.if_icmp .eq 36, 3), (.iload 5, 2), (.aload_n 0, 1), (.iload_n 3, 1), (.iconst 0, 1), (.invokevirtual 88, 3), (.if_icmp .eq 25, 3), (.iload 7, 2), (.iload 6, 2), (.ishr, 1), (.iconst 1, 1), (.iand, 1), (.iconst 1, 1), (.if_icmp .eq 14, 3), (.iload 8, 2), (.iload 5, 2), (.ishr, 1), (.iconst 1, 1), (.iand, 1), (.iconst 1, 1), (.if_icmp .ne 5, 3)]) rfl rfl (rfl : am_z 1074 = 2) _ _ _
set_option maxRecDepth 50000 in
theorem q1074_93 (C : am_Ct) (x1 : Int32) (x2 : Int32) (x3 : Int32) (x4 : Int32) (x5 : Int32) (x6 : Int32) (x7 : Int32) (x8 : Int32) (μ : am_Mem) : am_ev C 1074 93 [.ref 56, .int x1, .int x2, .int x3, .int x4, .int x5, .int x6, .int x7, .int x8] [] μ = (am_ret (some (.int (am_c 0))) μ) := am_blk (b := [(.iconst 0, 1), (.ireturn, 1)]) rfl rfl (rfl : am_z 1074 = 2) _ _ _
set_option maxRecDepth 50000 in
theorem q1074_95 (C : am_Ct) (x1 : Int32) (x2 : Int32) (x3 : Int32) (x4 : Int32) (x5 : Int32) (x6 : Int32) (x7 : Int32) (x8 : Int32) (μ : am_Mem) : am_ev C 1074 95 [.ref 56, .int x1, .int x2, .int x3, .int x4, .int x5, .int x6, .int x7, .int x8] [] μ = (am_bI (C 1005 [.ref 56, .int x1, .int (am_c 0)] μ) (fun r1 m1 => am_bI (C 1043 [.ref 56, .int r1, .int (x7 ||| (((am_c 1) : Int32) <<< (x6 &&& 31)))] m1) (fun r2 m2 => if r2 = 0 then am_ev C 1074 139 [.ref 56, .int x1, .int x2, .int x3, .int x4, .int x5, .int x6, .int x7, .int x8] [] m2 else am_bI (C 1005 [.ref 56, .int x3, .int (am_c 0)] m2) (fun r3 m3 => am_bI (C 1043 [.ref 56, .int r3, .int (x8 ||| (((am_c 1) : Int32) <<< (x5 &&& 31)))] m3) (fun r4 m4 => if r4 = 0 then am_ev C 1074 139 [.ref 56, .int x1, .int x2, .int x3, .int x4, .int x5, .int x6, .int x7, .int x8] [] m4 else am_ev C 1074 140 [.ref 56, .int x1, .int x2, .int x3, .int x4, .int x5, .int x6, .int x7, .int x8] [.int (am_c 1)] m4))))) := am_blk (b := [(.aload_n 0, 1), (.aload_n 0, 1), (.iload_n 1, 1), (.iconst 0, 1), (.invokevirtual 88, 3), (.iload 7, 2), (.iconst 1, 1), (.iload 6, 2), (.ishl, 1), (.ior, 1), (.invokevirtual 239, 3), (.ifCond .eq 27, 3), (.aload_n 0, 1), (.aload_n 0, 1), (.iload_n 3, 1), (.iconst 0, 1), (.invokevirtual 88, 3), (.iload 8, 2), (.iconst 1, 1), (.iload 5, 2), (.ishl, 1), (.ior, 1), (.invokevirtual 239, 3), (.ifCond .eq 7, 3), (.iconst 1, 1), (.goto 4, 3)]) rfl rfl (rfl : am_z 1074 = 2) _ _ _
set_option maxRecDepth 50000 in
theorem q1074_139 (C : am_Ct) (x1 : Int32) (x2 : Int32) (x3 : Int32) (x4 : Int32) (x5 : Int32) (x6 : Int32) (x7 : Int32) (x8 : Int32) (μ : am_Mem) : am_ev C 1074 139 [.ref 56, .int x1, .int x2, .int x3, .int x4, .int x5, .int x6, .int x7, .int x8] [] μ = (am_ev C 1074 140 [.ref 56, .int x1, .int x2, .int x3, .int x4, .int x5, .int x6, .int x7, .int x8] [.int (am_c 0)] μ) := am_blk (b := [(.iconst 0, 1)]) rfl rfl (rfl : am_z 1074 = 2) _ _ _
set_option maxRecDepth 50000 in
theorem q1074_140 (C : am_Ct) (x1 : Int32) (x2 : Int32) (x3 : Int32) (x4 : Int32) (x5 : Int32) (x6 : Int32) (x7 : Int32) (x8 : Int32) (s0 : Int32) (μ : am_Mem) : am_ev C 1074 140 [.ref 56, .int x1, .int x2, .int x3, .int x4, .int x5, .int x6, .int x7, .int x8] [.int s0] μ = (am_gb (Nat.blt (am_ix s0) 2) (am_ret (some (.int s0)) μ)) := am_blk (b := [(.ireturn, 1)]) rfl rfl (rfl : am_z 1074 = 2) _ _ _
theorem e1074 (d : Nat) (x1 : Int32) (x2 : Int32) (x3 : Int32) (x4 : Int32) (μ : am_Mem) : am_call (d + 1) 1074 [.ref 56, .int x1, .int x2, .int x3, .int x4] μ = am_ev (am_call d) 1074 0 [.ref 56, .int x1, .int x2, .int x3, .int x4, .null, .null, .null, .null] [] μ := rfl
/-! NoWordTwiceModel.trades()I  -/
set_option maxRecDepth 50000 in
theorem q1075_0 (C : am_Ct) (x1 : Value) (x2 : Value) (x3 : Value) (x4 : Value) (x5 : Value) (μ : am_Mem) : am_ev C 1075 0 [.ref 56, x1, x2, x3, x4, x5] [] μ = (am_ev C 1075 4 [.ref 56, .int (am_c 0), .int (am_c 0), x3, x4, x5] [] μ) := am_blk (b := [(.iconst 0, 1), (.istore_n 1, 1), (.iconst 0, 1), (.istore_n 2, 1)]) rfl rfl (rfl : am_z 1075 = 0) _ _ _
set_option maxRecDepth 50000 in
theorem q1075_4 (C : am_Ct) (x1 : Int32) (x2 : Int32) (x3 : Value) (x4 : Value) (x5 : Value) (μ : am_Mem) : am_ev C 1075 4 [.ref 56, .int x1, .int x2, x3, x4, x5] [] μ = (if (am_c 4) ≤ x2 then am_ev C 1075 22 [.ref 56, .int x1, .int x2, x3, x4, x5] [] μ else am_gb (Nat.blt (am_ix x2) 4) (am_ev C 1075 4 [.ref 56, .int x1, .int (x2 + (am_c 1)), x3, x4, x5] [] (am_up μ 72 (am_ix x2) (am_c (-1))))) := am_blk (b := [(.iload_n 2, 1), (.iconst 4, 1), (.if_icmp .ge 16, 3), (.aload_n 0, 1), (.getfield 61, 3), (.iload_n 2, 1), (.iconst (-1), 1), (.iastore, 1), (.iinc 2 1, 3), (.goto (-15), 3)]) rfl rfl (rfl : am_z 1075 = 0) _ _ _
set_option maxRecDepth 50000 in
theorem q1075_22 (C : am_Ct) (x1 : Int32) (x2 : Int32) (x3 : Value) (x4 : Value) (x5 : Value) (μ : am_Mem) : am_ev C 1075 22 [.ref 56, .int x1, .int x2, x3, x4, x5] [] μ = (am_ev C 1075 24 [.ref 56, .int x1, .int (am_c 0), x3, x4, x5] [] μ) := am_blk (b := [(.iconst 0, 1), (.istore_n 2, 1)]) rfl rfl (rfl : am_z 1075 = 0) _ _ _
set_option maxRecDepth 50000 in
theorem q1075_24 (C : am_Ct) (x1 : Int32) (x2 : Int32) (x3 : Value) (x4 : Value) (x5 : Value) (μ : am_Mem) : am_ev C 1075 24 [.ref 56, .int x1, .int x2, x3, x4, x5] [] μ = (if (μ 57 1) ≤ x2 then am_ev C 1075 174 [.ref 56, .int x1, .int x2, x3, x4, x5] [] μ else am_ev C 1075 38 [.ref 56, .int x1, .int x2, .int (x2 + (am_c 1)), x4, x5] [] μ) := am_blk (b := [(.iload_n 2, 1), (.aload_n 0, 1), (.getfield 7, 3), (.iconst 1, 1), (.iaload, 1), (.if_icmp .ge 143, 3), (.iload_n 2, 1), (.iconst 1, 1), (.iadd, 1), (.istore_n 3, 1)]) rfl rfl (rfl : am_z 1075 = 0) _ _ _
set_option maxRecDepth 50000 in
theorem q1075_38 (C : am_Ct) (x1 : Int32) (x2 : Int32) (x3 : Int32) (x4 : Value) (x5 : Value) (μ : am_Mem) : am_ev C 1075 38 [.ref 56, .int x1, .int x2, .int x3, x4, x5] [] μ = (if (μ 57 1) ≤ x3 then am_ev C 1075 168 [.ref 56, .int x1, .int x2, .int x3, x4, x5] [] μ else am_gb (Nat.blt (am_ix x2) 12) (if (μ 67 (am_ix x2)) = 0 then am_ev C 1075 69 [.ref 56, .int x1, .int x2, .int x3, x4, x5] [] μ else am_gb (Nat.blt (am_ix x3) 12) (if (μ 67 (am_ix x3)) = 0 then am_ev C 1075 69 [.ref 56, .int x1, .int x2, .int x3, x4, x5] [] μ else am_ev C 1075 162 [.ref 56, .int x1, .int x2, .int x3, x4, x5] [] μ))) := am_blk (b := [(.iload_n 3, 1), (.aload_n 0, 1), (.getfield 7, 3), (.iconst 1, 1), (.iaload, 1), (.if_icmp .ge 123, 3), (.aload_n 0, 1), (.getfield 44, 3), (.iload_n 2, 1), (.baload, 1), (.ifCond .eq 15, 3), (.aload_n 0, 1), (.getfield 44, 3), (.iload_n 3, 1), (.baload, 1), (.ifCond .eq 6, 3), (.goto 96, 3)]) rfl rfl (rfl : am_z 1075 = 0) _ _ _
set_option maxRecDepth 50000 in
theorem q1075_69 (C : am_Ct) (x1 : Int32) (x2 : Int32) (x3 : Int32) (x4 : Value) (x5 : Value) (μ : am_Mem) : am_ev C 1075 69 [.ref 56, .int x1, .int x2, .int x3, x4, x5] [] μ = (am_ev C 1075 72 [.ref 56, .int x1, .int x2, .int x3, .int (am_c 0), x5] [] μ) := am_blk (b := [(.iconst 0, 1), (.istore 4, 2)]) rfl rfl (rfl : am_z 1075 = 0) _ _ _
set_option maxRecDepth 50000 in
theorem q1075_72 (C : am_Ct) (x1 : Int32) (x2 : Int32) (x3 : Int32) (x4 : Int32) (x5 : Value) (μ : am_Mem) : am_ev C 1075 72 [.ref 56, .int x1, .int x2, .int x3, .int x4, x5] [] μ = (am_bI (C 1005 [.ref 56, .int x2, .int (am_c 1)] μ) (fun r1 m1 => if r1 ≤ x4 then am_ev C 1075 162 [.ref 56, .int x1, .int x2, .int x3, .int x4, x5] [] m1 else am_ev C 1075 86 [.ref 56, .int x1, .int x2, .int x3, .int x4, .int (am_c 0)] [] m1)) := am_blk (b := [(.iload 4, 2), (.aload_n 0, 1), (.iload_n 2, 1), (.iconst 1, 1), (.invokevirtual 88, 3), (.if_icmp .ge 82, 3), (.iconst 0, 1), (.istore 5, 2)]) rfl rfl (rfl : am_z 1075 = 0) _ _ _
set_option maxRecDepth 50000 in
theorem q1075_86 (C : am_Ct) (x1 : Int32) (x2 : Int32) (x3 : Int32) (x4 : Int32) (x5 : Int32) (μ : am_Mem) : am_ev C 1075 86 [.ref 56, .int x1, .int x2, .int x3, .int x4, .int x5] [] μ = (am_bI (C 1005 [.ref 56, .int x3, .int (am_c 1)] μ) (fun r1 m1 => if r1 ≤ x5 then am_ev C 1075 156 [.ref 56, .int x1, .int x2, .int x3, .int x4, .int x5] [] m1 else am_bI (C 1074 [.ref 56, .int x2, .int x4, .int x3, .int x5] m1) (fun r2 m2 => if r2 = 0 then am_ev C 1075 150 [.ref 56, .int x1, .int x2, .int x3, .int x4, .int x5] [] m2 else am_ev C 1075 113 [.ref 56, .int x1, .int x2, .int x3, .int x4, .int x5] [] m2))) := am_blk (b := [(.iload 5, 2), (.aload_n 0, 1), (.iload_n 3, 1), (.iconst 1, 1), (.invokevirtual 88, 3), (.if_icmp .ge 62, 3), (.aload_n 0, 1), (.iload_n 2, 1), (.iload 4, 2), (.iload_n 3, 1), (.iload 5, 2), (.invokevirtual 308, 3), (.ifCond .ne 6, 3), (.goto 40, 3)]) rfl rfl (rfl : am_z 1075 = 0) _ _ _
set_option maxRecDepth 50000 in
theorem q1075_113 (C : am_Ct) (x1 : Int32) (x2 : Int32) (x3 : Int32) (x4 : Int32) (x5 : Int32) (μ : am_Mem) : am_ev C 1075 113 [.ref 56, .int x1, .int x2, .int x3, .int x4, .int x5] [] μ = (if x1 = 0 then am_ev C 1075 147 [.ref 56, .int x1, .int x2, .int x3, .int x4, .int x5] [] (am_up (am_up (am_up (am_up μ 72 0 x2) 72 1 x3) 72 2 x4) 72 3 x5) else am_ev C 1075 147 [.ref 56, .int x1, .int x2, .int x3, .int x4, .int x5] [] μ) := am_blk (b := [(.iload_n 1, 1), (.ifCond .ne 33, 3), (.aload_n 0, 1), (.getfield 61, 3), (.iconst 0, 1), (.iload_n 2, 1), (.iastore, 1), (.aload_n 0, 1), (.getfield 61, 3), (.iconst 1, 1), (.iload_n 3, 1), (.iastore, 1), (.aload_n 0, 1), (.getfield 61, 3), (.iconst 2, 1), (.iload 4, 2), (.iastore, 1), (.aload_n 0, 1), (.getfield 61, 3), (.iconst 3, 1), (.iload 5, 2), (.iastore, 1)]) rfl rfl (rfl : am_z 1075 = 0) _ _ _
set_option maxRecDepth 50000 in
theorem q1075_147 (C : am_Ct) (x1 : Int32) (x2 : Int32) (x3 : Int32) (x4 : Int32) (x5 : Int32) (μ : am_Mem) : am_ev C 1075 147 [.ref 56, .int x1, .int x2, .int x3, .int x4, .int x5] [] μ = (am_ev C 1075 150 [.ref 56, .int (x1 + (am_c 1)), .int x2, .int x3, .int x4, .int x5] [] μ) := am_blk (b := [(.iinc 1 1, 3)]) rfl rfl (rfl : am_z 1075 = 0) _ _ _
set_option maxRecDepth 50000 in
theorem q1075_150 (C : am_Ct) (x1 : Int32) (x2 : Int32) (x3 : Int32) (x4 : Int32) (x5 : Int32) (μ : am_Mem) : am_ev C 1075 150 [.ref 56, .int x1, .int x2, .int x3, .int x4, .int x5] [] μ = (am_ev C 1075 86 [.ref 56, .int x1, .int x2, .int x3, .int x4, .int (x5 + (am_c 1))] [] μ) := am_blk (b := [(.iinc 5 1, 3), (.goto (-67), 3)]) rfl rfl (rfl : am_z 1075 = 0) _ _ _
set_option maxRecDepth 50000 in
theorem q1075_156 (C : am_Ct) (x1 : Int32) (x2 : Int32) (x3 : Int32) (x4 : Int32) (x5 : Int32) (μ : am_Mem) : am_ev C 1075 156 [.ref 56, .int x1, .int x2, .int x3, .int x4, .int x5] [] μ = (am_ev C 1075 72 [.ref 56, .int x1, .int x2, .int x3, .int (x4 + (am_c 1)), .int x5] [] μ) := am_blk (b := [(.iinc 4 1, 3), (.goto (-87), 3)]) rfl rfl (rfl : am_z 1075 = 0) _ _ _
set_option maxRecDepth 50000 in
theorem q1075_162 (C : am_Ct) (x1 : Int32) (x2 : Int32) (x3 : Int32) (x4 : Value) (x5 : Value) (μ : am_Mem) : am_ev C 1075 162 [.ref 56, .int x1, .int x2, .int x3, x4, x5] [] μ = (am_ev C 1075 38 [.ref 56, .int x1, .int x2, .int (x3 + (am_c 1)), x4, x5] [] μ) := am_blk (b := [(.iinc 3 1, 3), (.goto (-127), 3)]) rfl rfl (rfl : am_z 1075 = 0) _ _ _
set_option maxRecDepth 50000 in
theorem q1075_168 (C : am_Ct) (x1 : Int32) (x2 : Int32) (x3 : Int32) (x4 : Value) (x5 : Value) (μ : am_Mem) : am_ev C 1075 168 [.ref 56, .int x1, .int x2, .int x3, x4, x5] [] μ = (am_ev C 1075 24 [.ref 56, .int x1, .int (x2 + (am_c 1)), .int x3, x4, x5] [] μ) := am_blk (b := [(.iinc 2 1, 3), (.goto (-147), 3)]) rfl rfl (rfl : am_z 1075 = 0) _ _ _
set_option maxRecDepth 50000 in
theorem q1075_174 (C : am_Ct) (x1 : Int32) (x2 : Int32) (x3 : Value) (x4 : Value) (x5 : Value) (μ : am_Mem) : am_ev C 1075 174 [.ref 56, .int x1, .int x2, x3, x4, x5] [] μ = (am_ret (some (.int x1)) μ) := am_blk (b := [(.iload_n 1, 1), (.ireturn, 1)]) rfl rfl (rfl : am_z 1075 = 0) _ _ _
theorem e1075 (d : Nat) (μ : am_Mem) : am_call (d + 1) 1075 [.ref 56] μ = am_ev (am_call d) 1075 0 [.ref 56, .null, .null, .null, .null, .null] [] μ := rfl
/-! NoWordTwiceModel.trade(I)I  -/
set_option maxRecDepth 50000 in
theorem q1076_0 (C : am_Ct) (x1 : Int32) (x2 : Value) (μ : am_Mem) : am_ev C 1076 0 [.ref 56, .int x1, x2] [] μ = (am_bI (C 1001 [.int x1, .int (am_c 0), .int (am_c 4)] μ) (fun r1 m1 => if r1 = 0 then am_ret (some (.int (am_c (-1)))) m1 else am_ev C 1076 11 [.ref 56, .int x1, x2] [] m1)) := am_blk (b := [(.iload_n 1, 1), (.iconst 0, 1), (.iconst 4, 1), (.invokestatic 64, 3), (.ifCond .ne 5, 3), (.iconst (-1), 1), (.ireturn, 1)]) rfl rfl (rfl : am_z 1076 = 0) _ _ _
set_option maxRecDepth 50000 in
theorem q1076_11 (C : am_Ct) (x1 : Int32) (x2 : Value) (μ : am_Mem) : am_ev C 1076 11 [.ref 56, .int x1, x2] [] μ = (am_bV (C 1059 [.ref 56] μ) (fun m1 => am_bI (C 1075 [.ref 56] m1) (fun r2 m2 => if x1 = 0 then am_ev C 1076 36 [.ref 56, .int x1, .int r2] [.int r2] m2 else am_ev C 1076 28 [.ref 56, .int x1, .int r2] [] m2))) := am_blk (b := [(.aload_n 0, 1), (.invokevirtual 279, 3), (.aload_n 0, 1), (.invokevirtual 311, 3), (.istore_n 2, 1), (.iload_n 1, 1), (.ifCond .ne 7, 3), (.iload_n 2, 1), (.goto 11, 3)]) rfl rfl (rfl : am_z 1076 = 0) _ _ _
set_option maxRecDepth 50000 in
theorem q1076_28 (C : am_Ct) (x1 : Int32) (x2 : Int32) (μ : am_Mem) : am_ev C 1076 28 [.ref 56, .int x1, .int x2] [] μ = (am_gb (Nat.blt (am_ix (x1 - (am_c 1))) 4) (am_ev C 1076 36 [.ref 56, .int x1, .int x2] [.int (μ 72 (am_ix (x1 - (am_c 1))))] μ)) := am_blk (b := [(.aload_n 0, 1), (.getfield 61, 3), (.iload_n 1, 1), (.iconst 1, 1), (.isub, 1), (.iaload, 1)]) rfl rfl (rfl : am_z 1076 = 0) _ _ _
set_option maxRecDepth 50000 in
theorem q1076_36 (C : am_Ct) (x1 : Int32) (x2 : Int32) (s0 : Int32) (μ : am_Mem) : am_ev C 1076 36 [.ref 56, .int x1, .int x2] [.int s0] μ = (am_ret (some (.int s0)) μ) := am_blk (b := [(.ireturn, 1)]) rfl rfl (rfl : am_z 1076 = 0) _ _ _
theorem e1076 (d : Nat) (x1 : Int32) (μ : am_Mem) : am_call (d + 1) 1076 [.ref 56, .int x1] μ = am_ev (am_call d) 1076 0 [.ref 56, .int x1, .null] [] μ := rfl
/-! NoWordTwiceModel.book(II)I  -/
set_option maxRecDepth 50000 in
theorem q1077_0 (C : am_Ct) (x1 : Int32) (x2 : Int32) (μ : am_Mem) : am_ev C 1077 0 [.ref 56, .int x1, .int x2] [] μ = (am_bI (C 1001 [.int x1, .int (am_c 0), .int ((μ 57 5) - (am_c 1))] μ) (fun r1 m1 => if r1 = 0 then am_ev C 1077 41 [.ref 56, .int x1, .int x2] [] m1 else am_bI (C 1001 [.int x2, .int (am_c 0), .int (am_c 3)] m1) (fun r2 m2 => if r2 = 0 then am_ev C 1077 41 [.ref 56, .int x1, .int x2] [] m2 else am_gb (Nat.blt (am_ix (((am_c 110) + ((am_c 4) * x1)) + x2)) 1320) (am_ev C 1077 42 [.ref 56, .int x1, .int x2] [.int (m2 57 (am_ix (((am_c 110) + ((am_c 4) * x1)) + x2)))] m2)))) := am_blk (b := [(.iload_n 1, 1), (.iconst 0, 1), (.aload_n 0, 1), (.getfield 7, 3), (.iconst 5, 1), (.iaload, 1), (.iconst 1, 1), (.isub, 1), (.invokestatic 64, 3), (.ifCond .eq 28, 3), (.iload_n 2, 1), (.iconst 0, 1), (.iconst 3, 1), (.invokestatic 64, 3), (.ifCond .eq 19, 3), (.aload_n 0, 1), (.getfield 7, 3), (.bipush 110, 2), (.iconst 4, 1), (.iload_n 1, 1), (.imul, 1), (.iadd, 1), (.iload_n 2, 1), (.iadd, 1), (.iaload, 1), (.goto 4, 3)]) rfl rfl (rfl : am_z 1077 = 0) _ _ _
set_option maxRecDepth 50000 in
theorem q1077_41 (C : am_Ct) (x1 : Int32) (x2 : Int32) (μ : am_Mem) : am_ev C 1077 41 [.ref 56, .int x1, .int x2] [] μ = (am_ev C 1077 42 [.ref 56, .int x1, .int x2] [.int (am_c (-1))] μ) := am_blk (b := [(.iconst (-1), 1)]) rfl rfl (rfl : am_z 1077 = 0) _ _ _
set_option maxRecDepth 50000 in
theorem q1077_42 (C : am_Ct) (x1 : Int32) (x2 : Int32) (s0 : Int32) (μ : am_Mem) : am_ev C 1077 42 [.ref 56, .int x1, .int x2] [.int s0] μ = (am_ret (some (.int s0)) μ) := am_blk (b := [(.ireturn, 1)]) rfl rfl (rfl : am_z 1077 = 0) _ _ _
theorem e1077 (d : Nat) (x1 : Int32) (x2 : Int32) (μ : am_Mem) : am_call (d + 1) 1077 [.ref 56, .int x1, .int x2] μ = am_ev (am_call d) 1077 0 [.ref 56, .int x1, .int x2] [] μ := rfl
/-! NoWordTwiceModel.image(Z)Z  -/
set_option maxRecDepth 50000 in
theorem q1078_0 (C : am_Ct) (x1 : Int32) (x2 : Value) (μ : am_Mem) : am_ev C 1078 0 [.ref 56, .int x1, x2] [] μ = (if x1 = 0 then if (μ 56 4) = 0 then am_ret (some (.int (am_c 0))) μ else am_ev C 1078 13 [.ref 56, .int x1, x2] [] μ else am_ev C 1078 13 [.ref 56, .int x1, x2] [] μ) := am_blk (b := [(.iload_n 1, 1), (.ifCond .ne 12, 3), (.aload_n 0, 1), (.getfield 314, 3), (.ifCond .ne 5, 3), (.iconst 0, 1), (.ireturn, 1)]) rfl rfl (rfl : am_z 1078 = 2) _ _ _
set_option maxRecDepth 50000 in
theorem q1078_13 (C : am_Ct) (x1 : Int32) (x2 : Value) (μ : am_Mem) : am_ev C 1078 13 [.ref 56, .int x1, x2] [] μ = (am_ev C 1078 15 [.ref 56, .int x1, .int (am_c 0)] [] μ) := am_blk (b := [(.iconst 0, 1), (.istore_n 2, 1)]) rfl rfl (rfl : am_z 1078 = 2) _ _ _
set_option maxRecDepth 50000 in
theorem q1078_15 (C : am_Ct) (x1 : Int32) (x2 : Int32) (μ : am_Mem) : am_ev C 1078 15 [.ref 56, .int x1, .int x2] [] μ = (if (am_c 1320) ≤ x2 then am_ev C 1078 59 [.ref 56, .int x1, .int x2] [] μ else if x1 = 0 then am_ev C 1078 41 [.ref 56, .int x1, .int x2] [] μ else am_gb (Nat.blt (am_ix x2) 1320) (am_gb (Nat.blt (am_ix x2) 1320) (am_ev C 1078 53 [.ref 56, .int x1, .int x2] [] (am_up μ 58 (am_ix x2) (μ 57 (am_ix x2)))))) := am_blk (b := [(.iload_n 2, 1), (.sipush 1320, 3), (.if_icmp .ge 40, 3), (.iload_n 1, 1), (.ifCond .eq 18, 3), (.aload_n 0, 1), (.getfield 13, 3), (.iload_n 2, 1), (.aload_n 0, 1), (.getfield 7, 3), (.iload_n 2, 1), (.iaload, 1), (.iastore, 1), (.goto 15, 3)]) rfl rfl (rfl : am_z 1078 = 2) _ _ _
set_option maxRecDepth 50000 in
theorem q1078_41 (C : am_Ct) (x1 : Int32) (x2 : Int32) (μ : am_Mem) : am_ev C 1078 41 [.ref 56, .int x1, .int x2] [] μ = (am_gb (Nat.blt (am_ix x2) 1320) (am_gb (Nat.blt (am_ix x2) 1320) (am_ev C 1078 53 [.ref 56, .int x1, .int x2] [] (am_up μ 57 (am_ix x2) (μ 58 (am_ix x2)))))) := am_blk (b := [(.aload_n 0, 1), (.getfield 7, 3), (.iload_n 2, 1), (.aload_n 0, 1), (.getfield 13, 3), (.iload_n 2, 1), (.iaload, 1), (.iastore, 1)]) rfl rfl (rfl : am_z 1078 = 2) _ _ _
set_option maxRecDepth 50000 in
theorem q1078_53 (C : am_Ct) (x1 : Int32) (x2 : Int32) (μ : am_Mem) : am_ev C 1078 53 [.ref 56, .int x1, .int x2] [] μ = (am_ev C 1078 15 [.ref 56, .int x1, .int (x2 + (am_c 1))] [] μ) := am_blk (b := [(.iinc 2 1, 3), (.goto (-41), 3)]) rfl rfl (rfl : am_z 1078 = 2) _ _ _
set_option maxRecDepth 50000 in
theorem q1078_59 (C : am_Ct) (x1 : Int32) (x2 : Int32) (μ : am_Mem) : am_ev C 1078 59 [.ref 56, .int x1, .int x2] [] μ = (if x1 = 0 then am_bV (C 1008 [.ref 56] μ) (fun m1 => am_ev C 1078 67 [.ref 56, .int x1, .int x2] [] m1) else am_ev C 1078 67 [.ref 56, .int x1, .int x2] [] μ) := am_blk (b := [(.iload_n 1, 1), (.ifCond .ne 7, 3), (.aload_n 0, 1), (.invokevirtual 71, 3)]) rfl rfl (rfl : am_z 1078 = 2) _ _ _
set_option maxRecDepth 50000 in
theorem q1078_67 (C : am_Ct) (x1 : Int32) (x2 : Int32) (μ : am_Mem) : am_ev C 1078 67 [.ref 56, .int x1, .int x2] [] μ = (am_ret (some (.int (am_c 1))) (am_up μ 56 4 (am_c 1))) := am_blk (b := [(.aload_n 0, 1), (.iconst 1, 1), (.putfield 314, 3), (.iconst 1, 1), (.ireturn, 1)]) rfl rfl (rfl : am_z 1078 = 2) _ _ _
theorem e1078 (d : Nat) (x1 : Int32) (μ : am_Mem) : am_call (d + 1) 1078 [.ref 56, .int x1] μ = am_ev (am_call d) 1078 0 [.ref 56, .int x1, .null] [] μ := rfl
/-! NoWordTwiceModel.look(I)I  -/
set_option maxRecDepth 50000 in
theorem q1079_0 (C : am_Ct) (x1 : Int32) (μ : am_Mem) : am_ev C 1079 0 [.ref 56, .int x1] [] μ = (am_bI (C 1001 [.int x1, .int (am_c 0), .int (am_c 6)] μ) (fun r1 m1 => if r1 = 0 then am_ev C 1079 17 [.ref 56, .int x1] [] m1 else am_gb (Nat.blt (am_ix x1) 1320) (am_ret (some (.int (m1 57 (am_ix x1)))) m1))) := am_blk (b := [(.iload_n 1, 1), (.iconst 0, 1), (.bipush 6, 2), (.invokestatic 64, 3), (.ifCond .eq 10, 3), (.aload_n 0, 1), (.getfield 7, 3), (.iload_n 1, 1), (.iaload, 1), (.ireturn, 1)]) rfl rfl (rfl : am_z 1079 = 0) _ _ _
set_option maxRecDepth 50000 in
theorem q1079_17 (C : am_Ct) (x1 : Int32) (μ : am_Mem) : am_ev C 1079 17 [.ref 56, .int x1] [] μ = (if x1 = (am_c 7) then am_ev C 1079 48 [.ref 56, .int x1] [.int (μ 57 435)] μ else am_ev C 1079 34 [.ref 56, .int x1] [] μ) := am_blk (b := [(.iload_n 1, 1), (.bipush 7, 2), (.if_icmp .ne 14, 3), (.aload_n 0, 1), (.getfield 7, 3), (.sipush 435, 3), (.iaload, 1), (.goto 17, 3)]) rfl rfl (rfl : am_z 1079 = 0) _ _ _
set_option maxRecDepth 50000 in
theorem q1079_34 (C : am_Ct) (x1 : Int32) (μ : am_Mem) : am_ev C 1079 34 [.ref 56, .int x1] [] μ = (if x1 = (am_c 8) then am_ev C 1079 48 [.ref 56, .int x1] [.int (μ 56 3)] μ else am_ev C 1079 47 [.ref 56, .int x1] [] μ) := am_blk (b := [(.iload_n 1, 1), (.bipush 8, 2), (.if_icmp .ne 10, 3), (.aload_n 0, 1), (.getfield 68, 3), (.goto 4, 3)]) rfl rfl (rfl : am_z 1079 = 0) _ _ _
set_option maxRecDepth 50000 in
theorem q1079_47 (C : am_Ct) (x1 : Int32) (μ : am_Mem) : am_ev C 1079 47 [.ref 56, .int x1] [] μ = (am_ev C 1079 48 [.ref 56, .int x1] [.int (am_c (-1))] μ) := am_blk (b := [(.iconst (-1), 1)]) rfl rfl (rfl : am_z 1079 = 0) _ _ _
set_option maxRecDepth 50000 in
theorem q1079_48 (C : am_Ct) (x1 : Int32) (s0 : Int32) (μ : am_Mem) : am_ev C 1079 48 [.ref 56, .int x1] [.int s0] μ = (am_ret (some (.int s0)) μ) := am_blk (b := [(.ireturn, 1)]) rfl rfl (rfl : am_z 1079 = 0) _ _ _
theorem e1079 (d : Nat) (x1 : Int32) (μ : am_Mem) : am_call (d + 1) 1079 [.ref 56, .int x1] μ = am_ev (am_call d) 1079 0 [.ref 56, .int x1] [] μ := rfl
end
section
/-! NoWordTwiceLaw.law([I)Z  -/
set_option maxRecDepth 50000 in
theorem q1100_18 (C : am_Ct) (x3 : Int32) (μ : am_Mem) : am_ev C 1100 18 [.ref 999, .ref 0, .ref 56, .int x3] [] μ = (if ((μ 998 0) - (am_c 6)) < x3 then am_ev C 1100 919 [.ref 999, .ref 0, .ref 56, .int x3] [] μ else am_gb (Nat.blt (am_ix x3) (am_ix (μ 998 0))) (if ((μ 999 (am_ix x3)) &&& (am_c 31)) = (am_c 0) then am_ev C 1100 156 [.ref 999, .ref 0, .ref 56, .int x3] [] μ else if ((μ 999 (am_ix x3)) &&& (am_c 31)) = (am_c 1) then am_ev C 1100 179 [.ref 999, .ref 0, .ref 56, .int x3] [] μ else if ((μ 999 (am_ix x3)) &&& (am_c 31)) = (am_c 2) then am_ev C 1100 202 [.ref 999, .ref 0, .ref 56, .int x3] [] μ else if ((μ 999 (am_ix x3)) &&& (am_c 31)) = (am_c 3) then am_ev C 1100 245 [.ref 999, .ref 0, .ref 56, .int x3] [] μ else if ((μ 999 (am_ix x3)) &&& (am_c 31)) = (am_c 4) then am_ev C 1100 298 [.ref 999, .ref 0, .ref 56, .int x3] [] μ else if ((μ 999 (am_ix x3)) &&& (am_c 31)) = (am_c 5) then am_ev C 1100 321 [.ref 999, .ref 0, .ref 56, .int x3] [] μ else if ((μ 999 (am_ix x3)) &&& (am_c 31)) = (am_c 6) then am_ev C 1100 354 [.ref 999, .ref 0, .ref 56, .int x3] [] μ else if ((μ 999 (am_ix x3)) &&& (am_c 31)) = (am_c 7) then am_ev C 1100 417 [.ref 999, .ref 0, .ref 56, .int x3] [] μ else if ((μ 999 (am_ix x3)) &&& (am_c 31)) = (am_c 8) then am_ev C 1100 440 [.ref 999, .ref 0, .ref 56, .int x3] [] μ else if ((μ 999 (am_ix x3)) &&& (am_c 31)) = (am_c 9) then am_ev C 1100 453 [.ref 999, .ref 0, .ref 56, .int x3] [] μ else if ((μ 999 (am_ix x3)) &&& (am_c 31)) = (am_c 10) then am_ev C 1100 476 [.ref 999, .ref 0, .ref 56, .int x3] [] μ else if ((μ 999 (am_ix x3)) &&& (am_c 31)) = (am_c 11) then am_ev C 1100 499 [.ref 999, .ref 0, .ref 56, .int x3] [] μ else if ((μ 999 (am_ix x3)) &&& (am_c 31)) = (am_c 12) then am_ev C 1100 532 [.ref 999, .ref 0, .ref 56, .int x3] [] μ else if ((μ 999 (am_ix x3)) &&& (am_c 31)) = (am_c 13) then am_ev C 1100 565 [.ref 999, .ref 0, .ref 56, .int x3] [] μ else if ((μ 999 (am_ix x3)) &&& (am_c 31)) = (am_c 14) then am_ev C 1100 598 [.ref 999, .ref 0, .ref 56, .int x3] [] μ else if ((μ 999 (am_ix x3)) &&& (am_c 31)) = (am_c 15) then am_ev C 1100 621 [.ref 999, .ref 0, .ref 56, .int x3] [] μ else if ((μ 999 (am_ix x3)) &&& (am_c 31)) = (am_c 16) then am_ev C 1100 654 [.ref 999, .ref 0, .ref 56, .int x3] [] μ else if ((μ 999 (am_ix x3)) &&& (am_c 31)) = (am_c 17) then am_ev C 1100 677 [.ref 999, .ref 0, .ref 56, .int x3] [] μ else if ((μ 999 (am_ix x3)) &&& (am_c 31)) = (am_c 18) then am_ev C 1100 690 [.ref 999, .ref 0, .ref 56, .int x3] [] μ else if ((μ 999 (am_ix x3)) &&& (am_c 31)) = (am_c 19) then am_ev C 1100 703 [.ref 999, .ref 0, .ref 56, .int x3] [] μ else if ((μ 999 (am_ix x3)) &&& (am_c 31)) = (am_c 20) then am_ev C 1100 716 [.ref 999, .ref 0, .ref 56, .int x3] [] μ else if ((μ 999 (am_ix x3)) &&& (am_c 31)) = (am_c 21) then am_ev C 1100 749 [.ref 999, .ref 0, .ref 56, .int x3] [] μ else if ((μ 999 (am_ix x3)) &&& (am_c 31)) = (am_c 22) then am_ev C 1100 782 [.ref 999, .ref 0, .ref 56, .int x3] [] μ else if ((μ 999 (am_ix x3)) &&& (am_c 31)) = (am_c 23) then am_ev C 1100 805 [.ref 999, .ref 0, .ref 56, .int x3] [] μ else if ((μ 999 (am_ix x3)) &&& (am_c 31)) = (am_c 24) then am_ev C 1100 838 [.ref 999, .ref 0, .ref 56, .int x3] [] μ else if ((μ 999 (am_ix x3)) &&& (am_c 31)) = (am_c 25) then am_ev C 1100 851 [.ref 999, .ref 0, .ref 56, .int x3] [] μ else if ((μ 999 (am_ix x3)) &&& (am_c 31)) = (am_c 26) then am_ev C 1100 890 [.ref 999, .ref 0, .ref 56, .int x3] [] μ else am_ev C 1100 913 [.ref 999, .ref 0, .ref 56, .int x3] [] μ)) := am_blk (b := [(.iload_n 3, 1), (.aload_n 0, 1), (.arraylength, 1), (.bipush 6, 2), (.isub, 1), (.if_icmp .gt 895, 3), (.aload_n 0, 1), (.iload_n 3, 1), (.iaload, 1), (.bipush 31, 2), (.iand, 1), (.tableswitch 880 0 26 #[123, 146, 169, 212, 265, 288, 321, 384, 407, 420, 443, 466, 499, 532, 565, 588, 621, 644, 657, 670, 683, 716, 749, 772, 805, 818, 857], 123)]) rfl rfl (rfl : am_z 1100 = 2) _ _ _
set_option maxRecDepth 50000 in
theorem q1100_156 (C : am_Ct) (x3 : Int32) (μ : am_Mem) : am_ev C 1100 156 [.ref 999, .ref 0, .ref 56, .int x3] [] μ = (am_gb (Nat.blt (am_ix (x3 + (am_c 1))) (am_ix (μ 998 0))) (am_bI (C 901 [.ref 0, .int (μ 999 (am_ix (x3 + (am_c 1))))] μ) (fun r1 m1 => am_gb (Nat.blt (am_ix (x3 + (am_c 1))) (am_ix (m1 998 0))) (am_bI (C 1009 [.ref 56, .int (m1 999 (am_ix (x3 + (am_c 1))))] m1) (fun r2 m2 => if r1 = r2 then am_ev C 1100 913 [.ref 999, .ref 0, .ref 56, .int x3] [] m2 else am_ret (some (.int (am_c 0))) m2))))) := am_blk (b := [(.aload_n 1, 1), (.aload_n 0, 1), (.iload_n 3, 1), (.iconst 1, 1), (.iadd, 1), (.iaload, 1), (.invokevirtual 13, 3), (.aload_n 2, 1), (.aload_n 0, 1), (.iload_n 3, 1), (.iconst 1, 1), (.iadd, 1), (.iaload, 1), (.invokevirtual 17, 3), (.if_icmp .eq 739, 3), (.iconst 0, 1), (.ireturn, 1)]) rfl rfl (rfl : am_z 1100 = 2) _ _ _
set_option maxRecDepth 50000 in
theorem q1100_179 (C : am_Ct) (x3 : Int32) (μ : am_Mem) : am_ev C 1100 179 [.ref 999, .ref 0, .ref 56, .int x3] [] μ = (am_gb (Nat.blt (am_ix (x3 + (am_c 1))) (am_ix (μ 998 0))) (am_bI (C 902 [.ref 0, .int (μ 999 (am_ix (x3 + (am_c 1))))] μ) (fun r1 m1 => am_gb (Nat.blt (am_ix (x3 + (am_c 1))) (am_ix (m1 998 0))) (am_bI (C 1011 [.ref 56, .int (m1 999 (am_ix (x3 + (am_c 1))))] m1) (fun r2 m2 => if r1 = r2 then am_ev C 1100 913 [.ref 999, .ref 0, .ref 56, .int x3] [] m2 else am_ret (some (.int (am_c 0))) m2))))) := am_blk (b := [(.aload_n 1, 1), (.aload_n 0, 1), (.iload_n 3, 1), (.iconst 1, 1), (.iadd, 1), (.iaload, 1), (.invokevirtual 18, 3), (.aload_n 2, 1), (.aload_n 0, 1), (.iload_n 3, 1), (.iconst 1, 1), (.iadd, 1), (.iaload, 1), (.invokevirtual 21, 3), (.if_icmp .eq 716, 3), (.iconst 0, 1), (.ireturn, 1)]) rfl rfl (rfl : am_z 1100 = 2) _ _ _
set_option maxRecDepth 50000 in
theorem q1100_202 (C : am_Ct) (x3 : Int32) (μ : am_Mem) : am_ev C 1100 202 [.ref 999, .ref 0, .ref 56, .int x3] [] μ = (am_gb (Nat.blt (am_ix (x3 + (am_c 1))) (am_ix (μ 998 0))) (am_gb (Nat.blt (am_ix (x3 + (am_c 2))) (am_ix (μ 998 0))) (am_gb (Nat.blt (am_ix (x3 + (am_c 3))) (am_ix (μ 998 0))) (am_bI (C 903 [.ref 0, .int (μ 999 (am_ix (x3 + (am_c 1)))), .int (μ 999 (am_ix (x3 + (am_c 2)))), .int (μ 999 (am_ix (x3 + (am_c 3))))] μ) (fun r1 m1 => am_gb (Nat.blt (am_ix (x3 + (am_c 1))) (am_ix (m1 998 0))) (am_gb (Nat.blt (am_ix (x3 + (am_c 2))) (am_ix (m1 998 0))) (am_gb (Nat.blt (am_ix (x3 + (am_c 3))) (am_ix (m1 998 0))) (am_bI (C 1012 [.ref 56, .int (m1 999 (am_ix (x3 + (am_c 1)))), .int (m1 999 (am_ix (x3 + (am_c 2)))), .int (m1 999 (am_ix (x3 + (am_c 3))))] m1) (fun r2 m2 => if r1 = r2 then am_ev C 1100 913 [.ref 999, .ref 0, .ref 56, .int x3] [] m2 else am_ret (some (.int (am_c 0))) m2))))))))) := am_blk (b := [(.aload_n 1, 1), (.aload_n 0, 1), (.iload_n 3, 1), (.iconst 1, 1), (.iadd, 1), (.iaload, 1), (.aload_n 0, 1), (.iload_n 3, 1), (.iconst 2, 1), (.iadd, 1), (.iaload, 1), (.aload_n 0, 1), (.iload_n 3, 1), (.iconst 3, 1), (.iadd, 1), (.iaload, 1), (.invokevirtual 22, 3), (.aload_n 2, 1), (.aload_n 0, 1), (.iload_n 3, 1), (.iconst 1, 1), (.iadd, 1), (.iaload, 1), (.aload_n 0, 1), (.iload_n 3, 1), (.iconst 2, 1), (.iadd, 1), (.iaload, 1), (.aload_n 0, 1), (.iload_n 3, 1), (.iconst 3, 1), (.iadd, 1), (.iaload, 1), (.invokevirtual 26, 3), (.if_icmp .eq 673, 3), (.iconst 0, 1), (.ireturn, 1)]) rfl rfl (rfl : am_z 1100 = 2) _ _ _
set_option maxRecDepth 50000 in
theorem q1100_245 (C : am_Ct) (x3 : Int32) (μ : am_Mem) : am_ev C 1100 245 [.ref 999, .ref 0, .ref 56, .int x3] [] μ = (am_gb (Nat.blt (am_ix (x3 + (am_c 1))) (am_ix (μ 998 0))) (am_gb (Nat.blt (am_ix (x3 + (am_c 2))) (am_ix (μ 998 0))) (am_gb (Nat.blt (am_ix (x3 + (am_c 3))) (am_ix (μ 998 0))) (am_gb (Nat.blt (am_ix (x3 + (am_c 4))) (am_ix (μ 998 0))) (am_bI (C 904 [.ref 0, .int (μ 999 (am_ix (x3 + (am_c 1)))), .int (μ 999 (am_ix (x3 + (am_c 2)))), .int (μ 999 (am_ix (x3 + (am_c 3)))), .int (μ 999 (am_ix (x3 + (am_c 4))))] μ) (fun r1 m1 => am_gb (Nat.blt (am_ix (x3 + (am_c 1))) (am_ix (m1 998 0))) (am_gb (Nat.blt (am_ix (x3 + (am_c 2))) (am_ix (m1 998 0))) (am_gb (Nat.blt (am_ix (x3 + (am_c 3))) (am_ix (m1 998 0))) (am_gb (Nat.blt (am_ix (x3 + (am_c 4))) (am_ix (m1 998 0))) (am_bI (C 1014 [.ref 56, .int (m1 999 (am_ix (x3 + (am_c 1)))), .int (m1 999 (am_ix (x3 + (am_c 2)))), .int (m1 999 (am_ix (x3 + (am_c 3)))), .int (m1 999 (am_ix (x3 + (am_c 4))))] m1) (fun r2 m2 => if r1 = r2 then am_ev C 1100 913 [.ref 999, .ref 0, .ref 56, .int x3] [] m2 else am_ret (some (.int (am_c 0))) m2))))))))))) := am_blk (b := [(.aload_n 1, 1), (.aload_n 0, 1), (.iload_n 3, 1), (.iconst 1, 1), (.iadd, 1), (.iaload, 1), (.aload_n 0, 1), (.iload_n 3, 1), (.iconst 2, 1), (.iadd, 1), (.iaload, 1), (.aload_n 0, 1), (.iload_n 3, 1), (.iconst 3, 1), (.iadd, 1), (.iaload, 1), (.aload_n 0, 1), (.iload_n 3, 1), (.iconst 4, 1), (.iadd, 1), (.iaload, 1), (.invokevirtual 27, 3), (.aload_n 2, 1), (.aload_n 0, 1), (.iload_n 3, 1), (.iconst 1, 1), (.iadd, 1), (.iaload, 1), (.aload_n 0, 1), (.iload_n 3, 1), (.iconst 2, 1), (.iadd, 1), (.iaload, 1), (.aload_n 0, 1), (.iload_n 3, 1), (.iconst 3, 1), (.iadd, 1), (.iaload, 1), (.aload_n 0, 1), (.iload_n 3, 1), (.iconst 4, 1), (.iadd, 1), (.iaload, 1), (.invokevirtual 31, 3), (.if_icmp .eq 620, 3), (.iconst 0, 1), (.ireturn, 1)]) rfl rfl (rfl : am_z 1100 = 2) _ _ _
set_option maxRecDepth 50000 in
theorem q1100_298 (C : am_Ct) (x3 : Int32) (μ : am_Mem) : am_ev C 1100 298 [.ref 999, .ref 0, .ref 56, .int x3] [] μ = (am_gb (Nat.blt (am_ix (x3 + (am_c 1))) (am_ix (μ 998 0))) (am_bI (C 905 [.ref 0, .int (μ 999 (am_ix (x3 + (am_c 1))))] μ) (fun r1 m1 => am_gb (Nat.blt (am_ix (x3 + (am_c 1))) (am_ix (m1 998 0))) (am_bI (C 1016 [.ref 56, .int (m1 999 (am_ix (x3 + (am_c 1))))] m1) (fun r2 m2 => if r1 = r2 then am_ev C 1100 913 [.ref 999, .ref 0, .ref 56, .int x3] [] m2 else am_ret (some (.int (am_c 0))) m2))))) := am_blk (b := [(.aload_n 1, 1), (.aload_n 0, 1), (.iload_n 3, 1), (.iconst 1, 1), (.iadd, 1), (.iaload, 1), (.invokevirtual 32, 3), (.aload_n 2, 1), (.aload_n 0, 1), (.iload_n 3, 1), (.iconst 1, 1), (.iadd, 1), (.iaload, 1), (.invokevirtual 36, 3), (.if_icmp .eq 597, 3), (.iconst 0, 1), (.ireturn, 1)]) rfl rfl (rfl : am_z 1100 = 2) _ _ _
set_option maxRecDepth 50000 in
theorem q1100_321 (C : am_Ct) (x3 : Int32) (μ : am_Mem) : am_ev C 1100 321 [.ref 999, .ref 0, .ref 56, .int x3] [] μ = (am_gb (Nat.blt (am_ix (x3 + (am_c 1))) (am_ix (μ 998 0))) (am_gb (Nat.blt (am_ix (x3 + (am_c 2))) (am_ix (μ 998 0))) (am_bI (C 906 [.ref 0, .int (μ 999 (am_ix (x3 + (am_c 1)))), .int (μ 999 (am_ix (x3 + (am_c 2))))] μ) (fun r1 m1 => am_gb (Nat.blt (am_ix (x3 + (am_c 1))) (am_ix (m1 998 0))) (am_gb (Nat.blt (am_ix (x3 + (am_c 2))) (am_ix (m1 998 0))) (am_bI (C 1017 [.ref 56, .int (m1 999 (am_ix (x3 + (am_c 1)))), .int (m1 999 (am_ix (x3 + (am_c 2))))] m1) (fun r2 m2 => if r1 = r2 then am_ev C 1100 913 [.ref 999, .ref 0, .ref 56, .int x3] [] m2 else am_ret (some (.int (am_c 0))) m2))))))) := am_blk (b := [(.aload_n 1, 1), (.aload_n 0, 1), (.iload_n 3, 1), (.iconst 1, 1), (.iadd, 1), (.iaload, 1), (.aload_n 0, 1), (.iload_n 3, 1), (.iconst 2, 1), (.iadd, 1), (.iaload, 1), (.invokevirtual 37, 3), (.aload_n 2, 1), (.aload_n 0, 1), (.iload_n 3, 1), (.iconst 1, 1), (.iadd, 1), (.iaload, 1), (.aload_n 0, 1), (.iload_n 3, 1), (.iconst 2, 1), (.iadd, 1), (.iaload, 1), (.invokevirtual 41, 3), (.if_icmp .eq 564, 3), (.iconst 0, 1), (.ireturn, 1)]) rfl rfl (rfl : am_z 1100 = 2) _ _ _
set_option maxRecDepth 50000 in
theorem q1100_354 (C : am_Ct) (x3 : Int32) (μ : am_Mem) : am_ev C 1100 354 [.ref 999, .ref 0, .ref 56, .int x3] [] μ = (am_gb (Nat.blt (am_ix (x3 + (am_c 1))) (am_ix (μ 998 0))) (am_gb (Nat.blt (am_ix (x3 + (am_c 2))) (am_ix (μ 998 0))) (am_gb (Nat.blt (am_ix (x3 + (am_c 3))) (am_ix (μ 998 0))) (am_gb (Nat.blt (am_ix (x3 + (am_c 4))) (am_ix (μ 998 0))) (am_gb (Nat.blt (am_ix (x3 + (am_c 5))) (am_ix (μ 998 0))) (am_bI (C 907 [.ref 0, .int (μ 999 (am_ix (x3 + (am_c 1)))), .int (μ 999 (am_ix (x3 + (am_c 2)))), .int (μ 999 (am_ix (x3 + (am_c 3)))), .int (μ 999 (am_ix (x3 + (am_c 4)))), .int (μ 999 (am_ix (x3 + (am_c 5))))] μ) (fun r1 m1 => am_gb (Nat.blt (am_ix (x3 + (am_c 1))) (am_ix (m1 998 0))) (am_gb (Nat.blt (am_ix (x3 + (am_c 2))) (am_ix (m1 998 0))) (am_gb (Nat.blt (am_ix (x3 + (am_c 3))) (am_ix (m1 998 0))) (am_gb (Nat.blt (am_ix (x3 + (am_c 4))) (am_ix (m1 998 0))) (am_gb (Nat.blt (am_ix (x3 + (am_c 5))) (am_ix (m1 998 0))) (am_bI (C 1018 [.ref 56, .int (m1 999 (am_ix (x3 + (am_c 1)))), .int (m1 999 (am_ix (x3 + (am_c 2)))), .int (m1 999 (am_ix (x3 + (am_c 3)))), .int (m1 999 (am_ix (x3 + (am_c 4)))), .int (m1 999 (am_ix (x3 + (am_c 5))))] m1) (fun r2 m2 => if r1 = r2 then am_ev C 1100 913 [.ref 999, .ref 0, .ref 56, .int x3] [] m2 else am_ret (some (.int (am_c 0))) m2))))))))))))) := am_blk (b := [(.aload_n 1, 1), (.aload_n 0, 1), (.iload_n 3, 1), (.iconst 1, 1), (.iadd, 1), (.iaload, 1), (.aload_n 0, 1), (.iload_n 3, 1), (.iconst 2, 1), (.iadd, 1), (.iaload, 1), (.aload_n 0, 1), (.iload_n 3, 1), (.iconst 3, 1), (.iadd, 1), (.iaload, 1), (.aload_n 0, 1), (.iload_n 3, 1), (.iconst 4, 1), (.iadd, 1), (.iaload, 1), (.aload_n 0, 1), (.iload_n 3, 1), (.iconst 5, 1), (.iadd, 1), (.iaload, 1), (.invokevirtual 42, 3), (.aload_n 2, 1), (.aload_n 0, 1), (.iload_n 3, 1), (.iconst 1, 1), (.iadd, 1), (.iaload, 1), (.aload_n 0, 1), (.iload_n 3, 1), (.iconst 2, 1), (.iadd, 1), (.iaload, 1), (.aload_n 0, 1), (.iload_n 3, 1), (.iconst 3, 1), (.iadd, 1), (.iaload, 1), (.aload_n 0, 1), (.iload_n 3, 1), (.iconst 4, 1), (.iadd, 1), (.iaload, 1), (.aload_n 0, 1), (.iload_n 3, 1), (.iconst 5, 1), (.iadd, 1), (.iaload, 1), (.invokevirtual 46, 3), (.if_icmp .eq 501, 3), (.iconst 0, 1), (.ireturn, 1)]) rfl rfl (rfl : am_z 1100 = 2) _ _ _
set_option maxRecDepth 50000 in
theorem q1100_417 (C : am_Ct) (x3 : Int32) (μ : am_Mem) : am_ev C 1100 417 [.ref 999, .ref 0, .ref 56, .int x3] [] μ = (am_gb (Nat.blt (am_ix (x3 + (am_c 1))) (am_ix (μ 998 0))) (am_bI (C 908 [.ref 0, .int (μ 999 (am_ix (x3 + (am_c 1))))] μ) (fun r1 m1 => am_gb (Nat.blt (am_ix (x3 + (am_c 1))) (am_ix (m1 998 0))) (am_bI (C 1019 [.ref 56, .int (m1 999 (am_ix (x3 + (am_c 1))))] m1) (fun r2 m2 => if r1 = r2 then am_ev C 1100 913 [.ref 999, .ref 0, .ref 56, .int x3] [] m2 else am_ret (some (.int (am_c 0))) m2))))) := am_blk (b := [(.aload_n 1, 1), (.aload_n 0, 1), (.iload_n 3, 1), (.iconst 1, 1), (.iadd, 1), (.iaload, 1), (.invokevirtual 47, 3), (.aload_n 2, 1), (.aload_n 0, 1), (.iload_n 3, 1), (.iconst 1, 1), (.iadd, 1), (.iaload, 1), (.invokevirtual 50, 3), (.if_icmp .eq 478, 3), (.iconst 0, 1), (.ireturn, 1)]) rfl rfl (rfl : am_z 1100 = 2) _ _ _
set_option maxRecDepth 50000 in
theorem q1100_440 (C : am_Ct) (x3 : Int32) (μ : am_Mem) : am_ev C 1100 440 [.ref 999, .ref 0, .ref 56, .int x3] [] μ = (am_bI (C 909 [.ref 0] μ) (fun r1 m1 => am_bI (C 1038 [.ref 56] m1) (fun r2 m2 => if r1 = r2 then am_ev C 1100 913 [.ref 999, .ref 0, .ref 56, .int x3] [] m2 else am_ret (some (.int (am_c 0))) m2))) := am_blk (b := [(.aload_n 1, 1), (.invokevirtual 51, 3), (.aload_n 2, 1), (.invokevirtual 55, 3), (.if_icmp .eq 465, 3), (.iconst 0, 1), (.ireturn, 1)]) rfl rfl (rfl : am_z 1100 = 2) _ _ _
set_option maxRecDepth 50000 in
theorem q1100_453 (C : am_Ct) (x3 : Int32) (μ : am_Mem) : am_ev C 1100 453 [.ref 999, .ref 0, .ref 56, .int x3] [] μ = (am_gb (Nat.blt (am_ix (x3 + (am_c 1))) (am_ix (μ 998 0))) (am_bI (C 910 [.ref 0, .int (μ 999 (am_ix (x3 + (am_c 1))))] μ) (fun r1 m1 => am_gb (Nat.blt (am_ix (x3 + (am_c 1))) (am_ix (m1 998 0))) (am_bI (C 1039 [.ref 56, .int (m1 999 (am_ix (x3 + (am_c 1))))] m1) (fun r2 m2 => if r1 = r2 then am_ev C 1100 913 [.ref 999, .ref 0, .ref 56, .int x3] [] m2 else am_ret (some (.int (am_c 0))) m2))))) := am_blk (b := [(.aload_n 1, 1), (.aload_n 0, 1), (.iload_n 3, 1), (.iconst 1, 1), (.iadd, 1), (.iaload, 1), (.invokevirtual 56, 3), (.aload_n 2, 1), (.aload_n 0, 1), (.iload_n 3, 1), (.iconst 1, 1), (.iadd, 1), (.iaload, 1), (.invokevirtual 59, 3), (.if_icmp .eq 442, 3), (.iconst 0, 1), (.ireturn, 1)]) rfl rfl (rfl : am_z 1100 = 2) _ _ _
set_option maxRecDepth 50000 in
theorem q1100_476 (C : am_Ct) (x3 : Int32) (μ : am_Mem) : am_ev C 1100 476 [.ref 999, .ref 0, .ref 56, .int x3] [] μ = (am_gb (Nat.blt (am_ix (x3 + (am_c 1))) (am_ix (μ 998 0))) (am_bI (C 911 [.ref 0, .int (μ 999 (am_ix (x3 + (am_c 1))))] μ) (fun r1 m1 => am_gb (Nat.blt (am_ix (x3 + (am_c 1))) (am_ix (m1 998 0))) (am_bI (C 1052 [.ref 56, .int (m1 999 (am_ix (x3 + (am_c 1))))] m1) (fun r2 m2 => if r1 = r2 then am_ev C 1100 913 [.ref 999, .ref 0, .ref 56, .int x3] [] m2 else am_ret (some (.int (am_c 0))) m2))))) := am_blk (b := [(.aload_n 1, 1), (.aload_n 0, 1), (.iload_n 3, 1), (.iconst 1, 1), (.iadd, 1), (.iaload, 1), (.invokevirtual 60, 3), (.aload_n 2, 1), (.aload_n 0, 1), (.iload_n 3, 1), (.iconst 1, 1), (.iadd, 1), (.iaload, 1), (.invokevirtual 63, 3), (.if_icmp .eq 419, 3), (.iconst 0, 1), (.ireturn, 1)]) rfl rfl (rfl : am_z 1100 = 2) _ _ _
set_option maxRecDepth 50000 in
theorem q1100_499 (C : am_Ct) (x3 : Int32) (μ : am_Mem) : am_ev C 1100 499 [.ref 999, .ref 0, .ref 56, .int x3] [] μ = (am_gb (Nat.blt (am_ix (x3 + (am_c 1))) (am_ix (μ 998 0))) (am_gb (Nat.blt (am_ix (x3 + (am_c 2))) (am_ix (μ 998 0))) (am_bI (C 912 [.ref 0, .int (μ 999 (am_ix (x3 + (am_c 1)))), .int (μ 999 (am_ix (x3 + (am_c 2))))] μ) (fun r1 m1 => am_gb (Nat.blt (am_ix (x3 + (am_c 1))) (am_ix (m1 998 0))) (am_gb (Nat.blt (am_ix (x3 + (am_c 2))) (am_ix (m1 998 0))) (am_bI (C 1054 [.ref 56, .int (m1 999 (am_ix (x3 + (am_c 1)))), .int (m1 999 (am_ix (x3 + (am_c 2))))] m1) (fun r2 m2 => if r1 = r2 then am_ev C 1100 913 [.ref 999, .ref 0, .ref 56, .int x3] [] m2 else am_ret (some (.int (am_c 0))) m2))))))) := am_blk (b := [(.aload_n 1, 1), (.aload_n 0, 1), (.iload_n 3, 1), (.iconst 1, 1), (.iadd, 1), (.iaload, 1), (.aload_n 0, 1), (.iload_n 3, 1), (.iconst 2, 1), (.iadd, 1), (.iaload, 1), (.invokevirtual 64, 3), (.aload_n 2, 1), (.aload_n 0, 1), (.iload_n 3, 1), (.iconst 1, 1), (.iadd, 1), (.iaload, 1), (.aload_n 0, 1), (.iload_n 3, 1), (.iconst 2, 1), (.iadd, 1), (.iaload, 1), (.invokevirtual 68, 3), (.if_icmp .eq 386, 3), (.iconst 0, 1), (.ireturn, 1)]) rfl rfl (rfl : am_z 1100 = 2) _ _ _
set_option maxRecDepth 50000 in
theorem q1100_532 (C : am_Ct) (x3 : Int32) (μ : am_Mem) : am_ev C 1100 532 [.ref 999, .ref 0, .ref 56, .int x3] [] μ = (am_gb (Nat.blt (am_ix (x3 + (am_c 1))) (am_ix (μ 998 0))) (am_gb (Nat.blt (am_ix (x3 + (am_c 2))) (am_ix (μ 998 0))) (am_bI (C 913 [.ref 0, .int (μ 999 (am_ix (x3 + (am_c 1)))), .int (μ 999 (am_ix (x3 + (am_c 2))))] μ) (fun r1 m1 => am_gb (Nat.blt (am_ix (x3 + (am_c 1))) (am_ix (m1 998 0))) (am_gb (Nat.blt (am_ix (x3 + (am_c 2))) (am_ix (m1 998 0))) (am_bI (C 1055 [.ref 56, .int (m1 999 (am_ix (x3 + (am_c 1)))), .int (m1 999 (am_ix (x3 + (am_c 2))))] m1) (fun r2 m2 => if r1 = r2 then am_ev C 1100 913 [.ref 999, .ref 0, .ref 56, .int x3] [] m2 else am_ret (some (.int (am_c 0))) m2))))))) := am_blk (b := [(.aload_n 1, 1), (.aload_n 0, 1), (.iload_n 3, 1), (.iconst 1, 1), (.iadd, 1), (.iaload, 1), (.aload_n 0, 1), (.iload_n 3, 1), (.iconst 2, 1), (.iadd, 1), (.iaload, 1), (.invokevirtual 69, 3), (.aload_n 2, 1), (.aload_n 0, 1), (.iload_n 3, 1), (.iconst 1, 1), (.iadd, 1), (.iaload, 1), (.aload_n 0, 1), (.iload_n 3, 1), (.iconst 2, 1), (.iadd, 1), (.iaload, 1), (.invokevirtual 72, 3), (.if_icmp .eq 353, 3), (.iconst 0, 1), (.ireturn, 1)]) rfl rfl (rfl : am_z 1100 = 2) _ _ _
set_option maxRecDepth 50000 in
theorem q1100_565 (C : am_Ct) (x3 : Int32) (μ : am_Mem) : am_ev C 1100 565 [.ref 999, .ref 0, .ref 56, .int x3] [] μ = (am_gb (Nat.blt (am_ix (x3 + (am_c 1))) (am_ix (μ 998 0))) (am_gb (Nat.blt (am_ix (x3 + (am_c 2))) (am_ix (μ 998 0))) (am_bI (C 914 [.ref 0, .int (μ 999 (am_ix (x3 + (am_c 1)))), .int (μ 999 (am_ix (x3 + (am_c 2))))] μ) (fun r1 m1 => am_gb (Nat.blt (am_ix (x3 + (am_c 1))) (am_ix (m1 998 0))) (am_gb (Nat.blt (am_ix (x3 + (am_c 2))) (am_ix (m1 998 0))) (am_bI (C 1047 [.ref 56, .int (m1 999 (am_ix (x3 + (am_c 1)))), .int (m1 999 (am_ix (x3 + (am_c 2))))] m1) (fun r2 m2 => if r1 = r2 then am_ev C 1100 913 [.ref 999, .ref 0, .ref 56, .int x3] [] m2 else am_ret (some (.int (am_c 0))) m2))))))) := am_blk (b := [(.aload_n 1, 1), (.aload_n 0, 1), (.iload_n 3, 1), (.iconst 1, 1), (.iadd, 1), (.iaload, 1), (.aload_n 0, 1), (.iload_n 3, 1), (.iconst 2, 1), (.iadd, 1), (.iaload, 1), (.invokevirtual 73, 3), (.aload_n 2, 1), (.aload_n 0, 1), (.iload_n 3, 1), (.iconst 1, 1), (.iadd, 1), (.iaload, 1), (.aload_n 0, 1), (.iload_n 3, 1), (.iconst 2, 1), (.iadd, 1), (.iaload, 1), (.invokevirtual 76, 3), (.if_icmp .eq 320, 3), (.iconst 0, 1), (.ireturn, 1)]) rfl rfl (rfl : am_z 1100 = 2) _ _ _
set_option maxRecDepth 50000 in
theorem q1100_598 (C : am_Ct) (x3 : Int32) (μ : am_Mem) : am_ev C 1100 598 [.ref 999, .ref 0, .ref 56, .int x3] [] μ = (am_gb (Nat.blt (am_ix (x3 + (am_c 1))) (am_ix (μ 998 0))) (am_bI (C 915 [.ref 0, .int (μ 999 (am_ix (x3 + (am_c 1))))] μ) (fun r1 m1 => am_gb (Nat.blt (am_ix (x3 + (am_c 1))) (am_ix (m1 998 0))) (am_bI (C 1058 [.ref 56, .int (m1 999 (am_ix (x3 + (am_c 1))))] m1) (fun r2 m2 => if r1 = r2 then am_ev C 1100 913 [.ref 999, .ref 0, .ref 56, .int x3] [] m2 else am_ret (some (.int (am_c 0))) m2))))) := am_blk (b := [(.aload_n 1, 1), (.aload_n 0, 1), (.iload_n 3, 1), (.iconst 1, 1), (.iadd, 1), (.iaload, 1), (.invokevirtual 77, 3), (.aload_n 2, 1), (.aload_n 0, 1), (.iload_n 3, 1), (.iconst 1, 1), (.iadd, 1), (.iaload, 1), (.invokevirtual 80, 3), (.if_icmp .eq 297, 3), (.iconst 0, 1), (.ireturn, 1)]) rfl rfl (rfl : am_z 1100 = 2) _ _ _
set_option maxRecDepth 50000 in
theorem q1100_621 (C : am_Ct) (x3 : Int32) (μ : am_Mem) : am_ev C 1100 621 [.ref 999, .ref 0, .ref 56, .int x3] [] μ = (am_gb (Nat.blt (am_ix (x3 + (am_c 1))) (am_ix (μ 998 0))) (am_gb (Nat.blt (am_ix (x3 + (am_c 2))) (am_ix (μ 998 0))) (am_bI (C 916 [.ref 0, .int (μ 999 (am_ix (x3 + (am_c 1)))), .int (μ 999 (am_ix (x3 + (am_c 2))))] μ) (fun r1 m1 => am_gb (Nat.blt (am_ix (x3 + (am_c 1))) (am_ix (m1 998 0))) (am_gb (Nat.blt (am_ix (x3 + (am_c 2))) (am_ix (m1 998 0))) (am_bI (C 1061 [.ref 56, .int (m1 999 (am_ix (x3 + (am_c 1)))), .int (m1 999 (am_ix (x3 + (am_c 2))))] m1) (fun r2 m2 => if r1 = r2 then am_ev C 1100 913 [.ref 999, .ref 0, .ref 56, .int x3] [] m2 else am_ret (some (.int (am_c 0))) m2))))))) := am_blk (b := [(.aload_n 1, 1), (.aload_n 0, 1), (.iload_n 3, 1), (.iconst 1, 1), (.iadd, 1), (.iaload, 1), (.aload_n 0, 1), (.iload_n 3, 1), (.iconst 2, 1), (.iadd, 1), (.iaload, 1), (.invokevirtual 81, 3), (.aload_n 2, 1), (.aload_n 0, 1), (.iload_n 3, 1), (.iconst 1, 1), (.iadd, 1), (.iaload, 1), (.aload_n 0, 1), (.iload_n 3, 1), (.iconst 2, 1), (.iadd, 1), (.iaload, 1), (.invokevirtual 84, 3), (.if_icmp .eq 264, 3), (.iconst 0, 1), (.ireturn, 1)]) rfl rfl (rfl : am_z 1100 = 2) _ _ _
set_option maxRecDepth 50000 in
theorem q1100_654 (C : am_Ct) (x3 : Int32) (μ : am_Mem) : am_ev C 1100 654 [.ref 999, .ref 0, .ref 56, .int x3] [] μ = (am_gb (Nat.blt (am_ix (x3 + (am_c 1))) (am_ix (μ 998 0))) (am_bI (C 917 [.ref 0, .int (μ 999 (am_ix (x3 + (am_c 1))))] μ) (fun r1 m1 => am_gb (Nat.blt (am_ix (x3 + (am_c 1))) (am_ix (m1 998 0))) (am_bI (C 1066 [.ref 56, .int (m1 999 (am_ix (x3 + (am_c 1))))] m1) (fun r2 m2 => if r1 = r2 then am_ev C 1100 913 [.ref 999, .ref 0, .ref 56, .int x3] [] m2 else am_ret (some (.int (am_c 0))) m2))))) := am_blk (b := [(.aload_n 1, 1), (.aload_n 0, 1), (.iload_n 3, 1), (.iconst 1, 1), (.iadd, 1), (.iaload, 1), (.invokevirtual 85, 3), (.aload_n 2, 1), (.aload_n 0, 1), (.iload_n 3, 1), (.iconst 1, 1), (.iadd, 1), (.iaload, 1), (.invokevirtual 88, 3), (.if_icmp .eq 241, 3), (.iconst 0, 1), (.ireturn, 1)]) rfl rfl (rfl : am_z 1100 = 2) _ _ _
set_option maxRecDepth 50000 in
theorem q1100_677 (C : am_Ct) (x3 : Int32) (μ : am_Mem) : am_ev C 1100 677 [.ref 999, .ref 0, .ref 56, .int x3] [] μ = (am_bI (C 918 [.ref 0] μ) (fun r1 m1 => am_bI (C 1067 [.ref 56] m1) (fun r2 m2 => if r1 = r2 then am_ev C 1100 913 [.ref 999, .ref 0, .ref 56, .int x3] [] m2 else am_ret (some (.int (am_c 0))) m2))) := am_blk (b := [(.aload_n 1, 1), (.invokevirtual 89, 3), (.aload_n 2, 1), (.invokevirtual 92, 3), (.if_icmp .eq 228, 3), (.iconst 0, 1), (.ireturn, 1)]) rfl rfl (rfl : am_z 1100 = 2) _ _ _
set_option maxRecDepth 50000 in
theorem q1100_690 (C : am_Ct) (x3 : Int32) (μ : am_Mem) : am_ev C 1100 690 [.ref 999, .ref 0, .ref 56, .int x3] [] μ = (am_bI (C 919 [.ref 0] μ) (fun r1 m1 => am_bI (C 1068 [.ref 56] m1) (fun r2 m2 => if r1 = r2 then am_ev C 1100 913 [.ref 999, .ref 0, .ref 56, .int x3] [] m2 else am_ret (some (.int (am_c 0))) m2))) := am_blk (b := [(.aload_n 1, 1), (.invokevirtual 93, 3), (.aload_n 2, 1), (.invokevirtual 96, 3), (.if_icmp .eq 215, 3), (.iconst 0, 1), (.ireturn, 1)]) rfl rfl (rfl : am_z 1100 = 2) _ _ _
set_option maxRecDepth 50000 in
theorem q1100_703 (C : am_Ct) (x3 : Int32) (μ : am_Mem) : am_ev C 1100 703 [.ref 999, .ref 0, .ref 56, .int x3] [] μ = (am_bI (C 920 [.ref 0] μ) (fun r1 m1 => am_bI (C 1063 [.ref 56] m1) (fun r2 m2 => if r1 = r2 then am_ev C 1100 913 [.ref 999, .ref 0, .ref 56, .int x3] [] m2 else am_ret (some (.int (am_c 0))) m2))) := am_blk (b := [(.aload_n 1, 1), (.invokevirtual 97, 3), (.aload_n 2, 1), (.invokevirtual 100, 3), (.if_icmp .eq 202, 3), (.iconst 0, 1), (.ireturn, 1)]) rfl rfl (rfl : am_z 1100 = 2) _ _ _
set_option maxRecDepth 50000 in
theorem q1100_716 (C : am_Ct) (x3 : Int32) (μ : am_Mem) : am_ev C 1100 716 [.ref 999, .ref 0, .ref 56, .int x3] [] μ = (am_gb (Nat.blt (am_ix (x3 + (am_c 1))) (am_ix (μ 998 0))) (am_gb (Nat.blt (am_ix (x3 + (am_c 2))) (am_ix (μ 998 0))) (am_bI (C 921 [.ref 0, .int (μ 999 (am_ix (x3 + (am_c 1)))), .int (μ 999 (am_ix (x3 + (am_c 2))))] μ) (fun r1 m1 => am_gb (Nat.blt (am_ix (x3 + (am_c 1))) (am_ix (m1 998 0))) (am_gb (Nat.blt (am_ix (x3 + (am_c 2))) (am_ix (m1 998 0))) (am_bI (C 1072 [.ref 56, .int (m1 999 (am_ix (x3 + (am_c 1)))), .int (m1 999 (am_ix (x3 + (am_c 2))))] m1) (fun r2 m2 => if r1 = r2 then am_ev C 1100 913 [.ref 999, .ref 0, .ref 56, .int x3] [] m2 else am_ret (some (.int (am_c 0))) m2))))))) := am_blk (b := [(.aload_n 1, 1), (.aload_n 0, 1), (.iload_n 3, 1), (.iconst 1, 1), (.iadd, 1), (.iaload, 1), (.aload_n 0, 1), (.iload_n 3, 1), (.iconst 2, 1), (.iadd, 1), (.iaload, 1), (.invokevirtual 101, 3), (.aload_n 2, 1), (.aload_n 0, 1), (.iload_n 3, 1), (.iconst 1, 1), (.iadd, 1), (.iaload, 1), (.aload_n 0, 1), (.iload_n 3, 1), (.iconst 2, 1), (.iadd, 1), (.iaload, 1), (.invokevirtual 104, 3), (.if_icmp .eq 169, 3), (.iconst 0, 1), (.ireturn, 1)]) rfl rfl (rfl : am_z 1100 = 2) _ _ _
set_option maxRecDepth 50000 in
theorem q1100_749 (C : am_Ct) (x3 : Int32) (μ : am_Mem) : am_ev C 1100 749 [.ref 999, .ref 0, .ref 56, .int x3] [] μ = (am_gb (Nat.blt (am_ix (x3 + (am_c 1))) (am_ix (μ 998 0))) (am_gb (Nat.blt (am_ix (x3 + (am_c 2))) (am_ix (μ 998 0))) (am_bI (C 922 [.ref 0, .int (μ 999 (am_ix (x3 + (am_c 1)))), .int (μ 999 (am_ix (x3 + (am_c 2))))] μ) (fun r1 m1 => am_gb (Nat.blt (am_ix (x3 + (am_c 1))) (am_ix (m1 998 0))) (am_gb (Nat.blt (am_ix (x3 + (am_c 2))) (am_ix (m1 998 0))) (am_bI (C 1073 [.ref 56, .int (m1 999 (am_ix (x3 + (am_c 1)))), .int (m1 999 (am_ix (x3 + (am_c 2))))] m1) (fun r2 m2 => if r1 = r2 then am_ev C 1100 913 [.ref 999, .ref 0, .ref 56, .int x3] [] m2 else am_ret (some (.int (am_c 0))) m2))))))) := am_blk (b := [(.aload_n 1, 1), (.aload_n 0, 1), (.iload_n 3, 1), (.iconst 1, 1), (.iadd, 1), (.iaload, 1), (.aload_n 0, 1), (.iload_n 3, 1), (.iconst 2, 1), (.iadd, 1), (.iaload, 1), (.invokevirtual 105, 3), (.aload_n 2, 1), (.aload_n 0, 1), (.iload_n 3, 1), (.iconst 1, 1), (.iadd, 1), (.iaload, 1), (.aload_n 0, 1), (.iload_n 3, 1), (.iconst 2, 1), (.iadd, 1), (.iaload, 1), (.invokevirtual 108, 3), (.if_icmp .eq 136, 3), (.iconst 0, 1), (.ireturn, 1)]) rfl rfl (rfl : am_z 1100 = 2) _ _ _
set_option maxRecDepth 50000 in
theorem q1100_782 (C : am_Ct) (x3 : Int32) (μ : am_Mem) : am_ev C 1100 782 [.ref 999, .ref 0, .ref 56, .int x3] [] μ = (am_gb (Nat.blt (am_ix (x3 + (am_c 1))) (am_ix (μ 998 0))) (am_bI (C 923 [.ref 0, .int (μ 999 (am_ix (x3 + (am_c 1))))] μ) (fun r1 m1 => am_gb (Nat.blt (am_ix (x3 + (am_c 1))) (am_ix (m1 998 0))) (am_bI (C 1076 [.ref 56, .int (m1 999 (am_ix (x3 + (am_c 1))))] m1) (fun r2 m2 => if r1 = r2 then am_ev C 1100 913 [.ref 999, .ref 0, .ref 56, .int x3] [] m2 else am_ret (some (.int (am_c 0))) m2))))) := am_blk (b := [(.aload_n 1, 1), (.aload_n 0, 1), (.iload_n 3, 1), (.iconst 1, 1), (.iadd, 1), (.iaload, 1), (.invokevirtual 109, 3), (.aload_n 2, 1), (.aload_n 0, 1), (.iload_n 3, 1), (.iconst 1, 1), (.iadd, 1), (.iaload, 1), (.invokevirtual 112, 3), (.if_icmp .eq 113, 3), (.iconst 0, 1), (.ireturn, 1)]) rfl rfl (rfl : am_z 1100 = 2) _ _ _
set_option maxRecDepth 50000 in
theorem q1100_805 (C : am_Ct) (x3 : Int32) (μ : am_Mem) : am_ev C 1100 805 [.ref 999, .ref 0, .ref 56, .int x3] [] μ = (am_gb (Nat.blt (am_ix (x3 + (am_c 1))) (am_ix (μ 998 0))) (am_gb (Nat.blt (am_ix (x3 + (am_c 2))) (am_ix (μ 998 0))) (am_bI (C 924 [.ref 0, .int (μ 999 (am_ix (x3 + (am_c 1)))), .int (μ 999 (am_ix (x3 + (am_c 2))))] μ) (fun r1 m1 => am_gb (Nat.blt (am_ix (x3 + (am_c 1))) (am_ix (m1 998 0))) (am_gb (Nat.blt (am_ix (x3 + (am_c 2))) (am_ix (m1 998 0))) (am_bI (C 1077 [.ref 56, .int (m1 999 (am_ix (x3 + (am_c 1)))), .int (m1 999 (am_ix (x3 + (am_c 2))))] m1) (fun r2 m2 => if r1 = r2 then am_ev C 1100 913 [.ref 999, .ref 0, .ref 56, .int x3] [] m2 else am_ret (some (.int (am_c 0))) m2))))))) := am_blk (b := [(.aload_n 1, 1), (.aload_n 0, 1), (.iload_n 3, 1), (.iconst 1, 1), (.iadd, 1), (.iaload, 1), (.aload_n 0, 1), (.iload_n 3, 1), (.iconst 2, 1), (.iadd, 1), (.iaload, 1), (.invokevirtual 113, 3), (.aload_n 2, 1), (.aload_n 0, 1), (.iload_n 3, 1), (.iconst 1, 1), (.iadd, 1), (.iaload, 1), (.aload_n 0, 1), (.iload_n 3, 1), (.iconst 2, 1), (.iadd, 1), (.iaload, 1), (.invokevirtual 116, 3), (.if_icmp .eq 80, 3), (.iconst 0, 1), (.ireturn, 1)]) rfl rfl (rfl : am_z 1100 = 2) _ _ _
set_option maxRecDepth 50000 in
theorem q1100_838 (C : am_Ct) (x3 : Int32) (μ : am_Mem) : am_ev C 1100 838 [.ref 999, .ref 0, .ref 56, .int x3] [] μ = (am_bI (C 925 [.ref 0] μ) (fun r1 m1 => am_bI (C 1049 [.ref 56] m1) (fun r2 m2 => if r1 = r2 then am_ev C 1100 913 [.ref 999, .ref 0, .ref 56, .int x3] [] m2 else am_ret (some (.int (am_c 0))) m2))) := am_blk (b := [(.aload_n 1, 1), (.invokevirtual 117, 3), (.aload_n 2, 1), (.invokevirtual 121, 3), (.if_icmp .eq 67, 3), (.iconst 0, 1), (.ireturn, 1)]) rfl rfl (rfl : am_z 1100 = 2) _ _ _
set_option maxRecDepth 50000 in
theorem q1100_851 (C : am_Ct) (x3 : Int32) (μ : am_Mem) : am_ev C 1100 851 [.ref 999, .ref 0, .ref 56, .int x3] [] μ = (am_gb (Nat.blt (am_ix (x3 + (am_c 1))) (am_ix (μ 998 0))) (if (μ 999 (am_ix (x3 + (am_c 1)))) = 0 then am_ev C 1100 864 [.ref 999, .ref 0, .ref 56, .int x3] [.ref 0] μ else am_ev C 1100 865 [.ref 999, .ref 0, .ref 56, .int x3] [.int (am_c 1), .ref 0] μ)) := am_blk (b := [(.aload_n 1, 1), (.aload_n 0, 1), (.iload_n 3, 1), (.iconst 1, 1), (.iadd, 1), (.iaload, 1), (.ifCond .eq 7, 3), (.iconst 1, 1), (.goto 4, 3)]) rfl rfl (rfl : am_z 1100 = 2) _ _ _
set_option maxRecDepth 50000 in
theorem q1100_864 (C : am_Ct) (x3 : Int32) (μ : am_Mem) : am_ev C 1100 864 [.ref 999, .ref 0, .ref 56, .int x3] [.ref 0] μ = (am_ev C 1100 865 [.ref 999, .ref 0, .ref 56, .int x3] [.int (am_c 0), .ref 0] μ) := am_blk (b := [(.iconst 0, 1)]) rfl rfl (rfl : am_z 1100 = 2) _ _ _
set_option maxRecDepth 50000 in
theorem q1100_865 (C : am_Ct) (x3 : Int32) (s0 : Int32) (μ : am_Mem) : am_ev C 1100 865 [.ref 999, .ref 0, .ref 56, .int x3] [.int s0, .ref 0] μ = (am_bI (C 926 [.ref 0, .int s0] μ) (fun r1 m1 => am_gb (Nat.blt (am_ix (x3 + (am_c 1))) (am_ix (m1 998 0))) (if (m1 999 (am_ix (x3 + (am_c 1)))) = 0 then am_ev C 1100 881 [.ref 999, .ref 0, .ref 56, .int x3] [.ref 56, .int r1] m1 else am_ev C 1100 882 [.ref 999, .ref 0, .ref 56, .int x3] [.int (am_c 1), .ref 56, .int r1] m1))) := am_blk (b := [(.invokevirtual 122, 3), (.aload_n 2, 1), (.aload_n 0, 1), (.iload_n 3, 1), (.iconst 1, 1), (.iadd, 1), (.iaload, 1), (.ifCond .eq 7, 3), (.iconst 1, 1), (.goto 4, 3)]) rfl rfl (rfl : am_z 1100 = 2) _ _ _
set_option maxRecDepth 50000 in
theorem q1100_881 (C : am_Ct) (x3 : Int32) (s1 : Int32) (μ : am_Mem) : am_ev C 1100 881 [.ref 999, .ref 0, .ref 56, .int x3] [.ref 56, .int s1] μ = (am_ev C 1100 882 [.ref 999, .ref 0, .ref 56, .int x3] [.int (am_c 0), .ref 56, .int s1] μ) := am_blk (b := [(.iconst 0, 1)]) rfl rfl (rfl : am_z 1100 = 2) _ _ _
set_option maxRecDepth 50000 in
theorem q1100_882 (C : am_Ct) (x3 : Int32) (s0 : Int32) (s2 : Int32) (μ : am_Mem) : am_ev C 1100 882 [.ref 999, .ref 0, .ref 56, .int x3] [.int s0, .ref 56, .int s2] μ = (am_bI (C 1078 [.ref 56, .int s0] μ) (fun r1 m1 => if s2 = r1 then am_ev C 1100 913 [.ref 999, .ref 0, .ref 56, .int x3] [] m1 else am_ret (some (.int (am_c 0))) m1)) := am_blk (b := [(.invokevirtual 126, 3), (.if_icmp .eq 28, 3), (.iconst 0, 1), (.ireturn, 1)]) rfl rfl (rfl : am_z 1100 = 2) _ _ _
set_option maxRecDepth 50000 in
theorem q1100_890 (C : am_Ct) (x3 : Int32) (μ : am_Mem) : am_ev C 1100 890 [.ref 999, .ref 0, .ref 56, .int x3] [] μ = (am_gb (Nat.blt (am_ix (x3 + (am_c 1))) (am_ix (μ 998 0))) (am_bI (C 927 [.ref 0, .int (μ 999 (am_ix (x3 + (am_c 1))))] μ) (fun r1 m1 => am_gb (Nat.blt (am_ix (x3 + (am_c 1))) (am_ix (m1 998 0))) (am_bI (C 1079 [.ref 56, .int (m1 999 (am_ix (x3 + (am_c 1))))] m1) (fun r2 m2 => if r1 = r2 then am_ev C 1100 913 [.ref 999, .ref 0, .ref 56, .int x3] [] m2 else am_ret (some (.int (am_c 0))) m2))))) := am_blk (b := [(.aload_n 1, 1), (.aload_n 0, 1), (.iload_n 3, 1), (.iconst 1, 1), (.iadd, 1), (.iaload, 1), (.invokevirtual 127, 3), (.aload_n 2, 1), (.aload_n 0, 1), (.iload_n 3, 1), (.iconst 1, 1), (.iadd, 1), (.iaload, 1), (.invokevirtual 130, 3), (.if_icmp .eq 5, 3), (.iconst 0, 1), (.ireturn, 1)]) rfl rfl (rfl : am_z 1100 = 2) _ _ _
set_option maxRecDepth 50000 in
theorem q1100_913 (C : am_Ct) (x3 : Int32) (μ : am_Mem) : am_ev C 1100 913 [.ref 999, .ref 0, .ref 56, .int x3] [] μ = (am_ev C 1100 18 [.ref 999, .ref 0, .ref 56, .int (x3 + (am_c 6))] [] μ) := am_blk (b := [(.iinc 3 6, 3), (.goto (-898), 3)]) rfl rfl (rfl : am_z 1100 = 2) _ _ _
set_option maxRecDepth 50000 in
theorem q1100_919 (C : am_Ct) (x3 : Int32) (μ : am_Mem) : am_ev C 1100 919 [.ref 999, .ref 0, .ref 56, .int x3] [] μ = (am_ret (some (.int (am_c 1))) μ) := am_blk (b := [(.iconst 1, 1), (.ireturn, 1)]) rfl rfl (rfl : am_z 1100 = 2) _ _ _
end
section
/-! the tables against the code: every block decodes as it stands there -/
def am_okI (pc : Nat) (i : Instr) (n : Nat) : Bool := match i with
  | .iconst k => Nat.beq n 1 && decide (Int32.ofInt k = am_c k)
  | .bipush k => Nat.beq n 2 && decide ((Int8.ofInt k).toInt32 = am_c k)
  | .sipush k => Nat.beq n 3 && decide ((Int16.ofInt k).toInt32 = am_c k)
  | .ldc _ => Nat.beq n 2
  | .ldc_w _ => Nat.beq n 3
  | .iload_n _ => Nat.beq n 1
  | .iload _ => Nat.beq n 2
  | .aload_n _ => Nat.beq n 1
  | .istore_n _ => Nat.beq n 1
  | .istore _ => Nat.beq n 2
  | .iinc _ k => Nat.beq n 3 && decide (Int32.ofInt k = am_c k)
  | .getfield _ => Nat.beq n 3
  | .putfield _ => Nat.beq n 3
  | .getstatic _ => Nat.beq n 3
  | .goto off => decide (0 ≤ (pc : Int) + off) && Nat.beq n 3
  | .ifCond _ off => decide (0 ≤ (pc : Int) + off) && Nat.beq n 3
  | .if_icmp _ off => decide (0 ≤ (pc : Int) + off) && Nat.beq n 3
  | .tableswitch d lo hi offs => decide (0 ≤ (pc : Int) + d) && decide (hi + 1 = lo + offs.toList.length) && decide (-1000 ≤ lo) && decide (hi ≤ 1000) && offs.toList.all (fun o => decide (0 ≤ (pc : Int) + o))
  | .lookupswitch d ps => decide (0 ≤ (pc : Int) + d) && (ps.toList.zip (ps.toList.drop 1)).all (fun (a, next) => a.1 < next.1) && ps.toList.all (fun o => decide (0 ≤ (pc : Int) + o.2) && decide (-1000 ≤ o.1) && decide (o.1 ≤ 1000))
  | .invokevirtual _ => Nat.beq n 3
  | .invokestatic _ => Nat.beq n 3
  | _ => Nat.beq n 1
def am_chk (cc : ByteArray) : Nat → List (Instr × Nat) → Bool
  | _, [] => true
  | pc, q :: r => (decide (decode cc pc = .ok (q.1, q.2)) && am_okI pc q.1 q.2) && am_chk cc (pc + q.2) r
def am_chkM (cc : ByteArray) (l : List (Nat × List (Instr × Nat))) : Bool := l.all (fun q => am_chk cc q.1 q.2)
def am_cd (y : Nat) : ByteArray := match am_fa am_MT y with
  | some q => q.2.1
  | none => code
theorem am_k1 : am_chkM (am_cd 1) am_b1 = true := by decide +kernel
theorem am_k2 : am_chkM (am_cd 2) am_b2 = true := by decide +kernel
theorem am_k3 : am_chkM (am_cd 3) am_b3 = true := by decide +kernel
theorem am_k4 : am_chkM (am_cd 4) am_b4 = true := by decide +kernel
theorem am_k5 : am_chkM (am_cd 5) am_b5 = true := by decide +kernel
theorem am_k101 : am_chkM (am_cd 101) am_b101 = true := by decide +kernel
theorem am_k102 : am_chkM (am_cd 102) am_b102 = true := by decide +kernel
theorem am_k103 : am_chkM (am_cd 103) am_b103 = true := by decide +kernel
theorem am_k104 : am_chkM (am_cd 104) am_b104 = true := by decide +kernel
theorem am_k201 : am_chkM (am_cd 201) am_b201 = true := by decide +kernel
theorem am_k202 : am_chkM (am_cd 202) am_b202 = true := by decide +kernel
theorem am_k203 : am_chkM (am_cd 203) am_b203 = true := by decide +kernel
theorem am_k204 : am_chkM (am_cd 204) am_b204 = true := by decide +kernel
theorem am_k205 : am_chkM (am_cd 205) am_b205 = true := by decide +kernel
theorem am_k206 : am_chkM (am_cd 206) am_b206 = true := by decide +kernel
theorem am_k207 : am_chkM (am_cd 207) am_b207 = true := by decide +kernel
theorem am_k208 : am_chkM (am_cd 208) am_b208 = true := by decide +kernel
theorem am_k209 : am_chkM (am_cd 209) am_b209 = true := by decide +kernel
theorem am_k210 : am_chkM (am_cd 210) am_b210 = true := by decide +kernel
theorem am_k211 : am_chkM (am_cd 211) am_b211 = true := by decide +kernel
theorem am_k301 : am_chkM (am_cd 301) am_b301 = true := by decide +kernel
theorem am_k302 : am_chkM (am_cd 302) am_b302 = true := by decide +kernel
theorem am_k303 : am_chkM (am_cd 303) am_b303 = true := by decide +kernel
theorem am_k304 : am_chkM (am_cd 304) am_b304 = true := by decide +kernel
theorem am_k305 : am_chkM (am_cd 305) am_b305 = true := by decide +kernel
theorem am_k306 : am_chkM (am_cd 306) am_b306 = true := by decide +kernel
theorem am_k307 : am_chkM (am_cd 307) am_b307 = true := by decide +kernel
theorem am_k308 : am_chkM (am_cd 308) am_b308 = true := by decide +kernel
theorem am_k309 : am_chkM (am_cd 309) am_b309 = true := by decide +kernel
theorem am_k310 : am_chkM (am_cd 310) am_b310 = true := by decide +kernel
theorem am_k311 : am_chkM (am_cd 311) am_b311 = true := by decide +kernel
theorem am_k401 : am_chkM (am_cd 401) am_b401 = true := by decide +kernel
theorem am_k402 : am_chkM (am_cd 402) am_b402 = true := by decide +kernel
theorem am_k403 : am_chkM (am_cd 403) am_b403 = true := by decide +kernel
theorem am_k501 : am_chkM (am_cd 501) am_b501 = true := by decide +kernel
theorem am_k502 : am_chkM (am_cd 502) am_b502 = true := by decide +kernel
theorem am_k503 : am_chkM (am_cd 503) am_b503 = true := by decide +kernel
theorem am_k504 : am_chkM (am_cd 504) am_b504 = true := by decide +kernel
theorem am_k505 : am_chkM (am_cd 505) am_b505 = true := by decide +kernel
theorem am_k506 : am_chkM (am_cd 506) am_b506 = true := by decide +kernel
theorem am_k507 : am_chkM (am_cd 507) am_b507 = true := by decide +kernel
theorem am_k508 : am_chkM (am_cd 508) am_b508 = true := by decide +kernel
theorem am_k509 : am_chkM (am_cd 509) am_b509 = true := by decide +kernel
theorem am_k510 : am_chkM (am_cd 510) am_b510 = true := by decide +kernel
theorem am_k511 : am_chkM (am_cd 511) am_b511 = true := by decide +kernel
theorem am_k601 : am_chkM (am_cd 601) am_b601 = true := by decide +kernel
theorem am_k602 : am_chkM (am_cd 602) am_b602 = true := by decide +kernel
theorem am_k603 : am_chkM (am_cd 603) am_b603 = true := by decide +kernel
theorem am_k604 : am_chkM (am_cd 604) am_b604 = true := by decide +kernel
theorem am_k605 : am_chkM (am_cd 605) am_b605 = true := by decide +kernel
theorem am_k606 : am_chkM (am_cd 606) am_b606 = true := by decide +kernel
theorem am_k607 : am_chkM (am_cd 607) am_b607 = true := by decide +kernel
theorem am_k608 : am_chkM (am_cd 608) am_b608 = true := by decide +kernel
theorem am_k609 : am_chkM (am_cd 609) am_b609 = true := by decide +kernel
theorem am_k610 : am_chkM (am_cd 610) am_b610 = true := by decide +kernel
theorem am_k611 : am_chkM (am_cd 611) am_b611 = true := by decide +kernel
theorem am_k701 : am_chkM (am_cd 701) am_b701 = true := by decide +kernel
theorem am_k702 : am_chkM (am_cd 702) am_b702 = true := by decide +kernel
theorem am_k703 : am_chkM (am_cd 703) am_b703 = true := by decide +kernel
theorem am_k704 : am_chkM (am_cd 704) am_b704 = true := by decide +kernel
theorem am_k705 : am_chkM (am_cd 705) am_b705 = true := by decide +kernel
theorem am_k706 : am_chkM (am_cd 706) am_b706 = true := by decide +kernel
theorem am_k707 : am_chkM (am_cd 707) am_b707 = true := by decide +kernel
theorem am_k708 : am_chkM (am_cd 708) am_b708 = true := by decide +kernel
theorem am_k709 : am_chkM (am_cd 709) am_b709 = true := by decide +kernel
theorem am_k710 : am_chkM (am_cd 710) am_b710 = true := by decide +kernel
theorem am_k711 : am_chkM (am_cd 711) am_b711 = true := by decide +kernel
theorem am_k712 : am_chkM (am_cd 712) am_b712 = true := by decide +kernel
theorem am_k713 : am_chkM (am_cd 713) am_b713 = true := by decide +kernel
theorem am_k714 : am_chkM (am_cd 714) am_b714 = true := by decide +kernel
theorem am_k715 : am_chkM (am_cd 715) am_b715 = true := by decide +kernel
theorem am_k716 : am_chkM (am_cd 716) am_b716 = true := by decide +kernel
theorem am_k717 : am_chkM (am_cd 717) am_b717 = true := by decide +kernel
theorem am_k718 : am_chkM (am_cd 718) am_b718 = true := by decide +kernel
theorem am_k719 : am_chkM (am_cd 719) am_b719 = true := by decide +kernel
theorem am_k720 : am_chkM (am_cd 720) am_b720 = true := by decide +kernel
theorem am_k721 : am_chkM (am_cd 721) am_b721 = true := by decide +kernel
theorem am_k722 : am_chkM (am_cd 722) am_b722 = true := by decide +kernel
theorem am_k723 : am_chkM (am_cd 723) am_b723 = true := by decide +kernel
theorem am_k724 : am_chkM (am_cd 724) am_b724 = true := by decide +kernel
theorem am_k725 : am_chkM (am_cd 725) am_b725 = true := by decide +kernel
theorem am_k801 : am_chkM (am_cd 801) am_b801 = true := by decide +kernel
theorem am_k802 : am_chkM (am_cd 802) am_b802 = true := by decide +kernel
theorem am_k803 : am_chkM (am_cd 803) am_b803 = true := by decide +kernel
theorem am_k804 : am_chkM (am_cd 804) am_b804 = true := by decide +kernel
theorem am_k901 : am_chkM (am_cd 901) am_b901 = true := by decide +kernel
theorem am_k902 : am_chkM (am_cd 902) am_b902 = true := by decide +kernel
theorem am_k903 : am_chkM (am_cd 903) am_b903 = true := by decide +kernel
theorem am_k904 : am_chkM (am_cd 904) am_b904 = true := by decide +kernel
theorem am_k905 : am_chkM (am_cd 905) am_b905 = true := by decide +kernel
theorem am_k906 : am_chkM (am_cd 906) am_b906 = true := by decide +kernel
theorem am_k907 : am_chkM (am_cd 907) am_b907 = true := by decide +kernel
theorem am_k908 : am_chkM (am_cd 908) am_b908 = true := by decide +kernel
theorem am_k909 : am_chkM (am_cd 909) am_b909 = true := by decide +kernel
theorem am_k910 : am_chkM (am_cd 910) am_b910 = true := by decide +kernel
theorem am_k911 : am_chkM (am_cd 911) am_b911 = true := by decide +kernel
theorem am_k912 : am_chkM (am_cd 912) am_b912 = true := by decide +kernel
theorem am_k913 : am_chkM (am_cd 913) am_b913 = true := by decide +kernel
theorem am_k914 : am_chkM (am_cd 914) am_b914 = true := by decide +kernel
theorem am_k915 : am_chkM (am_cd 915) am_b915 = true := by decide +kernel
theorem am_k916 : am_chkM (am_cd 916) am_b916 = true := by decide +kernel
theorem am_k917 : am_chkM (am_cd 917) am_b917 = true := by decide +kernel
theorem am_k918 : am_chkM (am_cd 918) am_b918 = true := by decide +kernel
theorem am_k919 : am_chkM (am_cd 919) am_b919 = true := by decide +kernel
theorem am_k920 : am_chkM (am_cd 920) am_b920 = true := by decide +kernel
theorem am_k921 : am_chkM (am_cd 921) am_b921 = true := by decide +kernel
theorem am_k922 : am_chkM (am_cd 922) am_b922 = true := by decide +kernel
theorem am_k923 : am_chkM (am_cd 923) am_b923 = true := by decide +kernel
theorem am_k924 : am_chkM (am_cd 924) am_b924 = true := by decide +kernel
theorem am_k925 : am_chkM (am_cd 925) am_b925 = true := by decide +kernel
theorem am_k926 : am_chkM (am_cd 926) am_b926 = true := by decide +kernel
theorem am_k927 : am_chkM (am_cd 927) am_b927 = true := by decide +kernel
theorem am_k928 : am_chkM (am_cd 928) am_b928 = true := by decide +kernel
theorem am_k929 : am_chkM (am_cd 929) am_b929 = true := by decide +kernel
theorem am_k930 : am_chkM (am_cd 930) am_b930 = true := by decide +kernel
theorem am_k931 : am_chkM (am_cd 931) am_b931 = true := by decide +kernel
theorem am_k932 : am_chkM (am_cd 932) am_b932 = true := by decide +kernel
theorem am_k933 : am_chkM (am_cd 933) am_b933 = true := by decide +kernel
theorem am_k1001 : am_chkM (am_cd 1001) am_b1001 = true := by decide +kernel
theorem am_k1002 : am_chkM (am_cd 1002) am_b1002 = true := by decide +kernel
theorem am_k1003 : am_chkM (am_cd 1003) am_b1003 = true := by decide +kernel
theorem am_k1004 : am_chkM (am_cd 1004) am_b1004 = true := by decide +kernel
theorem am_k1005 : am_chkM (am_cd 1005) am_b1005 = true := by decide +kernel
theorem am_k1006 : am_chkM (am_cd 1006) am_b1006 = true := by decide +kernel
theorem am_k1007 : am_chkM (am_cd 1007) am_b1007 = true := by decide +kernel
theorem am_k1008 : am_chkM (am_cd 1008) am_b1008 = true := by decide +kernel
theorem am_k1009 : am_chkM (am_cd 1009) am_b1009 = true := by decide +kernel
theorem am_k1010 : am_chkM (am_cd 1010) am_b1010 = true := by decide +kernel
theorem am_k1011 : am_chkM (am_cd 1011) am_b1011 = true := by decide +kernel
theorem am_k1012 : am_chkM (am_cd 1012) am_b1012 = true := by decide +kernel
theorem am_k1013 : am_chkM (am_cd 1013) am_b1013 = true := by decide +kernel
theorem am_k1014 : am_chkM (am_cd 1014) am_b1014 = true := by decide +kernel
theorem am_k1015 : am_chkM (am_cd 1015) am_b1015 = true := by decide +kernel
theorem am_k1016 : am_chkM (am_cd 1016) am_b1016 = true := by decide +kernel
theorem am_k1017 : am_chkM (am_cd 1017) am_b1017 = true := by decide +kernel
theorem am_k1018 : am_chkM (am_cd 1018) am_b1018 = true := by decide +kernel
theorem am_k1019 : am_chkM (am_cd 1019) am_b1019 = true := by decide +kernel
theorem am_k1020 : am_chkM (am_cd 1020) am_b1020 = true := by decide +kernel
theorem am_k1021 : am_chkM (am_cd 1021) am_b1021 = true := by decide +kernel
theorem am_k1022 : am_chkM (am_cd 1022) am_b1022 = true := by decide +kernel
theorem am_k1023 : am_chkM (am_cd 1023) am_b1023 = true := by decide +kernel
theorem am_k1024 : am_chkM (am_cd 1024) am_b1024 = true := by decide +kernel
theorem am_k1025 : am_chkM (am_cd 1025) am_b1025 = true := by decide +kernel
theorem am_k1026 : am_chkM (am_cd 1026) am_b1026 = true := by decide +kernel
theorem am_k1027 : am_chkM (am_cd 1027) am_b1027 = true := by decide +kernel
theorem am_k1028 : am_chkM (am_cd 1028) am_b1028 = true := by decide +kernel
theorem am_k1029 : am_chkM (am_cd 1029) am_b1029 = true := by decide +kernel
theorem am_k1030 : am_chkM (am_cd 1030) am_b1030 = true := by decide +kernel
theorem am_k1031 : am_chkM (am_cd 1031) am_b1031 = true := by decide +kernel
theorem am_k1032 : am_chkM (am_cd 1032) am_b1032 = true := by decide +kernel
theorem am_k1033 : am_chkM (am_cd 1033) am_b1033 = true := by decide +kernel
theorem am_k1034 : am_chkM (am_cd 1034) am_b1034 = true := by decide +kernel
theorem am_k1035 : am_chkM (am_cd 1035) am_b1035 = true := by decide +kernel
theorem am_k1036 : am_chkM (am_cd 1036) am_b1036 = true := by decide +kernel
theorem am_k1037 : am_chkM (am_cd 1037) am_b1037 = true := by decide +kernel
theorem am_k1038 : am_chkM (am_cd 1038) am_b1038 = true := by decide +kernel
theorem am_k1039 : am_chkM (am_cd 1039) am_b1039 = true := by decide +kernel
theorem am_k1040 : am_chkM (am_cd 1040) am_b1040 = true := by decide +kernel
theorem am_k1041 : am_chkM (am_cd 1041) am_b1041 = true := by decide +kernel
theorem am_k1042 : am_chkM (am_cd 1042) am_b1042 = true := by decide +kernel
theorem am_k1043 : am_chkM (am_cd 1043) am_b1043 = true := by decide +kernel
theorem am_k1044 : am_chkM (am_cd 1044) am_b1044 = true := by decide +kernel
theorem am_k1045 : am_chkM (am_cd 1045) am_b1045 = true := by decide +kernel
theorem am_k1046 : am_chkM (am_cd 1046) am_b1046 = true := by decide +kernel
theorem am_k1047 : am_chkM (am_cd 1047) am_b1047 = true := by decide +kernel
theorem am_k1048 : am_chkM (am_cd 1048) am_b1048 = true := by decide +kernel
theorem am_k1049 : am_chkM (am_cd 1049) am_b1049 = true := by decide +kernel
theorem am_k1050 : am_chkM (am_cd 1050) am_b1050 = true := by decide +kernel
theorem am_k1051 : am_chkM (am_cd 1051) am_b1051 = true := by decide +kernel
theorem am_k1052 : am_chkM (am_cd 1052) am_b1052 = true := by decide +kernel
theorem am_k1053 : am_chkM (am_cd 1053) am_b1053 = true := by decide +kernel
theorem am_k1054 : am_chkM (am_cd 1054) am_b1054 = true := by decide +kernel
theorem am_k1055 : am_chkM (am_cd 1055) am_b1055 = true := by decide +kernel
theorem am_k1056 : am_chkM (am_cd 1056) am_b1056 = true := by decide +kernel
theorem am_k1057 : am_chkM (am_cd 1057) am_b1057 = true := by decide +kernel
theorem am_k1058 : am_chkM (am_cd 1058) am_b1058 = true := by decide +kernel
theorem am_k1059 : am_chkM (am_cd 1059) am_b1059 = true := by decide +kernel
theorem am_k1060 : am_chkM (am_cd 1060) am_b1060 = true := by decide +kernel
theorem am_k1061 : am_chkM (am_cd 1061) am_b1061 = true := by decide +kernel
theorem am_k1062 : am_chkM (am_cd 1062) am_b1062 = true := by decide +kernel
theorem am_k1063 : am_chkM (am_cd 1063) am_b1063 = true := by decide +kernel
theorem am_k1064 : am_chkM (am_cd 1064) am_b1064 = true := by decide +kernel
theorem am_k1065 : am_chkM (am_cd 1065) am_b1065 = true := by decide +kernel
theorem am_k1066 : am_chkM (am_cd 1066) am_b1066 = true := by decide +kernel
theorem am_k1067 : am_chkM (am_cd 1067) am_b1067 = true := by decide +kernel
theorem am_k1068 : am_chkM (am_cd 1068) am_b1068 = true := by decide +kernel
theorem am_k1069 : am_chkM (am_cd 1069) am_b1069 = true := by decide +kernel
theorem am_k1070 : am_chkM (am_cd 1070) am_b1070 = true := by decide +kernel
theorem am_k1071 : am_chkM (am_cd 1071) am_b1071 = true := by decide +kernel
theorem am_k1072 : am_chkM (am_cd 1072) am_b1072 = true := by decide +kernel
theorem am_k1073 : am_chkM (am_cd 1073) am_b1073 = true := by decide +kernel
theorem am_k1074 : am_chkM (am_cd 1074) am_b1074 = true := by decide +kernel
theorem am_k1075 : am_chkM (am_cd 1075) am_b1075 = true := by decide +kernel
theorem am_k1076 : am_chkM (am_cd 1076) am_b1076 = true := by decide +kernel
theorem am_k1077 : am_chkM (am_cd 1077) am_b1077 = true := by decide +kernel
theorem am_k1078 : am_chkM (am_cd 1078) am_b1078 = true := by decide +kernel
theorem am_k1079 : am_chkM (am_cd 1079) am_b1079 = true := by decide +kernel
theorem am_k1100 : am_chkM (am_cd 1100) am_b1100 = true := by decide +kernel
theorem am_k1200 : am_chkM (am_cd 1200) am_b1200 = true := by decide +kernel
theorem am_k1300 : am_chkM (am_cd 1300) am_b1300 = true := by decide +kernel
theorem am_k1400 : am_chkM (am_cd 1400) am_b1400 = true := by decide +kernel
theorem am_k1401 : am_chkM (am_cd 1401) am_b1401 = true := by decide +kernel
theorem am_k1402 : am_chkM (am_cd 1402) am_b1402 = true := by decide +kernel
theorem am_k1403 : am_chkM (am_cd 1403) am_b1403 = true := by decide +kernel
theorem am_k1404 : am_chkM (am_cd 1404) am_b1404 = true := by decide +kernel
theorem am_k1500 : am_chkM (am_cd 1500) am_b1500 = true := by decide +kernel
theorem am_k1600 : am_chkM (am_cd 1600) am_b1600 = true := by decide +kernel
set_option maxRecDepth 100000 in
theorem am_BT_ok : ∀ q ∈ am_BT, am_chkM (am_cd q.1) q.2 = true := List.forall_mem_cons.mpr ⟨am_k1, List.forall_mem_cons.mpr ⟨am_k2, List.forall_mem_cons.mpr ⟨am_k3, List.forall_mem_cons.mpr ⟨am_k4, List.forall_mem_cons.mpr ⟨am_k5, List.forall_mem_cons.mpr ⟨am_k101, List.forall_mem_cons.mpr ⟨am_k102, List.forall_mem_cons.mpr ⟨am_k103, List.forall_mem_cons.mpr ⟨am_k104, List.forall_mem_cons.mpr ⟨am_k201, List.forall_mem_cons.mpr ⟨am_k202, List.forall_mem_cons.mpr ⟨am_k203, List.forall_mem_cons.mpr ⟨am_k204, List.forall_mem_cons.mpr ⟨am_k205, List.forall_mem_cons.mpr ⟨am_k206, List.forall_mem_cons.mpr ⟨am_k207, List.forall_mem_cons.mpr ⟨am_k208, List.forall_mem_cons.mpr ⟨am_k209, List.forall_mem_cons.mpr ⟨am_k210, List.forall_mem_cons.mpr ⟨am_k211, List.forall_mem_cons.mpr ⟨am_k301, List.forall_mem_cons.mpr ⟨am_k302, List.forall_mem_cons.mpr ⟨am_k303, List.forall_mem_cons.mpr ⟨am_k304, List.forall_mem_cons.mpr ⟨am_k305, List.forall_mem_cons.mpr ⟨am_k306, List.forall_mem_cons.mpr ⟨am_k307, List.forall_mem_cons.mpr ⟨am_k308, List.forall_mem_cons.mpr ⟨am_k309, List.forall_mem_cons.mpr ⟨am_k310, List.forall_mem_cons.mpr ⟨am_k311, List.forall_mem_cons.mpr ⟨am_k401, List.forall_mem_cons.mpr ⟨am_k402, List.forall_mem_cons.mpr ⟨am_k403, List.forall_mem_cons.mpr ⟨am_k501, List.forall_mem_cons.mpr ⟨am_k502, List.forall_mem_cons.mpr ⟨am_k503, List.forall_mem_cons.mpr ⟨am_k504, List.forall_mem_cons.mpr ⟨am_k505, List.forall_mem_cons.mpr ⟨am_k506, List.forall_mem_cons.mpr ⟨am_k507, List.forall_mem_cons.mpr ⟨am_k508, List.forall_mem_cons.mpr ⟨am_k509, List.forall_mem_cons.mpr ⟨am_k510, List.forall_mem_cons.mpr ⟨am_k511, List.forall_mem_cons.mpr ⟨am_k601, List.forall_mem_cons.mpr ⟨am_k602, List.forall_mem_cons.mpr ⟨am_k603, List.forall_mem_cons.mpr ⟨am_k604, List.forall_mem_cons.mpr ⟨am_k605, List.forall_mem_cons.mpr ⟨am_k606, List.forall_mem_cons.mpr ⟨am_k607, List.forall_mem_cons.mpr ⟨am_k608, List.forall_mem_cons.mpr ⟨am_k609, List.forall_mem_cons.mpr ⟨am_k610, List.forall_mem_cons.mpr ⟨am_k611, List.forall_mem_cons.mpr ⟨am_k701, List.forall_mem_cons.mpr ⟨am_k702, List.forall_mem_cons.mpr ⟨am_k703, List.forall_mem_cons.mpr ⟨am_k704, List.forall_mem_cons.mpr ⟨am_k705, List.forall_mem_cons.mpr ⟨am_k706, List.forall_mem_cons.mpr ⟨am_k707, List.forall_mem_cons.mpr ⟨am_k708, List.forall_mem_cons.mpr ⟨am_k709, List.forall_mem_cons.mpr ⟨am_k710, List.forall_mem_cons.mpr ⟨am_k711, List.forall_mem_cons.mpr ⟨am_k712, List.forall_mem_cons.mpr ⟨am_k713, List.forall_mem_cons.mpr ⟨am_k714, List.forall_mem_cons.mpr ⟨am_k715, List.forall_mem_cons.mpr ⟨am_k716, List.forall_mem_cons.mpr ⟨am_k717, List.forall_mem_cons.mpr ⟨am_k718, List.forall_mem_cons.mpr ⟨am_k719, List.forall_mem_cons.mpr ⟨am_k720, List.forall_mem_cons.mpr ⟨am_k721, List.forall_mem_cons.mpr ⟨am_k722, List.forall_mem_cons.mpr ⟨am_k723, List.forall_mem_cons.mpr ⟨am_k724, List.forall_mem_cons.mpr ⟨am_k725, List.forall_mem_cons.mpr ⟨am_k801, List.forall_mem_cons.mpr ⟨am_k802, List.forall_mem_cons.mpr ⟨am_k803, List.forall_mem_cons.mpr ⟨am_k804, List.forall_mem_cons.mpr ⟨am_k901, List.forall_mem_cons.mpr ⟨am_k902, List.forall_mem_cons.mpr ⟨am_k903, List.forall_mem_cons.mpr ⟨am_k904, List.forall_mem_cons.mpr ⟨am_k905, List.forall_mem_cons.mpr ⟨am_k906, List.forall_mem_cons.mpr ⟨am_k907, List.forall_mem_cons.mpr ⟨am_k908, List.forall_mem_cons.mpr ⟨am_k909, List.forall_mem_cons.mpr ⟨am_k910, List.forall_mem_cons.mpr ⟨am_k911, List.forall_mem_cons.mpr ⟨am_k912, List.forall_mem_cons.mpr ⟨am_k913, List.forall_mem_cons.mpr ⟨am_k914, List.forall_mem_cons.mpr ⟨am_k915, List.forall_mem_cons.mpr ⟨am_k916, List.forall_mem_cons.mpr ⟨am_k917, List.forall_mem_cons.mpr ⟨am_k918, List.forall_mem_cons.mpr ⟨am_k919, List.forall_mem_cons.mpr ⟨am_k920, List.forall_mem_cons.mpr ⟨am_k921, List.forall_mem_cons.mpr ⟨am_k922, List.forall_mem_cons.mpr ⟨am_k923, List.forall_mem_cons.mpr ⟨am_k924, List.forall_mem_cons.mpr ⟨am_k925, List.forall_mem_cons.mpr ⟨am_k926, List.forall_mem_cons.mpr ⟨am_k927, List.forall_mem_cons.mpr ⟨am_k928, List.forall_mem_cons.mpr ⟨am_k929, List.forall_mem_cons.mpr ⟨am_k930, List.forall_mem_cons.mpr ⟨am_k931, List.forall_mem_cons.mpr ⟨am_k932, List.forall_mem_cons.mpr ⟨am_k933, List.forall_mem_cons.mpr ⟨am_k1001, List.forall_mem_cons.mpr ⟨am_k1002, List.forall_mem_cons.mpr ⟨am_k1003, List.forall_mem_cons.mpr ⟨am_k1004, List.forall_mem_cons.mpr ⟨am_k1005, List.forall_mem_cons.mpr ⟨am_k1006, List.forall_mem_cons.mpr ⟨am_k1007, List.forall_mem_cons.mpr ⟨am_k1008, List.forall_mem_cons.mpr ⟨am_k1009, List.forall_mem_cons.mpr ⟨am_k1010, List.forall_mem_cons.mpr ⟨am_k1011, List.forall_mem_cons.mpr ⟨am_k1012, List.forall_mem_cons.mpr ⟨am_k1013, List.forall_mem_cons.mpr ⟨am_k1014, List.forall_mem_cons.mpr ⟨am_k1015, List.forall_mem_cons.mpr ⟨am_k1016, List.forall_mem_cons.mpr ⟨am_k1017, List.forall_mem_cons.mpr ⟨am_k1018, List.forall_mem_cons.mpr ⟨am_k1019, List.forall_mem_cons.mpr ⟨am_k1020, List.forall_mem_cons.mpr ⟨am_k1021, List.forall_mem_cons.mpr ⟨am_k1022, List.forall_mem_cons.mpr ⟨am_k1023, List.forall_mem_cons.mpr ⟨am_k1024, List.forall_mem_cons.mpr ⟨am_k1025, List.forall_mem_cons.mpr ⟨am_k1026, List.forall_mem_cons.mpr ⟨am_k1027, List.forall_mem_cons.mpr ⟨am_k1028, List.forall_mem_cons.mpr ⟨am_k1029, List.forall_mem_cons.mpr ⟨am_k1030, List.forall_mem_cons.mpr ⟨am_k1031, List.forall_mem_cons.mpr ⟨am_k1032, List.forall_mem_cons.mpr ⟨am_k1033, List.forall_mem_cons.mpr ⟨am_k1034, List.forall_mem_cons.mpr ⟨am_k1035, List.forall_mem_cons.mpr ⟨am_k1036, List.forall_mem_cons.mpr ⟨am_k1037, List.forall_mem_cons.mpr ⟨am_k1038, List.forall_mem_cons.mpr ⟨am_k1039, List.forall_mem_cons.mpr ⟨am_k1040, List.forall_mem_cons.mpr ⟨am_k1041, List.forall_mem_cons.mpr ⟨am_k1042, List.forall_mem_cons.mpr ⟨am_k1043, List.forall_mem_cons.mpr ⟨am_k1044, List.forall_mem_cons.mpr ⟨am_k1045, List.forall_mem_cons.mpr ⟨am_k1046, List.forall_mem_cons.mpr ⟨am_k1047, List.forall_mem_cons.mpr ⟨am_k1048, List.forall_mem_cons.mpr ⟨am_k1049, List.forall_mem_cons.mpr ⟨am_k1050, List.forall_mem_cons.mpr ⟨am_k1051, List.forall_mem_cons.mpr ⟨am_k1052, List.forall_mem_cons.mpr ⟨am_k1053, List.forall_mem_cons.mpr ⟨am_k1054, List.forall_mem_cons.mpr ⟨am_k1055, List.forall_mem_cons.mpr ⟨am_k1056, List.forall_mem_cons.mpr ⟨am_k1057, List.forall_mem_cons.mpr ⟨am_k1058, List.forall_mem_cons.mpr ⟨am_k1059, List.forall_mem_cons.mpr ⟨am_k1060, List.forall_mem_cons.mpr ⟨am_k1061, List.forall_mem_cons.mpr ⟨am_k1062, List.forall_mem_cons.mpr ⟨am_k1063, List.forall_mem_cons.mpr ⟨am_k1064, List.forall_mem_cons.mpr ⟨am_k1065, List.forall_mem_cons.mpr ⟨am_k1066, List.forall_mem_cons.mpr ⟨am_k1067, List.forall_mem_cons.mpr ⟨am_k1068, List.forall_mem_cons.mpr ⟨am_k1069, List.forall_mem_cons.mpr ⟨am_k1070, List.forall_mem_cons.mpr ⟨am_k1071, List.forall_mem_cons.mpr ⟨am_k1072, List.forall_mem_cons.mpr ⟨am_k1073, List.forall_mem_cons.mpr ⟨am_k1074, List.forall_mem_cons.mpr ⟨am_k1075, List.forall_mem_cons.mpr ⟨am_k1076, List.forall_mem_cons.mpr ⟨am_k1077, List.forall_mem_cons.mpr ⟨am_k1078, List.forall_mem_cons.mpr ⟨am_k1079, List.forall_mem_cons.mpr ⟨am_k1100, List.forall_mem_cons.mpr ⟨am_k1200, List.forall_mem_cons.mpr ⟨am_k1300, List.forall_mem_cons.mpr ⟨am_k1400, List.forall_mem_cons.mpr ⟨am_k1401, List.forall_mem_cons.mpr ⟨am_k1402, List.forall_mem_cons.mpr ⟨am_k1403, List.forall_mem_cons.mpr ⟨am_k1404, List.forall_mem_cons.mpr ⟨am_k1500, List.forall_mem_cons.mpr ⟨am_k1600, (fun _ h => absurd h List.not_mem_nil)⟩⟩⟩⟩⟩⟩⟩⟩⟩⟩⟩⟩⟩⟩⟩⟩⟩⟩⟩⟩⟩⟩⟩⟩⟩⟩⟩⟩⟩⟩⟩⟩⟩⟩⟩⟩⟩⟩⟩⟩⟩⟩⟩⟩⟩⟩⟩⟩⟩⟩⟩⟩⟩⟩⟩⟩⟩⟩⟩⟩⟩⟩⟩⟩⟩⟩⟩⟩⟩⟩⟩⟩⟩⟩⟩⟩⟩⟩⟩⟩⟩⟩⟩⟩⟩⟩⟩⟩⟩⟩⟩⟩⟩⟩⟩⟩⟩⟩⟩⟩⟩⟩⟩⟩⟩⟩⟩⟩⟩⟩⟩⟩⟩⟩⟩⟩⟩⟩⟩⟩⟩⟩⟩⟩⟩⟩⟩⟩⟩⟩⟩⟩⟩⟩⟩⟩⟩⟩⟩⟩⟩⟩⟩⟩⟩⟩⟩⟩⟩⟩⟩⟩⟩⟩⟩⟩⟩⟩⟩⟩⟩⟩⟩⟩⟩⟩⟩⟩⟩⟩⟩⟩⟩⟩⟩⟩⟩⟩⟩⟩⟩⟩⟩⟩⟩⟩⟩⟩⟩⟩⟩⟩⟩⟩⟩⟩⟩⟩⟩⟩⟩⟩⟩⟩⟩⟩⟩
end
section
theorem i_vc : Claimed_1_1 ∧ Claimed_1_2 := sorry
end
