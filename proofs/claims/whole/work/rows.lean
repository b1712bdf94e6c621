section
-- ===== PART A: goes FIRST, ahead of the names: the tables' words, and 'selects' of the private methods out of them =====
/-- a private method of a class that the tables say can be made, by its rows of tables_1 -/
def lw_okq (q : MethodName × Nat) : Prop := (q.1.cls ≠ "java/lang/invoke/MethodHandle" ∧ q.1.cls ≠ "java/lang/invoke/VarHandle") ∧ Cond.instantiable q.1.cls q.2 ∈ tables_1 ∧ Cond.privateMethod q.1 ∈ tables_1 ∧ Cond.instanceMethod q.1 ∈ tables_1
theorem lw_p0 : lw_okq (⟨"TrunkRadio$Reader", "readToken", "()V"⟩, 9) := ⟨⟨by decide +kernel, by decide +kernel⟩, List.mem_of_getElem? (i := 20) (by decide +kernel), List.mem_of_getElem? (i := 267) (by decide +kernel), List.mem_of_getElem? (i := 268) (by decide +kernel)⟩
theorem lw_p1 : lw_okq (⟨"TrunkRadio$Reader", "letterAt", "(I)I"⟩, 9) := ⟨⟨by decide +kernel, by decide +kernel⟩, List.mem_of_getElem? (i := 20) (by decide +kernel), List.mem_of_getElem? (i := 271) (by decide +kernel), List.mem_of_getElem? (i := 272) (by decide +kernel)⟩
theorem lw_p2 : lw_okq (⟨"TrunkRadio$Reader", "readNumber", "()V"⟩, 9) := ⟨⟨by decide +kernel, by decide +kernel⟩, List.mem_of_getElem? (i := 20) (by decide +kernel), List.mem_of_getElem? (i := 278) (by decide +kernel), List.mem_of_getElem? (i := 279) (by decide +kernel)⟩
theorem lw_p3 : lw_okq (⟨"TrunkRadio$Reader", "readItem", "(LTrunkRadio$Net;)Z"⟩, 9) := ⟨⟨by decide +kernel, by decide +kernel⟩, List.mem_of_getElem? (i := 20) (by decide +kernel), List.mem_of_getElem? (i := 285) (by decide +kernel), List.mem_of_getElem? (i := 286) (by decide +kernel)⟩
theorem lw_p4 : lw_okq (⟨"TrunkRadio$Reader", "readChannels", "(LTrunkRadio$Net;)Z"⟩, 9) := ⟨⟨by decide +kernel, by decide +kernel⟩, List.mem_of_getElem? (i := 20) (by decide +kernel), List.mem_of_getElem? (i := 289) (by decide +kernel), List.mem_of_getElem? (i := 290) (by decide +kernel)⟩
theorem lw_p5 : lw_okq (⟨"TrunkRadio$Reader", "isNumberFrom", "(II)Z"⟩, 9) := ⟨⟨by decide +kernel, by decide +kernel⟩, List.mem_of_getElem? (i := 20) (by decide +kernel), List.mem_of_getElem? (i := 293) (by decide +kernel), List.mem_of_getElem? (i := 294) (by decide +kernel)⟩
theorem lw_p6 : lw_okq (⟨"TrunkRadio$Reader", "isEnded", "()Z"⟩, 9) := ⟨⟨by decide +kernel, by decide +kernel⟩, List.mem_of_getElem? (i := 20) (by decide +kernel), List.mem_of_getElem? (i := 297) (by decide +kernel), List.mem_of_getElem? (i := 298) (by decide +kernel)⟩
theorem lw_p7 : lw_okq (⟨"TrunkRadio$Reader", "readAir", "(LTrunkRadio$Net;)Z"⟩, 9) := ⟨⟨by decide +kernel, by decide +kernel⟩, List.mem_of_getElem? (i := 20) (by decide +kernel), List.mem_of_getElem? (i := 301) (by decide +kernel), List.mem_of_getElem? (i := 302) (by decide +kernel)⟩
theorem lw_p8 : lw_okq (⟨"TrunkRadio$Reader", "readPatience", "(LTrunkRadio$Net;)Z"⟩, 9) := ⟨⟨by decide +kernel, by decide +kernel⟩, List.mem_of_getElem? (i := 20) (by decide +kernel), List.mem_of_getElem? (i := 305) (by decide +kernel), List.mem_of_getElem? (i := 306) (by decide +kernel)⟩
theorem lw_p9 : lw_okq (⟨"TrunkRadio$Reader", "readRadio", "(LTrunkRadio$Net;)Z"⟩, 9) := ⟨⟨by decide +kernel, by decide +kernel⟩, List.mem_of_getElem? (i := 20) (by decide +kernel), List.mem_of_getElem? (i := 309) (by decide +kernel), List.mem_of_getElem? (i := 310) (by decide +kernel)⟩
theorem lw_p10 : lw_okq (⟨"TrunkRadio$Air", "tryAgain", "(LTrunkRadio$Net;LTrunkRadio$State;)V"⟩, 2) := ⟨⟨by decide +kernel, by decide +kernel⟩, List.mem_of_getElem? (i := 111) (by decide +kernel), List.mem_of_getElem? (i := 379) (by decide +kernel), List.mem_of_getElem? (i := 380) (by decide +kernel)⟩
theorem lw_p11 : lw_okq (⟨"TrunkRadio$Air", "cutLongTalks", "(LTrunkRadio$Net;LTrunkRadio$State;)V"⟩, 2) := ⟨⟨by decide +kernel, by decide +kernel⟩, List.mem_of_getElem? (i := 111) (by decide +kernel), List.mem_of_getElem? (i := 383) (by decide +kernel), List.mem_of_getElem? (i := 384) (by decide +kernel)⟩
theorem lw_p12 : lw_okq (⟨"TrunkRadio", "waveLasts", "(I)I"⟩, 13) := ⟨⟨by decide +kernel, by decide +kernel⟩, List.mem_of_getElem? (i := 12) (by decide +kernel), List.mem_of_getElem? (i := 495) (by decide +kernel), List.mem_of_getElem? (i := 496) (by decide +kernel)⟩
theorem lw_p13 : lw_okq (⟨"TrunkRadio", "isEnough", "(I)Z"⟩, 13) := ⟨⟨by decide +kernel, by decide +kernel⟩, List.mem_of_getElem? (i := 12) (by decide +kernel), List.mem_of_getElem? (i := 508) (by decide +kernel), List.mem_of_getElem? (i := 509) (by decide +kernel)⟩
theorem lw_p14 : lw_okq (⟨"TrunkRadio", "talksAmong", "(III)Z"⟩, 13) := ⟨⟨by decide +kernel, by decide +kernel⟩, List.mem_of_getElem? (i := 12) (by decide +kernel), List.mem_of_getElem? (i := 529) (by decide +kernel), List.mem_of_getElem? (i := 530) (by decide +kernel)⟩
theorem lw_p15 : lw_okq (⟨"TrunkRadio", "ranksThatFit", "(I)I"⟩, 13) := ⟨⟨by decide +kernel, by decide +kernel⟩, List.mem_of_getElem? (i := 12) (by decide +kernel), List.mem_of_getElem? (i := 548) (by decide +kernel), List.mem_of_getElem? (i := 549) (by decide +kernel)⟩
def lw_privs_1 : List (MethodName × Nat) := [(⟨"TrunkRadio$Reader", "readToken", "()V"⟩, 9), (⟨"TrunkRadio$Reader", "letterAt", "(I)I"⟩, 9), (⟨"TrunkRadio$Reader", "readNumber", "()V"⟩, 9), (⟨"TrunkRadio$Reader", "readItem", "(LTrunkRadio$Net;)Z"⟩, 9), (⟨"TrunkRadio$Reader", "readChannels", "(LTrunkRadio$Net;)Z"⟩, 9), (⟨"TrunkRadio$Reader", "isNumberFrom", "(II)Z"⟩, 9), (⟨"TrunkRadio$Reader", "isEnded", "()Z"⟩, 9), (⟨"TrunkRadio$Reader", "readAir", "(LTrunkRadio$Net;)Z"⟩, 9), (⟨"TrunkRadio$Reader", "readPatience", "(LTrunkRadio$Net;)Z"⟩, 9), (⟨"TrunkRadio$Reader", "readRadio", "(LTrunkRadio$Net;)Z"⟩, 9), (⟨"TrunkRadio$Air", "tryAgain", "(LTrunkRadio$Net;LTrunkRadio$State;)V"⟩, 2), (⟨"TrunkRadio$Air", "cutLongTalks", "(LTrunkRadio$Net;LTrunkRadio$State;)V"⟩, 2), (⟨"TrunkRadio", "waveLasts", "(I)I"⟩, 13), (⟨"TrunkRadio", "isEnough", "(I)Z"⟩, 13), (⟨"TrunkRadio", "talksAmong", "(III)Z"⟩, 13), (⟨"TrunkRadio", "ranksThatFit", "(I)I"⟩, 13)]
theorem lw_r1 : ∀ q ∈ lw_privs_1, lw_okq q := List.forall_mem_cons.mpr ⟨lw_p0, List.forall_mem_cons.mpr ⟨lw_p1, List.forall_mem_cons.mpr ⟨lw_p2, List.forall_mem_cons.mpr ⟨lw_p3, List.forall_mem_cons.mpr ⟨lw_p4, List.forall_mem_cons.mpr ⟨lw_p5, List.forall_mem_cons.mpr ⟨lw_p6, List.forall_mem_cons.mpr ⟨lw_p7, List.forall_mem_cons.mpr ⟨lw_p8, List.forall_mem_cons.mpr ⟨lw_p9, List.forall_mem_cons.mpr ⟨lw_p10, List.forall_mem_cons.mpr ⟨lw_p11, List.forall_mem_cons.mpr ⟨lw_p12, List.forall_mem_cons.mpr ⟨lw_p13, List.forall_mem_cons.mpr ⟨lw_p14, List.forall_mem_cons.mpr ⟨lw_p15, fun _ h => absurd h List.not_mem_nil⟩⟩⟩⟩⟩⟩⟩⟩⟩⟩⟩⟩⟩⟩⟩⟩
theorem lw_p16 : lw_okq (⟨"TrunkRadio", "timesOnAir", "(I)I"⟩, 13) := ⟨⟨by decide +kernel, by decide +kernel⟩, List.mem_of_getElem? (i := 12) (by decide +kernel), List.mem_of_getElem? (i := 552) (by decide +kernel), List.mem_of_getElem? (i := 553) (by decide +kernel)⟩
theorem lw_p17 : lw_okq (⟨"TrunkRadio", "agreesWithSeen", "(I)Z"⟩, 13) := ⟨⟨by decide +kernel, by decide +kernel⟩, List.mem_of_getElem? (i := 12) (by decide +kernel), List.mem_of_getElem? (i := 556) (by decide +kernel), List.mem_of_getElem? (i := 557) (by decide +kernel)⟩
theorem lw_p18 : lw_okq (⟨"TrunkRadio", "ranksOnAir", "(II)I"⟩, 13) := ⟨⟨by decide +kernel, by decide +kernel⟩, List.mem_of_getElem? (i := 12) (by decide +kernel), List.mem_of_getElem? (i := 564) (by decide +kernel), List.mem_of_getElem? (i := 565) (by decide +kernel)⟩
theorem lw_p19 : lw_okq (⟨"TrunkRadioModel", "begins", "()V"⟩, 25) := ⟨⟨by decide +kernel, by decide +kernel⟩, List.mem_of_getElem? (i := 580) (by decide +kernel), List.mem_of_getElem? (i := 586) (by decide +kernel), List.mem_of_getElem? (i := 587) (by decide +kernel)⟩
theorem lw_p20 : lw_okq (⟨"TrunkRadioModel", "settles", "()V"⟩, 25) := ⟨⟨by decide +kernel, by decide +kernel⟩, List.mem_of_getElem? (i := 580) (by decide +kernel), List.mem_of_getElem? (i := 590) (by decide +kernel), List.mem_of_getElem? (i := 591) (by decide +kernel)⟩
theorem lw_p21 : lw_okq (⟨"TrunkRadioModel", "advances", "()V"⟩, 25) := ⟨⟨by decide +kernel, by decide +kernel⟩, List.mem_of_getElem? (i := 580) (by decide +kernel), List.mem_of_getElem? (i := 689) (by decide +kernel), List.mem_of_getElem? (i := 690) (by decide +kernel)⟩
theorem lw_p22 : lw_okq (⟨"TrunkRadioModel", "letterAt", "(I)I"⟩, 25) := ⟨⟨by decide +kernel, by decide +kernel⟩, List.mem_of_getElem? (i := 580) (by decide +kernel), List.mem_of_getElem? (i := 693) (by decide +kernel), List.mem_of_getElem? (i := 694) (by decide +kernel)⟩
theorem lw_p23 : lw_okq (⟨"TrunkRadioModel", "isWell", "()Z"⟩, 25) := ⟨⟨by decide +kernel, by decide +kernel⟩, List.mem_of_getElem? (i := 580) (by decide +kernel), List.mem_of_getElem? (i := 697) (by decide +kernel), List.mem_of_getElem? (i := 698) (by decide +kernel)⟩
theorem lw_p24 : lw_okq (⟨"TrunkRadioModel", "mayBegin", "()Z"⟩, 25) := ⟨⟨by decide +kernel, by decide +kernel⟩, List.mem_of_getElem? (i := 580) (by decide +kernel), List.mem_of_getElem? (i := 701) (by decide +kernel), List.mem_of_getElem? (i := 702) (by decide +kernel)⟩
theorem lw_p25 : lw_okq (⟨"TrunkRadioModel", "takes", "(Z)I"⟩, 25) := ⟨⟨by decide +kernel, by decide +kernel⟩, List.mem_of_getElem? (i := 580) (by decide +kernel), List.mem_of_getElem? (i := 708) (by decide +kernel), List.mem_of_getElem? (i := 709) (by decide +kernel)⟩
theorem lw_p26 : lw_okq (⟨"TrunkRadioModel", "readsItem", "(I)V"⟩, 25) := ⟨⟨by decide +kernel, by decide +kernel⟩, List.mem_of_getElem? (i := 580) (by decide +kernel), List.mem_of_getElem? (i := 712) (by decide +kernel), List.mem_of_getElem? (i := 713) (by decide +kernel)⟩
theorem lw_p27 : lw_okq (⟨"TrunkRadioModel", "number", "(II)I"⟩, 25) := ⟨⟨by decide +kernel, by decide +kernel⟩, List.mem_of_getElem? (i := 580) (by decide +kernel), List.mem_of_getElem? (i := 716) (by decide +kernel), List.mem_of_getElem? (i := 717) (by decide +kernel)⟩
theorem lw_p28 : lw_okq (⟨"TrunkRadioModel", "notes", "()V"⟩, 25) := ⟨⟨by decide +kernel, by decide +kernel⟩, List.mem_of_getElem? (i := 580) (by decide +kernel), List.mem_of_getElem? (i := 724) (by decide +kernel), List.mem_of_getElem? (i := 725) (by decide +kernel)⟩
theorem lw_p29 : lw_okq (⟨"TrunkRadioModel", "goes", "([I)V"⟩, 25) := ⟨⟨by decide +kernel, by decide +kernel⟩, List.mem_of_getElem? (i := 580) (by decide +kernel), List.mem_of_getElem? (i := 728) (by decide +kernel), List.mem_of_getElem? (i := 729) (by decide +kernel)⟩
theorem lw_p30 : lw_okq (⟨"TrunkRadioModel", "controls2", "([II)V"⟩, 25) := ⟨⟨by decide +kernel, by decide +kernel⟩, List.mem_of_getElem? (i := 580) (by decide +kernel), List.mem_of_getElem? (i := 732) (by decide +kernel), List.mem_of_getElem? (i := 733) (by decide +kernel)⟩
theorem lw_p31 : lw_okq (⟨"TrunkRadioModel", "heardAt", "([II)I"⟩, 25) := ⟨⟨by decide +kernel, by decide +kernel⟩, List.mem_of_getElem? (i := 580) (by decide +kernel), List.mem_of_getElem? (i := 736) (by decide +kernel), List.mem_of_getElem? (i := 737) (by decide +kernel)⟩
def lw_privs_2 : List (MethodName × Nat) := [(⟨"TrunkRadio", "timesOnAir", "(I)I"⟩, 13), (⟨"TrunkRadio", "agreesWithSeen", "(I)Z"⟩, 13), (⟨"TrunkRadio", "ranksOnAir", "(II)I"⟩, 13), (⟨"TrunkRadioModel", "begins", "()V"⟩, 25), (⟨"TrunkRadioModel", "settles", "()V"⟩, 25), (⟨"TrunkRadioModel", "advances", "()V"⟩, 25), (⟨"TrunkRadioModel", "letterAt", "(I)I"⟩, 25), (⟨"TrunkRadioModel", "isWell", "()Z"⟩, 25), (⟨"TrunkRadioModel", "mayBegin", "()Z"⟩, 25), (⟨"TrunkRadioModel", "takes", "(Z)I"⟩, 25), (⟨"TrunkRadioModel", "readsItem", "(I)V"⟩, 25), (⟨"TrunkRadioModel", "number", "(II)I"⟩, 25), (⟨"TrunkRadioModel", "notes", "()V"⟩, 25), (⟨"TrunkRadioModel", "goes", "([I)V"⟩, 25), (⟨"TrunkRadioModel", "controls2", "([II)V"⟩, 25), (⟨"TrunkRadioModel", "heardAt", "([II)I"⟩, 25)]
theorem lw_r2 : ∀ q ∈ lw_privs_2, lw_okq q := List.forall_mem_cons.mpr ⟨lw_p16, List.forall_mem_cons.mpr ⟨lw_p17, List.forall_mem_cons.mpr ⟨lw_p18, List.forall_mem_cons.mpr ⟨lw_p19, List.forall_mem_cons.mpr ⟨lw_p20, List.forall_mem_cons.mpr ⟨lw_p21, List.forall_mem_cons.mpr ⟨lw_p22, List.forall_mem_cons.mpr ⟨lw_p23, List.forall_mem_cons.mpr ⟨lw_p24, List.forall_mem_cons.mpr ⟨lw_p25, List.forall_mem_cons.mpr ⟨lw_p26, List.forall_mem_cons.mpr ⟨lw_p27, List.forall_mem_cons.mpr ⟨lw_p28, List.forall_mem_cons.mpr ⟨lw_p29, List.forall_mem_cons.mpr ⟨lw_p30, List.forall_mem_cons.mpr ⟨lw_p31, fun _ h => absurd h List.not_mem_nil⟩⟩⟩⟩⟩⟩⟩⟩⟩⟩⟩⟩⟩⟩⟩⟩
theorem lw_p32 : lw_okq (⟨"TrunkRadioModel", "isSentAt", "([III)Z"⟩, 25) := ⟨⟨by decide +kernel, by decide +kernel⟩, List.mem_of_getElem? (i := 580) (by decide +kernel), List.mem_of_getElem? (i := 740) (by decide +kernel), List.mem_of_getElem? (i := 741) (by decide +kernel)⟩
theorem lw_p33 : lw_okq (⟨"TrunkRadioModel", "helpsItself", "([II)V"⟩, 25) := ⟨⟨by decide +kernel, by decide +kernel⟩, List.mem_of_getElem? (i := 580) (by decide +kernel), List.mem_of_getElem? (i := 747) (by decide +kernel), List.mem_of_getElem? (i := 748) (by decide +kernel)⟩
theorem lw_p34 : lw_okq (⟨"TrunkRadioModel", "lines", "([I)V"⟩, 25) := ⟨⟨by decide +kernel, by decide +kernel⟩, List.mem_of_getElem? (i := 580) (by decide +kernel), List.mem_of_getElem? (i := 754) (by decide +kernel), List.mem_of_getElem? (i := 755) (by decide +kernel)⟩
theorem lw_p35 : lw_okq (⟨"TrunkRadioModel", "isAhead", "([III)Z"⟩, 25) := ⟨⟨by decide +kernel, by decide +kernel⟩, List.mem_of_getElem? (i := 580) (by decide +kernel), List.mem_of_getElem? (i := 758) (by decide +kernel), List.mem_of_getElem? (i := 759) (by decide +kernel)⟩
theorem lw_p36 : lw_okq (⟨"TrunkRadioModel", "serves", "([II)V"⟩, 25) := ⟨⟨by decide +kernel, by decide +kernel⟩, List.mem_of_getElem? (i := 580) (by decide +kernel), List.mem_of_getElem? (i := 762) (by decide +kernel), List.mem_of_getElem? (i := 763) (by decide +kernel)⟩
theorem lw_p37 : lw_okq (⟨"TrunkRadioModel", "talkerOf", "([II)I"⟩, 25) := ⟨⟨by decide +kernel, by decide +kernel⟩, List.mem_of_getElem? (i := 580) (by decide +kernel), List.mem_of_getElem? (i := 766) (by decide +kernel), List.mem_of_getElem? (i := 767) (by decide +kernel)⟩
theorem lw_p38 : lw_okq (⟨"TrunkRadioModel", "neededBy", "([II)I"⟩, 25) := ⟨⟨by decide +kernel, by decide +kernel⟩, List.mem_of_getElem? (i := 580) (by decide +kernel), List.mem_of_getElem? (i := 770) (by decide +kernel), List.mem_of_getElem? (i := 771) (by decide +kernel)⟩
theorem lw_p39 : lw_okq (⟨"TrunkRadioModel", "isFree", "([II)Z"⟩, 25) := ⟨⟨by decide +kernel, by decide +kernel⟩, List.mem_of_getElem? (i := 580) (by decide +kernel), List.mem_of_getElem? (i := 774) (by decide +kernel), List.mem_of_getElem? (i := 775) (by decide +kernel)⟩
theorem lw_p40 : lw_okq (⟨"TrunkRadioModel", "freeAt", "([II)I"⟩, 25) := ⟨⟨by decide +kernel, by decide +kernel⟩, List.mem_of_getElem? (i := 580) (by decide +kernel), List.mem_of_getElem? (i := 781) (by decide +kernel), List.mem_of_getElem? (i := 782) (by decide +kernel)⟩
theorem lw_p41 : lw_okq (⟨"TrunkRadioModel", "takesOver", "([II)V"⟩, 25) := ⟨⟨by decide +kernel, by decide +kernel⟩, List.mem_of_getElem? (i := 580) (by decide +kernel), List.mem_of_getElem? (i := 785) (by decide +kernel), List.mem_of_getElem? (i := 786) (by decide +kernel)⟩
theorem lw_p42 : lw_okq (⟨"TrunkRadioModel", "leastAt", "([II)I"⟩, 25) := ⟨⟨by decide +kernel, by decide +kernel⟩, List.mem_of_getElem? (i := 580) (by decide +kernel), List.mem_of_getElem? (i := 789) (by decide +kernel), List.mem_of_getElem? (i := 790) (by decide +kernel)⟩
theorem lw_p43 : lw_okq (⟨"TrunkRadioModel", "isOn", "([II)Z"⟩, 25) := ⟨⟨by decide +kernel, by decide +kernel⟩, List.mem_of_getElem? (i := 580) (by decide +kernel), List.mem_of_getElem? (i := 793) (by decide +kernel), List.mem_of_getElem? (i := 794) (by decide +kernel)⟩
theorem lw_p44 : lw_okq (⟨"TrunkRadioModel", "isRadio", "(I)Z"⟩, 25) := ⟨⟨by decide +kernel, by decide +kernel⟩, List.mem_of_getElem? (i := 580) (by decide +kernel), List.mem_of_getElem? (i := 801) (by decide +kernel), List.mem_of_getElem? (i := 802) (by decide +kernel)⟩
theorem lw_p45 : lw_okq (⟨"TrunkRadioModel", "enough", "(I)I"⟩, 25) := ⟨⟨by decide +kernel, by decide +kernel⟩, List.mem_of_getElem? (i := 580) (by decide +kernel), List.mem_of_getElem? (i := 849) (by decide +kernel), List.mem_of_getElem? (i := 850) (by decide +kernel)⟩
theorem lw_p46 : lw_okq (⟨"TrunkRadioModel", "presses2", "(I)V"⟩, 25) := ⟨⟨by decide +kernel, by decide +kernel⟩, List.mem_of_getElem? (i := 580) (by decide +kernel), List.mem_of_getElem? (i := 853) (by decide +kernel), List.mem_of_getElem? (i := 854) (by decide +kernel)⟩
theorem lw_p47 : lw_okq (⟨"TrunkRadioModel", "lasts", "()I"⟩, 25) := ⟨⟨by decide +kernel, by decide +kernel⟩, List.mem_of_getElem? (i := 580) (by decide +kernel), List.mem_of_getElem? (i := 857) (by decide +kernel), List.mem_of_getElem? (i := 858) (by decide +kernel)⟩
def lw_privs_3 : List (MethodName × Nat) := [(⟨"TrunkRadioModel", "isSentAt", "([III)Z"⟩, 25), (⟨"TrunkRadioModel", "helpsItself", "([II)V"⟩, 25), (⟨"TrunkRadioModel", "lines", "([I)V"⟩, 25), (⟨"TrunkRadioModel", "isAhead", "([III)Z"⟩, 25), (⟨"TrunkRadioModel", "serves", "([II)V"⟩, 25), (⟨"TrunkRadioModel", "talkerOf", "([II)I"⟩, 25), (⟨"TrunkRadioModel", "neededBy", "([II)I"⟩, 25), (⟨"TrunkRadioModel", "isFree", "([II)Z"⟩, 25), (⟨"TrunkRadioModel", "freeAt", "([II)I"⟩, 25), (⟨"TrunkRadioModel", "takesOver", "([II)V"⟩, 25), (⟨"TrunkRadioModel", "leastAt", "([II)I"⟩, 25), (⟨"TrunkRadioModel", "isOn", "([II)Z"⟩, 25), (⟨"TrunkRadioModel", "isRadio", "(I)Z"⟩, 25), (⟨"TrunkRadioModel", "enough", "(I)I"⟩, 25), (⟨"TrunkRadioModel", "presses2", "(I)V"⟩, 25), (⟨"TrunkRadioModel", "lasts", "()I"⟩, 25)]
theorem lw_r3 : ∀ q ∈ lw_privs_3, lw_okq q := List.forall_mem_cons.mpr ⟨lw_p32, List.forall_mem_cons.mpr ⟨lw_p33, List.forall_mem_cons.mpr ⟨lw_p34, List.forall_mem_cons.mpr ⟨lw_p35, List.forall_mem_cons.mpr ⟨lw_p36, List.forall_mem_cons.mpr ⟨lw_p37, List.forall_mem_cons.mpr ⟨lw_p38, List.forall_mem_cons.mpr ⟨lw_p39, List.forall_mem_cons.mpr ⟨lw_p40, List.forall_mem_cons.mpr ⟨lw_p41, List.forall_mem_cons.mpr ⟨lw_p42, List.forall_mem_cons.mpr ⟨lw_p43, List.forall_mem_cons.mpr ⟨lw_p44, List.forall_mem_cons.mpr ⟨lw_p45, List.forall_mem_cons.mpr ⟨lw_p46, List.forall_mem_cons.mpr ⟨lw_p47, fun _ h => absurd h List.not_mem_nil⟩⟩⟩⟩⟩⟩⟩⟩⟩⟩⟩⟩⟩⟩⟩⟩
theorem lw_p48 : lw_okq (⟨"TrunkRadioModel", "onBy", "(II)I"⟩, 25) := ⟨⟨by decide +kernel, by decide +kernel⟩, List.mem_of_getElem? (i := 580) (by decide +kernel), List.mem_of_getElem? (i := 880) (by decide +kernel), List.mem_of_getElem? (i := 881) (by decide +kernel)⟩
theorem lw_p49 : lw_okq (⟨"TrunkRadioModel", "isAsSeen", "(I)Z"⟩, 25) := ⟨⟨by decide +kernel, by decide +kernel⟩, List.mem_of_getElem? (i := 580) (by decide +kernel), List.mem_of_getElem? (i := 884) (by decide +kernel), List.mem_of_getElem? (i := 885) (by decide +kernel)⟩
def lw_privs_4 : List (MethodName × Nat) := [(⟨"TrunkRadioModel", "onBy", "(II)I"⟩, 25), (⟨"TrunkRadioModel", "isAsSeen", "(I)Z"⟩, 25)]
theorem lw_r4 : ∀ q ∈ lw_privs_4, lw_okq q := List.forall_mem_cons.mpr ⟨lw_p48, List.forall_mem_cons.mpr ⟨lw_p49, fun _ h => absurd h List.not_mem_nil⟩⟩
def lw_privs : List (MethodName × Nat) := lw_privs_1 ++ (lw_privs_2 ++ (lw_privs_3 ++ (lw_privs_4)))
def lw_tbl : List Cond := k2_sels lw_privs ++ tables_1
theorem lw_privs_ok : ∀ q ∈ lw_privs, lw_okq q := by
  show ∀ q ∈ lw_privs_1 ++ (lw_privs_2 ++ (lw_privs_3 ++ (lw_privs_4))), lw_okq q
  exact List.forall_mem_append.mpr ⟨lw_r1, List.forall_mem_append.mpr ⟨lw_r2, List.forall_mem_append.mpr ⟨lw_r3, lw_r4⟩⟩⟩
-- ===== end of PART A; then your names; then what follows =====
end
section
/-! ===== BEGIN words of one list among another's, by their places ===== -/
theorem goodIn_r {big : List Cond} (ws : List Cond) (ps : List Nat) (hp : ws = ps.filterMap (fun i => big[i]?)) (h : ws.all goodWord = true) : GoodIn big ws := by
  intro w hw
  have h1 := List.all_eq_true.mp h w hw
  rw [hp] at hw
  obtain ⟨i, -, hi⟩ := List.mem_filterMap.mp hw
  have hm : w ∈ big := by first | exact List.mem_of_getElem? hi | exact List.getElem?_mem hi
  exact ⟨hm, good_of_word h1⟩
theorem goodIn_app {big a b : List Cond} (ha : GoodIn big a) (hb : GoodIn big b) : GoodIn big (a ++ b) := fun w h => (List.mem_append.mp h).elim (ha w) (hb w)
theorem goodIn_ca {big a b : List Cond} {c : Cond} (ha : GoodIn big (c :: a)) (hb : GoodIn big b) : GoodIn big (c :: (a ++ b)) := fun w h => (List.mem_cons.mp h).elim (fun e => ha w (List.mem_cons.mpr (Or.inl e))) (fun h => (List.mem_append.mp h).elim (fun h => ha w (List.mem_cons.mpr (Or.inr h))) (hb w))
theorem goodIn_sub {big ws : List Cond} (hm : ∀ w ∈ ws, w ∈ big) (h : ws.all goodWord = true) : GoodIn big ws := fun w hw => ⟨hm w hw, good_of_word (List.all_eq_true.mp h w hw)⟩
/-! ===== END ===== -/
/-! ===== BEGIN printed: names, fields, word lists, decode rows ===== -/
def RX0 : String := "TrunkRadio$Air"
def TX0 : u_T := fun k => match k with
  | 0 => ("TrunkRadio$Air", "line", "[I", true)
  | _ => ("TrunkRadio$Air", "was", "[I", true)
def tyX0 : Nat → FieldType := fun k => match k with
  | 0 => .array .int
  | _ => .array .int
abbrev wsX00 : List Cond := u_ws RX0 TX0 2
theorem nmX0 : ∀ a, a < 2 → ∀ b, b < 2 → a ≠ b → (TX0 a).2.1 ≠ (TX0 b).2.1 := by decide +kernel
theorem tyX0_ok : ∀ k, k < 2 → parseFieldDescriptor (TX0 k).2.2.1 = some (tyX0 k) := by decide +kernel
abbrev cX0_init : ByteArray := prog_2_method_1_code
def yX0_init : MethodName := ⟨RX0, "<init>", "()V"⟩
abbrev cX0_pass : ByteArray := prog_2_method_2_code
def yX0_pass : MethodName := ⟨RX0, "pass", "(LTrunkRadio$Net;LTrunkRadio$State;)V"⟩
abbrev cX0_isSentAt : ByteArray := prog_2_method_3_code
def yX0_isSentAt : MethodName := ⟨RX0, "isSentAt", "(LTrunkRadio$State;II)Z"⟩
abbrev cX0_hear : ByteArray := prog_2_method_4_code
def yX0_hear : MethodName := ⟨RX0, "hear", "(LTrunkRadio$Net;LTrunkRadio$State;I)V"⟩
abbrev cX0_heardAt : ByteArray := prog_2_method_5_code
def yX0_heardAt : MethodName := ⟨RX0, "heardAt", "(LTrunkRadio$Net;LTrunkRadio$State;I)I"⟩
abbrev cX0_helpThemselves : ByteArray := prog_2_method_6_code
def yX0_helpThemselves : MethodName := ⟨RX0, "helpThemselves", "(LTrunkRadio$Net;LTrunkRadio$State;I)V"⟩
abbrev cX0_isSoftTaken : ByteArray := prog_2_method_7_code
def yX0_isSoftTaken : MethodName := ⟨RX0, "isSoftTaken", "(LTrunkRadio$Net;LTrunkRadio$State;I)Z"⟩
abbrev cX0_tryAgain : ByteArray := prog_2_method_8_code
def yX0_tryAgain : MethodName := ⟨RX0, "tryAgain", "(LTrunkRadio$Net;LTrunkRadio$State;)V"⟩
abbrev cX0_cutLongTalks : ByteArray := prog_2_method_9_code
def yX0_cutLongTalks : MethodName := ⟨RX0, "cutLongTalks", "(LTrunkRadio$Net;LTrunkRadio$State;)V"⟩
abbrev cX0_lineUp : ByteArray := prog_2_method_10_code
def yX0_lineUp : MethodName := ⟨RX0, "lineUp", "(LTrunkRadio$Net;LTrunkRadio$State;)I"⟩
abbrev cX0_isAhead : ByteArray := prog_2_method_11_code
def yX0_isAhead : MethodName := ⟨RX0, "isAhead", "(LTrunkRadio$Net;LTrunkRadio$State;II)Z"⟩
abbrev cX0_serve : ByteArray := prog_2_method_12_code
def yX0_serve : MethodName := ⟨RX0, "serve", "(LTrunkRadio$Net;LTrunkRadio$State;I)V"⟩
abbrev cX0_sitesNeeded : ByteArray := prog_2_method_13_code
def yX0_sitesNeeded : MethodName := ⟨RX0, "sitesNeeded", "(LTrunkRadio$Net;LTrunkRadio$State;I)I"⟩
abbrev cX0_takeOver : ByteArray := prog_2_method_14_code
def yX0_takeOver : MethodName := ⟨RX0, "takeOver", "(LTrunkRadio$Net;LTrunkRadio$State;I)V"⟩
abbrev cX0_weakestAt : ByteArray := prog_2_method_15_code
def yX0_weakestAt : MethodName := ⟨RX0, "weakestAt", "(LTrunkRadio$Net;LTrunkRadio$State;I)I"⟩
abbrev cX0_giveUp : ByteArray := prog_2_method_16_code
def yX0_giveUp : MethodName := ⟨RX0, "giveUp", "(LTrunkRadio$Net;LTrunkRadio$State;)V"⟩
def RX1 : String := "TrunkRadio$History"
def TX1 : u_T := fun k => match k with
  | 0 => ("TrunkRadio$History", "known", "I", false)
  | 1 => ("TrunkRadio$History", "states", "[LTrunkRadio$State;", true)
  | _ => ("TrunkRadio$History", "next", "I", false)
def tyX1 : Nat → FieldType := fun k => match k with
  | 0 => .int
  | 1 => .array (.object "TrunkRadio$State")
  | _ => .int
abbrev wsX10 : List Cond := u_ws RX1 TX1 3
theorem nmX1 : ∀ a, a < 3 → ∀ b, b < 3 → a ≠ b → (TX1 a).2.1 ≠ (TX1 b).2.1 := by decide +kernel
theorem tyX1_ok : ∀ k, k < 3 → parseFieldDescriptor (TX1 k).2.2.1 = some (tyX1 k) := by decide +kernel
abbrev cX1_init : ByteArray := prog_3_method_1_code
def yX1_init : MethodName := ⟨RX1, "<init>", "()V"⟩
abbrev cX1_lose : ByteArray := prog_3_method_2_code
def yX1_lose : MethodName := ⟨RX1, "lose", "()V"⟩
abbrev cX1_record : ByteArray := prog_3_method_3_code
def yX1_record : MethodName := ⟨RX1, "record", "(LTrunkRadio$State;)V"⟩
abbrev cX1_bringBack : ByteArray := prog_3_method_4_code
def yX1_bringBack : MethodName := ⟨RX1, "bringBack", "(LTrunkRadio$State;)Z"⟩
def RX2 : String := "TrunkRadio$Net"
def TX2 : u_T := fun k => match k with
  | 0 => ("TrunkRadio$Net", "radios", "I", false)
  | 1 => ("TrunkRadio$Net", "air", "I", false)
  | 2 => ("TrunkRadio$Net", "patience", "I", false)
  | 3 => ("TrunkRadio$Net", "channels", "[I", true)
  | 4 => ("TrunkRadio$Net", "firstSite", "[I", true)
  | 5 => ("TrunkRadio$Net", "group", "[I", true)
  | _ => ("TrunkRadio$Net", "rank", "[I", true)
def tyX2 : Nat → FieldType := fun k => match k with
  | 0 => .int
  | 1 => .int
  | 2 => .int
  | 3 => .array .int
  | 4 => .array .int
  | 5 => .array .int
  | _ => .array .int
abbrev wsX20 : List Cond := u_ws RX2 TX2 7
theorem nmX2 : ∀ a, a < 7 → ∀ b, b < 7 → a ≠ b → (TX2 a).2.1 ≠ (TX2 b).2.1 := by decide +kernel
theorem tyX2_ok : ∀ k, k < 7 → parseFieldDescriptor (TX2 k).2.2.1 = some (tyX2 k) := by decide +kernel
abbrev cX2_init : ByteArray := prog_4_method_1_code
def yX2_init : MethodName := ⟨RX2, "<init>", "()V"⟩
abbrev cX2_beginAnew : ByteArray := prog_4_method_2_code
def yX2_beginAnew : MethodName := ⟨RX2, "beginAnew", "()V"⟩
abbrev cX2_copy : ByteArray := prog_4_method_3_code
def yX2_copy : MethodName := ⟨RX2, "copy", "(LTrunkRadio$Net;)V"⟩
abbrev cX2_has : ByteArray := prog_4_method_4_code
def yX2_has : MethodName := ⟨RX2, "has", "(I)Z"⟩
def RX3 : String := "TrunkRadio$Reader"
def TX3 : u_T := fun k => match k with
  | 0 => ("TrunkRadio$Reader", "length", "I", false)
  | 1 => ("TrunkRadio$Reader", "letters", "[I", true)
  | 2 => ("TrunkRadio$Reader", "at", "I", false)
  | 3 => ("TrunkRadio$Reader", "start", "I", false)
  | 4 => ("TrunkRadio$Reader", "kind", "I", false)
  | 5 => ("TrunkRadio$Reader", "value", "I", false)
  | 6 => ("TrunkRadio$Reader", "channelsTold", "Z", false)
  | 7 => ("TrunkRadio$Reader", "airTold", "Z", false)
  | _ => ("TrunkRadio$Reader", "patienceTold", "Z", false)
def tyX3 : Nat → FieldType := fun k => match k with
  | 0 => .int
  | 1 => .array .int
  | 2 => .int
  | 3 => .int
  | 4 => .int
  | 5 => .int
  | 6 => .boolean
  | 7 => .boolean
  | _ => .boolean
abbrev wsX30 : List Cond := u_ws RX3 TX3 9
theorem nmX3 : ∀ a, a < 9 → ∀ b, b < 9 → a ≠ b → (TX3 a).2.1 ≠ (TX3 b).2.1 := by decide +kernel
theorem tyX3_ok : ∀ k, k < 9 → parseFieldDescriptor (TX3 k).2.2.1 = some (tyX3 k) := by decide +kernel
abbrev cX3_init : ByteArray := prog_5_method_1_code
def yX3_init : MethodName := ⟨RX3, "<init>", "()V"⟩
abbrev cX3_append : ByteArray := prog_5_method_2_code
def yX3_append : MethodName := ⟨RX3, "append", "(I)Z"⟩
abbrev cX3_empty : ByteArray := prog_5_method_3_code
def yX3_empty : MethodName := ⟨RX3, "empty", "()I"⟩
abbrev cX3_readInto : ByteArray := prog_5_method_4_code
def yX3_readInto : MethodName := ⟨RX3, "readInto", "(LTrunkRadio$Net;)I"⟩
abbrev cX3_letterAt : ByteArray := prog_5_method_5_code
def yX3_letterAt : MethodName := ⟨RX3, "letterAt", "(I)I"⟩
abbrev cX3_isDigit : ByteArray := prog_5_method_6_code
def yX3_isDigit : MethodName := ⟨RX3, "isDigit", "(I)Z"⟩
abbrev cX3_readToken : ByteArray := prog_5_method_7_code
def yX3_readToken : MethodName := ⟨RX3, "readToken", "()V"⟩
abbrev cX3_readNumber : ByteArray := prog_5_method_8_code
def yX3_readNumber : MethodName := ⟨RX3, "readNumber", "()V"⟩
abbrev cX3_readItem : ByteArray := prog_5_method_9_code
def yX3_readItem : MethodName := ⟨RX3, "readItem", "(LTrunkRadio$Net;)Z"⟩
abbrev cX3_isEnded : ByteArray := prog_5_method_10_code
def yX3_isEnded : MethodName := ⟨RX3, "isEnded", "()Z"⟩
abbrev cX3_isNumberFrom : ByteArray := prog_5_method_11_code
def yX3_isNumberFrom : MethodName := ⟨RX3, "isNumberFrom", "(II)Z"⟩
abbrev cX3_readChannels : ByteArray := prog_5_method_12_code
def yX3_readChannels : MethodName := ⟨RX3, "readChannels", "(LTrunkRadio$Net;)Z"⟩
abbrev cX3_readAir : ByteArray := prog_5_method_13_code
def yX3_readAir : MethodName := ⟨RX3, "readAir", "(LTrunkRadio$Net;)Z"⟩
abbrev cX3_readPatience : ByteArray := prog_5_method_14_code
def yX3_readPatience : MethodName := ⟨RX3, "readPatience", "(LTrunkRadio$Net;)Z"⟩
abbrev cX3_readRadio : ByteArray := prog_5_method_15_code
def yX3_readRadio : MethodName := ⟨RX3, "readRadio", "(LTrunkRadio$Net;)Z"⟩
def RX4 : String := "TrunkRadio$State"
def TX4 : u_T := fun k => match k with
  | 0 => ("TrunkRadio$State", "site", "[I", true)
  | 1 => ("TrunkRadio$State", "how", "[I", true)
  | 2 => ("TrunkRadio$State", "since", "[I", true)
  | 3 => ("TrunkRadio$State", "urgent", "[I", true)
  | 4 => ("TrunkRadio$State", "held", "[I", true)
  | 5 => ("TrunkRadio$State", "lost", "[I", true)
  | 6 => ("TrunkRadio$State", "tick", "I", false)
  | 7 => ("TrunkRadio$State", "began", "I", false)
  | 8 => ("TrunkRadio$State", "cut", "I", false)
  | _ => ("TrunkRadio$State", "gaveUp", "I", false)
def tyX4 : Nat → FieldType := fun k => match k with
  | 0 => .array .int
  | 1 => .array .int
  | 2 => .array .int
  | 3 => .array .int
  | 4 => .array .int
  | 5 => .array .int
  | 6 => .int
  | 7 => .int
  | 8 => .int
  | _ => .int
abbrev wsX40 : List Cond := u_ws RX4 TX4 10
theorem nmX4 : ∀ a, a < 10 → ∀ b, b < 10 → a ≠ b → (TX4 a).2.1 ≠ (TX4 b).2.1 := by decide +kernel
theorem tyX4_ok : ∀ k, k < 10 → parseFieldDescriptor (TX4 k).2.2.1 = some (tyX4 k) := by decide +kernel
abbrev cX4_init : ByteArray := prog_6_method_1_code
def yX4_init : MethodName := ⟨RX4, "<init>", "()V"⟩
abbrev cX4_begin : ByteArray := prog_6_method_2_code
def yX4_begin : MethodName := ⟨RX4, "begin", "(LTrunkRadio$Net;)V"⟩
abbrev cX4_copy : ByteArray := prog_6_method_3_code
def yX4_copy : MethodName := ⟨RX4, "copy", "(LTrunkRadio$State;)V"⟩
abbrev cX4_hasControl : ByteArray := prog_6_method_4_code
def yX4_hasControl : MethodName := ⟨RX4, "hasControl", "(I)Z"⟩
abbrev cX4_isOnAir : ByteArray := prog_6_method_5_code
def yX4_isOnAir : MethodName := ⟨RX4, "isOnAir", "(I)Z"⟩
abbrev cX4_enter : ByteArray := prog_6_method_6_code
def yX4_enter : MethodName := ⟨RX4, "enter", "(II)V"⟩
abbrev cX4_rest : ByteArray := prog_6_method_7_code
def yX4_rest : MethodName := ⟨RX4, "rest", "(I)V"⟩
abbrev cX4_pressIdle : ByteArray := prog_6_method_8_code
def yX4_pressIdle : MethodName := ⟨RX4, "pressIdle", "(LTrunkRadio$Net;I)V"⟩
abbrev cX4_idleOnes : ByteArray := prog_6_method_9_code
def yX4_idleOnes : MethodName := ⟨RX4, "idleOnes", "(LTrunkRadio$Net;)I"⟩
abbrev cX4_isAnyWaiting : ByteArray := prog_6_method_10_code
def yX4_isAnyWaiting : MethodName := ⟨RX4, "isAnyWaiting", "(LTrunkRadio$Net;)Z"⟩
abbrev cX4_free : ByteArray := prog_6_method_11_code
def yX4_free : MethodName := ⟨RX4, "free", "(LTrunkRadio$Net;I)I"⟩
abbrev cX4_fullSites : ByteArray := prog_6_method_12_code
def yX4_fullSites : MethodName := ⟨RX4, "fullSites", "(LTrunkRadio$Net;)I"⟩
abbrev cX4_talkerOf : ByteArray := prog_6_method_13_code
def yX4_talkerOf : MethodName := ⟨RX4, "talkerOf", "(LTrunkRadio$Net;I)I"⟩
def RX5 : String := "TrunkRadio"
def TX5 : u_T := fun k => match k with
  | 0 => ("TrunkRadio", "text", "LTrunkRadio$Reader;", true)
  | 1 => ("TrunkRadio", "told", "LTrunkRadio$Net;", true)
  | 2 => ("TrunkRadio", "trial", "LTrunkRadio$Net;", true)
  | 3 => ("TrunkRadio", "air", "LTrunkRadio$Air;", true)
  | 4 => ("TrunkRadio", "now", "LTrunkRadio$State;", true)
  | 5 => ("TrunkRadio", "future", "LTrunkRadio$State;", true)
  | 6 => ("TrunkRadio", "past", "LTrunkRadio$History;", true)
  | 7 => ("TrunkRadio", "images", "[LTrunkRadio$State;", true)
  | 8 => ("TrunkRadio", "imagesKept", "I", false)
  | 9 => ("TrunkRadio", "seenTicks", "[I", true)
  | 10 => ("TrunkRadio", "seenTalked", "[I", true)
  | 11 => ("TrunkRadio", "seen", "I", false)
  | _ => ("TrunkRadio", "timesByRank", "[I", true)
def tyX5 : Nat → FieldType := fun k => match k with
  | 0 => .object "TrunkRadio$Reader"
  | 1 => .object "TrunkRadio$Net"
  | 2 => .object "TrunkRadio$Net"
  | 3 => .object "TrunkRadio$Air"
  | 4 => .object "TrunkRadio$State"
  | 5 => .object "TrunkRadio$State"
  | 6 => .object "TrunkRadio$History"
  | 7 => .array (.object "TrunkRadio$State")
  | 8 => .int
  | 9 => .array .int
  | 10 => .array .int
  | 11 => .int
  | _ => .array .int
abbrev wsX50 : List Cond := u_ws RX5 TX5 13
theorem nmX5 : ∀ a, a < 13 → ∀ b, b < 13 → a ≠ b → (TX5 a).2.1 ≠ (TX5 b).2.1 := by decide +kernel
theorem tyX5_ok : ∀ k, k < 13 → parseFieldDescriptor (TX5 k).2.2.1 = some (tyX5 k) := by decide +kernel
abbrev cX5_init : ByteArray := prog_1_method_1_code
def yX5_init : MethodName := ⟨RX5, "<init>", "()V"⟩
abbrev cX5_type : ByteArray := prog_1_method_2_code
def yX5_type : MethodName := ⟨RX5, "type", "(I)I"⟩
abbrev cX5_clear : ByteArray := prog_1_method_3_code
def yX5_clear : MethodName := ⟨RX5, "clear", "()I"⟩
abbrev cX5_net : ByteArray := prog_1_method_4_code
def yX5_net : MethodName := ⟨RX5, "net", "()I"⟩
abbrev cX5_ticks : ByteArray := prog_1_method_5_code
def yX5_ticks : MethodName := ⟨RX5, "ticks", "(I)I"⟩
abbrev cX5_presses : ByteArray := prog_1_method_6_code
def yX5_presses : MethodName := ⟨RX5, "presses", "(II)I"⟩
abbrev cX5_releases : ByteArray := prog_1_method_7_code
def yX5_releases : MethodName := ⟨RX5, "releases", "(I)I"⟩
abbrev cX5_controls : ByteArray := prog_1_method_8_code
def yX5_controls : MethodName := ⟨RX5, "controls", "(II)I"⟩
abbrev cX5_moves : ByteArray := prog_1_method_9_code
def yX5_moves : MethodName := ⟨RX5, "moves", "(I)I"⟩
abbrev cX5_undo : ByteArray := prog_1_method_10_code
def yX5_undo : MethodName := ⟨RX5, "undo", "()I"⟩
abbrev cX5_radio : ByteArray := prog_1_method_11_code
def yX5_radio : MethodName := ⟨RX5, "radio", "(II)I"⟩
abbrev cX5_site : ByteArray := prog_1_method_12_code
def yX5_site : MethodName := ⟨RX5, "site", "(II)I"⟩
abbrev cX5_talker : ByteArray := prog_1_method_13_code
def yX5_talker : MethodName := ⟨RX5, "talker", "(I)I"⟩
abbrev cX5_queue : ByteArray := prog_1_method_14_code
def yX5_queue : MethodName := ⟨RX5, "queue", "(I)I"⟩
abbrev cX5_soon : ByteArray := prog_1_method_15_code
def yX5_soon : MethodName := ⟨RX5, "soon", "(I)I"⟩
abbrev cX5_within : ByteArray := prog_1_method_16_code
def yX5_within : MethodName := ⟨RX5, "within", "(II)I"⟩
abbrev cX5_wave : ByteArray := prog_1_method_17_code
def yX5_wave : MethodName := ⟨RX5, "wave", "(II)I"⟩
abbrev cX5_odds : ByteArray := prog_1_method_18_code
def yX5_odds : MethodName := ⟨RX5, "odds", "(IIII)I"⟩
abbrev cX5_sees : ByteArray := prog_1_method_19_code
def yX5_sees : MethodName := ⟨RX5, "sees", "(II)I"⟩
abbrev cX5_forget : ByteArray := prog_1_method_20_code
def yX5_forget : MethodName := ⟨RX5, "forget", "()I"⟩
abbrev cX5_ranks : ByteArray := prog_1_method_21_code
def yX5_ranks : MethodName := ⟨RX5, "ranks", "(I)I"⟩
abbrev cX5_look : ByteArray := prog_1_method_22_code
def yX5_look : MethodName := ⟨RX5, "look", "(I)I"⟩
abbrev cX5_keep : ByteArray := prog_1_method_23_code
def yX5_keep : MethodName := ⟨RX5, "keep", "(I)I"⟩
abbrev cX5_back : ByteArray := prog_1_method_24_code
def yX5_back : MethodName := ⟨RX5, "back", "(I)I"⟩
abbrev cX5_count : ByteArray := prog_1_method_25_code
def yX5_count : MethodName := ⟨RX5, "count", "(I)I"⟩
abbrev cX5_isSite : ByteArray := prog_1_method_26_code
def yX5_isSite : MethodName := ⟨RX5, "isSite", "(I)Z"⟩
abbrev cX5_isBit : ByteArray := prog_1_method_27_code
def yX5_isBit : MethodName := ⟨RX5, "isBit", "(I)Z"⟩
abbrev cX5_waveLasts : ByteArray := prog_1_method_28_code
def yX5_waveLasts : MethodName := ⟨RX5, "waveLasts", "(I)I"⟩
abbrev cX5_isEnough : ByteArray := prog_1_method_29_code
def yX5_isEnough : MethodName := ⟨RX5, "isEnough", "(I)Z"⟩
abbrev cX5_talksAmong : ByteArray := prog_1_method_30_code
def yX5_talksAmong : MethodName := ⟨RX5, "talksAmong", "(III)Z"⟩
abbrev cX5_power : ByteArray := prog_1_method_31_code
def yX5_power : MethodName := ⟨RX5, "power", "(II)I"⟩
abbrev cX5_commonDivisor : ByteArray := prog_1_method_32_code
def yX5_commonDivisor : MethodName := ⟨RX5, "commonDivisor", "(II)I"⟩
abbrev cX5_ranksThatFit : ByteArray := prog_1_method_33_code
def yX5_ranksThatFit : MethodName := ⟨RX5, "ranksThatFit", "(I)I"⟩
abbrev cX5_timesOnAir : ByteArray := prog_1_method_34_code
def yX5_timesOnAir : MethodName := ⟨RX5, "timesOnAir", "(I)I"⟩
abbrev cX5_agreesWithSeen : ByteArray := prog_1_method_35_code
def yX5_agreesWithSeen : MethodName := ⟨RX5, "agreesWithSeen", "(I)Z"⟩
abbrev cX5_ranksOnAir : ByteArray := prog_1_method_36_code
def yX5_ranksOnAir : MethodName := ⟨RX5, "ranksOnAir", "(II)I"⟩
def RX6 : String := "TrunkRadioModel"
def TX6 : u_T := fun k => match k with
  | 0 => ("TrunkRadioModel", "thrown", "I", false)
  | 1 => ("TrunkRadioModel", "text", "[I", true)
  | 2 => ("TrunkRadioModel", "typed", "I", false)
  | 3 => ("TrunkRadioModel", "spot", "I", false)
  | 4 => ("TrunkRadioModel", "token", "I", false)
  | 5 => ("TrunkRadioModel", "place", "I", false)
  | 6 => ("TrunkRadioModel", "value", "I", false)
  | 7 => ("TrunkRadioModel", "fault", "I", false)
  | 8 => ("TrunkRadioModel", "met", "I", false)
  | 9 => ("TrunkRadioModel", "told", "[I", true)
  | 10 => ("TrunkRadioModel", "draft", "[I", true)
  | 11 => ("TrunkRadioModel", "draftNow", "[I", true)
  | 12 => ("TrunkRadioModel", "s", "[I", true)
  | 13 => ("TrunkRadioModel", "w", "[I", true)
  | 14 => ("TrunkRadioModel", "undos", "[I", true)
  | 15 => ("TrunkRadioModel", "undoMany", "I", false)
  | 16 => ("TrunkRadioModel", "kept", "[I", true)
  | 17 => ("TrunkRadioModel", "isKept", "[Z", true)
  | 18 => ("TrunkRadioModel", "seenIn", "[I", true)
  | 19 => ("TrunkRadioModel", "seenIs", "[I", true)
  | 20 => ("TrunkRadioModel", "seenMany", "I", false)
  | 21 => ("TrunkRadioModel", "line", "[I", true)
  | 22 => ("TrunkRadioModel", "lineMany", "I", false)
  | 23 => ("TrunkRadioModel", "was", "[I", true)
  | _ => ("TrunkRadioModel", "by", "[I", true)
def tyX6 : Nat → FieldType := fun k => match k with
  | 0 => .int
  | 1 => .array .int
  | 2 => .int
  | 3 => .int
  | 4 => .int
  | 5 => .int
  | 6 => .int
  | 7 => .int
  | 8 => .int
  | 9 => .array .int
  | 10 => .array .int
  | 11 => .array .int
  | 12 => .array .int
  | 13 => .array .int
  | 14 => .array .int
  | 15 => .int
  | 16 => .array .int
  | 17 => .array .boolean
  | 18 => .array .int
  | 19 => .array .int
  | 20 => .int
  | 21 => .array .int
  | 22 => .int
  | 23 => .array .int
  | _ => .array .int
abbrev wsX60 : List Cond := u_ws RX6 TX6 25
theorem nmX6 : ∀ a, a < 25 → ∀ b, b < 25 → a ≠ b → (TX6 a).2.1 ≠ (TX6 b).2.1 := by decide +kernel
theorem tyX6_ok : ∀ k, k < 25 → parseFieldDescriptor (TX6 k).2.2.1 = some (tyX6 k) := by decide +kernel
abbrev cX6_init : ByteArray := prog_8_method_1_code
def yX6_init : MethodName := ⟨RX6, "<init>", "()V"⟩
abbrev cX6_in : ByteArray := prog_8_method_3_code
def yX6_in : MethodName := ⟨RX6, "in", "(III)Z"⟩
abbrev cX6_has : ByteArray := prog_8_method_4_code
def yX6_has : MethodName := ⟨RX6, "has", "(II)Z"⟩
abbrev cX6_type : ByteArray := prog_8_method_5_code
def yX6_type : MethodName := ⟨RX6, "type", "(I)I"⟩
abbrev cX6_clear : ByteArray := prog_8_method_6_code
def yX6_clear : MethodName := ⟨RX6, "clear", "()I"⟩
abbrev cX6_letterAt : ByteArray := prog_8_method_7_code
def yX6_letterAt : MethodName := ⟨RX6, "letterAt", "(I)I"⟩
abbrev cX6_advances : ByteArray := prog_8_method_8_code
def yX6_advances : MethodName := ⟨RX6, "advances", "()V"⟩
abbrev cX6_isWell : ByteArray := prog_8_method_9_code
def yX6_isWell : MethodName := ⟨RX6, "isWell", "()Z"⟩
abbrev cX6_takes : ByteArray := prog_8_method_10_code
def yX6_takes : MethodName := ⟨RX6, "takes", "(Z)I"⟩
abbrev cX6_number : ByteArray := prog_8_method_11_code
def yX6_number : MethodName := ⟨RX6, "number", "(II)I"⟩
abbrev cX6_begins : ByteArray := prog_8_method_12_code
def yX6_begins : MethodName := ⟨RX6, "begins", "()V"⟩
abbrev cX6_bitOf : ByteArray := prog_8_method_13_code
def yX6_bitOf : MethodName := ⟨RX6, "bitOf", "(I)I"⟩
abbrev cX6_mayBegin : ByteArray := prog_8_method_14_code
def yX6_mayBegin : MethodName := ⟨RX6, "mayBegin", "()Z"⟩
abbrev cX6_readsItem : ByteArray := prog_8_method_15_code
def yX6_readsItem : MethodName := ⟨RX6, "readsItem", "(I)V"⟩
abbrev cX6_net : ByteArray := prog_8_method_16_code
def yX6_net : MethodName := ⟨RX6, "net", "()I"⟩
abbrev cX6_settles : ByteArray := prog_8_method_17_code
def yX6_settles : MethodName := ⟨RX6, "settles", "()V"⟩
abbrev cX6_copies : ByteArray := prog_8_method_18_code
def yX6_copies : MethodName := ⟨RX6, "copies", "([I[I)V"⟩
abbrev cX6_isRadio : ByteArray := prog_8_method_19_code
def yX6_isRadio : MethodName := ⟨RX6, "isRadio", "(I)Z"⟩
abbrev cX6_rests : ByteArray := prog_8_method_20_code
def yX6_rests : MethodName := ⟨RX6, "rests", "([II)V"⟩
abbrev cX6_becomes : ByteArray := prog_8_method_21_code
def yX6_becomes : MethodName := ⟨RX6, "becomes", "([IIII)V"⟩
abbrev cX6_isSentAt : ByteArray := prog_8_method_22_code
def yX6_isSentAt : MethodName := ⟨RX6, "isSentAt", "([III)Z"⟩
abbrev cX6_heardAt : ByteArray := prog_8_method_23_code
def yX6_heardAt : MethodName := ⟨RX6, "heardAt", "([II)I"⟩
abbrev cX6_controls2 : ByteArray := prog_8_method_24_code
def yX6_controls2 : MethodName := ⟨RX6, "controls2", "([II)V"⟩
abbrev cX6_helpsItself : ByteArray := prog_8_method_25_code
def yX6_helpsItself : MethodName := ⟨RX6, "helpsItself", "([II)V"⟩
abbrev cX6_freeAt : ByteArray := prog_8_method_26_code
def yX6_freeAt : MethodName := ⟨RX6, "freeAt", "([II)I"⟩
abbrev cX6_talkerOf : ByteArray := prog_8_method_27_code
def yX6_talkerOf : MethodName := ⟨RX6, "talkerOf", "([II)I"⟩
abbrev cX6_isAhead : ByteArray := prog_8_method_28_code
def yX6_isAhead : MethodName := ⟨RX6, "isAhead", "([III)Z"⟩
abbrev cX6_lines : ByteArray := prog_8_method_29_code
def yX6_lines : MethodName := ⟨RX6, "lines", "([I)V"⟩
abbrev cX6_neededBy : ByteArray := prog_8_method_30_code
def yX6_neededBy : MethodName := ⟨RX6, "neededBy", "([II)I"⟩
abbrev cX6_leastAt : ByteArray := prog_8_method_31_code
def yX6_leastAt : MethodName := ⟨RX6, "leastAt", "([II)I"⟩
abbrev cX6_isFree : ByteArray := prog_8_method_32_code
def yX6_isFree : MethodName := ⟨RX6, "isFree", "([II)Z"⟩
abbrev cX6_takesOver : ByteArray := prog_8_method_33_code
def yX6_takesOver : MethodName := ⟨RX6, "takesOver", "([II)V"⟩
abbrev cX6_serves : ByteArray := prog_8_method_34_code
def yX6_serves : MethodName := ⟨RX6, "serves", "([II)V"⟩
abbrev cX6_goes : ByteArray := prog_8_method_35_code
def yX6_goes : MethodName := ⟨RX6, "goes", "([I)V"⟩
abbrev cX6_isOn : ByteArray := prog_8_method_36_code
def yX6_isOn : MethodName := ⟨RX6, "isOn", "([II)Z"⟩
abbrev cX6_notes : ByteArray := prog_8_method_37_code
def yX6_notes : MethodName := ⟨RX6, "notes", "()V"⟩
abbrev cX6_ticks : ByteArray := prog_8_method_38_code
def yX6_ticks : MethodName := ⟨RX6, "ticks", "(I)I"⟩
abbrev cX6_presses : ByteArray := prog_8_method_39_code
def yX6_presses : MethodName := ⟨RX6, "presses", "(II)I"⟩
abbrev cX6_releases : ByteArray := prog_8_method_40_code
def yX6_releases : MethodName := ⟨RX6, "releases", "(I)I"⟩
abbrev cX6_controls : ByteArray := prog_8_method_41_code
def yX6_controls : MethodName := ⟨RX6, "controls", "(II)I"⟩
abbrev cX6_moves : ByteArray := prog_8_method_42_code
def yX6_moves : MethodName := ⟨RX6, "moves", "(I)I"⟩
abbrev cX6_undo : ByteArray := prog_8_method_43_code
def yX6_undo : MethodName := ⟨RX6, "undo", "()I"⟩
abbrev cX6_radio : ByteArray := prog_8_method_44_code
def yX6_radio : MethodName := ⟨RX6, "radio", "(II)I"⟩
abbrev cX6_site : ByteArray := prog_8_method_45_code
def yX6_site : MethodName := ⟨RX6, "site", "(II)I"⟩
abbrev cX6_talker : ByteArray := prog_8_method_46_code
def yX6_talker : MethodName := ⟨RX6, "talker", "(I)I"⟩
abbrev cX6_queue : ByteArray := prog_8_method_47_code
def yX6_queue : MethodName := ⟨RX6, "queue", "(I)I"⟩
abbrev cX6_soon : ByteArray := prog_8_method_48_code
def yX6_soon : MethodName := ⟨RX6, "soon", "(I)I"⟩
abbrev cX6_within : ByteArray := prog_8_method_49_code
def yX6_within : MethodName := ⟨RX6, "within", "(II)I"⟩
abbrev cX6_presses2 : ByteArray := prog_8_method_50_code
def yX6_presses2 : MethodName := ⟨RX6, "presses2", "(I)V"⟩
abbrev cX6_lasts : ByteArray := prog_8_method_51_code
def yX6_lasts : MethodName := ⟨RX6, "lasts", "()I"⟩
abbrev cX6_enough : ByteArray := prog_8_method_52_code
def yX6_enough : MethodName := ⟨RX6, "enough", "(I)I"⟩
abbrev cX6_wave : ByteArray := prog_8_method_53_code
def yX6_wave : MethodName := ⟨RX6, "wave", "(II)I"⟩
abbrev cX6_gcd : ByteArray := prog_8_method_54_code
def yX6_gcd : MethodName := ⟨RX6, "gcd", "(II)I"⟩
abbrev cX6_odds : ByteArray := prog_8_method_55_code
def yX6_odds : MethodName := ⟨RX6, "odds", "(IIII)I"⟩
abbrev cX6_sees : ByteArray := prog_8_method_56_code
def yX6_sees : MethodName := ⟨RX6, "sees", "(II)I"⟩
abbrev cX6_forget : ByteArray := prog_8_method_57_code
def yX6_forget : MethodName := ⟨RX6, "forget", "()I"⟩
abbrev cX6_onBy : ByteArray := prog_8_method_58_code
def yX6_onBy : MethodName := ⟨RX6, "onBy", "(II)I"⟩
abbrev cX6_isAsSeen : ByteArray := prog_8_method_59_code
def yX6_isAsSeen : MethodName := ⟨RX6, "isAsSeen", "(I)Z"⟩
abbrev cX6_ranks : ByteArray := prog_8_method_60_code
def yX6_ranks : MethodName := ⟨RX6, "ranks", "(I)I"⟩
abbrev cX6_look : ByteArray := prog_8_method_61_code
def yX6_look : MethodName := ⟨RX6, "look", "(I)I"⟩
abbrev cX6_keep : ByteArray := prog_8_method_62_code
def yX6_keep : MethodName := ⟨RX6, "keep", "(I)I"⟩
abbrev cX6_back : ByteArray := prog_8_method_63_code
def yX6_back : MethodName := ⟨RX6, "back", "(I)I"⟩
abbrev cX6_count : ByteArray := prog_8_method_64_code
def yX6_count : MethodName := ⟨RX6, "count", "(I)I"⟩
def RJ6 : String := "java/lang/Integer"
def TJ6 : u_T := fun k => match k with
  | _ => ("", "", "", false)
def tyJ6 : Nat → FieldType := fun k => match k with
  | _ => .int
abbrev wsJ60 : List Cond := u_ws RJ6 TJ6 0
theorem nmJ6 : ∀ a, a < 0 → ∀ b, b < 0 → a ≠ b → (TJ6 a).2.1 ≠ (TJ6 b).2.1 := by decide +kernel
theorem tyJ6_ok : ∀ k, k < 0 → parseFieldDescriptor (TJ6 k).2.2.1 = some (tyJ6 k) := by decide +kernel
abbrev cJ6_bitCount_0f7a4 : ByteArray := prog_9_method_49_code
def yJ6_bitCount_0f7a4 : MethodName := ⟨RJ6, "bitCount", "(I)I"⟩
def RJ9 : String := "java/lang/Math"
def TJ9 : u_T := fun k => match k with
  | _ => ("", "", "", false)
def tyJ9 : Nat → FieldType := fun k => match k with
  | _ => .int
abbrev wsJ90 : List Cond := u_ws RJ9 TJ9 0
theorem nmJ9 : ∀ a, a < 0 → ∀ b, b < 0 → a ≠ b → (TJ9 a).2.1 ≠ (TJ9 b).2.1 := by decide +kernel
theorem tyJ9_ok : ∀ k, k < 0 → parseFieldDescriptor (TJ9 k).2.2.1 = some (tyJ9 k) := by decide +kernel
abbrev cJ9_max_7cf53 : ByteArray := prog_10_method_65_code
def yJ9_max_7cf53 : MethodName := ⟨RJ9, "max", "(II)I"⟩
abbrev cJ9_min_7cf53 : ByteArray := prog_10_method_69_code
def yJ9_min_7cf53 : MethodName := ⟨RJ9, "min", "(II)I"⟩
def RJ10 : String := "java/lang/System"
def TJ10 : u_T := fun k => match k with
  | _ => ("", "", "", false)
def tyJ10 : Nat → FieldType := fun k => match k with
  | _ => .int
abbrev wsJ100 : List Cond := u_ws RJ10 TJ10 0
theorem nmJ10 : ∀ a, a < 0 → ∀ b, b < 0 → a ≠ b → (TJ10 a).2.1 ≠ (TJ10 b).2.1 := by decide +kernel
theorem tyJ10_ok : ∀ k, k < 0 → parseFieldDescriptor (TJ10 k).2.2.1 = some (tyJ10 k) := by decide +kernel
def RL : String := "TrunkRadioLaw"
abbrev cL_law : ByteArray := code
def yL_law : MethodName := ⟨RL, "law", "([I)Z"⟩
abbrev vwCl : List vw_C := [(RX0, TX0, 2), (RX1, TX1, 3), (RX2, TX2, 7), (RX3, TX3, 9), (RX4, TX4, 10), (RX5, TX5, 13), (RX6, TX6, 25)]
/-! ===== END printed: names ===== -/
end
section
/-! the words of the tables that are good, one by one -/
def TW : List Cond := lw_tbl.filter goodWord
theorem TW_good : ∀ w ∈ TW, goodWord w = true := fun _ h => (List.mem_filter.mp h).2
theorem TW_tbl : ∀ w ∈ TW, w ∈ lw_tbl := fun _ h => (List.mem_filter.mp h).1
theorem TW_t {w : Cond} (i : Nat) (h : tables_1[i]? = some w) (g : goodWord w = true) : w ∈ TW := List.mem_filter.mpr ⟨List.mem_append_right _ (List.mem_of_getElem? h), g⟩
theorem TW_p {w : Cond} (i : Nat) (h : (k2_sels lw_privs)[i]? = some w) (g : goodWord w = true) : w ∈ TW := List.mem_filter.mpr ⟨List.mem_append_left _ (List.mem_of_getElem? h), g⟩
theorem wd_0 : Cond.initialized RL ∈ TW := TW_t 0 (by decide +kernel) rfl
theorem wd_1 : Cond.initialized RX5 ∈ TW := TW_t 1 (by decide +kernel) rfl
theorem wd_2 : Cond.initialized RX3 ∈ TW := TW_t 2 (by decide +kernel) rfl
theorem wd_3 : Cond.initialized RX2 ∈ TW := TW_t 3 (by decide +kernel) rfl
theorem wd_4 : Cond.initialized RX0 ∈ TW := TW_t 4 (by decide +kernel) rfl
theorem wd_5 : Cond.initialized RX4 ∈ TW := TW_t 5 (by decide +kernel) rfl
theorem wd_6 : Cond.initialized RX1 ∈ TW := TW_t 6 (by decide +kernel) rfl
theorem wd_7 : Cond.initialized RX6 ∈ TW := TW_t 7 (by decide +kernel) rfl
theorem wd_8 : Cond.initialized RJ9 ∈ TW := TW_t 8 (by decide +kernel) rfl
theorem wd_9 : Cond.initialized RJ10 ∈ TW := TW_t 9 (by decide +kernel) rfl
theorem wd_10 : Cond.initialized RJ6 ∈ TW := TW_t 10 (by decide +kernel) rfl
theorem wd_11 : Cond.classLink RL 7 RX5 ∈ TW := TW_t 11 (by decide +kernel) rfl
theorem wd_12 : Cond.instantiable RX5 13 ∈ TW := TW_t 12 (by decide +kernel) rfl
theorem wd_13 : Cond.methodLink RL 9 yX5_init ∈ TW := TW_t 13 (by decide +kernel) rfl
theorem wd_14 : Cond.instanceMethod yX5_init ∈ TW := TW_t 14 (by decide +kernel) rfl
set_option maxRecDepth 20000 in
theorem wd_15 : Cond.code yX5_init cX5_init 2 none ∈ TW := TW_t 15 rfl rfl
theorem wd_16 : Cond.methodLink RX5 1 objectInit ∈ TW := TW_t 16 (by decide +kernel) rfl
theorem wd_17 : Cond.instanceMethod objectInit ∈ TW := TW_t 17 (by decide +kernel) rfl
set_option maxRecDepth 20000 in
theorem wd_18 : Cond.code objectInit ⟨#[0xb1]⟩ 1 none ∈ TW := TW_t 18 rfl rfl
theorem wd_19 : Cond.classLink RX5 7 RX3 ∈ TW := TW_t 19 (by decide +kernel) rfl
theorem wd_20 : Cond.instantiable RX3 9 ∈ TW := TW_t 20 (by decide +kernel) rfl
theorem wd_21 : Cond.methodLink RX5 9 yX3_init ∈ TW := TW_t 21 (by decide +kernel) rfl
theorem wd_22 : Cond.instanceMethod yX3_init ∈ TW := TW_t 22 (by decide +kernel) rfl
set_option maxRecDepth 20000 in
theorem wd_23 : Cond.code yX3_init cX3_init 1 none ∈ TW := TW_t 23 rfl rfl
theorem wd_24 : Cond.methodLink RX3 3 objectInit ∈ TW := TW_t 24 (by decide +kernel) rfl
theorem wd_25 : Cond.fieldLink RX3 15 "TrunkRadio$Reader" "length" "I" ∈ TW := TW_t 25 (by decide +kernel) rfl
theorem wd_26 : Cond.fieldLink RX5 68 "TrunkRadio$Reader" "length" "I" ∈ TW := TW_t 26 (by decide +kernel) rfl
theorem wd_27 : Cond.fieldLink RX3 9 "TrunkRadio$Reader" "letters" "[I" ∈ TW := TW_t 27 (by decide +kernel) rfl
theorem wd_28 : Cond.fieldLink RX3 24 "TrunkRadio$Reader" "at" "I" ∈ TW := TW_t 28 (by decide +kernel) rfl
theorem wd_29 : Cond.fieldLink RX3 47 "TrunkRadio$Reader" "start" "I" ∈ TW := TW_t 29 (by decide +kernel) rfl
theorem wd_30 : Cond.fieldLink RX3 40 "TrunkRadio$Reader" "kind" "I" ∈ TW := TW_t 30 (by decide +kernel) rfl
theorem wd_31 : Cond.fieldLink RX3 61 "TrunkRadio$Reader" "value" "I" ∈ TW := TW_t 31 (by decide +kernel) rfl
theorem wd_32 : Cond.fieldLink RX3 27 "TrunkRadio$Reader" "channelsTold" "Z" ∈ TW := TW_t 32 (by decide +kernel) rfl
theorem wd_33 : Cond.fieldLink RX3 31 "TrunkRadio$Reader" "airTold" "Z" ∈ TW := TW_t 33 (by decide +kernel) rfl
theorem wd_34 : Cond.fieldLink RX3 34 "TrunkRadio$Reader" "patienceTold" "Z" ∈ TW := TW_t 34 (by decide +kernel) rfl
theorem wd_35 : Cond.lays RX3 "TrunkRadio$Reader" "length" "I" ∈ TW := TW_t 35 (by decide +kernel) rfl
theorem wd_37 : Cond.laysFinal RX3 "TrunkRadio$Reader" "letters" "[I" ∈ TW := TW_t 37 (by decide +kernel) rfl
theorem wd_39 : Cond.lays RX3 "TrunkRadio$Reader" "at" "I" ∈ TW := TW_t 39 (by decide +kernel) rfl
theorem wd_41 : Cond.lays RX3 "TrunkRadio$Reader" "start" "I" ∈ TW := TW_t 41 (by decide +kernel) rfl
theorem wd_43 : Cond.lays RX3 "TrunkRadio$Reader" "kind" "I" ∈ TW := TW_t 43 (by decide +kernel) rfl
theorem wd_45 : Cond.lays RX3 "TrunkRadio$Reader" "value" "I" ∈ TW := TW_t 45 (by decide +kernel) rfl
theorem wd_47 : Cond.lays RX3 "TrunkRadio$Reader" "channelsTold" "Z" ∈ TW := TW_t 47 (by decide +kernel) rfl
theorem wd_49 : Cond.lays RX3 "TrunkRadio$Reader" "airTold" "Z" ∈ TW := TW_t 49 (by decide +kernel) rfl
theorem wd_51 : Cond.lays RX3 "TrunkRadio$Reader" "patienceTold" "Z" ∈ TW := TW_t 51 (by decide +kernel) rfl
theorem wd_54 : Cond.arrayClass .int ∈ TW := TW_t 54 (by decide +kernel) rfl
theorem wd_55 : Cond.classLink RX5 16 RX2 ∈ TW := TW_t 55 (by decide +kernel) rfl
theorem wd_56 : Cond.instantiable RX2 7 ∈ TW := TW_t 56 (by decide +kernel) rfl
theorem wd_57 : Cond.methodLink RX5 18 yX2_init ∈ TW := TW_t 57 (by decide +kernel) rfl
theorem wd_58 : Cond.instanceMethod yX2_init ∈ TW := TW_t 58 (by decide +kernel) rfl
set_option maxRecDepth 20000 in
theorem wd_59 : Cond.code yX2_init cX2_init 1 none ∈ TW := TW_t 59 rfl rfl
theorem wd_60 : Cond.methodLink RX2 3 objectInit ∈ TW := TW_t 60 (by decide +kernel) rfl
theorem wd_61 : Cond.methodLink RX2 24 yX2_beginAnew ∈ TW := TW_t 61 (by decide +kernel) rfl
theorem wd_62 : Cond.instanceMethod yX2_beginAnew ∈ TW := TW_t 62 (by decide +kernel) rfl
theorem wd_63 : Cond.selects RX2 yX2_beginAnew yX2_beginAnew ∈ TW := TW_t 63 (by decide +kernel) rfl
set_option maxRecDepth 20000 in
theorem wd_64 : Cond.code yX2_beginAnew cX2_beginAnew 1 none ∈ TW := TW_t 64 rfl rfl
theorem wd_65 : Cond.fieldLink RX2 27 "TrunkRadio$Net" "radios" "I" ∈ TW := TW_t 65 (by decide +kernel) rfl
theorem wd_66 : Cond.fieldLink RX0 77 "TrunkRadio$Net" "radios" "I" ∈ TW := TW_t 66 (by decide +kernel) rfl
theorem wd_67 : Cond.fieldLink RX5 107 "TrunkRadio$Net" "radios" "I" ∈ TW := TW_t 67 (by decide +kernel) rfl
theorem wd_68 : Cond.fieldLink RX4 62 "TrunkRadio$Net" "radios" "I" ∈ TW := TW_t 68 (by decide +kernel) rfl
theorem wd_69 : Cond.fieldLink RX3 83 "TrunkRadio$Net" "radios" "I" ∈ TW := TW_t 69 (by decide +kernel) rfl
theorem wd_70 : Cond.fieldLink RX2 31 "TrunkRadio$Net" "air" "I" ∈ TW := TW_t 70 (by decide +kernel) rfl
theorem wd_71 : Cond.fieldLink RX0 112 "TrunkRadio$Net" "air" "I" ∈ TW := TW_t 71 (by decide +kernel) rfl
theorem wd_72 : Cond.fieldLink RX3 96 "TrunkRadio$Net" "air" "I" ∈ TW := TW_t 72 (by decide +kernel) rfl
theorem wd_73 : Cond.fieldLink RX5 229 "TrunkRadio$Net" "air" "I" ∈ TW := TW_t 73 (by decide +kernel) rfl
theorem wd_74 : Cond.fieldLink RX2 34 "TrunkRadio$Net" "patience" "I" ∈ TW := TW_t 74 (by decide +kernel) rfl
theorem wd_75 : Cond.fieldLink RX3 99 "TrunkRadio$Net" "patience" "I" ∈ TW := TW_t 75 (by decide +kernel) rfl
theorem wd_76 : Cond.fieldLink RX0 149 "TrunkRadio$Net" "patience" "I" ∈ TW := TW_t 76 (by decide +kernel) rfl
theorem wd_77 : Cond.fieldLink RX5 231 "TrunkRadio$Net" "patience" "I" ∈ TW := TW_t 77 (by decide +kernel) rfl
theorem wd_78 : Cond.fieldLink RX2 9 "TrunkRadio$Net" "channels" "[I" ∈ TW := TW_t 78 (by decide +kernel) rfl
theorem wd_79 : Cond.fieldLink RX0 103 "TrunkRadio$Net" "channels" "[I" ∈ TW := TW_t 79 (by decide +kernel) rfl
theorem wd_80 : Cond.fieldLink RX4 65 "TrunkRadio$Net" "channels" "[I" ∈ TW := TW_t 80 (by decide +kernel) rfl
theorem wd_81 : Cond.fieldLink RX3 93 "TrunkRadio$Net" "channels" "[I" ∈ TW := TW_t 81 (by decide +kernel) rfl
theorem wd_82 : Cond.fieldLink RX5 164 "TrunkRadio$Net" "channels" "[I" ∈ TW := TW_t 82 (by decide +kernel) rfl
theorem wd_83 : Cond.fieldLink RX2 15 "TrunkRadio$Net" "firstSite" "[I" ∈ TW := TW_t 83 (by decide +kernel) rfl
theorem wd_84 : Cond.fieldLink RX4 30 "TrunkRadio$Net" "firstSite" "[I" ∈ TW := TW_t 84 (by decide +kernel) rfl
theorem wd_85 : Cond.fieldLink RX3 102 "TrunkRadio$Net" "firstSite" "[I" ∈ TW := TW_t 85 (by decide +kernel) rfl
theorem wd_86 : Cond.fieldLink RX2 18 "TrunkRadio$Net" "group" "[I" ∈ TW := TW_t 86 (by decide +kernel) rfl
theorem wd_87 : Cond.fieldLink RX0 109 "TrunkRadio$Net" "group" "[I" ∈ TW := TW_t 87 (by decide +kernel) rfl
theorem wd_88 : Cond.fieldLink RX5 152 "TrunkRadio$Net" "group" "[I" ∈ TW := TW_t 88 (by decide +kernel) rfl
theorem wd_89 : Cond.fieldLink RX4 68 "TrunkRadio$Net" "group" "[I" ∈ TW := TW_t 89 (by decide +kernel) rfl
theorem wd_90 : Cond.fieldLink RX3 105 "TrunkRadio$Net" "group" "[I" ∈ TW := TW_t 90 (by decide +kernel) rfl
theorem wd_91 : Cond.fieldLink RX2 21 "TrunkRadio$Net" "rank" "[I" ∈ TW := TW_t 91 (by decide +kernel) rfl
theorem wd_92 : Cond.fieldLink RX0 126 "TrunkRadio$Net" "rank" "[I" ∈ TW := TW_t 92 (by decide +kernel) rfl
theorem wd_93 : Cond.fieldLink RX5 155 "TrunkRadio$Net" "rank" "[I" ∈ TW := TW_t 93 (by decide +kernel) rfl
theorem wd_94 : Cond.fieldLink RX3 108 "TrunkRadio$Net" "rank" "[I" ∈ TW := TW_t 94 (by decide +kernel) rfl
theorem wd_95 : Cond.lays RX2 "TrunkRadio$Net" "radios" "I" ∈ TW := TW_t 95 (by decide +kernel) rfl
theorem wd_97 : Cond.lays RX2 "TrunkRadio$Net" "air" "I" ∈ TW := TW_t 97 (by decide +kernel) rfl
theorem wd_99 : Cond.lays RX2 "TrunkRadio$Net" "patience" "I" ∈ TW := TW_t 99 (by decide +kernel) rfl
theorem wd_101 : Cond.laysFinal RX2 "TrunkRadio$Net" "channels" "[I" ∈ TW := TW_t 101 (by decide +kernel) rfl
theorem wd_103 : Cond.laysFinal RX2 "TrunkRadio$Net" "firstSite" "[I" ∈ TW := TW_t 103 (by decide +kernel) rfl
theorem wd_105 : Cond.laysFinal RX2 "TrunkRadio$Net" "group" "[I" ∈ TW := TW_t 105 (by decide +kernel) rfl
theorem wd_107 : Cond.laysFinal RX2 "TrunkRadio$Net" "rank" "[I" ∈ TW := TW_t 107 (by decide +kernel) rfl
theorem wd_110 : Cond.classLink RX5 26 RX0 ∈ TW := TW_t 110 (by decide +kernel) rfl
theorem wd_111 : Cond.instantiable RX0 2 ∈ TW := TW_t 111 (by decide +kernel) rfl
theorem wd_112 : Cond.methodLink RX5 28 yX0_init ∈ TW := TW_t 112 (by decide +kernel) rfl
theorem wd_113 : Cond.instanceMethod yX0_init ∈ TW := TW_t 113 (by decide +kernel) rfl
set_option maxRecDepth 20000 in
theorem wd_114 : Cond.code yX0_init cX0_init 1 none ∈ TW := TW_t 114 rfl rfl
theorem wd_115 : Cond.methodLink RX0 3 objectInit ∈ TW := TW_t 115 (by decide +kernel) rfl
theorem wd_116 : Cond.fieldLink RX0 9 "TrunkRadio$Air" "line" "[I" ∈ TW := TW_t 116 (by decide +kernel) rfl
theorem wd_117 : Cond.fieldLink RX5 178 "TrunkRadio$Air" "line" "[I" ∈ TW := TW_t 117 (by decide +kernel) rfl
theorem wd_118 : Cond.fieldLink RX0 15 "TrunkRadio$Air" "was" "[I" ∈ TW := TW_t 118 (by decide +kernel) rfl
theorem wd_119 : Cond.laysFinal RX0 "TrunkRadio$Air" "line" "[I" ∈ TW := TW_t 119 (by decide +kernel) rfl
theorem wd_121 : Cond.laysFinal RX0 "TrunkRadio$Air" "was" "[I" ∈ TW := TW_t 121 (by decide +kernel) rfl
theorem wd_124 : Cond.classLink RX5 33 RX4 ∈ TW := TW_t 124 (by decide +kernel) rfl
theorem wd_125 : Cond.instantiable RX4 10 ∈ TW := TW_t 125 (by decide +kernel) rfl
theorem wd_126 : Cond.methodLink RX5 35 yX4_init ∈ TW := TW_t 126 (by decide +kernel) rfl
theorem wd_127 : Cond.instanceMethod yX4_init ∈ TW := TW_t 127 (by decide +kernel) rfl
set_option maxRecDepth 20000 in
theorem wd_128 : Cond.code yX4_init cX4_init 1 none ∈ TW := TW_t 128 rfl rfl
theorem wd_129 : Cond.methodLink RX4 3 objectInit ∈ TW := TW_t 129 (by decide +kernel) rfl
theorem wd_130 : Cond.fieldLink RX4 9 "TrunkRadio$State" "site" "[I" ∈ TW := TW_t 130 (by decide +kernel) rfl
theorem wd_131 : Cond.fieldLink RX0 70 "TrunkRadio$State" "site" "[I" ∈ TW := TW_t 131 (by decide +kernel) rfl
theorem wd_132 : Cond.fieldLink RX5 129 "TrunkRadio$State" "site" "[I" ∈ TW := TW_t 132 (by decide +kernel) rfl
theorem wd_133 : Cond.fieldLink RX4 15 "TrunkRadio$State" "how" "[I" ∈ TW := TW_t 133 (by decide +kernel) rfl
theorem wd_134 : Cond.fieldLink RX0 18 "TrunkRadio$State" "how" "[I" ∈ TW := TW_t 134 (by decide +kernel) rfl
theorem wd_135 : Cond.fieldLink RX5 119 "TrunkRadio$State" "how" "[I" ∈ TW := TW_t 135 (by decide +kernel) rfl
theorem wd_136 : Cond.fieldLink RX4 18 "TrunkRadio$State" "since" "[I" ∈ TW := TW_t 136 (by decide +kernel) rfl
theorem wd_137 : Cond.fieldLink RX0 90 "TrunkRadio$State" "since" "[I" ∈ TW := TW_t 137 (by decide +kernel) rfl
theorem wd_138 : Cond.fieldLink RX5 158 "TrunkRadio$State" "since" "[I" ∈ TW := TW_t 138 (by decide +kernel) rfl
theorem wd_139 : Cond.fieldLink RX4 21 "TrunkRadio$State" "urgent" "[I" ∈ TW := TW_t 139 (by decide +kernel) rfl
theorem wd_140 : Cond.fieldLink RX0 93 "TrunkRadio$State" "urgent" "[I" ∈ TW := TW_t 140 (by decide +kernel) rfl
theorem wd_141 : Cond.fieldLink RX5 126 "TrunkRadio$State" "urgent" "[I" ∈ TW := TW_t 141 (by decide +kernel) rfl
theorem wd_142 : Cond.fieldLink RX4 24 "TrunkRadio$State" "held" "[I" ∈ TW := TW_t 142 (by decide +kernel) rfl
theorem wd_143 : Cond.fieldLink RX5 161 "TrunkRadio$State" "held" "[I" ∈ TW := TW_t 143 (by decide +kernel) rfl
theorem wd_144 : Cond.fieldLink RX0 143 "TrunkRadio$State" "held" "[I" ∈ TW := TW_t 144 (by decide +kernel) rfl
theorem wd_145 : Cond.fieldLink RX4 27 "TrunkRadio$State" "lost" "[I" ∈ TW := TW_t 145 (by decide +kernel) rfl
theorem wd_146 : Cond.fieldLink RX0 37 "TrunkRadio$State" "lost" "[I" ∈ TW := TW_t 146 (by decide +kernel) rfl
theorem wd_147 : Cond.fieldLink RX5 142 "TrunkRadio$State" "lost" "[I" ∈ TW := TW_t 147 (by decide +kernel) rfl
theorem wd_148 : Cond.fieldLink RX4 39 "TrunkRadio$State" "tick" "I" ∈ TW := TW_t 148 (by decide +kernel) rfl
theorem wd_149 : Cond.fieldLink RX0 66 "TrunkRadio$State" "tick" "I" ∈ TW := TW_t 149 (by decide +kernel) rfl
theorem wd_150 : Cond.fieldLink RX5 96 "TrunkRadio$State" "tick" "I" ∈ TW := TW_t 150 (by decide +kernel) rfl
theorem wd_151 : Cond.fieldLink RX4 43 "TrunkRadio$State" "began" "I" ∈ TW := TW_t 151 (by decide +kernel) rfl
theorem wd_152 : Cond.fieldLink RX0 100 "TrunkRadio$State" "began" "I" ∈ TW := TW_t 152 (by decide +kernel) rfl
theorem wd_153 : Cond.fieldLink RX5 186 "TrunkRadio$State" "began" "I" ∈ TW := TW_t 153 (by decide +kernel) rfl
theorem wd_154 : Cond.fieldLink RX4 46 "TrunkRadio$State" "cut" "I" ∈ TW := TW_t 154 (by decide +kernel) rfl
theorem wd_155 : Cond.fieldLink RX0 119 "TrunkRadio$State" "cut" "I" ∈ TW := TW_t 155 (by decide +kernel) rfl
theorem wd_156 : Cond.fieldLink RX5 234 "TrunkRadio$State" "cut" "I" ∈ TW := TW_t 156 (by decide +kernel) rfl
theorem wd_157 : Cond.fieldLink RX4 49 "TrunkRadio$State" "gaveUp" "I" ∈ TW := TW_t 157 (by decide +kernel) rfl
theorem wd_158 : Cond.fieldLink RX0 152 "TrunkRadio$State" "gaveUp" "I" ∈ TW := TW_t 158 (by decide +kernel) rfl
theorem wd_159 : Cond.fieldLink RX5 189 "TrunkRadio$State" "gaveUp" "I" ∈ TW := TW_t 159 (by decide +kernel) rfl
theorem wd_160 : Cond.laysFinal RX4 "TrunkRadio$State" "site" "[I" ∈ TW := TW_t 160 (by decide +kernel) rfl
theorem wd_162 : Cond.laysFinal RX4 "TrunkRadio$State" "how" "[I" ∈ TW := TW_t 162 (by decide +kernel) rfl
theorem wd_164 : Cond.laysFinal RX4 "TrunkRadio$State" "since" "[I" ∈ TW := TW_t 164 (by decide +kernel) rfl
theorem wd_166 : Cond.laysFinal RX4 "TrunkRadio$State" "urgent" "[I" ∈ TW := TW_t 166 (by decide +kernel) rfl
theorem wd_168 : Cond.laysFinal RX4 "TrunkRadio$State" "held" "[I" ∈ TW := TW_t 168 (by decide +kernel) rfl
theorem wd_170 : Cond.laysFinal RX4 "TrunkRadio$State" "lost" "[I" ∈ TW := TW_t 170 (by decide +kernel) rfl
theorem wd_172 : Cond.lays RX4 "TrunkRadio$State" "tick" "I" ∈ TW := TW_t 172 (by decide +kernel) rfl
theorem wd_174 : Cond.lays RX4 "TrunkRadio$State" "began" "I" ∈ TW := TW_t 174 (by decide +kernel) rfl
theorem wd_176 : Cond.lays RX4 "TrunkRadio$State" "cut" "I" ∈ TW := TW_t 176 (by decide +kernel) rfl
theorem wd_178 : Cond.lays RX4 "TrunkRadio$State" "gaveUp" "I" ∈ TW := TW_t 178 (by decide +kernel) rfl
theorem wd_181 : Cond.classLink RX5 43 RX1 ∈ TW := TW_t 181 (by decide +kernel) rfl
theorem wd_182 : Cond.instantiable RX1 3 ∈ TW := TW_t 182 (by decide +kernel) rfl
theorem wd_183 : Cond.methodLink RX5 45 yX1_init ∈ TW := TW_t 183 (by decide +kernel) rfl
theorem wd_184 : Cond.instanceMethod yX1_init ∈ TW := TW_t 184 (by decide +kernel) rfl
set_option maxRecDepth 20000 in
theorem wd_185 : Cond.code yX1_init cX1_init 2 none ∈ TW := TW_t 185 rfl rfl
theorem wd_186 : Cond.methodLink RX1 3 objectInit ∈ TW := TW_t 186 (by decide +kernel) rfl
theorem wd_187 : Cond.classLink RX1 9 RX4 ∈ TW := TW_t 187 (by decide +kernel) rfl
theorem wd_189 : Cond.methodLink RX1 17 yX4_init ∈ TW := TW_t 189 (by decide +kernel) rfl
theorem wd_190 : Cond.fieldLink RX1 18 "TrunkRadio$History" "known" "I" ∈ TW := TW_t 190 (by decide +kernel) rfl
theorem wd_191 : Cond.fieldLink RX5 149 "TrunkRadio$History" "known" "I" ∈ TW := TW_t 191 (by decide +kernel) rfl
theorem wd_192 : Cond.fieldLink RX1 11 "TrunkRadio$History" "states" "[LTrunkRadio$State;" ∈ TW := TW_t 192 (by decide +kernel) rfl
theorem wd_193 : Cond.fieldLink RX1 22 "TrunkRadio$History" "next" "I" ∈ TW := TW_t 193 (by decide +kernel) rfl
theorem wd_194 : Cond.lays RX1 "TrunkRadio$History" "known" "I" ∈ TW := TW_t 194 (by decide +kernel) rfl
theorem wd_196 : Cond.laysFinal RX1 "TrunkRadio$History" "states" "[LTrunkRadio$State;" ∈ TW := TW_t 196 (by decide +kernel) rfl
theorem wd_198 : Cond.lays RX1 "TrunkRadio$History" "next" "I" ∈ TW := TW_t 198 (by decide +kernel) rfl
theorem wd_201 : Cond.fieldLink RX5 10 "TrunkRadio" "text" "LTrunkRadio$Reader;" ∈ TW := TW_t 201 (by decide +kernel) rfl
theorem wd_202 : Cond.fieldLink RX5 19 "TrunkRadio" "told" "LTrunkRadio$Net;" ∈ TW := TW_t 202 (by decide +kernel) rfl
theorem wd_203 : Cond.fieldLink RX5 23 "TrunkRadio" "trial" "LTrunkRadio$Net;" ∈ TW := TW_t 203 (by decide +kernel) rfl
theorem wd_204 : Cond.fieldLink RX5 29 "TrunkRadio" "air" "LTrunkRadio$Air;" ∈ TW := TW_t 204 (by decide +kernel) rfl
theorem wd_205 : Cond.fieldLink RX5 36 "TrunkRadio" "now" "LTrunkRadio$State;" ∈ TW := TW_t 205 (by decide +kernel) rfl
theorem wd_206 : Cond.fieldLink RX5 40 "TrunkRadio" "future" "LTrunkRadio$State;" ∈ TW := TW_t 206 (by decide +kernel) rfl
theorem wd_207 : Cond.fieldLink RX5 46 "TrunkRadio" "past" "LTrunkRadio$History;" ∈ TW := TW_t 207 (by decide +kernel) rfl
theorem wd_208 : Cond.fieldLink RX5 50 "TrunkRadio" "images" "[LTrunkRadio$State;" ∈ TW := TW_t 208 (by decide +kernel) rfl
theorem wd_209 : Cond.fieldLink RX5 93 "TrunkRadio" "imagesKept" "I" ∈ TW := TW_t 209 (by decide +kernel) rfl
theorem wd_210 : Cond.fieldLink RX5 54 "TrunkRadio" "seenTicks" "[I" ∈ TW := TW_t 210 (by decide +kernel) rfl
theorem wd_211 : Cond.fieldLink RX5 58 "TrunkRadio" "seenTalked" "[I" ∈ TW := TW_t 211 (by decide +kernel) rfl
theorem wd_212 : Cond.fieldLink RX5 90 "TrunkRadio" "seen" "I" ∈ TW := TW_t 212 (by decide +kernel) rfl
theorem wd_213 : Cond.fieldLink RX5 61 "TrunkRadio" "timesByRank" "[I" ∈ TW := TW_t 213 (by decide +kernel) rfl
theorem wd_214 : Cond.laysFinal RX5 "TrunkRadio" "text" "LTrunkRadio$Reader;" ∈ TW := TW_t 214 (by decide +kernel) rfl
theorem wd_216 : Cond.laysFinal RX5 "TrunkRadio" "told" "LTrunkRadio$Net;" ∈ TW := TW_t 216 (by decide +kernel) rfl
theorem wd_218 : Cond.laysFinal RX5 "TrunkRadio" "trial" "LTrunkRadio$Net;" ∈ TW := TW_t 218 (by decide +kernel) rfl
theorem wd_220 : Cond.laysFinal RX5 "TrunkRadio" "air" "LTrunkRadio$Air;" ∈ TW := TW_t 220 (by decide +kernel) rfl
theorem wd_222 : Cond.laysFinal RX5 "TrunkRadio" "now" "LTrunkRadio$State;" ∈ TW := TW_t 222 (by decide +kernel) rfl
theorem wd_224 : Cond.laysFinal RX5 "TrunkRadio" "future" "LTrunkRadio$State;" ∈ TW := TW_t 224 (by decide +kernel) rfl
theorem wd_226 : Cond.laysFinal RX5 "TrunkRadio" "past" "LTrunkRadio$History;" ∈ TW := TW_t 226 (by decide +kernel) rfl
theorem wd_228 : Cond.laysFinal RX5 "TrunkRadio" "images" "[LTrunkRadio$State;" ∈ TW := TW_t 228 (by decide +kernel) rfl
theorem wd_230 : Cond.lays RX5 "TrunkRadio" "imagesKept" "I" ∈ TW := TW_t 230 (by decide +kernel) rfl
theorem wd_232 : Cond.laysFinal RX5 "TrunkRadio" "seenTicks" "[I" ∈ TW := TW_t 232 (by decide +kernel) rfl
theorem wd_234 : Cond.laysFinal RX5 "TrunkRadio" "seenTalked" "[I" ∈ TW := TW_t 234 (by decide +kernel) rfl
theorem wd_236 : Cond.lays RX5 "TrunkRadio" "seen" "I" ∈ TW := TW_t 236 (by decide +kernel) rfl
theorem wd_238 : Cond.laysFinal RX5 "TrunkRadio" "timesByRank" "[I" ∈ TW := TW_t 238 (by decide +kernel) rfl
theorem wd_241 : Cond.methodLink RL 13 yX5_type ∈ TW := TW_t 241 (by decide +kernel) rfl
theorem wd_242 : Cond.instanceMethod yX5_type ∈ TW := TW_t 242 (by decide +kernel) rfl
theorem wd_243 : Cond.selects RX5 yX5_type yX5_type ∈ TW := TW_t 243 (by decide +kernel) rfl
set_option maxRecDepth 20000 in
theorem wd_244 : Cond.code yX5_type cX5_type 2 (some .int) ∈ TW := TW_t 244 rfl rfl
theorem wd_245 : Cond.methodLink RX5 64 yX3_append ∈ TW := TW_t 245 (by decide +kernel) rfl
theorem wd_246 : Cond.instanceMethod yX3_append ∈ TW := TW_t 246 (by decide +kernel) rfl
theorem wd_247 : Cond.selects RX3 yX3_append yX3_append ∈ TW := TW_t 247 (by decide +kernel) rfl
set_option maxRecDepth 20000 in
theorem wd_248 : Cond.code yX3_append cX3_append 2 (some .boolean) ∈ TW := TW_t 248 rfl rfl
theorem wd_249 : Cond.methodLink RL 18 yX5_clear ∈ TW := TW_t 249 (by decide +kernel) rfl
theorem wd_250 : Cond.instanceMethod yX5_clear ∈ TW := TW_t 250 (by decide +kernel) rfl
theorem wd_251 : Cond.selects RX5 yX5_clear yX5_clear ∈ TW := TW_t 251 (by decide +kernel) rfl
set_option maxRecDepth 20000 in
theorem wd_252 : Cond.code yX5_clear cX5_clear 1 (some .int) ∈ TW := TW_t 252 rfl rfl
theorem wd_253 : Cond.methodLink RX5 72 yX3_empty ∈ TW := TW_t 253 (by decide +kernel) rfl
theorem wd_254 : Cond.instanceMethod yX3_empty ∈ TW := TW_t 254 (by decide +kernel) rfl
theorem wd_255 : Cond.selects RX3 yX3_empty yX3_empty ∈ TW := TW_t 255 (by decide +kernel) rfl
set_option maxRecDepth 20000 in
theorem wd_256 : Cond.code yX3_empty cX3_empty 2 (some .int) ∈ TW := TW_t 256 rfl rfl
theorem wd_257 : Cond.methodLink RL 23 yX5_net ∈ TW := TW_t 257 (by decide +kernel) rfl
theorem wd_258 : Cond.instanceMethod yX5_net ∈ TW := TW_t 258 (by decide +kernel) rfl
theorem wd_259 : Cond.selects RX5 yX5_net yX5_net ∈ TW := TW_t 259 (by decide +kernel) rfl
set_option maxRecDepth 20000 in
theorem wd_260 : Cond.code yX5_net cX5_net 2 (some .int) ∈ TW := TW_t 260 rfl rfl
theorem wd_261 : Cond.methodLink RX5 76 yX3_readInto ∈ TW := TW_t 261 (by decide +kernel) rfl
theorem wd_262 : Cond.instanceMethod yX3_readInto ∈ TW := TW_t 262 (by decide +kernel) rfl
theorem wd_263 : Cond.selects RX3 yX3_readInto yX3_readInto ∈ TW := TW_t 263 (by decide +kernel) rfl
set_option maxRecDepth 20000 in
theorem wd_264 : Cond.code yX3_readInto cX3_readInto 3 (some .int) ∈ TW := TW_t 264 rfl rfl
theorem wd_265 : Cond.methodLink RX3 19 yX2_beginAnew ∈ TW := TW_t 265 (by decide +kernel) rfl
theorem wd_266 : Cond.methodLink RX3 37 yX3_readToken ∈ TW := TW_t 266 (by decide +kernel) rfl
theorem wd_268 : Cond.instanceMethod yX3_readToken ∈ TW := TW_t 268 (by decide +kernel) rfl
set_option maxRecDepth 20000 in
theorem wd_269 : Cond.code yX3_readToken cX3_readToken 3 none ∈ TW := TW_t 269 rfl rfl
theorem wd_270 : Cond.methodLink RX3 50 yX3_letterAt ∈ TW := TW_t 270 (by decide +kernel) rfl
theorem wd_272 : Cond.instanceMethod yX3_letterAt ∈ TW := TW_t 272 (by decide +kernel) rfl
set_option maxRecDepth 20000 in
theorem wd_273 : Cond.code yX3_letterAt cX3_letterAt 2 (some .int) ∈ TW := TW_t 273 rfl rfl
theorem wd_274 : Cond.methodLink RX3 54 yX3_isDigit ∈ TW := TW_t 274 (by decide +kernel) rfl
theorem wd_275 : Cond.static yX3_isDigit ∈ TW := TW_t 275 (by decide +kernel) rfl
set_option maxRecDepth 20000 in
theorem wd_276 : Cond.code yX3_isDigit cX3_isDigit 1 (some .boolean) ∈ TW := TW_t 276 rfl rfl
theorem wd_277 : Cond.methodLink RX3 58 yX3_readNumber ∈ TW := TW_t 277 (by decide +kernel) rfl
theorem wd_279 : Cond.instanceMethod yX3_readNumber ∈ TW := TW_t 279 (by decide +kernel) rfl
set_option maxRecDepth 20000 in
theorem wd_280 : Cond.code yX3_readNumber cX3_readNumber 2 none ∈ TW := TW_t 280 rfl rfl
theorem wd_281 : Cond.methodLink RX3 64 Lib.Math.min.name ∈ TW := TW_t 281 (by decide +kernel) rfl
theorem wd_282 : Cond.static Lib.Math.min.name ∈ TW := TW_t 282 (by decide +kernel) rfl
set_option maxRecDepth 20000 in
theorem wd_283 : Cond.code Lib.Math.min.name Lib.Math.min.code 2 (some .int) ∈ TW := TW_t 283 rfl rfl
theorem wd_284 : Cond.methodLink RX3 43 yX3_readItem ∈ TW := TW_t 284 (by decide +kernel) rfl
theorem wd_286 : Cond.instanceMethod yX3_readItem ∈ TW := TW_t 286 (by decide +kernel) rfl
set_option maxRecDepth 20000 in
theorem wd_287 : Cond.code yX3_readItem cX3_readItem 2 (some .boolean) ∈ TW := TW_t 287 rfl rfl
theorem wd_288 : Cond.methodLink RX3 70 yX3_readChannels ∈ TW := TW_t 288 (by decide +kernel) rfl
theorem wd_290 : Cond.instanceMethod yX3_readChannels ∈ TW := TW_t 290 (by decide +kernel) rfl
set_option maxRecDepth 20000 in
theorem wd_291 : Cond.code yX3_readChannels cX3_readChannels 3 (some .boolean) ∈ TW := TW_t 291 rfl rfl
theorem wd_292 : Cond.methodLink RX3 89 yX3_isNumberFrom ∈ TW := TW_t 292 (by decide +kernel) rfl
theorem wd_294 : Cond.instanceMethod yX3_isNumberFrom ∈ TW := TW_t 294 (by decide +kernel) rfl
set_option maxRecDepth 20000 in
theorem wd_295 : Cond.code yX3_isNumberFrom cX3_isNumberFrom 3 (some .boolean) ∈ TW := TW_t 295 rfl rfl
theorem wd_296 : Cond.methodLink RX3 73 yX3_isEnded ∈ TW := TW_t 296 (by decide +kernel) rfl
theorem wd_298 : Cond.instanceMethod yX3_isEnded ∈ TW := TW_t 298 (by decide +kernel) rfl
set_option maxRecDepth 20000 in
theorem wd_299 : Cond.code yX3_isEnded cX3_isEnded 1 (some .boolean) ∈ TW := TW_t 299 rfl rfl
theorem wd_300 : Cond.methodLink RX3 77 yX3_readAir ∈ TW := TW_t 300 (by decide +kernel) rfl
theorem wd_302 : Cond.instanceMethod yX3_readAir ∈ TW := TW_t 302 (by decide +kernel) rfl
set_option maxRecDepth 20000 in
theorem wd_303 : Cond.code yX3_readAir cX3_readAir 3 (some .boolean) ∈ TW := TW_t 303 rfl rfl
theorem wd_304 : Cond.methodLink RX3 80 yX3_readPatience ∈ TW := TW_t 304 (by decide +kernel) rfl
theorem wd_306 : Cond.instanceMethod yX3_readPatience ∈ TW := TW_t 306 (by decide +kernel) rfl
set_option maxRecDepth 20000 in
theorem wd_307 : Cond.code yX3_readPatience cX3_readPatience 3 (some .boolean) ∈ TW := TW_t 307 rfl rfl
theorem wd_308 : Cond.methodLink RX3 86 yX3_readRadio ∈ TW := TW_t 308 (by decide +kernel) rfl
theorem wd_310 : Cond.instanceMethod yX3_readRadio ∈ TW := TW_t 310 (by decide +kernel) rfl
set_option maxRecDepth 20000 in
theorem wd_311 : Cond.code yX3_readRadio cX3_readRadio 3 (some .boolean) ∈ TW := TW_t 311 rfl rfl
theorem wd_312 : Cond.methodLink RX5 80 yX2_copy ∈ TW := TW_t 312 (by decide +kernel) rfl
theorem wd_313 : Cond.instanceMethod yX2_copy ∈ TW := TW_t 313 (by decide +kernel) rfl
theorem wd_314 : Cond.selects RX2 yX2_copy yX2_copy ∈ TW := TW_t 314 (by decide +kernel) rfl
set_option maxRecDepth 20000 in
theorem wd_315 : Cond.code yX2_copy cX2_copy 2 none ∈ TW := TW_t 315 rfl rfl
theorem wd_316 : Cond.methodLink RX2 37 arraycopyName ∈ TW := TW_t 316 (by decide +kernel) rfl
theorem wd_317 : Cond.static arraycopyName ∈ TW := TW_t 317 (by decide +kernel) rfl
theorem wd_318 : Cond.native arraycopyName ∈ TW := TW_t 318 (by decide +kernel) rfl
theorem wd_319 : Cond.methodLink RX5 84 yX4_begin ∈ TW := TW_t 319 (by decide +kernel) rfl
theorem wd_320 : Cond.instanceMethod yX4_begin ∈ TW := TW_t 320 (by decide +kernel) rfl
theorem wd_321 : Cond.selects RX4 yX4_begin yX4_begin ∈ TW := TW_t 321 (by decide +kernel) rfl
set_option maxRecDepth 20000 in
theorem wd_322 : Cond.code yX4_begin cX4_begin 3 none ∈ TW := TW_t 322 rfl rfl
theorem wd_323 : Cond.methodLink RX4 35 yX4_rest ∈ TW := TW_t 323 (by decide +kernel) rfl
theorem wd_324 : Cond.instanceMethod yX4_rest ∈ TW := TW_t 324 (by decide +kernel) rfl
theorem wd_325 : Cond.selects RX4 yX4_rest yX4_rest ∈ TW := TW_t 325 (by decide +kernel) rfl
set_option maxRecDepth 20000 in
theorem wd_326 : Cond.code yX4_rest cX4_rest 2 none ∈ TW := TW_t 326 rfl rfl
theorem wd_327 : Cond.methodLink RX4 58 yX4_enter ∈ TW := TW_t 327 (by decide +kernel) rfl
theorem wd_328 : Cond.instanceMethod yX4_enter ∈ TW := TW_t 328 (by decide +kernel) rfl
theorem wd_329 : Cond.selects RX4 yX4_enter yX4_enter ∈ TW := TW_t 329 (by decide +kernel) rfl
set_option maxRecDepth 20000 in
theorem wd_330 : Cond.code yX4_enter cX4_enter 3 none ∈ TW := TW_t 330 rfl rfl
theorem wd_331 : Cond.methodLink RX5 87 yX1_lose ∈ TW := TW_t 331 (by decide +kernel) rfl
theorem wd_332 : Cond.instanceMethod yX1_lose ∈ TW := TW_t 332 (by decide +kernel) rfl
theorem wd_333 : Cond.selects RX1 yX1_lose yX1_lose ∈ TW := TW_t 333 (by decide +kernel) rfl
set_option maxRecDepth 20000 in
theorem wd_334 : Cond.code yX1_lose cX1_lose 1 none ∈ TW := TW_t 334 rfl rfl
theorem wd_335 : Cond.methodLink RL 27 yX5_ticks ∈ TW := TW_t 335 (by decide +kernel) rfl
theorem wd_336 : Cond.instanceMethod yX5_ticks ∈ TW := TW_t 336 (by decide +kernel) rfl
theorem wd_337 : Cond.selects RX5 yX5_ticks yX5_ticks ∈ TW := TW_t 337 (by decide +kernel) rfl
set_option maxRecDepth 20000 in
theorem wd_338 : Cond.code yX5_ticks cX5_ticks 4 (some .int) ∈ TW := TW_t 338 rfl rfl
theorem wd_339 : Cond.methodLink RX5 99 yX1_record ∈ TW := TW_t 339 (by decide +kernel) rfl
theorem wd_340 : Cond.instanceMethod yX1_record ∈ TW := TW_t 340 (by decide +kernel) rfl
theorem wd_341 : Cond.selects RX1 yX1_record yX1_record ∈ TW := TW_t 341 (by decide +kernel) rfl
set_option maxRecDepth 20000 in
theorem wd_342 : Cond.code yX1_record cX1_record 2 none ∈ TW := TW_t 342 rfl rfl
theorem wd_343 : Cond.methodLink RX1 25 yX4_copy ∈ TW := TW_t 343 (by decide +kernel) rfl
theorem wd_344 : Cond.instanceMethod yX4_copy ∈ TW := TW_t 344 (by decide +kernel) rfl
theorem wd_345 : Cond.selects RX4 yX4_copy yX4_copy ∈ TW := TW_t 345 (by decide +kernel) rfl
set_option maxRecDepth 20000 in
theorem wd_346 : Cond.code yX4_copy cX4_copy 2 none ∈ TW := TW_t 346 rfl rfl
theorem wd_347 : Cond.methodLink RX4 52 arraycopyName ∈ TW := TW_t 347 (by decide +kernel) rfl
theorem wd_348 : Cond.methodLink RX1 29 Lib.Math.min.name ∈ TW := TW_t 348 (by decide +kernel) rfl
theorem wd_349 : Cond.methodLink RX5 103 yX0_pass ∈ TW := TW_t 349 (by decide +kernel) rfl
theorem wd_350 : Cond.instanceMethod yX0_pass ∈ TW := TW_t 350 (by decide +kernel) rfl
theorem wd_351 : Cond.selects RX0 yX0_pass yX0_pass ∈ TW := TW_t 351 (by decide +kernel) rfl
set_option maxRecDepth 20000 in
theorem wd_352 : Cond.code yX0_pass cX0_pass 5 none ∈ TW := TW_t 352 rfl rfl
theorem wd_353 : Cond.methodLink RX0 23 arraycopyName ∈ TW := TW_t 353 (by decide +kernel) rfl
theorem wd_354 : Cond.methodLink RX0 29 yX4_hasControl ∈ TW := TW_t 354 (by decide +kernel) rfl
theorem wd_355 : Cond.instanceMethod yX4_hasControl ∈ TW := TW_t 355 (by decide +kernel) rfl
theorem wd_356 : Cond.selects RX4 yX4_hasControl yX4_hasControl ∈ TW := TW_t 356 (by decide +kernel) rfl
set_option maxRecDepth 20000 in
theorem wd_357 : Cond.code yX4_hasControl cX4_hasControl 2 (some .boolean) ∈ TW := TW_t 357 rfl rfl
theorem wd_358 : Cond.methodLink RX0 33 yX0_hear ∈ TW := TW_t 358 (by decide +kernel) rfl
theorem wd_359 : Cond.static yX0_hear ∈ TW := TW_t 359 (by decide +kernel) rfl
set_option maxRecDepth 20000 in
theorem wd_360 : Cond.code yX0_hear cX0_hear 5 none ∈ TW := TW_t 360 rfl rfl
theorem wd_361 : Cond.methodLink RX0 73 yX0_heardAt ∈ TW := TW_t 361 (by decide +kernel) rfl
theorem wd_362 : Cond.static yX0_heardAt ∈ TW := TW_t 362 (by decide +kernel) rfl
set_option maxRecDepth 20000 in
theorem wd_363 : Cond.code yX0_heardAt cX0_heardAt 6 (some .int) ∈ TW := TW_t 363 rfl rfl
theorem wd_364 : Cond.methodLink RX0 82 yX0_isSentAt ∈ TW := TW_t 364 (by decide +kernel) rfl
theorem wd_365 : Cond.static yX0_isSentAt ∈ TW := TW_t 365 (by decide +kernel) rfl
set_option maxRecDepth 20000 in
theorem wd_366 : Cond.code yX0_isSentAt cX0_isSentAt 3 (some .boolean) ∈ TW := TW_t 366 rfl rfl
theorem wd_367 : Cond.methodLink RX0 86 yX4_enter ∈ TW := TW_t 367 (by decide +kernel) rfl
theorem wd_368 : Cond.methodLink RX0 40 Lib.Math.min.name ∈ TW := TW_t 368 (by decide +kernel) rfl
theorem wd_369 : Cond.methodLink RX0 46 yX0_helpThemselves ∈ TW := TW_t 369 (by decide +kernel) rfl
theorem wd_370 : Cond.static yX0_helpThemselves ∈ TW := TW_t 370 (by decide +kernel) rfl
set_option maxRecDepth 20000 in
theorem wd_371 : Cond.code yX0_helpThemselves cX0_helpThemselves 4 none ∈ TW := TW_t 371 rfl rfl
theorem wd_372 : Cond.methodLink RX0 96 yX0_isSoftTaken ∈ TW := TW_t 372 (by decide +kernel) rfl
theorem wd_373 : Cond.static yX0_isSoftTaken ∈ TW := TW_t 373 (by decide +kernel) rfl
set_option maxRecDepth 20000 in
theorem wd_374 : Cond.code yX0_isSoftTaken cX0_isSoftTaken 7 (some .boolean) ∈ TW := TW_t 374 rfl rfl
theorem wd_375 : Cond.methodLink RX0 106 Lib.Math.max.name ∈ TW := TW_t 375 (by decide +kernel) rfl
theorem wd_376 : Cond.static Lib.Math.max.name ∈ TW := TW_t 376 (by decide +kernel) rfl
set_option maxRecDepth 20000 in
theorem wd_377 : Cond.code Lib.Math.max.name Lib.Math.max.code 2 (some .int) ∈ TW := TW_t 377 rfl rfl
theorem wd_378 : Cond.methodLink RX0 49 yX0_tryAgain ∈ TW := TW_t 378 (by decide +kernel) rfl
theorem wd_380 : Cond.instanceMethod yX0_tryAgain ∈ TW := TW_t 380 (by decide +kernel) rfl
set_option maxRecDepth 20000 in
theorem wd_381 : Cond.code yX0_tryAgain cX0_tryAgain 4 none ∈ TW := TW_t 381 rfl rfl
theorem wd_382 : Cond.methodLink RX0 53 yX0_cutLongTalks ∈ TW := TW_t 382 (by decide +kernel) rfl
theorem wd_384 : Cond.instanceMethod yX0_cutLongTalks ∈ TW := TW_t 384 (by decide +kernel) rfl
set_option maxRecDepth 20000 in
theorem wd_385 : Cond.code yX0_cutLongTalks cX0_cutLongTalks 4 none ∈ TW := TW_t 385 rfl rfl
theorem wd_386 : Cond.methodLink RX0 115 yX4_rest ∈ TW := TW_t 386 (by decide +kernel) rfl
theorem wd_387 : Cond.methodLink RX0 56 yX0_lineUp ∈ TW := TW_t 387 (by decide +kernel) rfl
theorem wd_388 : Cond.instanceMethod yX0_lineUp ∈ TW := TW_t 388 (by decide +kernel) rfl
theorem wd_389 : Cond.selects RX0 yX0_lineUp yX0_lineUp ∈ TW := TW_t 389 (by decide +kernel) rfl
set_option maxRecDepth 20000 in
theorem wd_390 : Cond.code yX0_lineUp cX0_lineUp 6 (some .int) ∈ TW := TW_t 390 rfl rfl
theorem wd_391 : Cond.methodLink RX0 122 yX0_isAhead ∈ TW := TW_t 391 (by decide +kernel) rfl
theorem wd_392 : Cond.static yX0_isAhead ∈ TW := TW_t 392 (by decide +kernel) rfl
set_option maxRecDepth 20000 in
theorem wd_393 : Cond.code yX0_isAhead cX0_isAhead 4 (some .boolean) ∈ TW := TW_t 393 rfl rfl
theorem wd_394 : Cond.methodLink RX0 60 yX0_serve ∈ TW := TW_t 394 (by decide +kernel) rfl
theorem wd_395 : Cond.static yX0_serve ∈ TW := TW_t 395 (by decide +kernel) rfl
set_option maxRecDepth 20000 in
theorem wd_396 : Cond.code yX0_serve cX0_serve 6 none ∈ TW := TW_t 396 rfl rfl
theorem wd_397 : Cond.methodLink RX0 129 yX4_talkerOf ∈ TW := TW_t 397 (by decide +kernel) rfl
theorem wd_398 : Cond.instanceMethod yX4_talkerOf ∈ TW := TW_t 398 (by decide +kernel) rfl
theorem wd_399 : Cond.selects RX4 yX4_talkerOf yX4_talkerOf ∈ TW := TW_t 399 (by decide +kernel) rfl
set_option maxRecDepth 20000 in
theorem wd_400 : Cond.code yX4_talkerOf cX4_talkerOf 4 (some .int) ∈ TW := TW_t 400 rfl rfl
theorem wd_401 : Cond.methodLink RX0 133 yX0_sitesNeeded ∈ TW := TW_t 401 (by decide +kernel) rfl
theorem wd_402 : Cond.static yX0_sitesNeeded ∈ TW := TW_t 402 (by decide +kernel) rfl
set_option maxRecDepth 20000 in
theorem wd_403 : Cond.code yX0_sitesNeeded cX0_sitesNeeded 6 (some .int) ∈ TW := TW_t 403 rfl rfl
theorem wd_404 : Cond.methodLink RX0 136 yX0_takeOver ∈ TW := TW_t 404 (by decide +kernel) rfl
theorem wd_405 : Cond.static yX0_takeOver ∈ TW := TW_t 405 (by decide +kernel) rfl
set_option maxRecDepth 20000 in
theorem wd_406 : Cond.code yX0_takeOver cX0_takeOver 6 none ∈ TW := TW_t 406 rfl rfl
theorem wd_407 : Cond.methodLink RX0 139 yX4_fullSites ∈ TW := TW_t 407 (by decide +kernel) rfl
theorem wd_408 : Cond.instanceMethod yX4_fullSites ∈ TW := TW_t 408 (by decide +kernel) rfl
theorem wd_409 : Cond.selects RX4 yX4_fullSites yX4_fullSites ∈ TW := TW_t 409 (by decide +kernel) rfl
set_option maxRecDepth 20000 in
theorem wd_410 : Cond.code yX4_fullSites cX4_fullSites 5 (some .int) ∈ TW := TW_t 410 rfl rfl
theorem wd_411 : Cond.methodLink RX0 146 yX0_weakestAt ∈ TW := TW_t 411 (by decide +kernel) rfl
theorem wd_412 : Cond.static yX0_weakestAt ∈ TW := TW_t 412 (by decide +kernel) rfl
set_option maxRecDepth 20000 in
theorem wd_413 : Cond.code yX0_weakestAt cX0_weakestAt 6 (some .int) ∈ TW := TW_t 413 rfl rfl
theorem wd_414 : Cond.methodLink RX0 63 yX0_giveUp ∈ TW := TW_t 414 (by decide +kernel) rfl
theorem wd_415 : Cond.static yX0_giveUp ∈ TW := TW_t 415 (by decide +kernel) rfl
set_option maxRecDepth 20000 in
theorem wd_416 : Cond.code yX0_giveUp cX0_giveUp 3 none ∈ TW := TW_t 416 rfl rfl
theorem wd_417 : Cond.methodLink RX5 110 yX4_isOnAir ∈ TW := TW_t 417 (by decide +kernel) rfl
theorem wd_418 : Cond.instanceMethod yX4_isOnAir ∈ TW := TW_t 418 (by decide +kernel) rfl
theorem wd_419 : Cond.selects RX4 yX4_isOnAir yX4_isOnAir ∈ TW := TW_t 419 (by decide +kernel) rfl
set_option maxRecDepth 20000 in
theorem wd_420 : Cond.code yX4_isOnAir cX4_isOnAir 2 (some .boolean) ∈ TW := TW_t 420 rfl rfl
theorem wd_421 : Cond.methodLink RL 31 yX5_presses ∈ TW := TW_t 421 (by decide +kernel) rfl
theorem wd_422 : Cond.instanceMethod yX5_presses ∈ TW := TW_t 422 (by decide +kernel) rfl
theorem wd_423 : Cond.selects RX5 yX5_presses yX5_presses ∈ TW := TW_t 423 (by decide +kernel) rfl
set_option maxRecDepth 20000 in
theorem wd_424 : Cond.code yX5_presses cX5_presses 3 (some .int) ∈ TW := TW_t 424 rfl rfl
theorem wd_425 : Cond.methodLink RX5 113 yX2_has ∈ TW := TW_t 425 (by decide +kernel) rfl
theorem wd_426 : Cond.instanceMethod yX2_has ∈ TW := TW_t 426 (by decide +kernel) rfl
theorem wd_427 : Cond.selects RX2 yX2_has yX2_has ∈ TW := TW_t 427 (by decide +kernel) rfl
set_option maxRecDepth 20000 in
theorem wd_428 : Cond.code yX2_has cX2_has 2 (some .boolean) ∈ TW := TW_t 428 rfl rfl
theorem wd_429 : Cond.methodLink RX5 116 yX5_isBit ∈ TW := TW_t 429 (by decide +kernel) rfl
theorem wd_430 : Cond.static yX5_isBit ∈ TW := TW_t 430 (by decide +kernel) rfl
set_option maxRecDepth 20000 in
theorem wd_431 : Cond.code yX5_isBit cX5_isBit 1 (some .boolean) ∈ TW := TW_t 431 rfl rfl
theorem wd_432 : Cond.methodLink RX5 122 yX4_enter ∈ TW := TW_t 432 (by decide +kernel) rfl
theorem wd_433 : Cond.methodLink RL 36 yX5_releases ∈ TW := TW_t 433 (by decide +kernel) rfl
theorem wd_434 : Cond.instanceMethod yX5_releases ∈ TW := TW_t 434 (by decide +kernel) rfl
theorem wd_435 : Cond.selects RX5 yX5_releases yX5_releases ∈ TW := TW_t 435 (by decide +kernel) rfl
set_option maxRecDepth 20000 in
theorem wd_436 : Cond.code yX5_releases cX5_releases 3 (some .int) ∈ TW := TW_t 436 rfl rfl
theorem wd_437 : Cond.methodLink RX5 132 yX4_rest ∈ TW := TW_t 437 (by decide +kernel) rfl
theorem wd_438 : Cond.methodLink RL 40 yX5_controls ∈ TW := TW_t 438 (by decide +kernel) rfl
theorem wd_439 : Cond.instanceMethod yX5_controls ∈ TW := TW_t 439 (by decide +kernel) rfl
theorem wd_440 : Cond.selects RX5 yX5_controls yX5_controls ∈ TW := TW_t 440 (by decide +kernel) rfl
set_option maxRecDepth 20000 in
theorem wd_441 : Cond.code yX5_controls cX5_controls 5 (some .int) ∈ TW := TW_t 441 rfl rfl
theorem wd_442 : Cond.methodLink RX5 136 yX5_isSite ∈ TW := TW_t 442 (by decide +kernel) rfl
theorem wd_443 : Cond.static yX5_isSite ∈ TW := TW_t 443 (by decide +kernel) rfl
set_option maxRecDepth 20000 in
theorem wd_444 : Cond.code yX5_isSite cX5_isSite 1 (some .boolean) ∈ TW := TW_t 444 rfl rfl
theorem wd_445 : Cond.methodLink RX5 139 yX4_hasControl ∈ TW := TW_t 445 (by decide +kernel) rfl
theorem wd_446 : Cond.methodLink RL 44 yX5_moves ∈ TW := TW_t 446 (by decide +kernel) rfl
theorem wd_447 : Cond.instanceMethod yX5_moves ∈ TW := TW_t 447 (by decide +kernel) rfl
theorem wd_448 : Cond.selects RX5 yX5_moves yX5_moves ∈ TW := TW_t 448 (by decide +kernel) rfl
set_option maxRecDepth 20000 in
theorem wd_449 : Cond.code yX5_moves cX5_moves 2 (some .int) ∈ TW := TW_t 449 rfl rfl
theorem wd_450 : Cond.methodLink RL 48 yX5_undo ∈ TW := TW_t 450 (by decide +kernel) rfl
theorem wd_451 : Cond.instanceMethod yX5_undo ∈ TW := TW_t 451 (by decide +kernel) rfl
theorem wd_452 : Cond.selects RX5 yX5_undo yX5_undo ∈ TW := TW_t 452 (by decide +kernel) rfl
set_option maxRecDepth 20000 in
theorem wd_453 : Cond.code yX5_undo cX5_undo 1 (some .int) ∈ TW := TW_t 453 rfl rfl
theorem wd_454 : Cond.methodLink RX5 145 yX1_bringBack ∈ TW := TW_t 454 (by decide +kernel) rfl
theorem wd_455 : Cond.instanceMethod yX1_bringBack ∈ TW := TW_t 455 (by decide +kernel) rfl
theorem wd_456 : Cond.selects RX1 yX1_bringBack yX1_bringBack ∈ TW := TW_t 456 (by decide +kernel) rfl
set_option maxRecDepth 20000 in
theorem wd_457 : Cond.code yX1_bringBack cX1_bringBack 2 (some .boolean) ∈ TW := TW_t 457 rfl rfl
theorem wd_458 : Cond.methodLink RL 52 yX5_radio ∈ TW := TW_t 458 (by decide +kernel) rfl
theorem wd_459 : Cond.instanceMethod yX5_radio ∈ TW := TW_t 459 (by decide +kernel) rfl
theorem wd_460 : Cond.selects RX5 yX5_radio yX5_radio ∈ TW := TW_t 460 (by decide +kernel) rfl
set_option maxRecDepth 20000 in
theorem wd_461 : Cond.code yX5_radio cX5_radio 3 (some .int) ∈ TW := TW_t 461 rfl rfl
theorem wd_462 : Cond.methodLink RL 56 yX5_site ∈ TW := TW_t 462 (by decide +kernel) rfl
theorem wd_463 : Cond.instanceMethod yX5_site ∈ TW := TW_t 463 (by decide +kernel) rfl
theorem wd_464 : Cond.selects RX5 yX5_site yX5_site ∈ TW := TW_t 464 (by decide +kernel) rfl
set_option maxRecDepth 20000 in
theorem wd_465 : Cond.code yX5_site cX5_site 3 (some .int) ∈ TW := TW_t 465 rfl rfl
theorem wd_466 : Cond.methodLink RX5 167 yX4_free ∈ TW := TW_t 466 (by decide +kernel) rfl
theorem wd_467 : Cond.instanceMethod yX4_free ∈ TW := TW_t 467 (by decide +kernel) rfl
theorem wd_468 : Cond.selects RX4 yX4_free yX4_free ∈ TW := TW_t 468 (by decide +kernel) rfl
set_option maxRecDepth 20000 in
theorem wd_469 : Cond.code yX4_free cX4_free 5 (some .int) ∈ TW := TW_t 469 rfl rfl
theorem wd_470 : Cond.methodLink RL 60 yX5_talker ∈ TW := TW_t 470 (by decide +kernel) rfl
theorem wd_471 : Cond.instanceMethod yX5_talker ∈ TW := TW_t 471 (by decide +kernel) rfl
theorem wd_472 : Cond.selects RX5 yX5_talker yX5_talker ∈ TW := TW_t 472 (by decide +kernel) rfl
set_option maxRecDepth 20000 in
theorem wd_473 : Cond.code yX5_talker cX5_talker 2 (some .int) ∈ TW := TW_t 473 rfl rfl
theorem wd_474 : Cond.methodLink RX5 171 yX4_talkerOf ∈ TW := TW_t 474 (by decide +kernel) rfl
theorem wd_475 : Cond.methodLink RL 64 yX5_queue ∈ TW := TW_t 475 (by decide +kernel) rfl
theorem wd_476 : Cond.instanceMethod yX5_queue ∈ TW := TW_t 476 (by decide +kernel) rfl
theorem wd_477 : Cond.selects RX5 yX5_queue yX5_queue ∈ TW := TW_t 477 (by decide +kernel) rfl
set_option maxRecDepth 20000 in
theorem wd_478 : Cond.code yX5_queue cX5_queue 3 (some .int) ∈ TW := TW_t 478 rfl rfl
theorem wd_479 : Cond.methodLink RX5 174 yX0_lineUp ∈ TW := TW_t 479 (by decide +kernel) rfl
theorem wd_480 : Cond.methodLink RL 68 yX5_soon ∈ TW := TW_t 480 (by decide +kernel) rfl
theorem wd_481 : Cond.instanceMethod yX5_soon ∈ TW := TW_t 481 (by decide +kernel) rfl
theorem wd_482 : Cond.selects RX5 yX5_soon yX5_soon ∈ TW := TW_t 482 (by decide +kernel) rfl
set_option maxRecDepth 20000 in
theorem wd_483 : Cond.code yX5_soon cX5_soon 3 (some .int) ∈ TW := TW_t 483 rfl rfl
theorem wd_484 : Cond.methodLink RX5 181 yX4_copy ∈ TW := TW_t 484 (by decide +kernel) rfl
theorem wd_485 : Cond.methodLink RL 72 yX5_within ∈ TW := TW_t 485 (by decide +kernel) rfl
theorem wd_486 : Cond.instanceMethod yX5_within ∈ TW := TW_t 486 (by decide +kernel) rfl
theorem wd_487 : Cond.selects RX5 yX5_within yX5_within ∈ TW := TW_t 487 (by decide +kernel) rfl
set_option maxRecDepth 20000 in
theorem wd_488 : Cond.code yX5_within cX5_within 5 (some .int) ∈ TW := TW_t 488 rfl rfl
theorem wd_489 : Cond.methodLink RX5 183 yX4_fullSites ∈ TW := TW_t 489 (by decide +kernel) rfl
theorem wd_490 : Cond.methodLink RL 76 yX5_wave ∈ TW := TW_t 490 (by decide +kernel) rfl
theorem wd_491 : Cond.instanceMethod yX5_wave ∈ TW := TW_t 491 (by decide +kernel) rfl
theorem wd_492 : Cond.selects RX5 yX5_wave yX5_wave ∈ TW := TW_t 492 (by decide +kernel) rfl
set_option maxRecDepth 20000 in
theorem wd_493 : Cond.code yX5_wave cX5_wave 6 (some .int) ∈ TW := TW_t 493 rfl rfl
theorem wd_494 : Cond.methodLink RX5 192 yX5_waveLasts ∈ TW := TW_t 494 (by decide +kernel) rfl
theorem wd_496 : Cond.instanceMethod yX5_waveLasts ∈ TW := TW_t 496 (by decide +kernel) rfl
set_option maxRecDepth 20000 in
theorem wd_497 : Cond.code yX5_waveLasts cX5_waveLasts 3 (some .int) ∈ TW := TW_t 497 rfl rfl
theorem wd_498 : Cond.methodLink RX5 237 yX4_pressIdle ∈ TW := TW_t 498 (by decide +kernel) rfl
theorem wd_499 : Cond.instanceMethod yX4_pressIdle ∈ TW := TW_t 499 (by decide +kernel) rfl
theorem wd_500 : Cond.selects RX4 yX4_pressIdle yX4_pressIdle ∈ TW := TW_t 500 (by decide +kernel) rfl
set_option maxRecDepth 20000 in
theorem wd_501 : Cond.code yX4_pressIdle cX4_pressIdle 4 none ∈ TW := TW_t 501 rfl rfl
theorem wd_502 : Cond.methodLink RX5 241 yX4_isAnyWaiting ∈ TW := TW_t 502 (by decide +kernel) rfl
theorem wd_503 : Cond.instanceMethod yX4_isAnyWaiting ∈ TW := TW_t 503 (by decide +kernel) rfl
theorem wd_504 : Cond.selects RX4 yX4_isAnyWaiting yX4_isAnyWaiting ∈ TW := TW_t 504 (by decide +kernel) rfl
set_option maxRecDepth 20000 in
theorem wd_505 : Cond.code yX4_isAnyWaiting cX4_isAnyWaiting 3 (some .boolean) ∈ TW := TW_t 505 rfl rfl
theorem wd_506 : Cond.methodLink RX5 196 Lib.Math.max.name ∈ TW := TW_t 506 (by decide +kernel) rfl
theorem wd_507 : Cond.methodLink RX5 202 yX5_isEnough ∈ TW := TW_t 507 (by decide +kernel) rfl
theorem wd_509 : Cond.instanceMethod yX5_isEnough ∈ TW := TW_t 509 (by decide +kernel) rfl
set_option maxRecDepth 20000 in
theorem wd_510 : Cond.code yX5_isEnough cX5_isEnough 3 (some .boolean) ∈ TW := TW_t 510 rfl rfl
theorem wd_511 : Cond.methodLink RL 80 yX5_odds ∈ TW := TW_t 511 (by decide +kernel) rfl
theorem wd_512 : Cond.instanceMethod yX5_odds ∈ TW := TW_t 512 (by decide +kernel) rfl
theorem wd_513 : Cond.selects RX5 yX5_odds yX5_odds ∈ TW := TW_t 513 (by decide +kernel) rfl
set_option maxRecDepth 20000 in
theorem wd_514 : Cond.code yX5_odds cX5_odds 9 (some .int) ∈ TW := TW_t 514 rfl rfl
theorem wd_515 : Cond.methodLink RX5 205 yX4_idleOnes ∈ TW := TW_t 515 (by decide +kernel) rfl
theorem wd_516 : Cond.instanceMethod yX4_idleOnes ∈ TW := TW_t 516 (by decide +kernel) rfl
theorem wd_517 : Cond.selects RX4 yX4_idleOnes yX4_idleOnes ∈ TW := TW_t 517 (by decide +kernel) rfl
set_option maxRecDepth 20000 in
theorem wd_518 : Cond.code yX4_idleOnes cX4_idleOnes 4 (some .int) ∈ TW := TW_t 518 rfl rfl
theorem wd_519 : Cond.methodLink RX5 208 yJ6_bitCount_0f7a4 ∈ TW := TW_t 519 (by decide +kernel) rfl
theorem wd_520 : Cond.static yJ6_bitCount_0f7a4 ∈ TW := TW_t 520 (by decide +kernel) rfl
set_option maxRecDepth 20000 in
theorem wd_521 : Cond.code yJ6_bitCount_0f7a4 cJ6_bitCount_0f7a4 1 (some .int) ∈ TW := TW_t 521 rfl rfl
theorem wd_522 : Cond.constant RJ6 265 (1431655765) ∈ TW := TW_t 522 (by decide +kernel) rfl
theorem wd_523 : Cond.constant RJ6 266 (858993459) ∈ TW := TW_t 523 (by decide +kernel) rfl
theorem wd_524 : Cond.constant RJ6 267 (252645135) ∈ TW := TW_t 524 (by decide +kernel) rfl
theorem wd_525 : Cond.methodLink RX5 213 yX5_power ∈ TW := TW_t 525 (by decide +kernel) rfl
theorem wd_526 : Cond.static yX5_power ∈ TW := TW_t 526 (by decide +kernel) rfl
set_option maxRecDepth 20000 in
theorem wd_527 : Cond.code yX5_power cX5_power 4 (some .int) ∈ TW := TW_t 527 rfl rfl
theorem wd_528 : Cond.methodLink RX5 216 yX5_talksAmong ∈ TW := TW_t 528 (by decide +kernel) rfl
theorem wd_530 : Cond.instanceMethod yX5_talksAmong ∈ TW := TW_t 530 (by decide +kernel) rfl
set_option maxRecDepth 20000 in
theorem wd_531 : Cond.code yX5_talksAmong cX5_talksAmong 5 (some .boolean) ∈ TW := TW_t 531 rfl rfl
theorem wd_532 : Cond.methodLink RX5 220 yX5_commonDivisor ∈ TW := TW_t 532 (by decide +kernel) rfl
theorem wd_533 : Cond.static yX5_commonDivisor ∈ TW := TW_t 533 (by decide +kernel) rfl
set_option maxRecDepth 20000 in
theorem wd_534 : Cond.code yX5_commonDivisor cX5_commonDivisor 6 (some .int) ∈ TW := TW_t 534 rfl rfl
theorem wd_535 : Cond.methodLink RL 85 yX5_sees ∈ TW := TW_t 535 (by decide +kernel) rfl
theorem wd_536 : Cond.instanceMethod yX5_sees ∈ TW := TW_t 536 (by decide +kernel) rfl
theorem wd_537 : Cond.selects RX5 yX5_sees yX5_sees ∈ TW := TW_t 537 (by decide +kernel) rfl
set_option maxRecDepth 20000 in
theorem wd_538 : Cond.code yX5_sees cX5_sees 3 (some .int) ∈ TW := TW_t 538 rfl rfl
theorem wd_539 : Cond.methodLink RL 89 yX5_forget ∈ TW := TW_t 539 (by decide +kernel) rfl
theorem wd_540 : Cond.instanceMethod yX5_forget ∈ TW := TW_t 540 (by decide +kernel) rfl
theorem wd_541 : Cond.selects RX5 yX5_forget yX5_forget ∈ TW := TW_t 541 (by decide +kernel) rfl
set_option maxRecDepth 20000 in
theorem wd_542 : Cond.code yX5_forget cX5_forget 2 (some .int) ∈ TW := TW_t 542 rfl rfl
theorem wd_543 : Cond.methodLink RL 93 yX5_ranks ∈ TW := TW_t 543 (by decide +kernel) rfl
theorem wd_544 : Cond.instanceMethod yX5_ranks ∈ TW := TW_t 544 (by decide +kernel) rfl
theorem wd_545 : Cond.selects RX5 yX5_ranks yX5_ranks ∈ TW := TW_t 545 (by decide +kernel) rfl
set_option maxRecDepth 20000 in
theorem wd_546 : Cond.code yX5_ranks cX5_ranks 2 (some .int) ∈ TW := TW_t 546 rfl rfl
theorem wd_547 : Cond.methodLink RX5 223 yX5_ranksThatFit ∈ TW := TW_t 547 (by decide +kernel) rfl
theorem wd_549 : Cond.instanceMethod yX5_ranksThatFit ∈ TW := TW_t 549 (by decide +kernel) rfl
set_option maxRecDepth 20000 in
theorem wd_550 : Cond.code yX5_ranksThatFit cX5_ranksThatFit 4 (some .int) ∈ TW := TW_t 550 rfl rfl
theorem wd_551 : Cond.methodLink RX5 245 yX5_timesOnAir ∈ TW := TW_t 551 (by decide +kernel) rfl
theorem wd_553 : Cond.instanceMethod yX5_timesOnAir ∈ TW := TW_t 553 (by decide +kernel) rfl
set_option maxRecDepth 20000 in
theorem wd_554 : Cond.code yX5_timesOnAir cX5_timesOnAir 4 (some .int) ∈ TW := TW_t 554 rfl rfl
theorem wd_555 : Cond.methodLink RX5 248 yX5_agreesWithSeen ∈ TW := TW_t 555 (by decide +kernel) rfl
theorem wd_557 : Cond.instanceMethod yX5_agreesWithSeen ∈ TW := TW_t 557 (by decide +kernel) rfl
set_option maxRecDepth 20000 in
theorem wd_558 : Cond.code yX5_agreesWithSeen cX5_agreesWithSeen 3 (some .boolean) ∈ TW := TW_t 558 rfl rfl
theorem wd_559 : Cond.methodLink RL 97 yX5_look ∈ TW := TW_t 559 (by decide +kernel) rfl
theorem wd_560 : Cond.instanceMethod yX5_look ∈ TW := TW_t 560 (by decide +kernel) rfl
theorem wd_561 : Cond.selects RX5 yX5_look yX5_look ∈ TW := TW_t 561 (by decide +kernel) rfl
set_option maxRecDepth 20000 in
theorem wd_562 : Cond.code yX5_look cX5_look 9 (some .int) ∈ TW := TW_t 562 rfl rfl
theorem wd_563 : Cond.methodLink RX5 226 yX5_ranksOnAir ∈ TW := TW_t 563 (by decide +kernel) rfl
theorem wd_565 : Cond.instanceMethod yX5_ranksOnAir ∈ TW := TW_t 565 (by decide +kernel) rfl
set_option maxRecDepth 20000 in
theorem wd_566 : Cond.code yX5_ranksOnAir cX5_ranksOnAir 5 (some .int) ∈ TW := TW_t 566 rfl rfl
theorem wd_567 : Cond.methodLink RL 101 yX5_keep ∈ TW := TW_t 567 (by decide +kernel) rfl
theorem wd_568 : Cond.instanceMethod yX5_keep ∈ TW := TW_t 568 (by decide +kernel) rfl
theorem wd_569 : Cond.selects RX5 yX5_keep yX5_keep ∈ TW := TW_t 569 (by decide +kernel) rfl
set_option maxRecDepth 20000 in
theorem wd_570 : Cond.code yX5_keep cX5_keep 2 (some .int) ∈ TW := TW_t 570 rfl rfl
theorem wd_571 : Cond.methodLink RL 105 yX5_back ∈ TW := TW_t 571 (by decide +kernel) rfl
theorem wd_572 : Cond.instanceMethod yX5_back ∈ TW := TW_t 572 (by decide +kernel) rfl
theorem wd_573 : Cond.selects RX5 yX5_back yX5_back ∈ TW := TW_t 573 (by decide +kernel) rfl
set_option maxRecDepth 20000 in
theorem wd_574 : Cond.code yX5_back cX5_back 2 (some .int) ∈ TW := TW_t 574 rfl rfl
theorem wd_575 : Cond.methodLink RL 109 yX5_count ∈ TW := TW_t 575 (by decide +kernel) rfl
theorem wd_576 : Cond.instanceMethod yX5_count ∈ TW := TW_t 576 (by decide +kernel) rfl
theorem wd_577 : Cond.selects RX5 yX5_count yX5_count ∈ TW := TW_t 577 (by decide +kernel) rfl
set_option maxRecDepth 20000 in
theorem wd_578 : Cond.code yX5_count cX5_count 2 (some .int) ∈ TW := TW_t 578 rfl rfl
theorem wd_579 : Cond.classLink RL 10 RX6 ∈ TW := TW_t 579 (by decide +kernel) rfl
theorem wd_580 : Cond.instantiable RX6 25 ∈ TW := TW_t 580 (by decide +kernel) rfl
theorem wd_581 : Cond.methodLink RL 12 yX6_init ∈ TW := TW_t 581 (by decide +kernel) rfl
theorem wd_582 : Cond.instanceMethod yX6_init ∈ TW := TW_t 582 (by decide +kernel) rfl
set_option maxRecDepth 20000 in
theorem wd_583 : Cond.code yX6_init cX6_init 1 none ∈ TW := TW_t 583 rfl rfl
theorem wd_584 : Cond.methodLink RX6 1 objectInit ∈ TW := TW_t 584 (by decide +kernel) rfl
theorem wd_585 : Cond.methodLink RX6 53 yX6_begins ∈ TW := TW_t 585 (by decide +kernel) rfl
theorem wd_587 : Cond.instanceMethod yX6_begins ∈ TW := TW_t 587 (by decide +kernel) rfl
set_option maxRecDepth 20000 in
theorem wd_588 : Cond.code yX6_begins cX6_begins 2 none ∈ TW := TW_t 588 rfl rfl
theorem wd_589 : Cond.methodLink RX6 56 yX6_settles ∈ TW := TW_t 589 (by decide +kernel) rfl
theorem wd_591 : Cond.instanceMethod yX6_settles ∈ TW := TW_t 591 (by decide +kernel) rfl
set_option maxRecDepth 20000 in
theorem wd_592 : Cond.code yX6_settles cX6_settles 2 none ∈ TW := TW_t 592 rfl rfl
theorem wd_593 : Cond.methodLink RX6 117 yX6_copies ∈ TW := TW_t 593 (by decide +kernel) rfl
theorem wd_594 : Cond.static yX6_copies ∈ TW := TW_t 594 (by decide +kernel) rfl
set_option maxRecDepth 20000 in
theorem wd_595 : Cond.code yX6_copies cX6_copies 3 none ∈ TW := TW_t 595 rfl rfl
theorem wd_596 : Cond.fieldLink RX6 59 "TrunkRadioModel" "thrown" "I" ∈ TW := TW_t 596 (by decide +kernel) rfl
theorem wd_597 : Cond.fieldLink RX6 7 "TrunkRadioModel" "text" "[I" ∈ TW := TW_t 597 (by decide +kernel) rfl
theorem wd_598 : Cond.fieldLink RX6 67 "TrunkRadioModel" "typed" "I" ∈ TW := TW_t 598 (by decide +kernel) rfl
theorem wd_599 : Cond.fieldLink RX6 70 "TrunkRadioModel" "spot" "I" ∈ TW := TW_t 599 (by decide +kernel) rfl
theorem wd_600 : Cond.fieldLink RX6 80 "TrunkRadioModel" "token" "I" ∈ TW := TW_t 600 (by decide +kernel) rfl
theorem wd_601 : Cond.fieldLink RX6 77 "TrunkRadioModel" "place" "I" ∈ TW := TW_t 601 (by decide +kernel) rfl
theorem wd_602 : Cond.fieldLink RX6 83 "TrunkRadioModel" "value" "I" ∈ TW := TW_t 602 (by decide +kernel) rfl
theorem wd_603 : Cond.fieldLink RX6 86 "TrunkRadioModel" "fault" "I" ∈ TW := TW_t 603 (by decide +kernel) rfl
theorem wd_604 : Cond.fieldLink RX6 100 "TrunkRadioModel" "met" "I" ∈ TW := TW_t 604 (by decide +kernel) rfl
theorem wd_605 : Cond.fieldLink RX6 13 "TrunkRadioModel" "told" "[I" ∈ TW := TW_t 605 (by decide +kernel) rfl
theorem wd_606 : Cond.fieldLink RX6 16 "TrunkRadioModel" "draft" "[I" ∈ TW := TW_t 606 (by decide +kernel) rfl
theorem wd_607 : Cond.fieldLink RX6 19 "TrunkRadioModel" "draftNow" "[I" ∈ TW := TW_t 607 (by decide +kernel) rfl
theorem wd_608 : Cond.fieldLink RX6 22 "TrunkRadioModel" "s" "[I" ∈ TW := TW_t 608 (by decide +kernel) rfl
theorem wd_609 : Cond.fieldLink RX6 25 "TrunkRadioModel" "w" "[I" ∈ TW := TW_t 609 (by decide +kernel) rfl
theorem wd_610 : Cond.fieldLink RX6 28 "TrunkRadioModel" "undos" "[I" ∈ TW := TW_t 610 (by decide +kernel) rfl
theorem wd_611 : Cond.fieldLink RX6 124 "TrunkRadioModel" "undoMany" "I" ∈ TW := TW_t 611 (by decide +kernel) rfl
theorem wd_612 : Cond.fieldLink RX6 31 "TrunkRadioModel" "kept" "[I" ∈ TW := TW_t 612 (by decide +kernel) rfl
theorem wd_613 : Cond.fieldLink RX6 34 "TrunkRadioModel" "isKept" "[Z" ∈ TW := TW_t 613 (by decide +kernel) rfl
theorem wd_614 : Cond.fieldLink RX6 38 "TrunkRadioModel" "seenIn" "[I" ∈ TW := TW_t 614 (by decide +kernel) rfl
theorem wd_615 : Cond.fieldLink RX6 41 "TrunkRadioModel" "seenIs" "[I" ∈ TW := TW_t 615 (by decide +kernel) rfl
theorem wd_616 : Cond.fieldLink RX6 121 "TrunkRadioModel" "seenMany" "I" ∈ TW := TW_t 616 (by decide +kernel) rfl
theorem wd_617 : Cond.fieldLink RX6 44 "TrunkRadioModel" "line" "[I" ∈ TW := TW_t 617 (by decide +kernel) rfl
theorem wd_618 : Cond.fieldLink RX6 143 "TrunkRadioModel" "lineMany" "I" ∈ TW := TW_t 618 (by decide +kernel) rfl
theorem wd_619 : Cond.fieldLink RX6 47 "TrunkRadioModel" "was" "[I" ∈ TW := TW_t 619 (by decide +kernel) rfl
theorem wd_620 : Cond.fieldLink RX6 50 "TrunkRadioModel" "by" "[I" ∈ TW := TW_t 620 (by decide +kernel) rfl
theorem wd_621 : Cond.lays RX6 "TrunkRadioModel" "thrown" "I" ∈ TW := TW_t 621 (by decide +kernel) rfl
theorem wd_623 : Cond.laysFinal RX6 "TrunkRadioModel" "text" "[I" ∈ TW := TW_t 623 (by decide +kernel) rfl
theorem wd_625 : Cond.lays RX6 "TrunkRadioModel" "typed" "I" ∈ TW := TW_t 625 (by decide +kernel) rfl
theorem wd_627 : Cond.lays RX6 "TrunkRadioModel" "spot" "I" ∈ TW := TW_t 627 (by decide +kernel) rfl
theorem wd_629 : Cond.lays RX6 "TrunkRadioModel" "token" "I" ∈ TW := TW_t 629 (by decide +kernel) rfl
theorem wd_631 : Cond.lays RX6 "TrunkRadioModel" "place" "I" ∈ TW := TW_t 631 (by decide +kernel) rfl
theorem wd_633 : Cond.lays RX6 "TrunkRadioModel" "value" "I" ∈ TW := TW_t 633 (by decide +kernel) rfl
theorem wd_635 : Cond.lays RX6 "TrunkRadioModel" "fault" "I" ∈ TW := TW_t 635 (by decide +kernel) rfl
theorem wd_637 : Cond.lays RX6 "TrunkRadioModel" "met" "I" ∈ TW := TW_t 637 (by decide +kernel) rfl
theorem wd_639 : Cond.laysFinal RX6 "TrunkRadioModel" "told" "[I" ∈ TW := TW_t 639 (by decide +kernel) rfl
theorem wd_641 : Cond.laysFinal RX6 "TrunkRadioModel" "draft" "[I" ∈ TW := TW_t 641 (by decide +kernel) rfl
theorem wd_643 : Cond.laysFinal RX6 "TrunkRadioModel" "draftNow" "[I" ∈ TW := TW_t 643 (by decide +kernel) rfl
theorem wd_645 : Cond.laysFinal RX6 "TrunkRadioModel" "s" "[I" ∈ TW := TW_t 645 (by decide +kernel) rfl
theorem wd_647 : Cond.laysFinal RX6 "TrunkRadioModel" "w" "[I" ∈ TW := TW_t 647 (by decide +kernel) rfl
theorem wd_649 : Cond.laysFinal RX6 "TrunkRadioModel" "undos" "[I" ∈ TW := TW_t 649 (by decide +kernel) rfl
theorem wd_651 : Cond.lays RX6 "TrunkRadioModel" "undoMany" "I" ∈ TW := TW_t 651 (by decide +kernel) rfl
theorem wd_653 : Cond.laysFinal RX6 "TrunkRadioModel" "kept" "[I" ∈ TW := TW_t 653 (by decide +kernel) rfl
theorem wd_655 : Cond.laysFinal RX6 "TrunkRadioModel" "isKept" "[Z" ∈ TW := TW_t 655 (by decide +kernel) rfl
theorem wd_657 : Cond.laysFinal RX6 "TrunkRadioModel" "seenIn" "[I" ∈ TW := TW_t 657 (by decide +kernel) rfl
theorem wd_659 : Cond.laysFinal RX6 "TrunkRadioModel" "seenIs" "[I" ∈ TW := TW_t 659 (by decide +kernel) rfl
theorem wd_661 : Cond.lays RX6 "TrunkRadioModel" "seenMany" "I" ∈ TW := TW_t 661 (by decide +kernel) rfl
theorem wd_663 : Cond.laysFinal RX6 "TrunkRadioModel" "line" "[I" ∈ TW := TW_t 663 (by decide +kernel) rfl
theorem wd_665 : Cond.lays RX6 "TrunkRadioModel" "lineMany" "I" ∈ TW := TW_t 665 (by decide +kernel) rfl
theorem wd_667 : Cond.laysFinal RX6 "TrunkRadioModel" "was" "[I" ∈ TW := TW_t 667 (by decide +kernel) rfl
theorem wd_669 : Cond.laysFinal RX6 "TrunkRadioModel" "by" "[I" ∈ TW := TW_t 669 (by decide +kernel) rfl
theorem wd_672 : Cond.arrayClass .boolean ∈ TW := TW_t 672 (by decide +kernel) rfl
theorem wd_673 : Cond.methodLink RL 17 yX6_type ∈ TW := TW_t 673 (by decide +kernel) rfl
theorem wd_674 : Cond.instanceMethod yX6_type ∈ TW := TW_t 674 (by decide +kernel) rfl
theorem wd_675 : Cond.selects RX6 yX6_type yX6_type ∈ TW := TW_t 675 (by decide +kernel) rfl
set_option maxRecDepth 20000 in
theorem wd_676 : Cond.code yX6_type cX6_type 2 (some .int) ∈ TW := TW_t 676 rfl rfl
theorem wd_677 : Cond.methodLink RX6 63 yX6_in ∈ TW := TW_t 677 (by decide +kernel) rfl
theorem wd_678 : Cond.static yX6_in ∈ TW := TW_t 678 (by decide +kernel) rfl
set_option maxRecDepth 20000 in
theorem wd_679 : Cond.code yX6_in cX6_in 3 (some .boolean) ∈ TW := TW_t 679 rfl rfl
theorem wd_680 : Cond.methodLink RL 22 yX6_clear ∈ TW := TW_t 680 (by decide +kernel) rfl
theorem wd_681 : Cond.instanceMethod yX6_clear ∈ TW := TW_t 681 (by decide +kernel) rfl
theorem wd_682 : Cond.selects RX6 yX6_clear yX6_clear ∈ TW := TW_t 682 (by decide +kernel) rfl
set_option maxRecDepth 20000 in
theorem wd_683 : Cond.code yX6_clear cX6_clear 2 (some .int) ∈ TW := TW_t 683 rfl rfl
theorem wd_684 : Cond.methodLink RL 26 yX6_net ∈ TW := TW_t 684 (by decide +kernel) rfl
theorem wd_685 : Cond.instanceMethod yX6_net ∈ TW := TW_t 685 (by decide +kernel) rfl
theorem wd_686 : Cond.selects RX6 yX6_net yX6_net ∈ TW := TW_t 686 (by decide +kernel) rfl
set_option maxRecDepth 20000 in
theorem wd_687 : Cond.code yX6_net cX6_net 3 (some .int) ∈ TW := TW_t 687 rfl rfl
theorem wd_688 : Cond.methodLink RX6 93 yX6_advances ∈ TW := TW_t 688 (by decide +kernel) rfl
theorem wd_690 : Cond.instanceMethod yX6_advances ∈ TW := TW_t 690 (by decide +kernel) rfl
set_option maxRecDepth 20000 in
theorem wd_691 : Cond.code yX6_advances cX6_advances 2 none ∈ TW := TW_t 691 rfl rfl
theorem wd_692 : Cond.methodLink RX6 73 yX6_letterAt ∈ TW := TW_t 692 (by decide +kernel) rfl
theorem wd_694 : Cond.instanceMethod yX6_letterAt ∈ TW := TW_t 694 (by decide +kernel) rfl
set_option maxRecDepth 20000 in
theorem wd_695 : Cond.code yX6_letterAt cX6_letterAt 2 (some .int) ∈ TW := TW_t 695 rfl rfl
theorem wd_696 : Cond.methodLink RX6 89 yX6_isWell ∈ TW := TW_t 696 (by decide +kernel) rfl
theorem wd_698 : Cond.instanceMethod yX6_isWell ∈ TW := TW_t 698 (by decide +kernel) rfl
set_option maxRecDepth 20000 in
theorem wd_699 : Cond.code yX6_isWell cX6_isWell 1 (some .boolean) ∈ TW := TW_t 699 rfl rfl
theorem wd_700 : Cond.methodLink RX6 110 yX6_mayBegin ∈ TW := TW_t 700 (by decide +kernel) rfl
theorem wd_702 : Cond.instanceMethod yX6_mayBegin ∈ TW := TW_t 702 (by decide +kernel) rfl
set_option maxRecDepth 20000 in
theorem wd_703 : Cond.code yX6_mayBegin cX6_mayBegin 1 (some .boolean) ∈ TW := TW_t 703 rfl rfl
theorem wd_704 : Cond.methodLink RX6 103 yX6_bitOf ∈ TW := TW_t 704 (by decide +kernel) rfl
theorem wd_705 : Cond.static yX6_bitOf ∈ TW := TW_t 705 (by decide +kernel) rfl
set_option maxRecDepth 20000 in
theorem wd_706 : Cond.code yX6_bitOf cX6_bitOf 1 (some .int) ∈ TW := TW_t 706 rfl rfl
theorem wd_707 : Cond.methodLink RX6 96 yX6_takes ∈ TW := TW_t 707 (by decide +kernel) rfl
theorem wd_709 : Cond.instanceMethod yX6_takes ∈ TW := TW_t 709 (by decide +kernel) rfl
set_option maxRecDepth 20000 in
theorem wd_710 : Cond.code yX6_takes cX6_takes 3 (some .int) ∈ TW := TW_t 710 rfl rfl
theorem wd_711 : Cond.methodLink RX6 113 yX6_readsItem ∈ TW := TW_t 711 (by decide +kernel) rfl
theorem wd_713 : Cond.instanceMethod yX6_readsItem ∈ TW := TW_t 713 (by decide +kernel) rfl
set_option maxRecDepth 20000 in
theorem wd_714 : Cond.code yX6_readsItem cX6_readsItem 3 none ∈ TW := TW_t 714 rfl rfl
theorem wd_715 : Cond.methodLink RX6 106 yX6_number ∈ TW := TW_t 715 (by decide +kernel) rfl
theorem wd_717 : Cond.instanceMethod yX6_number ∈ TW := TW_t 717 (by decide +kernel) rfl
set_option maxRecDepth 20000 in
theorem wd_718 : Cond.code yX6_number cX6_number 3 (some .int) ∈ TW := TW_t 718 rfl rfl
theorem wd_719 : Cond.methodLink RL 30 yX6_ticks ∈ TW := TW_t 719 (by decide +kernel) rfl
theorem wd_720 : Cond.instanceMethod yX6_ticks ∈ TW := TW_t 720 (by decide +kernel) rfl
theorem wd_721 : Cond.selects RX6 yX6_ticks yX6_ticks ∈ TW := TW_t 721 (by decide +kernel) rfl
set_option maxRecDepth 20000 in
theorem wd_722 : Cond.code yX6_ticks cX6_ticks 4 (some .int) ∈ TW := TW_t 722 rfl rfl
theorem wd_723 : Cond.methodLink RX6 185 yX6_notes ∈ TW := TW_t 723 (by decide +kernel) rfl
theorem wd_725 : Cond.instanceMethod yX6_notes ∈ TW := TW_t 725 (by decide +kernel) rfl
set_option maxRecDepth 20000 in
theorem wd_726 : Cond.code yX6_notes cX6_notes 2 none ∈ TW := TW_t 726 rfl rfl
theorem wd_727 : Cond.methodLink RX6 188 yX6_goes ∈ TW := TW_t 727 (by decide +kernel) rfl
theorem wd_729 : Cond.instanceMethod yX6_goes ∈ TW := TW_t 729 (by decide +kernel) rfl
set_option maxRecDepth 20000 in
theorem wd_730 : Cond.code yX6_goes cX6_goes 3 none ∈ TW := TW_t 730 rfl rfl
theorem wd_731 : Cond.methodLink RX6 172 yX6_controls2 ∈ TW := TW_t 731 (by decide +kernel) rfl
theorem wd_733 : Cond.instanceMethod yX6_controls2 ∈ TW := TW_t 733 (by decide +kernel) rfl
set_option maxRecDepth 20000 in
theorem wd_734 : Cond.code yX6_controls2 cX6_controls2 5 none ∈ TW := TW_t 734 rfl rfl
theorem wd_735 : Cond.methodLink RX6 131 yX6_heardAt ∈ TW := TW_t 735 (by decide +kernel) rfl
theorem wd_737 : Cond.instanceMethod yX6_heardAt ∈ TW := TW_t 737 (by decide +kernel) rfl
set_option maxRecDepth 20000 in
theorem wd_738 : Cond.code yX6_heardAt cX6_heardAt 7 (some .int) ∈ TW := TW_t 738 rfl rfl
theorem wd_739 : Cond.methodLink RX6 127 yX6_isSentAt ∈ TW := TW_t 739 (by decide +kernel) rfl
theorem wd_741 : Cond.instanceMethod yX6_isSentAt ∈ TW := TW_t 741 (by decide +kernel) rfl
set_option maxRecDepth 20000 in
theorem wd_742 : Cond.code yX6_isSentAt cX6_isSentAt 4 (some .boolean) ∈ TW := TW_t 742 rfl rfl
theorem wd_743 : Cond.methodLink RX6 135 yX6_becomes ∈ TW := TW_t 743 (by decide +kernel) rfl
theorem wd_744 : Cond.static yX6_becomes ∈ TW := TW_t 744 (by decide +kernel) rfl
set_option maxRecDepth 20000 in
theorem wd_745 : Cond.code yX6_becomes cX6_becomes 4 none ∈ TW := TW_t 745 rfl rfl
theorem wd_746 : Cond.methodLink RX6 175 yX6_helpsItself ∈ TW := TW_t 746 (by decide +kernel) rfl
theorem wd_748 : Cond.instanceMethod yX6_helpsItself ∈ TW := TW_t 748 (by decide +kernel) rfl
set_option maxRecDepth 20000 in
theorem wd_749 : Cond.code yX6_helpsItself cX6_helpsItself 8 none ∈ TW := TW_t 749 rfl rfl
theorem wd_750 : Cond.methodLink RX6 155 yX6_rests ∈ TW := TW_t 750 (by decide +kernel) rfl
theorem wd_751 : Cond.static yX6_rests ∈ TW := TW_t 751 (by decide +kernel) rfl
set_option maxRecDepth 20000 in
theorem wd_752 : Cond.code yX6_rests cX6_rests 2 none ∈ TW := TW_t 752 rfl rfl
theorem wd_753 : Cond.methodLink RX6 178 yX6_lines ∈ TW := TW_t 753 (by decide +kernel) rfl
theorem wd_755 : Cond.instanceMethod yX6_lines ∈ TW := TW_t 755 (by decide +kernel) rfl
set_option maxRecDepth 20000 in
theorem wd_756 : Cond.code yX6_lines cX6_lines 4 none ∈ TW := TW_t 756 rfl rfl
theorem wd_757 : Cond.methodLink RX6 146 yX6_isAhead ∈ TW := TW_t 757 (by decide +kernel) rfl
theorem wd_759 : Cond.instanceMethod yX6_isAhead ∈ TW := TW_t 759 (by decide +kernel) rfl
set_option maxRecDepth 20000 in
theorem wd_760 : Cond.code yX6_isAhead cX6_isAhead 6 (some .boolean) ∈ TW := TW_t 760 rfl rfl
theorem wd_761 : Cond.methodLink RX6 182 yX6_serves ∈ TW := TW_t 761 (by decide +kernel) rfl
theorem wd_763 : Cond.instanceMethod yX6_serves ∈ TW := TW_t 763 (by decide +kernel) rfl
set_option maxRecDepth 20000 in
theorem wd_764 : Cond.code yX6_serves cX6_serves 5 none ∈ TW := TW_t 764 rfl rfl
theorem wd_765 : Cond.methodLink RX6 159 yX6_talkerOf ∈ TW := TW_t 765 (by decide +kernel) rfl
theorem wd_767 : Cond.instanceMethod yX6_talkerOf ∈ TW := TW_t 767 (by decide +kernel) rfl
set_option maxRecDepth 20000 in
theorem wd_768 : Cond.code yX6_talkerOf cX6_talkerOf 5 (some .int) ∈ TW := TW_t 768 rfl rfl
theorem wd_769 : Cond.methodLink RX6 162 yX6_neededBy ∈ TW := TW_t 769 (by decide +kernel) rfl
theorem wd_771 : Cond.instanceMethod yX6_neededBy ∈ TW := TW_t 771 (by decide +kernel) rfl
set_option maxRecDepth 20000 in
theorem wd_772 : Cond.code yX6_neededBy cX6_neededBy 6 (some .int) ∈ TW := TW_t 772 rfl rfl
theorem wd_773 : Cond.methodLink RX6 165 yX6_isFree ∈ TW := TW_t 773 (by decide +kernel) rfl
theorem wd_775 : Cond.instanceMethod yX6_isFree ∈ TW := TW_t 775 (by decide +kernel) rfl
set_option maxRecDepth 20000 in
theorem wd_776 : Cond.code yX6_isFree cX6_isFree 3 (some .boolean) ∈ TW := TW_t 776 rfl rfl
theorem wd_777 : Cond.methodLink RX6 139 yX6_has ∈ TW := TW_t 777 (by decide +kernel) rfl
theorem wd_778 : Cond.static yX6_has ∈ TW := TW_t 778 (by decide +kernel) rfl
set_option maxRecDepth 20000 in
theorem wd_779 : Cond.code yX6_has cX6_has 2 (some .boolean) ∈ TW := TW_t 779 rfl rfl
theorem wd_780 : Cond.methodLink RX6 149 yX6_freeAt ∈ TW := TW_t 780 (by decide +kernel) rfl
theorem wd_782 : Cond.instanceMethod yX6_freeAt ∈ TW := TW_t 782 (by decide +kernel) rfl
set_option maxRecDepth 20000 in
theorem wd_783 : Cond.code yX6_freeAt cX6_freeAt 5 (some .int) ∈ TW := TW_t 783 rfl rfl
theorem wd_784 : Cond.methodLink RX6 169 yX6_takesOver ∈ TW := TW_t 784 (by decide +kernel) rfl
theorem wd_786 : Cond.instanceMethod yX6_takesOver ∈ TW := TW_t 786 (by decide +kernel) rfl
set_option maxRecDepth 20000 in
theorem wd_787 : Cond.code yX6_takesOver cX6_takesOver 5 none ∈ TW := TW_t 787 rfl rfl
theorem wd_788 : Cond.methodLink RX6 152 yX6_leastAt ∈ TW := TW_t 788 (by decide +kernel) rfl
theorem wd_790 : Cond.instanceMethod yX6_leastAt ∈ TW := TW_t 790 (by decide +kernel) rfl
set_option maxRecDepth 20000 in
theorem wd_791 : Cond.code yX6_leastAt cX6_leastAt 6 (some .int) ∈ TW := TW_t 791 rfl rfl
theorem wd_792 : Cond.methodLink RX6 191 yX6_isOn ∈ TW := TW_t 792 (by decide +kernel) rfl
theorem wd_794 : Cond.instanceMethod yX6_isOn ∈ TW := TW_t 794 (by decide +kernel) rfl
set_option maxRecDepth 20000 in
theorem wd_795 : Cond.code yX6_isOn cX6_isOn 3 (some .boolean) ∈ TW := TW_t 795 rfl rfl
theorem wd_796 : Cond.methodLink RL 35 yX6_presses ∈ TW := TW_t 796 (by decide +kernel) rfl
theorem wd_797 : Cond.instanceMethod yX6_presses ∈ TW := TW_t 797 (by decide +kernel) rfl
theorem wd_798 : Cond.selects RX6 yX6_presses yX6_presses ∈ TW := TW_t 798 (by decide +kernel) rfl
set_option maxRecDepth 20000 in
theorem wd_799 : Cond.code yX6_presses cX6_presses 3 (some .int) ∈ TW := TW_t 799 rfl rfl
theorem wd_800 : Cond.methodLink RX6 194 yX6_isRadio ∈ TW := TW_t 800 (by decide +kernel) rfl
theorem wd_802 : Cond.instanceMethod yX6_isRadio ∈ TW := TW_t 802 (by decide +kernel) rfl
set_option maxRecDepth 20000 in
theorem wd_803 : Cond.code yX6_isRadio cX6_isRadio 2 (some .boolean) ∈ TW := TW_t 803 rfl rfl
theorem wd_804 : Cond.methodLink RL 39 yX6_releases ∈ TW := TW_t 804 (by decide +kernel) rfl
theorem wd_805 : Cond.instanceMethod yX6_releases ∈ TW := TW_t 805 (by decide +kernel) rfl
theorem wd_806 : Cond.selects RX6 yX6_releases yX6_releases ∈ TW := TW_t 806 (by decide +kernel) rfl
set_option maxRecDepth 20000 in
theorem wd_807 : Cond.code yX6_releases cX6_releases 3 (some .int) ∈ TW := TW_t 807 rfl rfl
theorem wd_808 : Cond.methodLink RL 43 yX6_controls ∈ TW := TW_t 808 (by decide +kernel) rfl
theorem wd_809 : Cond.instanceMethod yX6_controls ∈ TW := TW_t 809 (by decide +kernel) rfl
theorem wd_810 : Cond.selects RX6 yX6_controls yX6_controls ∈ TW := TW_t 810 (by decide +kernel) rfl
set_option maxRecDepth 20000 in
theorem wd_811 : Cond.code yX6_controls cX6_controls 4 (some .int) ∈ TW := TW_t 811 rfl rfl
theorem wd_812 : Cond.methodLink RL 47 yX6_moves ∈ TW := TW_t 812 (by decide +kernel) rfl
theorem wd_813 : Cond.instanceMethod yX6_moves ∈ TW := TW_t 813 (by decide +kernel) rfl
theorem wd_814 : Cond.selects RX6 yX6_moves yX6_moves ∈ TW := TW_t 814 (by decide +kernel) rfl
set_option maxRecDepth 20000 in
theorem wd_815 : Cond.code yX6_moves cX6_moves 2 (some .int) ∈ TW := TW_t 815 rfl rfl
theorem wd_816 : Cond.methodLink RL 51 yX6_undo ∈ TW := TW_t 816 (by decide +kernel) rfl
theorem wd_817 : Cond.instanceMethod yX6_undo ∈ TW := TW_t 817 (by decide +kernel) rfl
theorem wd_818 : Cond.selects RX6 yX6_undo yX6_undo ∈ TW := TW_t 818 (by decide +kernel) rfl
set_option maxRecDepth 20000 in
theorem wd_819 : Cond.code yX6_undo cX6_undo 2 (some .int) ∈ TW := TW_t 819 rfl rfl
theorem wd_820 : Cond.methodLink RL 55 yX6_radio ∈ TW := TW_t 820 (by decide +kernel) rfl
theorem wd_821 : Cond.instanceMethod yX6_radio ∈ TW := TW_t 821 (by decide +kernel) rfl
theorem wd_822 : Cond.selects RX6 yX6_radio yX6_radio ∈ TW := TW_t 822 (by decide +kernel) rfl
set_option maxRecDepth 20000 in
theorem wd_823 : Cond.code yX6_radio cX6_radio 3 (some .int) ∈ TW := TW_t 823 rfl rfl
theorem wd_824 : Cond.methodLink RL 59 yX6_site ∈ TW := TW_t 824 (by decide +kernel) rfl
theorem wd_825 : Cond.instanceMethod yX6_site ∈ TW := TW_t 825 (by decide +kernel) rfl
theorem wd_826 : Cond.selects RX6 yX6_site yX6_site ∈ TW := TW_t 826 (by decide +kernel) rfl
set_option maxRecDepth 20000 in
theorem wd_827 : Cond.code yX6_site cX6_site 4 (some .int) ∈ TW := TW_t 827 rfl rfl
theorem wd_828 : Cond.methodLink RL 63 yX6_talker ∈ TW := TW_t 828 (by decide +kernel) rfl
theorem wd_829 : Cond.instanceMethod yX6_talker ∈ TW := TW_t 829 (by decide +kernel) rfl
theorem wd_830 : Cond.selects RX6 yX6_talker yX6_talker ∈ TW := TW_t 830 (by decide +kernel) rfl
set_option maxRecDepth 20000 in
theorem wd_831 : Cond.code yX6_talker cX6_talker 2 (some .int) ∈ TW := TW_t 831 rfl rfl
theorem wd_832 : Cond.methodLink RL 67 yX6_queue ∈ TW := TW_t 832 (by decide +kernel) rfl
theorem wd_833 : Cond.instanceMethod yX6_queue ∈ TW := TW_t 833 (by decide +kernel) rfl
theorem wd_834 : Cond.selects RX6 yX6_queue yX6_queue ∈ TW := TW_t 834 (by decide +kernel) rfl
set_option maxRecDepth 20000 in
theorem wd_835 : Cond.code yX6_queue cX6_queue 2 (some .int) ∈ TW := TW_t 835 rfl rfl
theorem wd_836 : Cond.methodLink RL 71 yX6_soon ∈ TW := TW_t 836 (by decide +kernel) rfl
theorem wd_837 : Cond.instanceMethod yX6_soon ∈ TW := TW_t 837 (by decide +kernel) rfl
theorem wd_838 : Cond.selects RX6 yX6_soon yX6_soon ∈ TW := TW_t 838 (by decide +kernel) rfl
set_option maxRecDepth 20000 in
theorem wd_839 : Cond.code yX6_soon cX6_soon 3 (some .int) ∈ TW := TW_t 839 rfl rfl
theorem wd_840 : Cond.methodLink RL 75 yX6_within ∈ TW := TW_t 840 (by decide +kernel) rfl
theorem wd_841 : Cond.instanceMethod yX6_within ∈ TW := TW_t 841 (by decide +kernel) rfl
theorem wd_842 : Cond.selects RX6 yX6_within yX6_within ∈ TW := TW_t 842 (by decide +kernel) rfl
set_option maxRecDepth 20000 in
theorem wd_843 : Cond.code yX6_within cX6_within 5 (some .int) ∈ TW := TW_t 843 rfl rfl
theorem wd_844 : Cond.methodLink RL 79 yX6_wave ∈ TW := TW_t 844 (by decide +kernel) rfl
theorem wd_845 : Cond.instanceMethod yX6_wave ∈ TW := TW_t 845 (by decide +kernel) rfl
theorem wd_846 : Cond.selects RX6 yX6_wave yX6_wave ∈ TW := TW_t 846 (by decide +kernel) rfl
set_option maxRecDepth 20000 in
theorem wd_847 : Cond.code yX6_wave cX6_wave 3 (some .int) ∈ TW := TW_t 847 rfl rfl
theorem wd_848 : Cond.methodLink RX6 201 yX6_enough ∈ TW := TW_t 848 (by decide +kernel) rfl
theorem wd_850 : Cond.instanceMethod yX6_enough ∈ TW := TW_t 850 (by decide +kernel) rfl
set_option maxRecDepth 20000 in
theorem wd_851 : Cond.code yX6_enough cX6_enough 9 (some .int) ∈ TW := TW_t 851 rfl rfl
theorem wd_852 : Cond.methodLink RX6 198 yX6_presses2 ∈ TW := TW_t 852 (by decide +kernel) rfl
theorem wd_854 : Cond.instanceMethod yX6_presses2 ∈ TW := TW_t 854 (by decide +kernel) rfl
set_option maxRecDepth 20000 in
theorem wd_855 : Cond.code yX6_presses2 cX6_presses2 3 none ∈ TW := TW_t 855 rfl rfl
theorem wd_856 : Cond.methodLink RX6 204 yX6_lasts ∈ TW := TW_t 856 (by decide +kernel) rfl
theorem wd_858 : Cond.instanceMethod yX6_lasts ∈ TW := TW_t 858 (by decide +kernel) rfl
set_option maxRecDepth 20000 in
theorem wd_859 : Cond.code yX6_lasts cX6_lasts 4 (some .int) ∈ TW := TW_t 859 rfl rfl
theorem wd_860 : Cond.methodLink RL 84 yX6_odds ∈ TW := TW_t 860 (by decide +kernel) rfl
theorem wd_861 : Cond.instanceMethod yX6_odds ∈ TW := TW_t 861 (by decide +kernel) rfl
theorem wd_862 : Cond.selects RX6 yX6_odds yX6_odds ∈ TW := TW_t 862 (by decide +kernel) rfl
set_option maxRecDepth 20000 in
theorem wd_863 : Cond.code yX6_odds cX6_odds 12 (some .int) ∈ TW := TW_t 863 rfl rfl
theorem wd_864 : Cond.methodLink RX6 208 yX6_gcd ∈ TW := TW_t 864 (by decide +kernel) rfl
theorem wd_865 : Cond.static yX6_gcd ∈ TW := TW_t 865 (by decide +kernel) rfl
set_option maxRecDepth 20000 in
theorem wd_866 : Cond.code yX6_gcd cX6_gcd 5 (some .int) ∈ TW := TW_t 866 rfl rfl
theorem wd_867 : Cond.methodLink RL 88 yX6_sees ∈ TW := TW_t 867 (by decide +kernel) rfl
theorem wd_868 : Cond.instanceMethod yX6_sees ∈ TW := TW_t 868 (by decide +kernel) rfl
theorem wd_869 : Cond.selects RX6 yX6_sees yX6_sees ∈ TW := TW_t 869 (by decide +kernel) rfl
set_option maxRecDepth 20000 in
theorem wd_870 : Cond.code yX6_sees cX6_sees 3 (some .int) ∈ TW := TW_t 870 rfl rfl
theorem wd_871 : Cond.methodLink RL 92 yX6_forget ∈ TW := TW_t 871 (by decide +kernel) rfl
theorem wd_872 : Cond.instanceMethod yX6_forget ∈ TW := TW_t 872 (by decide +kernel) rfl
theorem wd_873 : Cond.selects RX6 yX6_forget yX6_forget ∈ TW := TW_t 873 (by decide +kernel) rfl
set_option maxRecDepth 20000 in
theorem wd_874 : Cond.code yX6_forget cX6_forget 2 (some .int) ∈ TW := TW_t 874 rfl rfl
theorem wd_875 : Cond.methodLink RL 96 yX6_ranks ∈ TW := TW_t 875 (by decide +kernel) rfl
theorem wd_876 : Cond.instanceMethod yX6_ranks ∈ TW := TW_t 876 (by decide +kernel) rfl
theorem wd_877 : Cond.selects RX6 yX6_ranks yX6_ranks ∈ TW := TW_t 877 (by decide +kernel) rfl
set_option maxRecDepth 20000 in
theorem wd_878 : Cond.code yX6_ranks cX6_ranks 4 (some .int) ∈ TW := TW_t 878 rfl rfl
theorem wd_879 : Cond.methodLink RX6 211 yX6_onBy ∈ TW := TW_t 879 (by decide +kernel) rfl
theorem wd_881 : Cond.instanceMethod yX6_onBy ∈ TW := TW_t 881 (by decide +kernel) rfl
set_option maxRecDepth 20000 in
theorem wd_882 : Cond.code yX6_onBy cX6_onBy 6 (some .int) ∈ TW := TW_t 882 rfl rfl
theorem wd_883 : Cond.methodLink RX6 214 yX6_isAsSeen ∈ TW := TW_t 883 (by decide +kernel) rfl
theorem wd_885 : Cond.instanceMethod yX6_isAsSeen ∈ TW := TW_t 885 (by decide +kernel) rfl
set_option maxRecDepth 20000 in
theorem wd_886 : Cond.code yX6_isAsSeen cX6_isAsSeen 4 (some .boolean) ∈ TW := TW_t 886 rfl rfl
theorem wd_887 : Cond.methodLink RL 100 yX6_look ∈ TW := TW_t 887 (by decide +kernel) rfl
theorem wd_888 : Cond.instanceMethod yX6_look ∈ TW := TW_t 888 (by decide +kernel) rfl
theorem wd_889 : Cond.selects RX6 yX6_look yX6_look ∈ TW := TW_t 889 (by decide +kernel) rfl
set_option maxRecDepth 20000 in
theorem wd_890 : Cond.code yX6_look cX6_look 7 (some .int) ∈ TW := TW_t 890 rfl rfl
theorem wd_891 : Cond.methodLink RL 104 yX6_keep ∈ TW := TW_t 891 (by decide +kernel) rfl
theorem wd_892 : Cond.instanceMethod yX6_keep ∈ TW := TW_t 892 (by decide +kernel) rfl
theorem wd_893 : Cond.selects RX6 yX6_keep yX6_keep ∈ TW := TW_t 893 (by decide +kernel) rfl
set_option maxRecDepth 20000 in
theorem wd_894 : Cond.code yX6_keep cX6_keep 3 (some .int) ∈ TW := TW_t 894 rfl rfl
theorem wd_895 : Cond.methodLink RL 108 yX6_back ∈ TW := TW_t 895 (by decide +kernel) rfl
theorem wd_896 : Cond.instanceMethod yX6_back ∈ TW := TW_t 896 (by decide +kernel) rfl
theorem wd_897 : Cond.selects RX6 yX6_back yX6_back ∈ TW := TW_t 897 (by decide +kernel) rfl
set_option maxRecDepth 20000 in
theorem wd_898 : Cond.code yX6_back cX6_back 3 (some .int) ∈ TW := TW_t 898 rfl rfl
theorem wd_899 : Cond.methodLink RL 112 yX6_count ∈ TW := TW_t 899 (by decide +kernel) rfl
theorem wd_900 : Cond.instanceMethod yX6_count ∈ TW := TW_t 900 (by decide +kernel) rfl
theorem wd_901 : Cond.selects RX6 yX6_count yX6_count ∈ TW := TW_t 901 (by decide +kernel) rfl
set_option maxRecDepth 20000 in
theorem wd_902 : Cond.code yX6_count cX6_count 2 (some .int) ∈ TW := TW_t 902 rfl rfl
theorem wp_0 : Cond.selects RX3 yX3_readToken yX3_readToken ∈ TW := TW_p 0 (by decide +kernel) rfl
theorem wp_1 : Cond.selects RX3 yX3_letterAt yX3_letterAt ∈ TW := TW_p 1 (by decide +kernel) rfl
theorem wp_2 : Cond.selects RX3 yX3_readNumber yX3_readNumber ∈ TW := TW_p 2 (by decide +kernel) rfl
theorem wp_3 : Cond.selects RX3 yX3_readItem yX3_readItem ∈ TW := TW_p 3 (by decide +kernel) rfl
theorem wp_4 : Cond.selects RX3 yX3_readChannels yX3_readChannels ∈ TW := TW_p 4 (by decide +kernel) rfl
theorem wp_5 : Cond.selects RX3 yX3_isNumberFrom yX3_isNumberFrom ∈ TW := TW_p 5 (by decide +kernel) rfl
theorem wp_6 : Cond.selects RX3 yX3_isEnded yX3_isEnded ∈ TW := TW_p 6 (by decide +kernel) rfl
theorem wp_7 : Cond.selects RX3 yX3_readAir yX3_readAir ∈ TW := TW_p 7 (by decide +kernel) rfl
theorem wp_8 : Cond.selects RX3 yX3_readPatience yX3_readPatience ∈ TW := TW_p 8 (by decide +kernel) rfl
theorem wp_9 : Cond.selects RX3 yX3_readRadio yX3_readRadio ∈ TW := TW_p 9 (by decide +kernel) rfl
theorem wp_10 : Cond.selects RX0 yX0_tryAgain yX0_tryAgain ∈ TW := TW_p 10 (by decide +kernel) rfl
theorem wp_11 : Cond.selects RX0 yX0_cutLongTalks yX0_cutLongTalks ∈ TW := TW_p 11 (by decide +kernel) rfl
theorem wp_12 : Cond.selects RX5 yX5_waveLasts yX5_waveLasts ∈ TW := TW_p 12 (by decide +kernel) rfl
theorem wp_13 : Cond.selects RX5 yX5_isEnough yX5_isEnough ∈ TW := TW_p 13 (by decide +kernel) rfl
theorem wp_14 : Cond.selects RX5 yX5_talksAmong yX5_talksAmong ∈ TW := TW_p 14 (by decide +kernel) rfl
theorem wp_15 : Cond.selects RX5 yX5_ranksThatFit yX5_ranksThatFit ∈ TW := TW_p 15 (by decide +kernel) rfl
theorem wp_16 : Cond.selects RX5 yX5_timesOnAir yX5_timesOnAir ∈ TW := TW_p 16 (by decide +kernel) rfl
theorem wp_17 : Cond.selects RX5 yX5_agreesWithSeen yX5_agreesWithSeen ∈ TW := TW_p 17 (by decide +kernel) rfl
theorem wp_18 : Cond.selects RX5 yX5_ranksOnAir yX5_ranksOnAir ∈ TW := TW_p 18 (by decide +kernel) rfl
theorem wp_19 : Cond.selects RX6 yX6_begins yX6_begins ∈ TW := TW_p 19 (by decide +kernel) rfl
theorem wp_20 : Cond.selects RX6 yX6_settles yX6_settles ∈ TW := TW_p 20 (by decide +kernel) rfl
theorem wp_21 : Cond.selects RX6 yX6_advances yX6_advances ∈ TW := TW_p 21 (by decide +kernel) rfl
theorem wp_22 : Cond.selects RX6 yX6_letterAt yX6_letterAt ∈ TW := TW_p 22 (by decide +kernel) rfl
theorem wp_23 : Cond.selects RX6 yX6_isWell yX6_isWell ∈ TW := TW_p 23 (by decide +kernel) rfl
theorem wp_24 : Cond.selects RX6 yX6_mayBegin yX6_mayBegin ∈ TW := TW_p 24 (by decide +kernel) rfl
theorem wp_25 : Cond.selects RX6 yX6_takes yX6_takes ∈ TW := TW_p 25 (by decide +kernel) rfl
theorem wp_26 : Cond.selects RX6 yX6_readsItem yX6_readsItem ∈ TW := TW_p 26 (by decide +kernel) rfl
theorem wp_27 : Cond.selects RX6 yX6_number yX6_number ∈ TW := TW_p 27 (by decide +kernel) rfl
theorem wp_28 : Cond.selects RX6 yX6_notes yX6_notes ∈ TW := TW_p 28 (by decide +kernel) rfl
theorem wp_29 : Cond.selects RX6 yX6_goes yX6_goes ∈ TW := TW_p 29 (by decide +kernel) rfl
theorem wp_30 : Cond.selects RX6 yX6_controls2 yX6_controls2 ∈ TW := TW_p 30 (by decide +kernel) rfl
theorem wp_31 : Cond.selects RX6 yX6_heardAt yX6_heardAt ∈ TW := TW_p 31 (by decide +kernel) rfl
theorem wp_32 : Cond.selects RX6 yX6_isSentAt yX6_isSentAt ∈ TW := TW_p 32 (by decide +kernel) rfl
theorem wp_33 : Cond.selects RX6 yX6_helpsItself yX6_helpsItself ∈ TW := TW_p 33 (by decide +kernel) rfl
theorem wp_34 : Cond.selects RX6 yX6_lines yX6_lines ∈ TW := TW_p 34 (by decide +kernel) rfl
theorem wp_35 : Cond.selects RX6 yX6_isAhead yX6_isAhead ∈ TW := TW_p 35 (by decide +kernel) rfl
theorem wp_36 : Cond.selects RX6 yX6_serves yX6_serves ∈ TW := TW_p 36 (by decide +kernel) rfl
theorem wp_37 : Cond.selects RX6 yX6_talkerOf yX6_talkerOf ∈ TW := TW_p 37 (by decide +kernel) rfl
theorem wp_38 : Cond.selects RX6 yX6_neededBy yX6_neededBy ∈ TW := TW_p 38 (by decide +kernel) rfl
theorem wp_39 : Cond.selects RX6 yX6_isFree yX6_isFree ∈ TW := TW_p 39 (by decide +kernel) rfl
theorem wp_40 : Cond.selects RX6 yX6_freeAt yX6_freeAt ∈ TW := TW_p 40 (by decide +kernel) rfl
theorem wp_41 : Cond.selects RX6 yX6_takesOver yX6_takesOver ∈ TW := TW_p 41 (by decide +kernel) rfl
theorem wp_42 : Cond.selects RX6 yX6_leastAt yX6_leastAt ∈ TW := TW_p 42 (by decide +kernel) rfl
theorem wp_43 : Cond.selects RX6 yX6_isOn yX6_isOn ∈ TW := TW_p 43 (by decide +kernel) rfl
theorem wp_44 : Cond.selects RX6 yX6_isRadio yX6_isRadio ∈ TW := TW_p 44 (by decide +kernel) rfl
theorem wp_45 : Cond.selects RX6 yX6_enough yX6_enough ∈ TW := TW_p 45 (by decide +kernel) rfl
theorem wp_46 : Cond.selects RX6 yX6_presses2 yX6_presses2 ∈ TW := TW_p 46 (by decide +kernel) rfl
theorem wp_47 : Cond.selects RX6 yX6_lasts yX6_lasts ∈ TW := TW_p 47 (by decide +kernel) rfl
theorem wp_48 : Cond.selects RX6 yX6_onBy yX6_onBy ∈ TW := TW_p 48 (by decide +kernel) rfl
theorem wp_49 : Cond.selects RX6 yX6_isAsSeen yX6_isAsSeen ∈ TW := TW_p 49 (by decide +kernel) rfl
theorem inlX0 : ∀ w ∈ u_ws RX0 TX0 2, w ∈ TW := List.forall_mem_cons.mpr ⟨wd_119, List.forall_mem_cons.mpr ⟨wd_121, fun _ h => absurd h List.not_mem_nil⟩⟩
theorem inlX1 : ∀ w ∈ u_ws RX1 TX1 3, w ∈ TW := List.forall_mem_cons.mpr ⟨wd_194, List.forall_mem_cons.mpr ⟨wd_196, List.forall_mem_cons.mpr ⟨wd_198, fun _ h => absurd h List.not_mem_nil⟩⟩⟩
theorem inlX2 : ∀ w ∈ u_ws RX2 TX2 7, w ∈ TW := List.forall_mem_cons.mpr ⟨wd_95, List.forall_mem_cons.mpr ⟨wd_97, List.forall_mem_cons.mpr ⟨wd_99, List.forall_mem_cons.mpr ⟨wd_101, List.forall_mem_cons.mpr ⟨wd_103, List.forall_mem_cons.mpr ⟨wd_105, List.forall_mem_cons.mpr ⟨wd_107, fun _ h => absurd h List.not_mem_nil⟩⟩⟩⟩⟩⟩⟩
theorem inlX3 : ∀ w ∈ u_ws RX3 TX3 9, w ∈ TW := List.forall_mem_cons.mpr ⟨wd_35, List.forall_mem_cons.mpr ⟨wd_37, List.forall_mem_cons.mpr ⟨wd_39, List.forall_mem_cons.mpr ⟨wd_41, List.forall_mem_cons.mpr ⟨wd_43, List.forall_mem_cons.mpr ⟨wd_45, List.forall_mem_cons.mpr ⟨wd_47, List.forall_mem_cons.mpr ⟨wd_49, List.forall_mem_cons.mpr ⟨wd_51, fun _ h => absurd h List.not_mem_nil⟩⟩⟩⟩⟩⟩⟩⟩⟩
theorem inlX4 : ∀ w ∈ u_ws RX4 TX4 10, w ∈ TW := List.forall_mem_cons.mpr ⟨wd_160, List.forall_mem_cons.mpr ⟨wd_162, List.forall_mem_cons.mpr ⟨wd_164, List.forall_mem_cons.mpr ⟨wd_166, List.forall_mem_cons.mpr ⟨wd_168, List.forall_mem_cons.mpr ⟨wd_170, List.forall_mem_cons.mpr ⟨wd_172, List.forall_mem_cons.mpr ⟨wd_174, List.forall_mem_cons.mpr ⟨wd_176, List.forall_mem_cons.mpr ⟨wd_178, fun _ h => absurd h List.not_mem_nil⟩⟩⟩⟩⟩⟩⟩⟩⟩⟩
theorem inlX5 : ∀ w ∈ u_ws RX5 TX5 13, w ∈ TW := List.forall_mem_cons.mpr ⟨wd_214, List.forall_mem_cons.mpr ⟨wd_216, List.forall_mem_cons.mpr ⟨wd_218, List.forall_mem_cons.mpr ⟨wd_220, List.forall_mem_cons.mpr ⟨wd_222, List.forall_mem_cons.mpr ⟨wd_224, List.forall_mem_cons.mpr ⟨wd_226, List.forall_mem_cons.mpr ⟨wd_228, List.forall_mem_cons.mpr ⟨wd_230, List.forall_mem_cons.mpr ⟨wd_232, List.forall_mem_cons.mpr ⟨wd_234, List.forall_mem_cons.mpr ⟨wd_236, List.forall_mem_cons.mpr ⟨wd_238, fun _ h => absurd h List.not_mem_nil⟩⟩⟩⟩⟩⟩⟩⟩⟩⟩⟩⟩⟩
theorem inlX6 : ∀ w ∈ u_ws RX6 TX6 25, w ∈ TW := List.forall_mem_cons.mpr ⟨wd_621, List.forall_mem_cons.mpr ⟨wd_623, List.forall_mem_cons.mpr ⟨wd_625, List.forall_mem_cons.mpr ⟨wd_627, List.forall_mem_cons.mpr ⟨wd_629, List.forall_mem_cons.mpr ⟨wd_631, List.forall_mem_cons.mpr ⟨wd_633, List.forall_mem_cons.mpr ⟨wd_635, List.forall_mem_cons.mpr ⟨wd_637, List.forall_mem_cons.mpr ⟨wd_639, List.forall_mem_cons.mpr ⟨wd_641, List.forall_mem_cons.mpr ⟨wd_643, List.forall_mem_cons.mpr ⟨wd_645, List.forall_mem_cons.mpr ⟨wd_647, List.forall_mem_cons.mpr ⟨wd_649, List.forall_mem_cons.mpr ⟨wd_651, List.forall_mem_cons.mpr ⟨wd_653, List.forall_mem_cons.mpr ⟨wd_655, List.forall_mem_cons.mpr ⟨wd_657, List.forall_mem_cons.mpr ⟨wd_659, List.forall_mem_cons.mpr ⟨wd_661, List.forall_mem_cons.mpr ⟨wd_663, List.forall_mem_cons.mpr ⟨wd_665, List.forall_mem_cons.mpr ⟨wd_667, List.forall_mem_cons.mpr ⟨wd_669, fun _ h => absurd h List.not_mem_nil⟩⟩⟩⟩⟩⟩⟩⟩⟩⟩⟩⟩⟩⟩⟩⟩⟩⟩⟩⟩⟩⟩⟩⟩⟩
end
section
/-! the flat world: 149 cells; cell k holds the numbers w k; objects of one class lie in fixed places -/
abbrev ra_W : Type := Nat → Nat → Int32
abbrev ra_G : Type := (Nat → Nat) × va_G × ClassId × ClassId × ClassId
def ra_kl : List (Nat × Nat) := [(5, 0), (3, 0), (10, 80), (2, 0), (10, 2), (10, 7), (10, 7), (10, 7), (2, 0), (10, 2), (10, 7), (10, 7), (10, 7), (0, 0), (10, 7), (10, 7), (4, 0), (10, 7), (10, 7), (10, 7), (10, 7), (10, 7), (10, 2), (4, 0), (10, 7), (10, 7), (10, 7), (10, 7), (10, 7), (10, 2), (1, 0), (12, 12), (12, 2), (10, 6), (10, 6), (10, 4), (4, 0), (10, 7), (10, 7), (10, 7), (10, 7), (10, 7), (10, 2), (4, 0), (10, 7), (10, 7), (10, 7), (10, 7), (10, 7), (10, 2), (4, 0), (10, 7), (10, 7), (10, 7), (10, 7), (10, 7), (10, 2), (4, 0), (10, 7), (10, 7), (10, 7), (10, 7), (10, 7), (10, 2), (4, 0), (10, 7), (10, 7), (10, 7), (10, 7), (10, 7), (10, 2), (4, 0), (10, 7), (10, 7), (10, 7), (10, 7), (10, 7), (10, 2), (4, 0), (10, 7), (10, 7), (10, 7), (10, 7), (10, 7), (10, 2), (4, 0), (10, 7), (10, 7), (10, 7), (10, 7), (10, 7), (10, 2), (4, 0), (10, 7), (10, 7), (10, 7), (10, 7), (10, 7), (10, 2), (4, 0), (10, 7), (10, 7), (10, 7), (10, 7), (10, 7), (10, 2), (4, 0), (10, 7), (10, 7), (10, 7), (10, 7), (10, 7), (10, 2), (4, 0), (10, 7), (10, 7), (10, 7), (10, 7), (10, 7), (10, 2), (4, 0), (10, 7), (10, 7), (10, 7), (10, 7), (10, 7), (10, 2), (4, 0), (10, 7), (10, 7), (10, 7), (10, 7), (10, 7), (10, 2), (6, 0), (10, 80), (10, 19), (10, 19), (10, 41), (10, 41), (10, 41), (10, 492), (10, 82), (11, 2), (10, 6), (10, 6), (10, 7), (10, 7), (10, 21)]
def ra_kd (k : Nat) : Nat × Nat := ra_kl.getD k (99, 0)
def ra_fs (ad : Nat → Nat) (ci k : Nat) (c : Nat → Int32) : List Value := match ci with
  | 0 => [.ref (ad (k + 1)), .ref (ad (k + 2))]
  | 1 => [.int (c 0), .ref (ad (k + 1)), .int (c 2)]
  | 2 => [.int (c 0), .int (c 1), .int (c 2), .ref (ad (k + 1)), .ref (ad (k + 2)), .ref (ad (k + 3)), .ref (ad (k + 4))]
  | 3 => [.int (c 0), .ref (ad (k + 1)), .int (c 2), .int (c 3), .int (c 4), .int (c 5), .int (c 6), .int (c 7), .int (c 8)]
  | 4 => [.ref (ad (k + 1)), .ref (ad (k + 2)), .ref (ad (k + 3)), .ref (ad (k + 4)), .ref (ad (k + 5)), .ref (ad (k + 6)), .int (c 6), .int (c 7), .int (c 8), .int (c 9)]
  | 5 => [.ref (ad 1), .ref (ad 3), .ref (ad 8), .ref (ad 13), .ref (ad 16), .ref (ad 23), .ref (ad 30), .ref (ad 32), .int (c 8), .ref (ad 33), .ref (ad 34), .int (c 11), .ref (ad 35)]
  | 6 => [.int (c 0), .ref (ad 135), .int (c 2), .int (c 3), .int (c 4), .int (c 5), .int (c 6), .int (c 7), .int (c 8), .ref (ad 136), .ref (ad 137), .ref (ad 138), .ref (ad 139), .ref (ad 140), .ref (ad 141), .int (c 15), .ref (ad 142), .ref (ad 143), .ref (ad 144), .ref (ad 145), .int (c 20), .ref (ad 146), .int (c 22), .ref (ad 147), .ref (ad 148)]
  | _ => []
def ra_rs (k j : Nat) : Nat := if k = 31 then 50 + 7 * j else 36 + 7 * j
def ra_E (G : ra_G) (k : Nat) (c : Nat → Int32) : va_E :=
  if (ra_kd k).1 = 10 then .inl (G.2.2.1, (ra_kd k).2, .inl c)
  else if (ra_kd k).1 = 11 then .inl (G.2.2.2.1, (ra_kd k).2, .inl c)
  else if (ra_kd k).1 = 12 then .inl (G.2.2.2.2, (ra_kd k).2, .inr (.inr (.inr (.inr (fun j => some (G.1 (ra_rs k j)))))))
  else .inr ((ra_kd k).1, ra_fs G.1 (ra_kd k).1 k c)
def ra_L (G : ra_G) (w : ra_W) : va_W := (List.range 149).map (fun k => (G.1 k, ra_E G k (w k)))
def ra_up (w : ra_W) (k : Nat) (c : Nat → Int32) : ra_W := fun j => if j = k then c else w j
def ra_st (w : ra_W) (k i : Nat) (x : Int32) : ra_W := ra_up w k (upd (w k) i x)
theorem ra_kl_len : ra_kl.length = 149 := by decide +kernel
theorem ra_kd_lt {k : Nat} (h : (ra_kd k).1 ≠ 99) : k < 149 := by
  rcases Nat.lt_or_ge k 149 with q | q
  · exact q
  · exfalso
    apply h
    unfold ra_kd
    rw [List.getD_eq_getElem?_getD, List.getElem?_eq_none (by rw [ra_kl_len]; exact q)]
    rfl
theorem ra_L_get (G : ra_G) (w : ra_W) {k : Nat} (h : k < 149) : (ra_L G w)[k]? = some (G.1 k, ra_E G k (w k)) := by
  simp [ra_L, h]
theorem ra_L_len (G : ra_G) (w : ra_W) : (ra_L G w).length = 149 := by simp [ra_L]
theorem ra_L_some {G : ra_G} {w : ra_W} {k : Nat} {q : Nat × va_E} (h : (ra_L G w)[k]? = some q) : k < 149 ∧ q.1 = G.1 k := by
  have hk : k < 149 := by rw [← ra_L_len G w]; exact (List.getElem?_eq_some_iff.mp h).1
  rw [ra_L_get G w hk] at h
  cases h
  exact ⟨hk, rfl⟩
theorem ra_L_set (G : ra_G) (w : ra_W) {k : Nat} (h : k < 149) (c : Nat → Int32) : (ra_L G w).set k (G.1 k, ra_E G k c) = ra_L G (ra_up w k c) := by
  apply List.ext_getElem?
  intro i
  rw [List.getElem?_set]
  by_cases hk : k = i
  · subst hk
    rw [if_pos rfl, if_pos (by rw [ra_L_len]; exact h), ra_L_get _ _ h]
    simp [ra_up]
  · rw [if_neg hk]
    by_cases hi : i < 149
    · rw [ra_L_get _ _ hi, ra_L_get _ _ hi]
      simp [ra_up, Ne.symm hk]
    · rw [List.getElem?_eq_none (by rw [ra_L_len]; omega), List.getElem?_eq_none (by rw [ra_L_len]; omega)]
theorem ra_EA {G : ra_G} {k n : Nat} (h : ra_kd k = (10, n)) (c : Nat → Int32) : ra_E G k c = .inl (G.2.2.1, n, .inl c) := by
  rw [ra_E, h]; rfl
theorem ra_EZ {G : ra_G} {k n : Nat} (h : ra_kd k = (11, n)) (c : Nat → Int32) : ra_E G k c = .inl (G.2.2.2.1, n, .inl c) := by
  rw [ra_E, h]; rfl
theorem ra_ES {G : ra_G} {k n : Nat} (h : ra_kd k = (12, n)) (c : Nat → Int32) : ra_E G k c = .inl (G.2.2.2.2, n, .inr (.inr (.inr (.inr (fun j => some (G.1 (ra_rs k j))))))) := by
  rw [ra_E, h]; rfl
theorem ra_EO {G : ra_G} {k ci : Nat} (h : ra_kd k = (ci, 0)) (hc : ci < 7) (c : Nat → Int32) : ra_E G k c = .inr (ci, ra_fs G.1 ci k c) := by
  rw [ra_E, h, if_neg (by show ¬ ci = 10; omega), if_neg (by show ¬ ci = 11; omega), if_neg (by show ¬ ci = 12; omega)]
theorem ra_lt {k a b : Nat} (h : ra_kd k = (a, b)) (ha : a ≠ 99) : k < 149 := ra_kd_lt (by rw [h]; exact ha)
theorem ra_getA (G : ra_G) (w : ra_W) {k n : Nat} (h : ra_kd k = (10, n)) : (ra_L G w)[k]? = some (G.1 k, .inl (G.2.2.1, n, .inl (w k))) := by
  rw [ra_L_get G w (ra_lt h (by decide)), ra_EA h]
theorem ra_getZ (G : ra_G) (w : ra_W) {k n : Nat} (h : ra_kd k = (11, n)) : (ra_L G w)[k]? = some (G.1 k, .inl (G.2.2.2.1, n, .inl (w k))) := by
  rw [ra_L_get G w (ra_lt h (by decide)), ra_EZ h]
theorem ra_getS (G : ra_G) (w : ra_W) {k n : Nat} (h : ra_kd k = (12, n)) : (ra_L G w)[k]? = some (G.1 k, .inl (G.2.2.2.2, n, .inr (.inr (.inr (.inr (fun j => some (G.1 (ra_rs k j)))))))) := by
  rw [ra_L_get G w (ra_lt h (by decide)), ra_ES h]
theorem ra_getO (G : ra_G) (w : ra_W) {k ci : Nat} (h : ra_kd k = (ci, 0)) (hc : ci < 7) : (ra_L G w)[k]? = some (G.1 k, .inr (ci, ra_fs G.1 ci k (w k))) := by
  rw [ra_L_get G w (ra_lt h (by omega)), ra_EO h hc]
theorem ra_setA (G : ra_G) (w : ra_W) {k n : Nat} (h : ra_kd k = (10, n)) (c : Nat → Int32) : (ra_L G w).set k (G.1 k, .inl (G.2.2.1, n, .inl c)) = ra_L G (ra_up w k c) := by
  rw [← ra_L_set G w (ra_lt h (by decide)), ra_EA h]
theorem ra_setZ (G : ra_G) (w : ra_W) {k n : Nat} (h : ra_kd k = (11, n)) (c : Nat → Int32) : (ra_L G w).set k (G.1 k, .inl (G.2.2.2.1, n, .inl c)) = ra_L G (ra_up w k c) := by
  rw [← ra_L_set G w (ra_lt h (by decide)), ra_EZ h]
theorem ra_setO (G : ra_G) (w : ra_W) {k ci : Nat} (h : ra_kd k = (ci, 0)) (hc : ci < 7) (c : Nat → Int32) : (ra_L G w).set k (G.1 k, .inr (ci, ra_fs G.1 ci k c)) = ra_L G (ra_up w k c) := by
  rw [← ra_L_set G w (ra_lt h (by omega)), ra_EO h hc]
def ra_tys (G : ra_G) : List (ClassId × FieldType) := [(G.2.2.1, .int), (G.2.2.2.1, .boolean), (G.2.2.2.2, .object "TrunkRadio$State")]
def ra_inj (G : ra_G) : Prop := ∀ i j : Nat, i < 149 → j < 149 → G.1 i = G.1 j → i = j
def ra_A (G : ra_G) : Nat → Prop := fun q => ∃ k : Nat, k < 149 ∧ q = G.1 k
theorem ra_D {G : ra_G} {A : Nat → Prop} (hj : ra_inj G) (hA : ∀ k, k < 149 → A (G.1 k)) (w : ra_W) : va_D A (ra_L G w) := by
  refine ⟨fun i j p q hi hq e => ?_, fun k q hk => ?_⟩
  · obtain ⟨a1, a2⟩ := ra_L_some hi
    obtain ⟨b1, b2⟩ := ra_L_some hq
    exact hj i j a1 b1 (by rw [← a2, ← b2, e])
  · obtain ⟨a1, a2⟩ := ra_L_some hk
    rw [a2]
    exact hA k a1
abbrev ra_Z := Program × Launch × Env × Room × State × MethodId × Array Value × List Frame × Method × Code × (State → Prop) × ra_G × (Nat → Prop) × Nat × Nat
abbrev zp (Z : ra_Z) := Z.1
abbrev zl (Z : ra_Z) := Z.2.1
abbrev ze (Z : ra_Z) := Z.2.2.1
abbrev zR (Z : ra_Z) := Z.2.2.2.1
abbrev zs (Z : ra_Z) := Z.2.2.2.2.1
abbrev zm (Z : ra_Z) := Z.2.2.2.2.2.1
abbrev zar (Z : ra_Z) := Z.2.2.2.2.2.2.1
abbrev zbl (Z : ra_Z) := Z.2.2.2.2.2.2.2.1
abbrev zmt (Z : ra_Z) := Z.2.2.2.2.2.2.2.2.1
abbrev zc (Z : ra_Z) := Z.2.2.2.2.2.2.2.2.2.1
abbrev zQ (Z : ra_Z) := Z.2.2.2.2.2.2.2.2.2.2.1
abbrev zG (Z : ra_Z) := Z.2.2.2.2.2.2.2.2.2.2.2.1
abbrev zA (Z : ra_Z) := Z.2.2.2.2.2.2.2.2.2.2.2.2.1
abbrev zcl (Z : ra_Z) := Z.2.2.2.2.2.2.2.2.2.2.2.2.2.1
abbrev zsl (Z : ra_Z) := Z.2.2.2.2.2.2.2.2.2.2.2.2.2.2
def ra_J (Z : ra_Z) (nL pc : Nat) (lv : List (Nat × Value)) (st : List Value) (w : ra_W) : Prop :=
  ∀ (ls : Array Slot) (H : Heap) (locs : List Loc), lv_has ls nL lv → va_P (zG Z).2.1 vwCl (ra_L (zG Z) w) H → va_S (zA Z) (zs Z).heap H locs →
    W (zp Z) (zl Z) (ze Z) (zR Z) (zs Z) (zm Z) (zar Z) (zbl Z) (zmt Z) (zc Z) H locs (zcl Z) (zsl Z) (zQ Z) (F0 (zm Z) pc ls st)
def ra_C (Z : ra_Z) (cc : ByteArray) (nL : Nat) (own : String) (fr lo : Nat) : Prop :=
  ((zp Z).tables.exec = Jvm.exec ∧ (zc Z).code = cc ∧ (zc Z).maxLocals = nL ∧ (zs Z).vm.findClass own = some (zm Z).cls) ∧ (∀ w ∈ TW, w.before (zar Z) (zs Z) = true) ∧ va_K (zG Z).2.1 vwCl (ra_tys (zG Z)) (zs Z) ∧ ra_inj (zG Z) ∧ (∀ k, k < 149 → zA Z ((zG Z).1 k)) ∧ (zcl Z ≤ (zR Z).cells ∧ zsl Z ≤ (zR Z).slots) ∧ (fr ≤ (zR Z).frames ∧ lo ≤ (zR Z).locals) ∧ (zmt Z).locks = false
def ra_K (G : ra_G) (w : ra_W) (t : State) : Prop := va_P G.2.1 vwCl (ra_L G w) t.heap ∧ va_K G.2.1 vwCl (ra_tys G) t
def ra_QI (Z : ra_Z) (r : Int32) (w1 : ra_W) : Prop := zQ Z = MQ (zbl Z) (va_Qi (fun (r' : Int32) (_ : Unit) => r' = r) (fun _ t => ra_K (zG Z) w1 t) (zA Z)) (zar Z) (zs Z) (zcl Z) (zsl Z) (zA Z)
def ra_QV (Z : ra_Z) (_ : Int32) (w1 : ra_W) : Prop := zQ Z = MQ (zbl Z) (va_Qv (fun (_ : Unit) => True) (fun _ t => ra_K (zG Z) w1 t) (zA Z)) (zar Z) (zs Z) (zcl Z) (zsl Z) (zA Z)
abbrev ra_rm (fr lo : Nat) : Room := { frames := fr, cells := 0, slots := 0, locals := lo }
def ra_MI (l : Launch) (G : ra_G) (y : MethodName) (cc : ByteArray) (nL : Nat) (ret : Option FieldType) (fr lo : Nat) (av : List Value) (w : ra_W) (r : Int32) (w1 : ra_W) : Prop :=
  Met l y (.code y cc nL ret :: TW) (ra_rm fr lo) (va_Pc av (fun U => ra_K G w U)) (va_Qi (fun (r' : Int32) (_ : Unit) => r' = r) (fun _ t => ra_K G w1 t) (ra_A G)) 0 0 (ra_A G)
def ra_MV (l : Launch) (G : ra_G) (y : MethodName) (cc : ByteArray) (nL : Nat) (ret : Option FieldType) (fr lo : Nat) (av : List Value) (w : ra_W) (_ : Int32) (w1 : ra_W) : Prop :=
  Met l y (.code y cc nL ret :: TW) (ra_rm fr lo) (va_Pc av (fun U => ra_K G w U)) (va_Qv (fun (_ : Unit) => True) (fun _ t => ra_K G w1 t) (ra_A G)) 0 0 (ra_A G)
theorem ra_good {y : MethodName} {cc : ByteArray} {nL : Nat} {ret : Option FieldType} (h : Cond.code y cc nL ret ∈ TW) : GoodIn TW (.code y cc nL ret :: TW) := by
  intro w hw
  have hm : w ∈ TW := (List.mem_cons.mp hw).elim (fun e => e ▸ h) id
  exact ⟨hm, good_of_word (TW_good w hm)⟩
def ra_Y (y : MethodName) (cc : ByteArray) (nL : Nat) (ret : Option FieldType) (n : Nat) : Prop := Cond.initialized y.cls ∈ TW ∧ Cond.code y cc nL ret ∈ TW ∧ y.cls ≠ "java/lang/invoke/MethodHandle" ∧ y.cls ≠ "java/lang/invoke/VarHandle" ∧ (parseMethodDescriptor y.desc).map (fun d => d.parameters.length) = some n
def ra_YV (y : MethodName) (cc : ByteArray) (nL : Nat) (ret : Option FieldType) (n : Nat) (Cn : String) : Prop := ra_Y y cc nL ret n ∧ Cond.instanceMethod y ∈ TW ∧ Cond.selects Cn y y ∈ TW
def ra_YS (y : MethodName) (cc : ByteArray) (nL : Nat) (ret : Option FieldType) (n : Nat) : Prop := ra_Y y cc nL ret n ∧ Cond.static y ∈ TW
abbrev ra_in (i : Int32) (n : Nat) : Prop := ¬ (i < 0 ∨ n ≤ i.toNatClampNeg)
abbrev ra_ix (i : Int32) : Nat := i.toNatClampNeg
def ra_bind (o : Option (Int32 × ra_W)) (F : Int32 → ra_W → Option (Int32 × ra_W)) : Option (Int32 × ra_W) := match o with
  | none => none
  | some (r, w) => F r w
theorem ra_bd {o : Option (Int32 × ra_W)} {F : Int32 → ra_W → Option (Int32 × ra_W)} {y : Int32 × ra_W} (h : ra_bind o F = some y) : ∃ (r : Int32) (w : ra_W), o = some (r, w) ∧ F r w = some y := by
  cases o with
  | none => cases h
  | some q => exact ⟨q.1, q.2, rfl, h⟩
theorem ra_t {c : Prop} [Decidable c] {α : Type} {x y z : α} (h : (if c then x else y) = z) (hc : c) : x = z := by rw [if_pos hc] at h; exact h
theorem ra_f {c : Prop} [Decidable c] {α : Type} {x y z : α} (h : (if c then x else y) = z) (hc : ¬ c) : y = z := by rw [if_neg hc] at h; exact h
theorem ra_gd {c : Prop} [Decidable c] {α : Type} {x : Option α} {z : α} (h : (if c then x else none) = some z) : c ∧ x = some z := by
  by_cases hc : c
  · rw [if_pos hc] at h; exact ⟨hc, h⟩
  · rw [if_neg hc] at h; cases h
section RG
variable {Z : ra_Z} {cc : ByteArray} {nL : Nat} {own : String} {fr lo : Nat} {pc : Nat} {lv : List (Nat × Value)} {st : List Value} {w : ra_W}
theorem ra_C.hx (C : ra_C Z cc nL own fr lo) : (zp Z).tables.exec = Jvm.exec := C.1.1
theorem ra_C.hb (C : ra_C Z cc nL own fr lo) : (zc Z).code = cc := C.1.2.1
theorem ra_C.hml (C : ra_C Z cc nL own fr lo) : (zc Z).maxLocals = nL := C.1.2.2.1
theorem ra_C.hown (C : ra_C Z cc nL own fr lo) : (zs Z).vm.findClass own = some (zm Z).cls := C.1.2.2.2
theorem ra_C.hts (C : ra_C Z cc nL own fr lo) : ∀ w ∈ TW, w.before (zar Z) (zs Z) = true := C.2.1
theorem ra_C.hK (C : ra_C Z cc nL own fr lo) : va_K (zG Z).2.1 vwCl (ra_tys (zG Z)) (zs Z) := C.2.2.1
theorem ra_C.hj (C : ra_C Z cc nL own fr lo) : ra_inj (zG Z) := C.2.2.2.1
theorem ra_C.hA (C : ra_C Z cc nL own fr lo) : ∀ k, k < 149 → zA Z ((zG Z).1 k) := C.2.2.2.2.1
theorem ra_C.hce (C : ra_C Z cc nL own fr lo) : zcl Z ≤ (zR Z).cells ∧ zsl Z ≤ (zR Z).slots := C.2.2.2.2.2.1
theorem ra_C.hro (C : ra_C Z cc nL own fr lo) : fr ≤ (zR Z).frames ∧ lo ≤ (zR Z).locals := C.2.2.2.2.2.2.1
theorem ra_C.hlk (C : ra_C Z cc nL own fr lo) : (zmt Z).locks = false := C.2.2.2.2.2.2.2
theorem ra_C.hD (C : ra_C Z cc nL own fr lo) (w : ra_W) : va_D (zA Z) (ra_L (zG Z) w) := ra_D C.hj C.hA w
theorem rg_sub (ks : List Nat) {lv' : List (Nat × Value)} (h : lv_pick lv ks = lv') (k : ra_J Z nL pc lv' st w) : ra_J Z nL pc lv st w := fun ls H locs hl hP hS => k ls H locs (lv_sub hl ks h) hP hS
theorem rg_iconst (C : ra_C Z cc nL own fr lo) {n : Int} {v : Int32} (hd : decode cc pc = .ok (.iconst n, 1)) (hv : Int32.ofInt n = v) (k : ra_J Z nL (pc + 1) lv (.int v :: st) w) : ra_J Z nL pc lv st w := fun ls H locs hl hP hS => lv_iconst C.hx C.hb hd hv (k ls H locs hl hP hS)
theorem rg_bipush (C : ra_C Z cc nL own fr lo) {n : Int} {v : Int32} (hd : decode cc pc = .ok (.bipush n, 2)) (hv : (Int8.ofInt n).toInt32 = v) (k : ra_J Z nL (pc + 2) lv (.int v :: st) w) : ra_J Z nL pc lv st w := fun ls H locs hl hP hS => lv_bipush C.hx C.hb hd hv (k ls H locs hl hP hS)
theorem rg_sipush (C : ra_C Z cc nL own fr lo) {n : Int} {v : Int32} (hd : decode cc pc = .ok (.sipush n, 3)) (hv : (Int16.ofInt n).toInt32 = v) (k : ra_J Z nL (pc + 3) lv (.int v :: st) w) : ra_J Z nL pc lv st w := fun ls H locs hl hP hS => lv_sipush C.hx C.hb hd hv (k ls H locs hl hP hS)
theorem rg_iload_n (C : ra_C Z cc nL own fr lo) {k : Fin 4} {i : Nat} {x : Int32} (j : Nat) (hj : lv[j]? = some (i, .int x)) (hi : (k : Nat) = i) (hd : decode cc pc = .ok (.iload_n k, 1)) (kk : ra_J Z nL (pc + 1) lv (.int x :: st) w) : ra_J Z nL pc lv st w := fun ls H locs hl hP hS => lv_iload_n C.hx C.hb hd hi (lv_at hl j hj) (kk ls H locs hl hP hS)
theorem rg_iload (C : ra_C Z cc nL own fr lo) {i : Nat} {x : Int32} (j : Nat) (hj : lv[j]? = some (i, .int x)) (hd : decode cc pc = .ok (.iload i, 2)) (kk : ra_J Z nL (pc + 2) lv (.int x :: st) w) : ra_J Z nL pc lv st w := fun ls H locs hl hP hS => lv_iload C.hx C.hb hd (lv_at hl j hj) (kk ls H locs hl hP hS)
theorem rg_aload_n (C : ra_C Z cc nL own fr lo) {k : Fin 4} {i : Nat} {x : Nat} (j : Nat) (hj : lv[j]? = some (i, .ref x)) (hi : (k : Nat) = i) (hd : decode cc pc = .ok (.aload_n k, 1)) (kk : ra_J Z nL (pc + 1) lv (.ref x :: st) w) : ra_J Z nL pc lv st w := fun ls H locs hl hP hS => lv_aload_n C.hx C.hb hd hi (lv_at hl j hj) (kk ls H locs hl hP hS)
theorem rg_istore_n (C : ra_C Z cc nL own fr lo) {k : Fin 4} {i : Nat} {x : Int32} {lv' : List (Nat × Value)} (ks : List Nat) (hl' : lv_pick ((i, Value.int x) :: lv.filter (fun q => !(q.1 == i) && !(q.1 + 1 == i && q.2.category == 2))) ks = lv') (hi : (k : Nat) = i) (hn : i < nL) (hd : decode cc pc = .ok (.istore_n k, 1)) (kk : ra_J Z nL (pc + 1) lv' st w) : ra_J Z nL pc lv (.int x :: st) w := fun _ H locs hl hP hS => lv_istore_n C.hx C.hb hd hi hl hn rfl (fun ls' h' => kk ls' H locs (lv_sub h' ks hl') hP hS)
theorem rg_istore (C : ra_C Z cc nL own fr lo) {i : Nat} {x : Int32} {lv' : List (Nat × Value)} (ks : List Nat) (hl' : lv_pick ((i, Value.int x) :: lv.filter (fun q => !(q.1 == i) && !(q.1 + 1 == i && q.2.category == 2))) ks = lv') (hn : i < nL) (hd : decode cc pc = .ok (.istore i, 2)) (kk : ra_J Z nL (pc + 2) lv' st w) : ra_J Z nL pc lv (.int x :: st) w := fun _ H locs hl hP hS => lv_istore C.hx C.hb hd hl hn rfl (fun ls' h' => kk ls' H locs (lv_sub h' ks hl') hP hS)
theorem rg_iinc (C : ra_C Z cc nL own fr lo) {i : Nat} {n : Int} {x v : Int32} {lv' : List (Nat × Value)} (j : Nat) (hj : lv[j]? = some (i, .int x)) (ks : List Nat) (hv : x + Int32.ofInt n = v) (hl' : lv_pick ((i, Value.int v) :: lv.filter (fun q => !(q.1 == i) && !(q.1 + 1 == i && q.2.category == 2))) ks = lv') (hn : i < nL) (hd : decode cc pc = .ok (.iinc i n, 3)) (kk : ra_J Z nL (pc + 3) lv' st w) : ra_J Z nL pc lv st w := fun _ H locs hl hP hS => lv_iinc C.hx C.hb hd hl hj hv hn rfl (fun ls' h' => kk ls' H locs (lv_sub h' ks hl') hP hS)
theorem rg_iadd (C : ra_C Z cc nL own fr lo) {x y : Int32} (hd : decode cc pc = .ok (.iadd, 1)) (k : ra_J Z nL (pc + 1) lv (.int (x + y) :: st) w) : ra_J Z nL pc lv (.int y :: .int x :: st) w := fun ls H locs hl hP hS => lv_iadd C.hx C.hb hd (k ls H locs hl hP hS)
theorem rg_isub (C : ra_C Z cc nL own fr lo) {x y : Int32} (hd : decode cc pc = .ok (.isub, 1)) (k : ra_J Z nL (pc + 1) lv (.int (x - y) :: st) w) : ra_J Z nL pc lv (.int y :: .int x :: st) w := fun ls H locs hl hP hS => lv_isub C.hx C.hb hd (k ls H locs hl hP hS)
theorem rg_imul (C : ra_C Z cc nL own fr lo) {x y : Int32} (hd : decode cc pc = .ok (.imul, 1)) (k : ra_J Z nL (pc + 1) lv (.int (x * y) :: st) w) : ra_J Z nL pc lv (.int y :: .int x :: st) w := fun ls H locs hl hP hS => lv_imul C.hx C.hb hd (k ls H locs hl hP hS)
theorem rg_iand (C : ra_C Z cc nL own fr lo) {x y : Int32} (hd : decode cc pc = .ok (.iand, 1)) (k : ra_J Z nL (pc + 1) lv (.int (x &&& y) :: st) w) : ra_J Z nL pc lv (.int y :: .int x :: st) w := fun ls H locs hl hP hS => lv_iand C.hx C.hb hd (k ls H locs hl hP hS)
theorem rg_ior (C : ra_C Z cc nL own fr lo) {x y : Int32} (hd : decode cc pc = .ok (.ior, 1)) (k : ra_J Z nL (pc + 1) lv (.int (x ||| y) :: st) w) : ra_J Z nL pc lv (.int y :: .int x :: st) w := fun ls H locs hl hP hS => lv_ior C.hx C.hb hd (k ls H locs hl hP hS)
theorem rg_ixor (C : ra_C Z cc nL own fr lo) {x y : Int32} (hd : decode cc pc = .ok (.ixor, 1)) (k : ra_J Z nL (pc + 1) lv (.int (x ^^^ y) :: st) w) : ra_J Z nL pc lv (.int y :: .int x :: st) w := fun ls H locs hl hP hS => lv_ixor C.hx C.hb hd (k ls H locs hl hP hS)
theorem rg_ishl (C : ra_C Z cc nL own fr lo) {x y : Int32} (hd : decode cc pc = .ok (.ishl, 1)) (k : ra_J Z nL (pc + 1) lv (.int (x <<< (y &&& 31)) :: st) w) : ra_J Z nL pc lv (.int y :: .int x :: st) w := fun ls H locs hl hP hS => lv_ishl C.hx C.hb hd (k ls H locs hl hP hS)
theorem rg_ishr (C : ra_C Z cc nL own fr lo) {x y : Int32} (hd : decode cc pc = .ok (.ishr, 1)) (k : ra_J Z nL (pc + 1) lv (.int (x >>> (y &&& 31)) :: st) w) : ra_J Z nL pc lv (.int y :: .int x :: st) w := fun ls H locs hl hP hS => lv_ishr C.hx C.hb hd (k ls H locs hl hP hS)
theorem rg_idiv (C : ra_C Z cc nL own fr lo) {x y : Int32} (hne : ¬ y = 0) (hd : decode cc pc = .ok (.idiv, 1)) (k : ra_J Z nL (pc + 1) lv (.int (x / y) :: st) w) : ra_J Z nL pc lv (.int y :: .int x :: st) w := fun ls H locs hl hP hS => lv_idiv C.hx C.hb hd hne (k ls H locs hl hP hS)
theorem rg_irem (C : ra_C Z cc nL own fr lo) {x y : Int32} (hne : ¬ y = 0) (hd : decode cc pc = .ok (.irem, 1)) (k : ra_J Z nL (pc + 1) lv (.int (x - x / y * y) :: st) w) : ra_J Z nL pc lv (.int y :: .int x :: st) w := fun ls H locs hl hP hS => lv_irem C.hx C.hb hd hne (k ls H locs hl hP hS)
theorem rg_iushr (C : ra_C Z cc nL own fr lo) {x y : Int32} (hd : decode cc pc = .ok (.iushr, 1)) (k : ra_J Z nL (pc + 1) lv (.int ((x.toUInt32 >>> (y.toUInt32 &&& Int32.toUInt32 31)).toInt32) :: st) w) : ra_J Z nL pc lv (.int y :: .int x :: st) w := fun ls H locs hl hP hS => lv_iushr C.hx C.hb hd rfl (k ls H locs hl hP hS)
theorem rg_dup (C : ra_C Z cc nL own fr lo) {a : Value} (h : a.category = 1) (hd : decode cc pc = .ok (.dup, 1)) (k : ra_J Z nL (pc + 1) lv (a :: a :: st) w) : ra_J Z nL pc lv (a :: st) w := fun ls H locs hl hP hS => lv_dup C.hx C.hb hd h (k ls H locs hl hP hS)
theorem rg_pop (C : ra_C Z cc nL own fr lo) {a : Value} (h : a.category = 1) (hd : decode cc pc = .ok (.pop, 1)) (k : ra_J Z nL (pc + 1) lv st w) : ra_J Z nL pc lv (a :: st) w := fun ls H locs hl hP hS => lv_pop C.hx C.hb hd h (k ls H locs hl hP hS)
theorem rg_dup2 (C : ra_C Z cc nL own fr lo) {a b : Value} (h : a.category = 1) (h2 : b.category = 1) (hd : decode cc pc = .ok (.dup2, 1)) (k : ra_J Z nL (pc + 1) lv (a :: b :: a :: b :: st) w) : ra_J Z nL pc lv (a :: b :: st) w := fun ls H locs hl hP hS => lv_dup2_11 C.hx C.hb hd h h2 (k ls H locs hl hP hS)
theorem rg_if_eq (C : ra_C Z cc nL own fr lo) {x : Int32} {off : Int} {tgt : Nat} (hd : decode cc pc = .ok (.ifCond .eq off, 3)) (ht : (pc : Int) + off = (tgt : Int)) (kt : x = 0 → ra_J Z nL tgt lv st w) (kf : ¬ x = 0 → ra_J Z nL (pc + 3) lv st w) : ra_J Z nL pc lv (.int x :: st) w := fun ls H locs hl hP hS => lv_if_eq C.hx C.hb hd ht (fun h => kt h ls H locs hl hP hS) (fun h => kf h ls H locs hl hP hS)
theorem rg_icmp_eq (C : ra_C Z cc nL own fr lo) {x y : Int32} {off : Int} {tgt : Nat} (hd : decode cc pc = .ok (.if_icmp .eq off, 3)) (ht : (pc : Int) + off = (tgt : Int)) (kt : x = y → ra_J Z nL tgt lv st w) (kf : ¬ x = y → ra_J Z nL (pc + 3) lv st w) : ra_J Z nL pc lv (.int y :: .int x :: st) w := fun ls H locs hl hP hS => lv_icmp_eq C.hx C.hb hd ht (fun h => kt h ls H locs hl hP hS) (fun h => kf h ls H locs hl hP hS)
theorem rg_if_ne (C : ra_C Z cc nL own fr lo) {x : Int32} {off : Int} {tgt : Nat} (hd : decode cc pc = .ok (.ifCond .ne off, 3)) (ht : (pc : Int) + off = (tgt : Int)) (kt : ¬ x = 0 → ra_J Z nL tgt lv st w) (kf : x = 0 → ra_J Z nL (pc + 3) lv st w) : ra_J Z nL pc lv (.int x :: st) w := fun ls H locs hl hP hS => lv_if_ne C.hx C.hb hd ht (fun h => kt h ls H locs hl hP hS) (fun h => kf h ls H locs hl hP hS)
theorem rg_icmp_ne (C : ra_C Z cc nL own fr lo) {x y : Int32} {off : Int} {tgt : Nat} (hd : decode cc pc = .ok (.if_icmp .ne off, 3)) (ht : (pc : Int) + off = (tgt : Int)) (kt : ¬ x = y → ra_J Z nL tgt lv st w) (kf : x = y → ra_J Z nL (pc + 3) lv st w) : ra_J Z nL pc lv (.int y :: .int x :: st) w := fun ls H locs hl hP hS => lv_icmp_ne C.hx C.hb hd ht (fun h => kt h ls H locs hl hP hS) (fun h => kf h ls H locs hl hP hS)
theorem rg_if_lt (C : ra_C Z cc nL own fr lo) {x : Int32} {off : Int} {tgt : Nat} (hd : decode cc pc = .ok (.ifCond .lt off, 3)) (ht : (pc : Int) + off = (tgt : Int)) (kt : x < 0 → ra_J Z nL tgt lv st w) (kf : ¬ x < 0 → ra_J Z nL (pc + 3) lv st w) : ra_J Z nL pc lv (.int x :: st) w := fun ls H locs hl hP hS => lv_if_lt C.hx C.hb hd ht (fun h => kt h ls H locs hl hP hS) (fun h => kf h ls H locs hl hP hS)
theorem rg_icmp_lt (C : ra_C Z cc nL own fr lo) {x y : Int32} {off : Int} {tgt : Nat} (hd : decode cc pc = .ok (.if_icmp .lt off, 3)) (ht : (pc : Int) + off = (tgt : Int)) (kt : x < y → ra_J Z nL tgt lv st w) (kf : ¬ x < y → ra_J Z nL (pc + 3) lv st w) : ra_J Z nL pc lv (.int y :: .int x :: st) w := fun ls H locs hl hP hS => lv_icmp_lt C.hx C.hb hd ht (fun h => kt h ls H locs hl hP hS) (fun h => kf h ls H locs hl hP hS)
theorem rg_if_ge (C : ra_C Z cc nL own fr lo) {x : Int32} {off : Int} {tgt : Nat} (hd : decode cc pc = .ok (.ifCond .ge off, 3)) (ht : (pc : Int) + off = (tgt : Int)) (kt : 0 ≤ x → ra_J Z nL tgt lv st w) (kf : ¬ 0 ≤ x → ra_J Z nL (pc + 3) lv st w) : ra_J Z nL pc lv (.int x :: st) w := fun ls H locs hl hP hS => lv_if_ge C.hx C.hb hd ht (fun h => kt h ls H locs hl hP hS) (fun h => kf h ls H locs hl hP hS)
theorem rg_icmp_ge (C : ra_C Z cc nL own fr lo) {x y : Int32} {off : Int} {tgt : Nat} (hd : decode cc pc = .ok (.if_icmp .ge off, 3)) (ht : (pc : Int) + off = (tgt : Int)) (kt : y ≤ x → ra_J Z nL tgt lv st w) (kf : ¬ y ≤ x → ra_J Z nL (pc + 3) lv st w) : ra_J Z nL pc lv (.int y :: .int x :: st) w := fun ls H locs hl hP hS => lv_icmp_ge C.hx C.hb hd ht (fun h => kt h ls H locs hl hP hS) (fun h => kf h ls H locs hl hP hS)
theorem rg_if_gt (C : ra_C Z cc nL own fr lo) {x : Int32} {off : Int} {tgt : Nat} (hd : decode cc pc = .ok (.ifCond .gt off, 3)) (ht : (pc : Int) + off = (tgt : Int)) (kt : 0 < x → ra_J Z nL tgt lv st w) (kf : ¬ 0 < x → ra_J Z nL (pc + 3) lv st w) : ra_J Z nL pc lv (.int x :: st) w := fun ls H locs hl hP hS => lv_if_gt C.hx C.hb hd ht (fun h => kt h ls H locs hl hP hS) (fun h => kf h ls H locs hl hP hS)
theorem rg_icmp_gt (C : ra_C Z cc nL own fr lo) {x y : Int32} {off : Int} {tgt : Nat} (hd : decode cc pc = .ok (.if_icmp .gt off, 3)) (ht : (pc : Int) + off = (tgt : Int)) (kt : y < x → ra_J Z nL tgt lv st w) (kf : ¬ y < x → ra_J Z nL (pc + 3) lv st w) : ra_J Z nL pc lv (.int y :: .int x :: st) w := fun ls H locs hl hP hS => lv_icmp_gt C.hx C.hb hd ht (fun h => kt h ls H locs hl hP hS) (fun h => kf h ls H locs hl hP hS)
theorem rg_if_le (C : ra_C Z cc nL own fr lo) {x : Int32} {off : Int} {tgt : Nat} (hd : decode cc pc = .ok (.ifCond .le off, 3)) (ht : (pc : Int) + off = (tgt : Int)) (kt : x ≤ 0 → ra_J Z nL tgt lv st w) (kf : ¬ x ≤ 0 → ra_J Z nL (pc + 3) lv st w) : ra_J Z nL pc lv (.int x :: st) w := fun ls H locs hl hP hS => lv_if_le C.hx C.hb hd ht (fun h => kt h ls H locs hl hP hS) (fun h => kf h ls H locs hl hP hS)
theorem rg_icmp_le (C : ra_C Z cc nL own fr lo) {x y : Int32} {off : Int} {tgt : Nat} (hd : decode cc pc = .ok (.if_icmp .le off, 3)) (ht : (pc : Int) + off = (tgt : Int)) (kt : x ≤ y → ra_J Z nL tgt lv st w) (kf : ¬ x ≤ y → ra_J Z nL (pc + 3) lv st w) : ra_J Z nL pc lv (.int y :: .int x :: st) w := fun ls H locs hl hP hS => lv_icmp_le C.hx C.hb hd ht (fun h => kt h ls H locs hl hP hS) (fun h => kf h ls H locs hl hP hS)
theorem rg_goto (C : ra_C Z cc nL own fr lo) {off : Int} {tgt : Nat} (hd : decode cc pc = .ok (.goto off, 3)) (ht : (pc : Int) + off = (tgt : Int)) (k : ra_J Z nL tgt lv st w) : ra_J Z nL pc lv st w := fun ls H locs hl hP hS => lv_goto C.hx C.hb hd ht (k ls H locs hl hP hS)
theorem rg_tableOut (C : ra_C Z cc nL own fr lo) {dflt lw hi : Int} {offs : Array Int} {len : Nat} {x : Int32} {tgt : Nat} (hd : decode cc pc = .ok (.tableswitch dflt lw hi offs, len)) (h : x.toInt < lw ∨ hi < x.toInt) (ht : (pc : Int) + dflt = (tgt : Int)) (k : ra_J Z nL tgt lv st w) : ra_J Z nL pc lv (.int x :: st) w := fun ls H locs hl hP hS => lv_tableOut C.hx C.hb hd h ht (k ls H locs hl hP hS)
theorem rg_tableIn (C : ra_C Z cc nL own fr lo) {dflt lw hi : Int} {offs : Array Int} {len : Nat} {x : Int32} {off : Int} {tgt : Nat} (hd : decode cc pc = .ok (.tableswitch dflt lw hi offs, len)) (h1 : ¬ x.toInt < lw) (h2 : ¬ hi < x.toInt) (ho : offs[(x.toInt - lw).toNat]? = some off) (ht : (pc : Int) + off = (tgt : Int)) (k : ra_J Z nL tgt lv st w) : ra_J Z nL pc lv (.int x :: st) w := fun ls H locs hl hP hS => lv_tableIn C.hx C.hb hd h1 h2 ho ht (k ls H locs hl hP hS)
theorem rg_lookup (C : ra_C Z cc nL own fr lo) {dflt : Int} {ps : Array (Int × Int)} {len : Nat} {x : Int32} {off : Int} {tgt : Nat} (hd : decode cc pc = .ok (.lookupswitch dflt ps, len)) (hp : (ps.toList.zip (ps.toList.drop 1)).all (fun (a, next) => a.1 < next.1) = true) (ho : Op.lookupswitch.offset ps.toList dflt x.toInt = off) (ht : (pc : Int) + off = (tgt : Int)) (k : ra_J Z nL tgt lv st w) : ra_J Z nL pc lv (.int x :: st) w := fun ls H locs hl hP hS => lv_lookup C.hx C.hb hd hp ho ht (k ls H locs hl hP hS)
theorem rg_ldcw (C : ra_C Z cc nL own fr lo) {idx : Nat} {v : Int32} (hc : Cond.constant own idx v ∈ TW) (hd : decode cc pc = .ok (.ldc_w idx, 3)) (k : ra_J Z nL (pc + 3) lv (.int v :: st) w) : ra_J Z nL pc lv st w := fun ls H locs hl hP hS => lv_ldcw C.hx C.hb C.hown (C.hts _ hc) hd (k ls H locs hl hP hS)
theorem rg_get (C : ra_C Z cc nL own fr lo) (k ci j : Nat) (hk : ra_kd k = (ci, 0)) (hci : ci < 7) {Cn : String} {T : u_T} {N idx : Nat} (hcl : vwCl[ci]? = some (Cn, T, N)) (hin : ∀ w ∈ u_ws Cn T N, w ∈ TW) (hj : j < N) (hlk : Cond.fieldLink own idx (T j).1 (T j).2.1 (T j).2.2.1 ∈ TW) {v : Value} (hv : (ra_fs (zG Z).1 ci k (w k))[j]? = some v) (hd : decode cc pc = .ok (.getfield idx, 3)) (kk : ra_J Z nL (pc + 3) lv (v :: st) w) : ra_J Z nL pc lv (.ref ((zG Z).1 k) :: st) w :=
  fun ls H locs hl hP hS => va_get (D := (zG Z).2.1) C.hx C.hb C.hts hin C.hown C.hK hP k (ra_getO _ _ hk hci) hcl j hj (C.hts _ hlk) (fun _ h => h) hv hd (kk ls H locs hl hP hS)
theorem rg_put (C : ra_C Z cc nL own fr lo) (k ci j : Nat) (hk : ra_kd k = (ci, 0)) (hci : ci < 7) {Cn : String} {T : u_T} {N idx : Nat} (hcl : vwCl[ci]? = some (Cn, T, N)) (hin : ∀ w ∈ u_ws Cn T N, w ∈ TW) (ty0 : Nat → FieldType) (hty : ∀ k, k < N → parseFieldDescriptor (T k).2.2.1 = some (ty0 k)) (hnm : ∀ a, a < N → ∀ b, b < N → a ≠ b → (T a).2.1 ≠ (T b).2.1) (hj : j < N) (hlk : Cond.fieldLink own idx (T j).1 (T j).2.1 (T j).2.2.1 ∈ TW) (hfin : (T j).2.2.2 = false) {x : Int32} (hn : narrow (ty0 j) (.int x) = .int x) (hfit : fits (ty0 j) (.int x) = true) (hl0 : j < (ra_fs (zG Z).1 ci k (w k)).length) (hset : (ra_fs (zG Z).1 ci k (w k)).set j (.int x) = ra_fs (zG Z).1 ci k (upd (w k) j x)) (hd : decode cc pc = .ok (.putfield idx, 3)) (kk : ra_J Z nL (pc + 3) lv st (ra_st w k j x)) : ra_J Z nL pc lv (.int x :: .ref ((zG Z).1 k) :: st) w := by
  intro ls H locs hl hP hS
  refine va_put (D := (zG Z).2.1) (ty := ty0 j) C.hx C.hb C.hts hin ty0 hty hnm C.hown C.hK hP (C.hD w) hS k (ra_getO _ _ hk hci) hcl j hj (C.hts _ hlk) (fun _ h => h) hfin (hty j hj) hn hfit hl0 hd (fun H1 locs1 hP1 _ hS1 => ?_)
  rw [hset, ra_setO _ _ hk hci] at hP1
  exact kk ls H1 locs1 hl hP1 hS1
theorem rg_iald (C : ra_C Z cc nL own fr lo) (k : Nat) {n : Nat} (hk : ra_kd k = (10, n)) {i : Int32} (hin : ra_in i n) (hd : decode cc pc = .ok (.iaload, 1)) (kk : ra_J Z nL (pc + 1) lv (.int (w k (ra_ix i)) :: st) w) : ra_J Z nL pc lv (.int i :: .ref ((zG Z).1 k) :: st) w :=
  fun ls H locs hl hP hS => va_iald (D := (zG Z).2.1) C.hx C.hb C.hK hP k 0 (ra_getA _ _ hk) rfl hin hd (kk ls H locs hl hP hS)
theorem rg_zald (C : ra_C Z cc nL own fr lo) (k : Nat) {n : Nat} (hk : ra_kd k = (11, n)) {i : Int32} (hin : ra_in i n) (hd : decode cc pc = .ok (.baload, 1)) (kk : ra_J Z nL (pc + 1) lv (.int (w k (ra_ix i)) :: st) w) : ra_J Z nL pc lv (.int i :: .ref ((zG Z).1 k) :: st) w :=
  fun ls H locs hl hP hS => va_zald (D := (zG Z).2.1) C.hx C.hb C.hK hP k 1 (ra_getZ _ _ hk) rfl hin hd (kk ls H locs hl hP hS)
theorem rg_aald (C : ra_C Z cc nL own fr lo) (k : Nat) {n : Nat} (hk : ra_kd k = (12, n)) {i : Int32} (hin : ra_in i n) (hd : decode cc pc = .ok (.aaload, 1)) (kk : ra_J Z nL (pc + 1) lv (.ref ((zG Z).1 (ra_rs k (ra_ix i))) :: st) w) : ra_J Z nL pc lv (.int i :: .ref ((zG Z).1 k) :: st) w :=
  fun ls H locs hl hP hS => va_aldq (D := (zG Z).2.1) C.hx C.hb C.hK hP k 2 (ra_getS _ _ hk) rfl hin hd (kk ls H locs hl hP hS)
theorem rg_iast (C : ra_C Z cc nL own fr lo) (k : Nat) {n : Nat} (hk : ra_kd k = (10, n)) {i x : Int32} (hin : ra_in i n) (hd : decode cc pc = .ok (.iastore, 1)) (kk : ra_J Z nL (pc + 1) lv st (ra_st w k (ra_ix i) x)) : ra_J Z nL pc lv (.int x :: .int i :: .ref ((zG Z).1 k) :: st) w := by
  intro ls H locs hl hP hS
  refine va_iast (D := (zG Z).2.1) C.hx C.hb C.hK hP (C.hD w) hS k 0 (ra_getA _ _ hk) rfl hin hd (fun H1 locs1 hP1 _ hS1 => ?_)
  rw [ra_setA _ _ hk] at hP1
  exact kk ls H1 locs1 hl hP1 hS1
theorem rg_zast (C : ra_C Z cc nL own fr lo) (k : Nat) {n : Nat} (hk : ra_kd k = (11, n)) {i x : Int32} (hx : vp_nar .boolean x = x) (hin : ra_in i n) (hd : decode cc pc = .ok (.bastore, 1)) (kk : ra_J Z nL (pc + 1) lv st (ra_st w k (ra_ix i) x)) : ra_J Z nL pc lv (.int x :: .int i :: .ref ((zG Z).1 k) :: st) w := by
  intro ls H locs hl hP hS
  refine va_zast (D := (zG Z).2.1) C.hx C.hb C.hK hP (C.hD w) hS k 1 (ra_getZ _ _ hk) rfl hin hd (fun H1 locs1 hP1 _ hS1 => ?_)
  rw [hx, ra_setZ _ _ hk] at hP1
  exact kk ls H1 locs1 hl hP1 hS1
theorem rg_max (C : ra_C Z cc nL own fr lo) {idx : Nat} (hlk : Cond.methodLink own idx Lib.Math.max.name ∈ TW) (h2 : Cond.static Lib.Math.max.name ∈ TW) (h3 : Cond.initialized "java/lang/Math" ∈ TW) (h4 : Cond.code Lib.Math.max.name Lib.Math.max.code 2 (some .int) ∈ TW) (hfr : 1 ≤ fr) (hlo : (st.map fun v => v.category).sum + 13 ≤ lo) {x y : Int32} (hd : decode cc pc = .ok (.invokestatic idx, 3)) (kk : ra_J Z nL (pc + 3) lv (.int (if x < y then y else x) :: st) w) : ra_J Z nL pc lv (.int y :: .int x :: st) w :=
  fun ls H locs hl hP hS => va_mmax C.hx C.hb (C.hml.trans hl.1.symm) C.hown (C.hts _ hlk) (C.hts _ h2) (C.hts _ h3) (C.hts _ h4) (Nat.le_trans hfr C.hro.1) (Nat.le_trans hlo C.hro.2) C.hce.1 C.hce.2 hd (kk ls H locs hl hP hS)
theorem rg_min (C : ra_C Z cc nL own fr lo) {idx : Nat} (hlk : Cond.methodLink own idx Lib.Math.min.name ∈ TW) (h2 : Cond.static Lib.Math.min.name ∈ TW) (h3 : Cond.initialized "java/lang/Math" ∈ TW) (h4 : Cond.code Lib.Math.min.name Lib.Math.min.code 2 (some .int) ∈ TW) (hfr : 1 ≤ fr) (hlo : (st.map fun v => v.category).sum + 13 ≤ lo) {x y : Int32} (hd : decode cc pc = .ok (.invokestatic idx, 3)) (kk : ra_J Z nL (pc + 3) lv (.int (if y < x then y else x) :: st) w) : ra_J Z nL pc lv (.int y :: .int x :: st) w :=
  fun ls H locs hl hP hS => va_mmin C.hx C.hb (C.hml.trans hl.1.symm) C.hown (C.hts _ hlk) (C.hts _ h2) (C.hts _ h3) (C.hts _ h4) (Nat.le_trans hfr C.hro.1) (Nat.le_trans hlo C.hro.2) C.hce.1 C.hce.2 hd (kk ls H locs hl hP hS)
def ra_cp (w : ra_W) (k0 sp k1 dp n : Nat) : ra_W := ra_up w k1 (va_cpy (w k0) (w k1) sp dp n)
theorem rg_copy (C : ra_C Z cc nL own fr lo) {idx : Nat} (hlk : Cond.methodLink own idx arraycopyName ∈ TW) (h1 : Cond.native arraycopyName ∈ TW) (h2 : Cond.static arraycopyName ∈ TW) (h3 : Cond.initialized "java/lang/System" ∈ TW) (k0 k1 : Nat) {n0 n1 : Nat} (hk0 : ra_kd k0 = (10, n0)) (hk1 : ra_kd k1 = (10, n1)) {sp dp n : Int32} (hsp : ¬ sp < 0) (hdp : ¬ dp < 0) (hn : ¬ n < 0) (h4 : sp.toNatClampNeg + n.toNatClampNeg ≤ n0) (h5 : dp.toNatClampNeg + n.toNatClampNeg ≤ n1) (hfr : 1 ≤ fr) (hlo : (st.map fun v => v.category).sum + (nativeFrameWords "java/lang/System" "arraycopy" 5 + 11) ≤ lo) (hd : decode cc pc = .ok (.invokestatic idx, 3)) (kk : ra_J Z nL (pc + 3) lv st (ra_cp w k0 sp.toNatClampNeg k1 dp.toNatClampNeg n.toNatClampNeg)) : ra_J Z nL pc lv (.int n :: .int dp :: .ref ((zG Z).1 k1) :: .int sp :: .ref ((zG Z).1 k0) :: st) w := by
  intro ls H locs hl hP hS
  refine va_copyi (D := (zG Z).2.1) (ty := .int) C.hx C.hb (C.hml.trans hl.1.symm) C.hown (C.hts _ hlk) (C.hts _ h1) (C.hts _ h2) (C.hts _ h3) C.hK hP (C.hD w) hS k0 k1 0 0 (ra_getA _ _ hk0) (ra_getA _ _ hk1) rfl rfl rfl hsp hdp hn h4 h5 (fun _ _ => rfl) (Nat.le_trans hfr C.hro.1) (Nat.le_trans hlo C.hro.2) hd (fun H1 locs1 hP1 _ hS1 => ?_)
  rw [ra_setA _ _ hk1] at hP1
  exact kk ls H1 locs1 hl hP1 hS1
theorem rg_iret (C : ra_C Z cc nL own fr lo) {r : Int32} (hQ : ra_QI Z r w) (hr : (zmt Z).sig.returnType = some .int) (hd : decode cc pc = .ok (.ireturn, 1)) : ra_J Z nL pc lv [.int r] w := by
  intro ls H locs hl hP hS
  rw [hQ]
  exact W.iret C.hx C.hb hr (fun t ht hW => ⟨⟨r, (), rfl, rfl, by rw [ht]; exact hP, va_K.moved hW.alike C.hK⟩, hS.F ht⟩) hS.2.2 hd C.hlk
theorem rg_zret (C : ra_C Z cc nL own fr lo) {r : Int32} (hQ : ra_QI Z r w) (hr : (zmt Z).sig.returnType = some .boolean) (hn : r = 0 ∨ r = 1) (hd : decode cc pc = .ok (.ireturn, 1)) : ra_J Z nL pc lv [.int r] w := by
  intro ls H locs hl hP hS
  rw [hQ]
  exact W.zret C.hx C.hb hr (by rcases hn with e | e <;> subst e <;> decide) (fun t ht hW => ⟨⟨r, (), rfl, rfl, by rw [ht]; exact hP, va_K.moved hW.alike C.hK⟩, hS.F ht⟩) hS.2.2 hd C.hlk
theorem rg_vret (C : ra_C Z cc nL own fr lo) {r : Int32} (hQ : ra_QV Z r w) (hr : (zmt Z).sig.returnType = none) (hd : decode cc pc = .ok (.return_, 1)) : ra_J Z nL pc lv [] w := by
  intro ls H locs hl hP hS
  rw [hQ]
  exact W.vret C.hx C.hb hr (fun t ht hW => ⟨⟨(), rfl, trivial, by rw [ht]; exact hP, va_K.moved hW.alike C.hK⟩, hS.F ht⟩) hS.2.2 hd C.hlk
theorem ra_blind (G : ra_G) (w : ra_W) (av : List Value) : FrameBlind (va_Pc av (fun U => ra_K G w U)) := fun a U g mk q => by
  obtain ⟨q0, qP, qK⟩ := q
  exact ⟨q0, qP, va_K.moved (u := U) (U := U.calling g mk a) (Vm.Alike.refl U.vm) qK⟩
theorem ra_callB (C : ra_C Z cc nL own fr lo) {y : MethodName} {bytes : ByteArray} {maxL n fr' lo' idx : Nat} {ret : Option FieldType} (hY : ra_Y y bytes maxL ret n) (hlk : Cond.methodLink own idx y ∈ TW) (hR : fr' + 1 ≤ fr ∧ 8 + (maxL + 11) + lo' ≤ lo) : CallB (zR Z) (zs Z) (zar Z) own idx y bytes maxL ret (.code y bytes maxL ret :: TW) (ra_rm fr' lo') 0 0 n :=
  callB_of n C.hts (ra_good hY.2.1) rfl rfl rfl (C.hts _ hY.1) (C.hts _ hlk) hY.2.2 ⟨Nat.le_trans hR.1 C.hro.1, Nat.le_trans hR.2 C.hro.2⟩
theorem ra_toA (C : ra_C Z cc nL own fr lo) : ∀ q, ra_A (zG Z) q → zA Z q := fun q h => by
  obtain ⟨k, hk, e⟩ := h
  rw [e]
  exact C.hA k hk
theorem rg_callVI (C : ra_C Z cc nL own fr lo) {y : MethodName} {bytes : ByteArray} {maxL n fr' lo' idx k ci : Nat} {ret : Option FieldType} {As stk : List Value} {r : Int32} {w1 : ra_W} {Cn : String} {T : u_T} {N : Nat} (hM : ra_MI (zl Z) (zG Z) y bytes maxL ret fr' lo' (.ref ((zG Z).1 k) :: As) w r w1) (hk : ra_kd k = (ci, 0)) (hci : ci < 7) (hcl : vwCl[ci]? = some (Cn, T, N)) (hY : ra_YV y bytes maxL ret n Cn) (hn : As.length = n) (hlk : Cond.methodLink own idx y ∈ TW) (hR : fr' + 1 ≤ fr ∧ 8 + (maxL + 11) + lo' ≤ lo) (hs : stk = As.reverse ++ .ref ((zG Z).1 k) :: st) (hst : (st.map fun v => v.category).sum ≤ 8) (hd : decode cc pc = .ok (.invokevirtual idx, 3)) (kk : ra_J Z nL (pc + 3) lv (.int r :: st) w1) : ra_J Z nL pc lv stk w := by
  intro ls H locs hl hP hS
  subst hs
  refine va_calli (va_runV (As := As) (rest := st) (cc := cc) (nL := nL) ⟨C.hx, C.hb, C.hml, C.hown, C.hts⟩ hM ⟨ra_callB C hY.1 hlk hR, C.hts _ hY.2.1, C.hts _ hY.2.2⟩ ⟨ra_blind _ _ _, va_recv C.hK hP hcl (ra_getO _ _ hk hci), fun U hU hW => ⟨rfl, by rw [hU]; exact hP, va_K.moved hW.alike C.hK⟩⟩ rfl hn hl.1 rfl (lv_room hst) hd ⟨C.hce.1, C.hce.2⟩) hS (fun q _ h => ra_toA C q h) (ra_toA C) (fun r' _ t H1 locs1 ht _ hpost hB _ _ hS1 => ?_)
  subst hpost
  exact kk ls H1 locs1 hl (by rw [← ht]; exact hB.1) hS1
theorem rg_callVV (C : ra_C Z cc nL own fr lo) {y : MethodName} {bytes : ByteArray} {maxL n fr' lo' idx k ci : Nat} {ret : Option FieldType} {As stk : List Value} {r : Int32} {w1 : ra_W} {Cn : String} {T : u_T} {N : Nat} (hM : ra_MV (zl Z) (zG Z) y bytes maxL ret fr' lo' (.ref ((zG Z).1 k) :: As) w r w1) (hk : ra_kd k = (ci, 0)) (hci : ci < 7) (hcl : vwCl[ci]? = some (Cn, T, N)) (hY : ra_YV y bytes maxL ret n Cn) (hn : As.length = n) (hlk : Cond.methodLink own idx y ∈ TW) (hR : fr' + 1 ≤ fr ∧ 8 + (maxL + 11) + lo' ≤ lo) (hs : stk = As.reverse ++ .ref ((zG Z).1 k) :: st) (hst : (st.map fun v => v.category).sum ≤ 8) (hd : decode cc pc = .ok (.invokevirtual idx, 3)) (kk : ra_J Z nL (pc + 3) lv st w1) : ra_J Z nL pc lv stk w := by
  intro ls H locs hl hP hS
  subst hs
  refine va_callv (va_runV (As := As) (rest := st) (cc := cc) (nL := nL) ⟨C.hx, C.hb, C.hml, C.hown, C.hts⟩ hM ⟨ra_callB C hY.1 hlk hR, C.hts _ hY.2.1, C.hts _ hY.2.2⟩ ⟨ra_blind _ _ _, va_recv C.hK hP hcl (ra_getO _ _ hk hci), fun U hU hW => ⟨rfl, by rw [hU]; exact hP, va_K.moved hW.alike C.hK⟩⟩ rfl hn hl.1 rfl (lv_room hst) hd ⟨C.hce.1, C.hce.2⟩) hS (fun q _ h => ra_toA C q h) (ra_toA C) (fun _ t H1 locs1 ht _ _ hB _ _ hS1 => ?_)
  exact kk ls H1 locs1 hl (by rw [← ht]; exact hB.1) hS1
theorem rg_callSI (C : ra_C Z cc nL own fr lo) {y : MethodName} {bytes : ByteArray} {maxL n fr' lo' idx : Nat} {ret : Option FieldType} {As stk : List Value} {r : Int32} {w1 : ra_W} (hM : ra_MI (zl Z) (zG Z) y bytes maxL ret fr' lo' As w r w1) (hY : ra_YS y bytes maxL ret n) (hn : As.length = n) (hlk : Cond.methodLink own idx y ∈ TW) (hR : fr' + 1 ≤ fr ∧ 8 + (maxL + 11) + lo' ≤ lo) (hs : stk = As.reverse ++ st) (hst : (st.map fun v => v.category).sum ≤ 8) (hd : decode cc pc = .ok (.invokestatic idx, 3)) (kk : ra_J Z nL (pc + 3) lv (.int r :: st) w1) : ra_J Z nL pc lv stk w := by
  intro ls H locs hl hP hS
  subst hs
  refine va_calli (va_runS (As := As) (rest := st) (cc := cc) (nL := nL) ⟨C.hx, C.hb, C.hml, C.hown, C.hts⟩ hM ⟨ra_callB C hY.1 hlk hR, C.hts _ hY.2⟩ ⟨ra_blind _ _ _, fun U hU hW => ⟨rfl, by rw [hU]; exact hP, va_K.moved hW.alike C.hK⟩⟩ rfl hn hl.1 rfl (lv_room hst) hd ⟨C.hce.1, C.hce.2⟩) hS (fun q _ h => ra_toA C q h) (ra_toA C) (fun r' _ t H1 locs1 ht _ hpost hB _ _ hS1 => ?_)
  subst hpost
  exact kk ls H1 locs1 hl (by rw [← ht]; exact hB.1) hS1
theorem rg_callSV (C : ra_C Z cc nL own fr lo) {y : MethodName} {bytes : ByteArray} {maxL n fr' lo' idx : Nat} {ret : Option FieldType} {As stk : List Value} {r : Int32} {w1 : ra_W} (hM : ra_MV (zl Z) (zG Z) y bytes maxL ret fr' lo' As w r w1) (hY : ra_YS y bytes maxL ret n) (hn : As.length = n) (hlk : Cond.methodLink own idx y ∈ TW) (hR : fr' + 1 ≤ fr ∧ 8 + (maxL + 11) + lo' ≤ lo) (hs : stk = As.reverse ++ st) (hst : (st.map fun v => v.category).sum ≤ 8) (hd : decode cc pc = .ok (.invokestatic idx, 3)) (kk : ra_J Z nL (pc + 3) lv st w1) : ra_J Z nL pc lv stk w := by
  intro ls H locs hl hP hS
  subst hs
  refine va_callv (va_runS (As := As) (rest := st) (cc := cc) (nL := nL) ⟨C.hx, C.hb, C.hml, C.hown, C.hts⟩ hM ⟨ra_callB C hY.1 hlk hR, C.hts _ hY.2⟩ ⟨ra_blind _ _ _, fun U hU hW => ⟨rfl, by rw [hU]; exact hP, va_K.moved hW.alike C.hK⟩⟩ rfl hn hl.1 rfl (lv_room hst) hd ⟨C.hce.1, C.hce.2⟩) hS (fun q _ h => ra_toA C q h) (ra_toA C) (fun _ t H1 locs1 ht _ _ hB _ _ hS1 => ?_)
  exact kk ls H1 locs1 hl (by rw [← ht]; exact hB.1) hS1
end RG
theorem ra_entryI {l : Launch} {G : ra_G} {y : MethodName} {cc : ByteArray} {nL : Nat} {ret : Option FieldType} {fr lo : Nat} {av : List Value} {w : ra_W} {r : Int32} {w1 : ra_W} {own : String} (hp : plainName y.cls = true) (hown : y.cls = own) (hlen : (lg_sl av).length ≤ nL) (hj : ra_inj G)
    (h : ∀ Z : ra_Z, zl Z = l → zG Z = G → ra_C Z cc nL own fr lo → ra_QI Z r w1 → (zmt Z).sig.returnType = ret → ra_J Z nL 0 (lv_args 0 av) [] w) : ra_MI l G y cc nL ret fr lo av w r w1 := by
  refine Met.ofW (cc := cc) (maxL := nL) (ret := ret) hp rfl ?_
  intro p e s m args below meth c s₁ B hml hv
  obtain ⟨rfl, hP, hK⟩ := hv
  have hts := atoms_spec (ws := .code y cc nL ret :: TW) B.pre
  have ho : s.vm.findClass own = some m.cls := hown ▸ findClass_of_methodNamed B.named
  have hl := lv_entry av (n := nL) hlen
  rw [lg_entry_eq]
  generalize (lg_sl av ++ List.replicate (nL - (lg_sl av).length) Slot.unset).toArray = ls at hl ⊢
  exact h (p, l, e, ra_rm fr lo, s, m, av.toArray, below, meth, c, MQ below (va_Qi (fun (r' : Int32) (_ : Unit) => r' = r) (fun _ t => ra_K G w1 t) (ra_A G)) av.toArray s 0 0 (ra_A G), G, ra_A G, 0, 0) rfl rfl ⟨⟨B.exec, B.bytes, hml, ho⟩, fun w hw => hts w (List.mem_cons_of_mem _ hw), hK, hj, fun k hk => ⟨k, hk, rfl⟩, ⟨Nat.le_refl _, Nat.le_refl _⟩, ⟨Nat.le_refl _, Nat.le_refl _⟩, B.notSynchronized⟩ rfl B.returns ls s.heap [] hl hP va_S.rf
theorem ra_entryV {l : Launch} {G : ra_G} {y : MethodName} {cc : ByteArray} {nL : Nat} {ret : Option FieldType} {fr lo : Nat} {av : List Value} {w : ra_W} {r : Int32} {w1 : ra_W} {own : String} (hp : plainName y.cls = true) (hown : y.cls = own) (hlen : (lg_sl av).length ≤ nL) (hj : ra_inj G)
    (h : ∀ Z : ra_Z, zl Z = l → zG Z = G → ra_C Z cc nL own fr lo → ra_QV Z r w1 → (zmt Z).sig.returnType = ret → ra_J Z nL 0 (lv_args 0 av) [] w) : ra_MV l G y cc nL ret fr lo av w r w1 := by
  refine Met.ofW (cc := cc) (maxL := nL) (ret := ret) hp rfl ?_
  intro p e s m args below meth c s₁ B hml hv
  obtain ⟨rfl, hP, hK⟩ := hv
  have hts := atoms_spec (ws := .code y cc nL ret :: TW) B.pre
  have ho : s.vm.findClass own = some m.cls := hown ▸ findClass_of_methodNamed B.named
  have hl := lv_entry av (n := nL) hlen
  rw [lg_entry_eq]
  generalize (lg_sl av ++ List.replicate (nL - (lg_sl av).length) Slot.unset).toArray = ls at hl ⊢
  exact h (p, l, e, ra_rm fr lo, s, m, av.toArray, below, meth, c, MQ below (va_Qv (fun (_ : Unit) => True) (fun _ t => ra_K G w1 t) (ra_A G)) av.toArray s 0 0 (ra_A G), G, ra_A G, 0, 0) rfl rfl ⟨⟨B.exec, B.bytes, hml, ho⟩, fun w hw => hts w (List.mem_cons_of_mem _ hw), hK, hj, fun k hk => ⟨k, hk, rfl⟩, ⟨Nat.le_refl _, Nat.le_refl _⟩, ⟨Nat.le_refl _, Nat.le_refl _⟩, B.notSynchronized⟩ rfl B.returns ls s.heap [] hl hP va_S.rf

theorem kd_0 : ra_kd 0 = (5, 0) := by decide +kernel
theorem kd_1 : ra_kd 1 = (3, 0) := by decide +kernel
theorem kd_2 : ra_kd 2 = (10, 80) := by decide +kernel
theorem kd_3 : ra_kd 3 = (2, 0) := by decide +kernel
theorem kd_4 : ra_kd 4 = (10, 2) := by decide +kernel
theorem kd_5 : ra_kd 5 = (10, 7) := by decide +kernel
theorem kd_6 : ra_kd 6 = (10, 7) := by decide +kernel
theorem kd_7 : ra_kd 7 = (10, 7) := by decide +kernel
theorem kd_8 : ra_kd 8 = (2, 0) := by decide +kernel
theorem kd_9 : ra_kd 9 = (10, 2) := by decide +kernel
theorem kd_10 : ra_kd 10 = (10, 7) := by decide +kernel
theorem kd_11 : ra_kd 11 = (10, 7) := by decide +kernel
theorem kd_12 : ra_kd 12 = (10, 7) := by decide +kernel
theorem kd_13 : ra_kd 13 = (0, 0) := by decide +kernel
theorem kd_14 : ra_kd 14 = (10, 7) := by decide +kernel
theorem kd_15 : ra_kd 15 = (10, 7) := by decide +kernel
theorem kd_16 : ra_kd 16 = (4, 0) := by decide +kernel
theorem kd_17 : ra_kd 17 = (10, 7) := by decide +kernel
theorem kd_18 : ra_kd 18 = (10, 7) := by decide +kernel
theorem kd_19 : ra_kd 19 = (10, 7) := by decide +kernel
theorem kd_20 : ra_kd 20 = (10, 7) := by decide +kernel
theorem kd_21 : ra_kd 21 = (10, 7) := by decide +kernel
theorem kd_22 : ra_kd 22 = (10, 2) := by decide +kernel
theorem kd_23 : ra_kd 23 = (4, 0) := by decide +kernel
theorem kd_24 : ra_kd 24 = (10, 7) := by decide +kernel
theorem kd_25 : ra_kd 25 = (10, 7) := by decide +kernel
theorem kd_26 : ra_kd 26 = (10, 7) := by decide +kernel
theorem kd_27 : ra_kd 27 = (10, 7) := by decide +kernel
theorem kd_28 : ra_kd 28 = (10, 7) := by decide +kernel
theorem kd_29 : ra_kd 29 = (10, 2) := by decide +kernel
theorem kd_30 : ra_kd 30 = (1, 0) := by decide +kernel
theorem kd_31 : ra_kd 31 = (12, 12) := by decide +kernel
theorem kd_32 : ra_kd 32 = (12, 2) := by decide +kernel
theorem kd_33 : ra_kd 33 = (10, 6) := by decide +kernel
theorem kd_34 : ra_kd 34 = (10, 6) := by decide +kernel
theorem kd_35 : ra_kd 35 = (10, 4) := by decide +kernel
theorem kd_134 : ra_kd 134 = (6, 0) := by decide +kernel
theorem kd_135 : ra_kd 135 = (10, 80) := by decide +kernel
theorem kd_136 : ra_kd 136 = (10, 19) := by decide +kernel
theorem kd_137 : ra_kd 137 = (10, 19) := by decide +kernel
theorem kd_138 : ra_kd 138 = (10, 41) := by decide +kernel
theorem kd_139 : ra_kd 139 = (10, 41) := by decide +kernel
theorem kd_140 : ra_kd 140 = (10, 41) := by decide +kernel
theorem kd_141 : ra_kd 141 = (10, 492) := by decide +kernel
theorem kd_142 : ra_kd 142 = (10, 82) := by decide +kernel
theorem kd_143 : ra_kd 143 = (11, 2) := by decide +kernel
theorem kd_144 : ra_kd 144 = (10, 6) := by decide +kernel
theorem kd_145 : ra_kd 145 = (10, 6) := by decide +kernel
theorem kd_146 : ra_kd 146 = (10, 7) := by decide +kernel
theorem kd_147 : ra_kd 147 = (10, 7) := by decide +kernel
theorem kd_148 : ra_kd 148 = (10, 21) := by decide +kernel
def ra_S (b : Nat) : Prop := ra_kd b = (4, 0) ∧ ra_kd (b + 1) = (10, 7) ∧ ra_kd (b + 2) = (10, 7) ∧ ra_kd (b + 3) = (10, 7) ∧ ra_kd (b + 4) = (10, 7) ∧ ra_kd (b + 5) = (10, 7) ∧ ra_kd (b + 6) = (10, 2)
def ra_N (b : Nat) : Prop := ra_kd b = (2, 0) ∧ ra_kd (b + 1) = (10, 2) ∧ ra_kd (b + 2) = (10, 7) ∧ ra_kd (b + 3) = (10, 7) ∧ ra_kd (b + 4) = (10, 7)
theorem ra_S16 : ra_S 16 := by unfold ra_S; decide +kernel
theorem ra_S23 : ra_S 23 := by unfold ra_S; decide +kernel
theorem ra_N3 : ra_N 3 := by unfold ra_N; decide +kernel
theorem ra_N8 : ra_N 8 := by unfold ra_N; decide +kernel
theorem ra_S_all : ∀ j : Fin 14, ra_S (36 + 7 * j.val) := by unfold ra_S; decide +kernel
theorem ra_S31 {i : Int32} (h : ra_in i 12) : ra_S (ra_rs 31 (ra_ix i)) := by
  have hlt : i.toNatClampNeg < 12 := Nat.not_le.mp fun q => h (Or.inr q)
  have e : ra_rs 31 (ra_ix i) = 36 + 7 * (⟨i.toNatClampNeg + 2, by omega⟩ : Fin 14).val := by
    show 50 + 7 * i.toNatClampNeg = 36 + 7 * (i.toNatClampNeg + 2)
    omega
  rw [e]
  exact ra_S_all _
theorem ra_S32 {i : Int32} (h : ra_in i 2) : ra_S (ra_rs 32 (ra_ix i)) := by
  have hlt : i.toNatClampNeg < 2 := Nat.not_le.mp fun q => h (Or.inr q)
  have e : ra_rs 32 (ra_ix i) = 36 + 7 * (⟨i.toNatClampNeg, by omega⟩ : Fin 14).val := by
    show 36 + 7 * i.toNatClampNeg = 36 + 7 * i.toNatClampNeg
    rfl
  rw [e]
  exact ra_S_all _
end
