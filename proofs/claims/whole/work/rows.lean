section
-- ===== PART A: goes FIRST, ahead of the names: the tables' words, and 'selects' of the private methods out of them =====
/-- a private method of a class that the tables say can be made, by its rows of tables_1 -/
def lw_okq (q : MethodName × Nat) : Prop := (q.1.cls ≠ "java/lang/invoke/MethodHandle" ∧ q.1.cls ≠ "java/lang/invoke/VarHandle") ∧ Cond.instantiable q.1.cls q.2 ∈ tables_1 ∧ Cond.privateMethod q.1 ∈ tables_1 ∧ Cond.instanceMethod q.1 ∈ tables_1
theorem lw_p0 : lw_okq (⟨"TrunkRadio$Reader", "readToken", "()V"⟩, 9) := ⟨⟨by decide +kernel, by decide +kernel⟩, List.mem_of_getElem? (i := 20) (by decide +kernel), List.mem_of_getElem? (i := 267) (by decide +kernel), List.mem_of_getElem? (i := 268) (by decide +kernel)⟩
theorem lw_p1 : lw_okq (⟨"TrunkRadio$Reader", "letterAt", "(I)I"⟩, 9) := ⟨⟨by decide +kernel, by decide +kernel⟩, List.mem_of_getElem? (i := 20) (by decide +kernel), List.mem_of_getElem? (i := 271) (by decide +kernel), List.mem_of_getElem? (i := 272) (by decide +kernel)⟩
theorem lw_p2 : lw_okq (⟨"TrunkRadio$Reader", "readNumber", "()V"⟩, 9) := ⟨⟨by decide +kernel, by decide +kernel⟩, List.mem_of_getElem? (i := 20) (by decide +kernel), List.mem_of_getElem? (i := 278) (by decide +kernel), List.mem_of_getElem? (i := 279) (by decide +kernel)⟩
theorem lw_p3 : lw_okq (⟨"TrunkRadio$Reader", "readItem", "(LTrunkRadio$Net;)Z"⟩, 9) := ⟨⟨by decide +kernel, by decide +kernel⟩, List.mem_of_getElem? (i := 20) (by decide +kernel), List.mem_of_getElem? (i := 285) (by decide +kernel), List.mem_of_getElem? (i := 286) (by decide +kernel)⟩
theorem lw_p4 : lw_okq (⟨"TrunkRadio$Reader", "readChannels", "(LTrunkRadio$Net;)Z"⟩, 9) := ⟨⟨by decide +kernel, by decide +kernel⟩, List.mem_of_getElem? (i := 20) (by decide +kernel), List.mem_of_getElem? (i := 289) (by decide +kernel), List.mem_of_getElem? (i := 290) (by decide +kernel)⟩
theorem lw_p5 : lw_okq (⟨"TrunkRadio$Reader", "isNumberFrom", "(II)Z"⟩, 9) := ⟨⟨by decide +kernel, by decide +kernel⟩, List.mem_of_getElem? (i := 20) (by decide +kernel), List.mem_of_getElem? (i := 293) (by decide +kernel), List.mem_of_getElem? (i := 294) (by decide +kernel)⟩
theorem lw_p6 : lw_okq (⟨"TrunkRadio$Reader", "isEnded", "()Z"⟩, 9) := ⟨⟨by decide +kernel, by decide +kernel⟩, List.mem_of_getElem? (i := 20) (by decide +kernel), List.mem_of_getElem? (i := 297) (by decide +kernel), List.mem_of_getElem? (i := 298) (by decide +kernel)⟩
theorem lw_p7 : lw_okq (⟨"TrunkRadio$Reader", "readAir", "(LTrunkRadio$Net;)Z"⟩, 9) := ⟨⟨by decide +kernel, by decide +kernel⟩, List.mem_of_getElem? (i := 20) (by decide +kernel), List.mem_of_getElem? (i := 301) (by decide +kernel), List.mem_of_getElem? (i := 302) (by decide +kernel)⟩
theorem lw_p8 : lw_okq (⟨"TrunkRadio$Reader", "readPatience", "(LTrunkRadio$Net;)Z"⟩, 9) := ⟨⟨by decide +kernel, by decide +kernel⟩, List.mem_of_getElem? (i := 20) (by decide +kernel), List.mem_of_getElem? (i := 305) (by decide +kernel), List.mem_of_getElem? (i := 306) (by decide +kernel)⟩
theorem lw_p9 : lw_okq (⟨"TrunkRadio$Reader", "readRadio", "(LTrunkRadio$Net;)Z"⟩, 9) := ⟨⟨by decide +kernel, by decide +kernel⟩, List.mem_of_getElem? (i := 20) (by decide +kernel), List.mem_of_getElem? (i := 309) (by decide +kernel), List.mem_of_getElem? (i := 310) (by decide +kernel)⟩
theorem lw_p10 : lw_okq (⟨"TrunkRadio$Air", "tryAgain", "(LTrunkRadio$Net;LTrunkRadio$State;)V"⟩, 2) := ⟨⟨by decide +kernel, by decide +kernel⟩, List.mem_of_getElem? (i := 111) (by decide +kernel), List.mem_of_getElem? (i := 379) (by decide +kernel), List.mem_of_getElem? (i := 380) (by decide +kernel)⟩
theorem lw_p11 : lw_okq (⟨"TrunkRadio$Air", "cutLongTalks", "(LTrunkRadio$Net;LTrunkRadio$State;)V"⟩, 2) := ⟨⟨by decide +kernel, by decide +kernel⟩, List.mem_of_getElem? (i := 111) (by decide +kernel), List.mem_of_getElem? (i := 383) (by decide +kernel), List.mem_of_getElem? (i := 384) (by decide +kernel)⟩
theorem lw_p12 : lw_okq (⟨"TrunkRadio", "waveLasts", "(I)I"⟩, 13) := ⟨⟨by decide +kernel, by decide +kernel⟩, List.mem_of_getElem? (i := 12) (by decide +kernel), List.mem_of_getElem? (i := 495) (by decide +kernel), List.mem_of_getElem? (i := 496) (by decide +kernel)⟩
theorem lw_p13 : lw_okq (⟨"TrunkRadio", "isEnough", "(I)Z"⟩, 13) := ⟨⟨by decide +kernel, by decide +kernel⟩, List.mem_of_getElem? (i := 12) (by decide +kernel), List.mem_of_getElem? (i := 508) (by decide +kernel), List.mem_of_getElem? (i := 509) (by decide +kernel)⟩
theorem lw_p14 : lw_okq (⟨"TrunkRadio", "talksAmong", "(III)Z"⟩, 13) := ⟨⟨by decide +kernel, by decide +kernel⟩, List.mem_of_getElem? (i := 12) (by decide +kernel), List.mem_of_getElem? (i := 529) (by decide +kernel), List.mem_of_getElem? (i := 530) (by decide +kernel)⟩
theorem lw_p15 : lw_okq (⟨"TrunkRadio", "ranksThatFit", "(I)I"⟩, 13) := ⟨⟨by decide +kernel, by decide +kernel⟩, List.mem_of_getElem? (i := 12) (by decide +kernel), List.mem_of_getElem? (i := 548) (by decide +kernel), List.mem_of_getElem? (i := 549) (by decide +kernel)⟩
def lw_privs_1 : List (MethodName × Nat) := [(⟨"TrunkRadio$Reader", "readToken", "()V"⟩, 9), (⟨"TrunkRadio$Reader", "letterAt", "(I)I"⟩, 9), (⟨"TrunkRadio$Reader", "readNumber", "()V"⟩, 9), (⟨"TrunkRadio$Reader", "readItem", "(LTrunkRadio$Net;)Z"⟩, 9), (⟨"TrunkRadio$Reader", "readChannels", "(LTrunkRadio$Net;)Z"⟩, 9), (⟨"TrunkRadio$Reader", "isNumberFrom", "(II)Z"⟩, 9), (⟨"TrunkRadio$Reader", "isEnded", "()Z"⟩, 9), (⟨"TrunkRadio$Reader", "readAir", "(LTrunkRadio$Net;)Z"⟩, 9), (⟨"TrunkRadio$Reader", "readPatience", "(LTrunkRadio$Net;)Z"⟩, 9), (⟨"TrunkRadio$Reader", "readRadio", "(LTrunkRadio$Net;)Z"⟩, 9), (⟨"TrunkRadio$Air", "tryAgain", "(LTrunkRadio$Net;LTrunkRadio$State;)V"⟩, 2), (⟨"TrunkRadio$Air", "cutLongTalks", "(LTrunkRadio$Net;LTrunkRadio$State;)V"⟩, 2), (⟨"TrunkRadio", "waveLasts", "(I)I"⟩, 13), (⟨"TrunkRadio", "isEnough", "(I)Z"⟩, 13), (⟨"TrunkRadio", "talksAmong", "(III)Z"⟩, 13), (⟨"TrunkRadio", "ranksThatFit", "(I)I"⟩, 13)]
theorem lw_r1 : ∀ q ∈ lw_privs_1, lw_okq q := List.forall_mem_cons.mpr ⟨lw_p0, List.forall_mem_cons.mpr ⟨lw_p1, List.forall_mem_cons.mpr ⟨lw_p2, List.forall_mem_cons.mpr ⟨lw_p3, List.forall_mem_cons.mpr ⟨lw_p4, List.forall_mem_cons.mpr ⟨lw_p5, List.forall_mem_cons.mpr ⟨lw_p6, List.forall_mem_cons.mpr ⟨lw_p7, List.forall_mem_cons.mpr ⟨lw_p8, List.forall_mem_cons.mpr ⟨lw_p9, List.forall_mem_cons.mpr ⟨lw_p10, List.forall_mem_cons.mpr ⟨lw_p11, List.forall_mem_cons.mpr ⟨lw_p12, List.forall_mem_cons.mpr ⟨lw_p13, List.forall_mem_cons.mpr ⟨lw_p14, List.forall_mem_cons.mpr ⟨lw_p15, fun _ h => absurd h List.not_mem_nil⟩⟩⟩⟩⟩⟩⟩⟩⟩⟩⟩⟩⟩⟩⟩⟩
theorem lw_p16 : lw_okq (⟨"TrunkRadio", "timesOnAir", "(I)I"⟩, 13) := ⟨⟨by decide +kernel, by decide +kernel⟩, List.mem_of_getElem? (i := 12) (by decide +kernel), List.mem_of_getElem? (i := 552) (by decide +kernel), List.mem_of_getElem? (i := 553) (by decide +kernel)⟩
theorem lw_p17 : lw_okq (⟨"TrunkRadio", "agreesWithSeen", "(I)Z"⟩, 13) := ⟨⟨by decide +kernel, by decide +kernel⟩, List.mem_of_getElem? (i := 12) (by decide +kernel), List.mem_of_getElem? (i := 556) (by decide +kernel), List.mem_of_getElem? (i := 557) (by decide +kernel)⟩
theorem lw_p18 : lw_okq (⟨"TrunkRadio", "ranksOnAir", "(II)I"⟩, 13) := ⟨⟨by decide +kernel, by decide +kernel⟩, List.mem_of_getElem? (i := 12) (by decide +kernel), List.mem_of_getElem? (i := 564) (by decide +kernel), List.mem_of_getElem? (i := 565) (by decide +kernel)⟩
theorem lw_p19 : lw_okq (⟨"TrunkRadioModel", "begins", "()V"⟩, 25) := ⟨⟨by decide +kernel, by decide +kernel⟩, List.mem_of_getElem? (i := 580) (by decide +kernel), List.mem_of_getElem? (i := 586) (by decide +kernel), List.mem_of_getElem? (i := 587) (by decide +kernel)⟩
theorem lw_p20 : lw_okq (⟨"TrunkRadioModel", "settles", "()V"⟩, 25) := ⟨⟨by decide +kernel, by decide +kernel⟩, List.mem_of_getElem? (i := 580) (by decide +kernel), List.mem_of_getElem? (i := 590) (by decide +kernel), List.mem_of_getElem? (i := 591) (by decide +kernel)⟩
theorem lw_p21 : lw_okq (⟨"TrunkRadioModel", "advances", "()V"⟩, 25) := ⟨⟨by decide +kernel, by decide +kernel⟩, List.mem_of_getElem? (i := 580) (by decide +kernel), List.mem_of_getElem? (i := 689) (by decide +kernel), List.mem_of_getElem? (i := 690) (by decide +kernel)⟩
theorem lw_p22 : lw_okq (⟨"TrunkRadioModel", "letterAt", "(I)I"⟩, 25) := ⟨⟨by decide +kernel, by decide +kernel⟩, List.mem_of_getElem? (i := 580) (by decide +kernel), List.mem_of_getElem? (i := 693) (by decide +kernel), List.mem_of_getElem? (i := 694) (by decide +kernel)⟩
theorem lw_p23 : lw_okq (⟨"TrunkRadioModel", "isWell", "()Z"⟩, 25) := ⟨⟨by decide +kernel, by decide +kernel⟩, List.mem_of_getElem? (i := 580) (by decide +kernel), List.mem_of_getElem? (i := 697) (by decide +kernel), List.mem_of_getElem? (i := 698) (by decide +kernel)⟩
theorem lw_p24 : lw_okq (⟨"TrunkRadioModel", "mayBegin", "()Z"⟩, 25) := ⟨⟨by decide +kernel, by decide +kernel⟩, List.mem_of_getElem? (i := 580) (by decide +kernel), List.mem_of_getElem? (i := 701) (by decide +kernel), List.mem_of_getElem? (i := 702) (by decide +kernel)⟩
theorem lw_p25 : lw_okq (⟨"TrunkRadioModel", "takes", "(Z)I"⟩, 25) := ⟨⟨by decide +kernel, by decide +kernel⟩, List.mem_of_getElem? (i := 580) (by decide +kernel), List.mem_of_getElem? (i := 708) (by decide +kernel), List.mem_of_getElem? (i := 709) (by decide +kernel)⟩
theorem lw_p26 : lw_okq (⟨"TrunkRadioModel", "readsItem", "(I)V"⟩, 25) := ⟨⟨by decide +kernel, by decide +kernel⟩, List.mem_of_getElem? (i := 580) (by decide +kernel), List.mem_of_getElem? (i := 712) (by decide +kernel), List.mem_of_getElem? (i := 713) (by decide +kernel)⟩
theorem lw_p27 : lw_okq (⟨"TrunkRadioModel", "number", "(II)I"⟩, 25) := ⟨⟨by decide +kernel, by decide +kernel⟩, List.mem_of_getElem? (i := 580) (by decide +kernel), List.mem_of_getElem? (i := 716) (by decide +kernel), List.mem_of_getElem? (i := 717) (by decide +kernel)⟩
theorem lw_p28 : lw_okq (⟨"TrunkRadioModel", "notes", "()V"⟩, 25) := ⟨⟨by decide +kernel, by decide +kernel⟩, List.mem_of_getElem? (i := 580) (by decide +kernel), List.mem_of_getElem? (i := 724) (by decide +kernel), List.mem_of_getElem? (i := 725) (by decide +kernel)⟩
theorem lw_p29 : lw_okq (⟨"TrunkRadioModel", "goes", "([I)V"⟩, 25) := ⟨⟨by decide +kernel, by decide +kernel⟩, List.mem_of_getElem? (i := 580) (by decide +kernel), List.mem_of_getElem? (i := 728) (by decide +kernel), List.mem_of_getElem? (i := 729) (by decide +kernel)⟩
theorem lw_p30 : lw_okq (⟨"TrunkRadioModel", "controls2", "([II)V"⟩, 25) := ⟨⟨by decide +kernel, by decide +kernel⟩, List.mem_of_getElem? (i := 580) (by decide +kernel), List.mem_of_getElem? (i := 732) (by decide +kernel), List.mem_of_getElem? (i := 733) (by decide +kernel)⟩
theorem lw_p31 : lw_okq (⟨"TrunkRadioModel", "heardAt", "([II)I"⟩, 25) := ⟨⟨by decide +kernel, by decide +kernel⟩, List.mem_of_getElem? (i := 580) (by decide +kernel), List.mem_of_getElem? (i := 736) (by decide +kernel), List.mem_of_getElem? (i := 737) (by decide +kernel)⟩
def lw_privs_2 : List (MethodName × Nat) := [(⟨"TrunkRadio", "timesOnAir", "(I)I"⟩, 13), (⟨"TrunkRadio", "agreesWithSeen", "(I)Z"⟩, 13), (⟨"TrunkRadio", "ranksOnAir", "(II)I"⟩, 13), (⟨"TrunkRadioModel", "begins", "()V"⟩, 25), (⟨"TrunkRadioModel", "settles", "()V"⟩, 25), (⟨"TrunkRadioModel", "advances", "()V"⟩, 25), (⟨"TrunkRadioModel", "letterAt", "(I)I"⟩, 25), (⟨"TrunkRadioModel", "isWell", "()Z"⟩, 25), (⟨"TrunkRadioModel", "mayBegin", "()Z"⟩, 25), (⟨"TrunkRadioModel", "takes", "(Z)I"⟩, 25), (⟨"TrunkRadioModel", "readsItem", "(I)V"⟩, 25), (⟨"TrunkRadioModel", "number", "(II)I"⟩, 25), (⟨"TrunkRadioModel", "notes", "()V"⟩, 25), (⟨"TrunkRadioModel", "goes", "([I)V"⟩, 25), (⟨"TrunkRadioModel", "controls2", "([II)V"⟩, 25), (⟨"TrunkRadioModel", "heardAt", "([II)I"⟩, 25)]
theorem lw_r2 : ∀ q ∈ lw_privs_2, lw_okq q := List.forall_mem_cons.mpr ⟨lw_p16, List.forall_mem_cons.mpr ⟨lw_p17, List.forall_mem_cons.mpr ⟨lw_p18, List.forall_mem_cons.mpr ⟨lw_p19, List.forall_mem_cons.mpr ⟨lw_p20, List.forall_mem_cons.mpr ⟨lw_p21, List.forall_mem_cons.mpr ⟨lw_p22, List.forall_mem_cons.mpr ⟨lw_p23, List.forall_mem_cons.mpr ⟨lw_p24, List.forall_mem_cons.mpr ⟨lw_p25, List.forall_mem_cons.mpr ⟨lw_p26, List.forall_mem_cons.mpr ⟨lw_p27, List.forall_mem_cons.mpr ⟨lw_p28, List.forall_mem_cons.mpr ⟨lw_p29, List.forall_mem_cons.mpr ⟨lw_p30, List.forall_mem_cons.mpr ⟨lw_p31, fun _ h => absurd h List.not_mem_nil⟩⟩⟩⟩⟩⟩⟩⟩⟩⟩⟩⟩⟩⟩⟩⟩
theorem lw_p32 : lw_okq (⟨"TrunkRadioModel", "isSentAt", "([III)Z"⟩, 25) := ⟨⟨by decide +kernel, by decide +kernel⟩, List.mem_of_getElem? (i := 580) (by decide +kernel), List.mem_of_getElem? (i := 740) (by decide +kernel), List.mem_of_getElem? (i := 741) (by decide +kernel)⟩
theorem lw_p33 : lw_okq (⟨"TrunkRadioModel", "helpsItself", "([II)V"⟩, 25) := ⟨⟨by decide +kernel, by decide +kernel⟩, List.mem_of_getElem? (i := 580) (by decide +kernel), List.mem_of_getElem? (i := 747) (by decide +kernel), List.mem_of_getElem? (i := 748) (by decide +kernel)⟩
theorem lw_p34 : lw_okq (⟨"TrunkRadioModel", "lines", "([I)V"⟩, 25) := ⟨⟨by decide +kernel, by decide +kernel⟩, List.mem_of_getElem? (i := 580) (by decide +kernel), List.mem_of_getElem? (i := 754) (by decide +kernel), List.mem_of_getElem? (i := 755) (by decide +kernel)⟩
theorem lw_p35 : lw_okq (⟨"TrunkRadioModel", "isAhead", "([III)Z"⟩, 25) := ⟨⟨by decide +kernel, by decide +kernel⟩, List.mem_of_getElem? (i := 580) (by decide +kernel), List.mem_of_getElem? (i := 758) (by decide +kernel), List.mem_of_getElem? (i := 759) (by decide +kernel)⟩
theorem lw_p36 : lw_okq (⟨"TrunkRadioModel", "serves", "([II)V"⟩, 25) := ⟨⟨by decide +kernel, by decide +kernel⟩, List.mem_of_getElem? (i := 580) (by decide +kernel), List.mem_of_getElem? (i := 762) (by decide +kernel), List.mem_of_getElem? (i := 763) (by decide +kernel)⟩
theorem lw_p37 : lw_okq (⟨"TrunkRadioModel", "talkerOf", "([II)I"⟩, 25) := ⟨⟨by decide +kernel, by decide +kernel⟩, List.mem_of_getElem? (i := 580) (by decide +kernel), List.mem_of_getElem? (i := 766) (by decide +kernel), List.mem_of_getElem? (i := 767) (by decide +kernel)⟩
theorem lw_p38 : lw_okq (⟨"TrunkRadioModel", "neededBy", "([II)I"⟩, 25) := ⟨⟨by decide +kernel, by decide +kernel⟩, List.mem_of_getElem? (i := 580) (by decide +kernel), List.mem_of_getElem? (i := 770) (by decide +kernel), List.mem_of_getElem? (i := 771) (by decide +kernel)⟩
theorem lw_p39 : lw_okq (⟨"TrunkRadioModel", "isFree", "([II)Z"⟩, 25) := ⟨⟨by decide +kernel, by decide +kernel⟩, List.mem_of_getElem? (i := 580) (by decide +kernel), List.mem_of_getElem? (i := 774) (by decide +kernel), List.mem_of_getElem? (i := 775) (by decide +kernel)⟩
theorem lw_p40 : lw_okq (⟨"TrunkRadioModel", "freeAt", "([II)I"⟩, 25) := ⟨⟨by decide +kernel, by decide +kernel⟩, List.mem_of_getElem? (i := 580) (by decide +kernel), List.mem_of_getElem? (i := 781) (by decide +kernel), List.mem_of_getElem? (i := 782) (by decide +kernel)⟩
theorem lw_p41 : lw_okq (⟨"TrunkRadioModel", "takesOver", "([II)V"⟩, 25) := ⟨⟨by decide +kernel, by decide +kernel⟩, List.mem_of_getElem? (i := 580) (by decide +kernel), List.mem_of_getElem? (i := 785) (by decide +kernel), List.mem_of_getElem? (i := 786) (by decide +kernel)⟩
theorem lw_p42 : lw_okq (⟨"TrunkRadioModel", "leastAt", "([II)I"⟩, 25) := ⟨⟨by decide +kernel, by decide +kernel⟩, List.mem_of_getElem? (i := 580) (by decide +kernel), List.mem_of_getElem? (i := 789) (by decide +kernel), List.mem_of_getElem? (i := 790) (by decide +kernel)⟩
theorem lw_p43 : lw_okq (⟨"TrunkRadioModel", "isOn", "([II)Z"⟩, 25) := ⟨⟨by decide +kernel, by decide +kernel⟩, List.mem_of_getElem? (i := 580) (by decide +kernel), List.mem_of_getElem? (i := 793) (by decide +kernel), List.mem_of_getElem? (i := 794) (by decide +kernel)⟩
theorem lw_p44 : lw_okq (⟨"TrunkRadioModel", "isRadio", "(I)Z"⟩, 25) := ⟨⟨by decide +kernel, by decide +kernel⟩, List.mem_of_getElem? (i := 580) (by decide +kernel), List.mem_of_getElem? (i := 801) (by decide +kernel), List.mem_of_getElem? (i := 802) (by decide +kernel)⟩
theorem lw_p45 : lw_okq (⟨"TrunkRadioModel", "enough", "(I)I"⟩, 25) := ⟨⟨by decide +kernel, by decide +kernel⟩, List.mem_of_getElem? (i := 580) (by decide +kernel), List.mem_of_getElem? (i := 849) (by decide +kernel), List.mem_of_getElem? (i := 850) (by decide +kernel)⟩
theorem lw_p46 : lw_okq (⟨"TrunkRadioModel", "presses2", "(I)V"⟩, 25) := ⟨⟨by decide +kernel, by decide +kernel⟩, List.mem_of_getElem? (i := 580) (by decide +kernel), List.mem_of_getElem? (i := 853) (by decide +kernel), List.mem_of_getElem? (i := 854) (by decide +kernel)⟩
theorem lw_p47 : lw_okq (⟨"TrunkRadioModel", "lasts", "()I"⟩, 25) := ⟨⟨by decide +kernel, by decide +kernel⟩, List.mem_of_getElem? (i := 580) (by decide +kernel), List.mem_of_getElem? (i := 857) (by decide +kernel), List.mem_of_getElem? (i := 858) (by decide +kernel)⟩
def lw_privs_3 : List (MethodName × Nat) := [(⟨"TrunkRadioModel", "isSentAt", "([III)Z"⟩, 25), (⟨"TrunkRadioModel", "helpsItself", "([II)V"⟩, 25), (⟨"TrunkRadioModel", "lines", "([I)V"⟩, 25), (⟨"TrunkRadioModel", "isAhead", "([III)Z"⟩, 25), (⟨"TrunkRadioModel", "serves", "([II)V"⟩, 25), (⟨"TrunkRadioModel", "talkerOf", "([II)I"⟩, 25), (⟨"TrunkRadioModel", "neededBy", "([II)I"⟩, 25), (⟨"TrunkRadioModel", "isFree", "([II)Z"⟩, 25), (⟨"TrunkRadioModel", "freeAt", "([II)I"⟩, 25), (⟨"TrunkRadioModel", "takesOver", "([II)V"⟩, 25), (⟨"TrunkRadioModel", "leastAt", "([II)I"⟩, 25), (⟨"TrunkRadioModel", "isOn", "([II)Z"⟩, 25), (⟨"TrunkRadioModel", "isRadio", "(I)Z"⟩, 25), (⟨"TrunkRadioModel", "enough", "(I)I"⟩, 25), (⟨"TrunkRadioModel", "presses2", "(I)V"⟩, 25), (⟨"TrunkRadioModel", "lasts", "()I"⟩, 25)]
theorem lw_r3 : ∀ q ∈ lw_privs_3, lw_okq q := List.forall_mem_cons.mpr ⟨lw_p32, List.forall_mem_cons.mpr ⟨lw_p33, List.forall_mem_cons.mpr ⟨lw_p34, List.forall_mem_cons.mpr ⟨lw_p35, List.forall_mem_cons.mpr ⟨lw_p36, List.forall_mem_cons.mpr ⟨lw_p37, List.forall_mem_cons.mpr ⟨lw_p38, List.forall_mem_cons.mpr ⟨lw_p39, List.forall_mem_cons.mpr ⟨lw_p40, List.forall_mem_cons.mpr ⟨lw_p41, List.forall_mem_cons.mpr ⟨lw_p42, List.forall_mem_cons.mpr ⟨lw_p43, List.forall_mem_cons.mpr ⟨lw_p44, List.forall_mem_cons.mpr ⟨lw_p45, List.forall_mem_cons.mpr ⟨lw_p46, List.forall_mem_cons.mpr ⟨lw_p47, fun _ h => absurd h List.not_mem_nil⟩⟩⟩⟩⟩⟩⟩⟩⟩⟩⟩⟩⟩⟩⟩⟩
theorem lw_p48 : lw_okq (⟨"TrunkRadioModel", "onBy", "(II)I"⟩, 25) := ⟨⟨by decide +kernel, by decide +kernel⟩, List.mem_of_getElem? (i := 580) (by decide +kernel), List.mem_of_getElem? (i := 880) (by decide +kernel), List.mem_of_getElem? (i := 881) (by decide +kernel)⟩
theorem lw_p49 : lw_okq (⟨"TrunkRadioModel", "isAsSeen", "(I)Z"⟩, 25) := ⟨⟨by decide +kernel, by decide +kernel⟩, List.mem_of_getElem? (i := 580) (by decide +kernel), List.mem_of_getElem? (i := 884) (by decide +kernel), List.mem_of_getElem? (i := 885) (by decide +kernel)⟩
def lw_privs_4 : List (MethodName × Nat) := [(⟨"TrunkRadioModel", "onBy", "(II)I"⟩, 25), (⟨"TrunkRadioModel", "isAsSeen", "(I)Z"⟩, 25)]
theorem lw_r4 : ∀ q ∈ lw_privs_4, lw_okq q := List.forall_mem_cons.mpr ⟨lw_p48, List.forall_mem_cons.mpr ⟨lw_p49, fun _ h => absurd h List.not_mem_nil⟩⟩
def lw_privs : List (MethodName × Nat) := lw_privs_1 ++ (lw_privs_2 ++ (lw_privs_3 ++ (lw_privs_4)))
def lw_tbl : List Cond := k2_sels lw_privs ++ tables_1
theorem lw_privs_ok : ∀ q ∈ lw_privs, lw_okq q := by
  show ∀ q ∈ lw_privs_1 ++ (lw_privs_2 ++ (lw_privs_3 ++ (lw_privs_4))), lw_okq q
  exact List.forall_mem_append.mpr ⟨lw_r1, List.forall_mem_append.mpr ⟨lw_r2, List.forall_mem_append.mpr ⟨lw_r3, lw_r4⟩⟩⟩
-- ===== end of PART A; then your names; then what follows =====
end
section
/-! ===== BEGIN words of one list among another's, by their places ===== -/
theorem goodIn_r {big : List Cond} (ws : List Cond) (ps : List Nat) (hp : ws = ps.filterMap (fun i => big[i]?)) (h : ws.all goodWord = true) : GoodIn big ws := by
  intro w hw
  have h1 := List.all_eq_true.mp h w hw
  rw [hp] at hw
  obtain ⟨i, -, hi⟩ := List.mem_filterMap.mp hw
  have hm : w ∈ big := by first | exact List.mem_of_getElem? hi | exact List.getElem?_mem hi
  exact ⟨hm, good_of_word h1⟩
theorem goodIn_app {big a b : List Cond} (ha : GoodIn big a) (hb : GoodIn big b) : GoodIn big (a ++ b) := fun w h => (List.mem_append.mp h).elim (ha w) (hb w)
theorem goodIn_ca {big a b : List Cond} {c : Cond} (ha : GoodIn big (c :: a)) (hb : GoodIn big b) : GoodIn big (c :: (a ++ b)) := fun w h => (List.mem_cons.mp h).elim (fun e => ha w (List.mem_cons.mpr (Or.inl e))) (fun h => (List.mem_append.mp h).elim (fun h => ha w (List.mem_cons.mpr (Or.inr h))) (hb w))
theorem goodIn_sub {big ws : List Cond} (hm : ∀ w ∈ ws, w ∈ big) (h : ws.all goodWord = true) : GoodIn big ws := fun w hw => ⟨hm w hw, good_of_word (List.all_eq_true.mp h w hw)⟩
/-! ===== END ===== -/
/-! ===== BEGIN printed: names, fields, word lists, decode rows ===== -/
def RX0 : String := "TrunkRadio$Air"
def TX0 : u_T := fun k => match k with
  | 0 => ("TrunkRadio$Air", "line", "[I", true)
  | _ => ("TrunkRadio$Air", "was", "[I", true)
def tyX0 : Nat → FieldType := fun k => match k with
  | 0 => .array .int
  | _ => .array .int
abbrev wsX00 : List Cond := u_ws RX0 TX0 2
theorem nmX0 : ∀ a, a < 2 → ∀ b, b < 2 → a ≠ b → (TX0 a).2.1 ≠ (TX0 b).2.1 := by decide +kernel
theorem tyX0_ok : ∀ k, k < 2 → parseFieldDescriptor (TX0 k).2.2.1 = some (tyX0 k) := by decide +kernel
abbrev cX0_init : ByteArray := prog_2_method_1_code
def yX0_init : MethodName := ⟨RX0, "<init>", "()V"⟩
abbrev cX0_pass : ByteArray := prog_2_method_2_code
def yX0_pass : MethodName := ⟨RX0, "pass", "(LTrunkRadio$Net;LTrunkRadio$State;)V"⟩
abbrev cX0_isSentAt : ByteArray := prog_2_method_3_code
def yX0_isSentAt : MethodName := ⟨RX0, "isSentAt", "(LTrunkRadio$State;II)Z"⟩
abbrev cX0_hear : ByteArray := prog_2_method_4_code
def yX0_hear : MethodName := ⟨RX0, "hear", "(LTrunkRadio$Net;LTrunkRadio$State;I)V"⟩
abbrev cX0_heardAt : ByteArray := prog_2_method_5_code
def yX0_heardAt : MethodName := ⟨RX0, "heardAt", "(LTrunkRadio$Net;LTrunkRadio$State;I)I"⟩
abbrev cX0_helpThemselves : ByteArray := prog_2_method_6_code
def yX0_helpThemselves : MethodName := ⟨RX0, "helpThemselves", "(LTrunkRadio$Net;LTrunkRadio$State;I)V"⟩
abbrev cX0_isSoftTaken : ByteArray := prog_2_method_7_code
def yX0_isSoftTaken : MethodName := ⟨RX0, "isSoftTaken", "(LTrunkRadio$Net;LTrunkRadio$State;I)Z"⟩
abbrev cX0_tryAgain : ByteArray := prog_2_method_8_code
def yX0_tryAgain : MethodName := ⟨RX0, "tryAgain", "(LTrunkRadio$Net;LTrunkRadio$State;)V"⟩
abbrev cX0_cutLongTalks : ByteArray := prog_2_method_9_code
def yX0_cutLongTalks : MethodName := ⟨RX0, "cutLongTalks", "(LTrunkRadio$Net;LTrunkRadio$State;)V"⟩
abbrev cX0_lineUp : ByteArray := prog_2_method_10_code
def yX0_lineUp : MethodName := ⟨RX0, "lineUp", "(LTrunkRadio$Net;LTrunkRadio$State;)I"⟩
abbrev cX0_isAhead : ByteArray := prog_2_method_11_code
def yX0_isAhead : MethodName := ⟨RX0, "isAhead", "(LTrunkRadio$Net;LTrunkRadio$State;II)Z"⟩
abbrev cX0_serve : ByteArray := prog_2_method_12_code
def yX0_serve : MethodName := ⟨RX0, "serve", "(LTrunkRadio$Net;LTrunkRadio$State;I)V"⟩
abbrev cX0_sitesNeeded : ByteArray := prog_2_method_13_code
def yX0_sitesNeeded : MethodName := ⟨RX0, "sitesNeeded", "(LTrunkRadio$Net;LTrunkRadio$State;I)I"⟩
abbrev cX0_takeOver : ByteArray := prog_2_method_14_code
def yX0_takeOver : MethodName := ⟨RX0, "takeOver", "(LTrunkRadio$Net;LTrunkRadio$State;I)V"⟩
abbrev cX0_weakestAt : ByteArray := prog_2_method_15_code
def yX0_weakestAt : MethodName := ⟨RX0, "weakestAt", "(LTrunkRadio$Net;LTrunkRadio$State;I)I"⟩
abbrev cX0_giveUp : ByteArray := prog_2_method_16_code
def yX0_giveUp : MethodName := ⟨RX0, "giveUp", "(LTrunkRadio$Net;LTrunkRadio$State;)V"⟩
def RX1 : String := "TrunkRadio$History"
def TX1 : u_T := fun k => match k with
  | 0 => ("TrunkRadio$History", "known", "I", false)
  | 1 => ("TrunkRadio$History", "states", "[LTrunkRadio$State;", true)
  | _ => ("TrunkRadio$History", "next", "I", false)
def tyX1 : Nat → FieldType := fun k => match k with
  | 0 => .int
  | 1 => .array (.object "TrunkRadio$State")
  | _ => .int
abbrev wsX10 : List Cond := u_ws RX1 TX1 3
theorem nmX1 : ∀ a, a < 3 → ∀ b, b < 3 → a ≠ b → (TX1 a).2.1 ≠ (TX1 b).2.1 := by decide +kernel
theorem tyX1_ok : ∀ k, k < 3 → parseFieldDescriptor (TX1 k).2.2.1 = some (tyX1 k) := by decide +kernel
abbrev cX1_init : ByteArray := prog_3_method_1_code
def yX1_init : MethodName := ⟨RX1, "<init>", "()V"⟩
abbrev cX1_lose : ByteArray := prog_3_method_2_code
def yX1_lose : MethodName := ⟨RX1, "lose", "()V"⟩
abbrev cX1_record : ByteArray := prog_3_method_3_code
def yX1_record : MethodName := ⟨RX1, "record", "(LTrunkRadio$State;)V"⟩
abbrev cX1_bringBack : ByteArray := prog_3_method_4_code
def yX1_bringBack : MethodName := ⟨RX1, "bringBack", "(LTrunkRadio$State;)Z"⟩
def RX2 : String := "TrunkRadio$Net"
def TX2 : u_T := fun k => match k with
  | 0 => ("TrunkRadio$Net", "radios", "I", false)
  | 1 => ("TrunkRadio$Net", "air", "I", false)
  | 2 => ("TrunkRadio$Net", "patience", "I", false)
  | 3 => ("TrunkRadio$Net", "channels", "[I", true)
  | 4 => ("TrunkRadio$Net", "firstSite", "[I", true)
  | 5 => ("TrunkRadio$Net", "group", "[I", true)
  | _ => ("TrunkRadio$Net", "rank", "[I", true)
def tyX2 : Nat → FieldType := fun k => match k with
  | 0 => .int
  | 1 => .int
  | 2 => .int
  | 3 => .array .int
  | 4 => .array .int
  | 5 => .array .int
  | _ => .array .int
abbrev wsX20 : List Cond := u_ws RX2 TX2 7
theorem nmX2 : ∀ a, a < 7 → ∀ b, b < 7 → a ≠ b → (TX2 a).2.1 ≠ (TX2 b).2.1 := by decide +kernel
theorem tyX2_ok : ∀ k, k < 7 → parseFieldDescriptor (TX2 k).2.2.1 = some (tyX2 k) := by decide +kernel
abbrev cX2_init : ByteArray := prog_4_method_1_code
def yX2_init : MethodName := ⟨RX2, "<init>", "()V"⟩
abbrev cX2_beginAnew : ByteArray := prog_4_method_2_code
def yX2_beginAnew : MethodName := ⟨RX2, "beginAnew", "()V"⟩
abbrev cX2_copy : ByteArray := prog_4_method_3_code
def yX2_copy : MethodName := ⟨RX2, "copy", "(LTrunkRadio$Net;)V"⟩
abbrev cX2_has : ByteArray := prog_4_method_4_code
def yX2_has : MethodName := ⟨RX2, "has", "(I)Z"⟩
def RX3 : String := "TrunkRadio$Reader"
def TX3 : u_T := fun k => match k with
  | 0 => ("TrunkRadio$Reader", "length", "I", false)
  | 1 => ("TrunkRadio$Reader", "letters", "[I", true)
  | 2 => ("TrunkRadio$Reader", "at", "I", false)
  | 3 => ("TrunkRadio$Reader", "start", "I", false)
  | 4 => ("TrunkRadio$Reader", "kind", "I", false)
  | 5 => ("TrunkRadio$Reader", "value", "I", false)
  | 6 => ("TrunkRadio$Reader", "channelsTold", "Z", false)
  | 7 => ("TrunkRadio$Reader", "airTold", "Z", false)
  | _ => ("TrunkRadio$Reader", "patienceTold", "Z", false)
def tyX3 : Nat → FieldType := fun k => match k with
  | 0 => .int
  | 1 => .array .int
  | 2 => .int
  | 3 => .int
  | 4 => .int
  | 5 => .int
  | 6 => .boolean
  | 7 => .boolean
  | _ => .boolean
abbrev wsX30 : List Cond := u_ws RX3 TX3 9
theorem nmX3 : ∀ a, a < 9 → ∀ b, b < 9 → a ≠ b → (TX3 a).2.1 ≠ (TX3 b).2.1 := by decide +kernel
theorem tyX3_ok : ∀ k, k < 9 → parseFieldDescriptor (TX3 k).2.2.1 = some (tyX3 k) := by decide +kernel
abbrev cX3_init : ByteArray := prog_5_method_1_code
def yX3_init : MethodName := ⟨RX3, "<init>", "()V"⟩
abbrev cX3_append : ByteArray := prog_5_method_2_code
def yX3_append : MethodName := ⟨RX3, "append", "(I)Z"⟩
abbrev cX3_empty : ByteArray := prog_5_method_3_code
def yX3_empty : MethodName := ⟨RX3, "empty", "()I"⟩
abbrev cX3_readInto : ByteArray := prog_5_method_4_code
def yX3_readInto : MethodName := ⟨RX3, "readInto", "(LTrunkRadio$Net;)I"⟩
abbrev cX3_letterAt : ByteArray := prog_5_method_5_code
def yX3_letterAt : MethodName := ⟨RX3, "letterAt", "(I)I"⟩
abbrev cX3_isDigit : ByteArray := prog_5_method_6_code
def yX3_isDigit : MethodName := ⟨RX3, "isDigit", "(I)Z"⟩
abbrev cX3_readToken : ByteArray := prog_5_method_7_code
def yX3_readToken : MethodName := ⟨RX3, "readToken", "()V"⟩
abbrev cX3_readNumber : ByteArray := prog_5_method_8_code
def yX3_readNumber : MethodName := ⟨RX3, "readNumber", "()V"⟩
abbrev cX3_readItem : ByteArray := prog_5_method_9_code
def yX3_readItem : MethodName := ⟨RX3, "readItem", "(LTrunkRadio$Net;)Z"⟩
abbrev cX3_isEnded : ByteArray := prog_5_method_10_code
def yX3_isEnded : MethodName := ⟨RX3, "isEnded", "()Z"⟩
abbrev cX3_isNumberFrom : ByteArray := prog_5_method_11_code
def yX3_isNumberFrom : MethodName := ⟨RX3, "isNumberFrom", "(II)Z"⟩
abbrev cX3_readChannels : ByteArray := prog_5_method_12_code
def yX3_readChannels : MethodName := ⟨RX3, "readChannels", "(LTrunkRadio$Net;)Z"⟩
abbrev cX3_readAir : ByteArray := prog_5_method_13_code
def yX3_readAir : MethodName := ⟨RX3, "readAir", "(LTrunkRadio$Net;)Z"⟩
abbrev cX3_readPatience : ByteArray := prog_5_method_14_code
def yX3_readPatience : MethodName := ⟨RX3, "readPatience", "(LTrunkRadio$Net;)Z"⟩
abbrev cX3_readRadio : ByteArray := prog_5_method_15_code
def yX3_readRadio : MethodName := ⟨RX3, "readRadio", "(LTrunkRadio$Net;)Z"⟩
def RX4 : String := "TrunkRadio$State"
def TX4 : u_T := fun k => match k with
  | 0 => ("TrunkRadio$State", "site", "[I", true)
  | 1 => ("TrunkRadio$State", "how", "[I", true)
  | 2 => ("TrunkRadio$State", "since", "[I", true)
  | 3 => ("TrunkRadio$State", "urgent", "[I", true)
  | 4 => ("TrunkRadio$State", "held", "[I", true)
  | 5 => ("TrunkRadio$State", "lost", "[I", true)
  | 6 => ("TrunkRadio$State", "tick", "I", false)
  | 7 => ("TrunkRadio$State", "began", "I", false)
  | 8 => ("TrunkRadio$State", "cut", "I", false)
  | _ => ("TrunkRadio$State", "gaveUp", "I", false)
def tyX4 : Nat → FieldType := fun k => match k with
  | 0 => .array .int
  | 1 => .array .int
  | 2 => .array .int
  | 3 => .array .int
  | 4 => .array .int
  | 5 => .array .int
  | 6 => .int
  | 7 => .int
  | 8 => .int
  | _ => .int
abbrev wsX40 : List Cond := u_ws RX4 TX4 10
theorem nmX4 : ∀ a, a < 10 → ∀ b, b < 10 → a ≠ b → (TX4 a).2.1 ≠ (TX4 b).2.1 := by decide +kernel
theorem tyX4_ok : ∀ k, k < 10 → parseFieldDescriptor (TX4 k).2.2.1 = some (tyX4 k) := by decide +kernel
abbrev cX4_init : ByteArray := prog_6_method_1_code
def yX4_init : MethodName := ⟨RX4, "<init>", "()V"⟩
abbrev cX4_begin : ByteArray := prog_6_method_2_code
def yX4_begin : MethodName := ⟨RX4, "begin", "(LTrunkRadio$Net;)V"⟩
abbrev cX4_copy : ByteArray := prog_6_method_3_code
def yX4_copy : MethodName := ⟨RX4, "copy", "(LTrunkRadio$State;)V"⟩
abbrev cX4_hasControl : ByteArray := prog_6_method_4_code
def yX4_hasControl : MethodName := ⟨RX4, "hasControl", "(I)Z"⟩
abbrev cX4_isOnAir : ByteArray := prog_6_method_5_code
def yX4_isOnAir : MethodName := ⟨RX4, "isOnAir", "(I)Z"⟩
abbrev cX4_enter : ByteArray := prog_6_method_6_code
def yX4_enter : MethodName := ⟨RX4, "enter", "(II)V"⟩
abbrev cX4_rest : ByteArray := prog_6_method_7_code
def yX4_rest : MethodName := ⟨RX4, "rest", "(I)V"⟩
abbrev cX4_pressIdle : ByteArray := prog_6_method_8_code
def yX4_pressIdle : MethodName := ⟨RX4, "pressIdle", "(LTrunkRadio$Net;I)V"⟩
abbrev cX4_idleOnes : ByteArray := prog_6_method_9_code
def yX4_idleOnes : MethodName := ⟨RX4, "idleOnes", "(LTrunkRadio$Net;)I"⟩
abbrev cX4_isAnyWaiting : ByteArray := prog_6_method_10_code
def yX4_isAnyWaiting : MethodName := ⟨RX4, "isAnyWaiting", "(LTrunkRadio$Net;)Z"⟩
abbrev cX4_free : ByteArray := prog_6_method_11_code
def yX4_free : MethodName := ⟨RX4, "free", "(LTrunkRadio$Net;I)I"⟩
abbrev cX4_fullSites : ByteArray := prog_6_method_12_code
def yX4_fullSites : MethodName := ⟨RX4, "fullSites", "(LTrunkRadio$Net;)I"⟩
abbrev cX4_talkerOf : ByteArray := prog_6_method_13_code
def yX4_talkerOf : MethodName := ⟨RX4, "talkerOf", "(LTrunkRadio$Net;I)I"⟩
def RX5 : String := "TrunkRadio"
def TX5 : u_T := fun k => match k with
  | 0 => ("TrunkRadio", "text", "LTrunkRadio$Reader;", true)
  | 1 => ("TrunkRadio", "told", "LTrunkRadio$Net;", true)
  | 2 => ("TrunkRadio", "trial", "LTrunkRadio$Net;", true)
  | 3 => ("TrunkRadio", "air", "LTrunkRadio$Air;", true)
  | 4 => ("TrunkRadio", "now", "LTrunkRadio$State;", true)
  | 5 => ("TrunkRadio", "future", "LTrunkRadio$State;", true)
  | 6 => ("TrunkRadio", "past", "LTrunkRadio$History;", true)
  | 7 => ("TrunkRadio", "images", "[LTrunkRadio$State;", true)
  | 8 => ("TrunkRadio", "imagesKept", "I", false)
  | 9 => ("TrunkRadio", "seenTicks", "[I", true)
  | 10 => ("TrunkRadio", "seenTalked", "[I", true)
  | 11 => ("TrunkRadio", "seen", "I", false)
  | _ => ("TrunkRadio", "timesByRank", "[I", true)
def tyX5 : Nat → FieldType := fun k => match k with
  | 0 => .object "TrunkRadio$Reader"
  | 1 => .object "TrunkRadio$Net"
  | 2 => .object "TrunkRadio$Net"
  | 3 => .object "TrunkRadio$Air"
  | 4 => .object "TrunkRadio$State"
  | 5 => .object "TrunkRadio$State"
  | 6 => .object "TrunkRadio$History"
  | 7 => .array (.object "TrunkRadio$State")
  | 8 => .int
  | 9 => .array .int
  | 10 => .array .int
  | 11 => .int
  | _ => .array .int
abbrev wsX50 : List Cond := u_ws RX5 TX5 13
theorem nmX5 : ∀ a, a < 13 → ∀ b, b < 13 → a ≠ b → (TX5 a).2.1 ≠ (TX5 b).2.1 := by decide +kernel
theorem tyX5_ok : ∀ k, k < 13 → parseFieldDescriptor (TX5 k).2.2.1 = some (tyX5 k) := by decide +kernel
abbrev cX5_init : ByteArray := prog_1_method_1_code
def yX5_init : MethodName := ⟨RX5, "<init>", "()V"⟩
abbrev cX5_type : ByteArray := prog_1_method_2_code
def yX5_type : MethodName := ⟨RX5, "type", "(I)I"⟩
abbrev cX5_clear : ByteArray := prog_1_method_3_code
def yX5_clear : MethodName := ⟨RX5, "clear", "()I"⟩
abbrev cX5_net : ByteArray := prog_1_method_4_code
def yX5_net : MethodName := ⟨RX5, "net", "()I"⟩
abbrev cX5_ticks : ByteArray := prog_1_method_5_code
def yX5_ticks : MethodName := ⟨RX5, "ticks", "(I)I"⟩
abbrev cX5_presses : ByteArray := prog_1_method_6_code
def yX5_presses : MethodName := ⟨RX5, "presses", "(II)I"⟩
abbrev cX5_releases : ByteArray := prog_1_method_7_code
def yX5_releases : MethodName := ⟨RX5, "releases", "(I)I"⟩
abbrev cX5_controls : ByteArray := prog_1_method_8_code
def yX5_controls : MethodName := ⟨RX5, "controls", "(II)I"⟩
abbrev cX5_moves : ByteArray := prog_1_method_9_code
def yX5_moves : MethodName := ⟨RX5, "moves", "(I)I"⟩
abbrev cX5_undo : ByteArray := prog_1_method_10_code
def yX5_undo : MethodName := ⟨RX5, "undo", "()I"⟩
abbrev cX5_radio : ByteArray := prog_1_method_11_code
def yX5_radio : MethodName := ⟨RX5, "radio", "(II)I"⟩
abbrev cX5_site : ByteArray := prog_1_method_12_code
def yX5_site : MethodName := ⟨RX5, "site", "(II)I"⟩
abbrev cX5_talker : ByteArray := prog_1_method_13_code
def yX5_talker : MethodName := ⟨RX5, "talker", "(I)I"⟩
abbrev cX5_queue : ByteArray := prog_1_method_14_code
def yX5_queue : MethodName := ⟨RX5, "queue", "(I)I"⟩
abbrev cX5_soon : ByteArray := prog_1_method_15_code
def yX5_soon : MethodName := ⟨RX5, "soon", "(I)I"⟩
abbrev cX5_within : ByteArray := prog_1_method_16_code
def yX5_within : MethodName := ⟨RX5, "within", "(II)I"⟩
abbrev cX5_wave : ByteArray := prog_1_method_17_code
def yX5_wave : MethodName := ⟨RX5, "wave", "(II)I"⟩
abbrev cX5_odds : ByteArray := prog_1_method_18_code
def yX5_odds : MethodName := ⟨RX5, "odds", "(IIII)I"⟩
abbrev cX5_sees : ByteArray := prog_1_method_19_code
def yX5_sees : MethodName := ⟨RX5, "sees", "(II)I"⟩
abbrev cX5_forget : ByteArray := prog_1_method_20_code
def yX5_forget : MethodName := ⟨RX5, "forget", "()I"⟩
abbrev cX5_ranks : ByteArray := prog_1_method_21_code
def yX5_ranks : MethodName := ⟨RX5, "ranks", "(I)I"⟩
abbrev cX5_look : ByteArray := prog_1_method_22_code
def yX5_look : MethodName := ⟨RX5, "look", "(I)I"⟩
abbrev cX5_keep : ByteArray := prog_1_method_23_code
def yX5_keep : MethodName := ⟨RX5, "keep", "(I)I"⟩
abbrev cX5_back : ByteArray := prog_1_method_24_code
def yX5_back : MethodName := ⟨RX5, "back", "(I)I"⟩
abbrev cX5_count : ByteArray := prog_1_method_25_code
def yX5_count : MethodName := ⟨RX5, "count", "(I)I"⟩
abbrev cX5_isSite : ByteArray := prog_1_method_26_code
def yX5_isSite : MethodName := ⟨RX5, "isSite", "(I)Z"⟩
abbrev cX5_isBit : ByteArray := prog_1_method_27_code
def yX5_isBit : MethodName := ⟨RX5, "isBit", "(I)Z"⟩
abbrev cX5_waveLasts : ByteArray := prog_1_method_28_code
def yX5_waveLasts : MethodName := ⟨RX5, "waveLasts", "(I)I"⟩
abbrev cX5_isEnough : ByteArray := prog_1_method_29_code
def yX5_isEnough : MethodName := ⟨RX5, "isEnough", "(I)Z"⟩
abbrev cX5_talksAmong : ByteArray := prog_1_method_30_code
def yX5_talksAmong : MethodName := ⟨RX5, "talksAmong", "(III)Z"⟩
abbrev cX5_power : ByteArray := prog_1_method_31_code
def yX5_power : MethodName := ⟨RX5, "power", "(II)I"⟩
abbrev cX5_commonDivisor : ByteArray := prog_1_method_32_code
def yX5_commonDivisor : MethodName := ⟨RX5, "commonDivisor", "(II)I"⟩
abbrev cX5_ranksThatFit : ByteArray := prog_1_method_33_code
def yX5_ranksThatFit : MethodName := ⟨RX5, "ranksThatFit", "(I)I"⟩
abbrev cX5_timesOnAir : ByteArray := prog_1_method_34_code
def yX5_timesOnAir : MethodName := ⟨RX5, "timesOnAir", "(I)I"⟩
abbrev cX5_agreesWithSeen : ByteArray := prog_1_method_35_code
def yX5_agreesWithSeen : MethodName := ⟨RX5, "agreesWithSeen", "(I)Z"⟩
abbrev cX5_ranksOnAir : ByteArray := prog_1_method_36_code
def yX5_ranksOnAir : MethodName := ⟨RX5, "ranksOnAir", "(II)I"⟩
def RX6 : String := "TrunkRadioModel"
def TX6 : u_T := fun k => match k with
  | 0 => ("TrunkRadioModel", "thrown", "I", false)
  | 1 => ("TrunkRadioModel", "text", "[I", true)
  | 2 => ("TrunkRadioModel", "typed", "I", false)
  | 3 => ("TrunkRadioModel", "spot", "I", false)
  | 4 => ("TrunkRadioModel", "token", "I", false)
  | 5 => ("TrunkRadioModel", "place", "I", false)
  | 6 => ("TrunkRadioModel", "value", "I", false)
  | 7 => ("TrunkRadioModel", "fault", "I", false)
  | 8 => ("TrunkRadioModel", "met", "I", false)
  | 9 => ("TrunkRadioModel", "told", "[I", true)
  | 10 => ("TrunkRadioModel", "draft", "[I", true)
  | 11 => ("TrunkRadioModel", "draftNow", "[I", true)
  | 12 => ("TrunkRadioModel", "s", "[I", true)
  | 13 => ("TrunkRadioModel", "w", "[I", true)
  | 14 => ("TrunkRadioModel", "undos", "[I", true)
  | 15 => ("TrunkRadioModel", "undoMany", "I", false)
  | 16 => ("TrunkRadioModel", "kept", "[I", true)
  | 17 => ("TrunkRadioModel", "isKept", "[Z", true)
  | 18 => ("TrunkRadioModel", "seenIn", "[I", true)
  | 19 => ("TrunkRadioModel", "seenIs", "[I", true)
  | 20 => ("TrunkRadioModel", "seenMany", "I", false)
  | 21 => ("TrunkRadioModel", "line", "[I", true)
  | 22 => ("TrunkRadioModel", "lineMany", "I", false)
  | 23 => ("TrunkRadioModel", "was", "[I", true)
  | _ => ("TrunkRadioModel", "by", "[I", true)
def tyX6 : Nat → FieldType := fun k => match k with
  | 0 => .int
  | 1 => .array .int
  | 2 => .int
  | 3 => .int
  | 4 => .int
  | 5 => .int
  | 6 => .int
  | 7 => .int
  | 8 => .int
  | 9 => .array .int
  | 10 => .array .int
  | 11 => .array .int
  | 12 => .array .int
  | 13 => .array .int
  | 14 => .array .int
  | 15 => .int
  | 16 => .array .int
  | 17 => .array .boolean
  | 18 => .array .int
  | 19 => .array .int
  | 20 => .int
  | 21 => .array .int
  | 22 => .int
  | 23 => .array .int
  | _ => .array .int
abbrev wsX60 : List Cond := u_ws RX6 TX6 25
theorem nmX6 : ∀ a, a < 25 → ∀ b, b < 25 → a ≠ b → (TX6 a).2.1 ≠ (TX6 b).2.1 := by decide +kernel
theorem tyX6_ok : ∀ k, k < 25 → parseFieldDescriptor (TX6 k).2.2.1 = some (tyX6 k) := by decide +kernel
abbrev cX6_init : ByteArray := prog_8_method_1_code
def yX6_init : MethodName := ⟨RX6, "<init>", "()V"⟩
abbrev cX6_in : ByteArray := prog_8_method_3_code
def yX6_in : MethodName := ⟨RX6, "in", "(III)Z"⟩
abbrev cX6_has : ByteArray := prog_8_method_4_code
def yX6_has : MethodName := ⟨RX6, "has", "(II)Z"⟩
abbrev cX6_type : ByteArray := prog_8_method_5_code
def yX6_type : MethodName := ⟨RX6, "type", "(I)I"⟩
abbrev cX6_clear : ByteArray := prog_8_method_6_code
def yX6_clear : MethodName := ⟨RX6, "clear", "()I"⟩
abbrev cX6_letterAt : ByteArray := prog_8_method_7_code
def yX6_letterAt : MethodName := ⟨RX6, "letterAt", "(I)I"⟩
abbrev cX6_advances : ByteArray := prog_8_method_8_code
def yX6_advances : MethodName := ⟨RX6, "advances", "()V"⟩
abbrev cX6_isWell : ByteArray := prog_8_method_9_code
def yX6_isWell : MethodName := ⟨RX6, "isWell", "()Z"⟩
abbrev cX6_takes : ByteArray := prog_8_method_10_code
def yX6_takes : MethodName := ⟨RX6, "takes", "(Z)I"⟩
abbrev cX6_number : ByteArray := prog_8_method_11_code
def yX6_number : MethodName := ⟨RX6, "number", "(II)I"⟩
abbrev cX6_begins : ByteArray := prog_8_method_12_code
def yX6_begins : MethodName := ⟨RX6, "begins", "()V"⟩
abbrev cX6_bitOf : ByteArray := prog_8_method_13_code
def yX6_bitOf : MethodName := ⟨RX6, "bitOf", "(I)I"⟩
abbrev cX6_mayBegin : ByteArray := prog_8_method_14_code
def yX6_mayBegin : MethodName := ⟨RX6, "mayBegin", "()Z"⟩
abbrev cX6_readsItem : ByteArray := prog_8_method_15_code
def yX6_readsItem : MethodName := ⟨RX6, "readsItem", "(I)V"⟩
abbrev cX6_net : ByteArray := prog_8_method_16_code
def yX6_net : MethodName := ⟨RX6, "net", "()I"⟩
abbrev cX6_settles : ByteArray := prog_8_method_17_code
def yX6_settles : MethodName := ⟨RX6, "settles", "()V"⟩
abbrev cX6_copies : ByteArray := prog_8_method_18_code
def yX6_copies : MethodName := ⟨RX6, "copies", "([I[I)V"⟩
abbrev cX6_isRadio : ByteArray := prog_8_method_19_code
def yX6_isRadio : MethodName := ⟨RX6, "isRadio", "(I)Z"⟩
abbrev cX6_rests : ByteArray := prog_8_method_20_code
def yX6_rests : MethodName := ⟨RX6, "rests", "([II)V"⟩
abbrev cX6_becomes : ByteArray := prog_8_method_21_code
def yX6_becomes : MethodName := ⟨RX6, "becomes", "([IIII)V"⟩
abbrev cX6_isSentAt : ByteArray := prog_8_method_22_code
def yX6_isSentAt : MethodName := ⟨RX6, "isSentAt", "([III)Z"⟩
abbrev cX6_heardAt : ByteArray := prog_8_method_23_code
def yX6_heardAt : MethodName := ⟨RX6, "heardAt", "([II)I"⟩
abbrev cX6_controls2 : ByteArray := prog_8_method_24_code
def yX6_controls2 : MethodName := ⟨RX6, "controls2", "([II)V"⟩
abbrev cX6_helpsItself : ByteArray := prog_8_method_25_code
def yX6_helpsItself : MethodName := ⟨RX6, "helpsItself", "([II)V"⟩
abbrev cX6_freeAt : ByteArray := prog_8_method_26_code
def yX6_freeAt : MethodName := ⟨RX6, "freeAt", "([II)I"⟩
abbrev cX6_talkerOf : ByteArray := prog_8_method_27_code
def yX6_talkerOf : MethodName := ⟨RX6, "talkerOf", "([II)I"⟩
abbrev cX6_isAhead : ByteArray := prog_8_method_28_code
def yX6_isAhead : MethodName := ⟨RX6, "isAhead", "([III)Z"⟩
abbrev cX6_lines : ByteArray := prog_8_method_29_code
def yX6_lines : MethodName := ⟨RX6, "lines", "([I)V"⟩
abbrev cX6_neededBy : ByteArray := prog_8_method_30_code
def yX6_neededBy : MethodName := ⟨RX6, "neededBy", "([II)I"⟩
abbrev cX6_leastAt : ByteArray := prog_8_method_31_code
def yX6_leastAt : MethodName := ⟨RX6, "leastAt", "([II)I"⟩
abbrev cX6_isFree : ByteArray := prog_8_method_32_code
def yX6_isFree : MethodName := ⟨RX6, "isFree", "([II)Z"⟩
abbrev cX6_takesOver : ByteArray := prog_8_method_33_code
def yX6_takesOver : MethodName := ⟨RX6, "takesOver", "([II)V"⟩
abbrev cX6_serves : ByteArray := prog_8_method_34_code
def yX6_serves : MethodName := ⟨RX6, "serves", "([II)V"⟩
abbrev cX6_goes : ByteArray := prog_8_method_35_code
def yX6_goes : MethodName := ⟨RX6, "goes", "([I)V"⟩
abbrev cX6_isOn : ByteArray := prog_8_method_36_code
def yX6_isOn : MethodName := ⟨RX6, "isOn", "([II)Z"⟩
abbrev cX6_notes : ByteArray := prog_8_method_37_code
def yX6_notes : MethodName := ⟨RX6, "notes", "()V"⟩
abbrev cX6_ticks : ByteArray := prog_8_method_38_code
def yX6_ticks : MethodName := ⟨RX6, "ticks", "(I)I"⟩
abbrev cX6_presses : ByteArray := prog_8_method_39_code
def yX6_presses : MethodName := ⟨RX6, "presses", "(II)I"⟩
abbrev cX6_releases : ByteArray := prog_8_method_40_code
def yX6_releases : MethodName := ⟨RX6, "releases", "(I)I"⟩
abbrev cX6_controls : ByteArray := prog_8_method_41_code
def yX6_controls : MethodName := ⟨RX6, "controls", "(II)I"⟩
abbrev cX6_moves : ByteArray := prog_8_method_42_code
def yX6_moves : MethodName := ⟨RX6, "moves", "(I)I"⟩
abbrev cX6_undo : ByteArray := prog_8_method_43_code
def yX6_undo : MethodName := ⟨RX6, "undo", "()I"⟩
abbrev cX6_radio : ByteArray := prog_8_method_44_code
def yX6_radio : MethodName := ⟨RX6, "radio", "(II)I"⟩
abbrev cX6_site : ByteArray := prog_8_method_45_code
def yX6_site : MethodName := ⟨RX6, "site", "(II)I"⟩
abbrev cX6_talker : ByteArray := prog_8_method_46_code
def yX6_talker : MethodName := ⟨RX6, "talker", "(I)I"⟩
abbrev cX6_queue : ByteArray := prog_8_method_47_code
def yX6_queue : MethodName := ⟨RX6, "queue", "(I)I"⟩
abbrev cX6_soon : ByteArray := prog_8_method_48_code
def yX6_soon : MethodName := ⟨RX6, "soon", "(I)I"⟩
abbrev cX6_within : ByteArray := prog_8_method_49_code
def yX6_within : MethodName := ⟨RX6, "within", "(II)I"⟩
abbrev cX6_presses2 : ByteArray := prog_8_method_50_code
def yX6_presses2 : MethodName := ⟨RX6, "presses2", "(I)V"⟩
abbrev cX6_lasts : ByteArray := prog_8_method_51_code
def yX6_lasts : MethodName := ⟨RX6, "lasts", "()I"⟩
abbrev cX6_enough : ByteArray := prog_8_method_52_code
def yX6_enough : MethodName := ⟨RX6, "enough", "(I)I"⟩
abbrev cX6_wave : ByteArray := prog_8_method_53_code
def yX6_wave : MethodName := ⟨RX6, "wave", "(II)I"⟩
abbrev cX6_gcd : ByteArray := prog_8_method_54_code
def yX6_gcd : MethodName := ⟨RX6, "gcd", "(II)I"⟩
abbrev cX6_odds : ByteArray := prog_8_method_55_code
def yX6_odds : MethodName := ⟨RX6, "odds", "(IIII)I"⟩
abbrev cX6_sees : ByteArray := prog_8_method_56_code
def yX6_sees : MethodName := ⟨RX6, "sees", "(II)I"⟩
abbrev cX6_forget : ByteArray := prog_8_method_57_code
def yX6_forget : MethodName := ⟨RX6, "forget", "()I"⟩
abbrev cX6_onBy : ByteArray := prog_8_method_58_code
def yX6_onBy : MethodName := ⟨RX6, "onBy", "(II)I"⟩
abbrev cX6_isAsSeen : ByteArray := prog_8_method_59_code
def yX6_isAsSeen : MethodName := ⟨RX6, "isAsSeen", "(I)Z"⟩
abbrev cX6_ranks : ByteArray := prog_8_method_60_code
def yX6_ranks : MethodName := ⟨RX6, "ranks", "(I)I"⟩
abbrev cX6_look : ByteArray := prog_8_method_61_code
def yX6_look : MethodName := ⟨RX6, "look", "(I)I"⟩
abbrev cX6_keep : ByteArray := prog_8_method_62_code
def yX6_keep : MethodName := ⟨RX6, "keep", "(I)I"⟩
abbrev cX6_back : ByteArray := prog_8_method_63_code
def yX6_back : MethodName := ⟨RX6, "back", "(I)I"⟩
abbrev cX6_count : ByteArray := prog_8_method_64_code
def yX6_count : MethodName := ⟨RX6, "count", "(I)I"⟩
def RJ6 : String := "java/lang/Integer"
def TJ6 : u_T := fun k => match k with
  | _ => ("", "", "", false)
def tyJ6 : Nat → FieldType := fun k => match k with
  | _ => .int
abbrev wsJ60 : List Cond := u_ws RJ6 TJ6 0
theorem nmJ6 : ∀ a, a < 0 → ∀ b, b < 0 → a ≠ b → (TJ6 a).2.1 ≠ (TJ6 b).2.1 := by decide +kernel
theorem tyJ6_ok : ∀ k, k < 0 → parseFieldDescriptor (TJ6 k).2.2.1 = some (tyJ6 k) := by decide +kernel
abbrev cJ6_bitCount_0f7a4 : ByteArray := prog_9_method_49_code
def yJ6_bitCount_0f7a4 : MethodName := ⟨RJ6, "bitCount", "(I)I"⟩
def RJ9 : String := "java/lang/Math"
def TJ9 : u_T := fun k => match k with
  | _ => ("", "", "", false)
def tyJ9 : Nat → FieldType := fun k => match k with
  | _ => .int
abbrev wsJ90 : List Cond := u_ws RJ9 TJ9 0
theorem nmJ9 : ∀ a, a < 0 → ∀ b, b < 0 → a ≠ b → (TJ9 a).2.1 ≠ (TJ9 b).2.1 := by decide +kernel
theorem tyJ9_ok : ∀ k, k < 0 → parseFieldDescriptor (TJ9 k).2.2.1 = some (tyJ9 k) := by decide +kernel
abbrev cJ9_max_7cf53 : ByteArray := prog_10_method_65_code
def yJ9_max_7cf53 : MethodName := ⟨RJ9, "max", "(II)I"⟩
abbrev cJ9_min_7cf53 : ByteArray := prog_10_method_69_code
def yJ9_min_7cf53 : MethodName := ⟨RJ9, "min", "(II)I"⟩
def RJ10 : String := "java/lang/System"
def TJ10 : u_T := fun k => match k with
  | _ => ("", "", "", false)
def tyJ10 : Nat → FieldType := fun k => match k with
  | _ => .int
abbrev wsJ100 : List Cond := u_ws RJ10 TJ10 0
theorem nmJ10 : ∀ a, a < 0 → ∀ b, b < 0 → a ≠ b → (TJ10 a).2.1 ≠ (TJ10 b).2.1 := by decide +kernel
theorem tyJ10_ok : ∀ k, k < 0 → parseFieldDescriptor (TJ10 k).2.2.1 = some (tyJ10 k) := by decide +kernel
def RL : String := "TrunkRadioLaw"
abbrev cL_law : ByteArray := code
def yL_law : MethodName := ⟨RL, "law", "([I)Z"⟩
abbrev vwCl : List vw_C := [(RX0, TX0, 2), (RX1, TX1, 3), (RX2, TX2, 7), (RX3, TX3, 9), (RX4, TX4, 10), (RX5, TX5, 13), (RX6, TX6, 25)]
/-! ===== END printed: names ===== -/
end
section
/-! the words of the tables that are good, one by one -/
def TW : List Cond := lw_tbl.filter goodWord
theorem TW_good : ∀ w ∈ TW, goodWord w = true := fun _ h => (List.mem_filter.mp h).2
theorem TW_tbl : ∀ w ∈ TW, w ∈ lw_tbl := fun _ h => (List.mem_filter.mp h).1
theorem TW_t {w : Cond} (i : Nat) (h : tables_1[i]? = some w) (g : goodWord w = true) : w ∈ TW := List.mem_filter.mpr ⟨List.mem_append_right _ (List.mem_of_getElem? h), g⟩
theorem TW_p {w : Cond} (i : Nat) (h : (k2_sels lw_privs)[i]? = some w) (g : goodWord w = true) : w ∈ TW := List.mem_filter.mpr ⟨List.mem_append_left _ (List.mem_of_getElem? h), g⟩
theorem wd_0 : Cond.initialized RL ∈ TW := TW_t 0 (by decide +kernel) rfl
theorem wd_1 : Cond.initialized RX5 ∈ TW := TW_t 1 (by decide +kernel) rfl
theorem wd_2 : Cond.initialized RX3 ∈ TW := TW_t 2 (by decide +kernel) rfl
theorem wd_3 : Cond.initialized RX2 ∈ TW := TW_t 3 (by decide +kernel) rfl
theorem wd_4 : Cond.initialized RX0 ∈ TW := TW_t 4 (by decide +kernel) rfl
theorem wd_5 : Cond.initialized RX4 ∈ TW := TW_t 5 (by decide +kernel) rfl
theorem wd_6 : Cond.initialized RX1 ∈ TW := TW_t 6 (by decide +kernel) rfl
theorem wd_7 : Cond.initialized RX6 ∈ TW := TW_t 7 (by decide +kernel) rfl
theorem wd_8 : Cond.initialized RJ9 ∈ TW := TW_t 8 (by decide +kernel) rfl
theorem wd_9 : Cond.initialized RJ10 ∈ TW := TW_t 9 (by decide +kernel) rfl
theorem wd_10 : Cond.initialized RJ6 ∈ TW := TW_t 10 (by decide +kernel) rfl
theorem wd_11 : Cond.classLink RL 7 RX5 ∈ TW := TW_t 11 (by decide +kernel) rfl
theorem wd_12 : Cond.instantiable RX5 13 ∈ TW := TW_t 12 (by decide +kernel) rfl
theorem wd_13 : Cond.methodLink RL 9 yX5_init ∈ TW := TW_t 13 (by decide +kernel) rfl
theorem wd_14 : Cond.instanceMethod yX5_init ∈ TW := TW_t 14 (by decide +kernel) rfl
set_option maxRecDepth 20000 in
theorem wd_15 : Cond.code yX5_init cX5_init 2 none ∈ TW := TW_t 15 rfl rfl
theorem wd_16 : Cond.methodLink RX5 1 objectInit ∈ TW := TW_t 16 (by decide +kernel) rfl
theorem wd_17 : Cond.instanceMethod objectInit ∈ TW := TW_t 17 (by decide +kernel) rfl
set_option maxRecDepth 20000 in
theorem wd_18 : Cond.code objectInit ⟨#[0xb1]⟩ 1 none ∈ TW := TW_t 18 rfl rfl
theorem wd_19 : Cond.classLink RX5 7 RX3 ∈ TW := TW_t 19 (by decide +kernel) rfl
theorem wd_20 : Cond.instantiable RX3 9 ∈ TW := TW_t 20 (by decide +kernel) rfl
theorem wd_21 : Cond.methodLink RX5 9 yX3_init ∈ TW := TW_t 21 (by decide +kernel) rfl
theorem wd_22 : Cond.instanceMethod yX3_init ∈ TW := TW_t 22 (by decide +kernel) rfl
set_option maxRecDepth 20000 in
theorem wd_23 : Cond.code yX3_init cX3_init 1 none ∈ TW := TW_t 23 rfl rfl
theorem wd_24 : Cond.methodLink RX3 3 objectInit ∈ TW := TW_t 24 (by decide +kernel) rfl
theorem wd_25 : Cond.fieldLink RX3 15 "TrunkRadio$Reader" "length" "I" ∈ TW := TW_t 25 (by decide +kernel) rfl
theorem wd_26 : Cond.fieldLink RX5 68 "TrunkRadio$Reader" "length" "I" ∈ TW := TW_t 26 (by decide +kernel) rfl
theorem wd_27 : Cond.fieldLink RX3 9 "TrunkRadio$Reader" "letters" "[I" ∈ TW := TW_t 27 (by decide +kernel) rfl
theorem wd_28 : Cond.fieldLink RX3 24 "TrunkRadio$Reader" "at" "I" ∈ TW := TW_t 28 (by decide +kernel) rfl
theorem wd_29 : Cond.fieldLink RX3 47 "TrunkRadio$Reader" "start" "I" ∈ TW := TW_t 29 (by decide +kernel) rfl
theorem wd_30 : Cond.fieldLink RX3 40 "TrunkRadio$Reader" "kind" "I" ∈ TW := TW_t 30 (by decide +kernel) rfl
theorem wd_31 : Cond.fieldLink RX3 61 "TrunkRadio$Reader" "value" "I" ∈ TW := TW_t 31 (by decide +kernel) rfl
theorem wd_32 : Cond.fieldLink RX3 27 "TrunkRadio$Reader" "channelsTold" "Z" ∈ TW := TW_t 32 (by decide +kernel) rfl
theorem wd_33 : Cond.fieldLink RX3 31 "TrunkRadio$Reader" "airTold" "Z" ∈ TW := TW_t 33 (by decide +kernel) rfl
theorem wd_34 : Cond.fieldLink RX3 34 "TrunkRadio$Reader" "patienceTold" "Z" ∈ TW := TW_t 34 (by decide +kernel) rfl
theorem wd_35 : Cond.lays RX3 "TrunkRadio$Reader" "length" "I" ∈ TW := TW_t 35 (by decide +kernel) rfl
theorem wd_37 : Cond.laysFinal RX3 "TrunkRadio$Reader" "letters" "[I" ∈ TW := TW_t 37 (by decide +kernel) rfl
theorem wd_39 : Cond.lays RX3 "TrunkRadio$Reader" "at" "I" ∈ TW := TW_t 39 (by decide +kernel) rfl
theorem wd_41 : Cond.lays RX3 "TrunkRadio$Reader" "start" "I" ∈ TW := TW_t 41 (by decide +kernel) rfl
theorem wd_43 : Cond.lays RX3 "TrunkRadio$Reader" "kind" "I" ∈ TW := TW_t 43 (by decide +kernel) rfl
theorem wd_45 : Cond.lays RX3 "TrunkRadio$Reader" "value" "I" ∈ TW := TW_t 45 (by decide +kernel) rfl
theorem wd_47 : Cond.lays RX3 "TrunkRadio$Reader" "channelsTold" "Z" ∈ TW := TW_t 47 (by decide +kernel) rfl
theorem wd_49 : Cond.lays RX3 "TrunkRadio$Reader" "airTold" "Z" ∈ TW := TW_t 49 (by decide +kernel) rfl
theorem wd_51 : Cond.lays RX3 "TrunkRadio$Reader" "patienceTold" "Z" ∈ TW := TW_t 51 (by decide +kernel) rfl
theorem wd_54 : Cond.arrayClass .int ∈ TW := TW_t 54 (by decide +kernel) rfl
theorem wd_55 : Cond.classLink RX5 16 RX2 ∈ TW := TW_t 55 (by decide +kernel) rfl
theorem wd_56 : Cond.instantiable RX2 7 ∈ TW := TW_t 56 (by decide +kernel) rfl
theorem wd_57 : Cond.methodLink RX5 18 yX2_init ∈ TW := TW_t 57 (by decide +kernel) rfl
theorem wd_58 : Cond.instanceMethod yX2_init ∈ TW := TW_t 58 (by decide +kernel) rfl
set_option maxRecDepth 20000 in
theorem wd_59 : Cond.code yX2_init cX2_init 1 none ∈ TW := TW_t 59 rfl rfl
theorem wd_60 : Cond.methodLink RX2 3 objectInit ∈ TW := TW_t 60 (by decide +kernel) rfl
theorem wd_61 : Cond.methodLink RX2 24 yX2_beginAnew ∈ TW := TW_t 61 (by decide +kernel) rfl
theorem wd_62 : Cond.instanceMethod yX2_beginAnew ∈ TW := TW_t 62 (by decide +kernel) rfl
theorem wd_63 : Cond.selects RX2 yX2_beginAnew yX2_beginAnew ∈ TW := TW_t 63 (by decide +kernel) rfl
set_option maxRecDepth 20000 in
theorem wd_64 : Cond.code yX2_beginAnew cX2_beginAnew 1 none ∈ TW := TW_t 64 rfl rfl
theorem wd_65 : Cond.fieldLink RX2 27 "TrunkRadio$Net" "radios" "I" ∈ TW := TW_t 65 (by decide +kernel) rfl
theorem wd_66 : Cond.fieldLink RX0 77 "TrunkRadio$Net" "radios" "I" ∈ TW := TW_t 66 (by decide +kernel) rfl
theorem wd_67 : Cond.fieldLink RX5 107 "TrunkRadio$Net" "radios" "I" ∈ TW := TW_t 67 (by decide +kernel) rfl
theorem wd_68 : Cond.fieldLink RX4 62 "TrunkRadio$Net" "radios" "I" ∈ TW := TW_t 68 (by decide +kernel) rfl
theorem wd_69 : Cond.fieldLink RX3 83 "TrunkRadio$Net" "radios" "I" ∈ TW := TW_t 69 (by decide +kernel) rfl
theorem wd_70 : Cond.fieldLink RX2 31 "TrunkRadio$Net" "air" "I" ∈ TW := TW_t 70 (by decide +kernel) rfl
theorem wd_71 : Cond.fieldLink RX0 112 "TrunkRadio$Net" "air" "I" ∈ TW := TW_t 71 (by decide +kernel) rfl
theorem wd_72 : Cond.fieldLink RX3 96 "TrunkRadio$Net" "air" "I" ∈ TW := TW_t 72 (by decide +kernel) rfl
theorem wd_73 : Cond.fieldLink RX5 229 "TrunkRadio$Net" "air" "I" ∈ TW := TW_t 73 (by decide +kernel) rfl
theorem wd_74 : Cond.fieldLink RX2 34 "TrunkRadio$Net" "patience" "I" ∈ TW := TW_t 74 (by decide +kernel) rfl
theorem wd_75 : Cond.fieldLink RX3 99 "TrunkRadio$Net" "patience" "I" ∈ TW := TW_t 75 (by decide +kernel) rfl
theorem wd_76 : Cond.fieldLink RX0 149 "TrunkRadio$Net" "patience" "I" ∈ TW := TW_t 76 (by decide +kernel) rfl
theorem wd_77 : Cond.fieldLink RX5 231 "TrunkRadio$Net" "patience" "I" ∈ TW := TW_t 77 (by decide +kernel) rfl
theorem wd_78 : Cond.fieldLink RX2 9 "TrunkRadio$Net" "channels" "[I" ∈ TW := TW_t 78 (by decide +kernel) rfl
theorem wd_79 : Cond.fieldLink RX0 103 "TrunkRadio$Net" "channels" "[I" ∈ TW := TW_t 79 (by decide +kernel) rfl
theorem wd_80 : Cond.fieldLink RX4 65 "TrunkRadio$Net" "channels" "[I" ∈ TW := TW_t 80 (by decide +kernel) rfl
theorem wd_81 : Cond.fieldLink RX3 93 "TrunkRadio$Net" "channels" "[I" ∈ TW := TW_t 81 (by decide +kernel) rfl
theorem wd_82 : Cond.fieldLink RX5 164 "TrunkRadio$Net" "channels" "[I" ∈ TW := TW_t 82 (by decide +kernel) rfl
theorem wd_83 : Cond.fieldLink RX2 15 "TrunkRadio$Net" "firstSite" "[I" ∈ TW := TW_t 83 (by decide +kernel) rfl
theorem wd_84 : Cond.fieldLink RX4 30 "TrunkRadio$Net" "firstSite" "[I" ∈ TW := TW_t 84 (by decide +kernel) rfl
theorem wd_85 : Cond.fieldLink RX3 102 "TrunkRadio$Net" "firstSite" "[I" ∈ TW := TW_t 85 (by decide +kernel) rfl
theorem wd_86 : Cond.fieldLink RX2 18 "TrunkRadio$Net" "group" "[I" ∈ TW := TW_t 86 (by decide +kernel) rfl
theorem wd_87 : Cond.fieldLink RX0 109 "TrunkRadio$Net" "group" "[I" ∈ TW := TW_t 87 (by decide +kernel) rfl
theorem wd_88 : Cond.fieldLink RX5 152 "TrunkRadio$Net" "group" "[I" ∈ TW := TW_t 88 (by decide +kernel) rfl
theorem wd_89 : Cond.fieldLink RX4 68 "TrunkRadio$Net" "group" "[I" ∈ TW := TW_t 89 (by decide +kernel) rfl
theorem wd_90 : Cond.fieldLink RX3 105 "TrunkRadio$Net" "group" "[I" ∈ TW := TW_t 90 (by decide +kernel) rfl
theorem wd_91 : Cond.fieldLink RX2 21 "TrunkRadio$Net" "rank" "[I" ∈ TW := TW_t 91 (by decide +kernel) rfl
theorem wd_92 : Cond.fieldLink RX0 126 "TrunkRadio$Net" "rank" "[I" ∈ TW := TW_t 92 (by decide +kernel) rfl
theorem wd_93 : Cond.fieldLink RX5 155 "TrunkRadio$Net" "rank" "[I" ∈ TW := TW_t 93 (by decide +kernel) rfl
theorem wd_94 : Cond.fieldLink RX3 108 "TrunkRadio$Net" "rank" "[I" ∈ TW := TW_t 94 (by decide +kernel) rfl
theorem wd_95 : Cond.lays RX2 "TrunkRadio$Net" "radios" "I" ∈ TW := TW_t 95 (by decide +kernel) rfl
theorem wd_97 : Cond.lays RX2 "TrunkRadio$Net" "air" "I" ∈ TW := TW_t 97 (by decide +kernel) rfl
theorem wd_99 : Cond.lays RX2 "TrunkRadio$Net" "patience" "I" ∈ TW := TW_t 99 (by decide +kernel) rfl
theorem wd_101 : Cond.laysFinal RX2 "TrunkRadio$Net" "channels" "[I" ∈ TW := TW_t 101 (by decide +kernel) rfl
theorem wd_103 : Cond.laysFinal RX2 "TrunkRadio$Net" "firstSite" "[I" ∈ TW := TW_t 103 (by decide +kernel) rfl
theorem wd_105 : Cond.laysFinal RX2 "TrunkRadio$Net" "group" "[I" ∈ TW := TW_t 105 (by decide +kernel) rfl
theorem wd_107 : Cond.laysFinal RX2 "TrunkRadio$Net" "rank" "[I" ∈ TW := TW_t 107 (by decide +kernel) rfl
theorem wd_110 : Cond.classLink RX5 26 RX0 ∈ TW := TW_t 110 (by decide +kernel) rfl
theorem wd_111 : Cond.instantiable RX0 2 ∈ TW := TW_t 111 (by decide +kernel) rfl
theorem wd_112 : Cond.methodLink RX5 28 yX0_init ∈ TW := TW_t 112 (by decide +kernel) rfl
theorem wd_113 : Cond.instanceMethod yX0_init ∈ TW := TW_t 113 (by decide +kernel) rfl
set_option maxRecDepth 20000 in
theorem wd_114 : Cond.code yX0_init cX0_init 1 none ∈ TW := TW_t 114 rfl rfl
theorem wd_115 : Cond.methodLink RX0 3 objectInit ∈ TW := TW_t 115 (by decide +kernel) rfl
theorem wd_116 : Cond.fieldLink RX0 9 "TrunkRadio$Air" "line" "[I" ∈ TW := TW_t 116 (by decide +kernel) rfl
theorem wd_117 : Cond.fieldLink RX5 178 "TrunkRadio$Air" "line" "[I" ∈ TW := TW_t 117 (by decide +kernel) rfl
theorem wd_118 : Cond.fieldLink RX0 15 "TrunkRadio$Air" "was" "[I" ∈ TW := TW_t 118 (by decide +kernel) rfl
theorem wd_119 : Cond.laysFinal RX0 "TrunkRadio$Air" "line" "[I" ∈ TW := TW_t 119 (by decide +kernel) rfl
theorem wd_121 : Cond.laysFinal RX0 "TrunkRadio$Air" "was" "[I" ∈ TW := TW_t 121 (by decide +kernel) rfl
theorem wd_124 : Cond.classLink RX5 33 RX4 ∈ TW := TW_t 124 (by decide +kernel) rfl
theorem wd_125 : Cond.instantiable RX4 10 ∈ TW := TW_t 125 (by decide +kernel) rfl
theorem wd_126 : Cond.methodLink RX5 35 yX4_init ∈ TW := TW_t 126 (by decide +kernel) rfl
theorem wd_127 : Cond.instanceMethod yX4_init ∈ TW := TW_t 127 (by decide +kernel) rfl
set_option maxRecDepth 20000 in
theorem wd_128 : Cond.code yX4_init cX4_init 1 none ∈ TW := TW_t 128 rfl rfl
theorem wd_129 : Cond.methodLink RX4 3 objectInit ∈ TW := TW_t 129 (by decide +kernel) rfl
theorem wd_130 : Cond.fieldLink RX4 9 "TrunkRadio$State" "site" "[I" ∈ TW := TW_t 130 (by decide +kernel) rfl
theorem wd_131 : Cond.fieldLink RX0 70 "TrunkRadio$State" "site" "[I" ∈ TW := TW_t 131 (by decide +kernel) rfl
theorem wd_132 : Cond.fieldLink RX5 129 "TrunkRadio$State" "site" "[I" ∈ TW := TW_t 132 (by decide +kernel) rfl
theorem wd_133 : Cond.fieldLink RX4 15 "TrunkRadio$State" "how" "[I" ∈ TW := TW_t 133 (by decide +kernel) rfl
theorem wd_134 : Cond.fieldLink RX0 18 "TrunkRadio$State" "how" "[I" ∈ TW := TW_t 134 (by decide +kernel) rfl
theorem wd_135 : Cond.fieldLink RX5 119 "TrunkRadio$State" "how" "[I" ∈ TW := TW_t 135 (by decide +kernel) rfl
theorem wd_136 : Cond.fieldLink RX4 18 "TrunkRadio$State" "since" "[I" ∈ TW := TW_t 136 (by decide +kernel) rfl
theorem wd_137 : Cond.fieldLink RX0 90 "TrunkRadio$State" "since" "[I" ∈ TW := TW_t 137 (by decide +kernel) rfl
theorem wd_138 : Cond.fieldLink RX5 158 "TrunkRadio$State" "since" "[I" ∈ TW := TW_t 138 (by decide +kernel) rfl
theorem wd_139 : Cond.fieldLink RX4 21 "TrunkRadio$State" "urgent" "[I" ∈ TW := TW_t 139 (by decide +kernel) rfl
theorem wd_140 : Cond.fieldLink RX0 93 "TrunkRadio$State" "urgent" "[I" ∈ TW := TW_t 140 (by decide +kernel) rfl
theorem wd_141 : Cond.fieldLink RX5 126 "TrunkRadio$State" "urgent" "[I" ∈ TW := TW_t 141 (by decide +kernel) rfl
theorem wd_142 : Cond.fieldLink RX4 24 "TrunkRadio$State" "held" "[I" ∈ TW := TW_t 142 (by decide +kernel) rfl
theorem wd_143 : Cond.fieldLink RX5 161 "TrunkRadio$State" "held" "[I" ∈ TW := TW_t 143 (by decide +kernel) rfl
theorem wd_144 : Cond.fieldLink RX0 143 "TrunkRadio$State" "held" "[I" ∈ TW := TW_t 144 (by decide +kernel) rfl
theorem wd_145 : Cond.fieldLink RX4 27 "TrunkRadio$State" "lost" "[I" ∈ TW := TW_t 145 (by decide +kernel) rfl
theorem wd_146 : Cond.fieldLink RX0 37 "TrunkRadio$State" "lost" "[I" ∈ TW := TW_t 146 (by decide +kernel) rfl
theorem wd_147 : Cond.fieldLink RX5 142 "TrunkRadio$State" "lost" "[I" ∈ TW := TW_t 147 (by decide +kernel) rfl
theorem wd_148 : Cond.fieldLink RX4 39 "TrunkRadio$State" "tick" "I" ∈ TW := TW_t 148 (by decide +kernel) rfl
theorem wd_149 : Cond.fieldLink RX0 66 "TrunkRadio$State" "tick" "I" ∈ TW := TW_t 149 (by decide +kernel) rfl
theorem wd_150 : Cond.fieldLink RX5 96 "TrunkRadio$State" "tick" "I" ∈ TW := TW_t 150 (by decide +kernel) rfl
theorem wd_151 : Cond.fieldLink RX4 43 "TrunkRadio$State" "began" "I" ∈ TW := TW_t 151 (by decide +kernel) rfl
theorem wd_152 : Cond.fieldLink RX0 100 "TrunkRadio$State" "began" "I" ∈ TW := TW_t 152 (by decide +kernel) rfl
theorem wd_153 : Cond.fieldLink RX5 186 "TrunkRadio$State" "began" "I" ∈ TW := TW_t 153 (by decide +kernel) rfl
theorem wd_154 : Cond.fieldLink RX4 46 "TrunkRadio$State" "cut" "I" ∈ TW := TW_t 154 (by decide +kernel) rfl
theorem wd_155 : Cond.fieldLink RX0 119 "TrunkRadio$State" "cut" "I" ∈ TW := TW_t 155 (by decide +kernel) rfl
theorem wd_156 : Cond.fieldLink RX5 234 "TrunkRadio$State" "cut" "I" ∈ TW := TW_t 156 (by decide +kernel) rfl
theorem wd_157 : Cond.fieldLink RX4 49 "TrunkRadio$State" "gaveUp" "I" ∈ TW := TW_t 157 (by decide +kernel) rfl
theorem wd_158 : Cond.fieldLink RX0 152 "TrunkRadio$State" "gaveUp" "I" ∈ TW := TW_t 158 (by decide +kernel) rfl
theorem wd_159 : Cond.fieldLink RX5 189 "TrunkRadio$State" "gaveUp" "I" ∈ TW := TW_t 159 (by decide +kernel) rfl
theorem wd_160 : Cond.laysFinal RX4 "TrunkRadio$State" "site" "[I" ∈ TW := TW_t 160 (by decide +kernel) rfl
theorem wd_162 : Cond.laysFinal RX4 "TrunkRadio$State" "how" "[I" ∈ TW := TW_t 162 (by decide +kernel) rfl
theorem wd_164 : Cond.laysFinal RX4 "TrunkRadio$State" "since" "[I" ∈ TW := TW_t 164 (by decide +kernel) rfl
theorem wd_166 : Cond.laysFinal RX4 "TrunkRadio$State" "urgent" "[I" ∈ TW := TW_t 166 (by decide +kernel) rfl
theorem wd_168 : Cond.laysFinal RX4 "TrunkRadio$State" "held" "[I" ∈ TW := TW_t 168 (by decide +kernel) rfl
theorem wd_170 : Cond.laysFinal RX4 "TrunkRadio$State" "lost" "[I" ∈ TW := TW_t 170 (by decide +kernel) rfl
theorem wd_172 : Cond.lays RX4 "TrunkRadio$State" "tick" "I" ∈ TW := TW_t 172 (by decide +kernel) rfl
theorem wd_174 : Cond.lays RX4 "TrunkRadio$State" "began" "I" ∈ TW := TW_t 174 (by decide +kernel) rfl
theorem wd_176 : Cond.lays RX4 "TrunkRadio$State" "cut" "I" ∈ TW := TW_t 176 (by decide +kernel) rfl
theorem wd_178 : Cond.lays RX4 "TrunkRadio$State" "gaveUp" "I" ∈ TW := TW_t 178 (by decide +kernel) rfl
theorem wd_181 : Cond.classLink RX5 43 RX1 ∈ TW := TW_t 181 (by decide +kernel) rfl
theorem wd_182 : Cond.instantiable RX1 3 ∈ TW := TW_t 182 (by decide +kernel) rfl
theorem wd_183 : Cond.methodLink RX5 45 yX1_init ∈ TW := TW_t 183 (by decide +kernel) rfl
theorem wd_184 : Cond.instanceMethod yX1_init ∈ TW := TW_t 184 (by decide +kernel) rfl
set_option maxRecDepth 20000 in
theorem wd_185 : Cond.code yX1_init cX1_init 2 none ∈ TW := TW_t 185 rfl rfl
theorem wd_186 : Cond.methodLink RX1 3 objectInit ∈ TW := TW_t 186 (by decide +kernel) rfl
theorem wd_187 : Cond.classLink RX1 9 RX4 ∈ TW := TW_t 187 (by decide +kernel) rfl
theorem wd_189 : Cond.methodLink RX1 17 yX4_init ∈ TW := TW_t 189 (by decide +kernel) rfl
theorem wd_190 : Cond.fieldLink RX1 18 "TrunkRadio$History" "known" "I" ∈ TW := TW_t 190 (by decide +kernel) rfl
theorem wd_191 : Cond.fieldLink RX5 149 "TrunkRadio$History" "known" "I" ∈ TW := TW_t 191 (by decide +kernel) rfl
theorem wd_192 : Cond.fieldLink RX1 11 "TrunkRadio$History" "states" "[LTrunkRadio$State;" ∈ TW := TW_t 192 (by decide +kernel) rfl
theorem wd_193 : Cond.fieldLink RX1 22 "TrunkRadio$History" "next" "I" ∈ TW := TW_t 193 (by decide +kernel) rfl
theorem wd_194 : Cond.lays RX1 "TrunkRadio$History" "known" "I" ∈ TW := TW_t 194 (by decide +kernel) rfl
theorem wd_196 : Cond.laysFinal RX1 "TrunkRadio$History" "states" "[LTrunkRadio$State;" ∈ TW := TW_t 196 (by decide +kernel) rfl
theorem wd_198 : Cond.lays RX1 "TrunkRadio$History" "next" "I" ∈ TW := TW_t 198 (by decide +kernel) rfl
theorem wd_201 : Cond.fieldLink RX5 10 "TrunkRadio" "text" "LTrunkRadio$Reader;" ∈ TW := TW_t 201 (by decide +kernel) rfl
theorem wd_202 : Cond.fieldLink RX5 19 "TrunkRadio" "told" "LTrunkRadio$Net;" ∈ TW := TW_t 202 (by decide +kernel) rfl
theorem wd_203 : Cond.fieldLink RX5 23 "TrunkRadio" "trial" "LTrunkRadio$Net;" ∈ TW := TW_t 203 (by decide +kernel) rfl
theorem wd_204 : Cond.fieldLink RX5 29 "TrunkRadio" "air" "LTrunkRadio$Air;" ∈ TW := TW_t 204 (by decide +kernel) rfl
theorem wd_205 : Cond.fieldLink RX5 36 "TrunkRadio" "now" "LTrunkRadio$State;" ∈ TW := TW_t 205 (by decide +kernel) rfl
theorem wd_206 : Cond.fieldLink RX5 40 "TrunkRadio" "future" "LTrunkRadio$State;" ∈ TW := TW_t 206 (by decide +kernel) rfl
theorem wd_207 : Cond.fieldLink RX5 46 "TrunkRadio" "past" "LTrunkRadio$History;" ∈ TW := TW_t 207 (by decide +kernel) rfl
theorem wd_208 : Cond.fieldLink RX5 50 "TrunkRadio" "images" "[LTrunkRadio$State;" ∈ TW := TW_t 208 (by decide +kernel) rfl
theorem wd_209 : Cond.fieldLink RX5 93 "TrunkRadio" "imagesKept" "I" ∈ TW := TW_t 209 (by decide +kernel) rfl
theorem wd_210 : Cond.fieldLink RX5 54 "TrunkRadio" "seenTicks" "[I" ∈ TW := TW_t 210 (by decide +kernel) rfl
theorem wd_211 : Cond.fieldLink RX5 58 "TrunkRadio" "seenTalked" "[I" ∈ TW := TW_t 211 (by decide +kernel) rfl
theorem wd_212 : Cond.fieldLink RX5 90 "TrunkRadio" "seen" "I" ∈ TW := TW_t 212 (by decide +kernel) rfl
theorem wd_213 : Cond.fieldLink RX5 61 "TrunkRadio" "timesByRank" "[I" ∈ TW := TW_t 213 (by decide +kernel) rfl
theorem wd_214 : Cond.laysFinal RX5 "TrunkRadio" "text" "LTrunkRadio$Reader;" ∈ TW := TW_t 214 (by decide +kernel) rfl
theorem wd_216 : Cond.laysFinal RX5 "TrunkRadio" "told" "LTrunkRadio$Net;" ∈ TW := TW_t 216 (by decide +kernel) rfl
theorem wd_218 : Cond.laysFinal RX5 "TrunkRadio" "trial" "LTrunkRadio$Net;" ∈ TW := TW_t 218 (by decide +kernel) rfl
theorem wd_220 : Cond.laysFinal RX5 "TrunkRadio" "air" "LTrunkRadio$Air;" ∈ TW := TW_t 220 (by decide +kernel) rfl
theorem wd_222 : Cond.laysFinal RX5 "TrunkRadio" "now" "LTrunkRadio$State;" ∈ TW := TW_t 222 (by decide +kernel) rfl
theorem wd_224 : Cond.laysFinal RX5 "TrunkRadio" "future" "LTrunkRadio$State;" ∈ TW := TW_t 224 (by decide +kernel) rfl
theorem wd_226 : Cond.laysFinal RX5 "TrunkRadio" "past" "LTrunkRadio$History;" ∈ TW := TW_t 226 (by decide +kernel) rfl
theorem wd_228 : Cond.laysFinal RX5 "TrunkRadio" "images" "[LTrunkRadio$State;" ∈ TW := TW_t 228 (by decide +kernel) rfl
theorem wd_230 : Cond.lays RX5 "TrunkRadio" "imagesKept" "I" ∈ TW := TW_t 230 (by decide +kernel) rfl
theorem wd_232 : Cond.laysFinal RX5 "TrunkRadio" "seenTicks" "[I" ∈ TW := TW_t 232 (by decide +kernel) rfl
theorem wd_234 : Cond.laysFinal RX5 "TrunkRadio" "seenTalked" "[I" ∈ TW := TW_t 234 (by decide +kernel) rfl
theorem wd_236 : Cond.lays RX5 "TrunkRadio" "seen" "I" ∈ TW := TW_t 236 (by decide +kernel) rfl
theorem wd_238 : Cond.laysFinal RX5 "TrunkRadio" "timesByRank" "[I" ∈ TW := TW_t 238 (by decide +kernel) rfl
theorem wd_241 : Cond.methodLink RL 13 yX5_type ∈ TW := TW_t 241 (by decide +kernel) rfl
theorem wd_242 : Cond.instanceMethod yX5_type ∈ TW := TW_t 242 (by decide +kernel) rfl
theorem wd_243 : Cond.selects RX5 yX5_type yX5_type ∈ TW := TW_t 243 (by decide +kernel) rfl
set_option maxRecDepth 20000 in
theorem wd_244 : Cond.code yX5_type cX5_type 2 (some .int) ∈ TW := TW_t 244 rfl rfl
theorem wd_245 : Cond.methodLink RX5 64 yX3_append ∈ TW := TW_t 245 (by decide +kernel) rfl
theorem wd_246 : Cond.instanceMethod yX3_append ∈ TW := TW_t 246 (by decide +kernel) rfl
theorem wd_247 : Cond.selects RX3 yX3_append yX3_append ∈ TW := TW_t 247 (by decide +kernel) rfl
set_option maxRecDepth 20000 in
theorem wd_248 : Cond.code yX3_append cX3_append 2 (some .boolean) ∈ TW := TW_t 248 rfl rfl
theorem wd_249 : Cond.methodLink RL 18 yX5_clear ∈ TW := TW_t 249 (by decide +kernel) rfl
theorem wd_250 : Cond.instanceMethod yX5_clear ∈ TW := TW_t 250 (by decide +kernel) rfl
theorem wd_251 : Cond.selects RX5 yX5_clear yX5_clear ∈ TW := TW_t 251 (by decide +kernel) rfl
set_option maxRecDepth 20000 in
theorem wd_252 : Cond.code yX5_clear cX5_clear 1 (some .int) ∈ TW := TW_t 252 rfl rfl
theorem wd_253 : Cond.methodLink RX5 72 yX3_empty ∈ TW := TW_t 253 (by decide +kernel) rfl
theorem wd_254 : Cond.instanceMethod yX3_empty ∈ TW := TW_t 254 (by decide +kernel) rfl
theorem wd_255 : Cond.selects RX3 yX3_empty yX3_empty ∈ TW := TW_t 255 (by decide +kernel) rfl
set_option maxRecDepth 20000 in
theorem wd_256 : Cond.code yX3_empty cX3_empty 2 (some .int) ∈ TW := TW_t 256 rfl rfl
theorem wd_257 : Cond.methodLink RL 23 yX5_net ∈ TW := TW_t 257 (by decide +kernel) rfl
theorem wd_258 : Cond.instanceMethod yX5_net ∈ TW := TW_t 258 (by decide +kernel) rfl
theorem wd_259 : Cond.selects RX5 yX5_net yX5_net ∈ TW := TW_t 259 (by decide +kernel) rfl
set_option maxRecDepth 20000 in
theorem wd_260 : Cond.code yX5_net cX5_net 2 (some .int) ∈ TW := TW_t 260 rfl rfl
theorem wd_261 : Cond.methodLink RX5 76 yX3_readInto ∈ TW := TW_t 261 (by decide +kernel) rfl
theorem wd_262 : Cond.instanceMethod yX3_readInto ∈ TW := TW_t 262 (by decide +kernel) rfl
theorem wd_263 : Cond.selects RX3 yX3_readInto yX3_readInto ∈ TW := TW_t 263 (by decide +kernel) rfl
set_option maxRecDepth 20000 in
theorem wd_264 : Cond.code yX3_readInto cX3_readInto 3 (some .int) ∈ TW := TW_t 264 rfl rfl
theorem wd_265 : Cond.methodLink RX3 19 yX2_beginAnew ∈ TW := TW_t 265 (by decide +kernel) rfl
theorem wd_266 : Cond.methodLink RX3 37 yX3_readToken ∈ TW := TW_t 266 (by decide +kernel) rfl
theorem wd_268 : Cond.instanceMethod yX3_readToken ∈ TW := TW_t 268 (by decide +kernel) rfl
set_option maxRecDepth 20000 in
theorem wd_269 : Cond.code yX3_readToken cX3_readToken 3 none ∈ TW := TW_t 269 rfl rfl
theorem wd_270 : Cond.methodLink RX3 50 yX3_letterAt ∈ TW := TW_t 270 (by decide +kernel) rfl
theorem wd_272 : Cond.instanceMethod yX3_letterAt ∈ TW := TW_t 272 (by decide +kernel) rfl
set_option maxRecDepth 20000 in
theorem wd_273 : Cond.code yX3_letterAt cX3_letterAt 2 (some .int) ∈ TW := TW_t 273 rfl rfl
theorem wd_274 : Cond.methodLink RX3 54 yX3_isDigit ∈ TW := TW_t 274 (by decide +kernel) rfl
theorem wd_275 : Cond.static yX3_isDigit ∈ TW := TW_t 275 (by decide +kernel) rfl
set_option maxRecDepth 20000 in
theorem wd_276 : Cond.code yX3_isDigit cX3_isDigit 1 (some .boolean) ∈ TW := TW_t 276 rfl rfl
theorem wd_277 : Cond.methodLink RX3 58 yX3_readNumber ∈ TW := TW_t 277 (by decide +kernel) rfl
theorem wd_279 : Cond.instanceMethod yX3_readNumber ∈ TW := TW_t 279 (by decide +kernel) rfl
set_option maxRecDepth 20000 in
theorem wd_280 : Cond.code yX3_readNumber cX3_readNumber 2 none ∈ TW := TW_t 280 rfl rfl
theorem wd_281 : Cond.methodLink RX3 64 Lib.Math.min.name ∈ TW := TW_t 281 (by decide +kernel) rfl
theorem wd_282 : Cond.static Lib.Math.min.name ∈ TW := TW_t 282 (by decide +kernel) rfl
set_option maxRecDepth 20000 in
theorem wd_283 : Cond.code Lib.Math.min.name Lib.Math.min.code 2 (some .int) ∈ TW := TW_t 283 rfl rfl
theorem wd_284 : Cond.methodLink RX3 43 yX3_readItem ∈ TW := TW_t 284 (by decide +kernel) rfl
theorem wd_286 : Cond.instanceMethod yX3_readItem ∈ TW := TW_t 286 (by decide +kernel) rfl
set_option maxRecDepth 20000 in
theorem wd_287 : Cond.code yX3_readItem cX3_readItem 2 (some .boolean) ∈ TW := TW_t 287 rfl rfl
theorem wd_288 : Cond.methodLink RX3 70 yX3_readChannels ∈ TW := TW_t 288 (by decide +kernel) rfl
theorem wd_290 : Cond.instanceMethod yX3_readChannels ∈ TW := TW_t 290 (by decide +kernel) rfl
set_option maxRecDepth 20000 in
theorem wd_291 : Cond.code yX3_readChannels cX3_readChannels 3 (some .boolean) ∈ TW := TW_t 291 rfl rfl
theorem wd_292 : Cond.methodLink RX3 89 yX3_isNumberFrom ∈ TW := TW_t 292 (by decide +kernel) rfl
theorem wd_294 : Cond.instanceMethod yX3_isNumberFrom ∈ TW := TW_t 294 (by decide +kernel) rfl
set_option maxRecDepth 20000 in
theorem wd_295 : Cond.code yX3_isNumberFrom cX3_isNumberFrom 3 (some .boolean) ∈ TW := TW_t 295 rfl rfl
theorem wd_296 : Cond.methodLink RX3 73 yX3_isEnded ∈ TW := TW_t 296 (by decide +kernel) rfl
theorem wd_298 : Cond.instanceMethod yX3_isEnded ∈ TW := TW_t 298 (by decide +kernel) rfl
set_option maxRecDepth 20000 in
theorem wd_299 : Cond.code yX3_isEnded cX3_isEnded 1 (some .boolean) ∈ TW := TW_t 299 rfl rfl
theorem wd_300 : Cond.methodLink RX3 77 yX3_readAir ∈ TW := TW_t 300 (by decide +kernel) rfl
theorem wd_302 : Cond.instanceMethod yX3_readAir ∈ TW := TW_t 302 (by decide +kernel) rfl
set_option maxRecDepth 20000 in
theorem wd_303 : Cond.code yX3_readAir cX3_readAir 3 (some .boolean) ∈ TW := TW_t 303 rfl rfl
theorem wd_304 : Cond.methodLink RX3 80 yX3_readPatience ∈ TW := TW_t 304 (by decide +kernel) rfl
theorem wd_306 : Cond.instanceMethod yX3_readPatience ∈ TW := TW_t 306 (by decide +kernel) rfl
set_option maxRecDepth 20000 in
theorem wd_307 : Cond.code yX3_readPatience cX3_readPatience 3 (some .boolean) ∈ TW := TW_t 307 rfl rfl
theorem wd_308 : Cond.methodLink RX3 86 yX3_readRadio ∈ TW := TW_t 308 (by decide +kernel) rfl
theorem wd_310 : Cond.instanceMethod yX3_readRadio ∈ TW := TW_t 310 (by decide +kernel) rfl
set_option maxRecDepth 20000 in
theorem wd_311 : Cond.code yX3_readRadio cX3_readRadio 3 (some .boolean) ∈ TW := TW_t 311 rfl rfl
theorem wd_312 : Cond.methodLink RX5 80 yX2_copy ∈ TW := TW_t 312 (by decide +kernel) rfl
theorem wd_313 : Cond.instanceMethod yX2_copy ∈ TW := TW_t 313 (by decide +kernel) rfl
theorem wd_314 : Cond.selects RX2 yX2_copy yX2_copy ∈ TW := TW_t 314 (by decide +kernel) rfl
set_option maxRecDepth 20000 in
theorem wd_315 : Cond.code yX2_copy cX2_copy 2 none ∈ TW := TW_t 315 rfl rfl
theorem wd_316 : Cond.methodLink RX2 37 arraycopyName ∈ TW := TW_t 316 (by decide +kernel) rfl
theorem wd_317 : Cond.static arraycopyName ∈ TW := TW_t 317 (by decide +kernel) rfl
theorem wd_318 : Cond.native arraycopyName ∈ TW := TW_t 318 (by decide +kernel) rfl
theorem wd_319 : Cond.methodLink RX5 84 yX4_begin ∈ TW := TW_t 319 (by decide +kernel) rfl
theorem wd_320 : Cond.instanceMethod yX4_begin ∈ TW := TW_t 320 (by decide +kernel) rfl
theorem wd_321 : Cond.selects RX4 yX4_begin yX4_begin ∈ TW := TW_t 321 (by decide +kernel) rfl
set_option maxRecDepth 20000 in
theorem wd_322 : Cond.code yX4_begin cX4_begin 3 none ∈ TW := TW_t 322 rfl rfl
theorem wd_323 : Cond.methodLink RX4 35 yX4_rest ∈ TW := TW_t 323 (by decide +kernel) rfl
theorem wd_324 : Cond.instanceMethod yX4_rest ∈ TW := TW_t 324 (by decide +kernel) rfl
theorem wd_325 : Cond.selects RX4 yX4_rest yX4_rest ∈ TW := TW_t 325 (by decide +kernel) rfl
set_option maxRecDepth 20000 in
theorem wd_326 : Cond.code yX4_rest cX4_rest 2 none ∈ TW := TW_t 326 rfl rfl
theorem wd_327 : Cond.methodLink RX4 58 yX4_enter ∈ TW := TW_t 327 (by decide +kernel) rfl
theorem wd_328 : Cond.instanceMethod yX4_enter ∈ TW := TW_t 328 (by decide +kernel) rfl
theorem wd_329 : Cond.selects RX4 yX4_enter yX4_enter ∈ TW := TW_t 329 (by decide +kernel) rfl
set_option maxRecDepth 20000 in
theorem wd_330 : Cond.code yX4_enter cX4_enter 3 none ∈ TW := TW_t 330 rfl rfl
theorem wd_331 : Cond.methodLink RX5 87 yX1_lose ∈ TW := TW_t 331 (by decide +kernel) rfl
theorem wd_332 : Cond.instanceMethod yX1_lose ∈ TW := TW_t 332 (by decide +kernel) rfl
theorem wd_333 : Cond.selects RX1 yX1_lose yX1_lose ∈ TW := TW_t 333 (by decide +kernel) rfl
set_option maxRecDepth 20000 in
theorem wd_334 : Cond.code yX1_lose cX1_lose 1 none ∈ TW := TW_t 334 rfl rfl
theorem wd_335 : Cond.methodLink RL 27 yX5_ticks ∈ TW := TW_t 335 (by decide +kernel) rfl
theorem wd_336 : Cond.instanceMethod yX5_ticks ∈ TW := TW_t 336 (by decide +kernel) rfl
theorem wd_337 : Cond.selects RX5 yX5_ticks yX5_ticks ∈ TW := TW_t 337 (by decide +kernel) rfl
set_option maxRecDepth 20000 in
theorem wd_338 : Cond.code yX5_ticks cX5_ticks 4 (some .int) ∈ TW := TW_t 338 rfl rfl
theorem wd_339 : Cond.methodLink RX5 99 yX1_record ∈ TW := TW_t 339 (by decide +kernel) rfl
theorem wd_340 : Cond.instanceMethod yX1_record ∈ TW := TW_t 340 (by decide +kernel) rfl
theorem wd_341 : Cond.selects RX1 yX1_record yX1_record ∈ TW := TW_t 341 (by decide +kernel) rfl
set_option maxRecDepth 20000 in
theorem wd_342 : Cond.code yX1_record cX1_record 2 none ∈ TW := TW_t 342 rfl rfl
theorem wd_343 : Cond.methodLink RX1 25 yX4_copy ∈ TW := TW_t 343 (by decide +kernel) rfl
theorem wd_344 : Cond.instanceMethod yX4_copy ∈ TW := TW_t 344 (by decide +kernel) rfl
theorem wd_345 : Cond.selects RX4 yX4_copy yX4_copy ∈ TW := TW_t 345 (by decide +kernel) rfl
set_option maxRecDepth 20000 in
theorem wd_346 : Cond.code yX4_copy cX4_copy 2 none ∈ TW := TW_t 346 rfl rfl
theorem wd_347 : Cond.methodLink RX4 52 arraycopyName ∈ TW := TW_t 347 (by decide +kernel) rfl
theorem wd_348 : Cond.methodLink RX1 29 Lib.Math.min.name ∈ TW := TW_t 348 (by decide +kernel) rfl
theorem wd_349 : Cond.methodLink RX5 103 yX0_pass ∈ TW := TW_t 349 (by decide +kernel) rfl
theorem wd_350 : Cond.instanceMethod yX0_pass ∈ TW := TW_t 350 (by decide +kernel) rfl
theorem wd_351 : Cond.selects RX0 yX0_pass yX0_pass ∈ TW := TW_t 351 (by decide +kernel) rfl
set_option maxRecDepth 20000 in
theorem wd_352 : Cond.code yX0_pass cX0_pass 5 none ∈ TW := TW_t 352 rfl rfl
theorem wd_353 : Cond.methodLink RX0 23 arraycopyName ∈ TW := TW_t 353 (by decide +kernel) rfl
theorem wd_354 : Cond.methodLink RX0 29 yX4_hasControl ∈ TW := TW_t 354 (by decide +kernel) rfl
theorem wd_355 : Cond.instanceMethod yX4_hasControl ∈ TW := TW_t 355 (by decide +kernel) rfl
theorem wd_356 : Cond.selects RX4 yX4_hasControl yX4_hasControl ∈ TW := TW_t 356 (by decide +kernel) rfl
set_option maxRecDepth 20000 in
theorem wd_357 : Cond.code yX4_hasControl cX4_hasControl 2 (some .boolean) ∈ TW := TW_t 357 rfl rfl
theorem wd_358 : Cond.methodLink RX0 33 yX0_hear ∈ TW := TW_t 358 (by decide +kernel) rfl
theorem wd_359 : Cond.static yX0_hear ∈ TW := TW_t 359 (by decide +kernel) rfl
set_option maxRecDepth 20000 in
theorem wd_360 : Cond.code yX0_hear cX0_hear 5 none ∈ TW := TW_t 360 rfl rfl
theorem wd_361 : Cond.methodLink RX0 73 yX0_heardAt ∈ TW := TW_t 361 (by decide +kernel) rfl
theorem wd_362 : Cond.static yX0_heardAt ∈ TW := TW_t 362 (by decide +kernel) rfl
set_option maxRecDepth 20000 in
theorem wd_363 : Cond.code yX0_heardAt cX0_heardAt 6 (some .int) ∈ TW := TW_t 363 rfl rfl
theorem wd_364 : Cond.methodLink RX0 82 yX0_isSentAt ∈ TW := TW_t 364 (by decide +kernel) rfl
theorem wd_365 : Cond.static yX0_isSentAt ∈ TW := TW_t 365 (by decide +kernel) rfl
set_option maxRecDepth 20000 in
theorem wd_366 : Cond.code yX0_isSentAt cX0_isSentAt 3 (some .boolean) ∈ TW := TW_t 366 rfl rfl
theorem wd_367 : Cond.methodLink RX0 86 yX4_enter ∈ TW := TW_t 367 (by decide +kernel) rfl
theorem wd_368 : Cond.methodLink RX0 40 Lib.Math.min.name ∈ TW := TW_t 368 (by decide +kernel) rfl
theorem wd_369 : Cond.methodLink RX0 46 yX0_helpThemselves ∈ TW := TW_t 369 (by decide +kernel) rfl
theorem wd_370 : Cond.static yX0_helpThemselves ∈ TW := TW_t 370 (by decide +kernel) rfl
set_option maxRecDepth 20000 in
theorem wd_371 : Cond.code yX0_helpThemselves cX0_helpThemselves 4 none ∈ TW := TW_t 371 rfl rfl
theorem wd_372 : Cond.methodLink RX0 96 yX0_isSoftTaken ∈ TW := TW_t 372 (by decide +kernel) rfl
theorem wd_373 : Cond.static yX0_isSoftTaken ∈ TW := TW_t 373 (by decide +kernel) rfl
set_option maxRecDepth 20000 in
theorem wd_374 : Cond.code yX0_isSoftTaken cX0_isSoftTaken 7 (some .boolean) ∈ TW := TW_t 374 rfl rfl
theorem wd_375 : Cond.methodLink RX0 106 Lib.Math.max.name ∈ TW := TW_t 375 (by decide +kernel) rfl
theorem wd_376 : Cond.static Lib.Math.max.name ∈ TW := TW_t 376 (by decide +kernel) rfl
set_option maxRecDepth 20000 in
theorem wd_377 : Cond.code Lib.Math.max.name Lib.Math.max.code 2 (some .int) ∈ TW := TW_t 377 rfl rfl
theorem wd_378 : Cond.methodLink RX0 49 yX0_tryAgain ∈ TW := TW_t 378 (by decide +kernel) rfl
theorem wd_380 : Cond.instanceMethod yX0_tryAgain ∈ TW := TW_t 380 (by decide +kernel) rfl
set_option maxRecDepth 20000 in
theorem wd_381 : Cond.code yX0_tryAgain cX0_tryAgain 4 none ∈ TW := TW_t 381 rfl rfl
theorem wd_382 : Cond.methodLink RX0 53 yX0_cutLongTalks ∈ TW := TW_t 382 (by decide +kernel) rfl
theorem wd_384 : Cond.instanceMethod yX0_cutLongTalks ∈ TW := TW_t 384 (by decide +kernel) rfl
set_option maxRecDepth 20000 in
theorem wd_385 : Cond.code yX0_cutLongTalks cX0_cutLongTalks 4 none ∈ TW := TW_t 385 rfl rfl
theorem wd_386 : Cond.methodLink RX0 115 yX4_rest ∈ TW := TW_t 386 (by decide +kernel) rfl
theorem wd_387 : Cond.methodLink RX0 56 yX0_lineUp ∈ TW := TW_t 387 (by decide +kernel) rfl
theorem wd_388 : Cond.instanceMethod yX0_lineUp ∈ TW := TW_t 388 (by decide +kernel) rfl
theorem wd_389 : Cond.selects RX0 yX0_lineUp yX0_lineUp ∈ TW := TW_t 389 (by decide +kernel) rfl
set_option maxRecDepth 20000 in
theorem wd_390 : Cond.code yX0_lineUp cX0_lineUp 6 (some .int) ∈ TW := TW_t 390 rfl rfl
theorem wd_391 : Cond.methodLink RX0 122 yX0_isAhead ∈ TW := TW_t 391 (by decide +kernel) rfl
theorem wd_392 : Cond.static yX0_isAhead ∈ TW := TW_t 392 (by decide +kernel) rfl
set_option maxRecDepth 20000 in
theorem wd_393 : Cond.code yX0_isAhead cX0_isAhead 4 (some .boolean) ∈ TW := TW_t 393 rfl rfl
theorem wd_394 : Cond.methodLink RX0 60 yX0_serve ∈ TW := TW_t 394 (by decide +kernel) rfl
theorem wd_395 : Cond.static yX0_serve ∈ TW := TW_t 395 (by decide +kernel) rfl
set_option maxRecDepth 20000 in
theorem wd_396 : Cond.code yX0_serve cX0_serve 6 none ∈ TW := TW_t 396 rfl rfl
theorem wd_397 : Cond.methodLink RX0 129 yX4_talkerOf ∈ TW := TW_t 397 (by decide +kernel) rfl
theorem wd_398 : Cond.instanceMethod yX4_talkerOf ∈ TW := TW_t 398 (by decide +kernel) rfl
theorem wd_399 : Cond.selects RX4 yX4_talkerOf yX4_talkerOf ∈ TW := TW_t 399 (by decide +kernel) rfl
set_option maxRecDepth 20000 in
theorem wd_400 : Cond.code yX4_talkerOf cX4_talkerOf 4 (some .int) ∈ TW := TW_t 400 rfl rfl
theorem wd_401 : Cond.methodLink RX0 133 yX0_sitesNeeded ∈ TW := TW_t 401 (by decide +kernel) rfl
theorem wd_402 : Cond.static yX0_sitesNeeded ∈ TW := TW_t 402 (by decide +kernel) rfl
set_option maxRecDepth 20000 in
theorem wd_403 : Cond.code yX0_sitesNeeded cX0_sitesNeeded 6 (some .int) ∈ TW := TW_t 403 rfl rfl
theorem wd_404 : Cond.methodLink RX0 136 yX0_takeOver ∈ TW := TW_t 404 (by decide +kernel) rfl
theorem wd_405 : Cond.static yX0_takeOver ∈ TW := TW_t 405 (by decide +kernel) rfl
set_option maxRecDepth 20000 in
theorem wd_406 : Cond.code yX0_takeOver cX0_takeOver 6 none ∈ TW := TW_t 406 rfl rfl
theorem wd_407 : Cond.methodLink RX0 139 yX4_fullSites ∈ TW := TW_t 407 (by decide +kernel) rfl
theorem wd_408 : Cond.instanceMethod yX4_fullSites ∈ TW := TW_t 408 (by decide +kernel) rfl
theorem wd_409 : Cond.selects RX4 yX4_fullSites yX4_fullSites ∈ TW := TW_t 409 (by decide +kernel) rfl
set_option maxRecDepth 20000 in
theorem wd_410 : Cond.code yX4_fullSites cX4_fullSites 5 (some .int) ∈ TW := TW_t 410 rfl rfl
theorem wd_411 : Cond.methodLink RX0 146 yX0_weakestAt ∈ TW := TW_t 411 (by decide +kernel) rfl
theorem wd_412 : Cond.static yX0_weakestAt ∈ TW := TW_t 412 (by decide +kernel) rfl
set_option maxRecDepth 20000 in
theorem wd_413 : Cond.code yX0_weakestAt cX0_weakestAt 6 (some .int) ∈ TW := TW_t 413 rfl rfl
theorem wd_414 : Cond.methodLink RX0 63 yX0_giveUp ∈ TW := TW_t 414 (by decide +kernel) rfl
theorem wd_415 : Cond.static yX0_giveUp ∈ TW := TW_t 415 (by decide +kernel) rfl
set_option maxRecDepth 20000 in
theorem wd_416 : Cond.code yX0_giveUp cX0_giveUp 3 none ∈ TW := TW_t 416 rfl rfl
theorem wd_417 : Cond.methodLink RX5 110 yX4_isOnAir ∈ TW := TW_t 417 (by decide +kernel) rfl
theorem wd_418 : Cond.instanceMethod yX4_isOnAir ∈ TW := TW_t 418 (by decide +kernel) rfl
theorem wd_419 : Cond.selects RX4 yX4_isOnAir yX4_isOnAir ∈ TW := TW_t 419 (by decide +kernel) rfl
set_option maxRecDepth 20000 in
theorem wd_420 : Cond.code yX4_isOnAir cX4_isOnAir 2 (some .boolean) ∈ TW := TW_t 420 rfl rfl
theorem wd_421 : Cond.methodLink RL 31 yX5_presses ∈ TW := TW_t 421 (by decide +kernel) rfl
theorem wd_422 : Cond.instanceMethod yX5_presses ∈ TW := TW_t 422 (by decide +kernel) rfl
theorem wd_423 : Cond.selects RX5 yX5_presses yX5_presses ∈ TW := TW_t 423 (by decide +kernel) rfl
set_option maxRecDepth 20000 in
theorem wd_424 : Cond.code yX5_presses cX5_presses 3 (some .int) ∈ TW := TW_t 424 rfl rfl
theorem wd_425 : Cond.methodLink RX5 113 yX2_has ∈ TW := TW_t 425 (by decide +kernel) rfl
theorem wd_426 : Cond.instanceMethod yX2_has ∈ TW := TW_t 426 (by decide +kernel) rfl
theorem wd_427 : Cond.selects RX2 yX2_has yX2_has ∈ TW := TW_t 427 (by decide +kernel) rfl
set_option maxRecDepth 20000 in
theorem wd_428 : Cond.code yX2_has cX2_has 2 (some .boolean) ∈ TW := TW_t 428 rfl rfl
theorem wd_429 : Cond.methodLink RX5 116 yX5_isBit ∈ TW := TW_t 429 (by decide +kernel) rfl
theorem wd_430 : Cond.static yX5_isBit ∈ TW := TW_t 430 (by decide +kernel) rfl
set_option maxRecDepth 20000 in
theorem wd_431 : Cond.code yX5_isBit cX5_isBit 1 (some .boolean) ∈ TW := TW_t 431 rfl rfl
theorem wd_432 : Cond.methodLink RX5 122 yX4_enter ∈ TW := TW_t 432 (by decide +kernel) rfl
theorem wd_433 : Cond.methodLink RL 36 yX5_releases ∈ TW := TW_t 433 (by decide +kernel) rfl
theorem wd_434 : Cond.instanceMethod yX5_releases ∈ TW := TW_t 434 (by decide +kernel) rfl
theorem wd_435 : Cond.selects RX5 yX5_releases yX5_releases ∈ TW := TW_t 435 (by decide +kernel) rfl
set_option maxRecDepth 20000 in
theorem wd_436 : Cond.code yX5_releases cX5_releases 3 (some .int) ∈ TW := TW_t 436 rfl rfl
theorem wd_437 : Cond.methodLink RX5 132 yX4_rest ∈ TW := TW_t 437 (by decide +kernel) rfl
theorem wd_438 : Cond.methodLink RL 40 yX5_controls ∈ TW := TW_t 438 (by decide +kernel) rfl
theorem wd_439 : Cond.instanceMethod yX5_controls ∈ TW := TW_t 439 (by decide +kernel) rfl
theorem wd_440 : Cond.selects RX5 yX5_controls yX5_controls ∈ TW := TW_t 440 (by decide +kernel) rfl
set_option maxRecDepth 20000 in
theorem wd_441 : Cond.code yX5_controls cX5_controls 5 (some .int) ∈ TW := TW_t 441 rfl rfl
theorem wd_442 : Cond.methodLink RX5 136 yX5_isSite ∈ TW := TW_t 442 (by decide +kernel) rfl
theorem wd_443 : Cond.static yX5_isSite ∈ TW := TW_t 443 (by decide +kernel) rfl
set_option maxRecDepth 20000 in
theorem wd_444 : Cond.code yX5_isSite cX5_isSite 1 (some .boolean) ∈ TW := TW_t 444 rfl rfl
theorem wd_445 : Cond.methodLink RX5 139 yX4_hasControl ∈ TW := TW_t 445 (by decide +kernel) rfl
theorem wd_446 : Cond.methodLink RL 44 yX5_moves ∈ TW := TW_t 446 (by decide +kernel) rfl
theorem wd_447 : Cond.instanceMethod yX5_moves ∈ TW := TW_t 447 (by decide +kernel) rfl
theorem wd_448 : Cond.selects RX5 yX5_moves yX5_moves ∈ TW := TW_t 448 (by decide +kernel) rfl
set_option maxRecDepth 20000 in
theorem wd_449 : Cond.code yX5_moves cX5_moves 2 (some .int) ∈ TW := TW_t 449 rfl rfl
theorem wd_450 : Cond.methodLink RL 48 yX5_undo ∈ TW := TW_t 450 (by decide +kernel) rfl
theorem wd_451 : Cond.instanceMethod yX5_undo ∈ TW := TW_t 451 (by decide +kernel) rfl
theorem wd_452 : Cond.selects RX5 yX5_undo yX5_undo ∈ TW := TW_t 452 (by decide +kernel) rfl
set_option maxRecDepth 20000 in
theorem wd_453 : Cond.code yX5_undo cX5_undo 1 (some .int) ∈ TW := TW_t 453 rfl rfl
theorem wd_454 : Cond.methodLink RX5 145 yX1_bringBack ∈ TW := TW_t 454 (by decide +kernel) rfl
theorem wd_455 : Cond.instanceMethod yX1_bringBack ∈ TW := TW_t 455 (by decide +kernel) rfl
theorem wd_456 : Cond.selects RX1 yX1_bringBack yX1_bringBack ∈ TW := TW_t 456 (by decide +kernel) rfl
set_option maxRecDepth 20000 in
theorem wd_457 : Cond.code yX1_bringBack cX1_bringBack 2 (some .boolean) ∈ TW := TW_t 457 rfl rfl
theorem wd_458 : Cond.methodLink RL 52 yX5_radio ∈ TW := TW_t 458 (by decide +kernel) rfl
theorem wd_459 : Cond.instanceMethod yX5_radio ∈ TW := TW_t 459 (by decide +kernel) rfl
theorem wd_460 : Cond.selects RX5 yX5_radio yX5_radio ∈ TW := TW_t 460 (by decide +kernel) rfl
set_option maxRecDepth 20000 in
theorem wd_461 : Cond.code yX5_radio cX5_radio 3 (some .int) ∈ TW := TW_t 461 rfl rfl
theorem wd_462 : Cond.methodLink RL 56 yX5_site ∈ TW := TW_t 462 (by decide +kernel) rfl
theorem wd_463 : Cond.instanceMethod yX5_site ∈ TW := TW_t 463 (by decide +kernel) rfl
theorem wd_464 : Cond.selects RX5 yX5_site yX5_site ∈ TW := TW_t 464 (by decide +kernel) rfl
set_option maxRecDepth 20000 in
theorem wd_465 : Cond.code yX5_site cX5_site 3 (some .int) ∈ TW := TW_t 465 rfl rfl
theorem wd_466 : Cond.methodLink RX5 167 yX4_free ∈ TW := TW_t 466 (by decide +kernel) rfl
theorem wd_467 : Cond.instanceMethod yX4_free ∈ TW := TW_t 467 (by decide +kernel) rfl
theorem wd_468 : Cond.selects RX4 yX4_free yX4_free ∈ TW := TW_t 468 (by decide +kernel) rfl
set_option maxRecDepth 20000 in
theorem wd_469 : Cond.code yX4_free cX4_free 5 (some .int) ∈ TW := TW_t 469 rfl rfl
theorem wd_470 : Cond.methodLink RL 60 yX5_talker ∈ TW := TW_t 470 (by decide +kernel) rfl
theorem wd_471 : Cond.instanceMethod yX5_talker ∈ TW := TW_t 471 (by decide +kernel) rfl
theorem wd_472 : Cond.selects RX5 yX5_talker yX5_talker ∈ TW := TW_t 472 (by decide +kernel) rfl
set_option maxRecDepth 20000 in
theorem wd_473 : Cond.code yX5_talker cX5_talker 2 (some .int) ∈ TW := TW_t 473 rfl rfl
theorem wd_474 : Cond.methodLink RX5 171 yX4_talkerOf ∈ TW := TW_t 474 (by decide +kernel) rfl
theorem wd_475 : Cond.methodLink RL 64 yX5_queue ∈ TW := TW_t 475 (by decide +kernel) rfl
theorem wd_476 : Cond.instanceMethod yX5_queue ∈ TW := TW_t 476 (by decide +kernel) rfl
theorem wd_477 : Cond.selects RX5 yX5_queue yX5_queue ∈ TW := TW_t 477 (by decide +kernel) rfl
set_option maxRecDepth 20000 in
theorem wd_478 : Cond.code yX5_queue cX5_queue 3 (some .int) ∈ TW := TW_t 478 rfl rfl
theorem wd_479 : Cond.methodLink RX5 174 yX0_lineUp ∈ TW := TW_t 479 (by decide +kernel) rfl
theorem wd_480 : Cond.methodLink RL 68 yX5_soon ∈ TW := TW_t 480 (by decide +kernel) rfl
theorem wd_481 : Cond.instanceMethod yX5_soon ∈ TW := TW_t 481 (by decide +kernel) rfl
theorem wd_482 : Cond.selects RX5 yX5_soon yX5_soon ∈ TW := TW_t 482 (by decide +kernel) rfl
set_option maxRecDepth 20000 in
theorem wd_483 : Cond.code yX5_soon cX5_soon 3 (some .int) ∈ TW := TW_t 483 rfl rfl
theorem wd_484 : Cond.methodLink RX5 181 yX4_copy ∈ TW := TW_t 484 (by decide +kernel) rfl
theorem wd_485 : Cond.methodLink RL 72 yX5_within ∈ TW := TW_t 485 (by decide +kernel) rfl
theorem wd_486 : Cond.instanceMethod yX5_within ∈ TW := TW_t 486 (by decide +kernel) rfl
theorem wd_487 : Cond.selects RX5 yX5_within yX5_within ∈ TW := TW_t 487 (by decide +kernel) rfl
set_option maxRecDepth 20000 in
theorem wd_488 : Cond.code yX5_within cX5_within 5 (some .int) ∈ TW := TW_t 488 rfl rfl
theorem wd_489 : Cond.methodLink RX5 183 yX4_fullSites ∈ TW := TW_t 489 (by decide +kernel) rfl
theorem wd_490 : Cond.methodLink RL 76 yX5_wave ∈ TW := TW_t 490 (by decide +kernel) rfl
theorem wd_491 : Cond.instanceMethod yX5_wave ∈ TW := TW_t 491 (by decide +kernel) rfl
theorem wd_492 : Cond.selects RX5 yX5_wave yX5_wave ∈ TW := TW_t 492 (by decide +kernel) rfl
set_option maxRecDepth 20000 in
theorem wd_493 : Cond.code yX5_wave cX5_wave 6 (some .int) ∈ TW := TW_t 493 rfl rfl
theorem wd_494 : Cond.methodLink RX5 192 yX5_waveLasts ∈ TW := TW_t 494 (by decide +kernel) rfl
theorem wd_496 : Cond.instanceMethod yX5_waveLasts ∈ TW := TW_t 496 (by decide +kernel) rfl
set_option maxRecDepth 20000 in
theorem wd_497 : Cond.code yX5_waveLasts cX5_waveLasts 3 (some .int) ∈ TW := TW_t 497 rfl rfl
theorem wd_498 : Cond.methodLink RX5 237 yX4_pressIdle ∈ TW := TW_t 498 (by decide +kernel) rfl
theorem wd_499 : Cond.instanceMethod yX4_pressIdle ∈ TW := TW_t 499 (by decide +kernel) rfl
theorem wd_500 : Cond.selects RX4 yX4_pressIdle yX4_pressIdle ∈ TW := TW_t 500 (by decide +kernel) rfl
set_option maxRecDepth 20000 in
theorem wd_501 : Cond.code yX4_pressIdle cX4_pressIdle 4 none ∈ TW := TW_t 501 rfl rfl
theorem wd_502 : Cond.methodLink RX5 241 yX4_isAnyWaiting ∈ TW := TW_t 502 (by decide +kernel) rfl
theorem wd_503 : Cond.instanceMethod yX4_isAnyWaiting ∈ TW := TW_t 503 (by decide +kernel) rfl
theorem wd_504 : Cond.selects RX4 yX4_isAnyWaiting yX4_isAnyWaiting ∈ TW := TW_t 504 (by decide +kernel) rfl
set_option maxRecDepth 20000 in
theorem wd_505 : Cond.code yX4_isAnyWaiting cX4_isAnyWaiting 3 (some .boolean) ∈ TW := TW_t 505 rfl rfl
theorem wd_506 : Cond.methodLink RX5 196 Lib.Math.max.name ∈ TW := TW_t 506 (by decide +kernel) rfl
theorem wd_507 : Cond.methodLink RX5 202 yX5_isEnough ∈ TW := TW_t 507 (by decide +kernel) rfl
theorem wd_509 : Cond.instanceMethod yX5_isEnough ∈ TW := TW_t 509 (by decide +kernel) rfl
set_option maxRecDepth 20000 in
theorem wd_510 : Cond.code yX5_isEnough cX5_isEnough 3 (some .boolean) ∈ TW := TW_t 510 rfl rfl
theorem wd_511 : Cond.methodLink RL 80 yX5_odds ∈ TW := TW_t 511 (by decide +kernel) rfl
theorem wd_512 : Cond.instanceMethod yX5_odds ∈ TW := TW_t 512 (by decide +kernel) rfl
theorem wd_513 : Cond.selects RX5 yX5_odds yX5_odds ∈ TW := TW_t 513 (by decide +kernel) rfl
set_option maxRecDepth 20000 in
theorem wd_514 : Cond.code yX5_odds cX5_odds 9 (some .int) ∈ TW := TW_t 514 rfl rfl
theorem wd_515 : Cond.methodLink RX5 205 yX4_idleOnes ∈ TW := TW_t 515 (by decide +kernel) rfl
theorem wd_516 : Cond.instanceMethod yX4_idleOnes ∈ TW := TW_t 516 (by decide +kernel) rfl
theorem wd_517 : Cond.selects RX4 yX4_idleOnes yX4_idleOnes ∈ TW := TW_t 517 (by decide +kernel) rfl
set_option maxRecDepth 20000 in
theorem wd_518 : Cond.code yX4_idleOnes cX4_idleOnes 4 (some .int) ∈ TW := TW_t 518 rfl rfl
theorem wd_519 : Cond.methodLink RX5 208 yJ6_bitCount_0f7a4 ∈ TW := TW_t 519 (by decide +kernel) rfl
theorem wd_520 : Cond.static yJ6_bitCount_0f7a4 ∈ TW := TW_t 520 (by decide +kernel) rfl
set_option maxRecDepth 20000 in
theorem wd_521 : Cond.code yJ6_bitCount_0f7a4 cJ6_bitCount_0f7a4 1 (some .int) ∈ TW := TW_t 521 rfl rfl
theorem wd_522 : Cond.constant RJ6 265 (1431655765) ∈ TW := TW_t 522 (by decide +kernel) rfl
theorem wd_523 : Cond.constant RJ6 266 (858993459) ∈ TW := TW_t 523 (by decide +kernel) rfl
theorem wd_524 : Cond.constant RJ6 267 (252645135) ∈ TW := TW_t 524 (by decide +kernel) rfl
theorem wd_525 : Cond.methodLink RX5 213 yX5_power ∈ TW := TW_t 525 (by decide +kernel) rfl
theorem wd_526 : Cond.static yX5_power ∈ TW := TW_t 526 (by decide +kernel) rfl
set_option maxRecDepth 20000 in
theorem wd_527 : Cond.code yX5_power cX5_power 4 (some .int) ∈ TW := TW_t 527 rfl rfl
theorem wd_528 : Cond.methodLink RX5 216 yX5_talksAmong ∈ TW := TW_t 528 (by decide +kernel) rfl
theorem wd_530 : Cond.instanceMethod yX5_talksAmong ∈ TW := TW_t 530 (by decide +kernel) rfl
set_option maxRecDepth 20000 in
theorem wd_531 : Cond.code yX5_talksAmong cX5_talksAmong 5 (some .boolean) ∈ TW := TW_t 531 rfl rfl
theorem wd_532 : Cond.methodLink RX5 220 yX5_commonDivisor ∈ TW := TW_t 532 (by decide +kernel) rfl
theorem wd_533 : Cond.static yX5_commonDivisor ∈ TW := TW_t 533 (by decide +kernel) rfl
set_option maxRecDepth 20000 in
theorem wd_534 : Cond.code yX5_commonDivisor cX5_commonDivisor 6 (some .int) ∈ TW := TW_t 534 rfl rfl
theorem wd_535 : Cond.methodLink RL 85 yX5_sees ∈ TW := TW_t 535 (by decide +kernel) rfl
theorem wd_536 : Cond.instanceMethod yX5_sees ∈ TW := TW_t 536 (by decide +kernel) rfl
theorem wd_537 : Cond.selects RX5 yX5_sees yX5_sees ∈ TW := TW_t 537 (by decide +kernel) rfl
set_option maxRecDepth 20000 in
theorem wd_538 : Cond.code yX5_sees cX5_sees 3 (some .int) ∈ TW := TW_t 538 rfl rfl
theorem wd_539 : Cond.methodLink RL 89 yX5_forget ∈ TW := TW_t 539 (by decide +kernel) rfl
theorem wd_540 : Cond.instanceMethod yX5_forget ∈ TW := TW_t 540 (by decide +kernel) rfl
theorem wd_541 : Cond.selects RX5 yX5_forget yX5_forget ∈ TW := TW_t 541 (by decide +kernel) rfl
set_option maxRecDepth 20000 in
theorem wd_542 : Cond.code yX5_forget cX5_forget 2 (some .int) ∈ TW := TW_t 542 rfl rfl
theorem wd_543 : Cond.methodLink RL 93 yX5_ranks ∈ TW := TW_t 543 (by decide +kernel) rfl
theorem wd_544 : Cond.instanceMethod yX5_ranks ∈ TW := TW_t 544 (by decide +kernel) rfl
theorem wd_545 : Cond.selects RX5 yX5_ranks yX5_ranks ∈ TW := TW_t 545 (by decide +kernel) rfl
set_option maxRecDepth 20000 in
theorem wd_546 : Cond.code yX5_ranks cX5_ranks 2 (some .int) ∈ TW := TW_t 546 rfl rfl
theorem wd_547 : Cond.methodLink RX5 223 yX5_ranksThatFit ∈ TW := TW_t 547 (by decide +kernel) rfl
theorem wd_549 : Cond.instanceMethod yX5_ranksThatFit ∈ TW := TW_t 549 (by decide +kernel) rfl
set_option maxRecDepth 20000 in
theorem wd_550 : Cond.code yX5_ranksThatFit cX5_ranksThatFit 4 (some .int) ∈ TW := TW_t 550 rfl rfl
theorem wd_551 : Cond.methodLink RX5 245 yX5_timesOnAir ∈ TW := TW_t 551 (by decide +kernel) rfl
theorem wd_553 : Cond.instanceMethod yX5_timesOnAir ∈ TW := TW_t 553 (by decide +kernel) rfl
set_option maxRecDepth 20000 in
theorem wd_554 : Cond.code yX5_timesOnAir cX5_timesOnAir 4 (some .int) ∈ TW := TW_t 554 rfl rfl
theorem wd_555 : Cond.methodLink RX5 248 yX5_agreesWithSeen ∈ TW := TW_t 555 (by decide +kernel) rfl
theorem wd_557 : Cond.instanceMethod yX5_agreesWithSeen ∈ TW := TW_t 557 (by decide +kernel) rfl
set_option maxRecDepth 20000 in
theorem wd_558 : Cond.code yX5_agreesWithSeen cX5_agreesWithSeen 3 (some .boolean) ∈ TW := TW_t 558 rfl rfl
theorem wd_559 : Cond.methodLink RL 97 yX5_look ∈ TW := TW_t 559 (by decide +kernel) rfl
theorem wd_560 : Cond.instanceMethod yX5_look ∈ TW := TW_t 560 (by decide +kernel) rfl
theorem wd_561 : Cond.selects RX5 yX5_look yX5_look ∈ TW := TW_t 561 (by decide +kernel) rfl
set_option maxRecDepth 20000 in
theorem wd_562 : Cond.code yX5_look cX5_look 9 (some .int) ∈ TW := TW_t 562 rfl rfl
theorem wd_563 : Cond.methodLink RX5 226 yX5_ranksOnAir ∈ TW := TW_t 563 (by decide +kernel) rfl
theorem wd_565 : Cond.instanceMethod yX5_ranksOnAir ∈ TW := TW_t 565 (by decide +kernel) rfl
set_option maxRecDepth 20000 in
theorem wd_566 : Cond.code yX5_ranksOnAir cX5_ranksOnAir 5 (some .int) ∈ TW := TW_t 566 rfl rfl
theorem wd_567 : Cond.methodLink RL 101 yX5_keep ∈ TW := TW_t 567 (by decide +kernel) rfl
theorem wd_568 : Cond.instanceMethod yX5_keep ∈ TW := TW_t 568 (by decide +kernel) rfl
theorem wd_569 : Cond.selects RX5 yX5_keep yX5_keep ∈ TW := TW_t 569 (by decide +kernel) rfl
set_option maxRecDepth 20000 in
theorem wd_570 : Cond.code yX5_keep cX5_keep 2 (some .int) ∈ TW := TW_t 570 rfl rfl
theorem wd_571 : Cond.methodLink RL 105 yX5_back ∈ TW := TW_t 571 (by decide +kernel) rfl
theorem wd_572 : Cond.instanceMethod yX5_back ∈ TW := TW_t 572 (by decide +kernel) rfl
theorem wd_573 : Cond.selects RX5 yX5_back yX5_back ∈ TW := TW_t 573 (by decide +kernel) rfl
set_option maxRecDepth 20000 in
theorem wd_574 : Cond.code yX5_back cX5_back 2 (some .int) ∈ TW := TW_t 574 rfl rfl
theorem wd_575 : Cond.methodLink RL 109 yX5_count ∈ TW := TW_t 575 (by decide +kernel) rfl
theorem wd_576 : Cond.instanceMethod yX5_count ∈ TW := TW_t 576 (by decide +kernel) rfl
theorem wd_577 : Cond.selects RX5 yX5_count yX5_count ∈ TW := TW_t 577 (by decide +kernel) rfl
set_option maxRecDepth 20000 in
theorem wd_578 : Cond.code yX5_count cX5_count 2 (some .int) ∈ TW := TW_t 578 rfl rfl
theorem wd_579 : Cond.classLink RL 10 RX6 ∈ TW := TW_t 579 (by decide +kernel) rfl
theorem wd_580 : Cond.instantiable RX6 25 ∈ TW := TW_t 580 (by decide +kernel) rfl
theorem wd_581 : Cond.methodLink RL 12 yX6_init ∈ TW := TW_t 581 (by decide +kernel) rfl
theorem wd_582 : Cond.instanceMethod yX6_init ∈ TW := TW_t 582 (by decide +kernel) rfl
set_option maxRecDepth 20000 in
theorem wd_583 : Cond.code yX6_init cX6_init 1 none ∈ TW := TW_t 583 rfl rfl
theorem wd_584 : Cond.methodLink RX6 1 objectInit ∈ TW := TW_t 584 (by decide +kernel) rfl
theorem wd_585 : Cond.methodLink RX6 53 yX6_begins ∈ TW := TW_t 585 (by decide +kernel) rfl
theorem wd_587 : Cond.instanceMethod yX6_begins ∈ TW := TW_t 587 (by decide +kernel) rfl
set_option maxRecDepth 20000 in
theorem wd_588 : Cond.code yX6_begins cX6_begins 2 none ∈ TW := TW_t 588 rfl rfl
theorem wd_589 : Cond.methodLink RX6 56 yX6_settles ∈ TW := TW_t 589 (by decide +kernel) rfl
theorem wd_591 : Cond.instanceMethod yX6_settles ∈ TW := TW_t 591 (by decide +kernel) rfl
set_option maxRecDepth 20000 in
theorem wd_592 : Cond.code yX6_settles cX6_settles 2 none ∈ TW := TW_t 592 rfl rfl
theorem wd_593 : Cond.methodLink RX6 117 yX6_copies ∈ TW := TW_t 593 (by decide +kernel) rfl
theorem wd_594 : Cond.static yX6_copies ∈ TW := TW_t 594 (by decide +kernel) rfl
set_option maxRecDepth 20000 in
theorem wd_595 : Cond.code yX6_copies cX6_copies 3 none ∈ TW := TW_t 595 rfl rfl
theorem wd_596 : Cond.fieldLink RX6 59 "TrunkRadioModel" "thrown" "I" ∈ TW := TW_t 596 (by decide +kernel) rfl
theorem wd_597 : Cond.fieldLink RX6 7 "TrunkRadioModel" "text" "[I" ∈ TW := TW_t 597 (by decide +kernel) rfl
theorem wd_598 : Cond.fieldLink RX6 67 "TrunkRadioModel" "typed" "I" ∈ TW := TW_t 598 (by decide +kernel) rfl
theorem wd_599 : Cond.fieldLink RX6 70 "TrunkRadioModel" "spot" "I" ∈ TW := TW_t 599 (by decide +kernel) rfl
theorem wd_600 : Cond.fieldLink RX6 80 "TrunkRadioModel" "token" "I" ∈ TW := TW_t 600 (by decide +kernel) rfl
theorem wd_601 : Cond.fieldLink RX6 77 "TrunkRadioModel" "place" "I" ∈ TW := TW_t 601 (by decide +kernel) rfl
theorem wd_602 : Cond.fieldLink RX6 83 "TrunkRadioModel" "value" "I" ∈ TW := TW_t 602 (by decide +kernel) rfl
theorem wd_603 : Cond.fieldLink RX6 86 "TrunkRadioModel" "fault" "I" ∈ TW := TW_t 603 (by decide +kernel) rfl
theorem wd_604 : Cond.fieldLink RX6 100 "TrunkRadioModel" "met" "I" ∈ TW := TW_t 604 (by decide +kernel) rfl
theorem wd_605 : Cond.fieldLink RX6 13 "TrunkRadioModel" "told" "[I" ∈ TW := TW_t 605 (by decide +kernel) rfl
theorem wd_606 : Cond.fieldLink RX6 16 "TrunkRadioModel" "draft" "[I" ∈ TW := TW_t 606 (by decide +kernel) rfl
theorem wd_607 : Cond.fieldLink RX6 19 "TrunkRadioModel" "draftNow" "[I" ∈ TW := TW_t 607 (by decide +kernel) rfl
theorem wd_608 : Cond.fieldLink RX6 22 "TrunkRadioModel" "s" "[I" ∈ TW := TW_t 608 (by decide +kernel) rfl
theorem wd_609 : Cond.fieldLink RX6 25 "TrunkRadioModel" "w" "[I" ∈ TW := TW_t 609 (by decide +kernel) rfl
theorem wd_610 : Cond.fieldLink RX6 28 "TrunkRadioModel" "undos" "[I" ∈ TW := TW_t 610 (by decide +kernel) rfl
theorem wd_611 : Cond.fieldLink RX6 124 "TrunkRadioModel" "undoMany" "I" ∈ TW := TW_t 611 (by decide +kernel) rfl
theorem wd_612 : Cond.fieldLink RX6 31 "TrunkRadioModel" "kept" "[I" ∈ TW := TW_t 612 (by decide +kernel) rfl
theorem wd_613 : Cond.fieldLink RX6 34 "TrunkRadioModel" "isKept" "[Z" ∈ TW := TW_t 613 (by decide +kernel) rfl
theorem wd_614 : Cond.fieldLink RX6 38 "TrunkRadioModel" "seenIn" "[I" ∈ TW := TW_t 614 (by decide +kernel) rfl
theorem wd_615 : Cond.fieldLink RX6 41 "TrunkRadioModel" "seenIs" "[I" ∈ TW := TW_t 615 (by decide +kernel) rfl
theorem wd_616 : Cond.fieldLink RX6 121 "TrunkRadioModel" "seenMany" "I" ∈ TW := TW_t 616 (by decide +kernel) rfl
theorem wd_617 : Cond.fieldLink RX6 44 "TrunkRadioModel" "line" "[I" ∈ TW := TW_t 617 (by decide +kernel) rfl
theorem wd_618 : Cond.fieldLink RX6 143 "TrunkRadioModel" "lineMany" "I" ∈ TW := TW_t 618 (by decide +kernel) rfl
theorem wd_619 : Cond.fieldLink RX6 47 "TrunkRadioModel" "was" "[I" ∈ TW := TW_t 619 (by decide +kernel) rfl
theorem wd_620 : Cond.fieldLink RX6 50 "TrunkRadioModel" "by" "[I" ∈ TW := TW_t 620 (by decide +kernel) rfl
theorem wd_621 : Cond.lays RX6 "TrunkRadioModel" "thrown" "I" ∈ TW := TW_t 621 (by decide +kernel) rfl
theorem wd_623 : Cond.laysFinal RX6 "TrunkRadioModel" "text" "[I" ∈ TW := TW_t 623 (by decide +kernel) rfl
theorem wd_625 : Cond.lays RX6 "TrunkRadioModel" "typed" "I" ∈ TW := TW_t 625 (by decide +kernel) rfl
theorem wd_627 : Cond.lays RX6 "TrunkRadioModel" "spot" "I" ∈ TW := TW_t 627 (by decide +kernel) rfl
theorem wd_629 : Cond.lays RX6 "TrunkRadioModel" "token" "I" ∈ TW := TW_t 629 (by decide +kernel) rfl
theorem wd_631 : Cond.lays RX6 "TrunkRadioModel" "place" "I" ∈ TW := TW_t 631 (by decide +kernel) rfl
theorem wd_633 : Cond.lays RX6 "TrunkRadioModel" "value" "I" ∈ TW := TW_t 633 (by decide +kernel) rfl
theorem wd_635 : Cond.lays RX6 "TrunkRadioModel" "fault" "I" ∈ TW := TW_t 635 (by decide +kernel) rfl
theorem wd_637 : Cond.lays RX6 "TrunkRadioModel" "met" "I" ∈ TW := TW_t 637 (by decide +kernel) rfl
theorem wd_639 : Cond.laysFinal RX6 "TrunkRadioModel" "told" "[I" ∈ TW := TW_t 639 (by decide +kernel) rfl
theorem wd_641 : Cond.laysFinal RX6 "TrunkRadioModel" "draft" "[I" ∈ TW := TW_t 641 (by decide +kernel) rfl
theorem wd_643 : Cond.laysFinal RX6 "TrunkRadioModel" "draftNow" "[I" ∈ TW := TW_t 643 (by decide +kernel) rfl
theorem wd_645 : Cond.laysFinal RX6 "TrunkRadioModel" "s" "[I" ∈ TW := TW_t 645 (by decide +kernel) rfl
theorem wd_647 : Cond.laysFinal RX6 "TrunkRadioModel" "w" "[I" ∈ TW := TW_t 647 (by decide +kernel) rfl
theorem wd_649 : Cond.laysFinal RX6 "TrunkRadioModel" "undos" "[I" ∈ TW := TW_t 649 (by decide +kernel) rfl
theorem wd_651 : Cond.lays RX6 "TrunkRadioModel" "undoMany" "I" ∈ TW := TW_t 651 (by decide +kernel) rfl
theorem wd_653 : Cond.laysFinal RX6 "TrunkRadioModel" "kept" "[I" ∈ TW := TW_t 653 (by decide +kernel) rfl
theorem wd_655 : Cond.laysFinal RX6 "TrunkRadioModel" "isKept" "[Z" ∈ TW := TW_t 655 (by decide +kernel) rfl
theorem wd_657 : Cond.laysFinal RX6 "TrunkRadioModel" "seenIn" "[I" ∈ TW := TW_t 657 (by decide +kernel) rfl
theorem wd_659 : Cond.laysFinal RX6 "TrunkRadioModel" "seenIs" "[I" ∈ TW := TW_t 659 (by decide +kernel) rfl
theorem wd_661 : Cond.lays RX6 "TrunkRadioModel" "seenMany" "I" ∈ TW := TW_t 661 (by decide +kernel) rfl
theorem wd_663 : Cond.laysFinal RX6 "TrunkRadioModel" "line" "[I" ∈ TW := TW_t 663 (by decide +kernel) rfl
theorem wd_665 : Cond.lays RX6 "TrunkRadioModel" "lineMany" "I" ∈ TW := TW_t 665 (by decide +kernel) rfl
theorem wd_667 : Cond.laysFinal RX6 "TrunkRadioModel" "was" "[I" ∈ TW := TW_t 667 (by decide +kernel) rfl
theorem wd_669 : Cond.laysFinal RX6 "TrunkRadioModel" "by" "[I" ∈ TW := TW_t 669 (by decide +kernel) rfl
theorem wd_672 : Cond.arrayClass .boolean ∈ TW := TW_t 672 (by decide +kernel) rfl
theorem wd_673 : Cond.methodLink RL 17 yX6_type ∈ TW := TW_t 673 (by decide +kernel) rfl
theorem wd_674 : Cond.instanceMethod yX6_type ∈ TW := TW_t 674 (by decide +kernel) rfl
theorem wd_675 : Cond.selects RX6 yX6_type yX6_type ∈ TW := TW_t 675 (by decide +kernel) rfl
set_option maxRecDepth 20000 in
theorem wd_676 : Cond.code yX6_type cX6_type 2 (some .int) ∈ TW := TW_t 676 rfl rfl
theorem wd_677 : Cond.methodLink RX6 63 yX6_in ∈ TW := TW_t 677 (by decide +kernel) rfl
theorem wd_678 : Cond.static yX6_in ∈ TW := TW_t 678 (by decide +kernel) rfl
set_option maxRecDepth 20000 in
theorem wd_679 : Cond.code yX6_in cX6_in 3 (some .boolean) ∈ TW := TW_t 679 rfl rfl
theorem wd_680 : Cond.methodLink RL 22 yX6_clear ∈ TW := TW_t 680 (by decide +kernel) rfl
theorem wd_681 : Cond.instanceMethod yX6_clear ∈ TW := TW_t 681 (by decide +kernel) rfl
theorem wd_682 : Cond.selects RX6 yX6_clear yX6_clear ∈ TW := TW_t 682 (by decide +kernel) rfl
set_option maxRecDepth 20000 in
theorem wd_683 : Cond.code yX6_clear cX6_clear 2 (some .int) ∈ TW := TW_t 683 rfl rfl
theorem wd_684 : Cond.methodLink RL 26 yX6_net ∈ TW := TW_t 684 (by decide +kernel) rfl
theorem wd_685 : Cond.instanceMethod yX6_net ∈ TW := TW_t 685 (by decide +kernel) rfl
theorem wd_686 : Cond.selects RX6 yX6_net yX6_net ∈ TW := TW_t 686 (by decide +kernel) rfl
set_option maxRecDepth 20000 in
theorem wd_687 : Cond.code yX6_net cX6_net 3 (some .int) ∈ TW := TW_t 687 rfl rfl
theorem wd_688 : Cond.methodLink RX6 93 yX6_advances ∈ TW := TW_t 688 (by decide +kernel) rfl
theorem wd_690 : Cond.instanceMethod yX6_advances ∈ TW := TW_t 690 (by decide +kernel) rfl
set_option maxRecDepth 20000 in
theorem wd_691 : Cond.code yX6_advances cX6_advances 2 none ∈ TW := TW_t 691 rfl rfl
theorem wd_692 : Cond.methodLink RX6 73 yX6_letterAt ∈ TW := TW_t 692 (by decide +kernel) rfl
theorem wd_694 : Cond.instanceMethod yX6_letterAt ∈ TW := TW_t 694 (by decide +kernel) rfl
set_option maxRecDepth 20000 in
theorem wd_695 : Cond.code yX6_letterAt cX6_letterAt 2 (some .int) ∈ TW := TW_t 695 rfl rfl
theorem wd_696 : Cond.methodLink RX6 89 yX6_isWell ∈ TW := TW_t 696 (by decide +kernel) rfl
theorem wd_698 : Cond.instanceMethod yX6_isWell ∈ TW := TW_t 698 (by decide +kernel) rfl
set_option maxRecDepth 20000 in
theorem wd_699 : Cond.code yX6_isWell cX6_isWell 1 (some .boolean) ∈ TW := TW_t 699 rfl rfl
theorem wd_700 : Cond.methodLink RX6 110 yX6_mayBegin ∈ TW := TW_t 700 (by decide +kernel) rfl
theorem wd_702 : Cond.instanceMethod yX6_mayBegin ∈ TW := TW_t 702 (by decide +kernel) rfl
set_option maxRecDepth 20000 in
theorem wd_703 : Cond.code yX6_mayBegin cX6_mayBegin 1 (some .boolean) ∈ TW := TW_t 703 rfl rfl
theorem wd_704 : Cond.methodLink RX6 103 yX6_bitOf ∈ TW := TW_t 704 (by decide +kernel) rfl
theorem wd_705 : Cond.static yX6_bitOf ∈ TW := TW_t 705 (by decide +kernel) rfl
set_option maxRecDepth 20000 in
theorem wd_706 : Cond.code yX6_bitOf cX6_bitOf 1 (some .int) ∈ TW := TW_t 706 rfl rfl
theorem wd_707 : Cond.methodLink RX6 96 yX6_takes ∈ TW := TW_t 707 (by decide +kernel) rfl
theorem wd_709 : Cond.instanceMethod yX6_takes ∈ TW := TW_t 709 (by decide +kernel) rfl
set_option maxRecDepth 20000 in
theorem wd_710 : Cond.code yX6_takes cX6_takes 3 (some .int) ∈ TW := TW_t 710 rfl rfl
theorem wd_711 : Cond.methodLink RX6 113 yX6_readsItem ∈ TW := TW_t 711 (by decide +kernel) rfl
theorem wd_713 : Cond.instanceMethod yX6_readsItem ∈ TW := TW_t 713 (by decide +kernel) rfl
set_option maxRecDepth 20000 in
theorem wd_714 : Cond.code yX6_readsItem cX6_readsItem 3 none ∈ TW := TW_t 714 rfl rfl
theorem wd_715 : Cond.methodLink RX6 106 yX6_number ∈ TW := TW_t 715 (by decide +kernel) rfl
theorem wd_717 : Cond.instanceMethod yX6_number ∈ TW := TW_t 717 (by decide +kernel) rfl
set_option maxRecDepth 20000 in
theorem wd_718 : Cond.code yX6_number cX6_number 3 (some .int) ∈ TW := TW_t 718 rfl rfl
theorem wd_719 : Cond.methodLink RL 30 yX6_ticks ∈ TW := TW_t 719 (by decide +kernel) rfl
theorem wd_720 : Cond.instanceMethod yX6_ticks ∈ TW := TW_t 720 (by decide +kernel) rfl
theorem wd_721 : Cond.selects RX6 yX6_ticks yX6_ticks ∈ TW := TW_t 721 (by decide +kernel) rfl
set_option maxRecDepth 20000 in
theorem wd_722 : Cond.code yX6_ticks cX6_ticks 4 (some .int) ∈ TW := TW_t 722 rfl rfl
theorem wd_723 : Cond.methodLink RX6 185 yX6_notes ∈ TW := TW_t 723 (by decide +kernel) rfl
theorem wd_725 : Cond.instanceMethod yX6_notes ∈ TW := TW_t 725 (by decide +kernel) rfl
set_option maxRecDepth 20000 in
theorem wd_726 : Cond.code yX6_notes cX6_notes 2 none ∈ TW := TW_t 726 rfl rfl
theorem wd_727 : Cond.methodLink RX6 188 yX6_goes ∈ TW := TW_t 727 (by decide +kernel) rfl
theorem wd_729 : Cond.instanceMethod yX6_goes ∈ TW := TW_t 729 (by decide +kernel) rfl
set_option maxRecDepth 20000 in
theorem wd_730 : Cond.code yX6_goes cX6_goes 3 none ∈ TW := TW_t 730 rfl rfl
theorem wd_731 : Cond.methodLink RX6 172 yX6_controls2 ∈ TW := TW_t 731 (by decide +kernel) rfl
theorem wd_733 : Cond.instanceMethod yX6_controls2 ∈ TW := TW_t 733 (by decide +kernel) rfl
set_option maxRecDepth 20000 in
theorem wd_734 : Cond.code yX6_controls2 cX6_controls2 5 none ∈ TW := TW_t 734 rfl rfl
theorem wd_735 : Cond.methodLink RX6 131 yX6_heardAt ∈ TW := TW_t 735 (by decide +kernel) rfl
theorem wd_737 : Cond.instanceMethod yX6_heardAt ∈ TW := TW_t 737 (by decide +kernel) rfl
set_option maxRecDepth 20000 in
theorem wd_738 : Cond.code yX6_heardAt cX6_heardAt 7 (some .int) ∈ TW := TW_t 738 rfl rfl
theorem wd_739 : Cond.methodLink RX6 127 yX6_isSentAt ∈ TW := TW_t 739 (by decide +kernel) rfl
theorem wd_741 : Cond.instanceMethod yX6_isSentAt ∈ TW := TW_t 741 (by decide +kernel) rfl
set_option maxRecDepth 20000 in
theorem wd_742 : Cond.code yX6_isSentAt cX6_isSentAt 4 (some .boolean) ∈ TW := TW_t 742 rfl rfl
theorem wd_743 : Cond.methodLink RX6 135 yX6_becomes ∈ TW := TW_t 743 (by decide +kernel) rfl
theorem wd_744 : Cond.static yX6_becomes ∈ TW := TW_t 744 (by decide +kernel) rfl
set_option maxRecDepth 20000 in
theorem wd_745 : Cond.code yX6_becomes cX6_becomes 4 none ∈ TW := TW_t 745 rfl rfl
theorem wd_746 : Cond.methodLink RX6 175 yX6_helpsItself ∈ TW := TW_t 746 (by decide +kernel) rfl
theorem wd_748 : Cond.instanceMethod yX6_helpsItself ∈ TW := TW_t 748 (by decide +kernel) rfl
set_option maxRecDepth 20000 in
theorem wd_749 : Cond.code yX6_helpsItself cX6_helpsItself 8 none ∈ TW := TW_t 749 rfl rfl
theorem wd_750 : Cond.methodLink RX6 155 yX6_rests ∈ TW := TW_t 750 (by decide +kernel) rfl
theorem wd_751 : Cond.static yX6_rests ∈ TW := TW_t 751 (by decide +kernel) rfl
set_option maxRecDepth 20000 in
theorem wd_752 : Cond.code yX6_rests cX6_rests 2 none ∈ TW := TW_t 752 rfl rfl
theorem wd_753 : Cond.methodLink RX6 178 yX6_lines ∈ TW := TW_t 753 (by decide +kernel) rfl
theorem wd_755 : Cond.instanceMethod yX6_lines ∈ TW := TW_t 755 (by decide +kernel) rfl
set_option maxRecDepth 20000 in
theorem wd_756 : Cond.code yX6_lines cX6_lines 4 none ∈ TW := TW_t 756 rfl rfl
theorem wd_757 : Cond.methodLink RX6 146 yX6_isAhead ∈ TW := TW_t 757 (by decide +kernel) rfl
theorem wd_759 : Cond.instanceMethod yX6_isAhead ∈ TW := TW_t 759 (by decide +kernel) rfl
set_option maxRecDepth 20000 in
theorem wd_760 : Cond.code yX6_isAhead cX6_isAhead 6 (some .boolean) ∈ TW := TW_t 760 rfl rfl
theorem wd_761 : Cond.methodLink RX6 182 yX6_serves ∈ TW := TW_t 761 (by decide +kernel) rfl
theorem wd_763 : Cond.instanceMethod yX6_serves ∈ TW := TW_t 763 (by decide +kernel) rfl
set_option maxRecDepth 20000 in
theorem wd_764 : Cond.code yX6_serves cX6_serves 5 none ∈ TW := TW_t 764 rfl rfl
theorem wd_765 : Cond.methodLink RX6 159 yX6_talkerOf ∈ TW := TW_t 765 (by decide +kernel) rfl
theorem wd_767 : Cond.instanceMethod yX6_talkerOf ∈ TW := TW_t 767 (by decide +kernel) rfl
set_option maxRecDepth 20000 in
theorem wd_768 : Cond.code yX6_talkerOf cX6_talkerOf 5 (some .int) ∈ TW := TW_t 768 rfl rfl
theorem wd_769 : Cond.methodLink RX6 162 yX6_neededBy ∈ TW := TW_t 769 (by decide +kernel) rfl
theorem wd_771 : Cond.instanceMethod yX6_neededBy ∈ TW := TW_t 771 (by decide +kernel) rfl
set_option maxRecDepth 20000 in
theorem wd_772 : Cond.code yX6_neededBy cX6_neededBy 6 (some .int) ∈ TW := TW_t 772 rfl rfl
theorem wd_773 : Cond.methodLink RX6 165 yX6_isFree ∈ TW := TW_t 773 (by decide +kernel) rfl
theorem wd_775 : Cond.instanceMethod yX6_isFree ∈ TW := TW_t 775 (by decide +kernel) rfl
set_option maxRecDepth 20000 in
theorem wd_776 : Cond.code yX6_isFree cX6_isFree 3 (some .boolean) ∈ TW := TW_t 776 rfl rfl
theorem wd_777 : Cond.methodLink RX6 139 yX6_has ∈ TW := TW_t 777 (by decide +kernel) rfl
theorem wd_778 : Cond.static yX6_has ∈ TW := TW_t 778 (by decide +kernel) rfl
set_option maxRecDepth 20000 in
theorem wd_779 : Cond.code yX6_has cX6_has 2 (some .boolean) ∈ TW := TW_t 779 rfl rfl
theorem wd_780 : Cond.methodLink RX6 149 yX6_freeAt ∈ TW := TW_t 780 (by decide +kernel) rfl
theorem wd_782 : Cond.instanceMethod yX6_freeAt ∈ TW := TW_t 782 (by decide +kernel) rfl
set_option maxRecDepth 20000 in
theorem wd_783 : Cond.code yX6_freeAt cX6_freeAt 5 (some .int) ∈ TW := TW_t 783 rfl rfl
theorem wd_784 : Cond.methodLink RX6 169 yX6_takesOver ∈ TW := TW_t 784 (by decide +kernel) rfl
theorem wd_786 : Cond.instanceMethod yX6_takesOver ∈ TW := TW_t 786 (by decide +kernel) rfl
set_option maxRecDepth 20000 in
theorem wd_787 : Cond.code yX6_takesOver cX6_takesOver 5 none ∈ TW := TW_t 787 rfl rfl
theorem wd_788 : Cond.methodLink RX6 152 yX6_leastAt ∈ TW := TW_t 788 (by decide +kernel) rfl
theorem wd_790 : Cond.instanceMethod yX6_leastAt ∈ TW := TW_t 790 (by decide +kernel) rfl
set_option maxRecDepth 20000 in
theorem wd_791 : Cond.code yX6_leastAt cX6_leastAt 6 (some .int) ∈ TW := TW_t 791 rfl rfl
theorem wd_792 : Cond.methodLink RX6 191 yX6_isOn ∈ TW := TW_t 792 (by decide +kernel) rfl
theorem wd_794 : Cond.instanceMethod yX6_isOn ∈ TW := TW_t 794 (by decide +kernel) rfl
set_option maxRecDepth 20000 in
theorem wd_795 : Cond.code yX6_isOn cX6_isOn 3 (some .boolean) ∈ TW := TW_t 795 rfl rfl
theorem wd_796 : Cond.methodLink RL 35 yX6_presses ∈ TW := TW_t 796 (by decide +kernel) rfl
theorem wd_797 : Cond.instanceMethod yX6_presses ∈ TW := TW_t 797 (by decide +kernel) rfl
theorem wd_798 : Cond.selects RX6 yX6_presses yX6_presses ∈ TW := TW_t 798 (by decide +kernel) rfl
set_option maxRecDepth 20000 in
theorem wd_799 : Cond.code yX6_presses cX6_presses 3 (some .int) ∈ TW := TW_t 799 rfl rfl
theorem wd_800 : Cond.methodLink RX6 194 yX6_isRadio ∈ TW := TW_t 800 (by decide +kernel) rfl
theorem wd_802 : Cond.instanceMethod yX6_isRadio ∈ TW := TW_t 802 (by decide +kernel) rfl
set_option maxRecDepth 20000 in
theorem wd_803 : Cond.code yX6_isRadio cX6_isRadio 2 (some .boolean) ∈ TW := TW_t 803 rfl rfl
theorem wd_804 : Cond.methodLink RL 39 yX6_releases ∈ TW := TW_t 804 (by decide +kernel) rfl
theorem wd_805 : Cond.instanceMethod yX6_releases ∈ TW := TW_t 805 (by decide +kernel) rfl
theorem wd_806 : Cond.selects RX6 yX6_releases yX6_releases ∈ TW := TW_t 806 (by decide +kernel) rfl
set_option maxRecDepth 20000 in
theorem wd_807 : Cond.code yX6_releases cX6_releases 3 (some .int) ∈ TW := TW_t 807 rfl rfl
theorem wd_808 : Cond.methodLink RL 43 yX6_controls ∈ TW := TW_t 808 (by decide +kernel) rfl
theorem wd_809 : Cond.instanceMethod yX6_controls ∈ TW := TW_t 809 (by decide +kernel) rfl
theorem wd_810 : Cond.selects RX6 yX6_controls yX6_controls ∈ TW := TW_t 810 (by decide +kernel) rfl
set_option maxRecDepth 20000 in
theorem wd_811 : Cond.code yX6_controls cX6_controls 4 (some .int) ∈ TW := TW_t 811 rfl rfl
theorem wd_812 : Cond.methodLink RL 47 yX6_moves ∈ TW := TW_t 812 (by decide +kernel) rfl
theorem wd_813 : Cond.instanceMethod yX6_moves ∈ TW := TW_t 813 (by decide +kernel) rfl
theorem wd_814 : Cond.selects RX6 yX6_moves yX6_moves ∈ TW := TW_t 814 (by decide +kernel) rfl
set_option maxRecDepth 20000 in
theorem wd_815 : Cond.code yX6_moves cX6_moves 2 (some .int) ∈ TW := TW_t 815 rfl rfl
theorem wd_816 : Cond.methodLink RL 51 yX6_undo ∈ TW := TW_t 816 (by decide +kernel) rfl
theorem wd_817 : Cond.instanceMethod yX6_undo ∈ TW := TW_t 817 (by decide +kernel) rfl
theorem wd_818 : Cond.selects RX6 yX6_undo yX6_undo ∈ TW := TW_t 818 (by decide +kernel) rfl
set_option maxRecDepth 20000 in
theorem wd_819 : Cond.code yX6_undo cX6_undo 2 (some .int) ∈ TW := TW_t 819 rfl rfl
theorem wd_820 : Cond.methodLink RL 55 yX6_radio ∈ TW := TW_t 820 (by decide +kernel) rfl
theorem wd_821 : Cond.instanceMethod yX6_radio ∈ TW := TW_t 821 (by decide +kernel) rfl
theorem wd_822 : Cond.selects RX6 yX6_radio yX6_radio ∈ TW := TW_t 822 (by decide +kernel) rfl
set_option maxRecDepth 20000 in
theorem wd_823 : Cond.code yX6_radio cX6_radio 3 (some .int) ∈ TW := TW_t 823 rfl rfl
theorem wd_824 : Cond.methodLink RL 59 yX6_site ∈ TW := TW_t 824 (by decide +kernel) rfl
theorem wd_825 : Cond.instanceMethod yX6_site ∈ TW := TW_t 825 (by decide +kernel) rfl
theorem wd_826 : Cond.selects RX6 yX6_site yX6_site ∈ TW := TW_t 826 (by decide +kernel) rfl
set_option maxRecDepth 20000 in
theorem wd_827 : Cond.code yX6_site cX6_site 4 (some .int) ∈ TW := TW_t 827 rfl rfl
theorem wd_828 : Cond.methodLink RL 63 yX6_talker ∈ TW := TW_t 828 (by decide +kernel) rfl
theorem wd_829 : Cond.instanceMethod yX6_talker ∈ TW := TW_t 829 (by decide +kernel) rfl
theorem wd_830 : Cond.selects RX6 yX6_talker yX6_talker ∈ TW := TW_t 830 (by decide +kernel) rfl
set_option maxRecDepth 20000 in
theorem wd_831 : Cond.code yX6_talker cX6_talker 2 (some .int) ∈ TW := TW_t 831 rfl rfl
theorem wd_832 : Cond.methodLink RL 67 yX6_queue ∈ TW := TW_t 832 (by decide +kernel) rfl
theorem wd_833 : Cond.instanceMethod yX6_queue ∈ TW := TW_t 833 (by decide +kernel) rfl
theorem wd_834 : Cond.selects RX6 yX6_queue yX6_queue ∈ TW := TW_t 834 (by decide +kernel) rfl
set_option maxRecDepth 20000 in
theorem wd_835 : Cond.code yX6_queue cX6_queue 2 (some .int) ∈ TW := TW_t 835 rfl rfl
theorem wd_836 : Cond.methodLink RL 71 yX6_soon ∈ TW := TW_t 836 (by decide +kernel) rfl
theorem wd_837 : Cond.instanceMethod yX6_soon ∈ TW := TW_t 837 (by decide +kernel) rfl
theorem wd_838 : Cond.selects RX6 yX6_soon yX6_soon ∈ TW := TW_t 838 (by decide +kernel) rfl
set_option maxRecDepth 20000 in
theorem wd_839 : Cond.code yX6_soon cX6_soon 3 (some .int) ∈ TW := TW_t 839 rfl rfl
theorem wd_840 : Cond.methodLink RL 75 yX6_within ∈ TW := TW_t 840 (by decide +kernel) rfl
theorem wd_841 : Cond.instanceMethod yX6_within ∈ TW := TW_t 841 (by decide +kernel) rfl
theorem wd_842 : Cond.selects RX6 yX6_within yX6_within ∈ TW := TW_t 842 (by decide +kernel) rfl
set_option maxRecDepth 20000 in
theorem wd_843 : Cond.code yX6_within cX6_within 5 (some .int) ∈ TW := TW_t 843 rfl rfl
theorem wd_844 : Cond.methodLink RL 79 yX6_wave ∈ TW := TW_t 844 (by decide +kernel) rfl
theorem wd_845 : Cond.instanceMethod yX6_wave ∈ TW := TW_t 845 (by decide +kernel) rfl
theorem wd_846 : Cond.selects RX6 yX6_wave yX6_wave ∈ TW := TW_t 846 (by decide +kernel) rfl
set_option maxRecDepth 20000 in
theorem wd_847 : Cond.code yX6_wave cX6_wave 3 (some .int) ∈ TW := TW_t 847 rfl rfl
theorem wd_848 : Cond.methodLink RX6 201 yX6_enough ∈ TW := TW_t 848 (by decide +kernel) rfl
theorem wd_850 : Cond.instanceMethod yX6_enough ∈ TW := TW_t 850 (by decide +kernel) rfl
set_option maxRecDepth 20000 in
theorem wd_851 : Cond.code yX6_enough cX6_enough 9 (some .int) ∈ TW := TW_t 851 rfl rfl
theorem wd_852 : Cond.methodLink RX6 198 yX6_presses2 ∈ TW := TW_t 852 (by decide +kernel) rfl
theorem wd_854 : Cond.instanceMethod yX6_presses2 ∈ TW := TW_t 854 (by decide +kernel) rfl
set_option maxRecDepth 20000 in
theorem wd_855 : Cond.code yX6_presses2 cX6_presses2 3 none ∈ TW := TW_t 855 rfl rfl
theorem wd_856 : Cond.methodLink RX6 204 yX6_lasts ∈ TW := TW_t 856 (by decide +kernel) rfl
theorem wd_858 : Cond.instanceMethod yX6_lasts ∈ TW := TW_t 858 (by decide +kernel) rfl
set_option maxRecDepth 20000 in
theorem wd_859 : Cond.code yX6_lasts cX6_lasts 4 (some .int) ∈ TW := TW_t 859 rfl rfl
theorem wd_860 : Cond.methodLink RL 84 yX6_odds ∈ TW := TW_t 860 (by decide +kernel) rfl
theorem wd_861 : Cond.instanceMethod yX6_odds ∈ TW := TW_t 861 (by decide +kernel) rfl
theorem wd_862 : Cond.selects RX6 yX6_odds yX6_odds ∈ TW := TW_t 862 (by decide +kernel) rfl
set_option maxRecDepth 20000 in
theorem wd_863 : Cond.code yX6_odds cX6_odds 12 (some .int) ∈ TW := TW_t 863 rfl rfl
theorem wd_864 : Cond.methodLink RX6 208 yX6_gcd ∈ TW := TW_t 864 (by decide +kernel) rfl
theorem wd_865 : Cond.static yX6_gcd ∈ TW := TW_t 865 (by decide +kernel) rfl
set_option maxRecDepth 20000 in
theorem wd_866 : Cond.code yX6_gcd cX6_gcd 5 (some .int) ∈ TW := TW_t 866 rfl rfl
theorem wd_867 : Cond.methodLink RL 88 yX6_sees ∈ TW := TW_t 867 (by decide +kernel) rfl
theorem wd_868 : Cond.instanceMethod yX6_sees ∈ TW := TW_t 868 (by decide +kernel) rfl
theorem wd_869 : Cond.selects RX6 yX6_sees yX6_sees ∈ TW := TW_t 869 (by decide +kernel) rfl
set_option maxRecDepth 20000 in
theorem wd_870 : Cond.code yX6_sees cX6_sees 3 (some .int) ∈ TW := TW_t 870 rfl rfl
theorem wd_871 : Cond.methodLink RL 92 yX6_forget ∈ TW := TW_t 871 (by decide +kernel) rfl
theorem wd_872 : Cond.instanceMethod yX6_forget ∈ TW := TW_t 872 (by decide +kernel) rfl
theorem wd_873 : Cond.selects RX6 yX6_forget yX6_forget ∈ TW := TW_t 873 (by decide +kernel) rfl
set_option maxRecDepth 20000 in
theorem wd_874 : Cond.code yX6_forget cX6_forget 2 (some .int) ∈ TW := TW_t 874 rfl rfl
theorem wd_875 : Cond.methodLink RL 96 yX6_ranks ∈ TW := TW_t 875 (by decide +kernel) rfl
theorem wd_876 : Cond.instanceMethod yX6_ranks ∈ TW := TW_t 876 (by decide +kernel) rfl
theorem wd_877 : Cond.selects RX6 yX6_ranks yX6_ranks ∈ TW := TW_t 877 (by decide +kernel) rfl
set_option maxRecDepth 20000 in
theorem wd_878 : Cond.code yX6_ranks cX6_ranks 4 (some .int) ∈ TW := TW_t 878 rfl rfl
theorem wd_879 : Cond.methodLink RX6 211 yX6_onBy ∈ TW := TW_t 879 (by decide +kernel) rfl
theorem wd_881 : Cond.instanceMethod yX6_onBy ∈ TW := TW_t 881 (by decide +kernel) rfl
set_option maxRecDepth 20000 in
theorem wd_882 : Cond.code yX6_onBy cX6_onBy 6 (some .int) ∈ TW := TW_t 882 rfl rfl
theorem wd_883 : Cond.methodLink RX6 214 yX6_isAsSeen ∈ TW := TW_t 883 (by decide +kernel) rfl
theorem wd_885 : Cond.instanceMethod yX6_isAsSeen ∈ TW := TW_t 885 (by decide +kernel) rfl
set_option maxRecDepth 20000 in
theorem wd_886 : Cond.code yX6_isAsSeen cX6_isAsSeen 4 (some .boolean) ∈ TW := TW_t 886 rfl rfl
theorem wd_887 : Cond.methodLink RL 100 yX6_look ∈ TW := TW_t 887 (by decide +kernel) rfl
theorem wd_888 : Cond.instanceMethod yX6_look ∈ TW := TW_t 888 (by decide +kernel) rfl
theorem wd_889 : Cond.selects RX6 yX6_look yX6_look ∈ TW := TW_t 889 (by decide +kernel) rfl
set_option maxRecDepth 20000 in
theorem wd_890 : Cond.code yX6_look cX6_look 7 (some .int) ∈ TW := TW_t 890 rfl rfl
theorem wd_891 : Cond.methodLink RL 104 yX6_keep ∈ TW := TW_t 891 (by decide +kernel) rfl
theorem wd_892 : Cond.instanceMethod yX6_keep ∈ TW := TW_t 892 (by decide +kernel) rfl
theorem wd_893 : Cond.selects RX6 yX6_keep yX6_keep ∈ TW := TW_t 893 (by decide +kernel) rfl
set_option maxRecDepth 20000 in
theorem wd_894 : Cond.code yX6_keep cX6_keep 3 (some .int) ∈ TW := TW_t 894 rfl rfl
theorem wd_895 : Cond.methodLink RL 108 yX6_back ∈ TW := TW_t 895 (by decide +kernel) rfl
theorem wd_896 : Cond.instanceMethod yX6_back ∈ TW := TW_t 896 (by decide +kernel) rfl
theorem wd_897 : Cond.selects RX6 yX6_back yX6_back ∈ TW := TW_t 897 (by decide +kernel) rfl
set_option maxRecDepth 20000 in
theorem wd_898 : Cond.code yX6_back cX6_back 3 (some .int) ∈ TW := TW_t 898 rfl rfl
theorem wd_899 : Cond.methodLink RL 112 yX6_count ∈ TW := TW_t 899 (by decide +kernel) rfl
theorem wd_900 : Cond.instanceMethod yX6_count ∈ TW := TW_t 900 (by decide +kernel) rfl
theorem wd_901 : Cond.selects RX6 yX6_count yX6_count ∈ TW := TW_t 901 (by decide +kernel) rfl
set_option maxRecDepth 20000 in
theorem wd_902 : Cond.code yX6_count cX6_count 2 (some .int) ∈ TW := TW_t 902 rfl rfl
theorem wp_0 : Cond.selects RX3 yX3_readToken yX3_readToken ∈ TW := TW_p 0 (by decide +kernel) rfl
theorem wp_1 : Cond.selects RX3 yX3_letterAt yX3_letterAt ∈ TW := TW_p 1 (by decide +kernel) rfl
theorem wp_2 : Cond.selects RX3 yX3_readNumber yX3_readNumber ∈ TW := TW_p 2 (by decide +kernel) rfl
theorem wp_3 : Cond.selects RX3 yX3_readItem yX3_readItem ∈ TW := TW_p 3 (by decide +kernel) rfl
theorem wp_4 : Cond.selects RX3 yX3_readChannels yX3_readChannels ∈ TW := TW_p 4 (by decide +kernel) rfl
theorem wp_5 : Cond.selects RX3 yX3_isNumberFrom yX3_isNumberFrom ∈ TW := TW_p 5 (by decide +kernel) rfl
theorem wp_6 : Cond.selects RX3 yX3_isEnded yX3_isEnded ∈ TW := TW_p 6 (by decide +kernel) rfl
theorem wp_7 : Cond.selects RX3 yX3_readAir yX3_readAir ∈ TW := TW_p 7 (by decide +kernel) rfl
theorem wp_8 : Cond.selects RX3 yX3_readPatience yX3_readPatience ∈ TW := TW_p 8 (by decide +kernel) rfl
theorem wp_9 : Cond.selects RX3 yX3_readRadio yX3_readRadio ∈ TW := TW_p 9 (by decide +kernel) rfl
theorem wp_10 : Cond.selects RX0 yX0_tryAgain yX0_tryAgain ∈ TW := TW_p 10 (by decide +kernel) rfl
theorem wp_11 : Cond.selects RX0 yX0_cutLongTalks yX0_cutLongTalks ∈ TW := TW_p 11 (by decide +kernel) rfl
theorem wp_12 : Cond.selects RX5 yX5_waveLasts yX5_waveLasts ∈ TW := TW_p 12 (by decide +kernel) rfl
theorem wp_13 : Cond.selects RX5 yX5_isEnough yX5_isEnough ∈ TW := TW_p 13 (by decide +kernel) rfl
theorem wp_14 : Cond.selects RX5 yX5_talksAmong yX5_talksAmong ∈ TW := TW_p 14 (by decide +kernel) rfl
theorem wp_15 : Cond.selects RX5 yX5_ranksThatFit yX5_ranksThatFit ∈ TW := TW_p 15 (by decide +kernel) rfl
theorem wp_16 : Cond.selects RX5 yX5_timesOnAir yX5_timesOnAir ∈ TW := TW_p 16 (by decide +kernel) rfl
theorem wp_17 : Cond.selects RX5 yX5_agreesWithSeen yX5_agreesWithSeen ∈ TW := TW_p 17 (by decide +kernel) rfl
theorem wp_18 : Cond.selects RX5 yX5_ranksOnAir yX5_ranksOnAir ∈ TW := TW_p 18 (by decide +kernel) rfl
theorem wp_19 : Cond.selects RX6 yX6_begins yX6_begins ∈ TW := TW_p 19 (by decide +kernel) rfl
theorem wp_20 : Cond.selects RX6 yX6_settles yX6_settles ∈ TW := TW_p 20 (by decide +kernel) rfl
theorem wp_21 : Cond.selects RX6 yX6_advances yX6_advances ∈ TW := TW_p 21 (by decide +kernel) rfl
theorem wp_22 : Cond.selects RX6 yX6_letterAt yX6_letterAt ∈ TW := TW_p 22 (by decide +kernel) rfl
theorem wp_23 : Cond.selects RX6 yX6_isWell yX6_isWell ∈ TW := TW_p 23 (by decide +kernel) rfl
theorem wp_24 : Cond.selects RX6 yX6_mayBegin yX6_mayBegin ∈ TW := TW_p 24 (by decide +kernel) rfl
theorem wp_25 : Cond.selects RX6 yX6_takes yX6_takes ∈ TW := TW_p 25 (by decide +kernel) rfl
theorem wp_26 : Cond.selects RX6 yX6_readsItem yX6_readsItem ∈ TW := TW_p 26 (by decide +kernel) rfl
theorem wp_27 : Cond.selects RX6 yX6_number yX6_number ∈ TW := TW_p 27 (by decide +kernel) rfl
theorem wp_28 : Cond.selects RX6 yX6_notes yX6_notes ∈ TW := TW_p 28 (by decide +kernel) rfl
theorem wp_29 : Cond.selects RX6 yX6_goes yX6_goes ∈ TW := TW_p 29 (by decide +kernel) rfl
theorem wp_30 : Cond.selects RX6 yX6_controls2 yX6_controls2 ∈ TW := TW_p 30 (by decide +kernel) rfl
theorem wp_31 : Cond.selects RX6 yX6_heardAt yX6_heardAt ∈ TW := TW_p 31 (by decide +kernel) rfl
theorem wp_32 : Cond.selects RX6 yX6_isSentAt yX6_isSentAt ∈ TW := TW_p 32 (by decide +kernel) rfl
theorem wp_33 : Cond.selects RX6 yX6_helpsItself yX6_helpsItself ∈ TW := TW_p 33 (by decide +kernel) rfl
theorem wp_34 : Cond.selects RX6 yX6_lines yX6_lines ∈ TW := TW_p 34 (by decide +kernel) rfl
theorem wp_35 : Cond.selects RX6 yX6_isAhead yX6_isAhead ∈ TW := TW_p 35 (by decide +kernel) rfl
theorem wp_36 : Cond.selects RX6 yX6_serves yX6_serves ∈ TW := TW_p 36 (by decide +kernel) rfl
theorem wp_37 : Cond.selects RX6 yX6_talkerOf yX6_talkerOf ∈ TW := TW_p 37 (by decide +kernel) rfl
theorem wp_38 : Cond.selects RX6 yX6_neededBy yX6_neededBy ∈ TW := TW_p 38 (by decide +kernel) rfl
theorem wp_39 : Cond.selects RX6 yX6_isFree yX6_isFree ∈ TW := TW_p 39 (by decide +kernel) rfl
theorem wp_40 : Cond.selects RX6 yX6_freeAt yX6_freeAt ∈ TW := TW_p 40 (by decide +kernel) rfl
theorem wp_41 : Cond.selects RX6 yX6_takesOver yX6_takesOver ∈ TW := TW_p 41 (by decide +kernel) rfl
theorem wp_42 : Cond.selects RX6 yX6_leastAt yX6_leastAt ∈ TW := TW_p 42 (by decide +kernel) rfl
theorem wp_43 : Cond.selects RX6 yX6_isOn yX6_isOn ∈ TW := TW_p 43 (by decide +kernel) rfl
theorem wp_44 : Cond.selects RX6 yX6_isRadio yX6_isRadio ∈ TW := TW_p 44 (by decide +kernel) rfl
theorem wp_45 : Cond.selects RX6 yX6_enough yX6_enough ∈ TW := TW_p 45 (by decide +kernel) rfl
theorem wp_46 : Cond.selects RX6 yX6_presses2 yX6_presses2 ∈ TW := TW_p 46 (by decide +kernel) rfl
theorem wp_47 : Cond.selects RX6 yX6_lasts yX6_lasts ∈ TW := TW_p 47 (by decide +kernel) rfl
theorem wp_48 : Cond.selects RX6 yX6_onBy yX6_onBy ∈ TW := TW_p 48 (by decide +kernel) rfl
theorem wp_49 : Cond.selects RX6 yX6_isAsSeen yX6_isAsSeen ∈ TW := TW_p 49 (by decide +kernel) rfl
theorem inlX0 : ∀ w ∈ u_ws RX0 TX0 2, w ∈ TW := List.forall_mem_cons.mpr ⟨wd_119, List.forall_mem_cons.mpr ⟨wd_121, fun _ h => absurd h List.not_mem_nil⟩⟩
theorem inlX1 : ∀ w ∈ u_ws RX1 TX1 3, w ∈ TW := List.forall_mem_cons.mpr ⟨wd_194, List.forall_mem_cons.mpr ⟨wd_196, List.forall_mem_cons.mpr ⟨wd_198, fun _ h => absurd h List.not_mem_nil⟩⟩⟩
theorem inlX2 : ∀ w ∈ u_ws RX2 TX2 7, w ∈ TW := List.forall_mem_cons.mpr ⟨wd_95, List.forall_mem_cons.mpr ⟨wd_97, List.forall_mem_cons.mpr ⟨wd_99, List.forall_mem_cons.mpr ⟨wd_101, List.forall_mem_cons.mpr ⟨wd_103, List.forall_mem_cons.mpr ⟨wd_105, List.forall_mem_cons.mpr ⟨wd_107, fun _ h => absurd h List.not_mem_nil⟩⟩⟩⟩⟩⟩⟩
theorem inlX3 : ∀ w ∈ u_ws RX3 TX3 9, w ∈ TW := List.forall_mem_cons.mpr ⟨wd_35, List.forall_mem_cons.mpr ⟨wd_37, List.forall_mem_cons.mpr ⟨wd_39, List.forall_mem_cons.mpr ⟨wd_41, List.forall_mem_cons.mpr ⟨wd_43, List.forall_mem_cons.mpr ⟨wd_45, List.forall_mem_cons.mpr ⟨wd_47, List.forall_mem_cons.mpr ⟨wd_49, List.forall_mem_cons.mpr ⟨wd_51, fun _ h => absurd h List.not_mem_nil⟩⟩⟩⟩⟩⟩⟩⟩⟩
theorem inlX4 : ∀ w ∈ u_ws RX4 TX4 10, w ∈ TW := List.forall_mem_cons.mpr ⟨wd_160, List.forall_mem_cons.mpr ⟨wd_162, List.forall_mem_cons.mpr ⟨wd_164, List.forall_mem_cons.mpr ⟨wd_166, List.forall_mem_cons.mpr ⟨wd_168, List.forall_mem_cons.mpr ⟨wd_170, List.forall_mem_cons.mpr ⟨wd_172, List.forall_mem_cons.mpr ⟨wd_174, List.forall_mem_cons.mpr ⟨wd_176, List.forall_mem_cons.mpr ⟨wd_178, fun _ h => absurd h List.not_mem_nil⟩⟩⟩⟩⟩⟩⟩⟩⟩⟩
theorem inlX5 : ∀ w ∈ u_ws RX5 TX5 13, w ∈ TW := List.forall_mem_cons.mpr ⟨wd_214, List.forall_mem_cons.mpr ⟨wd_216, List.forall_mem_cons.mpr ⟨wd_218, List.forall_mem_cons.mpr ⟨wd_220, List.forall_mem_cons.mpr ⟨wd_222, List.forall_mem_cons.mpr ⟨wd_224, List.forall_mem_cons.mpr ⟨wd_226, List.forall_mem_cons.mpr ⟨wd_228, List.forall_mem_cons.mpr ⟨wd_230, List.forall_mem_cons.mpr ⟨wd_232, List.forall_mem_cons.mpr ⟨wd_234, List.forall_mem_cons.mpr ⟨wd_236, List.forall_mem_cons.mpr ⟨wd_238, fun _ h => absurd h List.not_mem_nil⟩⟩⟩⟩⟩⟩⟩⟩⟩⟩⟩⟩⟩
theorem inlX6 : ∀ w ∈ u_ws RX6 TX6 25, w ∈ TW := List.forall_mem_cons.mpr ⟨wd_621, List.forall_mem_cons.mpr ⟨wd_623, List.forall_mem_cons.mpr ⟨wd_625, List.forall_mem_cons.mpr ⟨wd_627, List.forall_mem_cons.mpr ⟨wd_629, List.forall_mem_cons.mpr ⟨wd_631, List.forall_mem_cons.mpr ⟨wd_633, List.forall_mem_cons.mpr ⟨wd_635, List.forall_mem_cons.mpr ⟨wd_637, List.forall_mem_cons.mpr ⟨wd_639, List.forall_mem_cons.mpr ⟨wd_641, List.forall_mem_cons.mpr ⟨wd_643, List.forall_mem_cons.mpr ⟨wd_645, List.forall_mem_cons.mpr ⟨wd_647, List.forall_mem_cons.mpr ⟨wd_649, List.forall_mem_cons.mpr ⟨wd_651, List.forall_mem_cons.mpr ⟨wd_653, List.forall_mem_cons.mpr ⟨wd_655, List.forall_mem_cons.mpr ⟨wd_657, List.forall_mem_cons.mpr ⟨wd_659, List.forall_mem_cons.mpr ⟨wd_661, List.forall_mem_cons.mpr ⟨wd_663, List.forall_mem_cons.mpr ⟨wd_665, List.forall_mem_cons.mpr ⟨wd_667, List.forall_mem_cons.mpr ⟨wd_669, fun _ h => absurd h List.not_mem_nil⟩⟩⟩⟩⟩⟩⟩⟩⟩⟩⟩⟩⟩⟩⟩⟩⟩⟩⟩⟩⟩⟩⟩⟩⟩
end
section
theorem dX0_init_0 : decode cX0_init 0 = .ok (.aload_n 0, 1) := by decide +kernel
theorem dX0_init_1 : decode cX0_init 1 = .ok (.invokespecial 3, 3) := by decide +kernel
theorem dX0_init_4 : decode cX0_init 4 = .ok (.aload_n 0, 1) := by decide +kernel
theorem dX0_init_5 : decode cX0_init 5 = .ok (.bipush 7, 2) := by decide +kernel
theorem dX0_init_7 : decode cX0_init 7 = .ok (.newarray .int, 2) := by decide +kernel
theorem dX0_init_9 : decode cX0_init 9 = .ok (.putfield 9, 3) := by decide +kernel
theorem dX0_init_12 : decode cX0_init 12 = .ok (.aload_n 0, 1) := by decide +kernel
theorem dX0_init_13 : decode cX0_init 13 = .ok (.bipush 7, 2) := by decide +kernel
theorem dX0_init_15 : decode cX0_init 15 = .ok (.newarray .int, 2) := by decide +kernel
theorem dX0_init_17 : decode cX0_init 17 = .ok (.putfield 15, 3) := by decide +kernel
theorem dX0_init_20 : decode cX0_init 20 = .ok (.return_, 1) := by decide +kernel
theorem dX0_pass_0 : decode cX0_pass 0 = .ok (.aload_n 2, 1) := by decide +kernel
theorem dX0_pass_1 : decode cX0_pass 1 = .ok (.getfield 18, 3) := by decide +kernel
theorem dX0_pass_4 : decode cX0_pass 4 = .ok (.iconst 0, 1) := by decide +kernel
theorem dX0_pass_5 : decode cX0_pass 5 = .ok (.aload_n 0, 1) := by decide +kernel
theorem dX0_pass_6 : decode cX0_pass 6 = .ok (.getfield 15, 3) := by decide +kernel
theorem dX0_pass_9 : decode cX0_pass 9 = .ok (.iconst 0, 1) := by decide +kernel
theorem dX0_pass_10 : decode cX0_pass 10 = .ok (.bipush 7, 2) := by decide +kernel
theorem dX0_pass_12 : decode cX0_pass 12 = .ok (.invokestatic 23, 3) := by decide +kernel
theorem dX0_pass_15 : decode cX0_pass 15 = .ok (.iconst 0, 1) := by decide +kernel
theorem dX0_pass_16 : decode cX0_pass 16 = .ok (.istore_n 3, 1) := by decide +kernel
theorem dX0_pass_17 : decode cX0_pass 17 = .ok (.iload_n 3, 1) := by decide +kernel
theorem dX0_pass_18 : decode cX0_pass 18 = .ok (.iconst 2, 1) := by decide +kernel
theorem dX0_pass_19 : decode cX0_pass 19 = .ok (.if_icmp .ge 51, 3) := by decide +kernel
theorem dX0_pass_22 : decode cX0_pass 22 = .ok (.aload_n 2, 1) := by decide +kernel
theorem dX0_pass_23 : decode cX0_pass 23 = .ok (.iload_n 3, 1) := by decide +kernel
theorem dX0_pass_24 : decode cX0_pass 24 = .ok (.invokevirtual 29, 3) := by decide +kernel
theorem dX0_pass_27 : decode cX0_pass 27 = .ok (.ifCond .eq 12, 3) := by decide +kernel
theorem dX0_pass_30 : decode cX0_pass 30 = .ok (.aload_n 1, 1) := by decide +kernel
theorem dX0_pass_31 : decode cX0_pass 31 = .ok (.aload_n 2, 1) := by decide +kernel
theorem dX0_pass_32 : decode cX0_pass 32 = .ok (.iload_n 3, 1) := by decide +kernel
theorem dX0_pass_33 : decode cX0_pass 33 = .ok (.invokestatic 33, 3) := by decide +kernel
theorem dX0_pass_36 : decode cX0_pass 36 = .ok (.goto 28, 3) := by decide +kernel
theorem dX0_pass_39 : decode cX0_pass 39 = .ok (.aload_n 2, 1) := by decide +kernel
theorem dX0_pass_40 : decode cX0_pass 40 = .ok (.getfield 37, 3) := by decide +kernel
theorem dX0_pass_43 : decode cX0_pass 43 = .ok (.iload_n 3, 1) := by decide +kernel
theorem dX0_pass_44 : decode cX0_pass 44 = .ok (.bipush 99, 2) := by decide +kernel
theorem dX0_pass_46 : decode cX0_pass 46 = .ok (.aload_n 2, 1) := by decide +kernel
theorem dX0_pass_47 : decode cX0_pass 47 = .ok (.getfield 37, 3) := by decide +kernel
theorem dX0_pass_50 : decode cX0_pass 50 = .ok (.iload_n 3, 1) := by decide +kernel
theorem dX0_pass_51 : decode cX0_pass 51 = .ok (.iaload, 1) := by decide +kernel
theorem dX0_pass_52 : decode cX0_pass 52 = .ok (.iconst 1, 1) := by decide +kernel
theorem dX0_pass_53 : decode cX0_pass 53 = .ok (.iadd, 1) := by decide +kernel
theorem dX0_pass_54 : decode cX0_pass 54 = .ok (.invokestatic 40, 3) := by decide +kernel
theorem dX0_pass_57 : decode cX0_pass 57 = .ok (.iastore, 1) := by decide +kernel
theorem dX0_pass_58 : decode cX0_pass 58 = .ok (.aload_n 1, 1) := by decide +kernel
theorem dX0_pass_59 : decode cX0_pass 59 = .ok (.aload_n 2, 1) := by decide +kernel
theorem dX0_pass_60 : decode cX0_pass 60 = .ok (.iload_n 3, 1) := by decide +kernel
theorem dX0_pass_61 : decode cX0_pass 61 = .ok (.invokestatic 46, 3) := by decide +kernel
theorem dX0_pass_64 : decode cX0_pass 64 = .ok (.iinc 3 1, 3) := by decide +kernel
theorem dX0_pass_67 : decode cX0_pass 67 = .ok (.goto (-50), 3) := by decide +kernel
theorem dX0_pass_70 : decode cX0_pass 70 = .ok (.aload_n 0, 1) := by decide +kernel
theorem dX0_pass_71 : decode cX0_pass 71 = .ok (.aload_n 1, 1) := by decide +kernel
theorem dX0_pass_72 : decode cX0_pass 72 = .ok (.aload_n 2, 1) := by decide +kernel
theorem dX0_pass_73 : decode cX0_pass 73 = .ok (.invokevirtual 49, 3) := by decide +kernel
theorem dX0_pass_76 : decode cX0_pass 76 = .ok (.aload_n 0, 1) := by decide +kernel
theorem dX0_pass_77 : decode cX0_pass 77 = .ok (.aload_n 1, 1) := by decide +kernel
theorem dX0_pass_78 : decode cX0_pass 78 = .ok (.aload_n 2, 1) := by decide +kernel
theorem dX0_pass_79 : decode cX0_pass 79 = .ok (.invokevirtual 53, 3) := by decide +kernel
theorem dX0_pass_82 : decode cX0_pass 82 = .ok (.aload_n 0, 1) := by decide +kernel
theorem dX0_pass_83 : decode cX0_pass 83 = .ok (.aload_n 1, 1) := by decide +kernel
theorem dX0_pass_84 : decode cX0_pass 84 = .ok (.aload_n 2, 1) := by decide +kernel
theorem dX0_pass_85 : decode cX0_pass 85 = .ok (.invokevirtual 56, 3) := by decide +kernel
theorem dX0_pass_88 : decode cX0_pass 88 = .ok (.istore_n 3, 1) := by decide +kernel
theorem dX0_pass_89 : decode cX0_pass 89 = .ok (.iconst 0, 1) := by decide +kernel
theorem dX0_pass_90 : decode cX0_pass 90 = .ok (.istore 4, 2) := by decide +kernel
theorem dX0_pass_92 : decode cX0_pass 92 = .ok (.iload 4, 2) := by decide +kernel
theorem dX0_pass_94 : decode cX0_pass 94 = .ok (.iload_n 3, 1) := by decide +kernel
theorem dX0_pass_95 : decode cX0_pass 95 = .ok (.if_icmp .ge 28, 3) := by decide +kernel
theorem dX0_pass_98 : decode cX0_pass 98 = .ok (.iload 4, 2) := by decide +kernel
theorem dX0_pass_100 : decode cX0_pass 100 = .ok (.bipush 7, 2) := by decide +kernel
theorem dX0_pass_102 : decode cX0_pass 102 = .ok (.if_icmp .ge 21, 3) := by decide +kernel
theorem dX0_pass_105 : decode cX0_pass 105 = .ok (.aload_n 1, 1) := by decide +kernel
theorem dX0_pass_106 : decode cX0_pass 106 = .ok (.aload_n 2, 1) := by decide +kernel
theorem dX0_pass_107 : decode cX0_pass 107 = .ok (.aload_n 0, 1) := by decide +kernel
theorem dX0_pass_108 : decode cX0_pass 108 = .ok (.getfield 9, 3) := by decide +kernel
theorem dX0_pass_111 : decode cX0_pass 111 = .ok (.iload 4, 2) := by decide +kernel
theorem dX0_pass_113 : decode cX0_pass 113 = .ok (.iaload, 1) := by decide +kernel
theorem dX0_pass_114 : decode cX0_pass 114 = .ok (.invokestatic 60, 3) := by decide +kernel
theorem dX0_pass_117 : decode cX0_pass 117 = .ok (.iinc 4 1, 3) := by decide +kernel
theorem dX0_pass_120 : decode cX0_pass 120 = .ok (.goto (-28), 3) := by decide +kernel
theorem dX0_pass_123 : decode cX0_pass 123 = .ok (.aload_n 1, 1) := by decide +kernel
theorem dX0_pass_124 : decode cX0_pass 124 = .ok (.aload_n 2, 1) := by decide +kernel
theorem dX0_pass_125 : decode cX0_pass 125 = .ok (.invokestatic 63, 3) := by decide +kernel
theorem dX0_pass_128 : decode cX0_pass 128 = .ok (.aload_n 2, 1) := by decide +kernel
theorem dX0_pass_129 : decode cX0_pass 129 = .ok (.sipush 999, 3) := by decide +kernel
theorem dX0_pass_132 : decode cX0_pass 132 = .ok (.aload_n 2, 1) := by decide +kernel
theorem dX0_pass_133 : decode cX0_pass 133 = .ok (.getfield 66, 3) := by decide +kernel
theorem dX0_pass_136 : decode cX0_pass 136 = .ok (.iconst 1, 1) := by decide +kernel
theorem dX0_pass_137 : decode cX0_pass 137 = .ok (.iadd, 1) := by decide +kernel
theorem dX0_pass_138 : decode cX0_pass 138 = .ok (.invokestatic 40, 3) := by decide +kernel
theorem dX0_pass_141 : decode cX0_pass 141 = .ok (.putfield 66, 3) := by decide +kernel
theorem dX0_pass_144 : decode cX0_pass 144 = .ok (.return_, 1) := by decide +kernel
theorem dX0_isSentAt_0 : decode cX0_isSentAt 0 = .ok (.aload_n 0, 1) := by decide +kernel
theorem dX0_isSentAt_1 : decode cX0_isSentAt 1 = .ok (.getfield 18, 3) := by decide +kernel
theorem dX0_isSentAt_4 : decode cX0_isSentAt 4 = .ok (.iload_n 2, 1) := by decide +kernel
theorem dX0_isSentAt_5 : decode cX0_isSentAt 5 = .ok (.iaload, 1) := by decide +kernel
theorem dX0_isSentAt_6 : decode cX0_isSentAt 6 = .ok (.iconst 1, 1) := by decide +kernel
theorem dX0_isSentAt_7 : decode cX0_isSentAt 7 = .ok (.if_icmp .ne 17, 3) := by decide +kernel
theorem dX0_isSentAt_10 : decode cX0_isSentAt 10 = .ok (.aload_n 0, 1) := by decide +kernel
theorem dX0_isSentAt_11 : decode cX0_isSentAt 11 = .ok (.getfield 70, 3) := by decide +kernel
theorem dX0_isSentAt_14 : decode cX0_isSentAt 14 = .ok (.iload_n 2, 1) := by decide +kernel
theorem dX0_isSentAt_15 : decode cX0_isSentAt 15 = .ok (.iaload, 1) := by decide +kernel
theorem dX0_isSentAt_16 : decode cX0_isSentAt 16 = .ok (.iload_n 1, 1) := by decide +kernel
theorem dX0_isSentAt_17 : decode cX0_isSentAt 17 = .ok (.if_icmp .ne 7, 3) := by decide +kernel
theorem dX0_isSentAt_20 : decode cX0_isSentAt 20 = .ok (.iconst 1, 1) := by decide +kernel
theorem dX0_isSentAt_21 : decode cX0_isSentAt 21 = .ok (.goto 4, 3) := by decide +kernel
theorem dX0_isSentAt_24 : decode cX0_isSentAt 24 = .ok (.iconst 0, 1) := by decide +kernel
theorem dX0_isSentAt_25 : decode cX0_isSentAt 25 = .ok (.ireturn, 1) := by decide +kernel
theorem dX0_hear_0 : decode cX0_hear 0 = .ok (.aload_n 0, 1) := by decide +kernel
theorem dX0_hear_1 : decode cX0_hear 1 = .ok (.aload_n 1, 1) := by decide +kernel
theorem dX0_hear_2 : decode cX0_hear 2 = .ok (.iload_n 2, 1) := by decide +kernel
theorem dX0_hear_3 : decode cX0_hear 3 = .ok (.invokestatic 73, 3) := by decide +kernel
theorem dX0_hear_6 : decode cX0_hear 6 = .ok (.istore_n 3, 1) := by decide +kernel
theorem dX0_hear_7 : decode cX0_hear 7 = .ok (.iconst 0, 1) := by decide +kernel
theorem dX0_hear_8 : decode cX0_hear 8 = .ok (.istore 4, 2) := by decide +kernel
theorem dX0_hear_10 : decode cX0_hear 10 = .ok (.iload 4, 2) := by decide +kernel
theorem dX0_hear_12 : decode cX0_hear 12 = .ok (.aload_n 0, 1) := by decide +kernel
theorem dX0_hear_13 : decode cX0_hear 13 = .ok (.getfield 77, 3) := by decide +kernel
theorem dX0_hear_16 : decode cX0_hear 16 = .ok (.if_icmp .ge 59, 3) := by decide +kernel
theorem dX0_hear_19 : decode cX0_hear 19 = .ok (.aload_n 1, 1) := by decide +kernel
theorem dX0_hear_20 : decode cX0_hear 20 = .ok (.iload_n 2, 1) := by decide +kernel
theorem dX0_hear_21 : decode cX0_hear 21 = .ok (.iload 4, 2) := by decide +kernel
theorem dX0_hear_23 : decode cX0_hear 23 = .ok (.invokestatic 82, 3) := by decide +kernel
theorem dX0_hear_26 : decode cX0_hear 26 = .ok (.ifCond .ne 6, 3) := by decide +kernel
theorem dX0_hear_29 : decode cX0_hear 29 = .ok (.goto 40, 3) := by decide +kernel
theorem dX0_hear_32 : decode cX0_hear 32 = .ok (.iload 4, 2) := by decide +kernel
theorem dX0_hear_34 : decode cX0_hear 34 = .ok (.iload_n 3, 1) := by decide +kernel
theorem dX0_hear_35 : decode cX0_hear 35 = .ok (.if_icmp .ne 13, 3) := by decide +kernel
theorem dX0_hear_38 : decode cX0_hear 38 = .ok (.aload_n 1, 1) := by decide +kernel
theorem dX0_hear_39 : decode cX0_hear 39 = .ok (.iload 4, 2) := by decide +kernel
theorem dX0_hear_41 : decode cX0_hear 41 = .ok (.iconst 3, 1) := by decide +kernel
theorem dX0_hear_42 : decode cX0_hear 42 = .ok (.invokevirtual 86, 3) := by decide +kernel
theorem dX0_hear_45 : decode cX0_hear 45 = .ok (.goto 24, 3) := by decide +kernel
theorem dX0_hear_48 : decode cX0_hear 48 = .ok (.aload_n 1, 1) := by decide +kernel
theorem dX0_hear_49 : decode cX0_hear 49 = .ok (.getfield 18, 3) := by decide +kernel
theorem dX0_hear_52 : decode cX0_hear 52 = .ok (.iload 4, 2) := by decide +kernel
theorem dX0_hear_54 : decode cX0_hear 54 = .ok (.iconst 2, 1) := by decide +kernel
theorem dX0_hear_55 : decode cX0_hear 55 = .ok (.iastore, 1) := by decide +kernel
theorem dX0_hear_56 : decode cX0_hear 56 = .ok (.aload_n 1, 1) := by decide +kernel
theorem dX0_hear_57 : decode cX0_hear 57 = .ok (.getfield 90, 3) := by decide +kernel
theorem dX0_hear_60 : decode cX0_hear 60 = .ok (.iload 4, 2) := by decide +kernel
theorem dX0_hear_62 : decode cX0_hear 62 = .ok (.iconst 1, 1) := by decide +kernel
theorem dX0_hear_63 : decode cX0_hear 63 = .ok (.iload 4, 2) := by decide +kernel
theorem dX0_hear_65 : decode cX0_hear 65 = .ok (.iconst 3, 1) := by decide +kernel
theorem dX0_hear_66 : decode cX0_hear 66 = .ok (.irem, 1) := by decide +kernel
theorem dX0_hear_67 : decode cX0_hear 67 = .ok (.iadd, 1) := by decide +kernel
theorem dX0_hear_68 : decode cX0_hear 68 = .ok (.iastore, 1) := by decide +kernel
theorem dX0_hear_69 : decode cX0_hear 69 = .ok (.iinc 4 1, 3) := by decide +kernel
theorem dX0_hear_72 : decode cX0_hear 72 = .ok (.goto (-62), 3) := by decide +kernel
theorem dX0_hear_75 : decode cX0_hear 75 = .ok (.return_, 1) := by decide +kernel
theorem dX0_heardAt_0 : decode cX0_heardAt 0 = .ok (.iconst 0, 1) := by decide +kernel
theorem dX0_heardAt_1 : decode cX0_heardAt 1 = .ok (.istore_n 3, 1) := by decide +kernel
theorem dX0_heardAt_2 : decode cX0_heardAt 2 = .ok (.bipush (-9), 2) := by decide +kernel
theorem dX0_heardAt_4 : decode cX0_heardAt 4 = .ok (.istore 4, 2) := by decide +kernel
theorem dX0_heardAt_6 : decode cX0_heardAt 6 = .ok (.iconst 0, 1) := by decide +kernel
theorem dX0_heardAt_7 : decode cX0_heardAt 7 = .ok (.istore 5, 2) := by decide +kernel
theorem dX0_heardAt_9 : decode cX0_heardAt 9 = .ok (.iload 5, 2) := by decide +kernel
theorem dX0_heardAt_11 : decode cX0_heardAt 11 = .ok (.aload_n 0, 1) := by decide +kernel
theorem dX0_heardAt_12 : decode cX0_heardAt 12 = .ok (.getfield 77, 3) := by decide +kernel
theorem dX0_heardAt_15 : decode cX0_heardAt 15 = .ok (.if_icmp .ge 40, 3) := by decide +kernel
theorem dX0_heardAt_18 : decode cX0_heardAt 18 = .ok (.aload_n 1, 1) := by decide +kernel
theorem dX0_heardAt_19 : decode cX0_heardAt 19 = .ok (.iload_n 2, 1) := by decide +kernel
theorem dX0_heardAt_20 : decode cX0_heardAt 20 = .ok (.iload 5, 2) := by decide +kernel
theorem dX0_heardAt_22 : decode cX0_heardAt 22 = .ok (.invokestatic 82, 3) := by decide +kernel
theorem dX0_heardAt_25 : decode cX0_heardAt 25 = .ok (.ifCond .eq 24, 3) := by decide +kernel
theorem dX0_heardAt_28 : decode cX0_heardAt 28 = .ok (.aload_n 1, 1) := by decide +kernel
theorem dX0_heardAt_29 : decode cX0_heardAt 29 = .ok (.getfield 93, 3) := by decide +kernel
theorem dX0_heardAt_32 : decode cX0_heardAt 32 = .ok (.iload 5, 2) := by decide +kernel
theorem dX0_heardAt_34 : decode cX0_heardAt 34 = .ok (.iaload, 1) := by decide +kernel
theorem dX0_heardAt_35 : decode cX0_heardAt 35 = .ok (.iconst 1, 1) := by decide +kernel
theorem dX0_heardAt_36 : decode cX0_heardAt 36 = .ok (.if_icmp .ne 6, 3) := by decide +kernel
theorem dX0_heardAt_39 : decode cX0_heardAt 39 = .ok (.iload 5, 2) := by decide +kernel
theorem dX0_heardAt_41 : decode cX0_heardAt 41 = .ok (.ireturn, 1) := by decide +kernel
theorem dX0_heardAt_42 : decode cX0_heardAt 42 = .ok (.iinc 3 1, 3) := by decide +kernel
theorem dX0_heardAt_45 : decode cX0_heardAt 45 = .ok (.iload 5, 2) := by decide +kernel
theorem dX0_heardAt_47 : decode cX0_heardAt 47 = .ok (.istore 4, 2) := by decide +kernel
theorem dX0_heardAt_49 : decode cX0_heardAt 49 = .ok (.iinc 5 1, 3) := by decide +kernel
theorem dX0_heardAt_52 : decode cX0_heardAt 52 = .ok (.goto (-43), 3) := by decide +kernel
theorem dX0_heardAt_55 : decode cX0_heardAt 55 = .ok (.iload_n 3, 1) := by decide +kernel
theorem dX0_heardAt_56 : decode cX0_heardAt 56 = .ok (.iconst 1, 1) := by decide +kernel
theorem dX0_heardAt_57 : decode cX0_heardAt 57 = .ok (.if_icmp .ne 8, 3) := by decide +kernel
theorem dX0_heardAt_60 : decode cX0_heardAt 60 = .ok (.iload 4, 2) := by decide +kernel
theorem dX0_heardAt_62 : decode cX0_heardAt 62 = .ok (.goto 5, 3) := by decide +kernel
theorem dX0_heardAt_65 : decode cX0_heardAt 65 = .ok (.bipush (-9), 2) := by decide +kernel
theorem dX0_heardAt_67 : decode cX0_heardAt 67 = .ok (.ireturn, 1) := by decide +kernel
theorem dX0_helpThemselves_0 : decode cX0_helpThemselves 0 = .ok (.aload_n 1, 1) := by decide +kernel
theorem dX0_helpThemselves_1 : decode cX0_helpThemselves 1 = .ok (.getfield 37, 3) := by decide +kernel
theorem dX0_helpThemselves_4 : decode cX0_helpThemselves 4 = .ok (.iload_n 2, 1) := by decide +kernel
theorem dX0_helpThemselves_5 : decode cX0_helpThemselves 5 = .ok (.iaload, 1) := by decide +kernel
theorem dX0_helpThemselves_6 : decode cX0_helpThemselves 6 = .ok (.iconst 2, 1) := by decide +kernel
theorem dX0_helpThemselves_7 : decode cX0_helpThemselves 7 = .ok (.if_icmp .ge 4, 3) := by decide +kernel
theorem dX0_helpThemselves_10 : decode cX0_helpThemselves 10 = .ok (.return_, 1) := by decide +kernel
theorem dX0_helpThemselves_11 : decode cX0_helpThemselves 11 = .ok (.iconst 0, 1) := by decide +kernel
theorem dX0_helpThemselves_12 : decode cX0_helpThemselves 12 = .ok (.istore_n 3, 1) := by decide +kernel
theorem dX0_helpThemselves_13 : decode cX0_helpThemselves 13 = .ok (.iload_n 3, 1) := by decide +kernel
theorem dX0_helpThemselves_14 : decode cX0_helpThemselves 14 = .ok (.aload_n 0, 1) := by decide +kernel
theorem dX0_helpThemselves_15 : decode cX0_helpThemselves 15 = .ok (.getfield 77, 3) := by decide +kernel
theorem dX0_helpThemselves_18 : decode cX0_helpThemselves 18 = .ok (.if_icmp .ge 43, 3) := by decide +kernel
theorem dX0_helpThemselves_21 : decode cX0_helpThemselves 21 = .ok (.aload_n 1, 1) := by decide +kernel
theorem dX0_helpThemselves_22 : decode cX0_helpThemselves 22 = .ok (.iload_n 2, 1) := by decide +kernel
theorem dX0_helpThemselves_23 : decode cX0_helpThemselves 23 = .ok (.iload_n 3, 1) := by decide +kernel
theorem dX0_helpThemselves_24 : decode cX0_helpThemselves 24 = .ok (.invokestatic 82, 3) := by decide +kernel
theorem dX0_helpThemselves_27 : decode cX0_helpThemselves 27 = .ok (.ifCond .eq 28, 3) := by decide +kernel
theorem dX0_helpThemselves_30 : decode cX0_helpThemselves 30 = .ok (.aload_n 0, 1) := by decide +kernel
theorem dX0_helpThemselves_31 : decode cX0_helpThemselves 31 = .ok (.aload_n 1, 1) := by decide +kernel
theorem dX0_helpThemselves_32 : decode cX0_helpThemselves 32 = .ok (.iload_n 3, 1) := by decide +kernel
theorem dX0_helpThemselves_33 : decode cX0_helpThemselves 33 = .ok (.invokestatic 96, 3) := by decide +kernel
theorem dX0_helpThemselves_36 : decode cX0_helpThemselves 36 = .ok (.ifCond .ne 19, 3) := by decide +kernel
theorem dX0_helpThemselves_39 : decode cX0_helpThemselves 39 = .ok (.aload_n 1, 1) := by decide +kernel
theorem dX0_helpThemselves_40 : decode cX0_helpThemselves 40 = .ok (.iload_n 3, 1) := by decide +kernel
theorem dX0_helpThemselves_41 : decode cX0_helpThemselves 41 = .ok (.iconst 5, 1) := by decide +kernel
theorem dX0_helpThemselves_42 : decode cX0_helpThemselves 42 = .ok (.invokevirtual 86, 3) := by decide +kernel
theorem dX0_helpThemselves_45 : decode cX0_helpThemselves 45 = .ok (.aload_n 1, 1) := by decide +kernel
theorem dX0_helpThemselves_46 : decode cX0_helpThemselves 46 = .ok (.dup, 1) := by decide +kernel
theorem dX0_helpThemselves_47 : decode cX0_helpThemselves 47 = .ok (.getfield 100, 3) := by decide +kernel
theorem dX0_helpThemselves_50 : decode cX0_helpThemselves 50 = .ok (.iconst 1, 1) := by decide +kernel
theorem dX0_helpThemselves_51 : decode cX0_helpThemselves 51 = .ok (.iadd, 1) := by decide +kernel
theorem dX0_helpThemselves_52 : decode cX0_helpThemselves 52 = .ok (.putfield 100, 3) := by decide +kernel
theorem dX0_helpThemselves_55 : decode cX0_helpThemselves 55 = .ok (.iinc 3 1, 3) := by decide +kernel
theorem dX0_helpThemselves_58 : decode cX0_helpThemselves 58 = .ok (.goto (-45), 3) := by decide +kernel
theorem dX0_helpThemselves_61 : decode cX0_helpThemselves 61 = .ok (.return_, 1) := by decide +kernel
theorem dX0_isSoftTaken_0 : decode cX0_isSoftTaken 0 = .ok (.aload_n 1, 1) := by decide +kernel
theorem dX0_isSoftTaken_1 : decode cX0_isSoftTaken 1 = .ok (.getfield 70, 3) := by decide +kernel
theorem dX0_isSoftTaken_4 : decode cX0_isSoftTaken 4 = .ok (.iload_n 2, 1) := by decide +kernel
theorem dX0_isSoftTaken_5 : decode cX0_isSoftTaken 5 = .ok (.iaload, 1) := by decide +kernel
theorem dX0_isSoftTaken_6 : decode cX0_isSoftTaken 6 = .ok (.istore_n 3, 1) := by decide +kernel
theorem dX0_isSoftTaken_7 : decode cX0_isSoftTaken 7 = .ok (.iconst 1, 1) := by decide +kernel
theorem dX0_isSoftTaken_8 : decode cX0_isSoftTaken 8 = .ok (.aload_n 0, 1) := by decide +kernel
theorem dX0_isSoftTaken_9 : decode cX0_isSoftTaken 9 = .ok (.getfield 103, 3) := by decide +kernel
theorem dX0_isSoftTaken_12 : decode cX0_isSoftTaken 12 = .ok (.iload_n 3, 1) := by decide +kernel
theorem dX0_isSoftTaken_13 : decode cX0_isSoftTaken 13 = .ok (.iaload, 1) := by decide +kernel
theorem dX0_isSoftTaken_14 : decode cX0_isSoftTaken 14 = .ok (.invokestatic 106, 3) := by decide +kernel
theorem dX0_isSoftTaken_17 : decode cX0_isSoftTaken 17 = .ok (.istore 4, 2) := by decide +kernel
theorem dX0_isSoftTaken_19 : decode cX0_isSoftTaken 19 = .ok (.aload_n 0, 1) := by decide +kernel
theorem dX0_isSoftTaken_20 : decode cX0_isSoftTaken 20 = .ok (.getfield 109, 3) := by decide +kernel
theorem dX0_isSoftTaken_23 : decode cX0_isSoftTaken 23 = .ok (.iload_n 2, 1) := by decide +kernel
theorem dX0_isSoftTaken_24 : decode cX0_isSoftTaken 24 = .ok (.iaload, 1) := by decide +kernel
theorem dX0_isSoftTaken_25 : decode cX0_isSoftTaken 25 = .ok (.iload 4, 2) := by decide +kernel
theorem dX0_isSoftTaken_27 : decode cX0_isSoftTaken 27 = .ok (.irem, 1) := by decide +kernel
theorem dX0_isSoftTaken_28 : decode cX0_isSoftTaken 28 = .ok (.istore 5, 2) := by decide +kernel
theorem dX0_isSoftTaken_30 : decode cX0_isSoftTaken 30 = .ok (.iconst 0, 1) := by decide +kernel
theorem dX0_isSoftTaken_31 : decode cX0_isSoftTaken 31 = .ok (.istore 6, 2) := by decide +kernel
theorem dX0_isSoftTaken_33 : decode cX0_isSoftTaken 33 = .ok (.iload 6, 2) := by decide +kernel
theorem dX0_isSoftTaken_35 : decode cX0_isSoftTaken 35 = .ok (.aload_n 0, 1) := by decide +kernel
theorem dX0_isSoftTaken_36 : decode cX0_isSoftTaken 36 = .ok (.getfield 77, 3) := by decide +kernel
theorem dX0_isSoftTaken_39 : decode cX0_isSoftTaken 39 = .ok (.if_icmp .ge 48, 3) := by decide +kernel
theorem dX0_isSoftTaken_42 : decode cX0_isSoftTaken 42 = .ok (.aload_n 1, 1) := by decide +kernel
theorem dX0_isSoftTaken_43 : decode cX0_isSoftTaken 43 = .ok (.getfield 18, 3) := by decide +kernel
theorem dX0_isSoftTaken_46 : decode cX0_isSoftTaken 46 = .ok (.iload 6, 2) := by decide +kernel
theorem dX0_isSoftTaken_48 : decode cX0_isSoftTaken 48 = .ok (.iaload, 1) := by decide +kernel
theorem dX0_isSoftTaken_49 : decode cX0_isSoftTaken 49 = .ok (.iconst 5, 1) := by decide +kernel
theorem dX0_isSoftTaken_50 : decode cX0_isSoftTaken 50 = .ok (.if_icmp .ne 31, 3) := by decide +kernel
theorem dX0_isSoftTaken_53 : decode cX0_isSoftTaken 53 = .ok (.aload_n 1, 1) := by decide +kernel
theorem dX0_isSoftTaken_54 : decode cX0_isSoftTaken 54 = .ok (.getfield 70, 3) := by decide +kernel
theorem dX0_isSoftTaken_57 : decode cX0_isSoftTaken 57 = .ok (.iload 6, 2) := by decide +kernel
theorem dX0_isSoftTaken_59 : decode cX0_isSoftTaken 59 = .ok (.iaload, 1) := by decide +kernel
theorem dX0_isSoftTaken_60 : decode cX0_isSoftTaken 60 = .ok (.iload_n 3, 1) := by decide +kernel
theorem dX0_isSoftTaken_61 : decode cX0_isSoftTaken 61 = .ok (.if_icmp .ne 20, 3) := by decide +kernel
theorem dX0_isSoftTaken_64 : decode cX0_isSoftTaken 64 = .ok (.aload_n 0, 1) := by decide +kernel
theorem dX0_isSoftTaken_65 : decode cX0_isSoftTaken 65 = .ok (.getfield 109, 3) := by decide +kernel
theorem dX0_isSoftTaken_68 : decode cX0_isSoftTaken 68 = .ok (.iload 6, 2) := by decide +kernel
theorem dX0_isSoftTaken_70 : decode cX0_isSoftTaken 70 = .ok (.iaload, 1) := by decide +kernel
theorem dX0_isSoftTaken_71 : decode cX0_isSoftTaken 71 = .ok (.iload 4, 2) := by decide +kernel
theorem dX0_isSoftTaken_73 : decode cX0_isSoftTaken 73 = .ok (.irem, 1) := by decide +kernel
theorem dX0_isSoftTaken_74 : decode cX0_isSoftTaken 74 = .ok (.iload 5, 2) := by decide +kernel
theorem dX0_isSoftTaken_76 : decode cX0_isSoftTaken 76 = .ok (.if_icmp .ne 5, 3) := by decide +kernel
theorem dX0_isSoftTaken_79 : decode cX0_isSoftTaken 79 = .ok (.iconst 1, 1) := by decide +kernel
theorem dX0_isSoftTaken_80 : decode cX0_isSoftTaken 80 = .ok (.ireturn, 1) := by decide +kernel
theorem dX0_isSoftTaken_81 : decode cX0_isSoftTaken 81 = .ok (.iinc 6 1, 3) := by decide +kernel
theorem dX0_isSoftTaken_84 : decode cX0_isSoftTaken 84 = .ok (.goto (-51), 3) := by decide +kernel
theorem dX0_isSoftTaken_87 : decode cX0_isSoftTaken 87 = .ok (.iconst 0, 1) := by decide +kernel
theorem dX0_isSoftTaken_88 : decode cX0_isSoftTaken 88 = .ok (.ireturn, 1) := by decide +kernel
theorem dX0_tryAgain_0 : decode cX0_tryAgain 0 = .ok (.iconst 0, 1) := by decide +kernel
theorem dX0_tryAgain_1 : decode cX0_tryAgain 1 = .ok (.istore_n 3, 1) := by decide +kernel
theorem dX0_tryAgain_2 : decode cX0_tryAgain 2 = .ok (.iload_n 3, 1) := by decide +kernel
theorem dX0_tryAgain_3 : decode cX0_tryAgain 3 = .ok (.aload_n 1, 1) := by decide +kernel
theorem dX0_tryAgain_4 : decode cX0_tryAgain 4 = .ok (.getfield 77, 3) := by decide +kernel
theorem dX0_tryAgain_7 : decode cX0_tryAgain 7 = .ok (.if_icmp .ge 45, 3) := by decide +kernel
theorem dX0_tryAgain_10 : decode cX0_tryAgain 10 = .ok (.aload_n 0, 1) := by decide +kernel
theorem dX0_tryAgain_11 : decode cX0_tryAgain 11 = .ok (.getfield 15, 3) := by decide +kernel
theorem dX0_tryAgain_14 : decode cX0_tryAgain 14 = .ok (.iload_n 3, 1) := by decide +kernel
theorem dX0_tryAgain_15 : decode cX0_tryAgain 15 = .ok (.iaload, 1) := by decide +kernel
theorem dX0_tryAgain_16 : decode cX0_tryAgain 16 = .ok (.iconst 2, 1) := by decide +kernel
theorem dX0_tryAgain_17 : decode cX0_tryAgain 17 = .ok (.if_icmp .ne 29, 3) := by decide +kernel
theorem dX0_tryAgain_20 : decode cX0_tryAgain 20 = .ok (.aload_n 2, 1) := by decide +kernel
theorem dX0_tryAgain_21 : decode cX0_tryAgain 21 = .ok (.getfield 90, 3) := by decide +kernel
theorem dX0_tryAgain_24 : decode cX0_tryAgain 24 = .ok (.iload_n 3, 1) := by decide +kernel
theorem dX0_tryAgain_25 : decode cX0_tryAgain 25 = .ok (.dup2, 1) := by decide +kernel
theorem dX0_tryAgain_26 : decode cX0_tryAgain 26 = .ok (.iaload, 1) := by decide +kernel
theorem dX0_tryAgain_27 : decode cX0_tryAgain 27 = .ok (.iconst 1, 1) := by decide +kernel
theorem dX0_tryAgain_28 : decode cX0_tryAgain 28 = .ok (.isub, 1) := by decide +kernel
theorem dX0_tryAgain_29 : decode cX0_tryAgain 29 = .ok (.iastore, 1) := by decide +kernel
theorem dX0_tryAgain_30 : decode cX0_tryAgain 30 = .ok (.aload_n 2, 1) := by decide +kernel
theorem dX0_tryAgain_31 : decode cX0_tryAgain 31 = .ok (.getfield 90, 3) := by decide +kernel
theorem dX0_tryAgain_34 : decode cX0_tryAgain 34 = .ok (.iload_n 3, 1) := by decide +kernel
theorem dX0_tryAgain_35 : decode cX0_tryAgain 35 = .ok (.iaload, 1) := by decide +kernel
theorem dX0_tryAgain_36 : decode cX0_tryAgain 36 = .ok (.iconst 1, 1) := by decide +kernel
theorem dX0_tryAgain_37 : decode cX0_tryAgain 37 = .ok (.if_icmp .ge 9, 3) := by decide +kernel
theorem dX0_tryAgain_40 : decode cX0_tryAgain 40 = .ok (.aload_n 2, 1) := by decide +kernel
theorem dX0_tryAgain_41 : decode cX0_tryAgain 41 = .ok (.iload_n 3, 1) := by decide +kernel
theorem dX0_tryAgain_42 : decode cX0_tryAgain 42 = .ok (.iconst 1, 1) := by decide +kernel
theorem dX0_tryAgain_43 : decode cX0_tryAgain 43 = .ok (.invokevirtual 86, 3) := by decide +kernel
theorem dX0_tryAgain_46 : decode cX0_tryAgain 46 = .ok (.iinc 3 1, 3) := by decide +kernel
theorem dX0_tryAgain_49 : decode cX0_tryAgain 49 = .ok (.goto (-47), 3) := by decide +kernel
theorem dX0_tryAgain_52 : decode cX0_tryAgain 52 = .ok (.return_, 1) := by decide +kernel
theorem dX0_cutLongTalks_0 : decode cX0_cutLongTalks 0 = .ok (.iconst 0, 1) := by decide +kernel
theorem dX0_cutLongTalks_1 : decode cX0_cutLongTalks 1 = .ok (.istore_n 3, 1) := by decide +kernel
theorem dX0_cutLongTalks_2 : decode cX0_cutLongTalks 2 = .ok (.iload_n 3, 1) := by decide +kernel
theorem dX0_cutLongTalks_3 : decode cX0_cutLongTalks 3 = .ok (.aload_n 1, 1) := by decide +kernel
theorem dX0_cutLongTalks_4 : decode cX0_cutLongTalks 4 = .ok (.getfield 77, 3) := by decide +kernel
theorem dX0_cutLongTalks_7 : decode cX0_cutLongTalks 7 = .ok (.if_icmp .ge 67, 3) := by decide +kernel
theorem dX0_cutLongTalks_10 : decode cX0_cutLongTalks 10 = .ok (.aload_n 0, 1) := by decide +kernel
theorem dX0_cutLongTalks_11 : decode cX0_cutLongTalks 11 = .ok (.getfield 15, 3) := by decide +kernel
theorem dX0_cutLongTalks_14 : decode cX0_cutLongTalks 14 = .ok (.iload_n 3, 1) := by decide +kernel
theorem dX0_cutLongTalks_15 : decode cX0_cutLongTalks 15 = .ok (.iaload, 1) := by decide +kernel
theorem dX0_cutLongTalks_16 : decode cX0_cutLongTalks 16 = .ok (.iconst 4, 1) := by decide +kernel
theorem dX0_cutLongTalks_17 : decode cX0_cutLongTalks 17 = .ok (.if_icmp .eq 13, 3) := by decide +kernel
theorem dX0_cutLongTalks_20 : decode cX0_cutLongTalks 20 = .ok (.aload_n 0, 1) := by decide +kernel
theorem dX0_cutLongTalks_21 : decode cX0_cutLongTalks 21 = .ok (.getfield 15, 3) := by decide +kernel
theorem dX0_cutLongTalks_24 : decode cX0_cutLongTalks 24 = .ok (.iload_n 3, 1) := by decide +kernel
theorem dX0_cutLongTalks_25 : decode cX0_cutLongTalks 25 = .ok (.iaload, 1) := by decide +kernel
theorem dX0_cutLongTalks_26 : decode cX0_cutLongTalks 26 = .ok (.iconst 5, 1) := by decide +kernel
theorem dX0_cutLongTalks_27 : decode cX0_cutLongTalks 27 = .ok (.if_icmp .ne 41, 3) := by decide +kernel
theorem dX0_cutLongTalks_30 : decode cX0_cutLongTalks 30 = .ok (.aload_n 2, 1) := by decide +kernel
theorem dX0_cutLongTalks_31 : decode cX0_cutLongTalks 31 = .ok (.getfield 90, 3) := by decide +kernel
theorem dX0_cutLongTalks_34 : decode cX0_cutLongTalks 34 = .ok (.iload_n 3, 1) := by decide +kernel
theorem dX0_cutLongTalks_35 : decode cX0_cutLongTalks 35 = .ok (.dup2, 1) := by decide +kernel
theorem dX0_cutLongTalks_36 : decode cX0_cutLongTalks 36 = .ok (.iaload, 1) := by decide +kernel
theorem dX0_cutLongTalks_37 : decode cX0_cutLongTalks 37 = .ok (.iconst 1, 1) := by decide +kernel
theorem dX0_cutLongTalks_38 : decode cX0_cutLongTalks 38 = .ok (.iadd, 1) := by decide +kernel
theorem dX0_cutLongTalks_39 : decode cX0_cutLongTalks 39 = .ok (.iastore, 1) := by decide +kernel
theorem dX0_cutLongTalks_40 : decode cX0_cutLongTalks 40 = .ok (.aload_n 2, 1) := by decide +kernel
theorem dX0_cutLongTalks_41 : decode cX0_cutLongTalks 41 = .ok (.getfield 90, 3) := by decide +kernel
theorem dX0_cutLongTalks_44 : decode cX0_cutLongTalks 44 = .ok (.iload_n 3, 1) := by decide +kernel
theorem dX0_cutLongTalks_45 : decode cX0_cutLongTalks 45 = .ok (.iaload, 1) := by decide +kernel
theorem dX0_cutLongTalks_46 : decode cX0_cutLongTalks 46 = .ok (.aload_n 1, 1) := by decide +kernel
theorem dX0_cutLongTalks_47 : decode cX0_cutLongTalks 47 = .ok (.getfield 112, 3) := by decide +kernel
theorem dX0_cutLongTalks_50 : decode cX0_cutLongTalks 50 = .ok (.if_icmp .lt 18, 3) := by decide +kernel
theorem dX0_cutLongTalks_53 : decode cX0_cutLongTalks 53 = .ok (.aload_n 2, 1) := by decide +kernel
theorem dX0_cutLongTalks_54 : decode cX0_cutLongTalks 54 = .ok (.iload_n 3, 1) := by decide +kernel
theorem dX0_cutLongTalks_55 : decode cX0_cutLongTalks 55 = .ok (.invokevirtual 115, 3) := by decide +kernel
theorem dX0_cutLongTalks_58 : decode cX0_cutLongTalks 58 = .ok (.aload_n 2, 1) := by decide +kernel
theorem dX0_cutLongTalks_59 : decode cX0_cutLongTalks 59 = .ok (.dup, 1) := by decide +kernel
theorem dX0_cutLongTalks_60 : decode cX0_cutLongTalks 60 = .ok (.getfield 119, 3) := by decide +kernel
theorem dX0_cutLongTalks_63 : decode cX0_cutLongTalks 63 = .ok (.iconst 1, 1) := by decide +kernel
theorem dX0_cutLongTalks_64 : decode cX0_cutLongTalks 64 = .ok (.iadd, 1) := by decide +kernel
theorem dX0_cutLongTalks_65 : decode cX0_cutLongTalks 65 = .ok (.putfield 119, 3) := by decide +kernel
theorem dX0_cutLongTalks_68 : decode cX0_cutLongTalks 68 = .ok (.iinc 3 1, 3) := by decide +kernel
theorem dX0_cutLongTalks_71 : decode cX0_cutLongTalks 71 = .ok (.goto (-69), 3) := by decide +kernel
theorem dX0_cutLongTalks_74 : decode cX0_cutLongTalks 74 = .ok (.return_, 1) := by decide +kernel
theorem dX0_lineUp_0 : decode cX0_lineUp 0 = .ok (.iconst 0, 1) := by decide +kernel
theorem dX0_lineUp_1 : decode cX0_lineUp 1 = .ok (.istore_n 3, 1) := by decide +kernel
theorem dX0_lineUp_2 : decode cX0_lineUp 2 = .ok (.iconst 0, 1) := by decide +kernel
theorem dX0_lineUp_3 : decode cX0_lineUp 3 = .ok (.istore 4, 2) := by decide +kernel
theorem dX0_lineUp_5 : decode cX0_lineUp 5 = .ok (.iload 4, 2) := by decide +kernel
theorem dX0_lineUp_7 : decode cX0_lineUp 7 = .ok (.aload_n 1, 1) := by decide +kernel
theorem dX0_lineUp_8 : decode cX0_lineUp 8 = .ok (.getfield 77, 3) := by decide +kernel
theorem dX0_lineUp_11 : decode cX0_lineUp 11 = .ok (.if_icmp .ge 84, 3) := by decide +kernel
theorem dX0_lineUp_14 : decode cX0_lineUp 14 = .ok (.aload_n 2, 1) := by decide +kernel
theorem dX0_lineUp_15 : decode cX0_lineUp 15 = .ok (.getfield 18, 3) := by decide +kernel
theorem dX0_lineUp_18 : decode cX0_lineUp 18 = .ok (.iload 4, 2) := by decide +kernel
theorem dX0_lineUp_20 : decode cX0_lineUp 20 = .ok (.iaload, 1) := by decide +kernel
theorem dX0_lineUp_21 : decode cX0_lineUp 21 = .ok (.iconst 3, 1) := by decide +kernel
theorem dX0_lineUp_22 : decode cX0_lineUp 22 = .ok (.if_icmp .eq 6, 3) := by decide +kernel
theorem dX0_lineUp_25 : decode cX0_lineUp 25 = .ok (.goto 64, 3) := by decide +kernel
theorem dX0_lineUp_28 : decode cX0_lineUp 28 = .ok (.iload_n 3, 1) := by decide +kernel
theorem dX0_lineUp_29 : decode cX0_lineUp 29 = .ok (.istore 5, 2) := by decide +kernel
theorem dX0_lineUp_31 : decode cX0_lineUp 31 = .ok (.iload 5, 2) := by decide +kernel
theorem dX0_lineUp_33 : decode cX0_lineUp 33 = .ok (.ifCond .le 44, 3) := by decide +kernel
theorem dX0_lineUp_36 : decode cX0_lineUp 36 = .ok (.aload_n 1, 1) := by decide +kernel
theorem dX0_lineUp_37 : decode cX0_lineUp 37 = .ok (.aload_n 2, 1) := by decide +kernel
theorem dX0_lineUp_38 : decode cX0_lineUp 38 = .ok (.iload 4, 2) := by decide +kernel
theorem dX0_lineUp_40 : decode cX0_lineUp 40 = .ok (.aload_n 0, 1) := by decide +kernel
theorem dX0_lineUp_41 : decode cX0_lineUp 41 = .ok (.getfield 9, 3) := by decide +kernel
theorem dX0_lineUp_44 : decode cX0_lineUp 44 = .ok (.iload 5, 2) := by decide +kernel
theorem dX0_lineUp_46 : decode cX0_lineUp 46 = .ok (.iconst 1, 1) := by decide +kernel
theorem dX0_lineUp_47 : decode cX0_lineUp 47 = .ok (.isub, 1) := by decide +kernel
theorem dX0_lineUp_48 : decode cX0_lineUp 48 = .ok (.iaload, 1) := by decide +kernel
theorem dX0_lineUp_49 : decode cX0_lineUp 49 = .ok (.invokestatic 122, 3) := by decide +kernel
theorem dX0_lineUp_52 : decode cX0_lineUp 52 = .ok (.ifCond .eq 25, 3) := by decide +kernel
theorem dX0_lineUp_55 : decode cX0_lineUp 55 = .ok (.aload_n 0, 1) := by decide +kernel
theorem dX0_lineUp_56 : decode cX0_lineUp 56 = .ok (.getfield 9, 3) := by decide +kernel
theorem dX0_lineUp_59 : decode cX0_lineUp 59 = .ok (.iload 5, 2) := by decide +kernel
theorem dX0_lineUp_61 : decode cX0_lineUp 61 = .ok (.aload_n 0, 1) := by decide +kernel
theorem dX0_lineUp_62 : decode cX0_lineUp 62 = .ok (.getfield 9, 3) := by decide +kernel
theorem dX0_lineUp_65 : decode cX0_lineUp 65 = .ok (.iload 5, 2) := by decide +kernel
theorem dX0_lineUp_67 : decode cX0_lineUp 67 = .ok (.iconst 1, 1) := by decide +kernel
theorem dX0_lineUp_68 : decode cX0_lineUp 68 = .ok (.isub, 1) := by decide +kernel
theorem dX0_lineUp_69 : decode cX0_lineUp 69 = .ok (.iaload, 1) := by decide +kernel
theorem dX0_lineUp_70 : decode cX0_lineUp 70 = .ok (.iastore, 1) := by decide +kernel
theorem dX0_lineUp_71 : decode cX0_lineUp 71 = .ok (.iinc 5 (-1), 3) := by decide +kernel
theorem dX0_lineUp_74 : decode cX0_lineUp 74 = .ok (.goto (-43), 3) := by decide +kernel
theorem dX0_lineUp_77 : decode cX0_lineUp 77 = .ok (.aload_n 0, 1) := by decide +kernel
theorem dX0_lineUp_78 : decode cX0_lineUp 78 = .ok (.getfield 9, 3) := by decide +kernel
theorem dX0_lineUp_81 : decode cX0_lineUp 81 = .ok (.iload 5, 2) := by decide +kernel
theorem dX0_lineUp_83 : decode cX0_lineUp 83 = .ok (.iload 4, 2) := by decide +kernel
theorem dX0_lineUp_85 : decode cX0_lineUp 85 = .ok (.iastore, 1) := by decide +kernel
theorem dX0_lineUp_86 : decode cX0_lineUp 86 = .ok (.iinc 3 1, 3) := by decide +kernel
theorem dX0_lineUp_89 : decode cX0_lineUp 89 = .ok (.iinc 4 1, 3) := by decide +kernel
theorem dX0_lineUp_92 : decode cX0_lineUp 92 = .ok (.goto (-87), 3) := by decide +kernel
theorem dX0_lineUp_95 : decode cX0_lineUp 95 = .ok (.iload_n 3, 1) := by decide +kernel
theorem dX0_lineUp_96 : decode cX0_lineUp 96 = .ok (.ireturn, 1) := by decide +kernel
theorem dX0_isAhead_0 : decode cX0_isAhead 0 = .ok (.aload_n 1, 1) := by decide +kernel
theorem dX0_isAhead_1 : decode cX0_isAhead 1 = .ok (.getfield 93, 3) := by decide +kernel
theorem dX0_isAhead_4 : decode cX0_isAhead 4 = .ok (.iload_n 2, 1) := by decide +kernel
theorem dX0_isAhead_5 : decode cX0_isAhead 5 = .ok (.iaload, 1) := by decide +kernel
theorem dX0_isAhead_6 : decode cX0_isAhead 6 = .ok (.aload_n 1, 1) := by decide +kernel
theorem dX0_isAhead_7 : decode cX0_isAhead 7 = .ok (.getfield 93, 3) := by decide +kernel
theorem dX0_isAhead_10 : decode cX0_isAhead 10 = .ok (.iload_n 3, 1) := by decide +kernel
theorem dX0_isAhead_11 : decode cX0_isAhead 11 = .ok (.iaload, 1) := by decide +kernel
theorem dX0_isAhead_12 : decode cX0_isAhead 12 = .ok (.if_icmp .eq 19, 3) := by decide +kernel
theorem dX0_isAhead_15 : decode cX0_isAhead 15 = .ok (.aload_n 1, 1) := by decide +kernel
theorem dX0_isAhead_16 : decode cX0_isAhead 16 = .ok (.getfield 93, 3) := by decide +kernel
theorem dX0_isAhead_19 : decode cX0_isAhead 19 = .ok (.iload_n 2, 1) := by decide +kernel
theorem dX0_isAhead_20 : decode cX0_isAhead 20 = .ok (.iaload, 1) := by decide +kernel
theorem dX0_isAhead_21 : decode cX0_isAhead 21 = .ok (.iconst 1, 1) := by decide +kernel
theorem dX0_isAhead_22 : decode cX0_isAhead 22 = .ok (.if_icmp .ne 7, 3) := by decide +kernel
theorem dX0_isAhead_25 : decode cX0_isAhead 25 = .ok (.iconst 1, 1) := by decide +kernel
theorem dX0_isAhead_26 : decode cX0_isAhead 26 = .ok (.goto 4, 3) := by decide +kernel
theorem dX0_isAhead_29 : decode cX0_isAhead 29 = .ok (.iconst 0, 1) := by decide +kernel
theorem dX0_isAhead_30 : decode cX0_isAhead 30 = .ok (.ireturn, 1) := by decide +kernel
theorem dX0_isAhead_31 : decode cX0_isAhead 31 = .ok (.iconst 4, 1) := by decide +kernel
theorem dX0_isAhead_32 : decode cX0_isAhead 32 = .ok (.aload_n 0, 1) := by decide +kernel
theorem dX0_isAhead_33 : decode cX0_isAhead 33 = .ok (.getfield 126, 3) := by decide +kernel
theorem dX0_isAhead_36 : decode cX0_isAhead 36 = .ok (.iload_n 2, 1) := by decide +kernel
theorem dX0_isAhead_37 : decode cX0_isAhead 37 = .ok (.iaload, 1) := by decide +kernel
theorem dX0_isAhead_38 : decode cX0_isAhead 38 = .ok (.imul, 1) := by decide +kernel
theorem dX0_isAhead_39 : decode cX0_isAhead 39 = .ok (.aload_n 1, 1) := by decide +kernel
theorem dX0_isAhead_40 : decode cX0_isAhead 40 = .ok (.getfield 90, 3) := by decide +kernel
theorem dX0_isAhead_43 : decode cX0_isAhead 43 = .ok (.iload_n 2, 1) := by decide +kernel
theorem dX0_isAhead_44 : decode cX0_isAhead 44 = .ok (.iaload, 1) := by decide +kernel
theorem dX0_isAhead_45 : decode cX0_isAhead 45 = .ok (.iadd, 1) := by decide +kernel
theorem dX0_isAhead_46 : decode cX0_isAhead 46 = .ok (.iconst 4, 1) := by decide +kernel
theorem dX0_isAhead_47 : decode cX0_isAhead 47 = .ok (.aload_n 0, 1) := by decide +kernel
theorem dX0_isAhead_48 : decode cX0_isAhead 48 = .ok (.getfield 126, 3) := by decide +kernel
theorem dX0_isAhead_51 : decode cX0_isAhead 51 = .ok (.iload_n 3, 1) := by decide +kernel
theorem dX0_isAhead_52 : decode cX0_isAhead 52 = .ok (.iaload, 1) := by decide +kernel
theorem dX0_isAhead_53 : decode cX0_isAhead 53 = .ok (.imul, 1) := by decide +kernel
theorem dX0_isAhead_54 : decode cX0_isAhead 54 = .ok (.aload_n 1, 1) := by decide +kernel
theorem dX0_isAhead_55 : decode cX0_isAhead 55 = .ok (.getfield 90, 3) := by decide +kernel
theorem dX0_isAhead_58 : decode cX0_isAhead 58 = .ok (.iload_n 3, 1) := by decide +kernel
theorem dX0_isAhead_59 : decode cX0_isAhead 59 = .ok (.iaload, 1) := by decide +kernel
theorem dX0_isAhead_60 : decode cX0_isAhead 60 = .ok (.iadd, 1) := by decide +kernel
theorem dX0_isAhead_61 : decode cX0_isAhead 61 = .ok (.if_icmp .le 7, 3) := by decide +kernel
theorem dX0_isAhead_64 : decode cX0_isAhead 64 = .ok (.iconst 1, 1) := by decide +kernel
theorem dX0_isAhead_65 : decode cX0_isAhead 65 = .ok (.goto 4, 3) := by decide +kernel
theorem dX0_isAhead_68 : decode cX0_isAhead 68 = .ok (.iconst 0, 1) := by decide +kernel
theorem dX0_isAhead_69 : decode cX0_isAhead 69 = .ok (.ireturn, 1) := by decide +kernel
theorem dX0_serve_0 : decode cX0_serve 0 = .ok (.aload_n 1, 1) := by decide +kernel
theorem dX0_serve_1 : decode cX0_serve 1 = .ok (.getfield 93, 3) := by decide +kernel
theorem dX0_serve_4 : decode cX0_serve 4 = .ok (.iload_n 2, 1) := by decide +kernel
theorem dX0_serve_5 : decode cX0_serve 5 = .ok (.iaload, 1) := by decide +kernel
theorem dX0_serve_6 : decode cX0_serve 6 = .ok (.iconst 1, 1) := by decide +kernel
theorem dX0_serve_7 : decode cX0_serve 7 = .ok (.if_icmp .ne 7, 3) := by decide +kernel
theorem dX0_serve_10 : decode cX0_serve 10 = .ok (.iconst 1, 1) := by decide +kernel
theorem dX0_serve_11 : decode cX0_serve 11 = .ok (.goto 4, 3) := by decide +kernel
theorem dX0_serve_14 : decode cX0_serve 14 = .ok (.iconst 0, 1) := by decide +kernel
theorem dX0_serve_15 : decode cX0_serve 15 = .ok (.istore_n 3, 1) := by decide +kernel
theorem dX0_serve_16 : decode cX0_serve 16 = .ok (.aload_n 1, 1) := by decide +kernel
theorem dX0_serve_17 : decode cX0_serve 17 = .ok (.aload_n 0, 1) := by decide +kernel
theorem dX0_serve_18 : decode cX0_serve 18 = .ok (.aload_n 0, 1) := by decide +kernel
theorem dX0_serve_19 : decode cX0_serve 19 = .ok (.getfield 109, 3) := by decide +kernel
theorem dX0_serve_22 : decode cX0_serve 22 = .ok (.iload_n 2, 1) := by decide +kernel
theorem dX0_serve_23 : decode cX0_serve 23 = .ok (.iaload, 1) := by decide +kernel
theorem dX0_serve_24 : decode cX0_serve 24 = .ok (.invokevirtual 129, 3) := by decide +kernel
theorem dX0_serve_27 : decode cX0_serve 27 = .ok (.istore 4, 2) := by decide +kernel
theorem dX0_serve_29 : decode cX0_serve 29 = .ok (.iload 4, 2) := by decide +kernel
theorem dX0_serve_31 : decode cX0_serve 31 = .ok (.bipush (-9), 2) := by decide +kernel
theorem dX0_serve_33 : decode cX0_serve 33 = .ok (.if_icmp .eq 25, 3) := by decide +kernel
theorem dX0_serve_36 : decode cX0_serve 36 = .ok (.iload_n 3, 1) := by decide +kernel
theorem dX0_serve_37 : decode cX0_serve 37 = .ok (.ifCond .eq 14, 3) := by decide +kernel
theorem dX0_serve_40 : decode cX0_serve 40 = .ok (.aload_n 1, 1) := by decide +kernel
theorem dX0_serve_41 : decode cX0_serve 41 = .ok (.getfield 93, 3) := by decide +kernel
theorem dX0_serve_44 : decode cX0_serve 44 = .ok (.iload 4, 2) := by decide +kernel
theorem dX0_serve_46 : decode cX0_serve 46 = .ok (.iaload, 1) := by decide +kernel
theorem dX0_serve_47 : decode cX0_serve 47 = .ok (.iconst 1, 1) := by decide +kernel
theorem dX0_serve_48 : decode cX0_serve 48 = .ok (.if_icmp .ne 4, 3) := by decide +kernel
theorem dX0_serve_51 : decode cX0_serve 51 = .ok (.return_, 1) := by decide +kernel
theorem dX0_serve_52 : decode cX0_serve 52 = .ok (.aload_n 1, 1) := by decide +kernel
theorem dX0_serve_53 : decode cX0_serve 53 = .ok (.iload 4, 2) := by decide +kernel
theorem dX0_serve_55 : decode cX0_serve 55 = .ok (.invokevirtual 115, 3) := by decide +kernel
theorem dX0_serve_58 : decode cX0_serve 58 = .ok (.aload_n 0, 1) := by decide +kernel
theorem dX0_serve_59 : decode cX0_serve 59 = .ok (.aload_n 1, 1) := by decide +kernel
theorem dX0_serve_60 : decode cX0_serve 60 = .ok (.iload_n 2, 1) := by decide +kernel
theorem dX0_serve_61 : decode cX0_serve 61 = .ok (.invokestatic 133, 3) := by decide +kernel
theorem dX0_serve_64 : decode cX0_serve 64 = .ok (.istore 5, 2) := by decide +kernel
theorem dX0_serve_66 : decode cX0_serve 66 = .ok (.iload_n 3, 1) := by decide +kernel
theorem dX0_serve_67 : decode cX0_serve 67 = .ok (.ifCond .eq 10, 3) := by decide +kernel
theorem dX0_serve_70 : decode cX0_serve 70 = .ok (.aload_n 0, 1) := by decide +kernel
theorem dX0_serve_71 : decode cX0_serve 71 = .ok (.aload_n 1, 1) := by decide +kernel
theorem dX0_serve_72 : decode cX0_serve 72 = .ok (.iload 5, 2) := by decide +kernel
theorem dX0_serve_74 : decode cX0_serve 74 = .ok (.invokestatic 136, 3) := by decide +kernel
theorem dX0_serve_77 : decode cX0_serve 77 = .ok (.iload 5, 2) := by decide +kernel
theorem dX0_serve_79 : decode cX0_serve 79 = .ok (.aload_n 1, 1) := by decide +kernel
theorem dX0_serve_80 : decode cX0_serve 80 = .ok (.aload_n 0, 1) := by decide +kernel
theorem dX0_serve_81 : decode cX0_serve 81 = .ok (.invokevirtual 139, 3) := by decide +kernel
theorem dX0_serve_84 : decode cX0_serve 84 = .ok (.iand, 1) := by decide +kernel
theorem dX0_serve_85 : decode cX0_serve 85 = .ok (.ifCond .ne 27, 3) := by decide +kernel
theorem dX0_serve_88 : decode cX0_serve 88 = .ok (.aload_n 1, 1) := by decide +kernel
theorem dX0_serve_89 : decode cX0_serve 89 = .ok (.iload_n 2, 1) := by decide +kernel
theorem dX0_serve_90 : decode cX0_serve 90 = .ok (.iconst 4, 1) := by decide +kernel
theorem dX0_serve_91 : decode cX0_serve 91 = .ok (.invokevirtual 86, 3) := by decide +kernel
theorem dX0_serve_94 : decode cX0_serve 94 = .ok (.aload_n 1, 1) := by decide +kernel
theorem dX0_serve_95 : decode cX0_serve 95 = .ok (.getfield 143, 3) := by decide +kernel
theorem dX0_serve_98 : decode cX0_serve 98 = .ok (.iload_n 2, 1) := by decide +kernel
theorem dX0_serve_99 : decode cX0_serve 99 = .ok (.iload 5, 2) := by decide +kernel
theorem dX0_serve_101 : decode cX0_serve 101 = .ok (.iastore, 1) := by decide +kernel
theorem dX0_serve_102 : decode cX0_serve 102 = .ok (.aload_n 1, 1) := by decide +kernel
theorem dX0_serve_103 : decode cX0_serve 103 = .ok (.dup, 1) := by decide +kernel
theorem dX0_serve_104 : decode cX0_serve 104 = .ok (.getfield 100, 3) := by decide +kernel
theorem dX0_serve_107 : decode cX0_serve 107 = .ok (.iconst 1, 1) := by decide +kernel
theorem dX0_serve_108 : decode cX0_serve 108 = .ok (.iadd, 1) := by decide +kernel
theorem dX0_serve_109 : decode cX0_serve 109 = .ok (.putfield 100, 3) := by decide +kernel
theorem dX0_serve_112 : decode cX0_serve 112 = .ok (.return_, 1) := by decide +kernel
theorem dX0_sitesNeeded_0 : decode cX0_sitesNeeded 0 = .ok (.aload_n 1, 1) := by decide +kernel
theorem dX0_sitesNeeded_1 : decode cX0_sitesNeeded 1 = .ok (.getfield 70, 3) := by decide +kernel
theorem dX0_sitesNeeded_4 : decode cX0_sitesNeeded 4 = .ok (.iload_n 2, 1) := by decide +kernel
theorem dX0_sitesNeeded_5 : decode cX0_sitesNeeded 5 = .ok (.iaload, 1) := by decide +kernel
theorem dX0_sitesNeeded_6 : decode cX0_sitesNeeded 6 = .ok (.istore_n 3, 1) := by decide +kernel
theorem dX0_sitesNeeded_7 : decode cX0_sitesNeeded 7 = .ok (.iconst 1, 1) := by decide +kernel
theorem dX0_sitesNeeded_8 : decode cX0_sitesNeeded 8 = .ok (.iload_n 3, 1) := by decide +kernel
theorem dX0_sitesNeeded_9 : decode cX0_sitesNeeded 9 = .ok (.isub, 1) := by decide +kernel
theorem dX0_sitesNeeded_10 : decode cX0_sitesNeeded 10 = .ok (.istore 4, 2) := by decide +kernel
theorem dX0_sitesNeeded_12 : decode cX0_sitesNeeded 12 = .ok (.aload_n 1, 1) := by decide +kernel
theorem dX0_sitesNeeded_13 : decode cX0_sitesNeeded 13 = .ok (.iload 4, 2) := by decide +kernel
theorem dX0_sitesNeeded_15 : decode cX0_sitesNeeded 15 = .ok (.invokevirtual 29, 3) := by decide +kernel
theorem dX0_sitesNeeded_18 : decode cX0_sitesNeeded 18 = .ok (.ifCond .eq 51, 3) := by decide +kernel
theorem dX0_sitesNeeded_21 : decode cX0_sitesNeeded 21 = .ok (.iconst 0, 1) := by decide +kernel
theorem dX0_sitesNeeded_22 : decode cX0_sitesNeeded 22 = .ok (.istore 5, 2) := by decide +kernel
theorem dX0_sitesNeeded_24 : decode cX0_sitesNeeded 24 = .ok (.iload 5, 2) := by decide +kernel
theorem dX0_sitesNeeded_26 : decode cX0_sitesNeeded 26 = .ok (.aload_n 0, 1) := by decide +kernel
theorem dX0_sitesNeeded_27 : decode cX0_sitesNeeded 27 = .ok (.getfield 77, 3) := by decide +kernel
theorem dX0_sitesNeeded_30 : decode cX0_sitesNeeded 30 = .ok (.if_icmp .ge 39, 3) := by decide +kernel
theorem dX0_sitesNeeded_33 : decode cX0_sitesNeeded 33 = .ok (.aload_n 1, 1) := by decide +kernel
theorem dX0_sitesNeeded_34 : decode cX0_sitesNeeded 34 = .ok (.getfield 70, 3) := by decide +kernel
theorem dX0_sitesNeeded_37 : decode cX0_sitesNeeded 37 = .ok (.iload 5, 2) := by decide +kernel
theorem dX0_sitesNeeded_39 : decode cX0_sitesNeeded 39 = .ok (.iaload, 1) := by decide +kernel
theorem dX0_sitesNeeded_40 : decode cX0_sitesNeeded 40 = .ok (.iload 4, 2) := by decide +kernel
theorem dX0_sitesNeeded_42 : decode cX0_sitesNeeded 42 = .ok (.if_icmp .ne 21, 3) := by decide +kernel
theorem dX0_sitesNeeded_45 : decode cX0_sitesNeeded 45 = .ok (.aload_n 0, 1) := by decide +kernel
theorem dX0_sitesNeeded_46 : decode cX0_sitesNeeded 46 = .ok (.getfield 109, 3) := by decide +kernel
theorem dX0_sitesNeeded_49 : decode cX0_sitesNeeded 49 = .ok (.iload 5, 2) := by decide +kernel
theorem dX0_sitesNeeded_51 : decode cX0_sitesNeeded 51 = .ok (.iaload, 1) := by decide +kernel
theorem dX0_sitesNeeded_52 : decode cX0_sitesNeeded 52 = .ok (.aload_n 0, 1) := by decide +kernel
theorem dX0_sitesNeeded_53 : decode cX0_sitesNeeded 53 = .ok (.getfield 109, 3) := by decide +kernel
theorem dX0_sitesNeeded_56 : decode cX0_sitesNeeded 56 = .ok (.iload_n 2, 1) := by decide +kernel
theorem dX0_sitesNeeded_57 : decode cX0_sitesNeeded 57 = .ok (.iaload, 1) := by decide +kernel
theorem dX0_sitesNeeded_58 : decode cX0_sitesNeeded 58 = .ok (.if_icmp .ne 5, 3) := by decide +kernel
theorem dX0_sitesNeeded_61 : decode cX0_sitesNeeded 61 = .ok (.iconst 3, 1) := by decide +kernel
theorem dX0_sitesNeeded_62 : decode cX0_sitesNeeded 62 = .ok (.ireturn, 1) := by decide +kernel
theorem dX0_sitesNeeded_63 : decode cX0_sitesNeeded 63 = .ok (.iinc 5 1, 3) := by decide +kernel
theorem dX0_sitesNeeded_66 : decode cX0_sitesNeeded 66 = .ok (.goto (-42), 3) := by decide +kernel
theorem dX0_sitesNeeded_69 : decode cX0_sitesNeeded 69 = .ok (.iconst 1, 1) := by decide +kernel
theorem dX0_sitesNeeded_70 : decode cX0_sitesNeeded 70 = .ok (.iload_n 3, 1) := by decide +kernel
theorem dX0_sitesNeeded_71 : decode cX0_sitesNeeded 71 = .ok (.ishl, 1) := by decide +kernel
theorem dX0_sitesNeeded_72 : decode cX0_sitesNeeded 72 = .ok (.ireturn, 1) := by decide +kernel
theorem dX0_takeOver_0 : decode cX0_takeOver 0 = .ok (.iload_n 2, 1) := by decide +kernel
theorem dX0_takeOver_1 : decode cX0_takeOver 1 = .ok (.aload_n 1, 1) := by decide +kernel
theorem dX0_takeOver_2 : decode cX0_takeOver 2 = .ok (.aload_n 0, 1) := by decide +kernel
theorem dX0_takeOver_3 : decode cX0_takeOver 3 = .ok (.invokevirtual 139, 3) := by decide +kernel
theorem dX0_takeOver_6 : decode cX0_takeOver 6 = .ok (.iand, 1) := by decide +kernel
theorem dX0_takeOver_7 : decode cX0_takeOver 7 = .ok (.istore_n 3, 1) := by decide +kernel
theorem dX0_takeOver_8 : decode cX0_takeOver 8 = .ok (.iconst 0, 1) := by decide +kernel
theorem dX0_takeOver_9 : decode cX0_takeOver 9 = .ok (.istore 4, 2) := by decide +kernel
theorem dX0_takeOver_11 : decode cX0_takeOver 11 = .ok (.iload 4, 2) := by decide +kernel
theorem dX0_takeOver_13 : decode cX0_takeOver 13 = .ok (.iconst 2, 1) := by decide +kernel
theorem dX0_takeOver_14 : decode cX0_takeOver 14 = .ok (.if_icmp .ge 32, 3) := by decide +kernel
theorem dX0_takeOver_17 : decode cX0_takeOver 17 = .ok (.iload_n 3, 1) := by decide +kernel
theorem dX0_takeOver_18 : decode cX0_takeOver 18 = .ok (.iload 4, 2) := by decide +kernel
theorem dX0_takeOver_20 : decode cX0_takeOver 20 = .ok (.ishr, 1) := by decide +kernel
theorem dX0_takeOver_21 : decode cX0_takeOver 21 = .ok (.iconst 1, 1) := by decide +kernel
theorem dX0_takeOver_22 : decode cX0_takeOver 22 = .ok (.iand, 1) := by decide +kernel
theorem dX0_takeOver_23 : decode cX0_takeOver 23 = .ok (.iconst 1, 1) := by decide +kernel
theorem dX0_takeOver_24 : decode cX0_takeOver 24 = .ok (.if_icmp .ne 16, 3) := by decide +kernel
theorem dX0_takeOver_27 : decode cX0_takeOver 27 = .ok (.aload_n 0, 1) := by decide +kernel
theorem dX0_takeOver_28 : decode cX0_takeOver 28 = .ok (.aload_n 1, 1) := by decide +kernel
theorem dX0_takeOver_29 : decode cX0_takeOver 29 = .ok (.iload 4, 2) := by decide +kernel
theorem dX0_takeOver_31 : decode cX0_takeOver 31 = .ok (.invokestatic 146, 3) := by decide +kernel
theorem dX0_takeOver_34 : decode cX0_takeOver 34 = .ok (.bipush (-9), 2) := by decide +kernel
theorem dX0_takeOver_36 : decode cX0_takeOver 36 = .ok (.if_icmp .ne 4, 3) := by decide +kernel
theorem dX0_takeOver_39 : decode cX0_takeOver 39 = .ok (.return_, 1) := by decide +kernel
theorem dX0_takeOver_40 : decode cX0_takeOver 40 = .ok (.iinc 4 1, 3) := by decide +kernel
theorem dX0_takeOver_43 : decode cX0_takeOver 43 = .ok (.goto (-32), 3) := by decide +kernel
theorem dX0_takeOver_46 : decode cX0_takeOver 46 = .ok (.iconst 0, 1) := by decide +kernel
theorem dX0_takeOver_47 : decode cX0_takeOver 47 = .ok (.istore 4, 2) := by decide +kernel
theorem dX0_takeOver_49 : decode cX0_takeOver 49 = .ok (.iload 4, 2) := by decide +kernel
theorem dX0_takeOver_51 : decode cX0_takeOver 51 = .ok (.iconst 2, 1) := by decide +kernel
theorem dX0_takeOver_52 : decode cX0_takeOver 52 = .ok (.if_icmp .ge 49, 3) := by decide +kernel
theorem dX0_takeOver_55 : decode cX0_takeOver 55 = .ok (.iload_n 2, 1) := by decide +kernel
theorem dX0_takeOver_56 : decode cX0_takeOver 56 = .ok (.aload_n 1, 1) := by decide +kernel
theorem dX0_takeOver_57 : decode cX0_takeOver 57 = .ok (.aload_n 0, 1) := by decide +kernel
theorem dX0_takeOver_58 : decode cX0_takeOver 58 = .ok (.invokevirtual 139, 3) := by decide +kernel
theorem dX0_takeOver_61 : decode cX0_takeOver 61 = .ok (.iand, 1) := by decide +kernel
theorem dX0_takeOver_62 : decode cX0_takeOver 62 = .ok (.istore_n 3, 1) := by decide +kernel
theorem dX0_takeOver_63 : decode cX0_takeOver 63 = .ok (.aload_n 0, 1) := by decide +kernel
theorem dX0_takeOver_64 : decode cX0_takeOver 64 = .ok (.aload_n 1, 1) := by decide +kernel
theorem dX0_takeOver_65 : decode cX0_takeOver 65 = .ok (.iload 4, 2) := by decide +kernel
theorem dX0_takeOver_67 : decode cX0_takeOver 67 = .ok (.invokestatic 146, 3) := by decide +kernel
theorem dX0_takeOver_70 : decode cX0_takeOver 70 = .ok (.istore 5, 2) := by decide +kernel
theorem dX0_takeOver_72 : decode cX0_takeOver 72 = .ok (.iload_n 3, 1) := by decide +kernel
theorem dX0_takeOver_73 : decode cX0_takeOver 73 = .ok (.iload 4, 2) := by decide +kernel
theorem dX0_takeOver_75 : decode cX0_takeOver 75 = .ok (.ishr, 1) := by decide +kernel
theorem dX0_takeOver_76 : decode cX0_takeOver 76 = .ok (.iconst 1, 1) := by decide +kernel
theorem dX0_takeOver_77 : decode cX0_takeOver 77 = .ok (.iand, 1) := by decide +kernel
theorem dX0_takeOver_78 : decode cX0_takeOver 78 = .ok (.iconst 1, 1) := by decide +kernel
theorem dX0_takeOver_79 : decode cX0_takeOver 79 = .ok (.if_icmp .ne 16, 3) := by decide +kernel
theorem dX0_takeOver_82 : decode cX0_takeOver 82 = .ok (.iload 5, 2) := by decide +kernel
theorem dX0_takeOver_84 : decode cX0_takeOver 84 = .ok (.bipush (-9), 2) := by decide +kernel
theorem dX0_takeOver_86 : decode cX0_takeOver 86 = .ok (.if_icmp .eq 9, 3) := by decide +kernel
theorem dX0_takeOver_89 : decode cX0_takeOver 89 = .ok (.aload_n 1, 1) := by decide +kernel
theorem dX0_takeOver_90 : decode cX0_takeOver 90 = .ok (.iload 5, 2) := by decide +kernel
theorem dX0_takeOver_92 : decode cX0_takeOver 92 = .ok (.invokevirtual 115, 3) := by decide +kernel
theorem dX0_takeOver_95 : decode cX0_takeOver 95 = .ok (.iinc 4 1, 3) := by decide +kernel
theorem dX0_takeOver_98 : decode cX0_takeOver 98 = .ok (.goto (-49), 3) := by decide +kernel
theorem dX0_takeOver_101 : decode cX0_takeOver 101 = .ok (.return_, 1) := by decide +kernel
theorem dX0_weakestAt_0 : decode cX0_weakestAt 0 = .ok (.bipush (-9), 2) := by decide +kernel
theorem dX0_weakestAt_2 : decode cX0_weakestAt 2 = .ok (.istore_n 3, 1) := by decide +kernel
theorem dX0_weakestAt_3 : decode cX0_weakestAt 3 = .ok (.iconst 0, 1) := by decide +kernel
theorem dX0_weakestAt_4 : decode cX0_weakestAt 4 = .ok (.istore 4, 2) := by decide +kernel
theorem dX0_weakestAt_6 : decode cX0_weakestAt 6 = .ok (.iload 4, 2) := by decide +kernel
theorem dX0_weakestAt_8 : decode cX0_weakestAt 8 = .ok (.aload_n 0, 1) := by decide +kernel
theorem dX0_weakestAt_9 : decode cX0_weakestAt 9 = .ok (.getfield 77, 3) := by decide +kernel
theorem dX0_weakestAt_12 : decode cX0_weakestAt 12 = .ok (.if_icmp .ge 71, 3) := by decide +kernel
theorem dX0_weakestAt_15 : decode cX0_weakestAt 15 = .ok (.aload_n 1, 1) := by decide +kernel
theorem dX0_weakestAt_16 : decode cX0_weakestAt 16 = .ok (.getfield 143, 3) := by decide +kernel
theorem dX0_weakestAt_19 : decode cX0_weakestAt 19 = .ok (.iload 4, 2) := by decide +kernel
theorem dX0_weakestAt_21 : decode cX0_weakestAt 21 = .ok (.iaload, 1) := by decide +kernel
theorem dX0_weakestAt_22 : decode cX0_weakestAt 22 = .ok (.iload_n 2, 1) := by decide +kernel
theorem dX0_weakestAt_23 : decode cX0_weakestAt 23 = .ok (.ishr, 1) := by decide +kernel
theorem dX0_weakestAt_24 : decode cX0_weakestAt 24 = .ok (.iconst 1, 1) := by decide +kernel
theorem dX0_weakestAt_25 : decode cX0_weakestAt 25 = .ok (.iand, 1) := by decide +kernel
theorem dX0_weakestAt_26 : decode cX0_weakestAt 26 = .ok (.iconst 1, 1) := by decide +kernel
theorem dX0_weakestAt_27 : decode cX0_weakestAt 27 = .ok (.if_icmp .ne 17, 3) := by decide +kernel
theorem dX0_weakestAt_30 : decode cX0_weakestAt 30 = .ok (.aload_n 1, 1) := by decide +kernel
theorem dX0_weakestAt_31 : decode cX0_weakestAt 31 = .ok (.getfield 93, 3) := by decide +kernel
theorem dX0_weakestAt_34 : decode cX0_weakestAt 34 = .ok (.iload 4, 2) := by decide +kernel
theorem dX0_weakestAt_36 : decode cX0_weakestAt 36 = .ok (.iaload, 1) := by decide +kernel
theorem dX0_weakestAt_37 : decode cX0_weakestAt 37 = .ok (.ifCond .ne 7, 3) := by decide +kernel
theorem dX0_weakestAt_40 : decode cX0_weakestAt 40 = .ok (.iconst 1, 1) := by decide +kernel
theorem dX0_weakestAt_41 : decode cX0_weakestAt 41 = .ok (.goto 4, 3) := by decide +kernel
theorem dX0_weakestAt_44 : decode cX0_weakestAt 44 = .ok (.iconst 0, 1) := by decide +kernel
theorem dX0_weakestAt_45 : decode cX0_weakestAt 45 = .ok (.istore 5, 2) := by decide +kernel
theorem dX0_weakestAt_47 : decode cX0_weakestAt 47 = .ok (.iload 5, 2) := by decide +kernel
theorem dX0_weakestAt_49 : decode cX0_weakestAt 49 = .ok (.ifCond .eq 28, 3) := by decide +kernel
theorem dX0_weakestAt_52 : decode cX0_weakestAt 52 = .ok (.iload_n 3, 1) := by decide +kernel
theorem dX0_weakestAt_53 : decode cX0_weakestAt 53 = .ok (.bipush (-9), 2) := by decide +kernel
theorem dX0_weakestAt_55 : decode cX0_weakestAt 55 = .ok (.if_icmp .eq 19, 3) := by decide +kernel
theorem dX0_weakestAt_58 : decode cX0_weakestAt 58 = .ok (.aload_n 0, 1) := by decide +kernel
theorem dX0_weakestAt_59 : decode cX0_weakestAt 59 = .ok (.getfield 126, 3) := by decide +kernel
theorem dX0_weakestAt_62 : decode cX0_weakestAt 62 = .ok (.iload 4, 2) := by decide +kernel
theorem dX0_weakestAt_64 : decode cX0_weakestAt 64 = .ok (.iaload, 1) := by decide +kernel
theorem dX0_weakestAt_65 : decode cX0_weakestAt 65 = .ok (.aload_n 0, 1) := by decide +kernel
theorem dX0_weakestAt_66 : decode cX0_weakestAt 66 = .ok (.getfield 126, 3) := by decide +kernel
theorem dX0_weakestAt_69 : decode cX0_weakestAt 69 = .ok (.iload_n 3, 1) := by decide +kernel
theorem dX0_weakestAt_70 : decode cX0_weakestAt 70 = .ok (.iaload, 1) := by decide +kernel
theorem dX0_weakestAt_71 : decode cX0_weakestAt 71 = .ok (.if_icmp .gt 6, 3) := by decide +kernel
theorem dX0_weakestAt_74 : decode cX0_weakestAt 74 = .ok (.iload 4, 2) := by decide +kernel
theorem dX0_weakestAt_76 : decode cX0_weakestAt 76 = .ok (.istore_n 3, 1) := by decide +kernel
theorem dX0_weakestAt_77 : decode cX0_weakestAt 77 = .ok (.iinc 4 1, 3) := by decide +kernel
theorem dX0_weakestAt_80 : decode cX0_weakestAt 80 = .ok (.goto (-74), 3) := by decide +kernel
theorem dX0_weakestAt_83 : decode cX0_weakestAt 83 = .ok (.iload_n 3, 1) := by decide +kernel
theorem dX0_weakestAt_84 : decode cX0_weakestAt 84 = .ok (.ireturn, 1) := by decide +kernel
theorem dX0_giveUp_0 : decode cX0_giveUp 0 = .ok (.iconst 0, 1) := by decide +kernel
theorem dX0_giveUp_1 : decode cX0_giveUp 1 = .ok (.istore_n 2, 1) := by decide +kernel
theorem dX0_giveUp_2 : decode cX0_giveUp 2 = .ok (.iload_n 2, 1) := by decide +kernel
theorem dX0_giveUp_3 : decode cX0_giveUp 3 = .ok (.aload_n 0, 1) := by decide +kernel
theorem dX0_giveUp_4 : decode cX0_giveUp 4 = .ok (.getfield 77, 3) := by decide +kernel
theorem dX0_giveUp_7 : decode cX0_giveUp 7 = .ok (.if_icmp .ge 57, 3) := by decide +kernel
theorem dX0_giveUp_10 : decode cX0_giveUp 10 = .ok (.aload_n 1, 1) := by decide +kernel
theorem dX0_giveUp_11 : decode cX0_giveUp 11 = .ok (.getfield 18, 3) := by decide +kernel
theorem dX0_giveUp_14 : decode cX0_giveUp 14 = .ok (.iload_n 2, 1) := by decide +kernel
theorem dX0_giveUp_15 : decode cX0_giveUp 15 = .ok (.iaload, 1) := by decide +kernel
theorem dX0_giveUp_16 : decode cX0_giveUp 16 = .ok (.iconst 3, 1) := by decide +kernel
theorem dX0_giveUp_17 : decode cX0_giveUp 17 = .ok (.if_icmp .ne 41, 3) := by decide +kernel
theorem dX0_giveUp_20 : decode cX0_giveUp 20 = .ok (.aload_n 1, 1) := by decide +kernel
theorem dX0_giveUp_21 : decode cX0_giveUp 21 = .ok (.getfield 90, 3) := by decide +kernel
theorem dX0_giveUp_24 : decode cX0_giveUp 24 = .ok (.iload_n 2, 1) := by decide +kernel
theorem dX0_giveUp_25 : decode cX0_giveUp 25 = .ok (.dup2, 1) := by decide +kernel
theorem dX0_giveUp_26 : decode cX0_giveUp 26 = .ok (.iaload, 1) := by decide +kernel
theorem dX0_giveUp_27 : decode cX0_giveUp 27 = .ok (.iconst 1, 1) := by decide +kernel
theorem dX0_giveUp_28 : decode cX0_giveUp 28 = .ok (.iadd, 1) := by decide +kernel
theorem dX0_giveUp_29 : decode cX0_giveUp 29 = .ok (.iastore, 1) := by decide +kernel
theorem dX0_giveUp_30 : decode cX0_giveUp 30 = .ok (.aload_n 1, 1) := by decide +kernel
theorem dX0_giveUp_31 : decode cX0_giveUp 31 = .ok (.getfield 90, 3) := by decide +kernel
theorem dX0_giveUp_34 : decode cX0_giveUp 34 = .ok (.iload_n 2, 1) := by decide +kernel
theorem dX0_giveUp_35 : decode cX0_giveUp 35 = .ok (.iaload, 1) := by decide +kernel
theorem dX0_giveUp_36 : decode cX0_giveUp 36 = .ok (.aload_n 0, 1) := by decide +kernel
theorem dX0_giveUp_37 : decode cX0_giveUp 37 = .ok (.getfield 149, 3) := by decide +kernel
theorem dX0_giveUp_40 : decode cX0_giveUp 40 = .ok (.if_icmp .le 18, 3) := by decide +kernel
theorem dX0_giveUp_43 : decode cX0_giveUp 43 = .ok (.aload_n 1, 1) := by decide +kernel
theorem dX0_giveUp_44 : decode cX0_giveUp 44 = .ok (.iload_n 2, 1) := by decide +kernel
theorem dX0_giveUp_45 : decode cX0_giveUp 45 = .ok (.invokevirtual 115, 3) := by decide +kernel
theorem dX0_giveUp_48 : decode cX0_giveUp 48 = .ok (.aload_n 1, 1) := by decide +kernel
theorem dX0_giveUp_49 : decode cX0_giveUp 49 = .ok (.dup, 1) := by decide +kernel
theorem dX0_giveUp_50 : decode cX0_giveUp 50 = .ok (.getfield 152, 3) := by decide +kernel
theorem dX0_giveUp_53 : decode cX0_giveUp 53 = .ok (.iconst 1, 1) := by decide +kernel
theorem dX0_giveUp_54 : decode cX0_giveUp 54 = .ok (.iadd, 1) := by decide +kernel
theorem dX0_giveUp_55 : decode cX0_giveUp 55 = .ok (.putfield 152, 3) := by decide +kernel
theorem dX0_giveUp_58 : decode cX0_giveUp 58 = .ok (.iinc 2 1, 3) := by decide +kernel
theorem dX0_giveUp_61 : decode cX0_giveUp 61 = .ok (.goto (-59), 3) := by decide +kernel
theorem dX0_giveUp_64 : decode cX0_giveUp 64 = .ok (.return_, 1) := by decide +kernel
theorem dX1_init_0 : decode cX1_init 0 = .ok (.aload_n 0, 1) := by decide +kernel
theorem dX1_init_1 : decode cX1_init 1 = .ok (.invokespecial 3, 3) := by decide +kernel
theorem dX1_init_4 : decode cX1_init 4 = .ok (.aload_n 0, 1) := by decide +kernel
theorem dX1_init_5 : decode cX1_init 5 = .ok (.bipush 12, 2) := by decide +kernel
theorem dX1_init_7 : decode cX1_init 7 = .ok (.anewarray 9, 3) := by decide +kernel
theorem dX1_init_10 : decode cX1_init 10 = .ok (.putfield 11, 3) := by decide +kernel
theorem dX1_init_13 : decode cX1_init 13 = .ok (.iconst 0, 1) := by decide +kernel
theorem dX1_init_14 : decode cX1_init 14 = .ok (.istore_n 1, 1) := by decide +kernel
theorem dX1_init_15 : decode cX1_init 15 = .ok (.iload_n 1, 1) := by decide +kernel
theorem dX1_init_16 : decode cX1_init 16 = .ok (.bipush 12, 2) := by decide +kernel
theorem dX1_init_18 : decode cX1_init 18 = .ok (.if_icmp .ge 22, 3) := by decide +kernel
theorem dX1_init_21 : decode cX1_init 21 = .ok (.aload_n 0, 1) := by decide +kernel
theorem dX1_init_22 : decode cX1_init 22 = .ok (.getfield 11, 3) := by decide +kernel
theorem dX1_init_25 : decode cX1_init 25 = .ok (.iload_n 1, 1) := by decide +kernel
theorem dX1_init_26 : decode cX1_init 26 = .ok (.new 9, 3) := by decide +kernel
theorem dX1_init_29 : decode cX1_init 29 = .ok (.dup, 1) := by decide +kernel
theorem dX1_init_30 : decode cX1_init 30 = .ok (.invokespecial 17, 3) := by decide +kernel
theorem dX1_init_33 : decode cX1_init 33 = .ok (.aastore, 1) := by decide +kernel
theorem dX1_init_34 : decode cX1_init 34 = .ok (.iinc 1 1, 3) := by decide +kernel
theorem dX1_init_37 : decode cX1_init 37 = .ok (.goto (-22), 3) := by decide +kernel
theorem dX1_init_40 : decode cX1_init 40 = .ok (.return_, 1) := by decide +kernel
theorem dX1_lose_0 : decode cX1_lose 0 = .ok (.aload_n 0, 1) := by decide +kernel
theorem dX1_lose_1 : decode cX1_lose 1 = .ok (.iconst 0, 1) := by decide +kernel
theorem dX1_lose_2 : decode cX1_lose 2 = .ok (.putfield 18, 3) := by decide +kernel
theorem dX1_lose_5 : decode cX1_lose 5 = .ok (.return_, 1) := by decide +kernel
theorem dX1_record_0 : decode cX1_record 0 = .ok (.aload_n 0, 1) := by decide +kernel
theorem dX1_record_1 : decode cX1_record 1 = .ok (.getfield 11, 3) := by decide +kernel
theorem dX1_record_4 : decode cX1_record 4 = .ok (.aload_n 0, 1) := by decide +kernel
theorem dX1_record_5 : decode cX1_record 5 = .ok (.getfield 22, 3) := by decide +kernel
theorem dX1_record_8 : decode cX1_record 8 = .ok (.aaload, 1) := by decide +kernel
theorem dX1_record_9 : decode cX1_record 9 = .ok (.aload_n 1, 1) := by decide +kernel
theorem dX1_record_10 : decode cX1_record 10 = .ok (.invokevirtual 25, 3) := by decide +kernel
theorem dX1_record_13 : decode cX1_record 13 = .ok (.aload_n 0, 1) := by decide +kernel
theorem dX1_record_14 : decode cX1_record 14 = .ok (.aload_n 0, 1) := by decide +kernel
theorem dX1_record_15 : decode cX1_record 15 = .ok (.getfield 22, 3) := by decide +kernel
theorem dX1_record_18 : decode cX1_record 18 = .ok (.iconst 1, 1) := by decide +kernel
theorem dX1_record_19 : decode cX1_record 19 = .ok (.iadd, 1) := by decide +kernel
theorem dX1_record_20 : decode cX1_record 20 = .ok (.bipush 12, 2) := by decide +kernel
theorem dX1_record_22 : decode cX1_record 22 = .ok (.irem, 1) := by decide +kernel
theorem dX1_record_23 : decode cX1_record 23 = .ok (.putfield 22, 3) := by decide +kernel
theorem dX1_record_26 : decode cX1_record 26 = .ok (.aload_n 0, 1) := by decide +kernel
theorem dX1_record_27 : decode cX1_record 27 = .ok (.bipush 12, 2) := by decide +kernel
theorem dX1_record_29 : decode cX1_record 29 = .ok (.aload_n 0, 1) := by decide +kernel
theorem dX1_record_30 : decode cX1_record 30 = .ok (.getfield 18, 3) := by decide +kernel
theorem dX1_record_33 : decode cX1_record 33 = .ok (.iconst 1, 1) := by decide +kernel
theorem dX1_record_34 : decode cX1_record 34 = .ok (.iadd, 1) := by decide +kernel
theorem dX1_record_35 : decode cX1_record 35 = .ok (.invokestatic 29, 3) := by decide +kernel
theorem dX1_record_38 : decode cX1_record 38 = .ok (.putfield 18, 3) := by decide +kernel
theorem dX1_record_41 : decode cX1_record 41 = .ok (.return_, 1) := by decide +kernel
theorem dX1_bringBack_0 : decode cX1_bringBack 0 = .ok (.aload_n 0, 1) := by decide +kernel
theorem dX1_bringBack_1 : decode cX1_bringBack 1 = .ok (.getfield 18, 3) := by decide +kernel
theorem dX1_bringBack_4 : decode cX1_bringBack 4 = .ok (.iconst 1, 1) := by decide +kernel
theorem dX1_bringBack_5 : decode cX1_bringBack 5 = .ok (.if_icmp .ge 5, 3) := by decide +kernel
theorem dX1_bringBack_8 : decode cX1_bringBack 8 = .ok (.iconst 0, 1) := by decide +kernel
theorem dX1_bringBack_9 : decode cX1_bringBack 9 = .ok (.ireturn, 1) := by decide +kernel
theorem dX1_bringBack_10 : decode cX1_bringBack 10 = .ok (.aload_n 0, 1) := by decide +kernel
theorem dX1_bringBack_11 : decode cX1_bringBack 11 = .ok (.dup, 1) := by decide +kernel
theorem dX1_bringBack_12 : decode cX1_bringBack 12 = .ok (.getfield 18, 3) := by decide +kernel
theorem dX1_bringBack_15 : decode cX1_bringBack 15 = .ok (.iconst 1, 1) := by decide +kernel
theorem dX1_bringBack_16 : decode cX1_bringBack 16 = .ok (.isub, 1) := by decide +kernel
theorem dX1_bringBack_17 : decode cX1_bringBack 17 = .ok (.putfield 18, 3) := by decide +kernel
theorem dX1_bringBack_20 : decode cX1_bringBack 20 = .ok (.aload_n 0, 1) := by decide +kernel
theorem dX1_bringBack_21 : decode cX1_bringBack 21 = .ok (.aload_n 0, 1) := by decide +kernel
theorem dX1_bringBack_22 : decode cX1_bringBack 22 = .ok (.getfield 22, 3) := by decide +kernel
theorem dX1_bringBack_25 : decode cX1_bringBack 25 = .ok (.bipush 12, 2) := by decide +kernel
theorem dX1_bringBack_27 : decode cX1_bringBack 27 = .ok (.iadd, 1) := by decide +kernel
theorem dX1_bringBack_28 : decode cX1_bringBack 28 = .ok (.iconst 1, 1) := by decide +kernel
theorem dX1_bringBack_29 : decode cX1_bringBack 29 = .ok (.isub, 1) := by decide +kernel
theorem dX1_bringBack_30 : decode cX1_bringBack 30 = .ok (.bipush 12, 2) := by decide +kernel
theorem dX1_bringBack_32 : decode cX1_bringBack 32 = .ok (.irem, 1) := by decide +kernel
theorem dX1_bringBack_33 : decode cX1_bringBack 33 = .ok (.putfield 22, 3) := by decide +kernel
theorem dX1_bringBack_36 : decode cX1_bringBack 36 = .ok (.aload_n 1, 1) := by decide +kernel
theorem dX1_bringBack_37 : decode cX1_bringBack 37 = .ok (.aload_n 0, 1) := by decide +kernel
theorem dX1_bringBack_38 : decode cX1_bringBack 38 = .ok (.getfield 11, 3) := by decide +kernel
theorem dX1_bringBack_41 : decode cX1_bringBack 41 = .ok (.aload_n 0, 1) := by decide +kernel
theorem dX1_bringBack_42 : decode cX1_bringBack 42 = .ok (.getfield 22, 3) := by decide +kernel
theorem dX1_bringBack_45 : decode cX1_bringBack 45 = .ok (.aaload, 1) := by decide +kernel
theorem dX1_bringBack_46 : decode cX1_bringBack 46 = .ok (.invokevirtual 25, 3) := by decide +kernel
theorem dX1_bringBack_49 : decode cX1_bringBack 49 = .ok (.iconst 1, 1) := by decide +kernel
theorem dX1_bringBack_50 : decode cX1_bringBack 50 = .ok (.ireturn, 1) := by decide +kernel
theorem dX2_init_0 : decode cX2_init 0 = .ok (.aload_n 0, 1) := by decide +kernel
theorem dX2_init_1 : decode cX2_init 1 = .ok (.invokespecial 3, 3) := by decide +kernel
theorem dX2_init_4 : decode cX2_init 4 = .ok (.aload_n 0, 1) := by decide +kernel
theorem dX2_init_5 : decode cX2_init 5 = .ok (.iconst 2, 1) := by decide +kernel
theorem dX2_init_6 : decode cX2_init 6 = .ok (.newarray .int, 2) := by decide +kernel
theorem dX2_init_8 : decode cX2_init 8 = .ok (.putfield 9, 3) := by decide +kernel
theorem dX2_init_11 : decode cX2_init 11 = .ok (.aload_n 0, 1) := by decide +kernel
theorem dX2_init_12 : decode cX2_init 12 = .ok (.bipush 7, 2) := by decide +kernel
theorem dX2_init_14 : decode cX2_init 14 = .ok (.newarray .int, 2) := by decide +kernel
theorem dX2_init_16 : decode cX2_init 16 = .ok (.putfield 15, 3) := by decide +kernel
theorem dX2_init_19 : decode cX2_init 19 = .ok (.aload_n 0, 1) := by decide +kernel
theorem dX2_init_20 : decode cX2_init 20 = .ok (.bipush 7, 2) := by decide +kernel
theorem dX2_init_22 : decode cX2_init 22 = .ok (.newarray .int, 2) := by decide +kernel
theorem dX2_init_24 : decode cX2_init 24 = .ok (.putfield 18, 3) := by decide +kernel
theorem dX2_init_27 : decode cX2_init 27 = .ok (.aload_n 0, 1) := by decide +kernel
theorem dX2_init_28 : decode cX2_init 28 = .ok (.bipush 7, 2) := by decide +kernel
theorem dX2_init_30 : decode cX2_init 30 = .ok (.newarray .int, 2) := by decide +kernel
theorem dX2_init_32 : decode cX2_init 32 = .ok (.putfield 21, 3) := by decide +kernel
theorem dX2_init_35 : decode cX2_init 35 = .ok (.aload_n 0, 1) := by decide +kernel
theorem dX2_init_36 : decode cX2_init 36 = .ok (.invokevirtual 24, 3) := by decide +kernel
theorem dX2_init_39 : decode cX2_init 39 = .ok (.return_, 1) := by decide +kernel
theorem dX2_beginAnew_0 : decode cX2_beginAnew 0 = .ok (.aload_n 0, 1) := by decide +kernel
theorem dX2_beginAnew_1 : decode cX2_beginAnew 1 = .ok (.iconst 0, 1) := by decide +kernel
theorem dX2_beginAnew_2 : decode cX2_beginAnew 2 = .ok (.putfield 27, 3) := by decide +kernel
theorem dX2_beginAnew_5 : decode cX2_beginAnew 5 = .ok (.aload_n 0, 1) := by decide +kernel
theorem dX2_beginAnew_6 : decode cX2_beginAnew 6 = .ok (.iconst 4, 1) := by decide +kernel
theorem dX2_beginAnew_7 : decode cX2_beginAnew 7 = .ok (.putfield 31, 3) := by decide +kernel
theorem dX2_beginAnew_10 : decode cX2_beginAnew 10 = .ok (.aload_n 0, 1) := by decide +kernel
theorem dX2_beginAnew_11 : decode cX2_beginAnew 11 = .ok (.bipush 8, 2) := by decide +kernel
theorem dX2_beginAnew_13 : decode cX2_beginAnew 13 = .ok (.putfield 34, 3) := by decide +kernel
theorem dX2_beginAnew_16 : decode cX2_beginAnew 16 = .ok (.aload_n 0, 1) := by decide +kernel
theorem dX2_beginAnew_17 : decode cX2_beginAnew 17 = .ok (.getfield 9, 3) := by decide +kernel
theorem dX2_beginAnew_20 : decode cX2_beginAnew 20 = .ok (.iconst 0, 1) := by decide +kernel
theorem dX2_beginAnew_21 : decode cX2_beginAnew 21 = .ok (.iconst 2, 1) := by decide +kernel
theorem dX2_beginAnew_22 : decode cX2_beginAnew 22 = .ok (.iastore, 1) := by decide +kernel
theorem dX2_beginAnew_23 : decode cX2_beginAnew 23 = .ok (.aload_n 0, 1) := by decide +kernel
theorem dX2_beginAnew_24 : decode cX2_beginAnew 24 = .ok (.getfield 9, 3) := by decide +kernel
theorem dX2_beginAnew_27 : decode cX2_beginAnew 27 = .ok (.iconst 1, 1) := by decide +kernel
theorem dX2_beginAnew_28 : decode cX2_beginAnew 28 = .ok (.iconst 2, 1) := by decide +kernel
theorem dX2_beginAnew_29 : decode cX2_beginAnew 29 = .ok (.iastore, 1) := by decide +kernel
theorem dX2_beginAnew_30 : decode cX2_beginAnew 30 = .ok (.return_, 1) := by decide +kernel
theorem dX2_copy_0 : decode cX2_copy 0 = .ok (.aload_n 0, 1) := by decide +kernel
theorem dX2_copy_1 : decode cX2_copy 1 = .ok (.aload_n 1, 1) := by decide +kernel
theorem dX2_copy_2 : decode cX2_copy 2 = .ok (.getfield 27, 3) := by decide +kernel
theorem dX2_copy_5 : decode cX2_copy 5 = .ok (.putfield 27, 3) := by decide +kernel
theorem dX2_copy_8 : decode cX2_copy 8 = .ok (.aload_n 0, 1) := by decide +kernel
theorem dX2_copy_9 : decode cX2_copy 9 = .ok (.aload_n 1, 1) := by decide +kernel
theorem dX2_copy_10 : decode cX2_copy 10 = .ok (.getfield 31, 3) := by decide +kernel
theorem dX2_copy_13 : decode cX2_copy 13 = .ok (.putfield 31, 3) := by decide +kernel
theorem dX2_copy_16 : decode cX2_copy 16 = .ok (.aload_n 0, 1) := by decide +kernel
theorem dX2_copy_17 : decode cX2_copy 17 = .ok (.aload_n 1, 1) := by decide +kernel
theorem dX2_copy_18 : decode cX2_copy 18 = .ok (.getfield 34, 3) := by decide +kernel
theorem dX2_copy_21 : decode cX2_copy 21 = .ok (.putfield 34, 3) := by decide +kernel
theorem dX2_copy_24 : decode cX2_copy 24 = .ok (.aload_n 1, 1) := by decide +kernel
theorem dX2_copy_25 : decode cX2_copy 25 = .ok (.getfield 9, 3) := by decide +kernel
theorem dX2_copy_28 : decode cX2_copy 28 = .ok (.iconst 0, 1) := by decide +kernel
theorem dX2_copy_29 : decode cX2_copy 29 = .ok (.aload_n 0, 1) := by decide +kernel
theorem dX2_copy_30 : decode cX2_copy 30 = .ok (.getfield 9, 3) := by decide +kernel
theorem dX2_copy_33 : decode cX2_copy 33 = .ok (.iconst 0, 1) := by decide +kernel
theorem dX2_copy_34 : decode cX2_copy 34 = .ok (.iconst 2, 1) := by decide +kernel
theorem dX2_copy_35 : decode cX2_copy 35 = .ok (.invokestatic 37, 3) := by decide +kernel
theorem dX2_copy_38 : decode cX2_copy 38 = .ok (.aload_n 1, 1) := by decide +kernel
theorem dX2_copy_39 : decode cX2_copy 39 = .ok (.getfield 15, 3) := by decide +kernel
theorem dX2_copy_42 : decode cX2_copy 42 = .ok (.iconst 0, 1) := by decide +kernel
theorem dX2_copy_43 : decode cX2_copy 43 = .ok (.aload_n 0, 1) := by decide +kernel
theorem dX2_copy_44 : decode cX2_copy 44 = .ok (.getfield 15, 3) := by decide +kernel
theorem dX2_copy_47 : decode cX2_copy 47 = .ok (.iconst 0, 1) := by decide +kernel
theorem dX2_copy_48 : decode cX2_copy 48 = .ok (.bipush 7, 2) := by decide +kernel
theorem dX2_copy_50 : decode cX2_copy 50 = .ok (.invokestatic 37, 3) := by decide +kernel
theorem dX2_copy_53 : decode cX2_copy 53 = .ok (.aload_n 1, 1) := by decide +kernel
theorem dX2_copy_54 : decode cX2_copy 54 = .ok (.getfield 18, 3) := by decide +kernel
theorem dX2_copy_57 : decode cX2_copy 57 = .ok (.iconst 0, 1) := by decide +kernel
theorem dX2_copy_58 : decode cX2_copy 58 = .ok (.aload_n 0, 1) := by decide +kernel
theorem dX2_copy_59 : decode cX2_copy 59 = .ok (.getfield 18, 3) := by decide +kernel
theorem dX2_copy_62 : decode cX2_copy 62 = .ok (.iconst 0, 1) := by decide +kernel
theorem dX2_copy_63 : decode cX2_copy 63 = .ok (.bipush 7, 2) := by decide +kernel
theorem dX2_copy_65 : decode cX2_copy 65 = .ok (.invokestatic 37, 3) := by decide +kernel
theorem dX2_copy_68 : decode cX2_copy 68 = .ok (.aload_n 1, 1) := by decide +kernel
theorem dX2_copy_69 : decode cX2_copy 69 = .ok (.getfield 21, 3) := by decide +kernel
theorem dX2_copy_72 : decode cX2_copy 72 = .ok (.iconst 0, 1) := by decide +kernel
theorem dX2_copy_73 : decode cX2_copy 73 = .ok (.aload_n 0, 1) := by decide +kernel
theorem dX2_copy_74 : decode cX2_copy 74 = .ok (.getfield 21, 3) := by decide +kernel
theorem dX2_copy_77 : decode cX2_copy 77 = .ok (.iconst 0, 1) := by decide +kernel
theorem dX2_copy_78 : decode cX2_copy 78 = .ok (.bipush 7, 2) := by decide +kernel
theorem dX2_copy_80 : decode cX2_copy 80 = .ok (.invokestatic 37, 3) := by decide +kernel
theorem dX2_copy_83 : decode cX2_copy 83 = .ok (.return_, 1) := by decide +kernel
theorem dX2_has_0 : decode cX2_has 0 = .ok (.iload_n 1, 1) := by decide +kernel
theorem dX2_has_1 : decode cX2_has 1 = .ok (.ifCond .lt 21, 3) := by decide +kernel
theorem dX2_has_4 : decode cX2_has 4 = .ok (.iload_n 1, 1) := by decide +kernel
theorem dX2_has_5 : decode cX2_has 5 = .ok (.aload_n 0, 1) := by decide +kernel
theorem dX2_has_6 : decode cX2_has 6 = .ok (.getfield 27, 3) := by decide +kernel
theorem dX2_has_9 : decode cX2_has 9 = .ok (.if_icmp .ge 13, 3) := by decide +kernel
theorem dX2_has_12 : decode cX2_has 12 = .ok (.iload_n 1, 1) := by decide +kernel
theorem dX2_has_13 : decode cX2_has 13 = .ok (.bipush 7, 2) := by decide +kernel
theorem dX2_has_15 : decode cX2_has 15 = .ok (.if_icmp .ge 7, 3) := by decide +kernel
theorem dX2_has_18 : decode cX2_has 18 = .ok (.iconst 1, 1) := by decide +kernel
theorem dX2_has_19 : decode cX2_has 19 = .ok (.goto 4, 3) := by decide +kernel
theorem dX2_has_22 : decode cX2_has 22 = .ok (.iconst 0, 1) := by decide +kernel
theorem dX2_has_23 : decode cX2_has 23 = .ok (.ireturn, 1) := by decide +kernel
theorem dX3_init_0 : decode cX3_init 0 = .ok (.aload_n 0, 1) := by decide +kernel
theorem dX3_init_1 : decode cX3_init 1 = .ok (.invokespecial 3, 3) := by decide +kernel
theorem dX3_init_4 : decode cX3_init 4 = .ok (.aload_n 0, 1) := by decide +kernel
theorem dX3_init_5 : decode cX3_init 5 = .ok (.bipush 80, 2) := by decide +kernel
theorem dX3_init_7 : decode cX3_init 7 = .ok (.newarray .int, 2) := by decide +kernel
theorem dX3_init_9 : decode cX3_init 9 = .ok (.putfield 9, 3) := by decide +kernel
theorem dX3_init_12 : decode cX3_init 12 = .ok (.return_, 1) := by decide +kernel
theorem dX3_append_0 : decode cX3_append 0 = .ok (.aload_n 0, 1) := by decide +kernel
theorem dX3_append_1 : decode cX3_append 1 = .ok (.getfield 15, 3) := by decide +kernel
theorem dX3_append_4 : decode cX3_append 4 = .ok (.ifCond .lt 12, 3) := by decide +kernel
theorem dX3_append_7 : decode cX3_append 7 = .ok (.aload_n 0, 1) := by decide +kernel
theorem dX3_append_8 : decode cX3_append 8 = .ok (.getfield 15, 3) := by decide +kernel
theorem dX3_append_11 : decode cX3_append 11 = .ok (.bipush 80, 2) := by decide +kernel
theorem dX3_append_13 : decode cX3_append 13 = .ok (.if_icmp .lt 5, 3) := by decide +kernel
theorem dX3_append_16 : decode cX3_append 16 = .ok (.iconst 0, 1) := by decide +kernel
theorem dX3_append_17 : decode cX3_append 17 = .ok (.ireturn, 1) := by decide +kernel
theorem dX3_append_18 : decode cX3_append 18 = .ok (.aload_n 0, 1) := by decide +kernel
theorem dX3_append_19 : decode cX3_append 19 = .ok (.getfield 9, 3) := by decide +kernel
theorem dX3_append_22 : decode cX3_append 22 = .ok (.aload_n 0, 1) := by decide +kernel
theorem dX3_append_23 : decode cX3_append 23 = .ok (.getfield 15, 3) := by decide +kernel
theorem dX3_append_26 : decode cX3_append 26 = .ok (.iload_n 1, 1) := by decide +kernel
theorem dX3_append_27 : decode cX3_append 27 = .ok (.iastore, 1) := by decide +kernel
theorem dX3_append_28 : decode cX3_append 28 = .ok (.aload_n 0, 1) := by decide +kernel
theorem dX3_append_29 : decode cX3_append 29 = .ok (.dup, 1) := by decide +kernel
theorem dX3_append_30 : decode cX3_append 30 = .ok (.getfield 15, 3) := by decide +kernel
theorem dX3_append_33 : decode cX3_append 33 = .ok (.iconst 1, 1) := by decide +kernel
theorem dX3_append_34 : decode cX3_append 34 = .ok (.iadd, 1) := by decide +kernel
theorem dX3_append_35 : decode cX3_append 35 = .ok (.putfield 15, 3) := by decide +kernel
theorem dX3_append_38 : decode cX3_append 38 = .ok (.iconst 1, 1) := by decide +kernel
theorem dX3_append_39 : decode cX3_append 39 = .ok (.ireturn, 1) := by decide +kernel
theorem dX3_empty_0 : decode cX3_empty 0 = .ok (.aload_n 0, 1) := by decide +kernel
theorem dX3_empty_1 : decode cX3_empty 1 = .ok (.getfield 15, 3) := by decide +kernel
theorem dX3_empty_4 : decode cX3_empty 4 = .ok (.istore_n 1, 1) := by decide +kernel
theorem dX3_empty_5 : decode cX3_empty 5 = .ok (.aload_n 0, 1) := by decide +kernel
theorem dX3_empty_6 : decode cX3_empty 6 = .ok (.iconst 0, 1) := by decide +kernel
theorem dX3_empty_7 : decode cX3_empty 7 = .ok (.putfield 15, 3) := by decide +kernel
theorem dX3_empty_10 : decode cX3_empty 10 = .ok (.iload_n 1, 1) := by decide +kernel
theorem dX3_empty_11 : decode cX3_empty 11 = .ok (.ireturn, 1) := by decide +kernel
theorem dX3_readInto_0 : decode cX3_readInto 0 = .ok (.aload_n 1, 1) := by decide +kernel
theorem dX3_readInto_1 : decode cX3_readInto 1 = .ok (.invokevirtual 19, 3) := by decide +kernel
theorem dX3_readInto_4 : decode cX3_readInto 4 = .ok (.aload_n 0, 1) := by decide +kernel
theorem dX3_readInto_5 : decode cX3_readInto 5 = .ok (.iconst 0, 1) := by decide +kernel
theorem dX3_readInto_6 : decode cX3_readInto 6 = .ok (.putfield 24, 3) := by decide +kernel
theorem dX3_readInto_9 : decode cX3_readInto 9 = .ok (.aload_n 0, 1) := by decide +kernel
theorem dX3_readInto_10 : decode cX3_readInto 10 = .ok (.iconst 0, 1) := by decide +kernel
theorem dX3_readInto_11 : decode cX3_readInto 11 = .ok (.putfield 27, 3) := by decide +kernel
theorem dX3_readInto_14 : decode cX3_readInto 14 = .ok (.aload_n 0, 1) := by decide +kernel
theorem dX3_readInto_15 : decode cX3_readInto 15 = .ok (.iconst 0, 1) := by decide +kernel
theorem dX3_readInto_16 : decode cX3_readInto 16 = .ok (.putfield 31, 3) := by decide +kernel
theorem dX3_readInto_19 : decode cX3_readInto 19 = .ok (.aload_n 0, 1) := by decide +kernel
theorem dX3_readInto_20 : decode cX3_readInto 20 = .ok (.iconst 0, 1) := by decide +kernel
theorem dX3_readInto_21 : decode cX3_readInto 21 = .ok (.putfield 34, 3) := by decide +kernel
theorem dX3_readInto_24 : decode cX3_readInto 24 = .ok (.iconst 0, 1) := by decide +kernel
theorem dX3_readInto_25 : decode cX3_readInto 25 = .ok (.istore_n 2, 1) := by decide +kernel
theorem dX3_readInto_26 : decode cX3_readInto 26 = .ok (.iload_n 2, 1) := by decide +kernel
theorem dX3_readInto_27 : decode cX3_readInto 27 = .ok (.bipush 80, 2) := by decide +kernel
theorem dX3_readInto_29 : decode cX3_readInto 29 = .ok (.if_icmp .gt 33, 3) := by decide +kernel
theorem dX3_readInto_32 : decode cX3_readInto 32 = .ok (.aload_n 0, 1) := by decide +kernel
theorem dX3_readInto_33 : decode cX3_readInto 33 = .ok (.invokevirtual 37, 3) := by decide +kernel
theorem dX3_readInto_36 : decode cX3_readInto 36 = .ok (.aload_n 0, 1) := by decide +kernel
theorem dX3_readInto_37 : decode cX3_readInto 37 = .ok (.getfield 40, 3) := by decide +kernel
theorem dX3_readInto_40 : decode cX3_readInto 40 = .ok (.ifCond .ne 5, 3) := by decide +kernel
theorem dX3_readInto_43 : decode cX3_readInto 43 = .ok (.iload_n 2, 1) := by decide +kernel
theorem dX3_readInto_44 : decode cX3_readInto 44 = .ok (.ireturn, 1) := by decide +kernel
theorem dX3_readInto_45 : decode cX3_readInto 45 = .ok (.aload_n 0, 1) := by decide +kernel
theorem dX3_readInto_46 : decode cX3_readInto 46 = .ok (.aload_n 1, 1) := by decide +kernel
theorem dX3_readInto_47 : decode cX3_readInto 47 = .ok (.invokevirtual 43, 3) := by decide +kernel
theorem dX3_readInto_50 : decode cX3_readInto 50 = .ok (.ifCond .ne 6, 3) := by decide +kernel
theorem dX3_readInto_53 : decode cX3_readInto 53 = .ok (.goto 9, 3) := by decide +kernel
theorem dX3_readInto_56 : decode cX3_readInto 56 = .ok (.iinc 2 1, 3) := by decide +kernel
theorem dX3_readInto_59 : decode cX3_readInto 59 = .ok (.goto (-33), 3) := by decide +kernel
theorem dX3_readInto_62 : decode cX3_readInto 62 = .ok (.bipush (-10), 2) := by decide +kernel
theorem dX3_readInto_64 : decode cX3_readInto 64 = .ok (.aload_n 0, 1) := by decide +kernel
theorem dX3_readInto_65 : decode cX3_readInto 65 = .ok (.getfield 47, 3) := by decide +kernel
theorem dX3_readInto_68 : decode cX3_readInto 68 = .ok (.isub, 1) := by decide +kernel
theorem dX3_readInto_69 : decode cX3_readInto 69 = .ok (.ireturn, 1) := by decide +kernel
theorem dX3_letterAt_0 : decode cX3_letterAt 0 = .ok (.iload_n 1, 1) := by decide +kernel
theorem dX3_letterAt_1 : decode cX3_letterAt 1 = .ok (.ifCond .lt 26, 3) := by decide +kernel
theorem dX3_letterAt_4 : decode cX3_letterAt 4 = .ok (.iload_n 1, 1) := by decide +kernel
theorem dX3_letterAt_5 : decode cX3_letterAt 5 = .ok (.aload_n 0, 1) := by decide +kernel
theorem dX3_letterAt_6 : decode cX3_letterAt 6 = .ok (.getfield 15, 3) := by decide +kernel
theorem dX3_letterAt_9 : decode cX3_letterAt 9 = .ok (.if_icmp .ge 18, 3) := by decide +kernel
theorem dX3_letterAt_12 : decode cX3_letterAt 12 = .ok (.iload_n 1, 1) := by decide +kernel
theorem dX3_letterAt_13 : decode cX3_letterAt 13 = .ok (.bipush 80, 2) := by decide +kernel
theorem dX3_letterAt_15 : decode cX3_letterAt 15 = .ok (.if_icmp .ge 12, 3) := by decide +kernel
theorem dX3_letterAt_18 : decode cX3_letterAt 18 = .ok (.aload_n 0, 1) := by decide +kernel
theorem dX3_letterAt_19 : decode cX3_letterAt 19 = .ok (.getfield 9, 3) := by decide +kernel
theorem dX3_letterAt_22 : decode cX3_letterAt 22 = .ok (.iload_n 1, 1) := by decide +kernel
theorem dX3_letterAt_23 : decode cX3_letterAt 23 = .ok (.iaload, 1) := by decide +kernel
theorem dX3_letterAt_24 : decode cX3_letterAt 24 = .ok (.goto 4, 3) := by decide +kernel
theorem dX3_letterAt_27 : decode cX3_letterAt 27 = .ok (.iconst 0, 1) := by decide +kernel
theorem dX3_letterAt_28 : decode cX3_letterAt 28 = .ok (.ireturn, 1) := by decide +kernel
theorem dX3_isDigit_0 : decode cX3_isDigit 0 = .ok (.iload_n 0, 1) := by decide +kernel
theorem dX3_isDigit_1 : decode cX3_isDigit 1 = .ok (.bipush 48, 2) := by decide +kernel
theorem dX3_isDigit_3 : decode cX3_isDigit 3 = .ok (.if_icmp .lt 13, 3) := by decide +kernel
theorem dX3_isDigit_6 : decode cX3_isDigit 6 = .ok (.iload_n 0, 1) := by decide +kernel
theorem dX3_isDigit_7 : decode cX3_isDigit 7 = .ok (.bipush 57, 2) := by decide +kernel
theorem dX3_isDigit_9 : decode cX3_isDigit 9 = .ok (.if_icmp .gt 7, 3) := by decide +kernel
theorem dX3_isDigit_12 : decode cX3_isDigit 12 = .ok (.iconst 1, 1) := by decide +kernel
theorem dX3_isDigit_13 : decode cX3_isDigit 13 = .ok (.goto 4, 3) := by decide +kernel
theorem dX3_isDigit_16 : decode cX3_isDigit 16 = .ok (.iconst 0, 1) := by decide +kernel
theorem dX3_isDigit_17 : decode cX3_isDigit 17 = .ok (.ireturn, 1) := by decide +kernel
theorem dX3_readToken_0 : decode cX3_readToken 0 = .ok (.aload_n 0, 1) := by decide +kernel
theorem dX3_readToken_1 : decode cX3_readToken 1 = .ok (.getfield 24, 3) := by decide +kernel
theorem dX3_readToken_4 : decode cX3_readToken 4 = .ok (.aload_n 0, 1) := by decide +kernel
theorem dX3_readToken_5 : decode cX3_readToken 5 = .ok (.getfield 15, 3) := by decide +kernel
theorem dX3_readToken_8 : decode cX3_readToken 8 = .ok (.if_icmp .ge 29, 3) := by decide +kernel
theorem dX3_readToken_11 : decode cX3_readToken 11 = .ok (.aload_n 0, 1) := by decide +kernel
theorem dX3_readToken_12 : decode cX3_readToken 12 = .ok (.aload_n 0, 1) := by decide +kernel
theorem dX3_readToken_13 : decode cX3_readToken 13 = .ok (.getfield 24, 3) := by decide +kernel
theorem dX3_readToken_16 : decode cX3_readToken 16 = .ok (.invokevirtual 50, 3) := by decide +kernel
theorem dX3_readToken_19 : decode cX3_readToken 19 = .ok (.bipush 32, 2) := by decide +kernel
theorem dX3_readToken_21 : decode cX3_readToken 21 = .ok (.if_icmp .ne 16, 3) := by decide +kernel
theorem dX3_readToken_24 : decode cX3_readToken 24 = .ok (.aload_n 0, 1) := by decide +kernel
theorem dX3_readToken_25 : decode cX3_readToken 25 = .ok (.dup, 1) := by decide +kernel
theorem dX3_readToken_26 : decode cX3_readToken 26 = .ok (.getfield 24, 3) := by decide +kernel
theorem dX3_readToken_29 : decode cX3_readToken 29 = .ok (.iconst 1, 1) := by decide +kernel
theorem dX3_readToken_30 : decode cX3_readToken 30 = .ok (.iadd, 1) := by decide +kernel
theorem dX3_readToken_31 : decode cX3_readToken 31 = .ok (.putfield 24, 3) := by decide +kernel
theorem dX3_readToken_34 : decode cX3_readToken 34 = .ok (.goto (-34), 3) := by decide +kernel
theorem dX3_readToken_37 : decode cX3_readToken 37 = .ok (.aload_n 0, 1) := by decide +kernel
theorem dX3_readToken_38 : decode cX3_readToken 38 = .ok (.aload_n 0, 1) := by decide +kernel
theorem dX3_readToken_39 : decode cX3_readToken 39 = .ok (.getfield 24, 3) := by decide +kernel
theorem dX3_readToken_42 : decode cX3_readToken 42 = .ok (.putfield 47, 3) := by decide +kernel
theorem dX3_readToken_45 : decode cX3_readToken 45 = .ok (.aload_n 0, 1) := by decide +kernel
theorem dX3_readToken_46 : decode cX3_readToken 46 = .ok (.getfield 24, 3) := by decide +kernel
theorem dX3_readToken_49 : decode cX3_readToken 49 = .ok (.aload_n 0, 1) := by decide +kernel
theorem dX3_readToken_50 : decode cX3_readToken 50 = .ok (.getfield 15, 3) := by decide +kernel
theorem dX3_readToken_53 : decode cX3_readToken 53 = .ok (.if_icmp .lt 9, 3) := by decide +kernel
theorem dX3_readToken_56 : decode cX3_readToken 56 = .ok (.aload_n 0, 1) := by decide +kernel
theorem dX3_readToken_57 : decode cX3_readToken 57 = .ok (.iconst 0, 1) := by decide +kernel
theorem dX3_readToken_58 : decode cX3_readToken 58 = .ok (.putfield 40, 3) := by decide +kernel
theorem dX3_readToken_61 : decode cX3_readToken 61 = .ok (.return_, 1) := by decide +kernel
theorem dX3_readToken_62 : decode cX3_readToken 62 = .ok (.aload_n 0, 1) := by decide +kernel
theorem dX3_readToken_63 : decode cX3_readToken 63 = .ok (.aload_n 0, 1) := by decide +kernel
theorem dX3_readToken_64 : decode cX3_readToken 64 = .ok (.getfield 24, 3) := by decide +kernel
theorem dX3_readToken_67 : decode cX3_readToken 67 = .ok (.invokevirtual 50, 3) := by decide +kernel
theorem dX3_readToken_70 : decode cX3_readToken 70 = .ok (.istore_n 1, 1) := by decide +kernel
theorem dX3_readToken_71 : decode cX3_readToken 71 = .ok (.iload_n 1, 1) := by decide +kernel
theorem dX3_readToken_72 : decode cX3_readToken 72 = .ok (.invokestatic 54, 3) := by decide +kernel
theorem dX3_readToken_75 : decode cX3_readToken 75 = .ok (.ifCond .eq 8, 3) := by decide +kernel
theorem dX3_readToken_78 : decode cX3_readToken 78 = .ok (.aload_n 0, 1) := by decide +kernel
theorem dX3_readToken_79 : decode cX3_readToken 79 = .ok (.invokevirtual 58, 3) := by decide +kernel
theorem dX3_readToken_82 : decode cX3_readToken 82 = .ok (.return_, 1) := by decide +kernel
theorem dX3_readToken_83 : decode cX3_readToken 83 = .ok (.aload_n 0, 1) := by decide +kernel
theorem dX3_readToken_84 : decode cX3_readToken 84 = .ok (.dup, 1) := by decide +kernel
theorem dX3_readToken_85 : decode cX3_readToken 85 = .ok (.getfield 24, 3) := by decide +kernel
theorem dX3_readToken_88 : decode cX3_readToken 88 = .ok (.iconst 1, 1) := by decide +kernel
theorem dX3_readToken_89 : decode cX3_readToken 89 = .ok (.iadd, 1) := by decide +kernel
theorem dX3_readToken_90 : decode cX3_readToken 90 = .ok (.putfield 24, 3) := by decide +kernel
theorem dX3_readToken_93 : decode cX3_readToken 93 = .ok (.iload_n 1, 1) := by decide +kernel
theorem dX3_readToken_94 : decode cX3_readToken 94 = .ok (.bipush 99, 2) := by decide +kernel
theorem dX3_readToken_96 : decode cX3_readToken 96 = .ok (.if_icmp .eq 27, 3) := by decide +kernel
theorem dX3_readToken_99 : decode cX3_readToken 99 = .ok (.iload_n 1, 1) := by decide +kernel
theorem dX3_readToken_100 : decode cX3_readToken 100 = .ok (.bipush 97, 2) := by decide +kernel
theorem dX3_readToken_102 : decode cX3_readToken 102 = .ok (.if_icmp .eq 21, 3) := by decide +kernel
theorem dX3_readToken_105 : decode cX3_readToken 105 = .ok (.iload_n 1, 1) := by decide +kernel
theorem dX3_readToken_106 : decode cX3_readToken 106 = .ok (.bipush 119, 2) := by decide +kernel
theorem dX3_readToken_108 : decode cX3_readToken 108 = .ok (.if_icmp .eq 15, 3) := by decide +kernel
theorem dX3_readToken_111 : decode cX3_readToken 111 = .ok (.iload_n 1, 1) := by decide +kernel
theorem dX3_readToken_112 : decode cX3_readToken 112 = .ok (.bipush 114, 2) := by decide +kernel
theorem dX3_readToken_114 : decode cX3_readToken 114 = .ok (.if_icmp .eq 9, 3) := by decide +kernel
theorem dX3_readToken_117 : decode cX3_readToken 117 = .ok (.iload_n 1, 1) := by decide +kernel
theorem dX3_readToken_118 : decode cX3_readToken 118 = .ok (.bipush 59, 2) := by decide +kernel
theorem dX3_readToken_120 : decode cX3_readToken 120 = .ok (.if_icmp .ne 7, 3) := by decide +kernel
theorem dX3_readToken_123 : decode cX3_readToken 123 = .ok (.iconst 1, 1) := by decide +kernel
theorem dX3_readToken_124 : decode cX3_readToken 124 = .ok (.goto 4, 3) := by decide +kernel
theorem dX3_readToken_127 : decode cX3_readToken 127 = .ok (.iconst 0, 1) := by decide +kernel
theorem dX3_readToken_128 : decode cX3_readToken 128 = .ok (.istore_n 2, 1) := by decide +kernel
theorem dX3_readToken_129 : decode cX3_readToken 129 = .ok (.aload_n 0, 1) := by decide +kernel
theorem dX3_readToken_130 : decode cX3_readToken 130 = .ok (.iload_n 2, 1) := by decide +kernel
theorem dX3_readToken_131 : decode cX3_readToken 131 = .ok (.ifCond .eq 7, 3) := by decide +kernel
theorem dX3_readToken_134 : decode cX3_readToken 134 = .ok (.iload_n 1, 1) := by decide +kernel
theorem dX3_readToken_135 : decode cX3_readToken 135 = .ok (.goto 4, 3) := by decide +kernel
theorem dX3_readToken_138 : decode cX3_readToken 138 = .ok (.iconst 2, 1) := by decide +kernel
theorem dX3_readToken_139 : decode cX3_readToken 139 = .ok (.putfield 40, 3) := by decide +kernel
theorem dX3_readToken_142 : decode cX3_readToken 142 = .ok (.return_, 1) := by decide +kernel
theorem dX3_readNumber_0 : decode cX3_readNumber 0 = .ok (.aload_n 0, 1) := by decide +kernel
theorem dX3_readNumber_1 : decode cX3_readNumber 1 = .ok (.iconst 0, 1) := by decide +kernel
theorem dX3_readNumber_2 : decode cX3_readNumber 2 = .ok (.putfield 61, 3) := by decide +kernel
theorem dX3_readNumber_5 : decode cX3_readNumber 5 = .ok (.aload_n 0, 1) := by decide +kernel
theorem dX3_readNumber_6 : decode cX3_readNumber 6 = .ok (.getfield 24, 3) := by decide +kernel
theorem dX3_readNumber_9 : decode cX3_readNumber 9 = .ok (.aload_n 0, 1) := by decide +kernel
theorem dX3_readNumber_10 : decode cX3_readNumber 10 = .ok (.getfield 15, 3) := by decide +kernel
theorem dX3_readNumber_13 : decode cX3_readNumber 13 = .ok (.if_icmp .ge 58, 3) := by decide +kernel
theorem dX3_readNumber_16 : decode cX3_readNumber 16 = .ok (.aload_n 0, 1) := by decide +kernel
theorem dX3_readNumber_17 : decode cX3_readNumber 17 = .ok (.aload_n 0, 1) := by decide +kernel
theorem dX3_readNumber_18 : decode cX3_readNumber 18 = .ok (.getfield 24, 3) := by decide +kernel
theorem dX3_readNumber_21 : decode cX3_readNumber 21 = .ok (.invokevirtual 50, 3) := by decide +kernel
theorem dX3_readNumber_24 : decode cX3_readNumber 24 = .ok (.invokestatic 54, 3) := by decide +kernel
theorem dX3_readNumber_27 : decode cX3_readNumber 27 = .ok (.ifCond .eq 44, 3) := by decide +kernel
theorem dX3_readNumber_30 : decode cX3_readNumber 30 = .ok (.aload_n 0, 1) := by decide +kernel
theorem dX3_readNumber_31 : decode cX3_readNumber 31 = .ok (.bipush 100, 2) := by decide +kernel
theorem dX3_readNumber_33 : decode cX3_readNumber 33 = .ok (.aload_n 0, 1) := by decide +kernel
theorem dX3_readNumber_34 : decode cX3_readNumber 34 = .ok (.getfield 61, 3) := by decide +kernel
theorem dX3_readNumber_37 : decode cX3_readNumber 37 = .ok (.bipush 10, 2) := by decide +kernel
theorem dX3_readNumber_39 : decode cX3_readNumber 39 = .ok (.imul, 1) := by decide +kernel
theorem dX3_readNumber_40 : decode cX3_readNumber 40 = .ok (.aload_n 0, 1) := by decide +kernel
theorem dX3_readNumber_41 : decode cX3_readNumber 41 = .ok (.aload_n 0, 1) := by decide +kernel
theorem dX3_readNumber_42 : decode cX3_readNumber 42 = .ok (.getfield 24, 3) := by decide +kernel
theorem dX3_readNumber_45 : decode cX3_readNumber 45 = .ok (.invokevirtual 50, 3) := by decide +kernel
theorem dX3_readNumber_48 : decode cX3_readNumber 48 = .ok (.iadd, 1) := by decide +kernel
theorem dX3_readNumber_49 : decode cX3_readNumber 49 = .ok (.bipush 48, 2) := by decide +kernel
theorem dX3_readNumber_51 : decode cX3_readNumber 51 = .ok (.isub, 1) := by decide +kernel
theorem dX3_readNumber_52 : decode cX3_readNumber 52 = .ok (.invokestatic 64, 3) := by decide +kernel
theorem dX3_readNumber_55 : decode cX3_readNumber 55 = .ok (.putfield 61, 3) := by decide +kernel
theorem dX3_readNumber_58 : decode cX3_readNumber 58 = .ok (.aload_n 0, 1) := by decide +kernel
theorem dX3_readNumber_59 : decode cX3_readNumber 59 = .ok (.dup, 1) := by decide +kernel
theorem dX3_readNumber_60 : decode cX3_readNumber 60 = .ok (.getfield 24, 3) := by decide +kernel
theorem dX3_readNumber_63 : decode cX3_readNumber 63 = .ok (.iconst 1, 1) := by decide +kernel
theorem dX3_readNumber_64 : decode cX3_readNumber 64 = .ok (.iadd, 1) := by decide +kernel
theorem dX3_readNumber_65 : decode cX3_readNumber 65 = .ok (.putfield 24, 3) := by decide +kernel
theorem dX3_readNumber_68 : decode cX3_readNumber 68 = .ok (.goto (-63), 3) := by decide +kernel
theorem dX3_readNumber_71 : decode cX3_readNumber 71 = .ok (.aload_n 0, 1) := by decide +kernel
theorem dX3_readNumber_72 : decode cX3_readNumber 72 = .ok (.aload_n 0, 1) := by decide +kernel
theorem dX3_readNumber_73 : decode cX3_readNumber 73 = .ok (.getfield 47, 3) := by decide +kernel
theorem dX3_readNumber_76 : decode cX3_readNumber 76 = .ok (.invokevirtual 50, 3) := by decide +kernel
theorem dX3_readNumber_79 : decode cX3_readNumber 79 = .ok (.bipush 48, 2) := by decide +kernel
theorem dX3_readNumber_81 : decode cX3_readNumber 81 = .ok (.if_icmp .ne 20, 3) := by decide +kernel
theorem dX3_readNumber_84 : decode cX3_readNumber 84 = .ok (.aload_n 0, 1) := by decide +kernel
theorem dX3_readNumber_85 : decode cX3_readNumber 85 = .ok (.getfield 24, 3) := by decide +kernel
theorem dX3_readNumber_88 : decode cX3_readNumber 88 = .ok (.aload_n 0, 1) := by decide +kernel
theorem dX3_readNumber_89 : decode cX3_readNumber 89 = .ok (.getfield 47, 3) := by decide +kernel
theorem dX3_readNumber_92 : decode cX3_readNumber 92 = .ok (.isub, 1) := by decide +kernel
theorem dX3_readNumber_93 : decode cX3_readNumber 93 = .ok (.iconst 1, 1) := by decide +kernel
theorem dX3_readNumber_94 : decode cX3_readNumber 94 = .ok (.if_icmp .le 7, 3) := by decide +kernel
theorem dX3_readNumber_97 : decode cX3_readNumber 97 = .ok (.iconst 1, 1) := by decide +kernel
theorem dX3_readNumber_98 : decode cX3_readNumber 98 = .ok (.goto 4, 3) := by decide +kernel
theorem dX3_readNumber_101 : decode cX3_readNumber 101 = .ok (.iconst 0, 1) := by decide +kernel
theorem dX3_readNumber_102 : decode cX3_readNumber 102 = .ok (.istore_n 1, 1) := by decide +kernel
theorem dX3_readNumber_103 : decode cX3_readNumber 103 = .ok (.aload_n 0, 1) := by decide +kernel
theorem dX3_readNumber_104 : decode cX3_readNumber 104 = .ok (.iload_n 1, 1) := by decide +kernel
theorem dX3_readNumber_105 : decode cX3_readNumber 105 = .ok (.ifCond .ne 12, 3) := by decide +kernel
theorem dX3_readNumber_108 : decode cX3_readNumber 108 = .ok (.aload_n 0, 1) := by decide +kernel
theorem dX3_readNumber_109 : decode cX3_readNumber 109 = .ok (.getfield 61, 3) := by decide +kernel
theorem dX3_readNumber_112 : decode cX3_readNumber 112 = .ok (.bipush 99, 2) := by decide +kernel
theorem dX3_readNumber_114 : decode cX3_readNumber 114 = .ok (.if_icmp .le 7, 3) := by decide +kernel
theorem dX3_readNumber_117 : decode cX3_readNumber 117 = .ok (.iconst 2, 1) := by decide +kernel
theorem dX3_readNumber_118 : decode cX3_readNumber 118 = .ok (.goto 4, 3) := by decide +kernel
theorem dX3_readNumber_121 : decode cX3_readNumber 121 = .ok (.iconst 1, 1) := by decide +kernel
theorem dX3_readNumber_122 : decode cX3_readNumber 122 = .ok (.putfield 40, 3) := by decide +kernel
theorem dX3_readNumber_125 : decode cX3_readNumber 125 = .ok (.return_, 1) := by decide +kernel
theorem dX3_readItem_0 : decode cX3_readItem 0 = .ok (.aload_n 0, 1) := by decide +kernel
theorem dX3_readItem_1 : decode cX3_readItem 1 = .ok (.getfield 40, 3) := by decide +kernel
theorem dX3_readItem_4 : decode cX3_readItem 4 = .ok (.lookupswitch 158 #[(97, 72), (99, 44), (114, 128), (119, 100)], 44) := by decide +kernel
theorem dX3_readItem_48 : decode cX3_readItem 48 = .ok (.aload_n 0, 1) := by decide +kernel
theorem dX3_readItem_49 : decode cX3_readItem 49 = .ok (.getfield 27, 3) := by decide +kernel
theorem dX3_readItem_52 : decode cX3_readItem 52 = .ok (.ifCond .ne 22, 3) := by decide +kernel
theorem dX3_readItem_55 : decode cX3_readItem 55 = .ok (.aload_n 0, 1) := by decide +kernel
theorem dX3_readItem_56 : decode cX3_readItem 56 = .ok (.aload_n 1, 1) := by decide +kernel
theorem dX3_readItem_57 : decode cX3_readItem 57 = .ok (.invokevirtual 70, 3) := by decide +kernel
theorem dX3_readItem_60 : decode cX3_readItem 60 = .ok (.ifCond .eq 14, 3) := by decide +kernel
theorem dX3_readItem_63 : decode cX3_readItem 63 = .ok (.aload_n 0, 1) := by decide +kernel
theorem dX3_readItem_64 : decode cX3_readItem 64 = .ok (.invokevirtual 73, 3) := by decide +kernel
theorem dX3_readItem_67 : decode cX3_readItem 67 = .ok (.ifCond .eq 7, 3) := by decide +kernel
theorem dX3_readItem_70 : decode cX3_readItem 70 = .ok (.iconst 1, 1) := by decide +kernel
theorem dX3_readItem_71 : decode cX3_readItem 71 = .ok (.goto 4, 3) := by decide +kernel
theorem dX3_readItem_74 : decode cX3_readItem 74 = .ok (.iconst 0, 1) := by decide +kernel
theorem dX3_readItem_75 : decode cX3_readItem 75 = .ok (.ireturn, 1) := by decide +kernel
theorem dX3_readItem_76 : decode cX3_readItem 76 = .ok (.aload_n 0, 1) := by decide +kernel
theorem dX3_readItem_77 : decode cX3_readItem 77 = .ok (.getfield 31, 3) := by decide +kernel
theorem dX3_readItem_80 : decode cX3_readItem 80 = .ok (.ifCond .ne 22, 3) := by decide +kernel
theorem dX3_readItem_83 : decode cX3_readItem 83 = .ok (.aload_n 0, 1) := by decide +kernel
theorem dX3_readItem_84 : decode cX3_readItem 84 = .ok (.aload_n 1, 1) := by decide +kernel
theorem dX3_readItem_85 : decode cX3_readItem 85 = .ok (.invokevirtual 77, 3) := by decide +kernel
theorem dX3_readItem_88 : decode cX3_readItem 88 = .ok (.ifCond .eq 14, 3) := by decide +kernel
theorem dX3_readItem_91 : decode cX3_readItem 91 = .ok (.aload_n 0, 1) := by decide +kernel
theorem dX3_readItem_92 : decode cX3_readItem 92 = .ok (.invokevirtual 73, 3) := by decide +kernel
theorem dX3_readItem_95 : decode cX3_readItem 95 = .ok (.ifCond .eq 7, 3) := by decide +kernel
theorem dX3_readItem_98 : decode cX3_readItem 98 = .ok (.iconst 1, 1) := by decide +kernel
theorem dX3_readItem_99 : decode cX3_readItem 99 = .ok (.goto 4, 3) := by decide +kernel
theorem dX3_readItem_102 : decode cX3_readItem 102 = .ok (.iconst 0, 1) := by decide +kernel
theorem dX3_readItem_103 : decode cX3_readItem 103 = .ok (.ireturn, 1) := by decide +kernel
theorem dX3_readItem_104 : decode cX3_readItem 104 = .ok (.aload_n 0, 1) := by decide +kernel
theorem dX3_readItem_105 : decode cX3_readItem 105 = .ok (.getfield 34, 3) := by decide +kernel
theorem dX3_readItem_108 : decode cX3_readItem 108 = .ok (.ifCond .ne 22, 3) := by decide +kernel
theorem dX3_readItem_111 : decode cX3_readItem 111 = .ok (.aload_n 0, 1) := by decide +kernel
theorem dX3_readItem_112 : decode cX3_readItem 112 = .ok (.aload_n 1, 1) := by decide +kernel
theorem dX3_readItem_113 : decode cX3_readItem 113 = .ok (.invokevirtual 80, 3) := by decide +kernel
theorem dX3_readItem_116 : decode cX3_readItem 116 = .ok (.ifCond .eq 14, 3) := by decide +kernel
theorem dX3_readItem_119 : decode cX3_readItem 119 = .ok (.aload_n 0, 1) := by decide +kernel
theorem dX3_readItem_120 : decode cX3_readItem 120 = .ok (.invokevirtual 73, 3) := by decide +kernel
theorem dX3_readItem_123 : decode cX3_readItem 123 = .ok (.ifCond .eq 7, 3) := by decide +kernel
theorem dX3_readItem_126 : decode cX3_readItem 126 = .ok (.iconst 1, 1) := by decide +kernel
theorem dX3_readItem_127 : decode cX3_readItem 127 = .ok (.goto 4, 3) := by decide +kernel
theorem dX3_readItem_130 : decode cX3_readItem 130 = .ok (.iconst 0, 1) := by decide +kernel
theorem dX3_readItem_131 : decode cX3_readItem 131 = .ok (.ireturn, 1) := by decide +kernel
theorem dX3_readItem_132 : decode cX3_readItem 132 = .ok (.aload_n 1, 1) := by decide +kernel
theorem dX3_readItem_133 : decode cX3_readItem 133 = .ok (.getfield 83, 3) := by decide +kernel
theorem dX3_readItem_136 : decode cX3_readItem 136 = .ok (.bipush 7, 2) := by decide +kernel
theorem dX3_readItem_138 : decode cX3_readItem 138 = .ok (.if_icmp .ge 22, 3) := by decide +kernel
theorem dX3_readItem_141 : decode cX3_readItem 141 = .ok (.aload_n 0, 1) := by decide +kernel
theorem dX3_readItem_142 : decode cX3_readItem 142 = .ok (.aload_n 1, 1) := by decide +kernel
theorem dX3_readItem_143 : decode cX3_readItem 143 = .ok (.invokevirtual 86, 3) := by decide +kernel
theorem dX3_readItem_146 : decode cX3_readItem 146 = .ok (.ifCond .eq 14, 3) := by decide +kernel
theorem dX3_readItem_149 : decode cX3_readItem 149 = .ok (.aload_n 0, 1) := by decide +kernel
theorem dX3_readItem_150 : decode cX3_readItem 150 = .ok (.invokevirtual 73, 3) := by decide +kernel
theorem dX3_readItem_153 : decode cX3_readItem 153 = .ok (.ifCond .eq 7, 3) := by decide +kernel
theorem dX3_readItem_156 : decode cX3_readItem 156 = .ok (.iconst 1, 1) := by decide +kernel
theorem dX3_readItem_157 : decode cX3_readItem 157 = .ok (.goto 4, 3) := by decide +kernel
theorem dX3_readItem_160 : decode cX3_readItem 160 = .ok (.iconst 0, 1) := by decide +kernel
theorem dX3_readItem_161 : decode cX3_readItem 161 = .ok (.ireturn, 1) := by decide +kernel
theorem dX3_readItem_162 : decode cX3_readItem 162 = .ok (.iconst 0, 1) := by decide +kernel
theorem dX3_readItem_163 : decode cX3_readItem 163 = .ok (.ireturn, 1) := by decide +kernel
theorem dX3_isEnded_0 : decode cX3_isEnded 0 = .ok (.aload_n 0, 1) := by decide +kernel
theorem dX3_isEnded_1 : decode cX3_isEnded 1 = .ok (.invokevirtual 37, 3) := by decide +kernel
theorem dX3_isEnded_4 : decode cX3_isEnded 4 = .ok (.aload_n 0, 1) := by decide +kernel
theorem dX3_isEnded_5 : decode cX3_isEnded 5 = .ok (.getfield 40, 3) := by decide +kernel
theorem dX3_isEnded_8 : decode cX3_isEnded 8 = .ok (.bipush 59, 2) := by decide +kernel
theorem dX3_isEnded_10 : decode cX3_isEnded 10 = .ok (.if_icmp .ne 7, 3) := by decide +kernel
theorem dX3_isEnded_13 : decode cX3_isEnded 13 = .ok (.iconst 1, 1) := by decide +kernel
theorem dX3_isEnded_14 : decode cX3_isEnded 14 = .ok (.goto 4, 3) := by decide +kernel
theorem dX3_isEnded_17 : decode cX3_isEnded 17 = .ok (.iconst 0, 1) := by decide +kernel
theorem dX3_isEnded_18 : decode cX3_isEnded 18 = .ok (.ireturn, 1) := by decide +kernel
theorem dX3_isNumberFrom_0 : decode cX3_isNumberFrom 0 = .ok (.aload_n 0, 1) := by decide +kernel
theorem dX3_isNumberFrom_1 : decode cX3_isNumberFrom 1 = .ok (.invokevirtual 37, 3) := by decide +kernel
theorem dX3_isNumberFrom_4 : decode cX3_isNumberFrom 4 = .ok (.aload_n 0, 1) := by decide +kernel
theorem dX3_isNumberFrom_5 : decode cX3_isNumberFrom 5 = .ok (.getfield 40, 3) := by decide +kernel
theorem dX3_isNumberFrom_8 : decode cX3_isNumberFrom 8 = .ok (.iconst 1, 1) := by decide +kernel
theorem dX3_isNumberFrom_9 : decode cX3_isNumberFrom 9 = .ok (.if_icmp .ne 23, 3) := by decide +kernel
theorem dX3_isNumberFrom_12 : decode cX3_isNumberFrom 12 = .ok (.aload_n 0, 1) := by decide +kernel
theorem dX3_isNumberFrom_13 : decode cX3_isNumberFrom 13 = .ok (.getfield 61, 3) := by decide +kernel
theorem dX3_isNumberFrom_16 : decode cX3_isNumberFrom 16 = .ok (.iload_n 1, 1) := by decide +kernel
theorem dX3_isNumberFrom_17 : decode cX3_isNumberFrom 17 = .ok (.if_icmp .lt 15, 3) := by decide +kernel
theorem dX3_isNumberFrom_20 : decode cX3_isNumberFrom 20 = .ok (.aload_n 0, 1) := by decide +kernel
theorem dX3_isNumberFrom_21 : decode cX3_isNumberFrom 21 = .ok (.getfield 61, 3) := by decide +kernel
theorem dX3_isNumberFrom_24 : decode cX3_isNumberFrom 24 = .ok (.iload_n 2, 1) := by decide +kernel
theorem dX3_isNumberFrom_25 : decode cX3_isNumberFrom 25 = .ok (.if_icmp .gt 7, 3) := by decide +kernel
theorem dX3_isNumberFrom_28 : decode cX3_isNumberFrom 28 = .ok (.iconst 1, 1) := by decide +kernel
theorem dX3_isNumberFrom_29 : decode cX3_isNumberFrom 29 = .ok (.goto 4, 3) := by decide +kernel
theorem dX3_isNumberFrom_32 : decode cX3_isNumberFrom 32 = .ok (.iconst 0, 1) := by decide +kernel
theorem dX3_isNumberFrom_33 : decode cX3_isNumberFrom 33 = .ok (.ireturn, 1) := by decide +kernel
theorem dX3_readChannels_0 : decode cX3_readChannels 0 = .ok (.aload_n 0, 1) := by decide +kernel
theorem dX3_readChannels_1 : decode cX3_readChannels 1 = .ok (.iconst 1, 1) := by decide +kernel
theorem dX3_readChannels_2 : decode cX3_readChannels 2 = .ok (.putfield 27, 3) := by decide +kernel
theorem dX3_readChannels_5 : decode cX3_readChannels 5 = .ok (.iconst 0, 1) := by decide +kernel
theorem dX3_readChannels_6 : decode cX3_readChannels 6 = .ok (.istore_n 2, 1) := by decide +kernel
theorem dX3_readChannels_7 : decode cX3_readChannels 7 = .ok (.iload_n 2, 1) := by decide +kernel
theorem dX3_readChannels_8 : decode cX3_readChannels 8 = .ok (.iconst 2, 1) := by decide +kernel
theorem dX3_readChannels_9 : decode cX3_readChannels 9 = .ok (.if_icmp .ge 30, 3) := by decide +kernel
theorem dX3_readChannels_12 : decode cX3_readChannels 12 = .ok (.aload_n 0, 1) := by decide +kernel
theorem dX3_readChannels_13 : decode cX3_readChannels 13 = .ok (.iconst 1, 1) := by decide +kernel
theorem dX3_readChannels_14 : decode cX3_readChannels 14 = .ok (.iconst 3, 1) := by decide +kernel
theorem dX3_readChannels_15 : decode cX3_readChannels 15 = .ok (.invokevirtual 89, 3) := by decide +kernel
theorem dX3_readChannels_18 : decode cX3_readChannels 18 = .ok (.ifCond .ne 5, 3) := by decide +kernel
theorem dX3_readChannels_21 : decode cX3_readChannels 21 = .ok (.iconst 0, 1) := by decide +kernel
theorem dX3_readChannels_22 : decode cX3_readChannels 22 = .ok (.ireturn, 1) := by decide +kernel
theorem dX3_readChannels_23 : decode cX3_readChannels 23 = .ok (.aload_n 1, 1) := by decide +kernel
theorem dX3_readChannels_24 : decode cX3_readChannels 24 = .ok (.getfield 93, 3) := by decide +kernel
theorem dX3_readChannels_27 : decode cX3_readChannels 27 = .ok (.iload_n 2, 1) := by decide +kernel
theorem dX3_readChannels_28 : decode cX3_readChannels 28 = .ok (.aload_n 0, 1) := by decide +kernel
theorem dX3_readChannels_29 : decode cX3_readChannels 29 = .ok (.getfield 61, 3) := by decide +kernel
theorem dX3_readChannels_32 : decode cX3_readChannels 32 = .ok (.iastore, 1) := by decide +kernel
theorem dX3_readChannels_33 : decode cX3_readChannels 33 = .ok (.iinc 2 1, 3) := by decide +kernel
theorem dX3_readChannels_36 : decode cX3_readChannels 36 = .ok (.goto (-29), 3) := by decide +kernel
theorem dX3_readChannels_39 : decode cX3_readChannels 39 = .ok (.iconst 1, 1) := by decide +kernel
theorem dX3_readChannels_40 : decode cX3_readChannels 40 = .ok (.ireturn, 1) := by decide +kernel
theorem dX3_readAir_0 : decode cX3_readAir 0 = .ok (.aload_n 0, 1) := by decide +kernel
theorem dX3_readAir_1 : decode cX3_readAir 1 = .ok (.iconst 1, 1) := by decide +kernel
theorem dX3_readAir_2 : decode cX3_readAir 2 = .ok (.putfield 31, 3) := by decide +kernel
theorem dX3_readAir_5 : decode cX3_readAir 5 = .ok (.aload_n 0, 1) := by decide +kernel
theorem dX3_readAir_6 : decode cX3_readAir 6 = .ok (.iconst 1, 1) := by decide +kernel
theorem dX3_readAir_7 : decode cX3_readAir 7 = .ok (.bipush 9, 2) := by decide +kernel
theorem dX3_readAir_9 : decode cX3_readAir 9 = .ok (.invokevirtual 89, 3) := by decide +kernel
theorem dX3_readAir_12 : decode cX3_readAir 12 = .ok (.istore_n 2, 1) := by decide +kernel
theorem dX3_readAir_13 : decode cX3_readAir 13 = .ok (.aload_n 1, 1) := by decide +kernel
theorem dX3_readAir_14 : decode cX3_readAir 14 = .ok (.aload_n 0, 1) := by decide +kernel
theorem dX3_readAir_15 : decode cX3_readAir 15 = .ok (.getfield 61, 3) := by decide +kernel
theorem dX3_readAir_18 : decode cX3_readAir 18 = .ok (.putfield 96, 3) := by decide +kernel
theorem dX3_readAir_21 : decode cX3_readAir 21 = .ok (.iload_n 2, 1) := by decide +kernel
theorem dX3_readAir_22 : decode cX3_readAir 22 = .ok (.ireturn, 1) := by decide +kernel
theorem dX3_readPatience_0 : decode cX3_readPatience 0 = .ok (.aload_n 0, 1) := by decide +kernel
theorem dX3_readPatience_1 : decode cX3_readPatience 1 = .ok (.iconst 1, 1) := by decide +kernel
theorem dX3_readPatience_2 : decode cX3_readPatience 2 = .ok (.putfield 34, 3) := by decide +kernel
theorem dX3_readPatience_5 : decode cX3_readPatience 5 = .ok (.aload_n 0, 1) := by decide +kernel
theorem dX3_readPatience_6 : decode cX3_readPatience 6 = .ok (.iconst 1, 1) := by decide +kernel
theorem dX3_readPatience_7 : decode cX3_readPatience 7 = .ok (.bipush 20, 2) := by decide +kernel
theorem dX3_readPatience_9 : decode cX3_readPatience 9 = .ok (.invokevirtual 89, 3) := by decide +kernel
theorem dX3_readPatience_12 : decode cX3_readPatience 12 = .ok (.istore_n 2, 1) := by decide +kernel
theorem dX3_readPatience_13 : decode cX3_readPatience 13 = .ok (.aload_n 1, 1) := by decide +kernel
theorem dX3_readPatience_14 : decode cX3_readPatience 14 = .ok (.aload_n 0, 1) := by decide +kernel
theorem dX3_readPatience_15 : decode cX3_readPatience 15 = .ok (.getfield 61, 3) := by decide +kernel
theorem dX3_readPatience_18 : decode cX3_readPatience 18 = .ok (.putfield 99, 3) := by decide +kernel
theorem dX3_readPatience_21 : decode cX3_readPatience 21 = .ok (.iload_n 2, 1) := by decide +kernel
theorem dX3_readPatience_22 : decode cX3_readPatience 22 = .ok (.ireturn, 1) := by decide +kernel
theorem dX3_readRadio_0 : decode cX3_readRadio 0 = .ok (.aload_n 1, 1) := by decide +kernel
theorem dX3_readRadio_1 : decode cX3_readRadio 1 = .ok (.getfield 83, 3) := by decide +kernel
theorem dX3_readRadio_4 : decode cX3_readRadio 4 = .ok (.istore_n 2, 1) := by decide +kernel
theorem dX3_readRadio_5 : decode cX3_readRadio 5 = .ok (.iload_n 2, 1) := by decide +kernel
theorem dX3_readRadio_6 : decode cX3_readRadio 6 = .ok (.ifCond .lt 18, 3) := by decide +kernel
theorem dX3_readRadio_9 : decode cX3_readRadio 9 = .ok (.iload_n 2, 1) := by decide +kernel
theorem dX3_readRadio_10 : decode cX3_readRadio 10 = .ok (.bipush 7, 2) := by decide +kernel
theorem dX3_readRadio_12 : decode cX3_readRadio 12 = .ok (.if_icmp .ge 12, 3) := by decide +kernel
theorem dX3_readRadio_15 : decode cX3_readRadio 15 = .ok (.aload_n 0, 1) := by decide +kernel
theorem dX3_readRadio_16 : decode cX3_readRadio 16 = .ok (.iconst 0, 1) := by decide +kernel
theorem dX3_readRadio_17 : decode cX3_readRadio 17 = .ok (.iconst 1, 1) := by decide +kernel
theorem dX3_readRadio_18 : decode cX3_readRadio 18 = .ok (.invokevirtual 89, 3) := by decide +kernel
theorem dX3_readRadio_21 : decode cX3_readRadio 21 = .ok (.ifCond .ne 5, 3) := by decide +kernel
theorem dX3_readRadio_24 : decode cX3_readRadio 24 = .ok (.iconst 0, 1) := by decide +kernel
theorem dX3_readRadio_25 : decode cX3_readRadio 25 = .ok (.ireturn, 1) := by decide +kernel
theorem dX3_readRadio_26 : decode cX3_readRadio 26 = .ok (.aload_n 1, 1) := by decide +kernel
theorem dX3_readRadio_27 : decode cX3_readRadio 27 = .ok (.getfield 102, 3) := by decide +kernel
theorem dX3_readRadio_30 : decode cX3_readRadio 30 = .ok (.iload_n 2, 1) := by decide +kernel
theorem dX3_readRadio_31 : decode cX3_readRadio 31 = .ok (.aload_n 0, 1) := by decide +kernel
theorem dX3_readRadio_32 : decode cX3_readRadio 32 = .ok (.getfield 61, 3) := by decide +kernel
theorem dX3_readRadio_35 : decode cX3_readRadio 35 = .ok (.iastore, 1) := by decide +kernel
theorem dX3_readRadio_36 : decode cX3_readRadio 36 = .ok (.aload_n 0, 1) := by decide +kernel
theorem dX3_readRadio_37 : decode cX3_readRadio 37 = .ok (.iconst 0, 1) := by decide +kernel
theorem dX3_readRadio_38 : decode cX3_readRadio 38 = .ok (.iconst 5, 1) := by decide +kernel
theorem dX3_readRadio_39 : decode cX3_readRadio 39 = .ok (.invokevirtual 89, 3) := by decide +kernel
theorem dX3_readRadio_42 : decode cX3_readRadio 42 = .ok (.ifCond .ne 5, 3) := by decide +kernel
theorem dX3_readRadio_45 : decode cX3_readRadio 45 = .ok (.iconst 0, 1) := by decide +kernel
theorem dX3_readRadio_46 : decode cX3_readRadio 46 = .ok (.ireturn, 1) := by decide +kernel
theorem dX3_readRadio_47 : decode cX3_readRadio 47 = .ok (.aload_n 1, 1) := by decide +kernel
theorem dX3_readRadio_48 : decode cX3_readRadio 48 = .ok (.getfield 105, 3) := by decide +kernel
theorem dX3_readRadio_51 : decode cX3_readRadio 51 = .ok (.iload_n 2, 1) := by decide +kernel
theorem dX3_readRadio_52 : decode cX3_readRadio 52 = .ok (.aload_n 0, 1) := by decide +kernel
theorem dX3_readRadio_53 : decode cX3_readRadio 53 = .ok (.getfield 61, 3) := by decide +kernel
theorem dX3_readRadio_56 : decode cX3_readRadio 56 = .ok (.iastore, 1) := by decide +kernel
theorem dX3_readRadio_57 : decode cX3_readRadio 57 = .ok (.aload_n 0, 1) := by decide +kernel
theorem dX3_readRadio_58 : decode cX3_readRadio 58 = .ok (.iconst 0, 1) := by decide +kernel
theorem dX3_readRadio_59 : decode cX3_readRadio 59 = .ok (.iconst 3, 1) := by decide +kernel
theorem dX3_readRadio_60 : decode cX3_readRadio 60 = .ok (.invokevirtual 89, 3) := by decide +kernel
theorem dX3_readRadio_63 : decode cX3_readRadio 63 = .ok (.ifCond .ne 5, 3) := by decide +kernel
theorem dX3_readRadio_66 : decode cX3_readRadio 66 = .ok (.iconst 0, 1) := by decide +kernel
theorem dX3_readRadio_67 : decode cX3_readRadio 67 = .ok (.ireturn, 1) := by decide +kernel
theorem dX3_readRadio_68 : decode cX3_readRadio 68 = .ok (.aload_n 1, 1) := by decide +kernel
theorem dX3_readRadio_69 : decode cX3_readRadio 69 = .ok (.getfield 108, 3) := by decide +kernel
theorem dX3_readRadio_72 : decode cX3_readRadio 72 = .ok (.iload_n 2, 1) := by decide +kernel
theorem dX3_readRadio_73 : decode cX3_readRadio 73 = .ok (.aload_n 0, 1) := by decide +kernel
theorem dX3_readRadio_74 : decode cX3_readRadio 74 = .ok (.getfield 61, 3) := by decide +kernel
theorem dX3_readRadio_77 : decode cX3_readRadio 77 = .ok (.iastore, 1) := by decide +kernel
theorem dX3_readRadio_78 : decode cX3_readRadio 78 = .ok (.aload_n 1, 1) := by decide +kernel
theorem dX3_readRadio_79 : decode cX3_readRadio 79 = .ok (.dup, 1) := by decide +kernel
theorem dX3_readRadio_80 : decode cX3_readRadio 80 = .ok (.getfield 83, 3) := by decide +kernel
theorem dX3_readRadio_83 : decode cX3_readRadio 83 = .ok (.iconst 1, 1) := by decide +kernel
theorem dX3_readRadio_84 : decode cX3_readRadio 84 = .ok (.iadd, 1) := by decide +kernel
theorem dX3_readRadio_85 : decode cX3_readRadio 85 = .ok (.putfield 83, 3) := by decide +kernel
theorem dX3_readRadio_88 : decode cX3_readRadio 88 = .ok (.iconst 1, 1) := by decide +kernel
theorem dX3_readRadio_89 : decode cX3_readRadio 89 = .ok (.ireturn, 1) := by decide +kernel
theorem dX4_init_0 : decode cX4_init 0 = .ok (.aload_n 0, 1) := by decide +kernel
theorem dX4_init_1 : decode cX4_init 1 = .ok (.invokespecial 3, 3) := by decide +kernel
theorem dX4_init_4 : decode cX4_init 4 = .ok (.aload_n 0, 1) := by decide +kernel
theorem dX4_init_5 : decode cX4_init 5 = .ok (.bipush 7, 2) := by decide +kernel
theorem dX4_init_7 : decode cX4_init 7 = .ok (.newarray .int, 2) := by decide +kernel
theorem dX4_init_9 : decode cX4_init 9 = .ok (.putfield 9, 3) := by decide +kernel
theorem dX4_init_12 : decode cX4_init 12 = .ok (.aload_n 0, 1) := by decide +kernel
theorem dX4_init_13 : decode cX4_init 13 = .ok (.bipush 7, 2) := by decide +kernel
theorem dX4_init_15 : decode cX4_init 15 = .ok (.newarray .int, 2) := by decide +kernel
theorem dX4_init_17 : decode cX4_init 17 = .ok (.putfield 15, 3) := by decide +kernel
theorem dX4_init_20 : decode cX4_init 20 = .ok (.aload_n 0, 1) := by decide +kernel
theorem dX4_init_21 : decode cX4_init 21 = .ok (.bipush 7, 2) := by decide +kernel
theorem dX4_init_23 : decode cX4_init 23 = .ok (.newarray .int, 2) := by decide +kernel
theorem dX4_init_25 : decode cX4_init 25 = .ok (.putfield 18, 3) := by decide +kernel
theorem dX4_init_28 : decode cX4_init 28 = .ok (.aload_n 0, 1) := by decide +kernel
theorem dX4_init_29 : decode cX4_init 29 = .ok (.bipush 7, 2) := by decide +kernel
theorem dX4_init_31 : decode cX4_init 31 = .ok (.newarray .int, 2) := by decide +kernel
theorem dX4_init_33 : decode cX4_init 33 = .ok (.putfield 21, 3) := by decide +kernel
theorem dX4_init_36 : decode cX4_init 36 = .ok (.aload_n 0, 1) := by decide +kernel
theorem dX4_init_37 : decode cX4_init 37 = .ok (.bipush 7, 2) := by decide +kernel
theorem dX4_init_39 : decode cX4_init 39 = .ok (.newarray .int, 2) := by decide +kernel
theorem dX4_init_41 : decode cX4_init 41 = .ok (.putfield 24, 3) := by decide +kernel
theorem dX4_init_44 : decode cX4_init 44 = .ok (.aload_n 0, 1) := by decide +kernel
theorem dX4_init_45 : decode cX4_init 45 = .ok (.iconst 2, 1) := by decide +kernel
theorem dX4_init_46 : decode cX4_init 46 = .ok (.newarray .int, 2) := by decide +kernel
theorem dX4_init_48 : decode cX4_init 48 = .ok (.putfield 27, 3) := by decide +kernel
theorem dX4_init_51 : decode cX4_init 51 = .ok (.aload_n 0, 1) := by decide +kernel
theorem dX4_init_52 : decode cX4_init 52 = .ok (.getfield 27, 3) := by decide +kernel
theorem dX4_init_55 : decode cX4_init 55 = .ok (.iconst 0, 1) := by decide +kernel
theorem dX4_init_56 : decode cX4_init 56 = .ok (.iconst (-1), 1) := by decide +kernel
theorem dX4_init_57 : decode cX4_init 57 = .ok (.iastore, 1) := by decide +kernel
theorem dX4_init_58 : decode cX4_init 58 = .ok (.aload_n 0, 1) := by decide +kernel
theorem dX4_init_59 : decode cX4_init 59 = .ok (.getfield 27, 3) := by decide +kernel
theorem dX4_init_62 : decode cX4_init 62 = .ok (.iconst 1, 1) := by decide +kernel
theorem dX4_init_63 : decode cX4_init 63 = .ok (.iconst (-1), 1) := by decide +kernel
theorem dX4_init_64 : decode cX4_init 64 = .ok (.iastore, 1) := by decide +kernel
theorem dX4_init_65 : decode cX4_init 65 = .ok (.return_, 1) := by decide +kernel
theorem dX4_begin_0 : decode cX4_begin 0 = .ok (.iconst 0, 1) := by decide +kernel
theorem dX4_begin_1 : decode cX4_begin 1 = .ok (.istore_n 2, 1) := by decide +kernel
theorem dX4_begin_2 : decode cX4_begin 2 = .ok (.iload_n 2, 1) := by decide +kernel
theorem dX4_begin_3 : decode cX4_begin 3 = .ok (.bipush 7, 2) := by decide +kernel
theorem dX4_begin_5 : decode cX4_begin 5 = .ok (.if_icmp .ge 26, 3) := by decide +kernel
theorem dX4_begin_8 : decode cX4_begin 8 = .ok (.aload_n 0, 1) := by decide +kernel
theorem dX4_begin_9 : decode cX4_begin 9 = .ok (.getfield 9, 3) := by decide +kernel
theorem dX4_begin_12 : decode cX4_begin 12 = .ok (.iload_n 2, 1) := by decide +kernel
theorem dX4_begin_13 : decode cX4_begin 13 = .ok (.aload_n 1, 1) := by decide +kernel
theorem dX4_begin_14 : decode cX4_begin 14 = .ok (.getfield 30, 3) := by decide +kernel
theorem dX4_begin_17 : decode cX4_begin 17 = .ok (.iload_n 2, 1) := by decide +kernel
theorem dX4_begin_18 : decode cX4_begin 18 = .ok (.iaload, 1) := by decide +kernel
theorem dX4_begin_19 : decode cX4_begin 19 = .ok (.iastore, 1) := by decide +kernel
theorem dX4_begin_20 : decode cX4_begin 20 = .ok (.aload_n 0, 1) := by decide +kernel
theorem dX4_begin_21 : decode cX4_begin 21 = .ok (.iload_n 2, 1) := by decide +kernel
theorem dX4_begin_22 : decode cX4_begin 22 = .ok (.invokevirtual 35, 3) := by decide +kernel
theorem dX4_begin_25 : decode cX4_begin 25 = .ok (.iinc 2 1, 3) := by decide +kernel
theorem dX4_begin_28 : decode cX4_begin 28 = .ok (.goto (-26), 3) := by decide +kernel
theorem dX4_begin_31 : decode cX4_begin 31 = .ok (.aload_n 0, 1) := by decide +kernel
theorem dX4_begin_32 : decode cX4_begin 32 = .ok (.getfield 27, 3) := by decide +kernel
theorem dX4_begin_35 : decode cX4_begin 35 = .ok (.iconst 0, 1) := by decide +kernel
theorem dX4_begin_36 : decode cX4_begin 36 = .ok (.iconst (-1), 1) := by decide +kernel
theorem dX4_begin_37 : decode cX4_begin 37 = .ok (.iastore, 1) := by decide +kernel
theorem dX4_begin_38 : decode cX4_begin 38 = .ok (.aload_n 0, 1) := by decide +kernel
theorem dX4_begin_39 : decode cX4_begin 39 = .ok (.getfield 27, 3) := by decide +kernel
theorem dX4_begin_42 : decode cX4_begin 42 = .ok (.iconst 1, 1) := by decide +kernel
theorem dX4_begin_43 : decode cX4_begin 43 = .ok (.iconst (-1), 1) := by decide +kernel
theorem dX4_begin_44 : decode cX4_begin 44 = .ok (.iastore, 1) := by decide +kernel
theorem dX4_begin_45 : decode cX4_begin 45 = .ok (.aload_n 0, 1) := by decide +kernel
theorem dX4_begin_46 : decode cX4_begin 46 = .ok (.iconst 0, 1) := by decide +kernel
theorem dX4_begin_47 : decode cX4_begin 47 = .ok (.putfield 39, 3) := by decide +kernel
theorem dX4_begin_50 : decode cX4_begin 50 = .ok (.aload_n 0, 1) := by decide +kernel
theorem dX4_begin_51 : decode cX4_begin 51 = .ok (.iconst 0, 1) := by decide +kernel
theorem dX4_begin_52 : decode cX4_begin 52 = .ok (.putfield 43, 3) := by decide +kernel
theorem dX4_begin_55 : decode cX4_begin 55 = .ok (.aload_n 0, 1) := by decide +kernel
theorem dX4_begin_56 : decode cX4_begin 56 = .ok (.iconst 0, 1) := by decide +kernel
theorem dX4_begin_57 : decode cX4_begin 57 = .ok (.putfield 46, 3) := by decide +kernel
theorem dX4_begin_60 : decode cX4_begin 60 = .ok (.aload_n 0, 1) := by decide +kernel
theorem dX4_begin_61 : decode cX4_begin 61 = .ok (.iconst 0, 1) := by decide +kernel
theorem dX4_begin_62 : decode cX4_begin 62 = .ok (.putfield 49, 3) := by decide +kernel
theorem dX4_begin_65 : decode cX4_begin 65 = .ok (.return_, 1) := by decide +kernel
theorem dX4_copy_0 : decode cX4_copy 0 = .ok (.aload_n 1, 1) := by decide +kernel
theorem dX4_copy_1 : decode cX4_copy 1 = .ok (.getfield 9, 3) := by decide +kernel
theorem dX4_copy_4 : decode cX4_copy 4 = .ok (.iconst 0, 1) := by decide +kernel
theorem dX4_copy_5 : decode cX4_copy 5 = .ok (.aload_n 0, 1) := by decide +kernel
theorem dX4_copy_6 : decode cX4_copy 6 = .ok (.getfield 9, 3) := by decide +kernel
theorem dX4_copy_9 : decode cX4_copy 9 = .ok (.iconst 0, 1) := by decide +kernel
theorem dX4_copy_10 : decode cX4_copy 10 = .ok (.bipush 7, 2) := by decide +kernel
theorem dX4_copy_12 : decode cX4_copy 12 = .ok (.invokestatic 52, 3) := by decide +kernel
theorem dX4_copy_15 : decode cX4_copy 15 = .ok (.aload_n 1, 1) := by decide +kernel
theorem dX4_copy_16 : decode cX4_copy 16 = .ok (.getfield 15, 3) := by decide +kernel
theorem dX4_copy_19 : decode cX4_copy 19 = .ok (.iconst 0, 1) := by decide +kernel
theorem dX4_copy_20 : decode cX4_copy 20 = .ok (.aload_n 0, 1) := by decide +kernel
theorem dX4_copy_21 : decode cX4_copy 21 = .ok (.getfield 15, 3) := by decide +kernel
theorem dX4_copy_24 : decode cX4_copy 24 = .ok (.iconst 0, 1) := by decide +kernel
theorem dX4_copy_25 : decode cX4_copy 25 = .ok (.bipush 7, 2) := by decide +kernel
theorem dX4_copy_27 : decode cX4_copy 27 = .ok (.invokestatic 52, 3) := by decide +kernel
theorem dX4_copy_30 : decode cX4_copy 30 = .ok (.aload_n 1, 1) := by decide +kernel
theorem dX4_copy_31 : decode cX4_copy 31 = .ok (.getfield 18, 3) := by decide +kernel
theorem dX4_copy_34 : decode cX4_copy 34 = .ok (.iconst 0, 1) := by decide +kernel
theorem dX4_copy_35 : decode cX4_copy 35 = .ok (.aload_n 0, 1) := by decide +kernel
theorem dX4_copy_36 : decode cX4_copy 36 = .ok (.getfield 18, 3) := by decide +kernel
theorem dX4_copy_39 : decode cX4_copy 39 = .ok (.iconst 0, 1) := by decide +kernel
theorem dX4_copy_40 : decode cX4_copy 40 = .ok (.bipush 7, 2) := by decide +kernel
theorem dX4_copy_42 : decode cX4_copy 42 = .ok (.invokestatic 52, 3) := by decide +kernel
theorem dX4_copy_45 : decode cX4_copy 45 = .ok (.aload_n 1, 1) := by decide +kernel
theorem dX4_copy_46 : decode cX4_copy 46 = .ok (.getfield 21, 3) := by decide +kernel
theorem dX4_copy_49 : decode cX4_copy 49 = .ok (.iconst 0, 1) := by decide +kernel
theorem dX4_copy_50 : decode cX4_copy 50 = .ok (.aload_n 0, 1) := by decide +kernel
theorem dX4_copy_51 : decode cX4_copy 51 = .ok (.getfield 21, 3) := by decide +kernel
theorem dX4_copy_54 : decode cX4_copy 54 = .ok (.iconst 0, 1) := by decide +kernel
theorem dX4_copy_55 : decode cX4_copy 55 = .ok (.bipush 7, 2) := by decide +kernel
theorem dX4_copy_57 : decode cX4_copy 57 = .ok (.invokestatic 52, 3) := by decide +kernel
theorem dX4_copy_60 : decode cX4_copy 60 = .ok (.aload_n 1, 1) := by decide +kernel
theorem dX4_copy_61 : decode cX4_copy 61 = .ok (.getfield 24, 3) := by decide +kernel
theorem dX4_copy_64 : decode cX4_copy 64 = .ok (.iconst 0, 1) := by decide +kernel
theorem dX4_copy_65 : decode cX4_copy 65 = .ok (.aload_n 0, 1) := by decide +kernel
theorem dX4_copy_66 : decode cX4_copy 66 = .ok (.getfield 24, 3) := by decide +kernel
theorem dX4_copy_69 : decode cX4_copy 69 = .ok (.iconst 0, 1) := by decide +kernel
theorem dX4_copy_70 : decode cX4_copy 70 = .ok (.bipush 7, 2) := by decide +kernel
theorem dX4_copy_72 : decode cX4_copy 72 = .ok (.invokestatic 52, 3) := by decide +kernel
theorem dX4_copy_75 : decode cX4_copy 75 = .ok (.aload_n 1, 1) := by decide +kernel
theorem dX4_copy_76 : decode cX4_copy 76 = .ok (.getfield 27, 3) := by decide +kernel
theorem dX4_copy_79 : decode cX4_copy 79 = .ok (.iconst 0, 1) := by decide +kernel
theorem dX4_copy_80 : decode cX4_copy 80 = .ok (.aload_n 0, 1) := by decide +kernel
theorem dX4_copy_81 : decode cX4_copy 81 = .ok (.getfield 27, 3) := by decide +kernel
theorem dX4_copy_84 : decode cX4_copy 84 = .ok (.iconst 0, 1) := by decide +kernel
theorem dX4_copy_85 : decode cX4_copy 85 = .ok (.iconst 2, 1) := by decide +kernel
theorem dX4_copy_86 : decode cX4_copy 86 = .ok (.invokestatic 52, 3) := by decide +kernel
theorem dX4_copy_89 : decode cX4_copy 89 = .ok (.aload_n 0, 1) := by decide +kernel
theorem dX4_copy_90 : decode cX4_copy 90 = .ok (.aload_n 1, 1) := by decide +kernel
theorem dX4_copy_91 : decode cX4_copy 91 = .ok (.getfield 39, 3) := by decide +kernel
theorem dX4_copy_94 : decode cX4_copy 94 = .ok (.putfield 39, 3) := by decide +kernel
theorem dX4_copy_97 : decode cX4_copy 97 = .ok (.aload_n 0, 1) := by decide +kernel
theorem dX4_copy_98 : decode cX4_copy 98 = .ok (.aload_n 1, 1) := by decide +kernel
theorem dX4_copy_99 : decode cX4_copy 99 = .ok (.getfield 43, 3) := by decide +kernel
theorem dX4_copy_102 : decode cX4_copy 102 = .ok (.putfield 43, 3) := by decide +kernel
theorem dX4_copy_105 : decode cX4_copy 105 = .ok (.aload_n 0, 1) := by decide +kernel
theorem dX4_copy_106 : decode cX4_copy 106 = .ok (.aload_n 1, 1) := by decide +kernel
theorem dX4_copy_107 : decode cX4_copy 107 = .ok (.getfield 46, 3) := by decide +kernel
theorem dX4_copy_110 : decode cX4_copy 110 = .ok (.putfield 46, 3) := by decide +kernel
theorem dX4_copy_113 : decode cX4_copy 113 = .ok (.aload_n 0, 1) := by decide +kernel
theorem dX4_copy_114 : decode cX4_copy 114 = .ok (.aload_n 1, 1) := by decide +kernel
theorem dX4_copy_115 : decode cX4_copy 115 = .ok (.getfield 49, 3) := by decide +kernel
theorem dX4_copy_118 : decode cX4_copy 118 = .ok (.putfield 49, 3) := by decide +kernel
theorem dX4_copy_121 : decode cX4_copy 121 = .ok (.return_, 1) := by decide +kernel
theorem dX4_hasControl_0 : decode cX4_hasControl 0 = .ok (.aload_n 0, 1) := by decide +kernel
theorem dX4_hasControl_1 : decode cX4_hasControl 1 = .ok (.getfield 27, 3) := by decide +kernel
theorem dX4_hasControl_4 : decode cX4_hasControl 4 = .ok (.iload_n 1, 1) := by decide +kernel
theorem dX4_hasControl_5 : decode cX4_hasControl 5 = .ok (.iaload, 1) := by decide +kernel
theorem dX4_hasControl_6 : decode cX4_hasControl 6 = .ok (.iconst (-1), 1) := by decide +kernel
theorem dX4_hasControl_7 : decode cX4_hasControl 7 = .ok (.if_icmp .ne 7, 3) := by decide +kernel
theorem dX4_hasControl_10 : decode cX4_hasControl 10 = .ok (.iconst 1, 1) := by decide +kernel
theorem dX4_hasControl_11 : decode cX4_hasControl 11 = .ok (.goto 4, 3) := by decide +kernel
theorem dX4_hasControl_14 : decode cX4_hasControl 14 = .ok (.iconst 0, 1) := by decide +kernel
theorem dX4_hasControl_15 : decode cX4_hasControl 15 = .ok (.ireturn, 1) := by decide +kernel
theorem dX4_isOnAir_0 : decode cX4_isOnAir 0 = .ok (.aload_n 0, 1) := by decide +kernel
theorem dX4_isOnAir_1 : decode cX4_isOnAir 1 = .ok (.getfield 15, 3) := by decide +kernel
theorem dX4_isOnAir_4 : decode cX4_isOnAir 4 = .ok (.iload_n 1, 1) := by decide +kernel
theorem dX4_isOnAir_5 : decode cX4_isOnAir 5 = .ok (.iaload, 1) := by decide +kernel
theorem dX4_isOnAir_6 : decode cX4_isOnAir 6 = .ok (.iconst 4, 1) := by decide +kernel
theorem dX4_isOnAir_7 : decode cX4_isOnAir 7 = .ok (.if_icmp .eq 13, 3) := by decide +kernel
theorem dX4_isOnAir_10 : decode cX4_isOnAir 10 = .ok (.aload_n 0, 1) := by decide +kernel
theorem dX4_isOnAir_11 : decode cX4_isOnAir 11 = .ok (.getfield 15, 3) := by decide +kernel
theorem dX4_isOnAir_14 : decode cX4_isOnAir 14 = .ok (.iload_n 1, 1) := by decide +kernel
theorem dX4_isOnAir_15 : decode cX4_isOnAir 15 = .ok (.iaload, 1) := by decide +kernel
theorem dX4_isOnAir_16 : decode cX4_isOnAir 16 = .ok (.iconst 5, 1) := by decide +kernel
theorem dX4_isOnAir_17 : decode cX4_isOnAir 17 = .ok (.if_icmp .ne 7, 3) := by decide +kernel
theorem dX4_isOnAir_20 : decode cX4_isOnAir 20 = .ok (.iconst 1, 1) := by decide +kernel
theorem dX4_isOnAir_21 : decode cX4_isOnAir 21 = .ok (.goto 4, 3) := by decide +kernel
theorem dX4_isOnAir_24 : decode cX4_isOnAir 24 = .ok (.iconst 0, 1) := by decide +kernel
theorem dX4_isOnAir_25 : decode cX4_isOnAir 25 = .ok (.ireturn, 1) := by decide +kernel
theorem dX4_enter_0 : decode cX4_enter 0 = .ok (.aload_n 0, 1) := by decide +kernel
theorem dX4_enter_1 : decode cX4_enter 1 = .ok (.getfield 15, 3) := by decide +kernel
theorem dX4_enter_4 : decode cX4_enter 4 = .ok (.iload_n 1, 1) := by decide +kernel
theorem dX4_enter_5 : decode cX4_enter 5 = .ok (.iload_n 2, 1) := by decide +kernel
theorem dX4_enter_6 : decode cX4_enter 6 = .ok (.iastore, 1) := by decide +kernel
theorem dX4_enter_7 : decode cX4_enter 7 = .ok (.aload_n 0, 1) := by decide +kernel
theorem dX4_enter_8 : decode cX4_enter 8 = .ok (.getfield 18, 3) := by decide +kernel
theorem dX4_enter_11 : decode cX4_enter 11 = .ok (.iload_n 1, 1) := by decide +kernel
theorem dX4_enter_12 : decode cX4_enter 12 = .ok (.iconst 0, 1) := by decide +kernel
theorem dX4_enter_13 : decode cX4_enter 13 = .ok (.iastore, 1) := by decide +kernel
theorem dX4_enter_14 : decode cX4_enter 14 = .ok (.return_, 1) := by decide +kernel
theorem dX4_rest_0 : decode cX4_rest 0 = .ok (.aload_n 0, 1) := by decide +kernel
theorem dX4_rest_1 : decode cX4_rest 1 = .ok (.iload_n 1, 1) := by decide +kernel
theorem dX4_rest_2 : decode cX4_rest 2 = .ok (.iconst 0, 1) := by decide +kernel
theorem dX4_rest_3 : decode cX4_rest 3 = .ok (.invokevirtual 58, 3) := by decide +kernel
theorem dX4_rest_6 : decode cX4_rest 6 = .ok (.aload_n 0, 1) := by decide +kernel
theorem dX4_rest_7 : decode cX4_rest 7 = .ok (.getfield 21, 3) := by decide +kernel
theorem dX4_rest_10 : decode cX4_rest 10 = .ok (.iload_n 1, 1) := by decide +kernel
theorem dX4_rest_11 : decode cX4_rest 11 = .ok (.iconst 0, 1) := by decide +kernel
theorem dX4_rest_12 : decode cX4_rest 12 = .ok (.iastore, 1) := by decide +kernel
theorem dX4_rest_13 : decode cX4_rest 13 = .ok (.aload_n 0, 1) := by decide +kernel
theorem dX4_rest_14 : decode cX4_rest 14 = .ok (.getfield 24, 3) := by decide +kernel
theorem dX4_rest_17 : decode cX4_rest 17 = .ok (.iload_n 1, 1) := by decide +kernel
theorem dX4_rest_18 : decode cX4_rest 18 = .ok (.iconst 0, 1) := by decide +kernel
theorem dX4_rest_19 : decode cX4_rest 19 = .ok (.iastore, 1) := by decide +kernel
theorem dX4_rest_20 : decode cX4_rest 20 = .ok (.return_, 1) := by decide +kernel
theorem dX4_pressIdle_0 : decode cX4_pressIdle 0 = .ok (.iconst 0, 1) := by decide +kernel
theorem dX4_pressIdle_1 : decode cX4_pressIdle 1 = .ok (.istore_n 3, 1) := by decide +kernel
theorem dX4_pressIdle_2 : decode cX4_pressIdle 2 = .ok (.iload_n 3, 1) := by decide +kernel
theorem dX4_pressIdle_3 : decode cX4_pressIdle 3 = .ok (.aload_n 1, 1) := by decide +kernel
theorem dX4_pressIdle_4 : decode cX4_pressIdle 4 = .ok (.getfield 62, 3) := by decide +kernel
theorem dX4_pressIdle_7 : decode cX4_pressIdle 7 = .ok (.if_icmp .ge 33, 3) := by decide +kernel
theorem dX4_pressIdle_10 : decode cX4_pressIdle 10 = .ok (.iload_n 2, 1) := by decide +kernel
theorem dX4_pressIdle_11 : decode cX4_pressIdle 11 = .ok (.iload_n 3, 1) := by decide +kernel
theorem dX4_pressIdle_12 : decode cX4_pressIdle 12 = .ok (.ishr, 1) := by decide +kernel
theorem dX4_pressIdle_13 : decode cX4_pressIdle 13 = .ok (.iconst 1, 1) := by decide +kernel
theorem dX4_pressIdle_14 : decode cX4_pressIdle 14 = .ok (.iand, 1) := by decide +kernel
theorem dX4_pressIdle_15 : decode cX4_pressIdle 15 = .ok (.iconst 1, 1) := by decide +kernel
theorem dX4_pressIdle_16 : decode cX4_pressIdle 16 = .ok (.if_icmp .ne 18, 3) := by decide +kernel
theorem dX4_pressIdle_19 : decode cX4_pressIdle 19 = .ok (.aload_n 0, 1) := by decide +kernel
theorem dX4_pressIdle_20 : decode cX4_pressIdle 20 = .ok (.getfield 15, 3) := by decide +kernel
theorem dX4_pressIdle_23 : decode cX4_pressIdle 23 = .ok (.iload_n 3, 1) := by decide +kernel
theorem dX4_pressIdle_24 : decode cX4_pressIdle 24 = .ok (.iaload, 1) := by decide +kernel
theorem dX4_pressIdle_25 : decode cX4_pressIdle 25 = .ok (.ifCond .ne 9, 3) := by decide +kernel
theorem dX4_pressIdle_28 : decode cX4_pressIdle 28 = .ok (.aload_n 0, 1) := by decide +kernel
theorem dX4_pressIdle_29 : decode cX4_pressIdle 29 = .ok (.iload_n 3, 1) := by decide +kernel
theorem dX4_pressIdle_30 : decode cX4_pressIdle 30 = .ok (.iconst 1, 1) := by decide +kernel
theorem dX4_pressIdle_31 : decode cX4_pressIdle 31 = .ok (.invokevirtual 58, 3) := by decide +kernel
theorem dX4_pressIdle_34 : decode cX4_pressIdle 34 = .ok (.iinc 3 1, 3) := by decide +kernel
theorem dX4_pressIdle_37 : decode cX4_pressIdle 37 = .ok (.goto (-35), 3) := by decide +kernel
theorem dX4_pressIdle_40 : decode cX4_pressIdle 40 = .ok (.return_, 1) := by decide +kernel
theorem dX4_idleOnes_0 : decode cX4_idleOnes 0 = .ok (.iconst 0, 1) := by decide +kernel
theorem dX4_idleOnes_1 : decode cX4_idleOnes 1 = .ok (.istore_n 2, 1) := by decide +kernel
theorem dX4_idleOnes_2 : decode cX4_idleOnes 2 = .ok (.iconst 0, 1) := by decide +kernel
theorem dX4_idleOnes_3 : decode cX4_idleOnes 3 = .ok (.istore_n 3, 1) := by decide +kernel
theorem dX4_idleOnes_4 : decode cX4_idleOnes 4 = .ok (.iload_n 3, 1) := by decide +kernel
theorem dX4_idleOnes_5 : decode cX4_idleOnes 5 = .ok (.aload_n 1, 1) := by decide +kernel
theorem dX4_idleOnes_6 : decode cX4_idleOnes 6 = .ok (.getfield 62, 3) := by decide +kernel
theorem dX4_idleOnes_9 : decode cX4_idleOnes 9 = .ok (.if_icmp .ge 28, 3) := by decide +kernel
theorem dX4_idleOnes_12 : decode cX4_idleOnes 12 = .ok (.iload_n 2, 1) := by decide +kernel
theorem dX4_idleOnes_13 : decode cX4_idleOnes 13 = .ok (.aload_n 0, 1) := by decide +kernel
theorem dX4_idleOnes_14 : decode cX4_idleOnes 14 = .ok (.getfield 15, 3) := by decide +kernel
theorem dX4_idleOnes_17 : decode cX4_idleOnes 17 = .ok (.iload_n 3, 1) := by decide +kernel
theorem dX4_idleOnes_18 : decode cX4_idleOnes 18 = .ok (.iaload, 1) := by decide +kernel
theorem dX4_idleOnes_19 : decode cX4_idleOnes 19 = .ok (.ifCond .ne 9, 3) := by decide +kernel
theorem dX4_idleOnes_22 : decode cX4_idleOnes 22 = .ok (.iconst 1, 1) := by decide +kernel
theorem dX4_idleOnes_23 : decode cX4_idleOnes 23 = .ok (.iload_n 3, 1) := by decide +kernel
theorem dX4_idleOnes_24 : decode cX4_idleOnes 24 = .ok (.ishl, 1) := by decide +kernel
theorem dX4_idleOnes_25 : decode cX4_idleOnes 25 = .ok (.goto 4, 3) := by decide +kernel
theorem dX4_idleOnes_28 : decode cX4_idleOnes 28 = .ok (.iconst 0, 1) := by decide +kernel
theorem dX4_idleOnes_29 : decode cX4_idleOnes 29 = .ok (.ior, 1) := by decide +kernel
theorem dX4_idleOnes_30 : decode cX4_idleOnes 30 = .ok (.istore_n 2, 1) := by decide +kernel
theorem dX4_idleOnes_31 : decode cX4_idleOnes 31 = .ok (.iinc 3 1, 3) := by decide +kernel
theorem dX4_idleOnes_34 : decode cX4_idleOnes 34 = .ok (.goto (-30), 3) := by decide +kernel
theorem dX4_idleOnes_37 : decode cX4_idleOnes 37 = .ok (.iload_n 2, 1) := by decide +kernel
theorem dX4_idleOnes_38 : decode cX4_idleOnes 38 = .ok (.ireturn, 1) := by decide +kernel
theorem dX4_isAnyWaiting_0 : decode cX4_isAnyWaiting 0 = .ok (.iconst 0, 1) := by decide +kernel
theorem dX4_isAnyWaiting_1 : decode cX4_isAnyWaiting 1 = .ok (.istore_n 2, 1) := by decide +kernel
theorem dX4_isAnyWaiting_2 : decode cX4_isAnyWaiting 2 = .ok (.iload_n 2, 1) := by decide +kernel
theorem dX4_isAnyWaiting_3 : decode cX4_isAnyWaiting 3 = .ok (.aload_n 1, 1) := by decide +kernel
theorem dX4_isAnyWaiting_4 : decode cX4_isAnyWaiting 4 = .ok (.getfield 62, 3) := by decide +kernel
theorem dX4_isAnyWaiting_7 : decode cX4_isAnyWaiting 7 = .ok (.if_icmp .ge 41, 3) := by decide +kernel
theorem dX4_isAnyWaiting_10 : decode cX4_isAnyWaiting 10 = .ok (.aload_n 0, 1) := by decide +kernel
theorem dX4_isAnyWaiting_11 : decode cX4_isAnyWaiting 11 = .ok (.getfield 15, 3) := by decide +kernel
theorem dX4_isAnyWaiting_14 : decode cX4_isAnyWaiting 14 = .ok (.iload_n 2, 1) := by decide +kernel
theorem dX4_isAnyWaiting_15 : decode cX4_isAnyWaiting 15 = .ok (.iaload, 1) := by decide +kernel
theorem dX4_isAnyWaiting_16 : decode cX4_isAnyWaiting 16 = .ok (.iconst 1, 1) := by decide +kernel
theorem dX4_isAnyWaiting_17 : decode cX4_isAnyWaiting 17 = .ok (.if_icmp .eq 23, 3) := by decide +kernel
theorem dX4_isAnyWaiting_20 : decode cX4_isAnyWaiting 20 = .ok (.aload_n 0, 1) := by decide +kernel
theorem dX4_isAnyWaiting_21 : decode cX4_isAnyWaiting 21 = .ok (.getfield 15, 3) := by decide +kernel
theorem dX4_isAnyWaiting_24 : decode cX4_isAnyWaiting 24 = .ok (.iload_n 2, 1) := by decide +kernel
theorem dX4_isAnyWaiting_25 : decode cX4_isAnyWaiting 25 = .ok (.iaload, 1) := by decide +kernel
theorem dX4_isAnyWaiting_26 : decode cX4_isAnyWaiting 26 = .ok (.iconst 2, 1) := by decide +kernel
theorem dX4_isAnyWaiting_27 : decode cX4_isAnyWaiting 27 = .ok (.if_icmp .eq 13, 3) := by decide +kernel
theorem dX4_isAnyWaiting_30 : decode cX4_isAnyWaiting 30 = .ok (.aload_n 0, 1) := by decide +kernel
theorem dX4_isAnyWaiting_31 : decode cX4_isAnyWaiting 31 = .ok (.getfield 15, 3) := by decide +kernel
theorem dX4_isAnyWaiting_34 : decode cX4_isAnyWaiting 34 = .ok (.iload_n 2, 1) := by decide +kernel
theorem dX4_isAnyWaiting_35 : decode cX4_isAnyWaiting 35 = .ok (.iaload, 1) := by decide +kernel
theorem dX4_isAnyWaiting_36 : decode cX4_isAnyWaiting 36 = .ok (.iconst 3, 1) := by decide +kernel
theorem dX4_isAnyWaiting_37 : decode cX4_isAnyWaiting 37 = .ok (.if_icmp .ne 5, 3) := by decide +kernel
theorem dX4_isAnyWaiting_40 : decode cX4_isAnyWaiting 40 = .ok (.iconst 1, 1) := by decide +kernel
theorem dX4_isAnyWaiting_41 : decode cX4_isAnyWaiting 41 = .ok (.ireturn, 1) := by decide +kernel
theorem dX4_isAnyWaiting_42 : decode cX4_isAnyWaiting 42 = .ok (.iinc 2 1, 3) := by decide +kernel
theorem dX4_isAnyWaiting_45 : decode cX4_isAnyWaiting 45 = .ok (.goto (-43), 3) := by decide +kernel
theorem dX4_isAnyWaiting_48 : decode cX4_isAnyWaiting 48 = .ok (.iconst 0, 1) := by decide +kernel
theorem dX4_isAnyWaiting_49 : decode cX4_isAnyWaiting 49 = .ok (.ireturn, 1) := by decide +kernel
theorem dX4_free_0 : decode cX4_free 0 = .ok (.aload_n 1, 1) := by decide +kernel
theorem dX4_free_1 : decode cX4_free 1 = .ok (.getfield 65, 3) := by decide +kernel
theorem dX4_free_4 : decode cX4_free 4 = .ok (.iload_n 2, 1) := by decide +kernel
theorem dX4_free_5 : decode cX4_free 5 = .ok (.iaload, 1) := by decide +kernel
theorem dX4_free_6 : decode cX4_free 6 = .ok (.istore_n 3, 1) := by decide +kernel
theorem dX4_free_7 : decode cX4_free 7 = .ok (.iconst 0, 1) := by decide +kernel
theorem dX4_free_8 : decode cX4_free 8 = .ok (.istore 4, 2) := by decide +kernel
theorem dX4_free_10 : decode cX4_free 10 = .ok (.iload 4, 2) := by decide +kernel
theorem dX4_free_12 : decode cX4_free 12 = .ok (.aload_n 1, 1) := by decide +kernel
theorem dX4_free_13 : decode cX4_free 13 = .ok (.getfield 62, 3) := by decide +kernel
theorem dX4_free_16 : decode cX4_free 16 = .ok (.if_icmp .ge 23, 3) := by decide +kernel
theorem dX4_free_19 : decode cX4_free 19 = .ok (.iload_n 3, 1) := by decide +kernel
theorem dX4_free_20 : decode cX4_free 20 = .ok (.aload_n 0, 1) := by decide +kernel
theorem dX4_free_21 : decode cX4_free 21 = .ok (.getfield 24, 3) := by decide +kernel
theorem dX4_free_24 : decode cX4_free 24 = .ok (.iload 4, 2) := by decide +kernel
theorem dX4_free_26 : decode cX4_free 26 = .ok (.iaload, 1) := by decide +kernel
theorem dX4_free_27 : decode cX4_free 27 = .ok (.iload_n 2, 1) := by decide +kernel
theorem dX4_free_28 : decode cX4_free 28 = .ok (.ishr, 1) := by decide +kernel
theorem dX4_free_29 : decode cX4_free 29 = .ok (.iconst 1, 1) := by decide +kernel
theorem dX4_free_30 : decode cX4_free 30 = .ok (.iand, 1) := by decide +kernel
theorem dX4_free_31 : decode cX4_free 31 = .ok (.isub, 1) := by decide +kernel
theorem dX4_free_32 : decode cX4_free 32 = .ok (.istore_n 3, 1) := by decide +kernel
theorem dX4_free_33 : decode cX4_free 33 = .ok (.iinc 4 1, 3) := by decide +kernel
theorem dX4_free_36 : decode cX4_free 36 = .ok (.goto (-26), 3) := by decide +kernel
theorem dX4_free_39 : decode cX4_free 39 = .ok (.iload_n 3, 1) := by decide +kernel
theorem dX4_free_40 : decode cX4_free 40 = .ok (.ireturn, 1) := by decide +kernel
theorem dX4_fullSites_0 : decode cX4_fullSites 0 = .ok (.aload_n 1, 1) := by decide +kernel
theorem dX4_fullSites_1 : decode cX4_fullSites 1 = .ok (.getfield 65, 3) := by decide +kernel
theorem dX4_fullSites_4 : decode cX4_fullSites 4 = .ok (.iconst 0, 1) := by decide +kernel
theorem dX4_fullSites_5 : decode cX4_fullSites 5 = .ok (.iaload, 1) := by decide +kernel
theorem dX4_fullSites_6 : decode cX4_fullSites 6 = .ok (.istore_n 2, 1) := by decide +kernel
theorem dX4_fullSites_7 : decode cX4_fullSites 7 = .ok (.aload_n 1, 1) := by decide +kernel
theorem dX4_fullSites_8 : decode cX4_fullSites 8 = .ok (.getfield 65, 3) := by decide +kernel
theorem dX4_fullSites_11 : decode cX4_fullSites 11 = .ok (.iconst 1, 1) := by decide +kernel
theorem dX4_fullSites_12 : decode cX4_fullSites 12 = .ok (.iaload, 1) := by decide +kernel
theorem dX4_fullSites_13 : decode cX4_fullSites 13 = .ok (.istore_n 3, 1) := by decide +kernel
theorem dX4_fullSites_14 : decode cX4_fullSites 14 = .ok (.iconst 0, 1) := by decide +kernel
theorem dX4_fullSites_15 : decode cX4_fullSites 15 = .ok (.istore 4, 2) := by decide +kernel
theorem dX4_fullSites_17 : decode cX4_fullSites 17 = .ok (.iload 4, 2) := by decide +kernel
theorem dX4_fullSites_19 : decode cX4_fullSites 19 = .ok (.aload_n 1, 1) := by decide +kernel
theorem dX4_fullSites_20 : decode cX4_fullSites 20 = .ok (.getfield 62, 3) := by decide +kernel
theorem dX4_fullSites_23 : decode cX4_fullSites 23 = .ok (.if_icmp .ge 35, 3) := by decide +kernel
theorem dX4_fullSites_26 : decode cX4_fullSites 26 = .ok (.iload_n 2, 1) := by decide +kernel
theorem dX4_fullSites_27 : decode cX4_fullSites 27 = .ok (.aload_n 0, 1) := by decide +kernel
theorem dX4_fullSites_28 : decode cX4_fullSites 28 = .ok (.getfield 24, 3) := by decide +kernel
theorem dX4_fullSites_31 : decode cX4_fullSites 31 = .ok (.iload 4, 2) := by decide +kernel
theorem dX4_fullSites_33 : decode cX4_fullSites 33 = .ok (.iaload, 1) := by decide +kernel
theorem dX4_fullSites_34 : decode cX4_fullSites 34 = .ok (.iconst 1, 1) := by decide +kernel
theorem dX4_fullSites_35 : decode cX4_fullSites 35 = .ok (.iand, 1) := by decide +kernel
theorem dX4_fullSites_36 : decode cX4_fullSites 36 = .ok (.isub, 1) := by decide +kernel
theorem dX4_fullSites_37 : decode cX4_fullSites 37 = .ok (.istore_n 2, 1) := by decide +kernel
theorem dX4_fullSites_38 : decode cX4_fullSites 38 = .ok (.iload_n 3, 1) := by decide +kernel
theorem dX4_fullSites_39 : decode cX4_fullSites 39 = .ok (.aload_n 0, 1) := by decide +kernel
theorem dX4_fullSites_40 : decode cX4_fullSites 40 = .ok (.getfield 24, 3) := by decide +kernel
theorem dX4_fullSites_43 : decode cX4_fullSites 43 = .ok (.iload 4, 2) := by decide +kernel
theorem dX4_fullSites_45 : decode cX4_fullSites 45 = .ok (.iaload, 1) := by decide +kernel
theorem dX4_fullSites_46 : decode cX4_fullSites 46 = .ok (.iconst 1, 1) := by decide +kernel
theorem dX4_fullSites_47 : decode cX4_fullSites 47 = .ok (.ishr, 1) := by decide +kernel
theorem dX4_fullSites_48 : decode cX4_fullSites 48 = .ok (.iconst 1, 1) := by decide +kernel
theorem dX4_fullSites_49 : decode cX4_fullSites 49 = .ok (.iand, 1) := by decide +kernel
theorem dX4_fullSites_50 : decode cX4_fullSites 50 = .ok (.isub, 1) := by decide +kernel
theorem dX4_fullSites_51 : decode cX4_fullSites 51 = .ok (.istore_n 3, 1) := by decide +kernel
theorem dX4_fullSites_52 : decode cX4_fullSites 52 = .ok (.iinc 4 1, 3) := by decide +kernel
theorem dX4_fullSites_55 : decode cX4_fullSites 55 = .ok (.goto (-38), 3) := by decide +kernel
theorem dX4_fullSites_58 : decode cX4_fullSites 58 = .ok (.iload_n 2, 1) := by decide +kernel
theorem dX4_fullSites_59 : decode cX4_fullSites 59 = .ok (.iconst 1, 1) := by decide +kernel
theorem dX4_fullSites_60 : decode cX4_fullSites 60 = .ok (.if_icmp .ge 7, 3) := by decide +kernel
theorem dX4_fullSites_63 : decode cX4_fullSites 63 = .ok (.iconst 1, 1) := by decide +kernel
theorem dX4_fullSites_64 : decode cX4_fullSites 64 = .ok (.goto 4, 3) := by decide +kernel
theorem dX4_fullSites_67 : decode cX4_fullSites 67 = .ok (.iconst 0, 1) := by decide +kernel
theorem dX4_fullSites_68 : decode cX4_fullSites 68 = .ok (.iload_n 3, 1) := by decide +kernel
theorem dX4_fullSites_69 : decode cX4_fullSites 69 = .ok (.iconst 1, 1) := by decide +kernel
theorem dX4_fullSites_70 : decode cX4_fullSites 70 = .ok (.if_icmp .ge 7, 3) := by decide +kernel
theorem dX4_fullSites_73 : decode cX4_fullSites 73 = .ok (.iconst 2, 1) := by decide +kernel
theorem dX4_fullSites_74 : decode cX4_fullSites 74 = .ok (.goto 4, 3) := by decide +kernel
theorem dX4_fullSites_77 : decode cX4_fullSites 77 = .ok (.iconst 0, 1) := by decide +kernel
theorem dX4_fullSites_78 : decode cX4_fullSites 78 = .ok (.ior, 1) := by decide +kernel
theorem dX4_fullSites_79 : decode cX4_fullSites 79 = .ok (.ireturn, 1) := by decide +kernel
theorem dX4_talkerOf_0 : decode cX4_talkerOf 0 = .ok (.iconst 0, 1) := by decide +kernel
theorem dX4_talkerOf_1 : decode cX4_talkerOf 1 = .ok (.istore_n 3, 1) := by decide +kernel
theorem dX4_talkerOf_2 : decode cX4_talkerOf 2 = .ok (.iload_n 3, 1) := by decide +kernel
theorem dX4_talkerOf_3 : decode cX4_talkerOf 3 = .ok (.aload_n 1, 1) := by decide +kernel
theorem dX4_talkerOf_4 : decode cX4_talkerOf 4 = .ok (.getfield 62, 3) := by decide +kernel
theorem dX4_talkerOf_7 : decode cX4_talkerOf 7 = .ok (.if_icmp .ge 31, 3) := by decide +kernel
theorem dX4_talkerOf_10 : decode cX4_talkerOf 10 = .ok (.aload_n 0, 1) := by decide +kernel
theorem dX4_talkerOf_11 : decode cX4_talkerOf 11 = .ok (.getfield 15, 3) := by decide +kernel
theorem dX4_talkerOf_14 : decode cX4_talkerOf 14 = .ok (.iload_n 3, 1) := by decide +kernel
theorem dX4_talkerOf_15 : decode cX4_talkerOf 15 = .ok (.iaload, 1) := by decide +kernel
theorem dX4_talkerOf_16 : decode cX4_talkerOf 16 = .ok (.iconst 4, 1) := by decide +kernel
theorem dX4_talkerOf_17 : decode cX4_talkerOf 17 = .ok (.if_icmp .ne 15, 3) := by decide +kernel
theorem dX4_talkerOf_20 : decode cX4_talkerOf 20 = .ok (.aload_n 1, 1) := by decide +kernel
theorem dX4_talkerOf_21 : decode cX4_talkerOf 21 = .ok (.getfield 68, 3) := by decide +kernel
theorem dX4_talkerOf_24 : decode cX4_talkerOf 24 = .ok (.iload_n 3, 1) := by decide +kernel
theorem dX4_talkerOf_25 : decode cX4_talkerOf 25 = .ok (.iaload, 1) := by decide +kernel
theorem dX4_talkerOf_26 : decode cX4_talkerOf 26 = .ok (.iload_n 2, 1) := by decide +kernel
theorem dX4_talkerOf_27 : decode cX4_talkerOf 27 = .ok (.if_icmp .ne 5, 3) := by decide +kernel
theorem dX4_talkerOf_30 : decode cX4_talkerOf 30 = .ok (.iload_n 3, 1) := by decide +kernel
theorem dX4_talkerOf_31 : decode cX4_talkerOf 31 = .ok (.ireturn, 1) := by decide +kernel
theorem dX4_talkerOf_32 : decode cX4_talkerOf 32 = .ok (.iinc 3 1, 3) := by decide +kernel
theorem dX4_talkerOf_35 : decode cX4_talkerOf 35 = .ok (.goto (-33), 3) := by decide +kernel
theorem dX4_talkerOf_38 : decode cX4_talkerOf 38 = .ok (.bipush (-9), 2) := by decide +kernel
theorem dX4_talkerOf_40 : decode cX4_talkerOf 40 = .ok (.ireturn, 1) := by decide +kernel
theorem dX5_init_0 : decode cX5_init 0 = .ok (.aload_n 0, 1) := by decide +kernel
theorem dX5_init_1 : decode cX5_init 1 = .ok (.invokespecial 1, 3) := by decide +kernel
end
section
theorem dX5_init_4 : decode cX5_init 4 = .ok (.aload_n 0, 1) := by decide +kernel
theorem dX5_init_5 : decode cX5_init 5 = .ok (.new 7, 3) := by decide +kernel
theorem dX5_init_8 : decode cX5_init 8 = .ok (.dup, 1) := by decide +kernel
theorem dX5_init_9 : decode cX5_init 9 = .ok (.invokespecial 9, 3) := by decide +kernel
theorem dX5_init_12 : decode cX5_init 12 = .ok (.putfield 10, 3) := by decide +kernel
theorem dX5_init_15 : decode cX5_init 15 = .ok (.aload_n 0, 1) := by decide +kernel
theorem dX5_init_16 : decode cX5_init 16 = .ok (.new 16, 3) := by decide +kernel
theorem dX5_init_19 : decode cX5_init 19 = .ok (.dup, 1) := by decide +kernel
theorem dX5_init_20 : decode cX5_init 20 = .ok (.invokespecial 18, 3) := by decide +kernel
theorem dX5_init_23 : decode cX5_init 23 = .ok (.putfield 19, 3) := by decide +kernel
theorem dX5_init_26 : decode cX5_init 26 = .ok (.aload_n 0, 1) := by decide +kernel
theorem dX5_init_27 : decode cX5_init 27 = .ok (.new 16, 3) := by decide +kernel
theorem dX5_init_30 : decode cX5_init 30 = .ok (.dup, 1) := by decide +kernel
theorem dX5_init_31 : decode cX5_init 31 = .ok (.invokespecial 18, 3) := by decide +kernel
theorem dX5_init_34 : decode cX5_init 34 = .ok (.putfield 23, 3) := by decide +kernel
theorem dX5_init_37 : decode cX5_init 37 = .ok (.aload_n 0, 1) := by decide +kernel
theorem dX5_init_38 : decode cX5_init 38 = .ok (.new 26, 3) := by decide +kernel
theorem dX5_init_41 : decode cX5_init 41 = .ok (.dup, 1) := by decide +kernel
theorem dX5_init_42 : decode cX5_init 42 = .ok (.invokespecial 28, 3) := by decide +kernel
theorem dX5_init_45 : decode cX5_init 45 = .ok (.putfield 29, 3) := by decide +kernel
theorem dX5_init_48 : decode cX5_init 48 = .ok (.aload_n 0, 1) := by decide +kernel
theorem dX5_init_49 : decode cX5_init 49 = .ok (.new 33, 3) := by decide +kernel
theorem dX5_init_52 : decode cX5_init 52 = .ok (.dup, 1) := by decide +kernel
theorem dX5_init_53 : decode cX5_init 53 = .ok (.invokespecial 35, 3) := by decide +kernel
theorem dX5_init_56 : decode cX5_init 56 = .ok (.putfield 36, 3) := by decide +kernel
theorem dX5_init_59 : decode cX5_init 59 = .ok (.aload_n 0, 1) := by decide +kernel
theorem dX5_init_60 : decode cX5_init 60 = .ok (.new 33, 3) := by decide +kernel
theorem dX5_init_63 : decode cX5_init 63 = .ok (.dup, 1) := by decide +kernel
theorem dX5_init_64 : decode cX5_init 64 = .ok (.invokespecial 35, 3) := by decide +kernel
theorem dX5_init_67 : decode cX5_init 67 = .ok (.putfield 40, 3) := by decide +kernel
theorem dX5_init_70 : decode cX5_init 70 = .ok (.aload_n 0, 1) := by decide +kernel
theorem dX5_init_71 : decode cX5_init 71 = .ok (.new 43, 3) := by decide +kernel
theorem dX5_init_74 : decode cX5_init 74 = .ok (.dup, 1) := by decide +kernel
theorem dX5_init_75 : decode cX5_init 75 = .ok (.invokespecial 45, 3) := by decide +kernel
theorem dX5_init_78 : decode cX5_init 78 = .ok (.putfield 46, 3) := by decide +kernel
theorem dX5_init_81 : decode cX5_init 81 = .ok (.aload_n 0, 1) := by decide +kernel
theorem dX5_init_82 : decode cX5_init 82 = .ok (.iconst 2, 1) := by decide +kernel
theorem dX5_init_83 : decode cX5_init 83 = .ok (.anewarray 33, 3) := by decide +kernel
theorem dX5_init_86 : decode cX5_init 86 = .ok (.putfield 50, 3) := by decide +kernel
theorem dX5_init_89 : decode cX5_init 89 = .ok (.aload_n 0, 1) := by decide +kernel
theorem dX5_init_90 : decode cX5_init 90 = .ok (.bipush 6, 2) := by decide +kernel
theorem dX5_init_92 : decode cX5_init 92 = .ok (.newarray .int, 2) := by decide +kernel
theorem dX5_init_94 : decode cX5_init 94 = .ok (.putfield 54, 3) := by decide +kernel
theorem dX5_init_97 : decode cX5_init 97 = .ok (.aload_n 0, 1) := by decide +kernel
theorem dX5_init_98 : decode cX5_init 98 = .ok (.bipush 6, 2) := by decide +kernel
theorem dX5_init_100 : decode cX5_init 100 = .ok (.newarray .int, 2) := by decide +kernel
theorem dX5_init_102 : decode cX5_init 102 = .ok (.putfield 58, 3) := by decide +kernel
theorem dX5_init_105 : decode cX5_init 105 = .ok (.aload_n 0, 1) := by decide +kernel
theorem dX5_init_106 : decode cX5_init 106 = .ok (.iconst 4, 1) := by decide +kernel
theorem dX5_init_107 : decode cX5_init 107 = .ok (.newarray .int, 2) := by decide +kernel
theorem dX5_init_109 : decode cX5_init 109 = .ok (.putfield 61, 3) := by decide +kernel
theorem dX5_init_112 : decode cX5_init 112 = .ok (.iconst 0, 1) := by decide +kernel
theorem dX5_init_113 : decode cX5_init 113 = .ok (.istore_n 1, 1) := by decide +kernel
theorem dX5_init_114 : decode cX5_init 114 = .ok (.iload_n 1, 1) := by decide +kernel
theorem dX5_init_115 : decode cX5_init 115 = .ok (.iconst 2, 1) := by decide +kernel
theorem dX5_init_116 : decode cX5_init 116 = .ok (.if_icmp .ge 22, 3) := by decide +kernel
theorem dX5_init_119 : decode cX5_init 119 = .ok (.aload_n 0, 1) := by decide +kernel
theorem dX5_init_120 : decode cX5_init 120 = .ok (.getfield 50, 3) := by decide +kernel
theorem dX5_init_123 : decode cX5_init 123 = .ok (.iload_n 1, 1) := by decide +kernel
theorem dX5_init_124 : decode cX5_init 124 = .ok (.new 33, 3) := by decide +kernel
theorem dX5_init_127 : decode cX5_init 127 = .ok (.dup, 1) := by decide +kernel
theorem dX5_init_128 : decode cX5_init 128 = .ok (.invokespecial 35, 3) := by decide +kernel
theorem dX5_init_131 : decode cX5_init 131 = .ok (.aastore, 1) := by decide +kernel
theorem dX5_init_132 : decode cX5_init 132 = .ok (.iinc 1 1, 3) := by decide +kernel
theorem dX5_init_135 : decode cX5_init 135 = .ok (.goto (-21), 3) := by decide +kernel
theorem dX5_init_138 : decode cX5_init 138 = .ok (.return_, 1) := by decide +kernel
theorem dX5_type_0 : decode cX5_type 0 = .ok (.iload_n 1, 1) := by decide +kernel
theorem dX5_type_1 : decode cX5_type 1 = .ok (.ifCond .lt 10, 3) := by decide +kernel
theorem dX5_type_4 : decode cX5_type 4 = .ok (.iload_n 1, 1) := by decide +kernel
theorem dX5_type_5 : decode cX5_type 5 = .ok (.sipush 255, 3) := by decide +kernel
theorem dX5_type_8 : decode cX5_type 8 = .ok (.if_icmp .le 5, 3) := by decide +kernel
theorem dX5_type_11 : decode cX5_type 11 = .ok (.iconst (-1), 1) := by decide +kernel
theorem dX5_type_12 : decode cX5_type 12 = .ok (.ireturn, 1) := by decide +kernel
theorem dX5_type_13 : decode cX5_type 13 = .ok (.aload_n 0, 1) := by decide +kernel
theorem dX5_type_14 : decode cX5_type 14 = .ok (.getfield 10, 3) := by decide +kernel
theorem dX5_type_17 : decode cX5_type 17 = .ok (.iload_n 1, 1) := by decide +kernel
theorem dX5_type_18 : decode cX5_type 18 = .ok (.invokevirtual 64, 3) := by decide +kernel
theorem dX5_type_21 : decode cX5_type 21 = .ok (.ifCond .eq 13, 3) := by decide +kernel
theorem dX5_type_24 : decode cX5_type 24 = .ok (.aload_n 0, 1) := by decide +kernel
theorem dX5_type_25 : decode cX5_type 25 = .ok (.getfield 10, 3) := by decide +kernel
theorem dX5_type_28 : decode cX5_type 28 = .ok (.getfield 68, 3) := by decide +kernel
theorem dX5_type_31 : decode cX5_type 31 = .ok (.goto 5, 3) := by decide +kernel
theorem dX5_type_34 : decode cX5_type 34 = .ok (.bipush (-3), 2) := by decide +kernel
theorem dX5_type_36 : decode cX5_type 36 = .ok (.ireturn, 1) := by decide +kernel
theorem dX5_clear_0 : decode cX5_clear 0 = .ok (.aload_n 0, 1) := by decide +kernel
theorem dX5_clear_1 : decode cX5_clear 1 = .ok (.getfield 10, 3) := by decide +kernel
theorem dX5_clear_4 : decode cX5_clear 4 = .ok (.invokevirtual 72, 3) := by decide +kernel
theorem dX5_clear_7 : decode cX5_clear 7 = .ok (.ireturn, 1) := by decide +kernel
theorem dX5_net_0 : decode cX5_net 0 = .ok (.aload_n 0, 1) := by decide +kernel
theorem dX5_net_1 : decode cX5_net 1 = .ok (.getfield 10, 3) := by decide +kernel
theorem dX5_net_4 : decode cX5_net 4 = .ok (.aload_n 0, 1) := by decide +kernel
theorem dX5_net_5 : decode cX5_net 5 = .ok (.getfield 23, 3) := by decide +kernel
theorem dX5_net_8 : decode cX5_net 8 = .ok (.invokevirtual 76, 3) := by decide +kernel
theorem dX5_net_11 : decode cX5_net 11 = .ok (.istore_n 1, 1) := by decide +kernel
theorem dX5_net_12 : decode cX5_net 12 = .ok (.iload_n 1, 1) := by decide +kernel
theorem dX5_net_13 : decode cX5_net 13 = .ok (.ifCond .ge 5, 3) := by decide +kernel
theorem dX5_net_16 : decode cX5_net 16 = .ok (.iload_n 1, 1) := by decide +kernel
theorem dX5_net_17 : decode cX5_net 17 = .ok (.ireturn, 1) := by decide +kernel
theorem dX5_net_18 : decode cX5_net 18 = .ok (.aload_n 0, 1) := by decide +kernel
theorem dX5_net_19 : decode cX5_net 19 = .ok (.getfield 19, 3) := by decide +kernel
theorem dX5_net_22 : decode cX5_net 22 = .ok (.aload_n 0, 1) := by decide +kernel
theorem dX5_net_23 : decode cX5_net 23 = .ok (.getfield 23, 3) := by decide +kernel
theorem dX5_net_26 : decode cX5_net 26 = .ok (.invokevirtual 80, 3) := by decide +kernel
theorem dX5_net_29 : decode cX5_net 29 = .ok (.aload_n 0, 1) := by decide +kernel
theorem dX5_net_30 : decode cX5_net 30 = .ok (.getfield 36, 3) := by decide +kernel
theorem dX5_net_33 : decode cX5_net 33 = .ok (.aload_n 0, 1) := by decide +kernel
theorem dX5_net_34 : decode cX5_net 34 = .ok (.getfield 19, 3) := by decide +kernel
theorem dX5_net_37 : decode cX5_net 37 = .ok (.invokevirtual 84, 3) := by decide +kernel
theorem dX5_net_40 : decode cX5_net 40 = .ok (.aload_n 0, 1) := by decide +kernel
theorem dX5_net_41 : decode cX5_net 41 = .ok (.getfield 10, 3) := by decide +kernel
theorem dX5_net_44 : decode cX5_net 44 = .ok (.invokevirtual 72, 3) := by decide +kernel
theorem dX5_net_47 : decode cX5_net 47 = .ok (.pop, 1) := by decide +kernel
theorem dX5_net_48 : decode cX5_net 48 = .ok (.aload_n 0, 1) := by decide +kernel
theorem dX5_net_49 : decode cX5_net 49 = .ok (.getfield 46, 3) := by decide +kernel
theorem dX5_net_52 : decode cX5_net 52 = .ok (.invokevirtual 87, 3) := by decide +kernel
theorem dX5_net_55 : decode cX5_net 55 = .ok (.aload_n 0, 1) := by decide +kernel
theorem dX5_net_56 : decode cX5_net 56 = .ok (.iconst 0, 1) := by decide +kernel
theorem dX5_net_57 : decode cX5_net 57 = .ok (.putfield 90, 3) := by decide +kernel
theorem dX5_net_60 : decode cX5_net 60 = .ok (.aload_n 0, 1) := by decide +kernel
theorem dX5_net_61 : decode cX5_net 61 = .ok (.iconst 0, 1) := by decide +kernel
theorem dX5_net_62 : decode cX5_net 62 = .ok (.putfield 93, 3) := by decide +kernel
theorem dX5_net_65 : decode cX5_net 65 = .ok (.iload_n 1, 1) := by decide +kernel
theorem dX5_net_66 : decode cX5_net 66 = .ok (.ireturn, 1) := by decide +kernel
theorem dX5_ticks_0 : decode cX5_ticks 0 = .ok (.iload_n 1, 1) := by decide +kernel
theorem dX5_ticks_1 : decode cX5_ticks 1 = .ok (.iconst 1, 1) := by decide +kernel
theorem dX5_ticks_2 : decode cX5_ticks 2 = .ok (.if_icmp .lt 9, 3) := by decide +kernel
theorem dX5_ticks_5 : decode cX5_ticks 5 = .ok (.iload_n 1, 1) := by decide +kernel
theorem dX5_ticks_6 : decode cX5_ticks 6 = .ok (.bipush 12, 2) := by decide +kernel
theorem dX5_ticks_8 : decode cX5_ticks 8 = .ok (.if_icmp .le 5, 3) := by decide +kernel
theorem dX5_ticks_11 : decode cX5_ticks 11 = .ok (.iconst (-1), 1) := by decide +kernel
theorem dX5_ticks_12 : decode cX5_ticks 12 = .ok (.ireturn, 1) := by decide +kernel
theorem dX5_ticks_13 : decode cX5_ticks 13 = .ok (.aload_n 0, 1) := by decide +kernel
theorem dX5_ticks_14 : decode cX5_ticks 14 = .ok (.getfield 36, 3) := by decide +kernel
theorem dX5_ticks_17 : decode cX5_ticks 17 = .ok (.getfield 96, 3) := by decide +kernel
theorem dX5_ticks_20 : decode cX5_ticks 20 = .ok (.iload_n 1, 1) := by decide +kernel
theorem dX5_ticks_21 : decode cX5_ticks 21 = .ok (.iadd, 1) := by decide +kernel
theorem dX5_ticks_22 : decode cX5_ticks 22 = .ok (.sipush 999, 3) := by decide +kernel
theorem dX5_ticks_25 : decode cX5_ticks 25 = .ok (.if_icmp .le 6, 3) := by decide +kernel
theorem dX5_ticks_28 : decode cX5_ticks 28 = .ok (.bipush (-3), 2) := by decide +kernel
theorem dX5_ticks_30 : decode cX5_ticks 30 = .ok (.ireturn, 1) := by decide +kernel
theorem dX5_ticks_31 : decode cX5_ticks 31 = .ok (.iconst 0, 1) := by decide +kernel
theorem dX5_ticks_32 : decode cX5_ticks 32 = .ok (.istore_n 2, 1) := by decide +kernel
theorem dX5_ticks_33 : decode cX5_ticks 33 = .ok (.iload_n 2, 1) := by decide +kernel
theorem dX5_ticks_34 : decode cX5_ticks 34 = .ok (.iload_n 1, 1) := by decide +kernel
theorem dX5_ticks_35 : decode cX5_ticks 35 = .ok (.if_icmp .ge 35, 3) := by decide +kernel
theorem dX5_ticks_38 : decode cX5_ticks 38 = .ok (.aload_n 0, 1) := by decide +kernel
theorem dX5_ticks_39 : decode cX5_ticks 39 = .ok (.getfield 46, 3) := by decide +kernel
theorem dX5_ticks_42 : decode cX5_ticks 42 = .ok (.aload_n 0, 1) := by decide +kernel
theorem dX5_ticks_43 : decode cX5_ticks 43 = .ok (.getfield 36, 3) := by decide +kernel
theorem dX5_ticks_46 : decode cX5_ticks 46 = .ok (.invokevirtual 99, 3) := by decide +kernel
theorem dX5_ticks_49 : decode cX5_ticks 49 = .ok (.aload_n 0, 1) := by decide +kernel
theorem dX5_ticks_50 : decode cX5_ticks 50 = .ok (.getfield 29, 3) := by decide +kernel
theorem dX5_ticks_53 : decode cX5_ticks 53 = .ok (.aload_n 0, 1) := by decide +kernel
theorem dX5_ticks_54 : decode cX5_ticks 54 = .ok (.getfield 19, 3) := by decide +kernel
theorem dX5_ticks_57 : decode cX5_ticks 57 = .ok (.aload_n 0, 1) := by decide +kernel
theorem dX5_ticks_58 : decode cX5_ticks 58 = .ok (.getfield 36, 3) := by decide +kernel
theorem dX5_ticks_61 : decode cX5_ticks 61 = .ok (.invokevirtual 103, 3) := by decide +kernel
theorem dX5_ticks_64 : decode cX5_ticks 64 = .ok (.iinc 2 1, 3) := by decide +kernel
theorem dX5_ticks_67 : decode cX5_ticks 67 = .ok (.goto (-34), 3) := by decide +kernel
theorem dX5_ticks_70 : decode cX5_ticks 70 = .ok (.iconst 0, 1) := by decide +kernel
theorem dX5_ticks_71 : decode cX5_ticks 71 = .ok (.istore_n 2, 1) := by decide +kernel
theorem dX5_ticks_72 : decode cX5_ticks 72 = .ok (.iconst 0, 1) := by decide +kernel
theorem dX5_ticks_73 : decode cX5_ticks 73 = .ok (.istore_n 3, 1) := by decide +kernel
theorem dX5_ticks_74 : decode cX5_ticks 74 = .ok (.iload_n 3, 1) := by decide +kernel
theorem dX5_ticks_75 : decode cX5_ticks 75 = .ok (.aload_n 0, 1) := by decide +kernel
theorem dX5_ticks_76 : decode cX5_ticks 76 = .ok (.getfield 19, 3) := by decide +kernel
theorem dX5_ticks_79 : decode cX5_ticks 79 = .ok (.getfield 107, 3) := by decide +kernel
theorem dX5_ticks_82 : decode cX5_ticks 82 = .ok (.if_icmp .ge 28, 3) := by decide +kernel
theorem dX5_ticks_85 : decode cX5_ticks 85 = .ok (.iload_n 2, 1) := by decide +kernel
theorem dX5_ticks_86 : decode cX5_ticks 86 = .ok (.aload_n 0, 1) := by decide +kernel
theorem dX5_ticks_87 : decode cX5_ticks 87 = .ok (.getfield 36, 3) := by decide +kernel
theorem dX5_ticks_90 : decode cX5_ticks 90 = .ok (.iload_n 3, 1) := by decide +kernel
theorem dX5_ticks_91 : decode cX5_ticks 91 = .ok (.invokevirtual 110, 3) := by decide +kernel
theorem dX5_ticks_94 : decode cX5_ticks 94 = .ok (.ifCond .eq 7, 3) := by decide +kernel
theorem dX5_ticks_97 : decode cX5_ticks 97 = .ok (.iconst 1, 1) := by decide +kernel
theorem dX5_ticks_98 : decode cX5_ticks 98 = .ok (.goto 4, 3) := by decide +kernel
theorem dX5_ticks_101 : decode cX5_ticks 101 = .ok (.iconst 0, 1) := by decide +kernel
theorem dX5_ticks_102 : decode cX5_ticks 102 = .ok (.iadd, 1) := by decide +kernel
theorem dX5_ticks_103 : decode cX5_ticks 103 = .ok (.istore_n 2, 1) := by decide +kernel
theorem dX5_ticks_104 : decode cX5_ticks 104 = .ok (.iinc 3 1, 3) := by decide +kernel
theorem dX5_ticks_107 : decode cX5_ticks 107 = .ok (.goto (-33), 3) := by decide +kernel
theorem dX5_ticks_110 : decode cX5_ticks 110 = .ok (.iload_n 2, 1) := by decide +kernel
theorem dX5_ticks_111 : decode cX5_ticks 111 = .ok (.ireturn, 1) := by decide +kernel
theorem dX5_presses_0 : decode cX5_presses 0 = .ok (.aload_n 0, 1) := by decide +kernel
theorem dX5_presses_1 : decode cX5_presses 1 = .ok (.getfield 19, 3) := by decide +kernel
theorem dX5_presses_4 : decode cX5_presses 4 = .ok (.iload_n 1, 1) := by decide +kernel
theorem dX5_presses_5 : decode cX5_presses 5 = .ok (.invokevirtual 113, 3) := by decide +kernel
theorem dX5_presses_8 : decode cX5_presses 8 = .ok (.ifCond .eq 10, 3) := by decide +kernel
theorem dX5_presses_11 : decode cX5_presses 11 = .ok (.iload_n 2, 1) := by decide +kernel
theorem dX5_presses_12 : decode cX5_presses 12 = .ok (.invokestatic 116, 3) := by decide +kernel
theorem dX5_presses_15 : decode cX5_presses 15 = .ok (.ifCond .ne 5, 3) := by decide +kernel
theorem dX5_presses_18 : decode cX5_presses 18 = .ok (.iconst (-1), 1) := by decide +kernel
theorem dX5_presses_19 : decode cX5_presses 19 = .ok (.ireturn, 1) := by decide +kernel
theorem dX5_presses_20 : decode cX5_presses 20 = .ok (.aload_n 0, 1) := by decide +kernel
theorem dX5_presses_21 : decode cX5_presses 21 = .ok (.getfield 36, 3) := by decide +kernel
theorem dX5_presses_24 : decode cX5_presses 24 = .ok (.getfield 119, 3) := by decide +kernel
theorem dX5_presses_27 : decode cX5_presses 27 = .ok (.iload_n 1, 1) := by decide +kernel
theorem dX5_presses_28 : decode cX5_presses 28 = .ok (.iaload, 1) := by decide +kernel
theorem dX5_presses_29 : decode cX5_presses 29 = .ok (.ifCond .eq 6, 3) := by decide +kernel
theorem dX5_presses_32 : decode cX5_presses 32 = .ok (.bipush (-2), 2) := by decide +kernel
theorem dX5_presses_34 : decode cX5_presses 34 = .ok (.ireturn, 1) := by decide +kernel
theorem dX5_presses_35 : decode cX5_presses 35 = .ok (.aload_n 0, 1) := by decide +kernel
theorem dX5_presses_36 : decode cX5_presses 36 = .ok (.getfield 46, 3) := by decide +kernel
theorem dX5_presses_39 : decode cX5_presses 39 = .ok (.aload_n 0, 1) := by decide +kernel
theorem dX5_presses_40 : decode cX5_presses 40 = .ok (.getfield 36, 3) := by decide +kernel
theorem dX5_presses_43 : decode cX5_presses 43 = .ok (.invokevirtual 99, 3) := by decide +kernel
theorem dX5_presses_46 : decode cX5_presses 46 = .ok (.aload_n 0, 1) := by decide +kernel
theorem dX5_presses_47 : decode cX5_presses 47 = .ok (.getfield 36, 3) := by decide +kernel
theorem dX5_presses_50 : decode cX5_presses 50 = .ok (.iload_n 1, 1) := by decide +kernel
theorem dX5_presses_51 : decode cX5_presses 51 = .ok (.iconst 1, 1) := by decide +kernel
theorem dX5_presses_52 : decode cX5_presses 52 = .ok (.invokevirtual 122, 3) := by decide +kernel
theorem dX5_presses_55 : decode cX5_presses 55 = .ok (.aload_n 0, 1) := by decide +kernel
theorem dX5_presses_56 : decode cX5_presses 56 = .ok (.getfield 36, 3) := by decide +kernel
theorem dX5_presses_59 : decode cX5_presses 59 = .ok (.getfield 126, 3) := by decide +kernel
theorem dX5_presses_62 : decode cX5_presses 62 = .ok (.iload_n 1, 1) := by decide +kernel
theorem dX5_presses_63 : decode cX5_presses 63 = .ok (.iload_n 2, 1) := by decide +kernel
theorem dX5_presses_64 : decode cX5_presses 64 = .ok (.iastore, 1) := by decide +kernel
theorem dX5_presses_65 : decode cX5_presses 65 = .ok (.aload_n 0, 1) := by decide +kernel
theorem dX5_presses_66 : decode cX5_presses 66 = .ok (.getfield 36, 3) := by decide +kernel
theorem dX5_presses_69 : decode cX5_presses 69 = .ok (.getfield 129, 3) := by decide +kernel
theorem dX5_presses_72 : decode cX5_presses 72 = .ok (.iload_n 1, 1) := by decide +kernel
theorem dX5_presses_73 : decode cX5_presses 73 = .ok (.iaload, 1) := by decide +kernel
theorem dX5_presses_74 : decode cX5_presses 74 = .ok (.ireturn, 1) := by decide +kernel
theorem dX5_releases_0 : decode cX5_releases 0 = .ok (.aload_n 0, 1) := by decide +kernel
theorem dX5_releases_1 : decode cX5_releases 1 = .ok (.getfield 19, 3) := by decide +kernel
theorem dX5_releases_4 : decode cX5_releases 4 = .ok (.iload_n 1, 1) := by decide +kernel
theorem dX5_releases_5 : decode cX5_releases 5 = .ok (.invokevirtual 113, 3) := by decide +kernel
theorem dX5_releases_8 : decode cX5_releases 8 = .ok (.ifCond .ne 5, 3) := by decide +kernel
theorem dX5_releases_11 : decode cX5_releases 11 = .ok (.iconst (-1), 1) := by decide +kernel
theorem dX5_releases_12 : decode cX5_releases 12 = .ok (.ireturn, 1) := by decide +kernel
theorem dX5_releases_13 : decode cX5_releases 13 = .ok (.aload_n 0, 1) := by decide +kernel
theorem dX5_releases_14 : decode cX5_releases 14 = .ok (.getfield 36, 3) := by decide +kernel
theorem dX5_releases_17 : decode cX5_releases 17 = .ok (.getfield 119, 3) := by decide +kernel
theorem dX5_releases_20 : decode cX5_releases 20 = .ok (.iload_n 1, 1) := by decide +kernel
theorem dX5_releases_21 : decode cX5_releases 21 = .ok (.iaload, 1) := by decide +kernel
theorem dX5_releases_22 : decode cX5_releases 22 = .ok (.istore_n 2, 1) := by decide +kernel
theorem dX5_releases_23 : decode cX5_releases 23 = .ok (.iload_n 2, 1) := by decide +kernel
theorem dX5_releases_24 : decode cX5_releases 24 = .ok (.ifCond .ne 6, 3) := by decide +kernel
theorem dX5_releases_27 : decode cX5_releases 27 = .ok (.bipush (-2), 2) := by decide +kernel
theorem dX5_releases_29 : decode cX5_releases 29 = .ok (.ireturn, 1) := by decide +kernel
theorem dX5_releases_30 : decode cX5_releases 30 = .ok (.aload_n 0, 1) := by decide +kernel
theorem dX5_releases_31 : decode cX5_releases 31 = .ok (.getfield 46, 3) := by decide +kernel
theorem dX5_releases_34 : decode cX5_releases 34 = .ok (.aload_n 0, 1) := by decide +kernel
theorem dX5_releases_35 : decode cX5_releases 35 = .ok (.getfield 36, 3) := by decide +kernel
theorem dX5_releases_38 : decode cX5_releases 38 = .ok (.invokevirtual 99, 3) := by decide +kernel
theorem dX5_releases_41 : decode cX5_releases 41 = .ok (.aload_n 0, 1) := by decide +kernel
theorem dX5_releases_42 : decode cX5_releases 42 = .ok (.getfield 36, 3) := by decide +kernel
theorem dX5_releases_45 : decode cX5_releases 45 = .ok (.iload_n 1, 1) := by decide +kernel
theorem dX5_releases_46 : decode cX5_releases 46 = .ok (.invokevirtual 132, 3) := by decide +kernel
theorem dX5_releases_49 : decode cX5_releases 49 = .ok (.iload_n 2, 1) := by decide +kernel
theorem dX5_releases_50 : decode cX5_releases 50 = .ok (.ireturn, 1) := by decide +kernel
theorem dX5_controls_0 : decode cX5_controls 0 = .ok (.iload_n 1, 1) := by decide +kernel
theorem dX5_controls_1 : decode cX5_controls 1 = .ok (.invokestatic 136, 3) := by decide +kernel
theorem dX5_controls_4 : decode cX5_controls 4 = .ok (.ifCond .eq 10, 3) := by decide +kernel
theorem dX5_controls_7 : decode cX5_controls 7 = .ok (.iload_n 2, 1) := by decide +kernel
theorem dX5_controls_8 : decode cX5_controls 8 = .ok (.invokestatic 116, 3) := by decide +kernel
theorem dX5_controls_11 : decode cX5_controls 11 = .ok (.ifCond .ne 5, 3) := by decide +kernel
theorem dX5_controls_14 : decode cX5_controls 14 = .ok (.iconst (-1), 1) := by decide +kernel
theorem dX5_controls_15 : decode cX5_controls 15 = .ok (.ireturn, 1) := by decide +kernel
theorem dX5_controls_16 : decode cX5_controls 16 = .ok (.aload_n 0, 1) := by decide +kernel
theorem dX5_controls_17 : decode cX5_controls 17 = .ok (.getfield 36, 3) := by decide +kernel
theorem dX5_controls_20 : decode cX5_controls 20 = .ok (.iload_n 1, 1) := by decide +kernel
theorem dX5_controls_21 : decode cX5_controls 21 = .ok (.invokevirtual 139, 3) := by decide +kernel
theorem dX5_controls_24 : decode cX5_controls 24 = .ok (.istore_n 3, 1) := by decide +kernel
theorem dX5_controls_25 : decode cX5_controls 25 = .ok (.iload_n 3, 1) := by decide +kernel
theorem dX5_controls_26 : decode cX5_controls 26 = .ok (.iload_n 2, 1) := by decide +kernel
theorem dX5_controls_27 : decode cX5_controls 27 = .ok (.iconst 1, 1) := by decide +kernel
theorem dX5_controls_28 : decode cX5_controls 28 = .ok (.if_icmp .ne 7, 3) := by decide +kernel
theorem dX5_controls_31 : decode cX5_controls 31 = .ok (.iconst 1, 1) := by decide +kernel
theorem dX5_controls_32 : decode cX5_controls 32 = .ok (.goto 4, 3) := by decide +kernel
theorem dX5_controls_35 : decode cX5_controls 35 = .ok (.iconst 0, 1) := by decide +kernel
theorem dX5_controls_36 : decode cX5_controls 36 = .ok (.if_icmp .ne 6, 3) := by decide +kernel
theorem dX5_controls_39 : decode cX5_controls 39 = .ok (.bipush (-2), 2) := by decide +kernel
theorem dX5_controls_41 : decode cX5_controls 41 = .ok (.ireturn, 1) := by decide +kernel
theorem dX5_controls_42 : decode cX5_controls 42 = .ok (.iload_n 3, 1) := by decide +kernel
theorem dX5_controls_43 : decode cX5_controls 43 = .ok (.ifCond .eq 7, 3) := by decide +kernel
theorem dX5_controls_46 : decode cX5_controls 46 = .ok (.iconst 0, 1) := by decide +kernel
theorem dX5_controls_47 : decode cX5_controls 47 = .ok (.goto 12, 3) := by decide +kernel
theorem dX5_controls_50 : decode cX5_controls 50 = .ok (.aload_n 0, 1) := by decide +kernel
theorem dX5_controls_51 : decode cX5_controls 51 = .ok (.getfield 36, 3) := by decide +kernel
theorem dX5_controls_54 : decode cX5_controls 54 = .ok (.getfield 142, 3) := by decide +kernel
theorem dX5_controls_57 : decode cX5_controls 57 = .ok (.iload_n 1, 1) := by decide +kernel
theorem dX5_controls_58 : decode cX5_controls 58 = .ok (.iaload, 1) := by decide +kernel
theorem dX5_controls_59 : decode cX5_controls 59 = .ok (.istore 4, 2) := by decide +kernel
theorem dX5_controls_61 : decode cX5_controls 61 = .ok (.aload_n 0, 1) := by decide +kernel
theorem dX5_controls_62 : decode cX5_controls 62 = .ok (.getfield 46, 3) := by decide +kernel
theorem dX5_controls_65 : decode cX5_controls 65 = .ok (.aload_n 0, 1) := by decide +kernel
theorem dX5_controls_66 : decode cX5_controls 66 = .ok (.getfield 36, 3) := by decide +kernel
theorem dX5_controls_69 : decode cX5_controls 69 = .ok (.invokevirtual 99, 3) := by decide +kernel
theorem dX5_controls_72 : decode cX5_controls 72 = .ok (.aload_n 0, 1) := by decide +kernel
theorem dX5_controls_73 : decode cX5_controls 73 = .ok (.getfield 36, 3) := by decide +kernel
theorem dX5_controls_76 : decode cX5_controls 76 = .ok (.getfield 142, 3) := by decide +kernel
theorem dX5_controls_79 : decode cX5_controls 79 = .ok (.iload_n 1, 1) := by decide +kernel
theorem dX5_controls_80 : decode cX5_controls 80 = .ok (.iload_n 3, 1) := by decide +kernel
theorem dX5_controls_81 : decode cX5_controls 81 = .ok (.ifCond .eq 7, 3) := by decide +kernel
theorem dX5_controls_84 : decode cX5_controls 84 = .ok (.iconst 0, 1) := by decide +kernel
theorem dX5_controls_85 : decode cX5_controls 85 = .ok (.goto 4, 3) := by decide +kernel
theorem dX5_controls_88 : decode cX5_controls 88 = .ok (.iconst (-1), 1) := by decide +kernel
theorem dX5_controls_89 : decode cX5_controls 89 = .ok (.iastore, 1) := by decide +kernel
theorem dX5_controls_90 : decode cX5_controls 90 = .ok (.iload 4, 2) := by decide +kernel
theorem dX5_controls_92 : decode cX5_controls 92 = .ok (.ireturn, 1) := by decide +kernel
theorem dX5_moves_0 : decode cX5_moves 0 = .ok (.aload_n 0, 1) := by decide +kernel
theorem dX5_moves_1 : decode cX5_moves 1 = .ok (.getfield 19, 3) := by decide +kernel
theorem dX5_moves_4 : decode cX5_moves 4 = .ok (.iload_n 1, 1) := by decide +kernel
theorem dX5_moves_5 : decode cX5_moves 5 = .ok (.invokevirtual 113, 3) := by decide +kernel
theorem dX5_moves_8 : decode cX5_moves 8 = .ok (.ifCond .ne 5, 3) := by decide +kernel
theorem dX5_moves_11 : decode cX5_moves 11 = .ok (.iconst (-1), 1) := by decide +kernel
theorem dX5_moves_12 : decode cX5_moves 12 = .ok (.ireturn, 1) := by decide +kernel
theorem dX5_moves_13 : decode cX5_moves 13 = .ok (.aload_n 0, 1) := by decide +kernel
theorem dX5_moves_14 : decode cX5_moves 14 = .ok (.getfield 36, 3) := by decide +kernel
theorem dX5_moves_17 : decode cX5_moves 17 = .ok (.getfield 119, 3) := by decide +kernel
theorem dX5_moves_20 : decode cX5_moves 20 = .ok (.iload_n 1, 1) := by decide +kernel
theorem dX5_moves_21 : decode cX5_moves 21 = .ok (.iaload, 1) := by decide +kernel
theorem dX5_moves_22 : decode cX5_moves 22 = .ok (.ifCond .eq 6, 3) := by decide +kernel
theorem dX5_moves_25 : decode cX5_moves 25 = .ok (.bipush (-2), 2) := by decide +kernel
theorem dX5_moves_27 : decode cX5_moves 27 = .ok (.ireturn, 1) := by decide +kernel
theorem dX5_moves_28 : decode cX5_moves 28 = .ok (.aload_n 0, 1) := by decide +kernel
theorem dX5_moves_29 : decode cX5_moves 29 = .ok (.getfield 46, 3) := by decide +kernel
theorem dX5_moves_32 : decode cX5_moves 32 = .ok (.aload_n 0, 1) := by decide +kernel
theorem dX5_moves_33 : decode cX5_moves 33 = .ok (.getfield 36, 3) := by decide +kernel
theorem dX5_moves_36 : decode cX5_moves 36 = .ok (.invokevirtual 99, 3) := by decide +kernel
theorem dX5_moves_39 : decode cX5_moves 39 = .ok (.aload_n 0, 1) := by decide +kernel
theorem dX5_moves_40 : decode cX5_moves 40 = .ok (.getfield 36, 3) := by decide +kernel
theorem dX5_moves_43 : decode cX5_moves 43 = .ok (.getfield 129, 3) := by decide +kernel
theorem dX5_moves_46 : decode cX5_moves 46 = .ok (.iload_n 1, 1) := by decide +kernel
theorem dX5_moves_47 : decode cX5_moves 47 = .ok (.iconst 1, 1) := by decide +kernel
theorem dX5_moves_48 : decode cX5_moves 48 = .ok (.aload_n 0, 1) := by decide +kernel
theorem dX5_moves_49 : decode cX5_moves 49 = .ok (.getfield 36, 3) := by decide +kernel
theorem dX5_moves_52 : decode cX5_moves 52 = .ok (.getfield 129, 3) := by decide +kernel
theorem dX5_moves_55 : decode cX5_moves 55 = .ok (.iload_n 1, 1) := by decide +kernel
theorem dX5_moves_56 : decode cX5_moves 56 = .ok (.iaload, 1) := by decide +kernel
theorem dX5_moves_57 : decode cX5_moves 57 = .ok (.isub, 1) := by decide +kernel
theorem dX5_moves_58 : decode cX5_moves 58 = .ok (.iastore, 1) := by decide +kernel
theorem dX5_moves_59 : decode cX5_moves 59 = .ok (.aload_n 0, 1) := by decide +kernel
theorem dX5_moves_60 : decode cX5_moves 60 = .ok (.getfield 36, 3) := by decide +kernel
theorem dX5_moves_63 : decode cX5_moves 63 = .ok (.getfield 129, 3) := by decide +kernel
theorem dX5_moves_66 : decode cX5_moves 66 = .ok (.iload_n 1, 1) := by decide +kernel
theorem dX5_moves_67 : decode cX5_moves 67 = .ok (.iaload, 1) := by decide +kernel
theorem dX5_moves_68 : decode cX5_moves 68 = .ok (.ireturn, 1) := by decide +kernel
theorem dX5_undo_0 : decode cX5_undo 0 = .ok (.aload_n 0, 1) := by decide +kernel
theorem dX5_undo_1 : decode cX5_undo 1 = .ok (.getfield 46, 3) := by decide +kernel
theorem dX5_undo_4 : decode cX5_undo 4 = .ok (.aload_n 0, 1) := by decide +kernel
theorem dX5_undo_5 : decode cX5_undo 5 = .ok (.getfield 36, 3) := by decide +kernel
theorem dX5_undo_8 : decode cX5_undo 8 = .ok (.invokevirtual 145, 3) := by decide +kernel
theorem dX5_undo_11 : decode cX5_undo 11 = .ok (.ifCond .eq 13, 3) := by decide +kernel
theorem dX5_undo_14 : decode cX5_undo 14 = .ok (.aload_n 0, 1) := by decide +kernel
theorem dX5_undo_15 : decode cX5_undo 15 = .ok (.getfield 46, 3) := by decide +kernel
theorem dX5_undo_18 : decode cX5_undo 18 = .ok (.getfield 149, 3) := by decide +kernel
theorem dX5_undo_21 : decode cX5_undo 21 = .ok (.goto 5, 3) := by decide +kernel
theorem dX5_undo_24 : decode cX5_undo 24 = .ok (.bipush (-2), 2) := by decide +kernel
theorem dX5_undo_26 : decode cX5_undo 26 = .ok (.ireturn, 1) := by decide +kernel
theorem dX5_radio_0 : decode cX5_radio 0 = .ok (.aload_n 0, 1) := by decide +kernel
theorem dX5_radio_1 : decode cX5_radio 1 = .ok (.getfield 19, 3) := by decide +kernel
theorem dX5_radio_4 : decode cX5_radio 4 = .ok (.iload_n 1, 1) := by decide +kernel
theorem dX5_radio_5 : decode cX5_radio 5 = .ok (.invokevirtual 113, 3) := by decide +kernel
theorem dX5_radio_8 : decode cX5_radio 8 = .ok (.ifCond .ne 5, 3) := by decide +kernel
theorem dX5_radio_11 : decode cX5_radio 11 = .ok (.iconst (-1), 1) := by decide +kernel
theorem dX5_radio_12 : decode cX5_radio 12 = .ok (.ireturn, 1) := by decide +kernel
theorem dX5_radio_13 : decode cX5_radio 13 = .ok (.iload_n 2, 1) := by decide +kernel
theorem dX5_radio_14 : decode cX5_radio 14 = .ok (.tableswitch 112 0 6 #[42, 52, 62, 72, 82, 92, 102], 42) := by decide +kernel
theorem dX5_radio_56 : decode cX5_radio 56 = .ok (.aload_n 0, 1) := by decide +kernel
theorem dX5_radio_57 : decode cX5_radio 57 = .ok (.getfield 36, 3) := by decide +kernel
theorem dX5_radio_60 : decode cX5_radio 60 = .ok (.getfield 129, 3) := by decide +kernel
theorem dX5_radio_63 : decode cX5_radio 63 = .ok (.iload_n 1, 1) := by decide +kernel
theorem dX5_radio_64 : decode cX5_radio 64 = .ok (.iaload, 1) := by decide +kernel
theorem dX5_radio_65 : decode cX5_radio 65 = .ok (.ireturn, 1) := by decide +kernel
theorem dX5_radio_66 : decode cX5_radio 66 = .ok (.aload_n 0, 1) := by decide +kernel
theorem dX5_radio_67 : decode cX5_radio 67 = .ok (.getfield 19, 3) := by decide +kernel
theorem dX5_radio_70 : decode cX5_radio 70 = .ok (.getfield 152, 3) := by decide +kernel
theorem dX5_radio_73 : decode cX5_radio 73 = .ok (.iload_n 1, 1) := by decide +kernel
theorem dX5_radio_74 : decode cX5_radio 74 = .ok (.iaload, 1) := by decide +kernel
theorem dX5_radio_75 : decode cX5_radio 75 = .ok (.ireturn, 1) := by decide +kernel
theorem dX5_radio_76 : decode cX5_radio 76 = .ok (.aload_n 0, 1) := by decide +kernel
theorem dX5_radio_77 : decode cX5_radio 77 = .ok (.getfield 19, 3) := by decide +kernel
theorem dX5_radio_80 : decode cX5_radio 80 = .ok (.getfield 155, 3) := by decide +kernel
theorem dX5_radio_83 : decode cX5_radio 83 = .ok (.iload_n 1, 1) := by decide +kernel
theorem dX5_radio_84 : decode cX5_radio 84 = .ok (.iaload, 1) := by decide +kernel
theorem dX5_radio_85 : decode cX5_radio 85 = .ok (.ireturn, 1) := by decide +kernel
theorem dX5_radio_86 : decode cX5_radio 86 = .ok (.aload_n 0, 1) := by decide +kernel
theorem dX5_radio_87 : decode cX5_radio 87 = .ok (.getfield 36, 3) := by decide +kernel
theorem dX5_radio_90 : decode cX5_radio 90 = .ok (.getfield 119, 3) := by decide +kernel
theorem dX5_radio_93 : decode cX5_radio 93 = .ok (.iload_n 1, 1) := by decide +kernel
theorem dX5_radio_94 : decode cX5_radio 94 = .ok (.iaload, 1) := by decide +kernel
theorem dX5_radio_95 : decode cX5_radio 95 = .ok (.ireturn, 1) := by decide +kernel
theorem dX5_radio_96 : decode cX5_radio 96 = .ok (.aload_n 0, 1) := by decide +kernel
theorem dX5_radio_97 : decode cX5_radio 97 = .ok (.getfield 36, 3) := by decide +kernel
theorem dX5_radio_100 : decode cX5_radio 100 = .ok (.getfield 158, 3) := by decide +kernel
theorem dX5_radio_103 : decode cX5_radio 103 = .ok (.iload_n 1, 1) := by decide +kernel
theorem dX5_radio_104 : decode cX5_radio 104 = .ok (.iaload, 1) := by decide +kernel
theorem dX5_radio_105 : decode cX5_radio 105 = .ok (.ireturn, 1) := by decide +kernel
theorem dX5_radio_106 : decode cX5_radio 106 = .ok (.aload_n 0, 1) := by decide +kernel
theorem dX5_radio_107 : decode cX5_radio 107 = .ok (.getfield 36, 3) := by decide +kernel
theorem dX5_radio_110 : decode cX5_radio 110 = .ok (.getfield 126, 3) := by decide +kernel
theorem dX5_radio_113 : decode cX5_radio 113 = .ok (.iload_n 1, 1) := by decide +kernel
theorem dX5_radio_114 : decode cX5_radio 114 = .ok (.iaload, 1) := by decide +kernel
theorem dX5_radio_115 : decode cX5_radio 115 = .ok (.ireturn, 1) := by decide +kernel
theorem dX5_radio_116 : decode cX5_radio 116 = .ok (.aload_n 0, 1) := by decide +kernel
theorem dX5_radio_117 : decode cX5_radio 117 = .ok (.getfield 36, 3) := by decide +kernel
theorem dX5_radio_120 : decode cX5_radio 120 = .ok (.getfield 161, 3) := by decide +kernel
theorem dX5_radio_123 : decode cX5_radio 123 = .ok (.iload_n 1, 1) := by decide +kernel
theorem dX5_radio_124 : decode cX5_radio 124 = .ok (.iaload, 1) := by decide +kernel
theorem dX5_radio_125 : decode cX5_radio 125 = .ok (.ireturn, 1) := by decide +kernel
theorem dX5_radio_126 : decode cX5_radio 126 = .ok (.iconst (-1), 1) := by decide +kernel
theorem dX5_radio_127 : decode cX5_radio 127 = .ok (.ireturn, 1) := by decide +kernel
theorem dX5_site_0 : decode cX5_site 0 = .ok (.iload_n 1, 1) := by decide +kernel
theorem dX5_site_1 : decode cX5_site 1 = .ok (.invokestatic 136, 3) := by decide +kernel
theorem dX5_site_4 : decode cX5_site 4 = .ok (.ifCond .ne 5, 3) := by decide +kernel
theorem dX5_site_7 : decode cX5_site 7 = .ok (.iconst (-1), 1) := by decide +kernel
theorem dX5_site_8 : decode cX5_site 8 = .ok (.ireturn, 1) := by decide +kernel
theorem dX5_site_9 : decode cX5_site 9 = .ok (.iload_n 2, 1) := by decide +kernel
theorem dX5_site_10 : decode cX5_site 10 = .ok (.tableswitch 95 0 3 #[30, 40, 53, 70], 30) := by decide +kernel
theorem dX5_site_40 : decode cX5_site 40 = .ok (.aload_n 0, 1) := by decide +kernel
theorem dX5_site_41 : decode cX5_site 41 = .ok (.getfield 19, 3) := by decide +kernel
theorem dX5_site_44 : decode cX5_site 44 = .ok (.getfield 164, 3) := by decide +kernel
theorem dX5_site_47 : decode cX5_site 47 = .ok (.iload_n 1, 1) := by decide +kernel
theorem dX5_site_48 : decode cX5_site 48 = .ok (.iaload, 1) := by decide +kernel
theorem dX5_site_49 : decode cX5_site 49 = .ok (.ireturn, 1) := by decide +kernel
theorem dX5_site_50 : decode cX5_site 50 = .ok (.aload_n 0, 1) := by decide +kernel
theorem dX5_site_51 : decode cX5_site 51 = .ok (.getfield 36, 3) := by decide +kernel
theorem dX5_site_54 : decode cX5_site 54 = .ok (.aload_n 0, 1) := by decide +kernel
theorem dX5_site_55 : decode cX5_site 55 = .ok (.getfield 19, 3) := by decide +kernel
theorem dX5_site_58 : decode cX5_site 58 = .ok (.iload_n 1, 1) := by decide +kernel
theorem dX5_site_59 : decode cX5_site 59 = .ok (.invokevirtual 167, 3) := by decide +kernel
theorem dX5_site_62 : decode cX5_site 62 = .ok (.ireturn, 1) := by decide +kernel
theorem dX5_site_63 : decode cX5_site 63 = .ok (.aload_n 0, 1) := by decide +kernel
theorem dX5_site_64 : decode cX5_site 64 = .ok (.getfield 36, 3) := by decide +kernel
theorem dX5_site_67 : decode cX5_site 67 = .ok (.iload_n 1, 1) := by decide +kernel
theorem dX5_site_68 : decode cX5_site 68 = .ok (.invokevirtual 139, 3) := by decide +kernel
theorem dX5_site_71 : decode cX5_site 71 = .ok (.ifCond .eq 7, 3) := by decide +kernel
theorem dX5_site_74 : decode cX5_site 74 = .ok (.iconst 1, 1) := by decide +kernel
theorem dX5_site_75 : decode cX5_site 75 = .ok (.goto 4, 3) := by decide +kernel
theorem dX5_site_78 : decode cX5_site 78 = .ok (.iconst 0, 1) := by decide +kernel
theorem dX5_site_79 : decode cX5_site 79 = .ok (.ireturn, 1) := by decide +kernel
theorem dX5_site_80 : decode cX5_site 80 = .ok (.aload_n 0, 1) := by decide +kernel
theorem dX5_site_81 : decode cX5_site 81 = .ok (.getfield 36, 3) := by decide +kernel
theorem dX5_site_84 : decode cX5_site 84 = .ok (.iload_n 1, 1) := by decide +kernel
theorem dX5_site_85 : decode cX5_site 85 = .ok (.invokevirtual 139, 3) := by decide +kernel
theorem dX5_site_88 : decode cX5_site 88 = .ok (.ifCond .eq 7, 3) := by decide +kernel
theorem dX5_site_91 : decode cX5_site 91 = .ok (.iconst 0, 1) := by decide +kernel
theorem dX5_site_92 : decode cX5_site 92 = .ok (.goto 12, 3) := by decide +kernel
theorem dX5_site_95 : decode cX5_site 95 = .ok (.aload_n 0, 1) := by decide +kernel
theorem dX5_site_96 : decode cX5_site 96 = .ok (.getfield 36, 3) := by decide +kernel
theorem dX5_site_99 : decode cX5_site 99 = .ok (.getfield 142, 3) := by decide +kernel
theorem dX5_site_102 : decode cX5_site 102 = .ok (.iload_n 1, 1) := by decide +kernel
theorem dX5_site_103 : decode cX5_site 103 = .ok (.iaload, 1) := by decide +kernel
theorem dX5_site_104 : decode cX5_site 104 = .ok (.ireturn, 1) := by decide +kernel
theorem dX5_site_105 : decode cX5_site 105 = .ok (.iconst (-1), 1) := by decide +kernel
theorem dX5_site_106 : decode cX5_site 106 = .ok (.ireturn, 1) := by decide +kernel
theorem dX5_talker_0 : decode cX5_talker 0 = .ok (.iload_n 1, 1) := by decide +kernel
theorem dX5_talker_1 : decode cX5_talker 1 = .ok (.ifCond .lt 9, 3) := by decide +kernel
theorem dX5_talker_4 : decode cX5_talker 4 = .ok (.iload_n 1, 1) := by decide +kernel
theorem dX5_talker_5 : decode cX5_talker 5 = .ok (.bipush 6, 2) := by decide +kernel
theorem dX5_talker_7 : decode cX5_talker 7 = .ok (.if_icmp .lt 7, 3) := by decide +kernel
theorem dX5_talker_10 : decode cX5_talker 10 = .ok (.iconst (-1), 1) := by decide +kernel
theorem dX5_talker_11 : decode cX5_talker 11 = .ok (.goto 15, 3) := by decide +kernel
theorem dX5_talker_14 : decode cX5_talker 14 = .ok (.aload_n 0, 1) := by decide +kernel
theorem dX5_talker_15 : decode cX5_talker 15 = .ok (.getfield 36, 3) := by decide +kernel
theorem dX5_talker_18 : decode cX5_talker 18 = .ok (.aload_n 0, 1) := by decide +kernel
theorem dX5_talker_19 : decode cX5_talker 19 = .ok (.getfield 19, 3) := by decide +kernel
theorem dX5_talker_22 : decode cX5_talker 22 = .ok (.iload_n 1, 1) := by decide +kernel
theorem dX5_talker_23 : decode cX5_talker 23 = .ok (.invokevirtual 171, 3) := by decide +kernel
theorem dX5_talker_26 : decode cX5_talker 26 = .ok (.ireturn, 1) := by decide +kernel
theorem dX5_queue_0 : decode cX5_queue 0 = .ok (.iload_n 1, 1) := by decide +kernel
theorem dX5_queue_1 : decode cX5_queue 1 = .ok (.ifCond .ge 5, 3) := by decide +kernel
theorem dX5_queue_4 : decode cX5_queue 4 = .ok (.iconst (-1), 1) := by decide +kernel
theorem dX5_queue_5 : decode cX5_queue 5 = .ok (.ireturn, 1) := by decide +kernel
theorem dX5_queue_6 : decode cX5_queue 6 = .ok (.aload_n 0, 1) := by decide +kernel
theorem dX5_queue_7 : decode cX5_queue 7 = .ok (.getfield 29, 3) := by decide +kernel
theorem dX5_queue_10 : decode cX5_queue 10 = .ok (.aload_n 0, 1) := by decide +kernel
theorem dX5_queue_11 : decode cX5_queue 11 = .ok (.getfield 19, 3) := by decide +kernel
theorem dX5_queue_14 : decode cX5_queue 14 = .ok (.aload_n 0, 1) := by decide +kernel
theorem dX5_queue_15 : decode cX5_queue 15 = .ok (.getfield 36, 3) := by decide +kernel
theorem dX5_queue_18 : decode cX5_queue 18 = .ok (.invokevirtual 174, 3) := by decide +kernel
theorem dX5_queue_21 : decode cX5_queue 21 = .ok (.istore_n 2, 1) := by decide +kernel
theorem dX5_queue_22 : decode cX5_queue 22 = .ok (.iload_n 1, 1) := by decide +kernel
theorem dX5_queue_23 : decode cX5_queue 23 = .ok (.iload_n 2, 1) := by decide +kernel
theorem dX5_queue_24 : decode cX5_queue 24 = .ok (.if_icmp .ge 21, 3) := by decide +kernel
theorem dX5_queue_27 : decode cX5_queue 27 = .ok (.iload_n 1, 1) := by decide +kernel
theorem dX5_queue_28 : decode cX5_queue 28 = .ok (.bipush 7, 2) := by decide +kernel
theorem dX5_queue_30 : decode cX5_queue 30 = .ok (.if_icmp .ge 15, 3) := by decide +kernel
theorem dX5_queue_33 : decode cX5_queue 33 = .ok (.aload_n 0, 1) := by decide +kernel
theorem dX5_queue_34 : decode cX5_queue 34 = .ok (.getfield 29, 3) := by decide +kernel
theorem dX5_queue_37 : decode cX5_queue 37 = .ok (.getfield 178, 3) := by decide +kernel
theorem dX5_queue_40 : decode cX5_queue 40 = .ok (.iload_n 1, 1) := by decide +kernel
theorem dX5_queue_41 : decode cX5_queue 41 = .ok (.iaload, 1) := by decide +kernel
theorem dX5_queue_42 : decode cX5_queue 42 = .ok (.goto 5, 3) := by decide +kernel
theorem dX5_queue_45 : decode cX5_queue 45 = .ok (.bipush (-9), 2) := by decide +kernel
theorem dX5_queue_47 : decode cX5_queue 47 = .ok (.ireturn, 1) := by decide +kernel
theorem dX5_soon_0 : decode cX5_soon 0 = .ok (.aload_n 0, 1) := by decide +kernel
theorem dX5_soon_1 : decode cX5_soon 1 = .ok (.getfield 19, 3) := by decide +kernel
theorem dX5_soon_4 : decode cX5_soon 4 = .ok (.iload_n 1, 1) := by decide +kernel
theorem dX5_soon_5 : decode cX5_soon 5 = .ok (.invokevirtual 113, 3) := by decide +kernel
theorem dX5_soon_8 : decode cX5_soon 8 = .ok (.ifCond .ne 5, 3) := by decide +kernel
theorem dX5_soon_11 : decode cX5_soon 11 = .ok (.iconst (-1), 1) := by decide +kernel
theorem dX5_soon_12 : decode cX5_soon 12 = .ok (.ireturn, 1) := by decide +kernel
theorem dX5_soon_13 : decode cX5_soon 13 = .ok (.aload_n 0, 1) := by decide +kernel
theorem dX5_soon_14 : decode cX5_soon 14 = .ok (.getfield 40, 3) := by decide +kernel
theorem dX5_soon_17 : decode cX5_soon 17 = .ok (.aload_n 0, 1) := by decide +kernel
theorem dX5_soon_18 : decode cX5_soon 18 = .ok (.getfield 36, 3) := by decide +kernel
theorem dX5_soon_21 : decode cX5_soon 21 = .ok (.invokevirtual 181, 3) := by decide +kernel
theorem dX5_soon_24 : decode cX5_soon 24 = .ok (.iconst 0, 1) := by decide +kernel
theorem dX5_soon_25 : decode cX5_soon 25 = .ok (.istore_n 2, 1) := by decide +kernel
theorem dX5_soon_26 : decode cX5_soon 26 = .ok (.iload_n 2, 1) := by decide +kernel
theorem dX5_soon_27 : decode cX5_soon 27 = .ok (.bipush 60, 2) := by decide +kernel
theorem dX5_soon_29 : decode cX5_soon 29 = .ok (.if_icmp .gt 52, 3) := by decide +kernel
theorem dX5_soon_32 : decode cX5_soon 32 = .ok (.aload_n 0, 1) := by decide +kernel
theorem dX5_soon_33 : decode cX5_soon 33 = .ok (.getfield 40, 3) := by decide +kernel
theorem dX5_soon_36 : decode cX5_soon 36 = .ok (.iload_n 1, 1) := by decide +kernel
theorem dX5_soon_37 : decode cX5_soon 37 = .ok (.invokevirtual 110, 3) := by decide +kernel
theorem dX5_soon_40 : decode cX5_soon 40 = .ok (.ifCond .eq 5, 3) := by decide +kernel
theorem dX5_soon_43 : decode cX5_soon 43 = .ok (.iload_n 2, 1) := by decide +kernel
theorem dX5_soon_44 : decode cX5_soon 44 = .ok (.ireturn, 1) := by decide +kernel
theorem dX5_soon_45 : decode cX5_soon 45 = .ok (.aload_n 0, 1) := by decide +kernel
theorem dX5_soon_46 : decode cX5_soon 46 = .ok (.getfield 40, 3) := by decide +kernel
theorem dX5_soon_49 : decode cX5_soon 49 = .ok (.getfield 119, 3) := by decide +kernel
theorem dX5_soon_52 : decode cX5_soon 52 = .ok (.iload_n 1, 1) := by decide +kernel
theorem dX5_soon_53 : decode cX5_soon 53 = .ok (.iaload, 1) := by decide +kernel
theorem dX5_soon_54 : decode cX5_soon 54 = .ok (.ifCond .ne 6, 3) := by decide +kernel
theorem dX5_soon_57 : decode cX5_soon 57 = .ok (.bipush (-9), 2) := by decide +kernel
theorem dX5_soon_59 : decode cX5_soon 59 = .ok (.ireturn, 1) := by decide +kernel
theorem dX5_soon_60 : decode cX5_soon 60 = .ok (.aload_n 0, 1) := by decide +kernel
theorem dX5_soon_61 : decode cX5_soon 61 = .ok (.getfield 29, 3) := by decide +kernel
theorem dX5_soon_64 : decode cX5_soon 64 = .ok (.aload_n 0, 1) := by decide +kernel
theorem dX5_soon_65 : decode cX5_soon 65 = .ok (.getfield 19, 3) := by decide +kernel
theorem dX5_soon_68 : decode cX5_soon 68 = .ok (.aload_n 0, 1) := by decide +kernel
theorem dX5_soon_69 : decode cX5_soon 69 = .ok (.getfield 40, 3) := by decide +kernel
theorem dX5_soon_72 : decode cX5_soon 72 = .ok (.invokevirtual 103, 3) := by decide +kernel
theorem dX5_soon_75 : decode cX5_soon 75 = .ok (.iinc 2 1, 3) := by decide +kernel
theorem dX5_soon_78 : decode cX5_soon 78 = .ok (.goto (-52), 3) := by decide +kernel
theorem dX5_soon_81 : decode cX5_soon 81 = .ok (.bipush (-9), 2) := by decide +kernel
theorem dX5_soon_83 : decode cX5_soon 83 = .ok (.ireturn, 1) := by decide +kernel
theorem dX5_within_0 : decode cX5_within 0 = .ok (.iload_n 1, 1) := by decide +kernel
theorem dX5_within_1 : decode cX5_within 1 = .ok (.iconst 1, 1) := by decide +kernel
theorem dX5_within_2 : decode cX5_within 2 = .ok (.if_icmp .lt 18, 3) := by decide +kernel
theorem dX5_within_5 : decode cX5_within 5 = .ok (.iload_n 1, 1) := by decide +kernel
theorem dX5_within_6 : decode cX5_within 6 = .ok (.bipush 60, 2) := by decide +kernel
theorem dX5_within_8 : decode cX5_within 8 = .ok (.if_icmp .gt 12, 3) := by decide +kernel
theorem dX5_within_11 : decode cX5_within 11 = .ok (.iload_n 2, 1) := by decide +kernel
theorem dX5_within_12 : decode cX5_within 12 = .ok (.ifCond .lt 8, 3) := by decide +kernel
theorem dX5_within_15 : decode cX5_within 15 = .ok (.iload_n 2, 1) := by decide +kernel
theorem dX5_within_16 : decode cX5_within 16 = .ok (.iconst 3, 1) := by decide +kernel
theorem dX5_within_17 : decode cX5_within 17 = .ok (.if_icmp .le 5, 3) := by decide +kernel
theorem dX5_within_20 : decode cX5_within 20 = .ok (.iconst (-1), 1) := by decide +kernel
theorem dX5_within_21 : decode cX5_within 21 = .ok (.ireturn, 1) := by decide +kernel
theorem dX5_within_22 : decode cX5_within 22 = .ok (.iconst 0, 1) := by decide +kernel
theorem dX5_within_23 : decode cX5_within 23 = .ok (.istore_n 3, 1) := by decide +kernel
theorem dX5_within_24 : decode cX5_within 24 = .ok (.aload_n 0, 1) := by decide +kernel
theorem dX5_within_25 : decode cX5_within 25 = .ok (.getfield 40, 3) := by decide +kernel
theorem dX5_within_28 : decode cX5_within 28 = .ok (.aload_n 0, 1) := by decide +kernel
theorem dX5_within_29 : decode cX5_within 29 = .ok (.getfield 36, 3) := by decide +kernel
theorem dX5_within_32 : decode cX5_within 32 = .ok (.invokevirtual 181, 3) := by decide +kernel
theorem dX5_within_35 : decode cX5_within 35 = .ok (.iconst 0, 1) := by decide +kernel
theorem dX5_within_36 : decode cX5_within 36 = .ok (.istore 4, 2) := by decide +kernel
theorem dX5_within_38 : decode cX5_within 38 = .ok (.iload 4, 2) := by decide +kernel
theorem dX5_within_40 : decode cX5_within 40 = .ok (.iload_n 1, 1) := by decide +kernel
theorem dX5_within_41 : decode cX5_within 41 = .ok (.if_icmp .ge 49, 3) := by decide +kernel
theorem dX5_within_44 : decode cX5_within 44 = .ok (.aload_n 0, 1) := by decide +kernel
theorem dX5_within_45 : decode cX5_within 45 = .ok (.getfield 29, 3) := by decide +kernel
theorem dX5_within_48 : decode cX5_within 48 = .ok (.aload_n 0, 1) := by decide +kernel
theorem dX5_within_49 : decode cX5_within 49 = .ok (.getfield 19, 3) := by decide +kernel
theorem dX5_within_52 : decode cX5_within 52 = .ok (.aload_n 0, 1) := by decide +kernel
theorem dX5_within_53 : decode cX5_within 53 = .ok (.getfield 40, 3) := by decide +kernel
theorem dX5_within_56 : decode cX5_within 56 = .ok (.invokevirtual 103, 3) := by decide +kernel
theorem dX5_within_59 : decode cX5_within 59 = .ok (.iload_n 2, 1) := by decide +kernel
theorem dX5_within_60 : decode cX5_within 60 = .ok (.invokestatic 136, 3) := by decide +kernel
theorem dX5_within_63 : decode cX5_within 63 = .ok (.ifCond .eq 21, 3) := by decide +kernel
theorem dX5_within_66 : decode cX5_within 66 = .ok (.iload_n 3, 1) := by decide +kernel
theorem dX5_within_67 : decode cX5_within 67 = .ok (.aload_n 0, 1) := by decide +kernel
theorem dX5_within_68 : decode cX5_within 68 = .ok (.getfield 40, 3) := by decide +kernel
theorem dX5_within_71 : decode cX5_within 71 = .ok (.aload_n 0, 1) := by decide +kernel
theorem dX5_within_72 : decode cX5_within 72 = .ok (.getfield 19, 3) := by decide +kernel
theorem dX5_within_75 : decode cX5_within 75 = .ok (.invokevirtual 183, 3) := by decide +kernel
theorem dX5_within_78 : decode cX5_within 78 = .ok (.iload_n 2, 1) := by decide +kernel
theorem dX5_within_79 : decode cX5_within 79 = .ok (.ishr, 1) := by decide +kernel
theorem dX5_within_80 : decode cX5_within 80 = .ok (.iconst 1, 1) := by decide +kernel
theorem dX5_within_81 : decode cX5_within 81 = .ok (.iand, 1) := by decide +kernel
theorem dX5_within_82 : decode cX5_within 82 = .ok (.iadd, 1) := by decide +kernel
theorem dX5_within_83 : decode cX5_within 83 = .ok (.istore_n 3, 1) := by decide +kernel
theorem dX5_within_84 : decode cX5_within 84 = .ok (.iinc 4 1, 3) := by decide +kernel
theorem dX5_within_87 : decode cX5_within 87 = .ok (.goto (-49), 3) := by decide +kernel
theorem dX5_within_90 : decode cX5_within 90 = .ok (.iload_n 2, 1) := by decide +kernel
theorem dX5_within_91 : decode cX5_within 91 = .ok (.invokestatic 136, 3) := by decide +kernel
theorem dX5_within_94 : decode cX5_within 94 = .ok (.ifCond .eq 5, 3) := by decide +kernel
theorem dX5_within_97 : decode cX5_within 97 = .ok (.iload_n 3, 1) := by decide +kernel
theorem dX5_within_98 : decode cX5_within 98 = .ok (.ireturn, 1) := by decide +kernel
theorem dX5_within_99 : decode cX5_within 99 = .ok (.iload_n 2, 1) := by decide +kernel
theorem dX5_within_100 : decode cX5_within 100 = .ok (.iconst 2, 1) := by decide +kernel
theorem dX5_within_101 : decode cX5_within 101 = .ok (.if_icmp .ne 21, 3) := by decide +kernel
theorem dX5_within_104 : decode cX5_within 104 = .ok (.aload_n 0, 1) := by decide +kernel
theorem dX5_within_105 : decode cX5_within 105 = .ok (.getfield 40, 3) := by decide +kernel
theorem dX5_within_108 : decode cX5_within 108 = .ok (.getfield 186, 3) := by decide +kernel
theorem dX5_within_111 : decode cX5_within 111 = .ok (.aload_n 0, 1) := by decide +kernel
theorem dX5_within_112 : decode cX5_within 112 = .ok (.getfield 36, 3) := by decide +kernel
theorem dX5_within_115 : decode cX5_within 115 = .ok (.getfield 186, 3) := by decide +kernel
theorem dX5_within_118 : decode cX5_within 118 = .ok (.isub, 1) := by decide +kernel
theorem dX5_within_119 : decode cX5_within 119 = .ok (.goto 18, 3) := by decide +kernel
theorem dX5_within_122 : decode cX5_within 122 = .ok (.aload_n 0, 1) := by decide +kernel
theorem dX5_within_123 : decode cX5_within 123 = .ok (.getfield 40, 3) := by decide +kernel
theorem dX5_within_126 : decode cX5_within 126 = .ok (.getfield 189, 3) := by decide +kernel
theorem dX5_within_129 : decode cX5_within 129 = .ok (.aload_n 0, 1) := by decide +kernel
theorem dX5_within_130 : decode cX5_within 130 = .ok (.getfield 36, 3) := by decide +kernel
theorem dX5_within_133 : decode cX5_within 133 = .ok (.getfield 189, 3) := by decide +kernel
theorem dX5_within_136 : decode cX5_within 136 = .ok (.isub, 1) := by decide +kernel
theorem dX5_within_137 : decode cX5_within 137 = .ok (.ireturn, 1) := by decide +kernel
theorem dX5_wave_0 : decode cX5_wave 0 = .ok (.iload_n 1, 1) := by decide +kernel
theorem dX5_wave_1 : decode cX5_wave 1 = .ok (.ifCond .lt 23, 3) := by decide +kernel
theorem dX5_wave_4 : decode cX5_wave 4 = .ok (.iload_n 1, 1) := by decide +kernel
theorem dX5_wave_5 : decode cX5_wave 5 = .ok (.iconst 1, 1) := by decide +kernel
theorem dX5_wave_6 : decode cX5_wave 6 = .ok (.aload_n 0, 1) := by decide +kernel
theorem dX5_wave_7 : decode cX5_wave 7 = .ok (.getfield 19, 3) := by decide +kernel
theorem dX5_wave_10 : decode cX5_wave 10 = .ok (.getfield 107, 3) := by decide +kernel
theorem dX5_wave_13 : decode cX5_wave 13 = .ok (.ishl, 1) := by decide +kernel
theorem dX5_wave_14 : decode cX5_wave 14 = .ok (.if_icmp .ge 10, 3) := by decide +kernel
theorem dX5_wave_17 : decode cX5_wave 17 = .ok (.iload_n 2, 1) := by decide +kernel
theorem dX5_wave_18 : decode cX5_wave 18 = .ok (.invokestatic 116, 3) := by decide +kernel
theorem dX5_wave_21 : decode cX5_wave 21 = .ok (.ifCond .ne 5, 3) := by decide +kernel
theorem dX5_wave_24 : decode cX5_wave 24 = .ok (.iconst (-1), 1) := by decide +kernel
theorem dX5_wave_25 : decode cX5_wave 25 = .ok (.ireturn, 1) := by decide +kernel
theorem dX5_wave_26 : decode cX5_wave 26 = .ok (.iload_n 2, 1) := by decide +kernel
theorem dX5_wave_27 : decode cX5_wave 27 = .ok (.ifCond .ne 9, 3) := by decide +kernel
theorem dX5_wave_30 : decode cX5_wave 30 = .ok (.aload_n 0, 1) := by decide +kernel
theorem dX5_wave_31 : decode cX5_wave 31 = .ok (.iload_n 1, 1) := by decide +kernel
theorem dX5_wave_32 : decode cX5_wave 32 = .ok (.invokevirtual 192, 3) := by decide +kernel
theorem dX5_wave_35 : decode cX5_wave 35 = .ok (.ireturn, 1) := by decide +kernel
theorem dX5_wave_36 : decode cX5_wave 36 = .ok (.iconst 1, 1) := by decide +kernel
theorem dX5_wave_37 : decode cX5_wave 37 = .ok (.istore_n 3, 1) := by decide +kernel
theorem dX5_wave_38 : decode cX5_wave 38 = .ok (.iload_n 3, 1) := by decide +kernel
theorem dX5_wave_39 : decode cX5_wave 39 = .ok (.iconst 3, 1) := by decide +kernel
theorem dX5_wave_40 : decode cX5_wave 40 = .ok (.if_icmp .gt 87, 3) := by decide +kernel
theorem dX5_wave_43 : decode cX5_wave 43 = .ok (.aload_n 0, 1) := by decide +kernel
theorem dX5_wave_44 : decode cX5_wave 44 = .ok (.getfield 23, 3) := by decide +kernel
theorem dX5_wave_47 : decode cX5_wave 47 = .ok (.aload_n 0, 1) := by decide +kernel
theorem dX5_wave_48 : decode cX5_wave 48 = .ok (.getfield 19, 3) := by decide +kernel
theorem dX5_wave_51 : decode cX5_wave 51 = .ok (.invokevirtual 80, 3) := by decide +kernel
theorem dX5_wave_54 : decode cX5_wave 54 = .ok (.iconst 0, 1) := by decide +kernel
theorem dX5_wave_55 : decode cX5_wave 55 = .ok (.istore 4, 2) := by decide +kernel
theorem dX5_wave_57 : decode cX5_wave 57 = .ok (.iload 4, 2) := by decide +kernel
theorem dX5_wave_59 : decode cX5_wave 59 = .ok (.iconst 2, 1) := by decide +kernel
theorem dX5_wave_60 : decode cX5_wave 60 = .ok (.if_icmp .ge 51, 3) := by decide +kernel
theorem dX5_wave_63 : decode cX5_wave 63 = .ok (.aload_n 0, 1) := by decide +kernel
theorem dX5_wave_64 : decode cX5_wave 64 = .ok (.getfield 19, 3) := by decide +kernel
theorem dX5_wave_67 : decode cX5_wave 67 = .ok (.getfield 164, 3) := by decide +kernel
theorem dX5_wave_70 : decode cX5_wave 70 = .ok (.iload 4, 2) := by decide +kernel
theorem dX5_wave_72 : decode cX5_wave 72 = .ok (.iaload, 1) := by decide +kernel
theorem dX5_wave_73 : decode cX5_wave 73 = .ok (.aload_n 0, 1) := by decide +kernel
theorem dX5_wave_74 : decode cX5_wave 74 = .ok (.getfield 36, 3) := by decide +kernel
theorem dX5_wave_77 : decode cX5_wave 77 = .ok (.aload_n 0, 1) := by decide +kernel
theorem dX5_wave_78 : decode cX5_wave 78 = .ok (.getfield 19, 3) := by decide +kernel
theorem dX5_wave_81 : decode cX5_wave 81 = .ok (.iload 4, 2) := by decide +kernel
theorem dX5_wave_83 : decode cX5_wave 83 = .ok (.invokevirtual 167, 3) := by decide +kernel
theorem dX5_wave_86 : decode cX5_wave 86 = .ok (.isub, 1) := by decide +kernel
theorem dX5_wave_87 : decode cX5_wave 87 = .ok (.istore 5, 2) := by decide +kernel
theorem dX5_wave_89 : decode cX5_wave 89 = .ok (.aload_n 0, 1) := by decide +kernel
theorem dX5_wave_90 : decode cX5_wave 90 = .ok (.getfield 23, 3) := by decide +kernel
theorem dX5_wave_93 : decode cX5_wave 93 = .ok (.getfield 164, 3) := by decide +kernel
theorem dX5_wave_96 : decode cX5_wave 96 = .ok (.iload 4, 2) := by decide +kernel
theorem dX5_wave_98 : decode cX5_wave 98 = .ok (.iload_n 3, 1) := by decide +kernel
theorem dX5_wave_99 : decode cX5_wave 99 = .ok (.iload 5, 2) := by decide +kernel
theorem dX5_wave_101 : decode cX5_wave 101 = .ok (.invokestatic 196, 3) := by decide +kernel
theorem dX5_wave_104 : decode cX5_wave 104 = .ok (.iastore, 1) := by decide +kernel
theorem dX5_wave_105 : decode cX5_wave 105 = .ok (.iinc 4 1, 3) := by decide +kernel
theorem dX5_wave_108 : decode cX5_wave 108 = .ok (.goto (-51), 3) := by decide +kernel
theorem dX5_wave_111 : decode cX5_wave 111 = .ok (.aload_n 0, 1) := by decide +kernel
theorem dX5_wave_112 : decode cX5_wave 112 = .ok (.iload_n 1, 1) := by decide +kernel
theorem dX5_wave_113 : decode cX5_wave 113 = .ok (.invokevirtual 202, 3) := by decide +kernel
theorem dX5_wave_116 : decode cX5_wave 116 = .ok (.ifCond .eq 5, 3) := by decide +kernel
theorem dX5_wave_119 : decode cX5_wave 119 = .ok (.iload_n 3, 1) := by decide +kernel
theorem dX5_wave_120 : decode cX5_wave 120 = .ok (.ireturn, 1) := by decide +kernel
theorem dX5_wave_121 : decode cX5_wave 121 = .ok (.iinc 3 1, 3) := by decide +kernel
theorem dX5_wave_124 : decode cX5_wave 124 = .ok (.goto (-86), 3) := by decide +kernel
theorem dX5_wave_127 : decode cX5_wave 127 = .ok (.bipush (-9), 2) := by decide +kernel
theorem dX5_wave_129 : decode cX5_wave 129 = .ok (.ireturn, 1) := by decide +kernel
theorem dX5_odds_0 : decode cX5_odds 0 = .ok (.iload_n 1, 1) := by decide +kernel
theorem dX5_odds_1 : decode cX5_odds 1 = .ok (.ifCond .lt 39, 3) := by decide +kernel
theorem dX5_odds_4 : decode cX5_odds 4 = .ok (.iload_n 1, 1) := by decide +kernel
theorem dX5_odds_5 : decode cX5_odds 5 = .ok (.bipush 10, 2) := by decide +kernel
theorem dX5_odds_7 : decode cX5_odds 7 = .ok (.if_icmp .gt 33, 3) := by decide +kernel
theorem dX5_odds_10 : decode cX5_odds 10 = .ok (.aload_n 0, 1) := by decide +kernel
theorem dX5_odds_11 : decode cX5_odds 11 = .ok (.getfield 19, 3) := by decide +kernel
theorem dX5_odds_14 : decode cX5_odds 14 = .ok (.iload_n 2, 1) := by decide +kernel
theorem dX5_odds_15 : decode cX5_odds 15 = .ok (.invokevirtual 113, 3) := by decide +kernel
theorem dX5_odds_18 : decode cX5_odds 18 = .ok (.ifCond .eq 22, 3) := by decide +kernel
theorem dX5_odds_21 : decode cX5_odds 21 = .ok (.iload_n 3, 1) := by decide +kernel
theorem dX5_odds_22 : decode cX5_odds 22 = .ok (.iconst 1, 1) := by decide +kernel
theorem dX5_odds_23 : decode cX5_odds 23 = .ok (.if_icmp .lt 17, 3) := by decide +kernel
theorem dX5_odds_26 : decode cX5_odds 26 = .ok (.iload_n 3, 1) := by decide +kernel
theorem dX5_odds_27 : decode cX5_odds 27 = .ok (.bipush 20, 2) := by decide +kernel
theorem dX5_odds_29 : decode cX5_odds 29 = .ok (.if_icmp .gt 11, 3) := by decide +kernel
theorem dX5_odds_32 : decode cX5_odds 32 = .ok (.iload 4, 2) := by decide +kernel
theorem dX5_odds_34 : decode cX5_odds 34 = .ok (.invokestatic 116, 3) := by decide +kernel
theorem dX5_odds_37 : decode cX5_odds 37 = .ok (.ifCond .ne 5, 3) := by decide +kernel
theorem dX5_odds_40 : decode cX5_odds 40 = .ok (.iconst (-1), 1) := by decide +kernel
theorem dX5_odds_41 : decode cX5_odds 41 = .ok (.ireturn, 1) := by decide +kernel
theorem dX5_odds_42 : decode cX5_odds 42 = .ok (.aload_n 0, 1) := by decide +kernel
theorem dX5_odds_43 : decode cX5_odds 43 = .ok (.getfield 36, 3) := by decide +kernel
theorem dX5_odds_46 : decode cX5_odds 46 = .ok (.aload_n 0, 1) := by decide +kernel
theorem dX5_odds_47 : decode cX5_odds 47 = .ok (.getfield 19, 3) := by decide +kernel
theorem dX5_odds_50 : decode cX5_odds 50 = .ok (.invokevirtual 205, 3) := by decide +kernel
theorem dX5_odds_53 : decode cX5_odds 53 = .ok (.iconst 1, 1) := by decide +kernel
theorem dX5_odds_54 : decode cX5_odds 54 = .ok (.iload_n 2, 1) := by decide +kernel
theorem dX5_odds_55 : decode cX5_odds 55 = .ok (.ishl, 1) := by decide +kernel
theorem dX5_odds_56 : decode cX5_odds 56 = .ok (.iconst (-1), 1) := by decide +kernel
theorem dX5_odds_57 : decode cX5_odds 57 = .ok (.ixor, 1) := by decide +kernel
theorem dX5_odds_58 : decode cX5_odds 58 = .ok (.iand, 1) := by decide +kernel
theorem dX5_odds_59 : decode cX5_odds 59 = .ok (.istore 5, 2) := by decide +kernel
theorem dX5_odds_61 : decode cX5_odds 61 = .ok (.iconst 0, 1) := by decide +kernel
theorem dX5_odds_62 : decode cX5_odds 62 = .ok (.istore 6, 2) := by decide +kernel
theorem dX5_odds_64 : decode cX5_odds 64 = .ok (.iconst 0, 1) := by decide +kernel
theorem dX5_odds_65 : decode cX5_odds 65 = .ok (.istore 7, 2) := by decide +kernel
theorem dX5_odds_67 : decode cX5_odds 67 = .ok (.iload 7, 2) := by decide +kernel
theorem dX5_odds_69 : decode cX5_odds 69 = .ok (.iconst 1, 1) := by decide +kernel
theorem dX5_odds_70 : decode cX5_odds 70 = .ok (.aload_n 0, 1) := by decide +kernel
theorem dX5_odds_71 : decode cX5_odds 71 = .ok (.getfield 19, 3) := by decide +kernel
theorem dX5_odds_74 : decode cX5_odds 74 = .ok (.getfield 107, 3) := by decide +kernel
theorem dX5_odds_77 : decode cX5_odds 77 = .ok (.ishl, 1) := by decide +kernel
theorem dX5_odds_78 : decode cX5_odds 78 = .ok (.if_icmp .ge 74, 3) := by decide +kernel
theorem dX5_odds_81 : decode cX5_odds 81 = .ok (.iload 7, 2) := by decide +kernel
theorem dX5_odds_83 : decode cX5_odds 83 = .ok (.iload 5, 2) := by decide +kernel
theorem dX5_odds_85 : decode cX5_odds 85 = .ok (.iconst (-1), 1) := by decide +kernel
theorem dX5_odds_86 : decode cX5_odds 86 = .ok (.ixor, 1) := by decide +kernel
theorem dX5_odds_87 : decode cX5_odds 87 = .ok (.iand, 1) := by decide +kernel
theorem dX5_odds_88 : decode cX5_odds 88 = .ok (.ifCond .eq 6, 3) := by decide +kernel
theorem dX5_odds_91 : decode cX5_odds 91 = .ok (.goto 55, 3) := by decide +kernel
theorem dX5_odds_94 : decode cX5_odds 94 = .ok (.iload_n 1, 1) := by decide +kernel
theorem dX5_odds_95 : decode cX5_odds 95 = .ok (.iload 7, 2) := by decide +kernel
theorem dX5_odds_97 : decode cX5_odds 97 = .ok (.invokestatic 208, 3) := by decide +kernel
theorem dX5_odds_100 : decode cX5_odds 100 = .ok (.invokestatic 213, 3) := by decide +kernel
theorem dX5_odds_103 : decode cX5_odds 103 = .ok (.bipush 10, 2) := by decide +kernel
theorem dX5_odds_105 : decode cX5_odds 105 = .ok (.iload_n 1, 1) := by decide +kernel
theorem dX5_odds_106 : decode cX5_odds 106 = .ok (.isub, 1) := by decide +kernel
theorem dX5_odds_107 : decode cX5_odds 107 = .ok (.iload 5, 2) := by decide +kernel
theorem dX5_odds_109 : decode cX5_odds 109 = .ok (.iload 7, 2) := by decide +kernel
theorem dX5_odds_111 : decode cX5_odds 111 = .ok (.iconst (-1), 1) := by decide +kernel
theorem dX5_odds_112 : decode cX5_odds 112 = .ok (.ixor, 1) := by decide +kernel
theorem dX5_odds_113 : decode cX5_odds 113 = .ok (.iand, 1) := by decide +kernel
theorem dX5_odds_114 : decode cX5_odds 114 = .ok (.invokestatic 208, 3) := by decide +kernel
theorem dX5_odds_117 : decode cX5_odds 117 = .ok (.invokestatic 213, 3) := by decide +kernel
theorem dX5_odds_120 : decode cX5_odds 120 = .ok (.imul, 1) := by decide +kernel
theorem dX5_odds_121 : decode cX5_odds 121 = .ok (.istore 8, 2) := by decide +kernel
theorem dX5_odds_123 : decode cX5_odds 123 = .ok (.iload 8, 2) := by decide +kernel
theorem dX5_odds_125 : decode cX5_odds 125 = .ok (.ifCond .le 21, 3) := by decide +kernel
theorem dX5_odds_128 : decode cX5_odds 128 = .ok (.aload_n 0, 1) := by decide +kernel
theorem dX5_odds_129 : decode cX5_odds 129 = .ok (.iload 7, 2) := by decide +kernel
theorem dX5_odds_131 : decode cX5_odds 131 = .ok (.iload_n 2, 1) := by decide +kernel
theorem dX5_odds_132 : decode cX5_odds 132 = .ok (.iload_n 3, 1) := by decide +kernel
theorem dX5_odds_133 : decode cX5_odds 133 = .ok (.invokevirtual 216, 3) := by decide +kernel
theorem dX5_odds_136 : decode cX5_odds 136 = .ok (.ifCond .eq 10, 3) := by decide +kernel
theorem dX5_odds_139 : decode cX5_odds 139 = .ok (.iload 6, 2) := by decide +kernel
theorem dX5_odds_141 : decode cX5_odds 141 = .ok (.iload 8, 2) := by decide +kernel
theorem dX5_odds_143 : decode cX5_odds 143 = .ok (.iadd, 1) := by decide +kernel
theorem dX5_odds_144 : decode cX5_odds 144 = .ok (.istore 6, 2) := by decide +kernel
theorem dX5_odds_146 : decode cX5_odds 146 = .ok (.iinc 7 1, 3) := by decide +kernel
theorem dX5_odds_149 : decode cX5_odds 149 = .ok (.goto (-82), 3) := by decide +kernel
theorem dX5_odds_152 : decode cX5_odds 152 = .ok (.bipush 10, 2) := by decide +kernel
theorem dX5_odds_154 : decode cX5_odds 154 = .ok (.iload 5, 2) := by decide +kernel
theorem dX5_odds_156 : decode cX5_odds 156 = .ok (.invokestatic 208, 3) := by decide +kernel
theorem dX5_odds_159 : decode cX5_odds 159 = .ok (.invokestatic 213, 3) := by decide +kernel
theorem dX5_odds_162 : decode cX5_odds 162 = .ok (.istore 7, 2) := by decide +kernel
theorem dX5_odds_164 : decode cX5_odds 164 = .ok (.iload 6, 2) := by decide +kernel
theorem dX5_odds_166 : decode cX5_odds 166 = .ok (.iload 7, 2) := by decide +kernel
theorem dX5_odds_168 : decode cX5_odds 168 = .ok (.invokestatic 220, 3) := by decide +kernel
theorem dX5_odds_171 : decode cX5_odds 171 = .ok (.istore 8, 2) := by decide +kernel
theorem dX5_odds_173 : decode cX5_odds 173 = .ok (.iload 4, 2) := by decide +kernel
theorem dX5_odds_175 : decode cX5_odds 175 = .ok (.ifCond .ne 8, 3) := by decide +kernel
theorem dX5_odds_178 : decode cX5_odds 178 = .ok (.iload 6, 2) := by decide +kernel
theorem dX5_odds_180 : decode cX5_odds 180 = .ok (.goto 5, 3) := by decide +kernel
theorem dX5_odds_183 : decode cX5_odds 183 = .ok (.iload 7, 2) := by decide +kernel
theorem dX5_odds_185 : decode cX5_odds 185 = .ok (.iload 8, 2) := by decide +kernel
theorem dX5_odds_187 : decode cX5_odds 187 = .ok (.idiv, 1) := by decide +kernel
theorem dX5_odds_188 : decode cX5_odds 188 = .ok (.ireturn, 1) := by decide +kernel
theorem dX5_sees_0 : decode cX5_sees 0 = .ok (.iload_n 1, 1) := by decide +kernel
theorem dX5_sees_1 : decode cX5_sees 1 = .ok (.iconst 1, 1) := by decide +kernel
theorem dX5_sees_2 : decode cX5_sees 2 = .ok (.if_icmp .lt 16, 3) := by decide +kernel
theorem dX5_sees_5 : decode cX5_sees 5 = .ok (.iload_n 1, 1) := by decide +kernel
theorem dX5_sees_6 : decode cX5_sees 6 = .ok (.bipush 20, 2) := by decide +kernel
theorem dX5_sees_8 : decode cX5_sees 8 = .ok (.if_icmp .gt 10, 3) := by decide +kernel
theorem dX5_sees_11 : decode cX5_sees 11 = .ok (.iload_n 2, 1) := by decide +kernel
theorem dX5_sees_12 : decode cX5_sees 12 = .ok (.invokestatic 116, 3) := by decide +kernel
theorem dX5_sees_15 : decode cX5_sees 15 = .ok (.ifCond .ne 5, 3) := by decide +kernel
theorem dX5_sees_18 : decode cX5_sees 18 = .ok (.iconst (-1), 1) := by decide +kernel
theorem dX5_sees_19 : decode cX5_sees 19 = .ok (.ireturn, 1) := by decide +kernel
theorem dX5_sees_20 : decode cX5_sees 20 = .ok (.aload_n 0, 1) := by decide +kernel
theorem dX5_sees_21 : decode cX5_sees 21 = .ok (.getfield 90, 3) := by decide +kernel
theorem dX5_sees_24 : decode cX5_sees 24 = .ok (.bipush 6, 2) := by decide +kernel
theorem dX5_sees_26 : decode cX5_sees 26 = .ok (.if_icmp .lt 6, 3) := by decide +kernel
theorem dX5_sees_29 : decode cX5_sees 29 = .ok (.bipush (-3), 2) := by decide +kernel
theorem dX5_sees_31 : decode cX5_sees 31 = .ok (.ireturn, 1) := by decide +kernel
theorem dX5_sees_32 : decode cX5_sees 32 = .ok (.aload_n 0, 1) := by decide +kernel
theorem dX5_sees_33 : decode cX5_sees 33 = .ok (.getfield 54, 3) := by decide +kernel
theorem dX5_sees_36 : decode cX5_sees 36 = .ok (.aload_n 0, 1) := by decide +kernel
theorem dX5_sees_37 : decode cX5_sees 37 = .ok (.getfield 90, 3) := by decide +kernel
theorem dX5_sees_40 : decode cX5_sees 40 = .ok (.iload_n 1, 1) := by decide +kernel
theorem dX5_sees_41 : decode cX5_sees 41 = .ok (.iastore, 1) := by decide +kernel
theorem dX5_sees_42 : decode cX5_sees 42 = .ok (.aload_n 0, 1) := by decide +kernel
theorem dX5_sees_43 : decode cX5_sees 43 = .ok (.getfield 58, 3) := by decide +kernel
theorem dX5_sees_46 : decode cX5_sees 46 = .ok (.aload_n 0, 1) := by decide +kernel
theorem dX5_sees_47 : decode cX5_sees 47 = .ok (.getfield 90, 3) := by decide +kernel
theorem dX5_sees_50 : decode cX5_sees 50 = .ok (.iload_n 2, 1) := by decide +kernel
theorem dX5_sees_51 : decode cX5_sees 51 = .ok (.iastore, 1) := by decide +kernel
theorem dX5_sees_52 : decode cX5_sees 52 = .ok (.aload_n 0, 1) := by decide +kernel
theorem dX5_sees_53 : decode cX5_sees 53 = .ok (.dup, 1) := by decide +kernel
theorem dX5_sees_54 : decode cX5_sees 54 = .ok (.getfield 90, 3) := by decide +kernel
theorem dX5_sees_57 : decode cX5_sees 57 = .ok (.iconst 1, 1) := by decide +kernel
theorem dX5_sees_58 : decode cX5_sees 58 = .ok (.iadd, 1) := by decide +kernel
theorem dX5_sees_59 : decode cX5_sees 59 = .ok (.putfield 90, 3) := by decide +kernel
theorem dX5_sees_62 : decode cX5_sees 62 = .ok (.aload_n 0, 1) := by decide +kernel
theorem dX5_sees_63 : decode cX5_sees 63 = .ok (.getfield 90, 3) := by decide +kernel
theorem dX5_sees_66 : decode cX5_sees 66 = .ok (.ireturn, 1) := by decide +kernel
theorem dX5_forget_0 : decode cX5_forget 0 = .ok (.aload_n 0, 1) := by decide +kernel
theorem dX5_forget_1 : decode cX5_forget 1 = .ok (.getfield 90, 3) := by decide +kernel
theorem dX5_forget_4 : decode cX5_forget 4 = .ok (.istore_n 1, 1) := by decide +kernel
theorem dX5_forget_5 : decode cX5_forget 5 = .ok (.aload_n 0, 1) := by decide +kernel
theorem dX5_forget_6 : decode cX5_forget 6 = .ok (.iconst 0, 1) := by decide +kernel
theorem dX5_forget_7 : decode cX5_forget 7 = .ok (.putfield 90, 3) := by decide +kernel
theorem dX5_forget_10 : decode cX5_forget 10 = .ok (.iload_n 1, 1) := by decide +kernel
theorem dX5_forget_11 : decode cX5_forget 11 = .ok (.ireturn, 1) := by decide +kernel
theorem dX5_ranks_0 : decode cX5_ranks 0 = .ok (.aload_n 0, 1) := by decide +kernel
theorem dX5_ranks_1 : decode cX5_ranks 1 = .ok (.getfield 19, 3) := by decide +kernel
theorem dX5_ranks_4 : decode cX5_ranks 4 = .ok (.iload_n 1, 1) := by decide +kernel
theorem dX5_ranks_5 : decode cX5_ranks 5 = .ok (.invokevirtual 113, 3) := by decide +kernel
theorem dX5_ranks_8 : decode cX5_ranks 8 = .ok (.ifCond .eq 11, 3) := by decide +kernel
theorem dX5_ranks_11 : decode cX5_ranks 11 = .ok (.aload_n 0, 1) := by decide +kernel
theorem dX5_ranks_12 : decode cX5_ranks 12 = .ok (.iload_n 1, 1) := by decide +kernel
theorem dX5_ranks_13 : decode cX5_ranks 13 = .ok (.invokevirtual 223, 3) := by decide +kernel
theorem dX5_ranks_16 : decode cX5_ranks 16 = .ok (.goto 4, 3) := by decide +kernel
theorem dX5_ranks_19 : decode cX5_ranks 19 = .ok (.iconst (-1), 1) := by decide +kernel
theorem dX5_ranks_20 : decode cX5_ranks 20 = .ok (.ireturn, 1) := by decide +kernel
theorem dX5_look_0 : decode cX5_look 0 = .ok (.aload_n 0, 1) := by decide +kernel
theorem dX5_look_1 : decode cX5_look 1 = .ok (.getfield 19, 3) := by decide +kernel
theorem dX5_look_4 : decode cX5_look 4 = .ok (.iload_n 1, 1) := by decide +kernel
theorem dX5_look_5 : decode cX5_look 5 = .ok (.invokevirtual 113, 3) := by decide +kernel
theorem dX5_look_8 : decode cX5_look 8 = .ok (.ifCond .ne 5, 3) := by decide +kernel
theorem dX5_look_11 : decode cX5_look 11 = .ok (.iconst (-1), 1) := by decide +kernel
theorem dX5_look_12 : decode cX5_look 12 = .ok (.ireturn, 1) := by decide +kernel
theorem dX5_look_13 : decode cX5_look 13 = .ok (.aload_n 0, 1) := by decide +kernel
theorem dX5_look_14 : decode cX5_look 14 = .ok (.iload_n 1, 1) := by decide +kernel
theorem dX5_look_15 : decode cX5_look 15 = .ok (.invokevirtual 223, 3) := by decide +kernel
theorem dX5_look_18 : decode cX5_look 18 = .ok (.istore_n 2, 1) := by decide +kernel
theorem dX5_look_19 : decode cX5_look 19 = .ok (.iload_n 2, 1) := by decide +kernel
theorem dX5_look_20 : decode cX5_look 20 = .ok (.invokestatic 208, 3) := by decide +kernel
theorem dX5_look_23 : decode cX5_look 23 = .ok (.istore_n 3, 1) := by decide +kernel
theorem dX5_look_24 : decode cX5_look 24 = .ok (.iload_n 3, 1) := by decide +kernel
theorem dX5_look_25 : decode cX5_look 25 = .ok (.iconst 1, 1) := by decide +kernel
theorem dX5_look_26 : decode cX5_look 26 = .ok (.if_icmp .gt 6, 3) := by decide +kernel
theorem dX5_look_29 : decode cX5_look 29 = .ok (.bipush (-9), 2) := by decide +kernel
theorem dX5_look_31 : decode cX5_look 31 = .ok (.ireturn, 1) := by decide +kernel
theorem dX5_look_32 : decode cX5_look 32 = .ok (.bipush (-9), 2) := by decide +kernel
theorem dX5_look_34 : decode cX5_look 34 = .ok (.istore 4, 2) := by decide +kernel
theorem dX5_look_36 : decode cX5_look 36 = .ok (.iconst 5, 1) := by decide +kernel
theorem dX5_look_37 : decode cX5_look 37 = .ok (.istore 5, 2) := by decide +kernel
theorem dX5_look_39 : decode cX5_look 39 = .ok (.iconst 1, 1) := by decide +kernel
theorem dX5_look_40 : decode cX5_look 40 = .ok (.istore 6, 2) := by decide +kernel
theorem dX5_look_42 : decode cX5_look 42 = .ok (.iload 6, 2) := by decide +kernel
theorem dX5_look_44 : decode cX5_look 44 = .ok (.bipush 20, 2) := by decide +kernel
theorem dX5_look_46 : decode cX5_look 46 = .ok (.if_icmp .gt 44, 3) := by decide +kernel
theorem dX5_look_49 : decode cX5_look 49 = .ok (.aload_n 0, 1) := by decide +kernel
theorem dX5_look_50 : decode cX5_look 50 = .ok (.iload_n 2, 1) := by decide +kernel
theorem dX5_look_51 : decode cX5_look 51 = .ok (.iload 6, 2) := by decide +kernel
theorem dX5_look_53 : decode cX5_look 53 = .ok (.invokevirtual 226, 3) := by decide +kernel
theorem dX5_look_56 : decode cX5_look 56 = .ok (.istore 7, 2) := by decide +kernel
theorem dX5_look_58 : decode cX5_look 58 = .ok (.iload 7, 2) := by decide +kernel
theorem dX5_look_60 : decode cX5_look 60 = .ok (.iload_n 3, 1) := by decide +kernel
theorem dX5_look_61 : decode cX5_look 61 = .ok (.iload 7, 2) := by decide +kernel
theorem dX5_look_63 : decode cX5_look 63 = .ok (.isub, 1) := by decide +kernel
theorem dX5_look_64 : decode cX5_look 64 = .ok (.invokestatic 196, 3) := by decide +kernel
theorem dX5_look_67 : decode cX5_look 67 = .ok (.istore 8, 2) := by decide +kernel
theorem dX5_look_69 : decode cX5_look 69 = .ok (.iload 8, 2) := by decide +kernel
theorem dX5_look_71 : decode cX5_look 71 = .ok (.iload 5, 2) := by decide +kernel
theorem dX5_look_73 : decode cX5_look 73 = .ok (.if_icmp .ge 11, 3) := by decide +kernel
theorem dX5_look_76 : decode cX5_look 76 = .ok (.iload 8, 2) := by decide +kernel
theorem dX5_look_78 : decode cX5_look 78 = .ok (.istore 5, 2) := by decide +kernel
theorem dX5_look_80 : decode cX5_look 80 = .ok (.iload 6, 2) := by decide +kernel
theorem dX5_look_82 : decode cX5_look 82 = .ok (.istore 4, 2) := by decide +kernel
theorem dX5_look_84 : decode cX5_look 84 = .ok (.iinc 6 1, 3) := by decide +kernel
theorem dX5_look_87 : decode cX5_look 87 = .ok (.goto (-45), 3) := by decide +kernel
theorem dX5_look_90 : decode cX5_look 90 = .ok (.iload 4, 2) := by decide +kernel
theorem dX5_look_92 : decode cX5_look 92 = .ok (.ireturn, 1) := by decide +kernel
theorem dX5_keep_0 : decode cX5_keep 0 = .ok (.iload_n 1, 1) := by decide +kernel
theorem dX5_keep_1 : decode cX5_keep 1 = .ok (.ifCond .lt 8, 3) := by decide +kernel
theorem dX5_keep_4 : decode cX5_keep 4 = .ok (.iload_n 1, 1) := by decide +kernel
theorem dX5_keep_5 : decode cX5_keep 5 = .ok (.iconst 2, 1) := by decide +kernel
theorem dX5_keep_6 : decode cX5_keep 6 = .ok (.if_icmp .lt 5, 3) := by decide +kernel
theorem dX5_keep_9 : decode cX5_keep 9 = .ok (.iconst (-1), 1) := by decide +kernel
theorem dX5_keep_10 : decode cX5_keep 10 = .ok (.ireturn, 1) := by decide +kernel
theorem dX5_keep_11 : decode cX5_keep 11 = .ok (.aload_n 0, 1) := by decide +kernel
theorem dX5_keep_12 : decode cX5_keep 12 = .ok (.getfield 50, 3) := by decide +kernel
theorem dX5_keep_15 : decode cX5_keep 15 = .ok (.iload_n 1, 1) := by decide +kernel
theorem dX5_keep_16 : decode cX5_keep 16 = .ok (.aaload, 1) := by decide +kernel
theorem dX5_keep_17 : decode cX5_keep 17 = .ok (.aload_n 0, 1) := by decide +kernel
theorem dX5_keep_18 : decode cX5_keep 18 = .ok (.getfield 36, 3) := by decide +kernel
theorem dX5_keep_21 : decode cX5_keep 21 = .ok (.invokevirtual 181, 3) := by decide +kernel
theorem dX5_keep_24 : decode cX5_keep 24 = .ok (.aload_n 0, 1) := by decide +kernel
theorem dX5_keep_25 : decode cX5_keep 25 = .ok (.dup, 1) := by decide +kernel
theorem dX5_keep_26 : decode cX5_keep 26 = .ok (.getfield 93, 3) := by decide +kernel
theorem dX5_keep_29 : decode cX5_keep 29 = .ok (.iconst 1, 1) := by decide +kernel
theorem dX5_keep_30 : decode cX5_keep 30 = .ok (.iload_n 1, 1) := by decide +kernel
theorem dX5_keep_31 : decode cX5_keep 31 = .ok (.ishl, 1) := by decide +kernel
theorem dX5_keep_32 : decode cX5_keep 32 = .ok (.ior, 1) := by decide +kernel
theorem dX5_keep_33 : decode cX5_keep 33 = .ok (.putfield 93, 3) := by decide +kernel
theorem dX5_keep_36 : decode cX5_keep 36 = .ok (.aload_n 0, 1) := by decide +kernel
theorem dX5_keep_37 : decode cX5_keep 37 = .ok (.getfield 36, 3) := by decide +kernel
theorem dX5_keep_40 : decode cX5_keep 40 = .ok (.getfield 96, 3) := by decide +kernel
theorem dX5_keep_43 : decode cX5_keep 43 = .ok (.ireturn, 1) := by decide +kernel
theorem dX5_back_0 : decode cX5_back 0 = .ok (.iload_n 1, 1) := by decide +kernel
theorem dX5_back_1 : decode cX5_back 1 = .ok (.ifCond .lt 8, 3) := by decide +kernel
theorem dX5_back_4 : decode cX5_back 4 = .ok (.iload_n 1, 1) := by decide +kernel
theorem dX5_back_5 : decode cX5_back 5 = .ok (.iconst 2, 1) := by decide +kernel
theorem dX5_back_6 : decode cX5_back 6 = .ok (.if_icmp .lt 5, 3) := by decide +kernel
theorem dX5_back_9 : decode cX5_back 9 = .ok (.iconst (-1), 1) := by decide +kernel
theorem dX5_back_10 : decode cX5_back 10 = .ok (.ireturn, 1) := by decide +kernel
theorem dX5_back_11 : decode cX5_back 11 = .ok (.aload_n 0, 1) := by decide +kernel
theorem dX5_back_12 : decode cX5_back 12 = .ok (.getfield 93, 3) := by decide +kernel
theorem dX5_back_15 : decode cX5_back 15 = .ok (.iload_n 1, 1) := by decide +kernel
theorem dX5_back_16 : decode cX5_back 16 = .ok (.ishr, 1) := by decide +kernel
theorem dX5_back_17 : decode cX5_back 17 = .ok (.iconst 1, 1) := by decide +kernel
theorem dX5_back_18 : decode cX5_back 18 = .ok (.iand, 1) := by decide +kernel
theorem dX5_back_19 : decode cX5_back 19 = .ok (.ifCond .ne 6, 3) := by decide +kernel
theorem dX5_back_22 : decode cX5_back 22 = .ok (.bipush (-2), 2) := by decide +kernel
theorem dX5_back_24 : decode cX5_back 24 = .ok (.ireturn, 1) := by decide +kernel
theorem dX5_back_25 : decode cX5_back 25 = .ok (.aload_n 0, 1) := by decide +kernel
theorem dX5_back_26 : decode cX5_back 26 = .ok (.getfield 36, 3) := by decide +kernel
theorem dX5_back_29 : decode cX5_back 29 = .ok (.aload_n 0, 1) := by decide +kernel
theorem dX5_back_30 : decode cX5_back 30 = .ok (.getfield 50, 3) := by decide +kernel
theorem dX5_back_33 : decode cX5_back 33 = .ok (.iload_n 1, 1) := by decide +kernel
theorem dX5_back_34 : decode cX5_back 34 = .ok (.aaload, 1) := by decide +kernel
theorem dX5_back_35 : decode cX5_back 35 = .ok (.invokevirtual 181, 3) := by decide +kernel
theorem dX5_back_38 : decode cX5_back 38 = .ok (.aload_n 0, 1) := by decide +kernel
theorem dX5_back_39 : decode cX5_back 39 = .ok (.getfield 46, 3) := by decide +kernel
theorem dX5_back_42 : decode cX5_back 42 = .ok (.invokevirtual 87, 3) := by decide +kernel
theorem dX5_back_45 : decode cX5_back 45 = .ok (.aload_n 0, 1) := by decide +kernel
theorem dX5_back_46 : decode cX5_back 46 = .ok (.getfield 36, 3) := by decide +kernel
theorem dX5_back_49 : decode cX5_back 49 = .ok (.getfield 96, 3) := by decide +kernel
theorem dX5_back_52 : decode cX5_back 52 = .ok (.ireturn, 1) := by decide +kernel
theorem dX5_count_0 : decode cX5_count 0 = .ok (.iload_n 1, 1) := by decide +kernel
theorem dX5_count_1 : decode cX5_count 1 = .ok (.tableswitch 152 0 10 #[59, 67, 75, 83, 91, 99, 107, 115, 131, 136, 144], 59) := by decide +kernel
theorem dX5_count_60 : decode cX5_count 60 = .ok (.aload_n 0, 1) := by decide +kernel
theorem dX5_count_61 : decode cX5_count 61 = .ok (.getfield 19, 3) := by decide +kernel
theorem dX5_count_64 : decode cX5_count 64 = .ok (.getfield 107, 3) := by decide +kernel
theorem dX5_count_67 : decode cX5_count 67 = .ok (.ireturn, 1) := by decide +kernel
theorem dX5_count_68 : decode cX5_count 68 = .ok (.aload_n 0, 1) := by decide +kernel
theorem dX5_count_69 : decode cX5_count 69 = .ok (.getfield 19, 3) := by decide +kernel
theorem dX5_count_72 : decode cX5_count 72 = .ok (.getfield 229, 3) := by decide +kernel
theorem dX5_count_75 : decode cX5_count 75 = .ok (.ireturn, 1) := by decide +kernel
theorem dX5_count_76 : decode cX5_count 76 = .ok (.aload_n 0, 1) := by decide +kernel
theorem dX5_count_77 : decode cX5_count 77 = .ok (.getfield 19, 3) := by decide +kernel
theorem dX5_count_80 : decode cX5_count 80 = .ok (.getfield 231, 3) := by decide +kernel
theorem dX5_count_83 : decode cX5_count 83 = .ok (.ireturn, 1) := by decide +kernel
theorem dX5_count_84 : decode cX5_count 84 = .ok (.aload_n 0, 1) := by decide +kernel
theorem dX5_count_85 : decode cX5_count 85 = .ok (.getfield 36, 3) := by decide +kernel
theorem dX5_count_88 : decode cX5_count 88 = .ok (.getfield 96, 3) := by decide +kernel
theorem dX5_count_91 : decode cX5_count 91 = .ok (.ireturn, 1) := by decide +kernel
theorem dX5_count_92 : decode cX5_count 92 = .ok (.aload_n 0, 1) := by decide +kernel
theorem dX5_count_93 : decode cX5_count 93 = .ok (.getfield 36, 3) := by decide +kernel
theorem dX5_count_96 : decode cX5_count 96 = .ok (.getfield 186, 3) := by decide +kernel
theorem dX5_count_99 : decode cX5_count 99 = .ok (.ireturn, 1) := by decide +kernel
theorem dX5_count_100 : decode cX5_count 100 = .ok (.aload_n 0, 1) := by decide +kernel
theorem dX5_count_101 : decode cX5_count 101 = .ok (.getfield 36, 3) := by decide +kernel
theorem dX5_count_104 : decode cX5_count 104 = .ok (.getfield 234, 3) := by decide +kernel
theorem dX5_count_107 : decode cX5_count 107 = .ok (.ireturn, 1) := by decide +kernel
theorem dX5_count_108 : decode cX5_count 108 = .ok (.aload_n 0, 1) := by decide +kernel
theorem dX5_count_109 : decode cX5_count 109 = .ok (.getfield 36, 3) := by decide +kernel
theorem dX5_count_112 : decode cX5_count 112 = .ok (.getfield 189, 3) := by decide +kernel
theorem dX5_count_115 : decode cX5_count 115 = .ok (.ireturn, 1) := by decide +kernel
theorem dX5_count_116 : decode cX5_count 116 = .ok (.aload_n 0, 1) := by decide +kernel
theorem dX5_count_117 : decode cX5_count 117 = .ok (.getfield 29, 3) := by decide +kernel
theorem dX5_count_120 : decode cX5_count 120 = .ok (.aload_n 0, 1) := by decide +kernel
theorem dX5_count_121 : decode cX5_count 121 = .ok (.getfield 19, 3) := by decide +kernel
theorem dX5_count_124 : decode cX5_count 124 = .ok (.aload_n 0, 1) := by decide +kernel
theorem dX5_count_125 : decode cX5_count 125 = .ok (.getfield 36, 3) := by decide +kernel
theorem dX5_count_128 : decode cX5_count 128 = .ok (.invokevirtual 174, 3) := by decide +kernel
theorem dX5_count_131 : decode cX5_count 131 = .ok (.ireturn, 1) := by decide +kernel
theorem dX5_count_132 : decode cX5_count 132 = .ok (.aload_n 0, 1) := by decide +kernel
theorem dX5_count_133 : decode cX5_count 133 = .ok (.getfield 90, 3) := by decide +kernel
theorem dX5_count_136 : decode cX5_count 136 = .ok (.ireturn, 1) := by decide +kernel
theorem dX5_count_137 : decode cX5_count 137 = .ok (.aload_n 0, 1) := by decide +kernel
theorem dX5_count_138 : decode cX5_count 138 = .ok (.getfield 10, 3) := by decide +kernel
theorem dX5_count_141 : decode cX5_count 141 = .ok (.getfield 68, 3) := by decide +kernel
theorem dX5_count_144 : decode cX5_count 144 = .ok (.ireturn, 1) := by decide +kernel
theorem dX5_count_145 : decode cX5_count 145 = .ok (.aload_n 0, 1) := by decide +kernel
theorem dX5_count_146 : decode cX5_count 146 = .ok (.getfield 46, 3) := by decide +kernel
theorem dX5_count_149 : decode cX5_count 149 = .ok (.getfield 149, 3) := by decide +kernel
theorem dX5_count_152 : decode cX5_count 152 = .ok (.ireturn, 1) := by decide +kernel
theorem dX5_count_153 : decode cX5_count 153 = .ok (.iconst (-1), 1) := by decide +kernel
theorem dX5_count_154 : decode cX5_count 154 = .ok (.ireturn, 1) := by decide +kernel
theorem dX5_isSite_0 : decode cX5_isSite 0 = .ok (.iload_n 0, 1) := by decide +kernel
theorem dX5_isSite_1 : decode cX5_isSite 1 = .ok (.ifCond .lt 12, 3) := by decide +kernel
theorem dX5_isSite_4 : decode cX5_isSite 4 = .ok (.iload_n 0, 1) := by decide +kernel
theorem dX5_isSite_5 : decode cX5_isSite 5 = .ok (.iconst 2, 1) := by decide +kernel
theorem dX5_isSite_6 : decode cX5_isSite 6 = .ok (.if_icmp .ge 7, 3) := by decide +kernel
theorem dX5_isSite_9 : decode cX5_isSite 9 = .ok (.iconst 1, 1) := by decide +kernel
theorem dX5_isSite_10 : decode cX5_isSite 10 = .ok (.goto 4, 3) := by decide +kernel
theorem dX5_isSite_13 : decode cX5_isSite 13 = .ok (.iconst 0, 1) := by decide +kernel
theorem dX5_isSite_14 : decode cX5_isSite 14 = .ok (.ireturn, 1) := by decide +kernel
theorem dX5_isBit_0 : decode cX5_isBit 0 = .ok (.iload_n 0, 1) := by decide +kernel
theorem dX5_isBit_1 : decode cX5_isBit 1 = .ok (.ifCond .eq 8, 3) := by decide +kernel
theorem dX5_isBit_4 : decode cX5_isBit 4 = .ok (.iload_n 0, 1) := by decide +kernel
theorem dX5_isBit_5 : decode cX5_isBit 5 = .ok (.iconst 1, 1) := by decide +kernel
theorem dX5_isBit_6 : decode cX5_isBit 6 = .ok (.if_icmp .ne 7, 3) := by decide +kernel
theorem dX5_isBit_9 : decode cX5_isBit 9 = .ok (.iconst 1, 1) := by decide +kernel
theorem dX5_isBit_10 : decode cX5_isBit 10 = .ok (.goto 4, 3) := by decide +kernel
theorem dX5_isBit_13 : decode cX5_isBit 13 = .ok (.iconst 0, 1) := by decide +kernel
theorem dX5_isBit_14 : decode cX5_isBit 14 = .ok (.ireturn, 1) := by decide +kernel
theorem dX5_waveLasts_0 : decode cX5_waveLasts 0 = .ok (.aload_n 0, 1) := by decide +kernel
theorem dX5_waveLasts_1 : decode cX5_waveLasts 1 = .ok (.getfield 40, 3) := by decide +kernel
theorem dX5_waveLasts_4 : decode cX5_waveLasts 4 = .ok (.aload_n 0, 1) := by decide +kernel
theorem dX5_waveLasts_5 : decode cX5_waveLasts 5 = .ok (.getfield 36, 3) := by decide +kernel
theorem dX5_waveLasts_8 : decode cX5_waveLasts 8 = .ok (.invokevirtual 181, 3) := by decide +kernel
theorem dX5_waveLasts_11 : decode cX5_waveLasts 11 = .ok (.aload_n 0, 1) := by decide +kernel
theorem dX5_waveLasts_12 : decode cX5_waveLasts 12 = .ok (.getfield 40, 3) := by decide +kernel
theorem dX5_waveLasts_15 : decode cX5_waveLasts 15 = .ok (.aload_n 0, 1) := by decide +kernel
theorem dX5_waveLasts_16 : decode cX5_waveLasts 16 = .ok (.getfield 19, 3) := by decide +kernel
theorem dX5_waveLasts_19 : decode cX5_waveLasts 19 = .ok (.iload_n 1, 1) := by decide +kernel
theorem dX5_waveLasts_20 : decode cX5_waveLasts 20 = .ok (.invokevirtual 237, 3) := by decide +kernel
theorem dX5_waveLasts_23 : decode cX5_waveLasts 23 = .ok (.iconst 0, 1) := by decide +kernel
theorem dX5_waveLasts_24 : decode cX5_waveLasts 24 = .ok (.istore_n 2, 1) := by decide +kernel
theorem dX5_waveLasts_25 : decode cX5_waveLasts 25 = .ok (.iload_n 2, 1) := by decide +kernel
theorem dX5_waveLasts_26 : decode cX5_waveLasts 26 = .ok (.bipush 60, 2) := by decide +kernel
theorem dX5_waveLasts_28 : decode cX5_waveLasts 28 = .ok (.if_icmp .gt 40, 3) := by decide +kernel
theorem dX5_waveLasts_31 : decode cX5_waveLasts 31 = .ok (.aload_n 0, 1) := by decide +kernel
theorem dX5_waveLasts_32 : decode cX5_waveLasts 32 = .ok (.getfield 40, 3) := by decide +kernel
theorem dX5_waveLasts_35 : decode cX5_waveLasts 35 = .ok (.aload_n 0, 1) := by decide +kernel
theorem dX5_waveLasts_36 : decode cX5_waveLasts 36 = .ok (.getfield 19, 3) := by decide +kernel
theorem dX5_waveLasts_39 : decode cX5_waveLasts 39 = .ok (.invokevirtual 241, 3) := by decide +kernel
theorem dX5_waveLasts_42 : decode cX5_waveLasts 42 = .ok (.ifCond .ne 5, 3) := by decide +kernel
theorem dX5_waveLasts_45 : decode cX5_waveLasts 45 = .ok (.iload_n 2, 1) := by decide +kernel
theorem dX5_waveLasts_46 : decode cX5_waveLasts 46 = .ok (.ireturn, 1) := by decide +kernel
theorem dX5_waveLasts_47 : decode cX5_waveLasts 47 = .ok (.aload_n 0, 1) := by decide +kernel
theorem dX5_waveLasts_48 : decode cX5_waveLasts 48 = .ok (.getfield 29, 3) := by decide +kernel
theorem dX5_waveLasts_51 : decode cX5_waveLasts 51 = .ok (.aload_n 0, 1) := by decide +kernel
theorem dX5_waveLasts_52 : decode cX5_waveLasts 52 = .ok (.getfield 19, 3) := by decide +kernel
theorem dX5_waveLasts_55 : decode cX5_waveLasts 55 = .ok (.aload_n 0, 1) := by decide +kernel
theorem dX5_waveLasts_56 : decode cX5_waveLasts 56 = .ok (.getfield 40, 3) := by decide +kernel
theorem dX5_waveLasts_59 : decode cX5_waveLasts 59 = .ok (.invokevirtual 103, 3) := by decide +kernel
theorem dX5_waveLasts_62 : decode cX5_waveLasts 62 = .ok (.iinc 2 1, 3) := by decide +kernel
theorem dX5_waveLasts_65 : decode cX5_waveLasts 65 = .ok (.goto (-40), 3) := by decide +kernel
theorem dX5_waveLasts_68 : decode cX5_waveLasts 68 = .ok (.bipush (-9), 2) := by decide +kernel
theorem dX5_waveLasts_70 : decode cX5_waveLasts 70 = .ok (.ireturn, 1) := by decide +kernel
theorem dX5_isEnough_0 : decode cX5_isEnough 0 = .ok (.aload_n 0, 1) := by decide +kernel
theorem dX5_isEnough_1 : decode cX5_isEnough 1 = .ok (.getfield 40, 3) := by decide +kernel
theorem dX5_isEnough_4 : decode cX5_isEnough 4 = .ok (.aload_n 0, 1) := by decide +kernel
theorem dX5_isEnough_5 : decode cX5_isEnough 5 = .ok (.getfield 36, 3) := by decide +kernel
theorem dX5_isEnough_8 : decode cX5_isEnough 8 = .ok (.invokevirtual 181, 3) := by decide +kernel
theorem dX5_isEnough_11 : decode cX5_isEnough 11 = .ok (.aload_n 0, 1) := by decide +kernel
theorem dX5_isEnough_12 : decode cX5_isEnough 12 = .ok (.getfield 40, 3) := by decide +kernel
theorem dX5_isEnough_15 : decode cX5_isEnough 15 = .ok (.aload_n 0, 1) := by decide +kernel
theorem dX5_isEnough_16 : decode cX5_isEnough 16 = .ok (.getfield 23, 3) := by decide +kernel
theorem dX5_isEnough_19 : decode cX5_isEnough 19 = .ok (.iload_n 1, 1) := by decide +kernel
theorem dX5_isEnough_20 : decode cX5_isEnough 20 = .ok (.invokevirtual 237, 3) := by decide +kernel
theorem dX5_isEnough_23 : decode cX5_isEnough 23 = .ok (.iconst 0, 1) := by decide +kernel
theorem dX5_isEnough_24 : decode cX5_isEnough 24 = .ok (.istore_n 2, 1) := by decide +kernel
theorem dX5_isEnough_25 : decode cX5_isEnough 25 = .ok (.iload_n 2, 1) := by decide +kernel
theorem dX5_isEnough_26 : decode cX5_isEnough 26 = .ok (.bipush 60, 2) := by decide +kernel
theorem dX5_isEnough_28 : decode cX5_isEnough 28 = .ok (.if_icmp .ge 57, 3) := by decide +kernel
theorem dX5_isEnough_31 : decode cX5_isEnough 31 = .ok (.aload_n 0, 1) := by decide +kernel
theorem dX5_isEnough_32 : decode cX5_isEnough 32 = .ok (.getfield 40, 3) := by decide +kernel
theorem dX5_isEnough_35 : decode cX5_isEnough 35 = .ok (.aload_n 0, 1) := by decide +kernel
theorem dX5_isEnough_36 : decode cX5_isEnough 36 = .ok (.getfield 23, 3) := by decide +kernel
theorem dX5_isEnough_39 : decode cX5_isEnough 39 = .ok (.invokevirtual 241, 3) := by decide +kernel
theorem dX5_isEnough_42 : decode cX5_isEnough 42 = .ok (.ifCond .eq 43, 3) := by decide +kernel
theorem dX5_isEnough_45 : decode cX5_isEnough 45 = .ok (.aload_n 0, 1) := by decide +kernel
theorem dX5_isEnough_46 : decode cX5_isEnough 46 = .ok (.getfield 29, 3) := by decide +kernel
theorem dX5_isEnough_49 : decode cX5_isEnough 49 = .ok (.aload_n 0, 1) := by decide +kernel
theorem dX5_isEnough_50 : decode cX5_isEnough 50 = .ok (.getfield 23, 3) := by decide +kernel
theorem dX5_isEnough_53 : decode cX5_isEnough 53 = .ok (.aload_n 0, 1) := by decide +kernel
theorem dX5_isEnough_54 : decode cX5_isEnough 54 = .ok (.getfield 40, 3) := by decide +kernel
theorem dX5_isEnough_57 : decode cX5_isEnough 57 = .ok (.invokevirtual 103, 3) := by decide +kernel
theorem dX5_isEnough_60 : decode cX5_isEnough 60 = .ok (.aload_n 0, 1) := by decide +kernel
theorem dX5_isEnough_61 : decode cX5_isEnough 61 = .ok (.getfield 40, 3) := by decide +kernel
theorem dX5_isEnough_64 : decode cX5_isEnough 64 = .ok (.getfield 189, 3) := by decide +kernel
theorem dX5_isEnough_67 : decode cX5_isEnough 67 = .ok (.aload_n 0, 1) := by decide +kernel
theorem dX5_isEnough_68 : decode cX5_isEnough 68 = .ok (.getfield 36, 3) := by decide +kernel
theorem dX5_isEnough_71 : decode cX5_isEnough 71 = .ok (.getfield 189, 3) := by decide +kernel
theorem dX5_isEnough_74 : decode cX5_isEnough 74 = .ok (.if_icmp .eq 5, 3) := by decide +kernel
theorem dX5_isEnough_77 : decode cX5_isEnough 77 = .ok (.iconst 0, 1) := by decide +kernel
theorem dX5_isEnough_78 : decode cX5_isEnough 78 = .ok (.ireturn, 1) := by decide +kernel
theorem dX5_isEnough_79 : decode cX5_isEnough 79 = .ok (.iinc 2 1, 3) := by decide +kernel
theorem dX5_isEnough_82 : decode cX5_isEnough 82 = .ok (.goto (-57), 3) := by decide +kernel
theorem dX5_isEnough_85 : decode cX5_isEnough 85 = .ok (.iconst 1, 1) := by decide +kernel
theorem dX5_isEnough_86 : decode cX5_isEnough 86 = .ok (.ireturn, 1) := by decide +kernel
theorem dX5_talksAmong_0 : decode cX5_talksAmong 0 = .ok (.aload_n 0, 1) := by decide +kernel
theorem dX5_talksAmong_1 : decode cX5_talksAmong 1 = .ok (.getfield 40, 3) := by decide +kernel
theorem dX5_talksAmong_4 : decode cX5_talksAmong 4 = .ok (.aload_n 0, 1) := by decide +kernel
theorem dX5_talksAmong_5 : decode cX5_talksAmong 5 = .ok (.getfield 36, 3) := by decide +kernel
theorem dX5_talksAmong_8 : decode cX5_talksAmong 8 = .ok (.invokevirtual 181, 3) := by decide +kernel
theorem dX5_talksAmong_11 : decode cX5_talksAmong 11 = .ok (.aload_n 0, 1) := by decide +kernel
theorem dX5_talksAmong_12 : decode cX5_talksAmong 12 = .ok (.getfield 40, 3) := by decide +kernel
theorem dX5_talksAmong_15 : decode cX5_talksAmong 15 = .ok (.aload_n 0, 1) := by decide +kernel
theorem dX5_talksAmong_16 : decode cX5_talksAmong 16 = .ok (.getfield 19, 3) := by decide +kernel
theorem dX5_talksAmong_19 : decode cX5_talksAmong 19 = .ok (.iload_n 1, 1) := by decide +kernel
theorem dX5_talksAmong_20 : decode cX5_talksAmong 20 = .ok (.iconst 1, 1) := by decide +kernel
theorem dX5_talksAmong_21 : decode cX5_talksAmong 21 = .ok (.iload_n 2, 1) := by decide +kernel
theorem dX5_talksAmong_22 : decode cX5_talksAmong 22 = .ok (.ishl, 1) := by decide +kernel
theorem dX5_talksAmong_23 : decode cX5_talksAmong 23 = .ok (.ior, 1) := by decide +kernel
theorem dX5_talksAmong_24 : decode cX5_talksAmong 24 = .ok (.invokevirtual 237, 3) := by decide +kernel
theorem dX5_talksAmong_27 : decode cX5_talksAmong 27 = .ok (.iconst 0, 1) := by decide +kernel
theorem dX5_talksAmong_28 : decode cX5_talksAmong 28 = .ok (.istore 4, 2) := by decide +kernel
theorem dX5_talksAmong_30 : decode cX5_talksAmong 30 = .ok (.iload 4, 2) := by decide +kernel
theorem dX5_talksAmong_32 : decode cX5_talksAmong 32 = .ok (.iload_n 3, 1) := by decide +kernel
theorem dX5_talksAmong_33 : decode cX5_talksAmong 33 = .ok (.if_icmp .ge 49, 3) := by decide +kernel
theorem dX5_talksAmong_36 : decode cX5_talksAmong 36 = .ok (.aload_n 0, 1) := by decide +kernel
theorem dX5_talksAmong_37 : decode cX5_talksAmong 37 = .ok (.getfield 40, 3) := by decide +kernel
theorem dX5_talksAmong_40 : decode cX5_talksAmong 40 = .ok (.getfield 119, 3) := by decide +kernel
theorem dX5_talksAmong_43 : decode cX5_talksAmong 43 = .ok (.iload_n 2, 1) := by decide +kernel
theorem dX5_talksAmong_44 : decode cX5_talksAmong 44 = .ok (.iaload, 1) := by decide +kernel
theorem dX5_talksAmong_45 : decode cX5_talksAmong 45 = .ok (.ifCond .eq 37, 3) := by decide +kernel
theorem dX5_talksAmong_48 : decode cX5_talksAmong 48 = .ok (.aload_n 0, 1) := by decide +kernel
theorem dX5_talksAmong_49 : decode cX5_talksAmong 49 = .ok (.getfield 29, 3) := by decide +kernel
theorem dX5_talksAmong_52 : decode cX5_talksAmong 52 = .ok (.aload_n 0, 1) := by decide +kernel
theorem dX5_talksAmong_53 : decode cX5_talksAmong 53 = .ok (.getfield 19, 3) := by decide +kernel
theorem dX5_talksAmong_56 : decode cX5_talksAmong 56 = .ok (.aload_n 0, 1) := by decide +kernel
theorem dX5_talksAmong_57 : decode cX5_talksAmong 57 = .ok (.getfield 40, 3) := by decide +kernel
theorem dX5_talksAmong_60 : decode cX5_talksAmong 60 = .ok (.invokevirtual 103, 3) := by decide +kernel
theorem dX5_talksAmong_63 : decode cX5_talksAmong 63 = .ok (.aload_n 0, 1) := by decide +kernel
theorem dX5_talksAmong_64 : decode cX5_talksAmong 64 = .ok (.getfield 40, 3) := by decide +kernel
theorem dX5_talksAmong_67 : decode cX5_talksAmong 67 = .ok (.iload_n 2, 1) := by decide +kernel
theorem dX5_talksAmong_68 : decode cX5_talksAmong 68 = .ok (.invokevirtual 110, 3) := by decide +kernel
theorem dX5_talksAmong_71 : decode cX5_talksAmong 71 = .ok (.ifCond .eq 5, 3) := by decide +kernel
theorem dX5_talksAmong_74 : decode cX5_talksAmong 74 = .ok (.iconst 1, 1) := by decide +kernel
theorem dX5_talksAmong_75 : decode cX5_talksAmong 75 = .ok (.ireturn, 1) := by decide +kernel
theorem dX5_talksAmong_76 : decode cX5_talksAmong 76 = .ok (.iinc 4 1, 3) := by decide +kernel
theorem dX5_talksAmong_79 : decode cX5_talksAmong 79 = .ok (.goto (-49), 3) := by decide +kernel
theorem dX5_talksAmong_82 : decode cX5_talksAmong 82 = .ok (.iconst 0, 1) := by decide +kernel
theorem dX5_talksAmong_83 : decode cX5_talksAmong 83 = .ok (.ireturn, 1) := by decide +kernel
theorem dX5_power_0 : decode cX5_power 0 = .ok (.iconst 1, 1) := by decide +kernel
theorem dX5_power_1 : decode cX5_power 1 = .ok (.istore_n 2, 1) := by decide +kernel
theorem dX5_power_2 : decode cX5_power 2 = .ok (.iconst 0, 1) := by decide +kernel
theorem dX5_power_3 : decode cX5_power 3 = .ok (.istore_n 3, 1) := by decide +kernel
theorem dX5_power_4 : decode cX5_power 4 = .ok (.iload_n 3, 1) := by decide +kernel
theorem dX5_power_5 : decode cX5_power 5 = .ok (.iload_n 1, 1) := by decide +kernel
theorem dX5_power_6 : decode cX5_power 6 = .ok (.if_icmp .ge 19, 3) := by decide +kernel
theorem dX5_power_9 : decode cX5_power 9 = .ok (.iload_n 3, 1) := by decide +kernel
theorem dX5_power_10 : decode cX5_power 10 = .ok (.bipush 7, 2) := by decide +kernel
theorem dX5_power_12 : decode cX5_power 12 = .ok (.if_icmp .ge 13, 3) := by decide +kernel
theorem dX5_power_15 : decode cX5_power 15 = .ok (.iload_n 2, 1) := by decide +kernel
theorem dX5_power_16 : decode cX5_power 16 = .ok (.iload_n 0, 1) := by decide +kernel
theorem dX5_power_17 : decode cX5_power 17 = .ok (.imul, 1) := by decide +kernel
theorem dX5_power_18 : decode cX5_power 18 = .ok (.istore_n 2, 1) := by decide +kernel
theorem dX5_power_19 : decode cX5_power 19 = .ok (.iinc 3 1, 3) := by decide +kernel
theorem dX5_power_22 : decode cX5_power 22 = .ok (.goto (-18), 3) := by decide +kernel
theorem dX5_power_25 : decode cX5_power 25 = .ok (.iload_n 2, 1) := by decide +kernel
theorem dX5_power_26 : decode cX5_power 26 = .ok (.ireturn, 1) := by decide +kernel
theorem dX5_commonDivisor_0 : decode cX5_commonDivisor 0 = .ok (.iload_n 0, 1) := by decide +kernel
theorem dX5_commonDivisor_1 : decode cX5_commonDivisor 1 = .ok (.istore_n 2, 1) := by decide +kernel
theorem dX5_commonDivisor_2 : decode cX5_commonDivisor 2 = .ok (.iload_n 1, 1) := by decide +kernel
theorem dX5_commonDivisor_3 : decode cX5_commonDivisor 3 = .ok (.istore_n 3, 1) := by decide +kernel
theorem dX5_commonDivisor_4 : decode cX5_commonDivisor 4 = .ok (.iconst 0, 1) := by decide +kernel
theorem dX5_commonDivisor_5 : decode cX5_commonDivisor 5 = .ok (.istore 4, 2) := by decide +kernel
theorem dX5_commonDivisor_7 : decode cX5_commonDivisor 7 = .ok (.iload 4, 2) := by decide +kernel
theorem dX5_commonDivisor_9 : decode cX5_commonDivisor 9 = .ok (.bipush 64, 2) := by decide +kernel
theorem dX5_commonDivisor_11 : decode cX5_commonDivisor 11 = .ok (.if_icmp .ge 23, 3) := by decide +kernel
theorem dX5_commonDivisor_14 : decode cX5_commonDivisor 14 = .ok (.iload_n 3, 1) := by decide +kernel
theorem dX5_commonDivisor_15 : decode cX5_commonDivisor 15 = .ok (.ifCond .eq 19, 3) := by decide +kernel
theorem dX5_commonDivisor_18 : decode cX5_commonDivisor 18 = .ok (.iload_n 2, 1) := by decide +kernel
theorem dX5_commonDivisor_19 : decode cX5_commonDivisor 19 = .ok (.iload_n 3, 1) := by decide +kernel
theorem dX5_commonDivisor_20 : decode cX5_commonDivisor 20 = .ok (.irem, 1) := by decide +kernel
theorem dX5_commonDivisor_21 : decode cX5_commonDivisor 21 = .ok (.istore 5, 2) := by decide +kernel
theorem dX5_commonDivisor_23 : decode cX5_commonDivisor 23 = .ok (.iload_n 3, 1) := by decide +kernel
theorem dX5_commonDivisor_24 : decode cX5_commonDivisor 24 = .ok (.istore_n 2, 1) := by decide +kernel
theorem dX5_commonDivisor_25 : decode cX5_commonDivisor 25 = .ok (.iload 5, 2) := by decide +kernel
theorem dX5_commonDivisor_27 : decode cX5_commonDivisor 27 = .ok (.istore_n 3, 1) := by decide +kernel
theorem dX5_commonDivisor_28 : decode cX5_commonDivisor 28 = .ok (.iinc 4 1, 3) := by decide +kernel
theorem dX5_commonDivisor_31 : decode cX5_commonDivisor 31 = .ok (.goto (-24), 3) := by decide +kernel
theorem dX5_commonDivisor_34 : decode cX5_commonDivisor 34 = .ok (.iconst 1, 1) := by decide +kernel
theorem dX5_commonDivisor_35 : decode cX5_commonDivisor 35 = .ok (.iload_n 2, 1) := by decide +kernel
theorem dX5_commonDivisor_36 : decode cX5_commonDivisor 36 = .ok (.invokestatic 196, 3) := by decide +kernel
theorem dX5_commonDivisor_39 : decode cX5_commonDivisor 39 = .ok (.ireturn, 1) := by decide +kernel
theorem dX5_ranksThatFit_0 : decode cX5_ranksThatFit 0 = .ok (.iconst 0, 1) := by decide +kernel
theorem dX5_ranksThatFit_1 : decode cX5_ranksThatFit 1 = .ok (.istore_n 2, 1) := by decide +kernel
theorem dX5_ranksThatFit_2 : decode cX5_ranksThatFit 2 = .ok (.aload_n 0, 1) := by decide +kernel
theorem dX5_ranksThatFit_3 : decode cX5_ranksThatFit 3 = .ok (.getfield 23, 3) := by decide +kernel
theorem dX5_ranksThatFit_6 : decode cX5_ranksThatFit 6 = .ok (.aload_n 0, 1) := by decide +kernel
theorem dX5_ranksThatFit_7 : decode cX5_ranksThatFit 7 = .ok (.getfield 19, 3) := by decide +kernel
theorem dX5_ranksThatFit_10 : decode cX5_ranksThatFit 10 = .ok (.invokevirtual 80, 3) := by decide +kernel
theorem dX5_ranksThatFit_13 : decode cX5_ranksThatFit 13 = .ok (.iconst 0, 1) := by decide +kernel
theorem dX5_ranksThatFit_14 : decode cX5_ranksThatFit 14 = .ok (.istore_n 3, 1) := by decide +kernel
theorem dX5_ranksThatFit_15 : decode cX5_ranksThatFit 15 = .ok (.iload_n 3, 1) := by decide +kernel
theorem dX5_ranksThatFit_16 : decode cX5_ranksThatFit 16 = .ok (.iconst 4, 1) := by decide +kernel
theorem dX5_ranksThatFit_17 : decode cX5_ranksThatFit 17 = .ok (.if_icmp .ge 49, 3) := by decide +kernel
theorem dX5_ranksThatFit_20 : decode cX5_ranksThatFit 20 = .ok (.aload_n 0, 1) := by decide +kernel
theorem dX5_ranksThatFit_21 : decode cX5_ranksThatFit 21 = .ok (.getfield 23, 3) := by decide +kernel
theorem dX5_ranksThatFit_24 : decode cX5_ranksThatFit 24 = .ok (.getfield 155, 3) := by decide +kernel
theorem dX5_ranksThatFit_27 : decode cX5_ranksThatFit 27 = .ok (.iload_n 1, 1) := by decide +kernel
theorem dX5_ranksThatFit_28 : decode cX5_ranksThatFit 28 = .ok (.iload_n 3, 1) := by decide +kernel
theorem dX5_ranksThatFit_29 : decode cX5_ranksThatFit 29 = .ok (.iastore, 1) := by decide +kernel
theorem dX5_ranksThatFit_30 : decode cX5_ranksThatFit 30 = .ok (.aload_n 0, 1) := by decide +kernel
theorem dX5_ranksThatFit_31 : decode cX5_ranksThatFit 31 = .ok (.getfield 61, 3) := by decide +kernel
theorem dX5_ranksThatFit_34 : decode cX5_ranksThatFit 34 = .ok (.iload_n 3, 1) := by decide +kernel
theorem dX5_ranksThatFit_35 : decode cX5_ranksThatFit 35 = .ok (.aload_n 0, 1) := by decide +kernel
theorem dX5_ranksThatFit_36 : decode cX5_ranksThatFit 36 = .ok (.iload_n 1, 1) := by decide +kernel
theorem dX5_ranksThatFit_37 : decode cX5_ranksThatFit 37 = .ok (.invokevirtual 245, 3) := by decide +kernel
theorem dX5_ranksThatFit_40 : decode cX5_ranksThatFit 40 = .ok (.iastore, 1) := by decide +kernel
theorem dX5_ranksThatFit_41 : decode cX5_ranksThatFit 41 = .ok (.aload_n 0, 1) := by decide +kernel
theorem dX5_ranksThatFit_42 : decode cX5_ranksThatFit 42 = .ok (.aload_n 0, 1) := by decide +kernel
theorem dX5_ranksThatFit_43 : decode cX5_ranksThatFit 43 = .ok (.getfield 61, 3) := by decide +kernel
theorem dX5_ranksThatFit_46 : decode cX5_ranksThatFit 46 = .ok (.iload_n 3, 1) := by decide +kernel
theorem dX5_ranksThatFit_47 : decode cX5_ranksThatFit 47 = .ok (.iaload, 1) := by decide +kernel
theorem dX5_ranksThatFit_48 : decode cX5_ranksThatFit 48 = .ok (.invokevirtual 248, 3) := by decide +kernel
theorem dX5_ranksThatFit_51 : decode cX5_ranksThatFit 51 = .ok (.ifCond .eq 9, 3) := by decide +kernel
theorem dX5_ranksThatFit_54 : decode cX5_ranksThatFit 54 = .ok (.iload_n 2, 1) := by decide +kernel
theorem dX5_ranksThatFit_55 : decode cX5_ranksThatFit 55 = .ok (.iconst 1, 1) := by decide +kernel
theorem dX5_ranksThatFit_56 : decode cX5_ranksThatFit 56 = .ok (.iload_n 3, 1) := by decide +kernel
theorem dX5_ranksThatFit_57 : decode cX5_ranksThatFit 57 = .ok (.ishl, 1) := by decide +kernel
theorem dX5_ranksThatFit_58 : decode cX5_ranksThatFit 58 = .ok (.ior, 1) := by decide +kernel
theorem dX5_ranksThatFit_59 : decode cX5_ranksThatFit 59 = .ok (.istore_n 2, 1) := by decide +kernel
theorem dX5_ranksThatFit_60 : decode cX5_ranksThatFit 60 = .ok (.iinc 3 1, 3) := by decide +kernel
theorem dX5_ranksThatFit_63 : decode cX5_ranksThatFit 63 = .ok (.goto (-48), 3) := by decide +kernel
theorem dX5_ranksThatFit_66 : decode cX5_ranksThatFit 66 = .ok (.iload_n 2, 1) := by decide +kernel
theorem dX5_ranksThatFit_67 : decode cX5_ranksThatFit 67 = .ok (.ireturn, 1) := by decide +kernel
theorem dX5_timesOnAir_0 : decode cX5_timesOnAir 0 = .ok (.iconst 0, 1) := by decide +kernel
theorem dX5_timesOnAir_1 : decode cX5_timesOnAir 1 = .ok (.istore_n 2, 1) := by decide +kernel
theorem dX5_timesOnAir_2 : decode cX5_timesOnAir 2 = .ok (.aload_n 0, 1) := by decide +kernel
theorem dX5_timesOnAir_3 : decode cX5_timesOnAir 3 = .ok (.getfield 40, 3) := by decide +kernel
theorem dX5_timesOnAir_6 : decode cX5_timesOnAir 6 = .ok (.aload_n 0, 1) := by decide +kernel
theorem dX5_timesOnAir_7 : decode cX5_timesOnAir 7 = .ok (.getfield 36, 3) := by decide +kernel
theorem dX5_timesOnAir_10 : decode cX5_timesOnAir 10 = .ok (.invokevirtual 181, 3) := by decide +kernel
theorem dX5_timesOnAir_13 : decode cX5_timesOnAir 13 = .ok (.iconst 1, 1) := by decide +kernel
theorem dX5_timesOnAir_14 : decode cX5_timesOnAir 14 = .ok (.istore_n 3, 1) := by decide +kernel
theorem dX5_timesOnAir_15 : decode cX5_timesOnAir 15 = .ok (.iload_n 3, 1) := by decide +kernel
theorem dX5_timesOnAir_16 : decode cX5_timesOnAir 16 = .ok (.bipush 20, 2) := by decide +kernel
theorem dX5_timesOnAir_18 : decode cX5_timesOnAir 18 = .ok (.if_icmp .gt 53, 3) := by decide +kernel
theorem dX5_timesOnAir_21 : decode cX5_timesOnAir 21 = .ok (.aload_n 0, 1) := by decide +kernel
theorem dX5_timesOnAir_22 : decode cX5_timesOnAir 22 = .ok (.getfield 40, 3) := by decide +kernel
theorem dX5_timesOnAir_25 : decode cX5_timesOnAir 25 = .ok (.getfield 119, 3) := by decide +kernel
theorem dX5_timesOnAir_28 : decode cX5_timesOnAir 28 = .ok (.iload_n 1, 1) := by decide +kernel
theorem dX5_timesOnAir_29 : decode cX5_timesOnAir 29 = .ok (.iaload, 1) := by decide +kernel
theorem dX5_timesOnAir_30 : decode cX5_timesOnAir 30 = .ok (.ifCond .eq 41, 3) := by decide +kernel
theorem dX5_timesOnAir_33 : decode cX5_timesOnAir 33 = .ok (.aload_n 0, 1) := by decide +kernel
theorem dX5_timesOnAir_34 : decode cX5_timesOnAir 34 = .ok (.getfield 29, 3) := by decide +kernel
theorem dX5_timesOnAir_37 : decode cX5_timesOnAir 37 = .ok (.aload_n 0, 1) := by decide +kernel
theorem dX5_timesOnAir_38 : decode cX5_timesOnAir 38 = .ok (.getfield 23, 3) := by decide +kernel
theorem dX5_timesOnAir_41 : decode cX5_timesOnAir 41 = .ok (.aload_n 0, 1) := by decide +kernel
theorem dX5_timesOnAir_42 : decode cX5_timesOnAir 42 = .ok (.getfield 40, 3) := by decide +kernel
theorem dX5_timesOnAir_45 : decode cX5_timesOnAir 45 = .ok (.invokevirtual 103, 3) := by decide +kernel
theorem dX5_timesOnAir_48 : decode cX5_timesOnAir 48 = .ok (.aload_n 0, 1) := by decide +kernel
theorem dX5_timesOnAir_49 : decode cX5_timesOnAir 49 = .ok (.getfield 40, 3) := by decide +kernel
theorem dX5_timesOnAir_52 : decode cX5_timesOnAir 52 = .ok (.iload_n 1, 1) := by decide +kernel
theorem dX5_timesOnAir_53 : decode cX5_timesOnAir 53 = .ok (.invokevirtual 110, 3) := by decide +kernel
theorem dX5_timesOnAir_56 : decode cX5_timesOnAir 56 = .ok (.ifCond .eq 9, 3) := by decide +kernel
theorem dX5_timesOnAir_59 : decode cX5_timesOnAir 59 = .ok (.iload_n 2, 1) := by decide +kernel
theorem dX5_timesOnAir_60 : decode cX5_timesOnAir 60 = .ok (.iconst 1, 1) := by decide +kernel
theorem dX5_timesOnAir_61 : decode cX5_timesOnAir 61 = .ok (.iload_n 3, 1) := by decide +kernel
theorem dX5_timesOnAir_62 : decode cX5_timesOnAir 62 = .ok (.ishl, 1) := by decide +kernel
theorem dX5_timesOnAir_63 : decode cX5_timesOnAir 63 = .ok (.ior, 1) := by decide +kernel
theorem dX5_timesOnAir_64 : decode cX5_timesOnAir 64 = .ok (.istore_n 2, 1) := by decide +kernel
theorem dX5_timesOnAir_65 : decode cX5_timesOnAir 65 = .ok (.iinc 3 1, 3) := by decide +kernel
theorem dX5_timesOnAir_68 : decode cX5_timesOnAir 68 = .ok (.goto (-53), 3) := by decide +kernel
theorem dX5_timesOnAir_71 : decode cX5_timesOnAir 71 = .ok (.iload_n 2, 1) := by decide +kernel
theorem dX5_timesOnAir_72 : decode cX5_timesOnAir 72 = .ok (.ireturn, 1) := by decide +kernel
theorem dX5_agreesWithSeen_0 : decode cX5_agreesWithSeen 0 = .ok (.iconst 0, 1) := by decide +kernel
theorem dX5_agreesWithSeen_1 : decode cX5_agreesWithSeen 1 = .ok (.istore_n 2, 1) := by decide +kernel
theorem dX5_agreesWithSeen_2 : decode cX5_agreesWithSeen 2 = .ok (.iload_n 2, 1) := by decide +kernel
theorem dX5_agreesWithSeen_3 : decode cX5_agreesWithSeen 3 = .ok (.aload_n 0, 1) := by decide +kernel
theorem dX5_agreesWithSeen_4 : decode cX5_agreesWithSeen 4 = .ok (.getfield 90, 3) := by decide +kernel
theorem dX5_agreesWithSeen_7 : decode cX5_agreesWithSeen 7 = .ok (.if_icmp .ge 36, 3) := by decide +kernel
theorem dX5_agreesWithSeen_10 : decode cX5_agreesWithSeen 10 = .ok (.iload_n 2, 1) := by decide +kernel
theorem dX5_agreesWithSeen_11 : decode cX5_agreesWithSeen 11 = .ok (.bipush 6, 2) := by decide +kernel
theorem dX5_agreesWithSeen_13 : decode cX5_agreesWithSeen 13 = .ok (.if_icmp .ge 30, 3) := by decide +kernel
theorem dX5_agreesWithSeen_16 : decode cX5_agreesWithSeen 16 = .ok (.iload_n 1, 1) := by decide +kernel
theorem dX5_agreesWithSeen_17 : decode cX5_agreesWithSeen 17 = .ok (.aload_n 0, 1) := by decide +kernel
theorem dX5_agreesWithSeen_18 : decode cX5_agreesWithSeen 18 = .ok (.getfield 54, 3) := by decide +kernel
theorem dX5_agreesWithSeen_21 : decode cX5_agreesWithSeen 21 = .ok (.iload_n 2, 1) := by decide +kernel
theorem dX5_agreesWithSeen_22 : decode cX5_agreesWithSeen 22 = .ok (.iaload, 1) := by decide +kernel
theorem dX5_agreesWithSeen_23 : decode cX5_agreesWithSeen 23 = .ok (.ishr, 1) := by decide +kernel
theorem dX5_agreesWithSeen_24 : decode cX5_agreesWithSeen 24 = .ok (.iconst 1, 1) := by decide +kernel
theorem dX5_agreesWithSeen_25 : decode cX5_agreesWithSeen 25 = .ok (.iand, 1) := by decide +kernel
theorem dX5_agreesWithSeen_26 : decode cX5_agreesWithSeen 26 = .ok (.aload_n 0, 1) := by decide +kernel
theorem dX5_agreesWithSeen_27 : decode cX5_agreesWithSeen 27 = .ok (.getfield 58, 3) := by decide +kernel
theorem dX5_agreesWithSeen_30 : decode cX5_agreesWithSeen 30 = .ok (.iload_n 2, 1) := by decide +kernel
theorem dX5_agreesWithSeen_31 : decode cX5_agreesWithSeen 31 = .ok (.iaload, 1) := by decide +kernel
theorem dX5_agreesWithSeen_32 : decode cX5_agreesWithSeen 32 = .ok (.if_icmp .eq 5, 3) := by decide +kernel
theorem dX5_agreesWithSeen_35 : decode cX5_agreesWithSeen 35 = .ok (.iconst 0, 1) := by decide +kernel
theorem dX5_agreesWithSeen_36 : decode cX5_agreesWithSeen 36 = .ok (.ireturn, 1) := by decide +kernel
theorem dX5_agreesWithSeen_37 : decode cX5_agreesWithSeen 37 = .ok (.iinc 2 1, 3) := by decide +kernel
theorem dX5_agreesWithSeen_40 : decode cX5_agreesWithSeen 40 = .ok (.goto (-38), 3) := by decide +kernel
theorem dX5_agreesWithSeen_43 : decode cX5_agreesWithSeen 43 = .ok (.iconst 1, 1) := by decide +kernel
theorem dX5_agreesWithSeen_44 : decode cX5_agreesWithSeen 44 = .ok (.ireturn, 1) := by decide +kernel
theorem dX5_ranksOnAir_0 : decode cX5_ranksOnAir 0 = .ok (.iconst 0, 1) := by decide +kernel
theorem dX5_ranksOnAir_1 : decode cX5_ranksOnAir 1 = .ok (.istore_n 3, 1) := by decide +kernel
theorem dX5_ranksOnAir_2 : decode cX5_ranksOnAir 2 = .ok (.iconst 0, 1) := by decide +kernel
theorem dX5_ranksOnAir_3 : decode cX5_ranksOnAir 3 = .ok (.istore 4, 2) := by decide +kernel
theorem dX5_ranksOnAir_5 : decode cX5_ranksOnAir 5 = .ok (.iload 4, 2) := by decide +kernel
theorem dX5_ranksOnAir_7 : decode cX5_ranksOnAir 7 = .ok (.iconst 4, 1) := by decide +kernel
theorem dX5_ranksOnAir_8 : decode cX5_ranksOnAir 8 = .ok (.if_icmp .ge 33, 3) := by decide +kernel
theorem dX5_ranksOnAir_11 : decode cX5_ranksOnAir 11 = .ok (.iload_n 1, 1) := by decide +kernel
theorem dX5_ranksOnAir_12 : decode cX5_ranksOnAir 12 = .ok (.iload 4, 2) := by decide +kernel
theorem dX5_ranksOnAir_14 : decode cX5_ranksOnAir 14 = .ok (.ishr, 1) := by decide +kernel
theorem dX5_ranksOnAir_15 : decode cX5_ranksOnAir 15 = .ok (.iconst 1, 1) := by decide +kernel
theorem dX5_ranksOnAir_16 : decode cX5_ranksOnAir 16 = .ok (.iand, 1) := by decide +kernel
theorem dX5_ranksOnAir_17 : decode cX5_ranksOnAir 17 = .ok (.iconst 1, 1) := by decide +kernel
theorem dX5_ranksOnAir_18 : decode cX5_ranksOnAir 18 = .ok (.if_icmp .ne 17, 3) := by decide +kernel
theorem dX5_ranksOnAir_21 : decode cX5_ranksOnAir 21 = .ok (.iload_n 3, 1) := by decide +kernel
theorem dX5_ranksOnAir_22 : decode cX5_ranksOnAir 22 = .ok (.aload_n 0, 1) := by decide +kernel
theorem dX5_ranksOnAir_23 : decode cX5_ranksOnAir 23 = .ok (.getfield 61, 3) := by decide +kernel
theorem dX5_ranksOnAir_26 : decode cX5_ranksOnAir 26 = .ok (.iload 4, 2) := by decide +kernel
theorem dX5_ranksOnAir_28 : decode cX5_ranksOnAir 28 = .ok (.iaload, 1) := by decide +kernel
theorem dX5_ranksOnAir_29 : decode cX5_ranksOnAir 29 = .ok (.iload_n 2, 1) := by decide +kernel
theorem dX5_ranksOnAir_30 : decode cX5_ranksOnAir 30 = .ok (.ishr, 1) := by decide +kernel
theorem dX5_ranksOnAir_31 : decode cX5_ranksOnAir 31 = .ok (.iconst 1, 1) := by decide +kernel
theorem dX5_ranksOnAir_32 : decode cX5_ranksOnAir 32 = .ok (.iand, 1) := by decide +kernel
theorem dX5_ranksOnAir_33 : decode cX5_ranksOnAir 33 = .ok (.iadd, 1) := by decide +kernel
theorem dX5_ranksOnAir_34 : decode cX5_ranksOnAir 34 = .ok (.istore_n 3, 1) := by decide +kernel
theorem dX5_ranksOnAir_35 : decode cX5_ranksOnAir 35 = .ok (.iinc 4 1, 3) := by decide +kernel
theorem dX5_ranksOnAir_38 : decode cX5_ranksOnAir 38 = .ok (.goto (-33), 3) := by decide +kernel
theorem dX5_ranksOnAir_41 : decode cX5_ranksOnAir 41 = .ok (.iload_n 3, 1) := by decide +kernel
theorem dX5_ranksOnAir_42 : decode cX5_ranksOnAir 42 = .ok (.ireturn, 1) := by decide +kernel
theorem dX6_init_0 : decode cX6_init 0 = .ok (.aload_n 0, 1) := by decide +kernel
theorem dX6_init_1 : decode cX6_init 1 = .ok (.invokespecial 1, 3) := by decide +kernel
theorem dX6_init_4 : decode cX6_init 4 = .ok (.aload_n 0, 1) := by decide +kernel
theorem dX6_init_5 : decode cX6_init 5 = .ok (.bipush 80, 2) := by decide +kernel
theorem dX6_init_7 : decode cX6_init 7 = .ok (.newarray .int, 2) := by decide +kernel
theorem dX6_init_9 : decode cX6_init 9 = .ok (.putfield 7, 3) := by decide +kernel
theorem dX6_init_12 : decode cX6_init 12 = .ok (.aload_n 0, 1) := by decide +kernel
theorem dX6_init_13 : decode cX6_init 13 = .ok (.bipush 19, 2) := by decide +kernel
theorem dX6_init_15 : decode cX6_init 15 = .ok (.newarray .int, 2) := by decide +kernel
theorem dX6_init_17 : decode cX6_init 17 = .ok (.putfield 13, 3) := by decide +kernel
theorem dX6_init_20 : decode cX6_init 20 = .ok (.aload_n 0, 1) := by decide +kernel
theorem dX6_init_21 : decode cX6_init 21 = .ok (.bipush 19, 2) := by decide +kernel
theorem dX6_init_23 : decode cX6_init 23 = .ok (.newarray .int, 2) := by decide +kernel
theorem dX6_init_25 : decode cX6_init 25 = .ok (.putfield 16, 3) := by decide +kernel
theorem dX6_init_28 : decode cX6_init 28 = .ok (.aload_n 0, 1) := by decide +kernel
theorem dX6_init_29 : decode cX6_init 29 = .ok (.bipush 41, 2) := by decide +kernel
theorem dX6_init_31 : decode cX6_init 31 = .ok (.newarray .int, 2) := by decide +kernel
theorem dX6_init_33 : decode cX6_init 33 = .ok (.putfield 19, 3) := by decide +kernel
theorem dX6_init_36 : decode cX6_init 36 = .ok (.aload_n 0, 1) := by decide +kernel
theorem dX6_init_37 : decode cX6_init 37 = .ok (.bipush 41, 2) := by decide +kernel
theorem dX6_init_39 : decode cX6_init 39 = .ok (.newarray .int, 2) := by decide +kernel
theorem dX6_init_41 : decode cX6_init 41 = .ok (.putfield 22, 3) := by decide +kernel
theorem dX6_init_44 : decode cX6_init 44 = .ok (.aload_n 0, 1) := by decide +kernel
theorem dX6_init_45 : decode cX6_init 45 = .ok (.bipush 41, 2) := by decide +kernel
theorem dX6_init_47 : decode cX6_init 47 = .ok (.newarray .int, 2) := by decide +kernel
theorem dX6_init_49 : decode cX6_init 49 = .ok (.putfield 25, 3) := by decide +kernel
theorem dX6_init_52 : decode cX6_init 52 = .ok (.aload_n 0, 1) := by decide +kernel
theorem dX6_init_53 : decode cX6_init 53 = .ok (.sipush 492, 3) := by decide +kernel
theorem dX6_init_56 : decode cX6_init 56 = .ok (.newarray .int, 2) := by decide +kernel
theorem dX6_init_58 : decode cX6_init 58 = .ok (.putfield 28, 3) := by decide +kernel
theorem dX6_init_61 : decode cX6_init 61 = .ok (.aload_n 0, 1) := by decide +kernel
theorem dX6_init_62 : decode cX6_init 62 = .ok (.bipush 82, 2) := by decide +kernel
theorem dX6_init_64 : decode cX6_init 64 = .ok (.newarray .int, 2) := by decide +kernel
theorem dX6_init_66 : decode cX6_init 66 = .ok (.putfield 31, 3) := by decide +kernel
theorem dX6_init_69 : decode cX6_init 69 = .ok (.aload_n 0, 1) := by decide +kernel
theorem dX6_init_70 : decode cX6_init 70 = .ok (.iconst 2, 1) := by decide +kernel
theorem dX6_init_71 : decode cX6_init 71 = .ok (.newarray .boolean, 2) := by decide +kernel
theorem dX6_init_73 : decode cX6_init 73 = .ok (.putfield 34, 3) := by decide +kernel
theorem dX6_init_76 : decode cX6_init 76 = .ok (.aload_n 0, 1) := by decide +kernel
theorem dX6_init_77 : decode cX6_init 77 = .ok (.bipush 6, 2) := by decide +kernel
theorem dX6_init_79 : decode cX6_init 79 = .ok (.newarray .int, 2) := by decide +kernel
theorem dX6_init_81 : decode cX6_init 81 = .ok (.putfield 38, 3) := by decide +kernel
theorem dX6_init_84 : decode cX6_init 84 = .ok (.aload_n 0, 1) := by decide +kernel
theorem dX6_init_85 : decode cX6_init 85 = .ok (.bipush 6, 2) := by decide +kernel
theorem dX6_init_87 : decode cX6_init 87 = .ok (.newarray .int, 2) := by decide +kernel
theorem dX6_init_89 : decode cX6_init 89 = .ok (.putfield 41, 3) := by decide +kernel
theorem dX6_init_92 : decode cX6_init 92 = .ok (.aload_n 0, 1) := by decide +kernel
theorem dX6_init_93 : decode cX6_init 93 = .ok (.bipush 7, 2) := by decide +kernel
theorem dX6_init_95 : decode cX6_init 95 = .ok (.newarray .int, 2) := by decide +kernel
theorem dX6_init_97 : decode cX6_init 97 = .ok (.putfield 44, 3) := by decide +kernel
theorem dX6_init_100 : decode cX6_init 100 = .ok (.aload_n 0, 1) := by decide +kernel
theorem dX6_init_101 : decode cX6_init 101 = .ok (.bipush 7, 2) := by decide +kernel
theorem dX6_init_103 : decode cX6_init 103 = .ok (.newarray .int, 2) := by decide +kernel
theorem dX6_init_105 : decode cX6_init 105 = .ok (.putfield 47, 3) := by decide +kernel
theorem dX6_init_108 : decode cX6_init 108 = .ok (.aload_n 0, 1) := by decide +kernel
theorem dX6_init_109 : decode cX6_init 109 = .ok (.bipush 21, 2) := by decide +kernel
theorem dX6_init_111 : decode cX6_init 111 = .ok (.newarray .int, 2) := by decide +kernel
theorem dX6_init_113 : decode cX6_init 113 = .ok (.putfield 50, 3) := by decide +kernel
theorem dX6_init_116 : decode cX6_init 116 = .ok (.aload_n 0, 1) := by decide +kernel
theorem dX6_init_117 : decode cX6_init 117 = .ok (.invokevirtual 53, 3) := by decide +kernel
theorem dX6_init_120 : decode cX6_init 120 = .ok (.aload_n 0, 1) := by decide +kernel
theorem dX6_init_121 : decode cX6_init 121 = .ok (.invokevirtual 56, 3) := by decide +kernel
theorem dX6_init_124 : decode cX6_init 124 = .ok (.return_, 1) := by decide +kernel
theorem dX6_in_0 : decode cX6_in 0 = .ok (.iload_n 0, 1) := by decide +kernel
theorem dX6_in_1 : decode cX6_in 1 = .ok (.iload_n 1, 1) := by decide +kernel
theorem dX6_in_2 : decode cX6_in 2 = .ok (.if_icmp .lt 12, 3) := by decide +kernel
theorem dX6_in_5 : decode cX6_in 5 = .ok (.iload_n 0, 1) := by decide +kernel
theorem dX6_in_6 : decode cX6_in 6 = .ok (.iload_n 2, 1) := by decide +kernel
theorem dX6_in_7 : decode cX6_in 7 = .ok (.if_icmp .gt 7, 3) := by decide +kernel
theorem dX6_in_10 : decode cX6_in 10 = .ok (.iconst 1, 1) := by decide +kernel
theorem dX6_in_11 : decode cX6_in 11 = .ok (.goto 4, 3) := by decide +kernel
theorem dX6_in_14 : decode cX6_in 14 = .ok (.iconst 0, 1) := by decide +kernel
theorem dX6_in_15 : decode cX6_in 15 = .ok (.ireturn, 1) := by decide +kernel
theorem dX6_has_0 : decode cX6_has 0 = .ok (.iload_n 0, 1) := by decide +kernel
theorem dX6_has_1 : decode cX6_has 1 = .ok (.iload_n 1, 1) := by decide +kernel
theorem dX6_has_2 : decode cX6_has 2 = .ok (.ishr, 1) := by decide +kernel
theorem dX6_has_3 : decode cX6_has 3 = .ok (.iconst 1, 1) := by decide +kernel
theorem dX6_has_4 : decode cX6_has 4 = .ok (.iand, 1) := by decide +kernel
theorem dX6_has_5 : decode cX6_has 5 = .ok (.iconst 1, 1) := by decide +kernel
theorem dX6_has_6 : decode cX6_has 6 = .ok (.if_icmp .ne 7, 3) := by decide +kernel
theorem dX6_has_9 : decode cX6_has 9 = .ok (.iconst 1, 1) := by decide +kernel
theorem dX6_has_10 : decode cX6_has 10 = .ok (.goto 4, 3) := by decide +kernel
theorem dX6_has_13 : decode cX6_has 13 = .ok (.iconst 0, 1) := by decide +kernel
theorem dX6_has_14 : decode cX6_has 14 = .ok (.ireturn, 1) := by decide +kernel
theorem dX6_type_0 : decode cX6_type 0 = .ok (.aload_n 0, 1) := by decide +kernel
theorem dX6_type_1 : decode cX6_type 1 = .ok (.iconst 0, 1) := by decide +kernel
theorem dX6_type_2 : decode cX6_type 2 = .ok (.putfield 59, 3) := by decide +kernel
theorem dX6_type_5 : decode cX6_type 5 = .ok (.iload_n 1, 1) := by decide +kernel
theorem dX6_type_6 : decode cX6_type 6 = .ok (.iconst 0, 1) := by decide +kernel
theorem dX6_type_7 : decode cX6_type 7 = .ok (.sipush 255, 3) := by decide +kernel
theorem dX6_type_10 : decode cX6_type 10 = .ok (.invokestatic 63, 3) := by decide +kernel
theorem dX6_type_13 : decode cX6_type 13 = .ok (.ifCond .ne 5, 3) := by decide +kernel
theorem dX6_type_16 : decode cX6_type 16 = .ok (.iconst (-1), 1) := by decide +kernel
theorem dX6_type_17 : decode cX6_type 17 = .ok (.ireturn, 1) := by decide +kernel
theorem dX6_type_18 : decode cX6_type 18 = .ok (.aload_n 0, 1) := by decide +kernel
theorem dX6_type_19 : decode cX6_type 19 = .ok (.getfield 67, 3) := by decide +kernel
theorem dX6_type_22 : decode cX6_type 22 = .ok (.bipush 80, 2) := by decide +kernel
theorem dX6_type_24 : decode cX6_type 24 = .ok (.if_icmp .ne 6, 3) := by decide +kernel
theorem dX6_type_27 : decode cX6_type 27 = .ok (.bipush (-3), 2) := by decide +kernel
theorem dX6_type_29 : decode cX6_type 29 = .ok (.ireturn, 1) := by decide +kernel
theorem dX6_type_30 : decode cX6_type 30 = .ok (.aload_n 0, 1) := by decide +kernel
theorem dX6_type_31 : decode cX6_type 31 = .ok (.getfield 7, 3) := by decide +kernel
theorem dX6_type_34 : decode cX6_type 34 = .ok (.aload_n 0, 1) := by decide +kernel
theorem dX6_type_35 : decode cX6_type 35 = .ok (.getfield 67, 3) := by decide +kernel
theorem dX6_type_38 : decode cX6_type 38 = .ok (.iload_n 1, 1) := by decide +kernel
theorem dX6_type_39 : decode cX6_type 39 = .ok (.iastore, 1) := by decide +kernel
theorem dX6_type_40 : decode cX6_type 40 = .ok (.aload_n 0, 1) := by decide +kernel
theorem dX6_type_41 : decode cX6_type 41 = .ok (.dup, 1) := by decide +kernel
theorem dX6_type_42 : decode cX6_type 42 = .ok (.getfield 67, 3) := by decide +kernel
theorem dX6_type_45 : decode cX6_type 45 = .ok (.iconst 1, 1) := by decide +kernel
theorem dX6_type_46 : decode cX6_type 46 = .ok (.iadd, 1) := by decide +kernel
theorem dX6_type_47 : decode cX6_type 47 = .ok (.putfield 67, 3) := by decide +kernel
theorem dX6_type_50 : decode cX6_type 50 = .ok (.aload_n 0, 1) := by decide +kernel
theorem dX6_type_51 : decode cX6_type 51 = .ok (.getfield 67, 3) := by decide +kernel
theorem dX6_type_54 : decode cX6_type 54 = .ok (.ireturn, 1) := by decide +kernel
theorem dX6_clear_0 : decode cX6_clear 0 = .ok (.aload_n 0, 1) := by decide +kernel
theorem dX6_clear_1 : decode cX6_clear 1 = .ok (.iconst 0, 1) := by decide +kernel
theorem dX6_clear_2 : decode cX6_clear 2 = .ok (.putfield 59, 3) := by decide +kernel
theorem dX6_clear_5 : decode cX6_clear 5 = .ok (.aload_n 0, 1) := by decide +kernel
theorem dX6_clear_6 : decode cX6_clear 6 = .ok (.getfield 67, 3) := by decide +kernel
theorem dX6_clear_9 : decode cX6_clear 9 = .ok (.istore_n 1, 1) := by decide +kernel
theorem dX6_clear_10 : decode cX6_clear 10 = .ok (.aload_n 0, 1) := by decide +kernel
theorem dX6_clear_11 : decode cX6_clear 11 = .ok (.iconst 0, 1) := by decide +kernel
theorem dX6_clear_12 : decode cX6_clear 12 = .ok (.putfield 67, 3) := by decide +kernel
theorem dX6_clear_15 : decode cX6_clear 15 = .ok (.iload_n 1, 1) := by decide +kernel
theorem dX6_clear_16 : decode cX6_clear 16 = .ok (.ireturn, 1) := by decide +kernel
theorem dX6_letterAt_0 : decode cX6_letterAt 0 = .ok (.iload_n 1, 1) := by decide +kernel
theorem dX6_letterAt_1 : decode cX6_letterAt 1 = .ok (.aload_n 0, 1) := by decide +kernel
theorem dX6_letterAt_2 : decode cX6_letterAt 2 = .ok (.getfield 67, 3) := by decide +kernel
theorem dX6_letterAt_5 : decode cX6_letterAt 5 = .ok (.if_icmp .ge 12, 3) := by decide +kernel
theorem dX6_letterAt_8 : decode cX6_letterAt 8 = .ok (.aload_n 0, 1) := by decide +kernel
theorem dX6_letterAt_9 : decode cX6_letterAt 9 = .ok (.getfield 7, 3) := by decide +kernel
theorem dX6_letterAt_12 : decode cX6_letterAt 12 = .ok (.iload_n 1, 1) := by decide +kernel
theorem dX6_letterAt_13 : decode cX6_letterAt 13 = .ok (.iaload, 1) := by decide +kernel
theorem dX6_letterAt_14 : decode cX6_letterAt 14 = .ok (.goto 4, 3) := by decide +kernel
theorem dX6_letterAt_17 : decode cX6_letterAt 17 = .ok (.iconst (-1), 1) := by decide +kernel
theorem dX6_letterAt_18 : decode cX6_letterAt 18 = .ok (.ireturn, 1) := by decide +kernel
theorem dX6_advances_0 : decode cX6_advances 0 = .ok (.aload_n 0, 1) := by decide +kernel
theorem dX6_advances_1 : decode cX6_advances 1 = .ok (.aload_n 0, 1) := by decide +kernel
theorem dX6_advances_2 : decode cX6_advances 2 = .ok (.getfield 70, 3) := by decide +kernel
theorem dX6_advances_5 : decode cX6_advances 5 = .ok (.invokevirtual 73, 3) := by decide +kernel
theorem dX6_advances_8 : decode cX6_advances 8 = .ok (.bipush 32, 2) := by decide +kernel
theorem dX6_advances_10 : decode cX6_advances 10 = .ok (.if_icmp .ne 16, 3) := by decide +kernel
theorem dX6_advances_13 : decode cX6_advances 13 = .ok (.aload_n 0, 1) := by decide +kernel
theorem dX6_advances_14 : decode cX6_advances 14 = .ok (.dup, 1) := by decide +kernel
theorem dX6_advances_15 : decode cX6_advances 15 = .ok (.getfield 70, 3) := by decide +kernel
theorem dX6_advances_18 : decode cX6_advances 18 = .ok (.iconst 1, 1) := by decide +kernel
theorem dX6_advances_19 : decode cX6_advances 19 = .ok (.iadd, 1) := by decide +kernel
theorem dX6_advances_20 : decode cX6_advances 20 = .ok (.putfield 70, 3) := by decide +kernel
theorem dX6_advances_23 : decode cX6_advances 23 = .ok (.goto (-23), 3) := by decide +kernel
theorem dX6_advances_26 : decode cX6_advances 26 = .ok (.aload_n 0, 1) := by decide +kernel
theorem dX6_advances_27 : decode cX6_advances 27 = .ok (.aload_n 0, 1) := by decide +kernel
theorem dX6_advances_28 : decode cX6_advances 28 = .ok (.getfield 70, 3) := by decide +kernel
theorem dX6_advances_31 : decode cX6_advances 31 = .ok (.putfield 77, 3) := by decide +kernel
theorem dX6_advances_34 : decode cX6_advances 34 = .ok (.aload_n 0, 1) := by decide +kernel
theorem dX6_advances_35 : decode cX6_advances 35 = .ok (.aload_n 0, 1) := by decide +kernel
theorem dX6_advances_36 : decode cX6_advances 36 = .ok (.getfield 70, 3) := by decide +kernel
theorem dX6_advances_39 : decode cX6_advances 39 = .ok (.invokevirtual 73, 3) := by decide +kernel
theorem dX6_advances_42 : decode cX6_advances 42 = .ok (.istore_n 1, 1) := by decide +kernel
theorem dX6_advances_43 : decode cX6_advances 43 = .ok (.iload_n 1, 1) := by decide +kernel
theorem dX6_advances_44 : decode cX6_advances 44 = .ok (.ifCond .ge 11, 3) := by decide +kernel
theorem dX6_advances_47 : decode cX6_advances 47 = .ok (.aload_n 0, 1) := by decide +kernel
theorem dX6_advances_48 : decode cX6_advances 48 = .ok (.iconst 0, 1) := by decide +kernel
theorem dX6_advances_49 : decode cX6_advances 49 = .ok (.putfield 80, 3) := by decide +kernel
theorem dX6_advances_52 : decode cX6_advances 52 = .ok (.goto 187, 3) := by decide +kernel
theorem dX6_advances_55 : decode cX6_advances 55 = .ok (.iload_n 1, 1) := by decide +kernel
theorem dX6_advances_56 : decode cX6_advances 56 = .ok (.bipush 48, 2) := by decide +kernel
theorem dX6_advances_58 : decode cX6_advances 58 = .ok (.bipush 57, 2) := by decide +kernel
theorem dX6_advances_60 : decode cX6_advances 60 = .ok (.invokestatic 63, 3) := by decide +kernel
theorem dX6_advances_63 : decode cX6_advances 63 = .ok (.ifCond .eq 118, 3) := by decide +kernel
theorem dX6_advances_66 : decode cX6_advances 66 = .ok (.aload_n 0, 1) := by decide +kernel
theorem dX6_advances_67 : decode cX6_advances 67 = .ok (.iconst 0, 1) := by decide +kernel
theorem dX6_advances_68 : decode cX6_advances 68 = .ok (.putfield 83, 3) := by decide +kernel
theorem dX6_advances_71 : decode cX6_advances 71 = .ok (.aload_n 0, 1) := by decide +kernel
theorem dX6_advances_72 : decode cX6_advances 72 = .ok (.aload_n 0, 1) := by decide +kernel
theorem dX6_advances_73 : decode cX6_advances 73 = .ok (.getfield 70, 3) := by decide +kernel
theorem dX6_advances_76 : decode cX6_advances 76 = .ok (.invokevirtual 73, 3) := by decide +kernel
theorem dX6_advances_79 : decode cX6_advances 79 = .ok (.bipush 48, 2) := by decide +kernel
theorem dX6_advances_81 : decode cX6_advances 81 = .ok (.bipush 57, 2) := by decide +kernel
theorem dX6_advances_83 : decode cX6_advances 83 = .ok (.invokestatic 63, 3) := by decide +kernel
theorem dX6_advances_86 : decode cX6_advances 86 = .ok (.ifCond .eq 55, 3) := by decide +kernel
theorem dX6_advances_89 : decode cX6_advances 89 = .ok (.aload_n 0, 1) := by decide +kernel
theorem dX6_advances_90 : decode cX6_advances 90 = .ok (.aload_n 0, 1) := by decide +kernel
theorem dX6_advances_91 : decode cX6_advances 91 = .ok (.getfield 83, 3) := by decide +kernel
theorem dX6_advances_94 : decode cX6_advances 94 = .ok (.bipush 99, 2) := by decide +kernel
theorem dX6_advances_96 : decode cX6_advances 96 = .ok (.if_icmp .le 10, 3) := by decide +kernel
theorem dX6_advances_99 : decode cX6_advances 99 = .ok (.aload_n 0, 1) := by decide +kernel
theorem dX6_advances_100 : decode cX6_advances 100 = .ok (.getfield 83, 3) := by decide +kernel
theorem dX6_advances_103 : decode cX6_advances 103 = .ok (.goto 22, 3) := by decide +kernel
theorem dX6_advances_106 : decode cX6_advances 106 = .ok (.bipush 10, 2) := by decide +kernel
theorem dX6_advances_108 : decode cX6_advances 108 = .ok (.aload_n 0, 1) := by decide +kernel
theorem dX6_advances_109 : decode cX6_advances 109 = .ok (.getfield 83, 3) := by decide +kernel
theorem dX6_advances_112 : decode cX6_advances 112 = .ok (.imul, 1) := by decide +kernel
theorem dX6_advances_113 : decode cX6_advances 113 = .ok (.aload_n 0, 1) := by decide +kernel
theorem dX6_advances_114 : decode cX6_advances 114 = .ok (.aload_n 0, 1) := by decide +kernel
theorem dX6_advances_115 : decode cX6_advances 115 = .ok (.getfield 70, 3) := by decide +kernel
theorem dX6_advances_118 : decode cX6_advances 118 = .ok (.invokevirtual 73, 3) := by decide +kernel
theorem dX6_advances_121 : decode cX6_advances 121 = .ok (.iadd, 1) := by decide +kernel
theorem dX6_advances_122 : decode cX6_advances 122 = .ok (.bipush 48, 2) := by decide +kernel
theorem dX6_advances_124 : decode cX6_advances 124 = .ok (.isub, 1) := by decide +kernel
theorem dX6_advances_125 : decode cX6_advances 125 = .ok (.putfield 83, 3) := by decide +kernel
theorem dX6_advances_128 : decode cX6_advances 128 = .ok (.aload_n 0, 1) := by decide +kernel
theorem dX6_advances_129 : decode cX6_advances 129 = .ok (.dup, 1) := by decide +kernel
theorem dX6_advances_130 : decode cX6_advances 130 = .ok (.getfield 70, 3) := by decide +kernel
theorem dX6_advances_133 : decode cX6_advances 133 = .ok (.iconst 1, 1) := by decide +kernel
theorem dX6_advances_134 : decode cX6_advances 134 = .ok (.iadd, 1) := by decide +kernel
theorem dX6_advances_135 : decode cX6_advances 135 = .ok (.putfield 70, 3) := by decide +kernel
theorem dX6_advances_138 : decode cX6_advances 138 = .ok (.goto (-67), 3) := by decide +kernel
theorem dX6_advances_141 : decode cX6_advances 141 = .ok (.aload_n 0, 1) := by decide +kernel
theorem dX6_advances_142 : decode cX6_advances 142 = .ok (.aload_n 0, 1) := by decide +kernel
theorem dX6_advances_143 : decode cX6_advances 143 = .ok (.getfield 83, 3) := by decide +kernel
theorem dX6_advances_146 : decode cX6_advances 146 = .ok (.bipush 99, 2) := by decide +kernel
theorem dX6_advances_148 : decode cX6_advances 148 = .ok (.if_icmp .gt 22, 3) := by decide +kernel
theorem dX6_advances_151 : decode cX6_advances 151 = .ok (.iload_n 1, 1) := by decide +kernel
theorem dX6_advances_152 : decode cX6_advances 152 = .ok (.bipush 48, 2) := by decide +kernel
theorem dX6_advances_154 : decode cX6_advances 154 = .ok (.if_icmp .ne 20, 3) := by decide +kernel
theorem dX6_advances_157 : decode cX6_advances 157 = .ok (.aload_n 0, 1) := by decide +kernel
theorem dX6_advances_158 : decode cX6_advances 158 = .ok (.getfield 70, 3) := by decide +kernel
theorem dX6_advances_161 : decode cX6_advances 161 = .ok (.aload_n 0, 1) := by decide +kernel
theorem dX6_advances_162 : decode cX6_advances 162 = .ok (.getfield 77, 3) := by decide +kernel
theorem dX6_advances_165 : decode cX6_advances 165 = .ok (.isub, 1) := by decide +kernel
theorem dX6_advances_166 : decode cX6_advances 166 = .ok (.iconst 1, 1) := by decide +kernel
theorem dX6_advances_167 : decode cX6_advances 167 = .ok (.if_icmp .le 7, 3) := by decide +kernel
theorem dX6_advances_170 : decode cX6_advances 170 = .ok (.iconst 4, 1) := by decide +kernel
theorem dX6_advances_171 : decode cX6_advances 171 = .ok (.goto 4, 3) := by decide +kernel
theorem dX6_advances_174 : decode cX6_advances 174 = .ok (.iconst 2, 1) := by decide +kernel
theorem dX6_advances_175 : decode cX6_advances 175 = .ok (.putfield 80, 3) := by decide +kernel
theorem dX6_advances_178 : decode cX6_advances 178 = .ok (.goto 61, 3) := by decide +kernel
theorem dX6_advances_181 : decode cX6_advances 181 = .ok (.aload_n 0, 1) := by decide +kernel
theorem dX6_advances_182 : decode cX6_advances 182 = .ok (.dup, 1) := by decide +kernel
theorem dX6_advances_183 : decode cX6_advances 183 = .ok (.getfield 70, 3) := by decide +kernel
theorem dX6_advances_186 : decode cX6_advances 186 = .ok (.iconst 1, 1) := by decide +kernel
theorem dX6_advances_187 : decode cX6_advances 187 = .ok (.iadd, 1) := by decide +kernel
theorem dX6_advances_188 : decode cX6_advances 188 = .ok (.putfield 70, 3) := by decide +kernel
theorem dX6_advances_191 : decode cX6_advances 191 = .ok (.aload_n 0, 1) := by decide +kernel
theorem dX6_advances_192 : decode cX6_advances 192 = .ok (.iload_n 1, 1) := by decide +kernel
theorem dX6_advances_193 : decode cX6_advances 193 = .ok (.putfield 83, 3) := by decide +kernel
theorem dX6_advances_196 : decode cX6_advances 196 = .ok (.aload_n 0, 1) := by decide +kernel
theorem dX6_advances_197 : decode cX6_advances 197 = .ok (.iload_n 1, 1) := by decide +kernel
theorem dX6_advances_198 : decode cX6_advances 198 = .ok (.bipush 59, 2) := by decide +kernel
theorem dX6_advances_200 : decode cX6_advances 200 = .ok (.if_icmp .ne 7, 3) := by decide +kernel
theorem dX6_advances_203 : decode cX6_advances 203 = .ok (.iconst 3, 1) := by decide +kernel
theorem dX6_advances_204 : decode cX6_advances 204 = .ok (.goto 32, 3) := by decide +kernel
theorem dX6_advances_207 : decode cX6_advances 207 = .ok (.iload_n 1, 1) := by decide +kernel
theorem dX6_advances_208 : decode cX6_advances 208 = .ok (.bipush 99, 2) := by decide +kernel
theorem dX6_advances_210 : decode cX6_advances 210 = .ok (.if_icmp .eq 21, 3) := by decide +kernel
theorem dX6_advances_213 : decode cX6_advances 213 = .ok (.iload_n 1, 1) := by decide +kernel
theorem dX6_advances_214 : decode cX6_advances 214 = .ok (.bipush 97, 2) := by decide +kernel
theorem dX6_advances_216 : decode cX6_advances 216 = .ok (.if_icmp .eq 15, 3) := by decide +kernel
theorem dX6_advances_219 : decode cX6_advances 219 = .ok (.iload_n 1, 1) := by decide +kernel
theorem dX6_advances_220 : decode cX6_advances 220 = .ok (.bipush 119, 2) := by decide +kernel
theorem dX6_advances_222 : decode cX6_advances 222 = .ok (.if_icmp .eq 9, 3) := by decide +kernel
theorem dX6_advances_225 : decode cX6_advances 225 = .ok (.iload_n 1, 1) := by decide +kernel
theorem dX6_advances_226 : decode cX6_advances 226 = .ok (.bipush 114, 2) := by decide +kernel
theorem dX6_advances_228 : decode cX6_advances 228 = .ok (.if_icmp .ne 7, 3) := by decide +kernel
theorem dX6_advances_231 : decode cX6_advances 231 = .ok (.iconst 1, 1) := by decide +kernel
theorem dX6_advances_232 : decode cX6_advances 232 = .ok (.goto 4, 3) := by decide +kernel
theorem dX6_advances_235 : decode cX6_advances 235 = .ok (.iconst 4, 1) := by decide +kernel
theorem dX6_advances_236 : decode cX6_advances 236 = .ok (.putfield 80, 3) := by decide +kernel
theorem dX6_advances_239 : decode cX6_advances 239 = .ok (.return_, 1) := by decide +kernel
theorem dX6_isWell_0 : decode cX6_isWell 0 = .ok (.aload_n 0, 1) := by decide +kernel
theorem dX6_isWell_1 : decode cX6_isWell 1 = .ok (.getfield 86, 3) := by decide +kernel
theorem dX6_isWell_4 : decode cX6_isWell 4 = .ok (.ifCond .ge 7, 3) := by decide +kernel
theorem dX6_isWell_7 : decode cX6_isWell 7 = .ok (.iconst 1, 1) := by decide +kernel
theorem dX6_isWell_8 : decode cX6_isWell 8 = .ok (.goto 4, 3) := by decide +kernel
theorem dX6_isWell_11 : decode cX6_isWell 11 = .ok (.iconst 0, 1) := by decide +kernel
theorem dX6_isWell_12 : decode cX6_isWell 12 = .ok (.ireturn, 1) := by decide +kernel
theorem dX6_takes_0 : decode cX6_takes 0 = .ok (.aload_n 0, 1) := by decide +kernel
theorem dX6_takes_1 : decode cX6_takes 1 = .ok (.invokevirtual 89, 3) := by decide +kernel
theorem dX6_takes_4 : decode cX6_takes 4 = .ok (.ifCond .ne 5, 3) := by decide +kernel
theorem dX6_takes_7 : decode cX6_takes 7 = .ok (.iconst 0, 1) := by decide +kernel
theorem dX6_takes_8 : decode cX6_takes 8 = .ok (.ireturn, 1) := by decide +kernel
theorem dX6_takes_9 : decode cX6_takes 9 = .ok (.iload_n 1, 1) := by decide +kernel
theorem dX6_takes_10 : decode cX6_takes 10 = .ok (.ifCond .ne 13, 3) := by decide +kernel
theorem dX6_takes_13 : decode cX6_takes 13 = .ok (.aload_n 0, 1) := by decide +kernel
theorem dX6_takes_14 : decode cX6_takes 14 = .ok (.aload_n 0, 1) := by decide +kernel
theorem dX6_takes_15 : decode cX6_takes 15 = .ok (.getfield 77, 3) := by decide +kernel
theorem dX6_takes_18 : decode cX6_takes 18 = .ok (.putfield 86, 3) := by decide +kernel
theorem dX6_takes_21 : decode cX6_takes 21 = .ok (.iconst 0, 1) := by decide +kernel
theorem dX6_takes_22 : decode cX6_takes 22 = .ok (.ireturn, 1) := by decide +kernel
theorem dX6_takes_23 : decode cX6_takes 23 = .ok (.aload_n 0, 1) := by decide +kernel
theorem dX6_takes_24 : decode cX6_takes 24 = .ok (.getfield 83, 3) := by decide +kernel
theorem dX6_takes_27 : decode cX6_takes 27 = .ok (.istore_n 2, 1) := by decide +kernel
theorem dX6_takes_28 : decode cX6_takes 28 = .ok (.aload_n 0, 1) := by decide +kernel
theorem dX6_takes_29 : decode cX6_takes 29 = .ok (.invokevirtual 93, 3) := by decide +kernel
theorem dX6_takes_32 : decode cX6_takes 32 = .ok (.iload_n 2, 1) := by decide +kernel
theorem dX6_takes_33 : decode cX6_takes 33 = .ok (.ireturn, 1) := by decide +kernel
theorem dX6_number_0 : decode cX6_number 0 = .ok (.aload_n 0, 1) := by decide +kernel
theorem dX6_number_1 : decode cX6_number 1 = .ok (.aload_n 0, 1) := by decide +kernel
theorem dX6_number_2 : decode cX6_number 2 = .ok (.getfield 80, 3) := by decide +kernel
theorem dX6_number_5 : decode cX6_number 5 = .ok (.iconst 2, 1) := by decide +kernel
theorem dX6_number_6 : decode cX6_number 6 = .ok (.if_icmp .ne 19, 3) := by decide +kernel
theorem dX6_number_9 : decode cX6_number 9 = .ok (.aload_n 0, 1) := by decide +kernel
theorem dX6_number_10 : decode cX6_number 10 = .ok (.getfield 83, 3) := by decide +kernel
theorem dX6_number_13 : decode cX6_number 13 = .ok (.iload_n 1, 1) := by decide +kernel
theorem dX6_number_14 : decode cX6_number 14 = .ok (.iload_n 2, 1) := by decide +kernel
theorem dX6_number_15 : decode cX6_number 15 = .ok (.invokestatic 63, 3) := by decide +kernel
theorem dX6_number_18 : decode cX6_number 18 = .ok (.ifCond .eq 7, 3) := by decide +kernel
theorem dX6_number_21 : decode cX6_number 21 = .ok (.iconst 1, 1) := by decide +kernel
theorem dX6_number_22 : decode cX6_number 22 = .ok (.goto 4, 3) := by decide +kernel
theorem dX6_number_25 : decode cX6_number 25 = .ok (.iconst 0, 1) := by decide +kernel
theorem dX6_number_26 : decode cX6_number 26 = .ok (.invokevirtual 96, 3) := by decide +kernel
theorem dX6_number_29 : decode cX6_number 29 = .ok (.ireturn, 1) := by decide +kernel
theorem dX6_begins_0 : decode cX6_begins 0 = .ok (.iconst 0, 1) := by decide +kernel
theorem dX6_begins_1 : decode cX6_begins 1 = .ok (.istore_n 1, 1) := by decide +kernel
theorem dX6_begins_2 : decode cX6_begins 2 = .ok (.iload_n 1, 1) := by decide +kernel
theorem dX6_begins_3 : decode cX6_begins 3 = .ok (.bipush 19, 2) := by decide +kernel
theorem dX6_begins_5 : decode cX6_begins 5 = .ok (.if_icmp .ge 16, 3) := by decide +kernel
theorem dX6_begins_8 : decode cX6_begins 8 = .ok (.aload_n 0, 1) := by decide +kernel
theorem dX6_begins_9 : decode cX6_begins 9 = .ok (.getfield 16, 3) := by decide +kernel
theorem dX6_begins_12 : decode cX6_begins 12 = .ok (.iload_n 1, 1) := by decide +kernel
theorem dX6_begins_13 : decode cX6_begins 13 = .ok (.iconst 0, 1) := by decide +kernel
theorem dX6_begins_14 : decode cX6_begins 14 = .ok (.iastore, 1) := by decide +kernel
theorem dX6_begins_15 : decode cX6_begins 15 = .ok (.iinc 1 1, 3) := by decide +kernel
theorem dX6_begins_18 : decode cX6_begins 18 = .ok (.goto (-16), 3) := by decide +kernel
theorem dX6_begins_21 : decode cX6_begins 21 = .ok (.iconst 0, 1) := by decide +kernel
theorem dX6_begins_22 : decode cX6_begins 22 = .ok (.istore_n 1, 1) := by decide +kernel
theorem dX6_begins_23 : decode cX6_begins 23 = .ok (.iload_n 1, 1) := by decide +kernel
theorem dX6_begins_24 : decode cX6_begins 24 = .ok (.bipush 41, 2) := by decide +kernel
theorem dX6_begins_26 : decode cX6_begins 26 = .ok (.if_icmp .ge 16, 3) := by decide +kernel
theorem dX6_begins_29 : decode cX6_begins 29 = .ok (.aload_n 0, 1) := by decide +kernel
theorem dX6_begins_30 : decode cX6_begins 30 = .ok (.getfield 19, 3) := by decide +kernel
theorem dX6_begins_33 : decode cX6_begins 33 = .ok (.iload_n 1, 1) := by decide +kernel
theorem dX6_begins_34 : decode cX6_begins 34 = .ok (.iconst 0, 1) := by decide +kernel
theorem dX6_begins_35 : decode cX6_begins 35 = .ok (.iastore, 1) := by decide +kernel
theorem dX6_begins_36 : decode cX6_begins 36 = .ok (.iinc 1 1, 3) := by decide +kernel
theorem dX6_begins_39 : decode cX6_begins 39 = .ok (.goto (-16), 3) := by decide +kernel
theorem dX6_begins_42 : decode cX6_begins 42 = .ok (.aload_n 0, 1) := by decide +kernel
theorem dX6_begins_43 : decode cX6_begins 43 = .ok (.getfield 16, 3) := by decide +kernel
theorem dX6_begins_46 : decode cX6_begins 46 = .ok (.iconst 1, 1) := by decide +kernel
theorem dX6_begins_47 : decode cX6_begins 47 = .ok (.iconst 4, 1) := by decide +kernel
theorem dX6_begins_48 : decode cX6_begins 48 = .ok (.iastore, 1) := by decide +kernel
theorem dX6_begins_49 : decode cX6_begins 49 = .ok (.aload_n 0, 1) := by decide +kernel
theorem dX6_begins_50 : decode cX6_begins 50 = .ok (.getfield 16, 3) := by decide +kernel
theorem dX6_begins_53 : decode cX6_begins 53 = .ok (.iconst 2, 1) := by decide +kernel
theorem dX6_begins_54 : decode cX6_begins 54 = .ok (.bipush 8, 2) := by decide +kernel
theorem dX6_begins_56 : decode cX6_begins 56 = .ok (.iastore, 1) := by decide +kernel
theorem dX6_begins_57 : decode cX6_begins 57 = .ok (.aload_n 0, 1) := by decide +kernel
theorem dX6_begins_58 : decode cX6_begins 58 = .ok (.getfield 16, 3) := by decide +kernel
theorem dX6_begins_61 : decode cX6_begins 61 = .ok (.iconst 3, 1) := by decide +kernel
theorem dX6_begins_62 : decode cX6_begins 62 = .ok (.iconst 2, 1) := by decide +kernel
theorem dX6_begins_63 : decode cX6_begins 63 = .ok (.iastore, 1) := by decide +kernel
theorem dX6_begins_64 : decode cX6_begins 64 = .ok (.aload_n 0, 1) := by decide +kernel
theorem dX6_begins_65 : decode cX6_begins 65 = .ok (.getfield 16, 3) := by decide +kernel
theorem dX6_begins_68 : decode cX6_begins 68 = .ok (.iconst 4, 1) := by decide +kernel
theorem dX6_begins_69 : decode cX6_begins 69 = .ok (.iconst 2, 1) := by decide +kernel
theorem dX6_begins_70 : decode cX6_begins 70 = .ok (.iastore, 1) := by decide +kernel
theorem dX6_begins_71 : decode cX6_begins 71 = .ok (.aload_n 0, 1) := by decide +kernel
theorem dX6_begins_72 : decode cX6_begins 72 = .ok (.getfield 19, 3) := by decide +kernel
theorem dX6_begins_75 : decode cX6_begins 75 = .ok (.iconst 0, 1) := by decide +kernel
theorem dX6_begins_76 : decode cX6_begins 76 = .ok (.iconst (-1), 1) := by decide +kernel
theorem dX6_begins_77 : decode cX6_begins 77 = .ok (.iastore, 1) := by decide +kernel
theorem dX6_begins_78 : decode cX6_begins 78 = .ok (.aload_n 0, 1) := by decide +kernel
theorem dX6_begins_79 : decode cX6_begins 79 = .ok (.getfield 19, 3) := by decide +kernel
theorem dX6_begins_82 : decode cX6_begins 82 = .ok (.iconst 1, 1) := by decide +kernel
theorem dX6_begins_83 : decode cX6_begins 83 = .ok (.iconst (-1), 1) := by decide +kernel
theorem dX6_begins_84 : decode cX6_begins 84 = .ok (.iastore, 1) := by decide +kernel
theorem dX6_begins_85 : decode cX6_begins 85 = .ok (.aload_n 0, 1) := by decide +kernel
theorem dX6_begins_86 : decode cX6_begins 86 = .ok (.iconst 0, 1) := by decide +kernel
theorem dX6_begins_87 : decode cX6_begins 87 = .ok (.putfield 100, 3) := by decide +kernel
theorem dX6_begins_90 : decode cX6_begins 90 = .ok (.return_, 1) := by decide +kernel
theorem dX6_bitOf_0 : decode cX6_bitOf 0 = .ok (.iload_n 0, 1) := by decide +kernel
theorem dX6_bitOf_1 : decode cX6_bitOf 1 = .ok (.bipush 99, 2) := by decide +kernel
theorem dX6_bitOf_3 : decode cX6_bitOf 3 = .ok (.if_icmp .ne 7, 3) := by decide +kernel
theorem dX6_bitOf_6 : decode cX6_bitOf 6 = .ok (.iconst 1, 1) := by decide +kernel
theorem dX6_bitOf_7 : decode cX6_bitOf 7 = .ok (.goto 14, 3) := by decide +kernel
theorem dX6_bitOf_10 : decode cX6_bitOf 10 = .ok (.iload_n 0, 1) := by decide +kernel
theorem dX6_bitOf_11 : decode cX6_bitOf 11 = .ok (.bipush 97, 2) := by decide +kernel
theorem dX6_bitOf_13 : decode cX6_bitOf 13 = .ok (.if_icmp .ne 7, 3) := by decide +kernel
theorem dX6_bitOf_16 : decode cX6_bitOf 16 = .ok (.iconst 2, 1) := by decide +kernel
theorem dX6_bitOf_17 : decode cX6_bitOf 17 = .ok (.goto 4, 3) := by decide +kernel
theorem dX6_bitOf_20 : decode cX6_bitOf 20 = .ok (.iconst 4, 1) := by decide +kernel
theorem dX6_bitOf_21 : decode cX6_bitOf 21 = .ok (.ireturn, 1) := by decide +kernel
theorem dX6_mayBegin_0 : decode cX6_mayBegin 0 = .ok (.aload_n 0, 1) := by decide +kernel
theorem dX6_mayBegin_1 : decode cX6_mayBegin 1 = .ok (.getfield 83, 3) := by decide +kernel
theorem dX6_mayBegin_4 : decode cX6_mayBegin 4 = .ok (.bipush 114, 2) := by decide +kernel
theorem dX6_mayBegin_6 : decode cX6_mayBegin 6 = .ok (.if_icmp .ne 22, 3) := by decide +kernel
theorem dX6_mayBegin_9 : decode cX6_mayBegin 9 = .ok (.aload_n 0, 1) := by decide +kernel
theorem dX6_mayBegin_10 : decode cX6_mayBegin 10 = .ok (.getfield 16, 3) := by decide +kernel
theorem dX6_mayBegin_13 : decode cX6_mayBegin 13 = .ok (.iconst 0, 1) := by decide +kernel
theorem dX6_mayBegin_14 : decode cX6_mayBegin 14 = .ok (.iaload, 1) := by decide +kernel
theorem dX6_mayBegin_15 : decode cX6_mayBegin 15 = .ok (.bipush 7, 2) := by decide +kernel
theorem dX6_mayBegin_17 : decode cX6_mayBegin 17 = .ok (.if_icmp .ge 7, 3) := by decide +kernel
theorem dX6_mayBegin_20 : decode cX6_mayBegin 20 = .ok (.iconst 1, 1) := by decide +kernel
theorem dX6_mayBegin_21 : decode cX6_mayBegin 21 = .ok (.goto 27, 3) := by decide +kernel
theorem dX6_mayBegin_24 : decode cX6_mayBegin 24 = .ok (.iconst 0, 1) := by decide +kernel
theorem dX6_mayBegin_25 : decode cX6_mayBegin 25 = .ok (.goto 23, 3) := by decide +kernel
theorem dX6_mayBegin_28 : decode cX6_mayBegin 28 = .ok (.aload_n 0, 1) := by decide +kernel
theorem dX6_mayBegin_29 : decode cX6_mayBegin 29 = .ok (.getfield 100, 3) := by decide +kernel
theorem dX6_mayBegin_32 : decode cX6_mayBegin 32 = .ok (.aload_n 0, 1) := by decide +kernel
theorem dX6_mayBegin_33 : decode cX6_mayBegin 33 = .ok (.getfield 83, 3) := by decide +kernel
theorem dX6_mayBegin_36 : decode cX6_mayBegin 36 = .ok (.invokestatic 103, 3) := by decide +kernel
theorem dX6_mayBegin_39 : decode cX6_mayBegin 39 = .ok (.iand, 1) := by decide +kernel
theorem dX6_mayBegin_40 : decode cX6_mayBegin 40 = .ok (.ifCond .ne 7, 3) := by decide +kernel
theorem dX6_mayBegin_43 : decode cX6_mayBegin 43 = .ok (.iconst 1, 1) := by decide +kernel
end
section
theorem dX6_mayBegin_44 : decode cX6_mayBegin 44 = .ok (.goto 4, 3) := by decide +kernel
theorem dX6_mayBegin_47 : decode cX6_mayBegin 47 = .ok (.iconst 0, 1) := by decide +kernel
theorem dX6_mayBegin_48 : decode cX6_mayBegin 48 = .ok (.ireturn, 1) := by decide +kernel
theorem dX6_readsItem_0 : decode cX6_readsItem 0 = .ok (.iload_n 1, 1) := by decide +kernel
theorem dX6_readsItem_1 : decode cX6_readsItem 1 = .ok (.bipush 114, 2) := by decide +kernel
theorem dX6_readsItem_3 : decode cX6_readsItem 3 = .ok (.if_icmp .ne 65, 3) := by decide +kernel
theorem dX6_readsItem_6 : decode cX6_readsItem 6 = .ok (.aload_n 0, 1) := by decide +kernel
theorem dX6_readsItem_7 : decode cX6_readsItem 7 = .ok (.getfield 16, 3) := by decide +kernel
theorem dX6_readsItem_10 : decode cX6_readsItem 10 = .ok (.iconst 0, 1) := by decide +kernel
theorem dX6_readsItem_11 : decode cX6_readsItem 11 = .ok (.iaload, 1) := by decide +kernel
theorem dX6_readsItem_12 : decode cX6_readsItem 12 = .ok (.istore_n 2, 1) := by decide +kernel
theorem dX6_readsItem_13 : decode cX6_readsItem 13 = .ok (.aload_n 0, 1) := by decide +kernel
theorem dX6_readsItem_14 : decode cX6_readsItem 14 = .ok (.getfield 19, 3) := by decide +kernel
theorem dX6_readsItem_17 : decode cX6_readsItem 17 = .ok (.bipush 6, 2) := by decide +kernel
theorem dX6_readsItem_19 : decode cX6_readsItem 19 = .ok (.iload_n 2, 1) := by decide +kernel
theorem dX6_readsItem_20 : decode cX6_readsItem 20 = .ok (.iadd, 1) := by decide +kernel
theorem dX6_readsItem_21 : decode cX6_readsItem 21 = .ok (.aload_n 0, 1) := by decide +kernel
theorem dX6_readsItem_22 : decode cX6_readsItem 22 = .ok (.iconst 0, 1) := by decide +kernel
theorem dX6_readsItem_23 : decode cX6_readsItem 23 = .ok (.iconst 1, 1) := by decide +kernel
theorem dX6_readsItem_24 : decode cX6_readsItem 24 = .ok (.invokevirtual 106, 3) := by decide +kernel
theorem dX6_readsItem_27 : decode cX6_readsItem 27 = .ok (.iastore, 1) := by decide +kernel
theorem dX6_readsItem_28 : decode cX6_readsItem 28 = .ok (.aload_n 0, 1) := by decide +kernel
theorem dX6_readsItem_29 : decode cX6_readsItem 29 = .ok (.getfield 16, 3) := by decide +kernel
theorem dX6_readsItem_32 : decode cX6_readsItem 32 = .ok (.iconst 5, 1) := by decide +kernel
theorem dX6_readsItem_33 : decode cX6_readsItem 33 = .ok (.iload_n 2, 1) := by decide +kernel
theorem dX6_readsItem_34 : decode cX6_readsItem 34 = .ok (.iadd, 1) := by decide +kernel
theorem dX6_readsItem_35 : decode cX6_readsItem 35 = .ok (.aload_n 0, 1) := by decide +kernel
theorem dX6_readsItem_36 : decode cX6_readsItem 36 = .ok (.iconst 0, 1) := by decide +kernel
theorem dX6_readsItem_37 : decode cX6_readsItem 37 = .ok (.iconst 5, 1) := by decide +kernel
theorem dX6_readsItem_38 : decode cX6_readsItem 38 = .ok (.invokevirtual 106, 3) := by decide +kernel
theorem dX6_readsItem_41 : decode cX6_readsItem 41 = .ok (.iastore, 1) := by decide +kernel
theorem dX6_readsItem_42 : decode cX6_readsItem 42 = .ok (.aload_n 0, 1) := by decide +kernel
theorem dX6_readsItem_43 : decode cX6_readsItem 43 = .ok (.getfield 16, 3) := by decide +kernel
theorem dX6_readsItem_46 : decode cX6_readsItem 46 = .ok (.bipush 12, 2) := by decide +kernel
theorem dX6_readsItem_48 : decode cX6_readsItem 48 = .ok (.iload_n 2, 1) := by decide +kernel
theorem dX6_readsItem_49 : decode cX6_readsItem 49 = .ok (.iadd, 1) := by decide +kernel
theorem dX6_readsItem_50 : decode cX6_readsItem 50 = .ok (.aload_n 0, 1) := by decide +kernel
theorem dX6_readsItem_51 : decode cX6_readsItem 51 = .ok (.iconst 0, 1) := by decide +kernel
theorem dX6_readsItem_52 : decode cX6_readsItem 52 = .ok (.iconst 3, 1) := by decide +kernel
theorem dX6_readsItem_53 : decode cX6_readsItem 53 = .ok (.invokevirtual 106, 3) := by decide +kernel
theorem dX6_readsItem_56 : decode cX6_readsItem 56 = .ok (.iastore, 1) := by decide +kernel
theorem dX6_readsItem_57 : decode cX6_readsItem 57 = .ok (.aload_n 0, 1) := by decide +kernel
theorem dX6_readsItem_58 : decode cX6_readsItem 58 = .ok (.getfield 16, 3) := by decide +kernel
theorem dX6_readsItem_61 : decode cX6_readsItem 61 = .ok (.iconst 0, 1) := by decide +kernel
theorem dX6_readsItem_62 : decode cX6_readsItem 62 = .ok (.dup2, 1) := by decide +kernel
theorem dX6_readsItem_63 : decode cX6_readsItem 63 = .ok (.iaload, 1) := by decide +kernel
theorem dX6_readsItem_64 : decode cX6_readsItem 64 = .ok (.iconst 1, 1) := by decide +kernel
theorem dX6_readsItem_65 : decode cX6_readsItem 65 = .ok (.iadd, 1) := by decide +kernel
theorem dX6_readsItem_66 : decode cX6_readsItem 66 = .ok (.iastore, 1) := by decide +kernel
theorem dX6_readsItem_67 : decode cX6_readsItem 67 = .ok (.return_, 1) := by decide +kernel
theorem dX6_readsItem_68 : decode cX6_readsItem 68 = .ok (.aload_n 0, 1) := by decide +kernel
theorem dX6_readsItem_69 : decode cX6_readsItem 69 = .ok (.dup, 1) := by decide +kernel
theorem dX6_readsItem_70 : decode cX6_readsItem 70 = .ok (.getfield 100, 3) := by decide +kernel
theorem dX6_readsItem_73 : decode cX6_readsItem 73 = .ok (.iload_n 1, 1) := by decide +kernel
theorem dX6_readsItem_74 : decode cX6_readsItem 74 = .ok (.invokestatic 103, 3) := by decide +kernel
theorem dX6_readsItem_77 : decode cX6_readsItem 77 = .ok (.ior, 1) := by decide +kernel
theorem dX6_readsItem_78 : decode cX6_readsItem 78 = .ok (.putfield 100, 3) := by decide +kernel
theorem dX6_readsItem_81 : decode cX6_readsItem 81 = .ok (.iload_n 1, 1) := by decide +kernel
theorem dX6_readsItem_82 : decode cX6_readsItem 82 = .ok (.bipush 99, 2) := by decide +kernel
theorem dX6_readsItem_84 : decode cX6_readsItem 84 = .ok (.if_icmp .ne 30, 3) := by decide +kernel
theorem dX6_readsItem_87 : decode cX6_readsItem 87 = .ok (.aload_n 0, 1) := by decide +kernel
theorem dX6_readsItem_88 : decode cX6_readsItem 88 = .ok (.getfield 16, 3) := by decide +kernel
theorem dX6_readsItem_91 : decode cX6_readsItem 91 = .ok (.iconst 3, 1) := by decide +kernel
theorem dX6_readsItem_92 : decode cX6_readsItem 92 = .ok (.aload_n 0, 1) := by decide +kernel
theorem dX6_readsItem_93 : decode cX6_readsItem 93 = .ok (.iconst 1, 1) := by decide +kernel
theorem dX6_readsItem_94 : decode cX6_readsItem 94 = .ok (.iconst 3, 1) := by decide +kernel
theorem dX6_readsItem_95 : decode cX6_readsItem 95 = .ok (.invokevirtual 106, 3) := by decide +kernel
theorem dX6_readsItem_98 : decode cX6_readsItem 98 = .ok (.iastore, 1) := by decide +kernel
theorem dX6_readsItem_99 : decode cX6_readsItem 99 = .ok (.aload_n 0, 1) := by decide +kernel
theorem dX6_readsItem_100 : decode cX6_readsItem 100 = .ok (.getfield 16, 3) := by decide +kernel
theorem dX6_readsItem_103 : decode cX6_readsItem 103 = .ok (.iconst 4, 1) := by decide +kernel
theorem dX6_readsItem_104 : decode cX6_readsItem 104 = .ok (.aload_n 0, 1) := by decide +kernel
theorem dX6_readsItem_105 : decode cX6_readsItem 105 = .ok (.iconst 1, 1) := by decide +kernel
theorem dX6_readsItem_106 : decode cX6_readsItem 106 = .ok (.iconst 3, 1) := by decide +kernel
theorem dX6_readsItem_107 : decode cX6_readsItem 107 = .ok (.invokevirtual 106, 3) := by decide +kernel
theorem dX6_readsItem_110 : decode cX6_readsItem 110 = .ok (.iastore, 1) := by decide +kernel
theorem dX6_readsItem_111 : decode cX6_readsItem 111 = .ok (.goto 38, 3) := by decide +kernel
theorem dX6_readsItem_114 : decode cX6_readsItem 114 = .ok (.iload_n 1, 1) := by decide +kernel
theorem dX6_readsItem_115 : decode cX6_readsItem 115 = .ok (.bipush 97, 2) := by decide +kernel
theorem dX6_readsItem_117 : decode cX6_readsItem 117 = .ok (.if_icmp .ne 19, 3) := by decide +kernel
theorem dX6_readsItem_120 : decode cX6_readsItem 120 = .ok (.aload_n 0, 1) := by decide +kernel
theorem dX6_readsItem_121 : decode cX6_readsItem 121 = .ok (.getfield 16, 3) := by decide +kernel
theorem dX6_readsItem_124 : decode cX6_readsItem 124 = .ok (.iconst 1, 1) := by decide +kernel
theorem dX6_readsItem_125 : decode cX6_readsItem 125 = .ok (.aload_n 0, 1) := by decide +kernel
theorem dX6_readsItem_126 : decode cX6_readsItem 126 = .ok (.iconst 1, 1) := by decide +kernel
theorem dX6_readsItem_127 : decode cX6_readsItem 127 = .ok (.bipush 9, 2) := by decide +kernel
theorem dX6_readsItem_129 : decode cX6_readsItem 129 = .ok (.invokevirtual 106, 3) := by decide +kernel
theorem dX6_readsItem_132 : decode cX6_readsItem 132 = .ok (.iastore, 1) := by decide +kernel
theorem dX6_readsItem_133 : decode cX6_readsItem 133 = .ok (.goto 16, 3) := by decide +kernel
theorem dX6_readsItem_136 : decode cX6_readsItem 136 = .ok (.aload_n 0, 1) := by decide +kernel
theorem dX6_readsItem_137 : decode cX6_readsItem 137 = .ok (.getfield 16, 3) := by decide +kernel
theorem dX6_readsItem_140 : decode cX6_readsItem 140 = .ok (.iconst 2, 1) := by decide +kernel
theorem dX6_readsItem_141 : decode cX6_readsItem 141 = .ok (.aload_n 0, 1) := by decide +kernel
theorem dX6_readsItem_142 : decode cX6_readsItem 142 = .ok (.iconst 1, 1) := by decide +kernel
theorem dX6_readsItem_143 : decode cX6_readsItem 143 = .ok (.bipush 20, 2) := by decide +kernel
theorem dX6_readsItem_145 : decode cX6_readsItem 145 = .ok (.invokevirtual 106, 3) := by decide +kernel
theorem dX6_readsItem_148 : decode cX6_readsItem 148 = .ok (.iastore, 1) := by decide +kernel
theorem dX6_readsItem_149 : decode cX6_readsItem 149 = .ok (.return_, 1) := by decide +kernel
theorem dX6_net_0 : decode cX6_net 0 = .ok (.aload_n 0, 1) := by decide +kernel
theorem dX6_net_1 : decode cX6_net 1 = .ok (.iconst 0, 1) := by decide +kernel
theorem dX6_net_2 : decode cX6_net 2 = .ok (.putfield 59, 3) := by decide +kernel
theorem dX6_net_5 : decode cX6_net 5 = .ok (.aload_n 0, 1) := by decide +kernel
theorem dX6_net_6 : decode cX6_net 6 = .ok (.iconst (-1), 1) := by decide +kernel
theorem dX6_net_7 : decode cX6_net 7 = .ok (.putfield 86, 3) := by decide +kernel
theorem dX6_net_10 : decode cX6_net 10 = .ok (.aload_n 0, 1) := by decide +kernel
theorem dX6_net_11 : decode cX6_net 11 = .ok (.iconst 0, 1) := by decide +kernel
theorem dX6_net_12 : decode cX6_net 12 = .ok (.putfield 70, 3) := by decide +kernel
theorem dX6_net_15 : decode cX6_net 15 = .ok (.aload_n 0, 1) := by decide +kernel
theorem dX6_net_16 : decode cX6_net 16 = .ok (.invokevirtual 53, 3) := by decide +kernel
theorem dX6_net_19 : decode cX6_net 19 = .ok (.iconst 0, 1) := by decide +kernel
theorem dX6_net_20 : decode cX6_net 20 = .ok (.istore_n 1, 1) := by decide +kernel
theorem dX6_net_21 : decode cX6_net 21 = .ok (.aload_n 0, 1) := by decide +kernel
theorem dX6_net_22 : decode cX6_net 22 = .ok (.invokevirtual 93, 3) := by decide +kernel
theorem dX6_net_25 : decode cX6_net 25 = .ok (.aload_n 0, 1) := by decide +kernel
theorem dX6_net_26 : decode cX6_net 26 = .ok (.invokevirtual 89, 3) := by decide +kernel
theorem dX6_net_29 : decode cX6_net 29 = .ok (.ifCond .eq 71, 3) := by decide +kernel
theorem dX6_net_32 : decode cX6_net 32 = .ok (.aload_n 0, 1) := by decide +kernel
theorem dX6_net_33 : decode cX6_net 33 = .ok (.getfield 80, 3) := by decide +kernel
theorem dX6_net_36 : decode cX6_net 36 = .ok (.ifCond .eq 64, 3) := by decide +kernel
theorem dX6_net_39 : decode cX6_net 39 = .ok (.aload_n 0, 1) := by decide +kernel
theorem dX6_net_40 : decode cX6_net 40 = .ok (.aload_n 0, 1) := by decide +kernel
theorem dX6_net_41 : decode cX6_net 41 = .ok (.getfield 80, 3) := by decide +kernel
theorem dX6_net_44 : decode cX6_net 44 = .ok (.iconst 1, 1) := by decide +kernel
theorem dX6_net_45 : decode cX6_net 45 = .ok (.if_icmp .ne 14, 3) := by decide +kernel
theorem dX6_net_48 : decode cX6_net 48 = .ok (.aload_n 0, 1) := by decide +kernel
theorem dX6_net_49 : decode cX6_net 49 = .ok (.invokevirtual 110, 3) := by decide +kernel
theorem dX6_net_52 : decode cX6_net 52 = .ok (.ifCond .eq 7, 3) := by decide +kernel
theorem dX6_net_55 : decode cX6_net 55 = .ok (.iconst 1, 1) := by decide +kernel
theorem dX6_net_56 : decode cX6_net 56 = .ok (.goto 4, 3) := by decide +kernel
theorem dX6_net_59 : decode cX6_net 59 = .ok (.iconst 0, 1) := by decide +kernel
theorem dX6_net_60 : decode cX6_net 60 = .ok (.invokevirtual 96, 3) := by decide +kernel
theorem dX6_net_63 : decode cX6_net 63 = .ok (.istore_n 2, 1) := by decide +kernel
theorem dX6_net_64 : decode cX6_net 64 = .ok (.aload_n 0, 1) := by decide +kernel
theorem dX6_net_65 : decode cX6_net 65 = .ok (.invokevirtual 89, 3) := by decide +kernel
theorem dX6_net_68 : decode cX6_net 68 = .ok (.ifCond .eq 8, 3) := by decide +kernel
theorem dX6_net_71 : decode cX6_net 71 = .ok (.aload_n 0, 1) := by decide +kernel
theorem dX6_net_72 : decode cX6_net 72 = .ok (.iload_n 2, 1) := by decide +kernel
theorem dX6_net_73 : decode cX6_net 73 = .ok (.invokevirtual 113, 3) := by decide +kernel
theorem dX6_net_76 : decode cX6_net 76 = .ok (.aload_n 0, 1) := by decide +kernel
theorem dX6_net_77 : decode cX6_net 77 = .ok (.aload_n 0, 1) := by decide +kernel
theorem dX6_net_78 : decode cX6_net 78 = .ok (.getfield 80, 3) := by decide +kernel
theorem dX6_net_81 : decode cX6_net 81 = .ok (.iconst 3, 1) := by decide +kernel
theorem dX6_net_82 : decode cX6_net 82 = .ok (.if_icmp .ne 7, 3) := by decide +kernel
theorem dX6_net_85 : decode cX6_net 85 = .ok (.iconst 1, 1) := by decide +kernel
theorem dX6_net_86 : decode cX6_net 86 = .ok (.goto 4, 3) := by decide +kernel
theorem dX6_net_89 : decode cX6_net 89 = .ok (.iconst 0, 1) := by decide +kernel
theorem dX6_net_90 : decode cX6_net 90 = .ok (.invokevirtual 96, 3) := by decide +kernel
theorem dX6_net_93 : decode cX6_net 93 = .ok (.pop, 1) := by decide +kernel
theorem dX6_net_94 : decode cX6_net 94 = .ok (.iinc 1 1, 3) := by decide +kernel
theorem dX6_net_97 : decode cX6_net 97 = .ok (.goto (-72), 3) := by decide +kernel
theorem dX6_net_100 : decode cX6_net 100 = .ok (.aload_n 0, 1) := by decide +kernel
theorem dX6_net_101 : decode cX6_net 101 = .ok (.invokevirtual 89, 3) := by decide +kernel
theorem dX6_net_104 : decode cX6_net 104 = .ok (.ifCond .ne 11, 3) := by decide +kernel
theorem dX6_net_107 : decode cX6_net 107 = .ok (.bipush (-10), 2) := by decide +kernel
theorem dX6_net_109 : decode cX6_net 109 = .ok (.aload_n 0, 1) := by decide +kernel
theorem dX6_net_110 : decode cX6_net 110 = .ok (.getfield 86, 3) := by decide +kernel
theorem dX6_net_113 : decode cX6_net 113 = .ok (.isub, 1) := by decide +kernel
theorem dX6_net_114 : decode cX6_net 114 = .ok (.ireturn, 1) := by decide +kernel
theorem dX6_net_115 : decode cX6_net 115 = .ok (.aload_n 0, 1) := by decide +kernel
theorem dX6_net_116 : decode cX6_net 116 = .ok (.invokevirtual 56, 3) := by decide +kernel
theorem dX6_net_119 : decode cX6_net 119 = .ok (.iload_n 1, 1) := by decide +kernel
theorem dX6_net_120 : decode cX6_net 120 = .ok (.ireturn, 1) := by decide +kernel
theorem dX6_settles_0 : decode cX6_settles 0 = .ok (.iconst 0, 1) := by decide +kernel
theorem dX6_settles_1 : decode cX6_settles 1 = .ok (.istore_n 1, 1) := by decide +kernel
theorem dX6_settles_2 : decode cX6_settles 2 = .ok (.iload_n 1, 1) := by decide +kernel
theorem dX6_settles_3 : decode cX6_settles 3 = .ok (.bipush 19, 2) := by decide +kernel
theorem dX6_settles_5 : decode cX6_settles 5 = .ok (.if_icmp .ge 21, 3) := by decide +kernel
theorem dX6_settles_8 : decode cX6_settles 8 = .ok (.aload_n 0, 1) := by decide +kernel
theorem dX6_settles_9 : decode cX6_settles 9 = .ok (.getfield 13, 3) := by decide +kernel
theorem dX6_settles_12 : decode cX6_settles 12 = .ok (.iload_n 1, 1) := by decide +kernel
theorem dX6_settles_13 : decode cX6_settles 13 = .ok (.aload_n 0, 1) := by decide +kernel
theorem dX6_settles_14 : decode cX6_settles 14 = .ok (.getfield 16, 3) := by decide +kernel
theorem dX6_settles_17 : decode cX6_settles 17 = .ok (.iload_n 1, 1) := by decide +kernel
theorem dX6_settles_18 : decode cX6_settles 18 = .ok (.iaload, 1) := by decide +kernel
theorem dX6_settles_19 : decode cX6_settles 19 = .ok (.iastore, 1) := by decide +kernel
theorem dX6_settles_20 : decode cX6_settles 20 = .ok (.iinc 1 1, 3) := by decide +kernel
theorem dX6_settles_23 : decode cX6_settles 23 = .ok (.goto (-21), 3) := by decide +kernel
theorem dX6_settles_26 : decode cX6_settles 26 = .ok (.aload_n 0, 1) := by decide +kernel
theorem dX6_settles_27 : decode cX6_settles 27 = .ok (.getfield 19, 3) := by decide +kernel
theorem dX6_settles_30 : decode cX6_settles 30 = .ok (.aload_n 0, 1) := by decide +kernel
theorem dX6_settles_31 : decode cX6_settles 31 = .ok (.getfield 22, 3) := by decide +kernel
theorem dX6_settles_34 : decode cX6_settles 34 = .ok (.invokestatic 117, 3) := by decide +kernel
theorem dX6_settles_37 : decode cX6_settles 37 = .ok (.aload_n 0, 1) := by decide +kernel
theorem dX6_settles_38 : decode cX6_settles 38 = .ok (.iconst 0, 1) := by decide +kernel
theorem dX6_settles_39 : decode cX6_settles 39 = .ok (.putfield 67, 3) := by decide +kernel
theorem dX6_settles_42 : decode cX6_settles 42 = .ok (.aload_n 0, 1) := by decide +kernel
theorem dX6_settles_43 : decode cX6_settles 43 = .ok (.iconst 0, 1) := by decide +kernel
theorem dX6_settles_44 : decode cX6_settles 44 = .ok (.putfield 121, 3) := by decide +kernel
theorem dX6_settles_47 : decode cX6_settles 47 = .ok (.aload_n 0, 1) := by decide +kernel
theorem dX6_settles_48 : decode cX6_settles 48 = .ok (.iconst 0, 1) := by decide +kernel
theorem dX6_settles_49 : decode cX6_settles 49 = .ok (.putfield 124, 3) := by decide +kernel
theorem dX6_settles_52 : decode cX6_settles 52 = .ok (.aload_n 0, 1) := by decide +kernel
theorem dX6_settles_53 : decode cX6_settles 53 = .ok (.getfield 34, 3) := by decide +kernel
theorem dX6_settles_56 : decode cX6_settles 56 = .ok (.iconst 0, 1) := by decide +kernel
theorem dX6_settles_57 : decode cX6_settles 57 = .ok (.iconst 0, 1) := by decide +kernel
theorem dX6_settles_58 : decode cX6_settles 58 = .ok (.bastore, 1) := by decide +kernel
theorem dX6_settles_59 : decode cX6_settles 59 = .ok (.aload_n 0, 1) := by decide +kernel
theorem dX6_settles_60 : decode cX6_settles 60 = .ok (.getfield 34, 3) := by decide +kernel
theorem dX6_settles_63 : decode cX6_settles 63 = .ok (.iconst 1, 1) := by decide +kernel
theorem dX6_settles_64 : decode cX6_settles 64 = .ok (.iconst 0, 1) := by decide +kernel
theorem dX6_settles_65 : decode cX6_settles 65 = .ok (.bastore, 1) := by decide +kernel
theorem dX6_settles_66 : decode cX6_settles 66 = .ok (.return_, 1) := by decide +kernel
theorem dX6_copies_0 : decode cX6_copies 0 = .ok (.iconst 0, 1) := by decide +kernel
theorem dX6_copies_1 : decode cX6_copies 1 = .ok (.istore_n 2, 1) := by decide +kernel
theorem dX6_copies_2 : decode cX6_copies 2 = .ok (.iload_n 2, 1) := by decide +kernel
theorem dX6_copies_3 : decode cX6_copies 3 = .ok (.bipush 41, 2) := by decide +kernel
theorem dX6_copies_5 : decode cX6_copies 5 = .ok (.if_icmp .ge 15, 3) := by decide +kernel
theorem dX6_copies_8 : decode cX6_copies 8 = .ok (.aload_n 1, 1) := by decide +kernel
theorem dX6_copies_9 : decode cX6_copies 9 = .ok (.iload_n 2, 1) := by decide +kernel
theorem dX6_copies_10 : decode cX6_copies 10 = .ok (.aload_n 0, 1) := by decide +kernel
theorem dX6_copies_11 : decode cX6_copies 11 = .ok (.iload_n 2, 1) := by decide +kernel
theorem dX6_copies_12 : decode cX6_copies 12 = .ok (.iaload, 1) := by decide +kernel
theorem dX6_copies_13 : decode cX6_copies 13 = .ok (.iastore, 1) := by decide +kernel
theorem dX6_copies_14 : decode cX6_copies 14 = .ok (.iinc 2 1, 3) := by decide +kernel
theorem dX6_copies_17 : decode cX6_copies 17 = .ok (.goto (-15), 3) := by decide +kernel
theorem dX6_copies_20 : decode cX6_copies 20 = .ok (.return_, 1) := by decide +kernel
theorem dX6_isRadio_0 : decode cX6_isRadio 0 = .ok (.iload_n 1, 1) := by decide +kernel
theorem dX6_isRadio_1 : decode cX6_isRadio 1 = .ok (.iconst 0, 1) := by decide +kernel
theorem dX6_isRadio_2 : decode cX6_isRadio 2 = .ok (.aload_n 0, 1) := by decide +kernel
theorem dX6_isRadio_3 : decode cX6_isRadio 3 = .ok (.getfield 13, 3) := by decide +kernel
theorem dX6_isRadio_6 : decode cX6_isRadio 6 = .ok (.iconst 0, 1) := by decide +kernel
theorem dX6_isRadio_7 : decode cX6_isRadio 7 = .ok (.iaload, 1) := by decide +kernel
theorem dX6_isRadio_8 : decode cX6_isRadio 8 = .ok (.iconst 1, 1) := by decide +kernel
theorem dX6_isRadio_9 : decode cX6_isRadio 9 = .ok (.isub, 1) := by decide +kernel
theorem dX6_isRadio_10 : decode cX6_isRadio 10 = .ok (.invokestatic 63, 3) := by decide +kernel
theorem dX6_isRadio_13 : decode cX6_isRadio 13 = .ok (.ireturn, 1) := by decide +kernel
theorem dX6_rests_0 : decode cX6_rests 0 = .ok (.aload_n 0, 1) := by decide +kernel
theorem dX6_rests_1 : decode cX6_rests 1 = .ok (.bipush 13, 2) := by decide +kernel
theorem dX6_rests_3 : decode cX6_rests 3 = .ok (.iload_n 1, 1) := by decide +kernel
theorem dX6_rests_4 : decode cX6_rests 4 = .ok (.iadd, 1) := by decide +kernel
theorem dX6_rests_5 : decode cX6_rests 5 = .ok (.iconst 0, 1) := by decide +kernel
theorem dX6_rests_6 : decode cX6_rests 6 = .ok (.iastore, 1) := by decide +kernel
theorem dX6_rests_7 : decode cX6_rests 7 = .ok (.aload_n 0, 1) := by decide +kernel
theorem dX6_rests_8 : decode cX6_rests 8 = .ok (.bipush 20, 2) := by decide +kernel
theorem dX6_rests_10 : decode cX6_rests 10 = .ok (.iload_n 1, 1) := by decide +kernel
theorem dX6_rests_11 : decode cX6_rests 11 = .ok (.iadd, 1) := by decide +kernel
theorem dX6_rests_12 : decode cX6_rests 12 = .ok (.iconst 0, 1) := by decide +kernel
theorem dX6_rests_13 : decode cX6_rests 13 = .ok (.iastore, 1) := by decide +kernel
theorem dX6_rests_14 : decode cX6_rests 14 = .ok (.aload_n 0, 1) := by decide +kernel
theorem dX6_rests_15 : decode cX6_rests 15 = .ok (.bipush 27, 2) := by decide +kernel
theorem dX6_rests_17 : decode cX6_rests 17 = .ok (.iload_n 1, 1) := by decide +kernel
theorem dX6_rests_18 : decode cX6_rests 18 = .ok (.iadd, 1) := by decide +kernel
theorem dX6_rests_19 : decode cX6_rests 19 = .ok (.iconst 0, 1) := by decide +kernel
theorem dX6_rests_20 : decode cX6_rests 20 = .ok (.iastore, 1) := by decide +kernel
theorem dX6_rests_21 : decode cX6_rests 21 = .ok (.aload_n 0, 1) := by decide +kernel
theorem dX6_rests_22 : decode cX6_rests 22 = .ok (.bipush 34, 2) := by decide +kernel
theorem dX6_rests_24 : decode cX6_rests 24 = .ok (.iload_n 1, 1) := by decide +kernel
theorem dX6_rests_25 : decode cX6_rests 25 = .ok (.iadd, 1) := by decide +kernel
theorem dX6_rests_26 : decode cX6_rests 26 = .ok (.iconst 0, 1) := by decide +kernel
theorem dX6_rests_27 : decode cX6_rests 27 = .ok (.iastore, 1) := by decide +kernel
theorem dX6_rests_28 : decode cX6_rests 28 = .ok (.return_, 1) := by decide +kernel
theorem dX6_becomes_0 : decode cX6_becomes 0 = .ok (.aload_n 0, 1) := by decide +kernel
theorem dX6_becomes_1 : decode cX6_becomes 1 = .ok (.bipush 13, 2) := by decide +kernel
theorem dX6_becomes_3 : decode cX6_becomes 3 = .ok (.iload_n 1, 1) := by decide +kernel
theorem dX6_becomes_4 : decode cX6_becomes 4 = .ok (.iadd, 1) := by decide +kernel
theorem dX6_becomes_5 : decode cX6_becomes 5 = .ok (.iload_n 2, 1) := by decide +kernel
theorem dX6_becomes_6 : decode cX6_becomes 6 = .ok (.iastore, 1) := by decide +kernel
theorem dX6_becomes_7 : decode cX6_becomes 7 = .ok (.aload_n 0, 1) := by decide +kernel
theorem dX6_becomes_8 : decode cX6_becomes 8 = .ok (.bipush 20, 2) := by decide +kernel
theorem dX6_becomes_10 : decode cX6_becomes 10 = .ok (.iload_n 1, 1) := by decide +kernel
theorem dX6_becomes_11 : decode cX6_becomes 11 = .ok (.iadd, 1) := by decide +kernel
theorem dX6_becomes_12 : decode cX6_becomes 12 = .ok (.iload_n 3, 1) := by decide +kernel
theorem dX6_becomes_13 : decode cX6_becomes 13 = .ok (.iastore, 1) := by decide +kernel
theorem dX6_becomes_14 : decode cX6_becomes 14 = .ok (.return_, 1) := by decide +kernel
theorem dX6_isSentAt_0 : decode cX6_isSentAt 0 = .ok (.aload_n 1, 1) := by decide +kernel
theorem dX6_isSentAt_1 : decode cX6_isSentAt 1 = .ok (.bipush 13, 2) := by decide +kernel
theorem dX6_isSentAt_3 : decode cX6_isSentAt 3 = .ok (.iload_n 2, 1) := by decide +kernel
theorem dX6_isSentAt_4 : decode cX6_isSentAt 4 = .ok (.iadd, 1) := by decide +kernel
theorem dX6_isSentAt_5 : decode cX6_isSentAt 5 = .ok (.iaload, 1) := by decide +kernel
theorem dX6_isSentAt_6 : decode cX6_isSentAt 6 = .ok (.iconst 1, 1) := by decide +kernel
theorem dX6_isSentAt_7 : decode cX6_isSentAt 7 = .ok (.if_icmp .ne 17, 3) := by decide +kernel
theorem dX6_isSentAt_10 : decode cX6_isSentAt 10 = .ok (.aload_n 1, 1) := by decide +kernel
theorem dX6_isSentAt_11 : decode cX6_isSentAt 11 = .ok (.bipush 6, 2) := by decide +kernel
theorem dX6_isSentAt_13 : decode cX6_isSentAt 13 = .ok (.iload_n 2, 1) := by decide +kernel
theorem dX6_isSentAt_14 : decode cX6_isSentAt 14 = .ok (.iadd, 1) := by decide +kernel
theorem dX6_isSentAt_15 : decode cX6_isSentAt 15 = .ok (.iaload, 1) := by decide +kernel
theorem dX6_isSentAt_16 : decode cX6_isSentAt 16 = .ok (.iload_n 3, 1) := by decide +kernel
theorem dX6_isSentAt_17 : decode cX6_isSentAt 17 = .ok (.if_icmp .ne 7, 3) := by decide +kernel
theorem dX6_isSentAt_20 : decode cX6_isSentAt 20 = .ok (.iconst 1, 1) := by decide +kernel
theorem dX6_isSentAt_21 : decode cX6_isSentAt 21 = .ok (.goto 4, 3) := by decide +kernel
theorem dX6_isSentAt_24 : decode cX6_isSentAt 24 = .ok (.iconst 0, 1) := by decide +kernel
theorem dX6_isSentAt_25 : decode cX6_isSentAt 25 = .ok (.ireturn, 1) := by decide +kernel
theorem dX6_heardAt_0 : decode cX6_heardAt 0 = .ok (.iconst 0, 1) := by decide +kernel
theorem dX6_heardAt_1 : decode cX6_heardAt 1 = .ok (.istore_n 3, 1) := by decide +kernel
theorem dX6_heardAt_2 : decode cX6_heardAt 2 = .ok (.bipush (-9), 2) := by decide +kernel
theorem dX6_heardAt_4 : decode cX6_heardAt 4 = .ok (.istore 4, 2) := by decide +kernel
theorem dX6_heardAt_6 : decode cX6_heardAt 6 = .ok (.bipush (-9), 2) := by decide +kernel
theorem dX6_heardAt_8 : decode cX6_heardAt 8 = .ok (.istore 5, 2) := by decide +kernel
theorem dX6_heardAt_10 : decode cX6_heardAt 10 = .ok (.aload_n 0, 1) := by decide +kernel
theorem dX6_heardAt_11 : decode cX6_heardAt 11 = .ok (.getfield 13, 3) := by decide +kernel
theorem dX6_heardAt_14 : decode cX6_heardAt 14 = .ok (.iconst 0, 1) := by decide +kernel
theorem dX6_heardAt_15 : decode cX6_heardAt 15 = .ok (.iaload, 1) := by decide +kernel
theorem dX6_heardAt_16 : decode cX6_heardAt 16 = .ok (.iconst 1, 1) := by decide +kernel
theorem dX6_heardAt_17 : decode cX6_heardAt 17 = .ok (.isub, 1) := by decide +kernel
theorem dX6_heardAt_18 : decode cX6_heardAt 18 = .ok (.istore 6, 2) := by decide +kernel
theorem dX6_heardAt_20 : decode cX6_heardAt 20 = .ok (.iload 6, 2) := by decide +kernel
theorem dX6_heardAt_22 : decode cX6_heardAt 22 = .ok (.ifCond .lt 47, 3) := by decide +kernel
theorem dX6_heardAt_25 : decode cX6_heardAt 25 = .ok (.aload_n 0, 1) := by decide +kernel
theorem dX6_heardAt_26 : decode cX6_heardAt 26 = .ok (.aload_n 1, 1) := by decide +kernel
theorem dX6_heardAt_27 : decode cX6_heardAt 27 = .ok (.iload 6, 2) := by decide +kernel
theorem dX6_heardAt_29 : decode cX6_heardAt 29 = .ok (.iload_n 2, 1) := by decide +kernel
theorem dX6_heardAt_30 : decode cX6_heardAt 30 = .ok (.invokevirtual 127, 3) := by decide +kernel
theorem dX6_heardAt_33 : decode cX6_heardAt 33 = .ok (.ifCond .eq 30, 3) := by decide +kernel
theorem dX6_heardAt_36 : decode cX6_heardAt 36 = .ok (.iinc 3 1, 3) := by decide +kernel
theorem dX6_heardAt_39 : decode cX6_heardAt 39 = .ok (.iload 6, 2) := by decide +kernel
theorem dX6_heardAt_41 : decode cX6_heardAt 41 = .ok (.istore 4, 2) := by decide +kernel
theorem dX6_heardAt_43 : decode cX6_heardAt 43 = .ok (.aload_n 1, 1) := by decide +kernel
theorem dX6_heardAt_44 : decode cX6_heardAt 44 = .ok (.bipush 27, 2) := by decide +kernel
theorem dX6_heardAt_46 : decode cX6_heardAt 46 = .ok (.iload 6, 2) := by decide +kernel
theorem dX6_heardAt_48 : decode cX6_heardAt 48 = .ok (.iadd, 1) := by decide +kernel
theorem dX6_heardAt_49 : decode cX6_heardAt 49 = .ok (.iaload, 1) := by decide +kernel
theorem dX6_heardAt_50 : decode cX6_heardAt 50 = .ok (.iconst 1, 1) := by decide +kernel
theorem dX6_heardAt_51 : decode cX6_heardAt 51 = .ok (.if_icmp .ne 8, 3) := by decide +kernel
theorem dX6_heardAt_54 : decode cX6_heardAt 54 = .ok (.iload 6, 2) := by decide +kernel
theorem dX6_heardAt_56 : decode cX6_heardAt 56 = .ok (.goto 5, 3) := by decide +kernel
theorem dX6_heardAt_59 : decode cX6_heardAt 59 = .ok (.iload 5, 2) := by decide +kernel
theorem dX6_heardAt_61 : decode cX6_heardAt 61 = .ok (.istore 5, 2) := by decide +kernel
theorem dX6_heardAt_63 : decode cX6_heardAt 63 = .ok (.iinc 6 (-1), 3) := by decide +kernel
theorem dX6_heardAt_66 : decode cX6_heardAt 66 = .ok (.goto (-46), 3) := by decide +kernel
theorem dX6_heardAt_69 : decode cX6_heardAt 69 = .ok (.iload 5, 2) := by decide +kernel
theorem dX6_heardAt_71 : decode cX6_heardAt 71 = .ok (.bipush (-9), 2) := by decide +kernel
theorem dX6_heardAt_73 : decode cX6_heardAt 73 = .ok (.if_icmp .eq 8, 3) := by decide +kernel
theorem dX6_heardAt_76 : decode cX6_heardAt 76 = .ok (.iload 5, 2) := by decide +kernel
theorem dX6_heardAt_78 : decode cX6_heardAt 78 = .ok (.goto 15, 3) := by decide +kernel
theorem dX6_heardAt_81 : decode cX6_heardAt 81 = .ok (.iload_n 3, 1) := by decide +kernel
theorem dX6_heardAt_82 : decode cX6_heardAt 82 = .ok (.iconst 1, 1) := by decide +kernel
theorem dX6_heardAt_83 : decode cX6_heardAt 83 = .ok (.if_icmp .ne 8, 3) := by decide +kernel
theorem dX6_heardAt_86 : decode cX6_heardAt 86 = .ok (.iload 4, 2) := by decide +kernel
theorem dX6_heardAt_88 : decode cX6_heardAt 88 = .ok (.goto 5, 3) := by decide +kernel
theorem dX6_heardAt_91 : decode cX6_heardAt 91 = .ok (.bipush (-9), 2) := by decide +kernel
theorem dX6_heardAt_93 : decode cX6_heardAt 93 = .ok (.ireturn, 1) := by decide +kernel
theorem dX6_controls2_0 : decode cX6_controls2 0 = .ok (.aload_n 0, 1) := by decide +kernel
theorem dX6_controls2_1 : decode cX6_controls2 1 = .ok (.aload_n 1, 1) := by decide +kernel
theorem dX6_controls2_2 : decode cX6_controls2 2 = .ok (.iload_n 2, 1) := by decide +kernel
theorem dX6_controls2_3 : decode cX6_controls2 3 = .ok (.invokevirtual 131, 3) := by decide +kernel
theorem dX6_controls2_6 : decode cX6_controls2 6 = .ok (.istore_n 3, 1) := by decide +kernel
theorem dX6_controls2_7 : decode cX6_controls2 7 = .ok (.iconst 0, 1) := by decide +kernel
theorem dX6_controls2_8 : decode cX6_controls2 8 = .ok (.istore 4, 2) := by decide +kernel
theorem dX6_controls2_10 : decode cX6_controls2 10 = .ok (.iload 4, 2) := by decide +kernel
theorem dX6_controls2_12 : decode cX6_controls2 12 = .ok (.aload_n 0, 1) := by decide +kernel
theorem dX6_controls2_13 : decode cX6_controls2 13 = .ok (.getfield 13, 3) := by decide +kernel
theorem dX6_controls2_16 : decode cX6_controls2 16 = .ok (.iconst 0, 1) := by decide +kernel
theorem dX6_controls2_17 : decode cX6_controls2 17 = .ok (.iaload, 1) := by decide +kernel
theorem dX6_controls2_18 : decode cX6_controls2 18 = .ok (.if_icmp .ge 53, 3) := by decide +kernel
theorem dX6_controls2_21 : decode cX6_controls2 21 = .ok (.aload_n 0, 1) := by decide +kernel
theorem dX6_controls2_22 : decode cX6_controls2 22 = .ok (.aload_n 1, 1) := by decide +kernel
theorem dX6_controls2_23 : decode cX6_controls2 23 = .ok (.iload 4, 2) := by decide +kernel
theorem dX6_controls2_25 : decode cX6_controls2 25 = .ok (.iload_n 2, 1) := by decide +kernel
theorem dX6_controls2_26 : decode cX6_controls2 26 = .ok (.invokevirtual 127, 3) := by decide +kernel
theorem dX6_controls2_29 : decode cX6_controls2 29 = .ok (.ifCond .eq 36, 3) := by decide +kernel
theorem dX6_controls2_32 : decode cX6_controls2 32 = .ok (.aload_n 1, 1) := by decide +kernel
theorem dX6_controls2_33 : decode cX6_controls2 33 = .ok (.iload 4, 2) := by decide +kernel
theorem dX6_controls2_35 : decode cX6_controls2 35 = .ok (.iload 4, 2) := by decide +kernel
theorem dX6_controls2_37 : decode cX6_controls2 37 = .ok (.iload_n 3, 1) := by decide +kernel
theorem dX6_controls2_38 : decode cX6_controls2 38 = .ok (.if_icmp .ne 7, 3) := by decide +kernel
theorem dX6_controls2_41 : decode cX6_controls2 41 = .ok (.iconst 3, 1) := by decide +kernel
theorem dX6_controls2_42 : decode cX6_controls2 42 = .ok (.goto 4, 3) := by decide +kernel
theorem dX6_controls2_45 : decode cX6_controls2 45 = .ok (.iconst 2, 1) := by decide +kernel
theorem dX6_controls2_46 : decode cX6_controls2 46 = .ok (.iload 4, 2) := by decide +kernel
theorem dX6_controls2_48 : decode cX6_controls2 48 = .ok (.iload_n 3, 1) := by decide +kernel
theorem dX6_controls2_49 : decode cX6_controls2 49 = .ok (.if_icmp .ne 7, 3) := by decide +kernel
theorem dX6_controls2_52 : decode cX6_controls2 52 = .ok (.iconst 0, 1) := by decide +kernel
theorem dX6_controls2_53 : decode cX6_controls2 53 = .ok (.goto 9, 3) := by decide +kernel
theorem dX6_controls2_56 : decode cX6_controls2 56 = .ok (.iconst 1, 1) := by decide +kernel
theorem dX6_controls2_57 : decode cX6_controls2 57 = .ok (.iload 4, 2) := by decide +kernel
theorem dX6_controls2_59 : decode cX6_controls2 59 = .ok (.iconst 3, 1) := by decide +kernel
theorem dX6_controls2_60 : decode cX6_controls2 60 = .ok (.irem, 1) := by decide +kernel
theorem dX6_controls2_61 : decode cX6_controls2 61 = .ok (.iadd, 1) := by decide +kernel
theorem dX6_controls2_62 : decode cX6_controls2 62 = .ok (.invokestatic 135, 3) := by decide +kernel
theorem dX6_controls2_65 : decode cX6_controls2 65 = .ok (.iinc 4 1, 3) := by decide +kernel
theorem dX6_controls2_68 : decode cX6_controls2 68 = .ok (.goto (-58), 3) := by decide +kernel
theorem dX6_controls2_71 : decode cX6_controls2 71 = .ok (.return_, 1) := by decide +kernel
theorem dX6_helpsItself_0 : decode cX6_helpsItself 0 = .ok (.aload_n 0, 1) := by decide +kernel
theorem dX6_helpsItself_1 : decode cX6_helpsItself 1 = .ok (.getfield 13, 3) := by decide +kernel
theorem dX6_helpsItself_4 : decode cX6_helpsItself 4 = .ok (.iconst 3, 1) := by decide +kernel
theorem dX6_helpsItself_5 : decode cX6_helpsItself 5 = .ok (.iload_n 2, 1) := by decide +kernel
theorem dX6_helpsItself_6 : decode cX6_helpsItself 6 = .ok (.iadd, 1) := by decide +kernel
theorem dX6_helpsItself_7 : decode cX6_helpsItself 7 = .ok (.iaload, 1) := by decide +kernel
theorem dX6_helpsItself_8 : decode cX6_helpsItself 8 = .ok (.istore_n 3, 1) := by decide +kernel
theorem dX6_helpsItself_9 : decode cX6_helpsItself 9 = .ok (.iconst 0, 1) := by decide +kernel
theorem dX6_helpsItself_10 : decode cX6_helpsItself 10 = .ok (.istore 4, 2) := by decide +kernel
theorem dX6_helpsItself_12 : decode cX6_helpsItself 12 = .ok (.iload 4, 2) := by decide +kernel
theorem dX6_helpsItself_14 : decode cX6_helpsItself 14 = .ok (.aload_n 0, 1) := by decide +kernel
theorem dX6_helpsItself_15 : decode cX6_helpsItself 15 = .ok (.getfield 13, 3) := by decide +kernel
theorem dX6_helpsItself_18 : decode cX6_helpsItself 18 = .ok (.iconst 0, 1) := by decide +kernel
theorem dX6_helpsItself_19 : decode cX6_helpsItself 19 = .ok (.iaload, 1) := by decide +kernel
theorem dX6_helpsItself_20 : decode cX6_helpsItself 20 = .ok (.if_icmp .ge 130, 3) := by decide +kernel
theorem dX6_helpsItself_23 : decode cX6_helpsItself 23 = .ok (.aload_n 0, 1) := by decide +kernel
theorem dX6_helpsItself_24 : decode cX6_helpsItself 24 = .ok (.aload_n 1, 1) := by decide +kernel
theorem dX6_helpsItself_25 : decode cX6_helpsItself 25 = .ok (.iload 4, 2) := by decide +kernel
theorem dX6_helpsItself_27 : decode cX6_helpsItself 27 = .ok (.iload_n 2, 1) := by decide +kernel
theorem dX6_helpsItself_28 : decode cX6_helpsItself 28 = .ok (.invokevirtual 127, 3) := by decide +kernel
theorem dX6_helpsItself_31 : decode cX6_helpsItself 31 = .ok (.istore 5, 2) := by decide +kernel
theorem dX6_helpsItself_33 : decode cX6_helpsItself 33 = .ok (.iconst 0, 1) := by decide +kernel
theorem dX6_helpsItself_34 : decode cX6_helpsItself 34 = .ok (.istore 6, 2) := by decide +kernel
theorem dX6_helpsItself_36 : decode cX6_helpsItself 36 = .ok (.iload 6, 2) := by decide +kernel
theorem dX6_helpsItself_38 : decode cX6_helpsItself 38 = .ok (.aload_n 0, 1) := by decide +kernel
theorem dX6_helpsItself_39 : decode cX6_helpsItself 39 = .ok (.getfield 13, 3) := by decide +kernel
theorem dX6_helpsItself_42 : decode cX6_helpsItself 42 = .ok (.iconst 0, 1) := by decide +kernel
theorem dX6_helpsItself_43 : decode cX6_helpsItself 43 = .ok (.iaload, 1) := by decide +kernel
theorem dX6_helpsItself_44 : decode cX6_helpsItself 44 = .ok (.if_icmp .ge 80, 3) := by decide +kernel
theorem dX6_helpsItself_47 : decode cX6_helpsItself 47 = .ok (.aload_n 1, 1) := by decide +kernel
theorem dX6_helpsItself_48 : decode cX6_helpsItself 48 = .ok (.bipush 13, 2) := by decide +kernel
theorem dX6_helpsItself_50 : decode cX6_helpsItself 50 = .ok (.iload 6, 2) := by decide +kernel
theorem dX6_helpsItself_52 : decode cX6_helpsItself 52 = .ok (.iadd, 1) := by decide +kernel
theorem dX6_helpsItself_53 : decode cX6_helpsItself 53 = .ok (.iaload, 1) := by decide +kernel
theorem dX6_helpsItself_54 : decode cX6_helpsItself 54 = .ok (.iconst 5, 1) := by decide +kernel
theorem dX6_helpsItself_55 : decode cX6_helpsItself 55 = .ok (.if_icmp .ne 18, 3) := by decide +kernel
theorem dX6_helpsItself_58 : decode cX6_helpsItself 58 = .ok (.aload_n 1, 1) := by decide +kernel
theorem dX6_helpsItself_59 : decode cX6_helpsItself 59 = .ok (.bipush 6, 2) := by decide +kernel
theorem dX6_helpsItself_61 : decode cX6_helpsItself 61 = .ok (.iload 6, 2) := by decide +kernel
theorem dX6_helpsItself_63 : decode cX6_helpsItself 63 = .ok (.iadd, 1) := by decide +kernel
theorem dX6_helpsItself_64 : decode cX6_helpsItself 64 = .ok (.iaload, 1) := by decide +kernel
theorem dX6_helpsItself_65 : decode cX6_helpsItself 65 = .ok (.iload_n 2, 1) := by decide +kernel
theorem dX6_helpsItself_66 : decode cX6_helpsItself 66 = .ok (.if_icmp .ne 7, 3) := by decide +kernel
theorem dX6_helpsItself_69 : decode cX6_helpsItself 69 = .ok (.iconst 1, 1) := by decide +kernel
theorem dX6_helpsItself_70 : decode cX6_helpsItself 70 = .ok (.goto 4, 3) := by decide +kernel
theorem dX6_helpsItself_73 : decode cX6_helpsItself 73 = .ok (.iconst 0, 1) := by decide +kernel
theorem dX6_helpsItself_74 : decode cX6_helpsItself 74 = .ok (.istore 7, 2) := by decide +kernel
theorem dX6_helpsItself_76 : decode cX6_helpsItself 76 = .ok (.iload 5, 2) := by decide +kernel
theorem dX6_helpsItself_78 : decode cX6_helpsItself 78 = .ok (.ifCond .eq 37, 3) := by decide +kernel
theorem dX6_helpsItself_81 : decode cX6_helpsItself 81 = .ok (.iload 7, 2) := by decide +kernel
theorem dX6_helpsItself_83 : decode cX6_helpsItself 83 = .ok (.ifCond .eq 28, 3) := by decide +kernel
theorem dX6_helpsItself_86 : decode cX6_helpsItself 86 = .ok (.aload_n 0, 1) := by decide +kernel
theorem dX6_helpsItself_87 : decode cX6_helpsItself 87 = .ok (.getfield 13, 3) := by decide +kernel
theorem dX6_helpsItself_90 : decode cX6_helpsItself 90 = .ok (.iconst 5, 1) := by decide +kernel
theorem dX6_helpsItself_91 : decode cX6_helpsItself 91 = .ok (.iload 6, 2) := by decide +kernel
theorem dX6_helpsItself_93 : decode cX6_helpsItself 93 = .ok (.iadd, 1) := by decide +kernel
theorem dX6_helpsItself_94 : decode cX6_helpsItself 94 = .ok (.iaload, 1) := by decide +kernel
theorem dX6_helpsItself_95 : decode cX6_helpsItself 95 = .ok (.iload_n 3, 1) := by decide +kernel
theorem dX6_helpsItself_96 : decode cX6_helpsItself 96 = .ok (.irem, 1) := by decide +kernel
theorem dX6_helpsItself_97 : decode cX6_helpsItself 97 = .ok (.aload_n 0, 1) := by decide +kernel
theorem dX6_helpsItself_98 : decode cX6_helpsItself 98 = .ok (.getfield 13, 3) := by decide +kernel
theorem dX6_helpsItself_101 : decode cX6_helpsItself 101 = .ok (.iconst 5, 1) := by decide +kernel
theorem dX6_helpsItself_102 : decode cX6_helpsItself 102 = .ok (.iload 4, 2) := by decide +kernel
theorem dX6_helpsItself_104 : decode cX6_helpsItself 104 = .ok (.iadd, 1) := by decide +kernel
theorem dX6_helpsItself_105 : decode cX6_helpsItself 105 = .ok (.iaload, 1) := by decide +kernel
theorem dX6_helpsItself_106 : decode cX6_helpsItself 106 = .ok (.iload_n 3, 1) := by decide +kernel
theorem dX6_helpsItself_107 : decode cX6_helpsItself 107 = .ok (.irem, 1) := by decide +kernel
theorem dX6_helpsItself_108 : decode cX6_helpsItself 108 = .ok (.if_icmp .eq 7, 3) := by decide +kernel
theorem dX6_helpsItself_111 : decode cX6_helpsItself 111 = .ok (.iconst 1, 1) := by decide +kernel
theorem dX6_helpsItself_112 : decode cX6_helpsItself 112 = .ok (.goto 4, 3) := by decide +kernel
theorem dX6_helpsItself_115 : decode cX6_helpsItself 115 = .ok (.iconst 0, 1) := by decide +kernel
theorem dX6_helpsItself_116 : decode cX6_helpsItself 116 = .ok (.istore 5, 2) := by decide +kernel
theorem dX6_helpsItself_118 : decode cX6_helpsItself 118 = .ok (.iinc 6 1, 3) := by decide +kernel
theorem dX6_helpsItself_121 : decode cX6_helpsItself 121 = .ok (.goto (-85), 3) := by decide +kernel
theorem dX6_helpsItself_124 : decode cX6_helpsItself 124 = .ok (.iload 5, 2) := by decide +kernel
theorem dX6_helpsItself_126 : decode cX6_helpsItself 126 = .ok (.ifCond .eq 18, 3) := by decide +kernel
theorem dX6_helpsItself_129 : decode cX6_helpsItself 129 = .ok (.aload_n 1, 1) := by decide +kernel
theorem dX6_helpsItself_130 : decode cX6_helpsItself 130 = .ok (.iload 4, 2) := by decide +kernel
theorem dX6_helpsItself_132 : decode cX6_helpsItself 132 = .ok (.iconst 5, 1) := by decide +kernel
theorem dX6_helpsItself_133 : decode cX6_helpsItself 133 = .ok (.iconst 0, 1) := by decide +kernel
theorem dX6_helpsItself_134 : decode cX6_helpsItself 134 = .ok (.invokestatic 135, 3) := by decide +kernel
theorem dX6_helpsItself_137 : decode cX6_helpsItself 137 = .ok (.aload_n 1, 1) := by decide +kernel
theorem dX6_helpsItself_138 : decode cX6_helpsItself 138 = .ok (.iconst 3, 1) := by decide +kernel
theorem dX6_helpsItself_139 : decode cX6_helpsItself 139 = .ok (.dup2, 1) := by decide +kernel
theorem dX6_helpsItself_140 : decode cX6_helpsItself 140 = .ok (.iaload, 1) := by decide +kernel
theorem dX6_helpsItself_141 : decode cX6_helpsItself 141 = .ok (.iconst 1, 1) := by decide +kernel
theorem dX6_helpsItself_142 : decode cX6_helpsItself 142 = .ok (.iadd, 1) := by decide +kernel
theorem dX6_helpsItself_143 : decode cX6_helpsItself 143 = .ok (.iastore, 1) := by decide +kernel
theorem dX6_helpsItself_144 : decode cX6_helpsItself 144 = .ok (.iinc 4 1, 3) := by decide +kernel
theorem dX6_helpsItself_147 : decode cX6_helpsItself 147 = .ok (.goto (-135), 3) := by decide +kernel
theorem dX6_helpsItself_150 : decode cX6_helpsItself 150 = .ok (.return_, 1) := by decide +kernel
theorem dX6_freeAt_0 : decode cX6_freeAt 0 = .ok (.aload_n 0, 1) := by decide +kernel
theorem dX6_freeAt_1 : decode cX6_freeAt 1 = .ok (.getfield 13, 3) := by decide +kernel
theorem dX6_freeAt_4 : decode cX6_freeAt 4 = .ok (.iconst 3, 1) := by decide +kernel
theorem dX6_freeAt_5 : decode cX6_freeAt 5 = .ok (.iload_n 2, 1) := by decide +kernel
theorem dX6_freeAt_6 : decode cX6_freeAt 6 = .ok (.iadd, 1) := by decide +kernel
theorem dX6_freeAt_7 : decode cX6_freeAt 7 = .ok (.iaload, 1) := by decide +kernel
theorem dX6_freeAt_8 : decode cX6_freeAt 8 = .ok (.istore_n 3, 1) := by decide +kernel
theorem dX6_freeAt_9 : decode cX6_freeAt 9 = .ok (.iconst 0, 1) := by decide +kernel
theorem dX6_freeAt_10 : decode cX6_freeAt 10 = .ok (.istore 4, 2) := by decide +kernel
theorem dX6_freeAt_12 : decode cX6_freeAt 12 = .ok (.iload 4, 2) := by decide +kernel
theorem dX6_freeAt_14 : decode cX6_freeAt 14 = .ok (.aload_n 0, 1) := by decide +kernel
theorem dX6_freeAt_15 : decode cX6_freeAt 15 = .ok (.getfield 13, 3) := by decide +kernel
theorem dX6_freeAt_18 : decode cX6_freeAt 18 = .ok (.iconst 0, 1) := by decide +kernel
theorem dX6_freeAt_19 : decode cX6_freeAt 19 = .ok (.iaload, 1) := by decide +kernel
theorem dX6_freeAt_20 : decode cX6_freeAt 20 = .ok (.if_icmp .ge 31, 3) := by decide +kernel
theorem dX6_freeAt_23 : decode cX6_freeAt 23 = .ok (.iload_n 3, 1) := by decide +kernel
theorem dX6_freeAt_24 : decode cX6_freeAt 24 = .ok (.aload_n 1, 1) := by decide +kernel
theorem dX6_freeAt_25 : decode cX6_freeAt 25 = .ok (.bipush 34, 2) := by decide +kernel
theorem dX6_freeAt_27 : decode cX6_freeAt 27 = .ok (.iload 4, 2) := by decide +kernel
theorem dX6_freeAt_29 : decode cX6_freeAt 29 = .ok (.iadd, 1) := by decide +kernel
theorem dX6_freeAt_30 : decode cX6_freeAt 30 = .ok (.iaload, 1) := by decide +kernel
theorem dX6_freeAt_31 : decode cX6_freeAt 31 = .ok (.iload_n 2, 1) := by decide +kernel
theorem dX6_freeAt_32 : decode cX6_freeAt 32 = .ok (.invokestatic 139, 3) := by decide +kernel
theorem dX6_freeAt_35 : decode cX6_freeAt 35 = .ok (.ifCond .eq 7, 3) := by decide +kernel
theorem dX6_freeAt_38 : decode cX6_freeAt 38 = .ok (.iconst 1, 1) := by decide +kernel
theorem dX6_freeAt_39 : decode cX6_freeAt 39 = .ok (.goto 4, 3) := by decide +kernel
theorem dX6_freeAt_42 : decode cX6_freeAt 42 = .ok (.iconst 0, 1) := by decide +kernel
theorem dX6_freeAt_43 : decode cX6_freeAt 43 = .ok (.isub, 1) := by decide +kernel
theorem dX6_freeAt_44 : decode cX6_freeAt 44 = .ok (.istore_n 3, 1) := by decide +kernel
theorem dX6_freeAt_45 : decode cX6_freeAt 45 = .ok (.iinc 4 1, 3) := by decide +kernel
theorem dX6_freeAt_48 : decode cX6_freeAt 48 = .ok (.goto (-36), 3) := by decide +kernel
theorem dX6_freeAt_51 : decode cX6_freeAt 51 = .ok (.iload_n 3, 1) := by decide +kernel
theorem dX6_freeAt_52 : decode cX6_freeAt 52 = .ok (.ireturn, 1) := by decide +kernel
theorem dX6_talkerOf_0 : decode cX6_talkerOf 0 = .ok (.bipush (-9), 2) := by decide +kernel
theorem dX6_talkerOf_2 : decode cX6_talkerOf 2 = .ok (.istore_n 3, 1) := by decide +kernel
theorem dX6_talkerOf_3 : decode cX6_talkerOf 3 = .ok (.iconst 0, 1) := by decide +kernel
theorem dX6_talkerOf_4 : decode cX6_talkerOf 4 = .ok (.istore 4, 2) := by decide +kernel
theorem dX6_talkerOf_6 : decode cX6_talkerOf 6 = .ok (.iload 4, 2) := by decide +kernel
theorem dX6_talkerOf_8 : decode cX6_talkerOf 8 = .ok (.aload_n 0, 1) := by decide +kernel
theorem dX6_talkerOf_9 : decode cX6_talkerOf 9 = .ok (.getfield 13, 3) := by decide +kernel
theorem dX6_talkerOf_12 : decode cX6_talkerOf 12 = .ok (.iconst 0, 1) := by decide +kernel
theorem dX6_talkerOf_13 : decode cX6_talkerOf 13 = .ok (.iaload, 1) := by decide +kernel
theorem dX6_talkerOf_14 : decode cX6_talkerOf 14 = .ok (.if_icmp .ge 40, 3) := by decide +kernel
theorem dX6_talkerOf_17 : decode cX6_talkerOf 17 = .ok (.aload_n 1, 1) := by decide +kernel
theorem dX6_talkerOf_18 : decode cX6_talkerOf 18 = .ok (.bipush 13, 2) := by decide +kernel
theorem dX6_talkerOf_20 : decode cX6_talkerOf 20 = .ok (.iload 4, 2) := by decide +kernel
theorem dX6_talkerOf_22 : decode cX6_talkerOf 22 = .ok (.iadd, 1) := by decide +kernel
theorem dX6_talkerOf_23 : decode cX6_talkerOf 23 = .ok (.iaload, 1) := by decide +kernel
theorem dX6_talkerOf_24 : decode cX6_talkerOf 24 = .ok (.iconst 4, 1) := by decide +kernel
theorem dX6_talkerOf_25 : decode cX6_talkerOf 25 = .ok (.if_icmp .ne 21, 3) := by decide +kernel
theorem dX6_talkerOf_28 : decode cX6_talkerOf 28 = .ok (.aload_n 0, 1) := by decide +kernel
theorem dX6_talkerOf_29 : decode cX6_talkerOf 29 = .ok (.getfield 13, 3) := by decide +kernel
theorem dX6_talkerOf_32 : decode cX6_talkerOf 32 = .ok (.iconst 5, 1) := by decide +kernel
theorem dX6_talkerOf_33 : decode cX6_talkerOf 33 = .ok (.iload 4, 2) := by decide +kernel
theorem dX6_talkerOf_35 : decode cX6_talkerOf 35 = .ok (.iadd, 1) := by decide +kernel
theorem dX6_talkerOf_36 : decode cX6_talkerOf 36 = .ok (.iaload, 1) := by decide +kernel
theorem dX6_talkerOf_37 : decode cX6_talkerOf 37 = .ok (.iload_n 2, 1) := by decide +kernel
theorem dX6_talkerOf_38 : decode cX6_talkerOf 38 = .ok (.if_icmp .ne 8, 3) := by decide +kernel
theorem dX6_talkerOf_41 : decode cX6_talkerOf 41 = .ok (.iload 4, 2) := by decide +kernel
theorem dX6_talkerOf_43 : decode cX6_talkerOf 43 = .ok (.goto 4, 3) := by decide +kernel
theorem dX6_talkerOf_46 : decode cX6_talkerOf 46 = .ok (.iload_n 3, 1) := by decide +kernel
theorem dX6_talkerOf_47 : decode cX6_talkerOf 47 = .ok (.istore_n 3, 1) := by decide +kernel
theorem dX6_talkerOf_48 : decode cX6_talkerOf 48 = .ok (.iinc 4 1, 3) := by decide +kernel
theorem dX6_talkerOf_51 : decode cX6_talkerOf 51 = .ok (.goto (-45), 3) := by decide +kernel
theorem dX6_talkerOf_54 : decode cX6_talkerOf 54 = .ok (.iload_n 3, 1) := by decide +kernel
theorem dX6_talkerOf_55 : decode cX6_talkerOf 55 = .ok (.ireturn, 1) := by decide +kernel
theorem dX6_isAhead_0 : decode cX6_isAhead 0 = .ok (.aload_n 1, 1) := by decide +kernel
theorem dX6_isAhead_1 : decode cX6_isAhead 1 = .ok (.bipush 27, 2) := by decide +kernel
theorem dX6_isAhead_3 : decode cX6_isAhead 3 = .ok (.iload_n 2, 1) := by decide +kernel
theorem dX6_isAhead_4 : decode cX6_isAhead 4 = .ok (.iadd, 1) := by decide +kernel
theorem dX6_isAhead_5 : decode cX6_isAhead 5 = .ok (.iaload, 1) := by decide +kernel
theorem dX6_isAhead_6 : decode cX6_isAhead 6 = .ok (.aload_n 1, 1) := by decide +kernel
theorem dX6_isAhead_7 : decode cX6_isAhead 7 = .ok (.bipush 27, 2) := by decide +kernel
theorem dX6_isAhead_9 : decode cX6_isAhead 9 = .ok (.iload_n 3, 1) := by decide +kernel
theorem dX6_isAhead_10 : decode cX6_isAhead 10 = .ok (.iadd, 1) := by decide +kernel
theorem dX6_isAhead_11 : decode cX6_isAhead 11 = .ok (.iaload, 1) := by decide +kernel
theorem dX6_isAhead_12 : decode cX6_isAhead 12 = .ok (.if_icmp .eq 19, 3) := by decide +kernel
theorem dX6_isAhead_15 : decode cX6_isAhead 15 = .ok (.aload_n 1, 1) := by decide +kernel
theorem dX6_isAhead_16 : decode cX6_isAhead 16 = .ok (.bipush 27, 2) := by decide +kernel
theorem dX6_isAhead_18 : decode cX6_isAhead 18 = .ok (.iload_n 2, 1) := by decide +kernel
theorem dX6_isAhead_19 : decode cX6_isAhead 19 = .ok (.iadd, 1) := by decide +kernel
theorem dX6_isAhead_20 : decode cX6_isAhead 20 = .ok (.iaload, 1) := by decide +kernel
theorem dX6_isAhead_21 : decode cX6_isAhead 21 = .ok (.iconst 1, 1) := by decide +kernel
theorem dX6_isAhead_22 : decode cX6_isAhead 22 = .ok (.if_icmp .ne 7, 3) := by decide +kernel
theorem dX6_isAhead_25 : decode cX6_isAhead 25 = .ok (.iconst 1, 1) := by decide +kernel
theorem dX6_isAhead_26 : decode cX6_isAhead 26 = .ok (.goto 4, 3) := by decide +kernel
theorem dX6_isAhead_29 : decode cX6_isAhead 29 = .ok (.iconst 0, 1) := by decide +kernel
theorem dX6_isAhead_30 : decode cX6_isAhead 30 = .ok (.ireturn, 1) := by decide +kernel
theorem dX6_isAhead_31 : decode cX6_isAhead 31 = .ok (.iconst 4, 1) := by decide +kernel
theorem dX6_isAhead_32 : decode cX6_isAhead 32 = .ok (.aload_n 0, 1) := by decide +kernel
theorem dX6_isAhead_33 : decode cX6_isAhead 33 = .ok (.getfield 13, 3) := by decide +kernel
theorem dX6_isAhead_36 : decode cX6_isAhead 36 = .ok (.bipush 12, 2) := by decide +kernel
theorem dX6_isAhead_38 : decode cX6_isAhead 38 = .ok (.iload_n 2, 1) := by decide +kernel
theorem dX6_isAhead_39 : decode cX6_isAhead 39 = .ok (.iadd, 1) := by decide +kernel
theorem dX6_isAhead_40 : decode cX6_isAhead 40 = .ok (.iaload, 1) := by decide +kernel
theorem dX6_isAhead_41 : decode cX6_isAhead 41 = .ok (.imul, 1) := by decide +kernel
theorem dX6_isAhead_42 : decode cX6_isAhead 42 = .ok (.aload_n 1, 1) := by decide +kernel
theorem dX6_isAhead_43 : decode cX6_isAhead 43 = .ok (.bipush 20, 2) := by decide +kernel
theorem dX6_isAhead_45 : decode cX6_isAhead 45 = .ok (.iload_n 2, 1) := by decide +kernel
theorem dX6_isAhead_46 : decode cX6_isAhead 46 = .ok (.iadd, 1) := by decide +kernel
theorem dX6_isAhead_47 : decode cX6_isAhead 47 = .ok (.iaload, 1) := by decide +kernel
theorem dX6_isAhead_48 : decode cX6_isAhead 48 = .ok (.iadd, 1) := by decide +kernel
theorem dX6_isAhead_49 : decode cX6_isAhead 49 = .ok (.istore 4, 2) := by decide +kernel
theorem dX6_isAhead_51 : decode cX6_isAhead 51 = .ok (.iconst 4, 1) := by decide +kernel
theorem dX6_isAhead_52 : decode cX6_isAhead 52 = .ok (.aload_n 0, 1) := by decide +kernel
theorem dX6_isAhead_53 : decode cX6_isAhead 53 = .ok (.getfield 13, 3) := by decide +kernel
theorem dX6_isAhead_56 : decode cX6_isAhead 56 = .ok (.bipush 12, 2) := by decide +kernel
theorem dX6_isAhead_58 : decode cX6_isAhead 58 = .ok (.iload_n 3, 1) := by decide +kernel
theorem dX6_isAhead_59 : decode cX6_isAhead 59 = .ok (.iadd, 1) := by decide +kernel
theorem dX6_isAhead_60 : decode cX6_isAhead 60 = .ok (.iaload, 1) := by decide +kernel
theorem dX6_isAhead_61 : decode cX6_isAhead 61 = .ok (.imul, 1) := by decide +kernel
theorem dX6_isAhead_62 : decode cX6_isAhead 62 = .ok (.aload_n 1, 1) := by decide +kernel
theorem dX6_isAhead_63 : decode cX6_isAhead 63 = .ok (.bipush 20, 2) := by decide +kernel
theorem dX6_isAhead_65 : decode cX6_isAhead 65 = .ok (.iload_n 3, 1) := by decide +kernel
theorem dX6_isAhead_66 : decode cX6_isAhead 66 = .ok (.iadd, 1) := by decide +kernel
theorem dX6_isAhead_67 : decode cX6_isAhead 67 = .ok (.iaload, 1) := by decide +kernel
theorem dX6_isAhead_68 : decode cX6_isAhead 68 = .ok (.iadd, 1) := by decide +kernel
theorem dX6_isAhead_69 : decode cX6_isAhead 69 = .ok (.istore 5, 2) := by decide +kernel
theorem dX6_isAhead_71 : decode cX6_isAhead 71 = .ok (.iload 4, 2) := by decide +kernel
theorem dX6_isAhead_73 : decode cX6_isAhead 73 = .ok (.iload 5, 2) := by decide +kernel
theorem dX6_isAhead_75 : decode cX6_isAhead 75 = .ok (.if_icmp .gt 15, 3) := by decide +kernel
theorem dX6_isAhead_78 : decode cX6_isAhead 78 = .ok (.iload 4, 2) := by decide +kernel
theorem dX6_isAhead_80 : decode cX6_isAhead 80 = .ok (.iload 5, 2) := by decide +kernel
theorem dX6_isAhead_82 : decode cX6_isAhead 82 = .ok (.if_icmp .ne 12, 3) := by decide +kernel
theorem dX6_isAhead_85 : decode cX6_isAhead 85 = .ok (.iload_n 2, 1) := by decide +kernel
theorem dX6_isAhead_86 : decode cX6_isAhead 86 = .ok (.iload_n 3, 1) := by decide +kernel
theorem dX6_isAhead_87 : decode cX6_isAhead 87 = .ok (.if_icmp .ge 7, 3) := by decide +kernel
theorem dX6_isAhead_90 : decode cX6_isAhead 90 = .ok (.iconst 1, 1) := by decide +kernel
theorem dX6_isAhead_91 : decode cX6_isAhead 91 = .ok (.goto 4, 3) := by decide +kernel
theorem dX6_isAhead_94 : decode cX6_isAhead 94 = .ok (.iconst 0, 1) := by decide +kernel
theorem dX6_isAhead_95 : decode cX6_isAhead 95 = .ok (.ireturn, 1) := by decide +kernel
theorem dX6_lines_0 : decode cX6_lines 0 = .ok (.aload_n 0, 1) := by decide +kernel
theorem dX6_lines_1 : decode cX6_lines 1 = .ok (.iconst 0, 1) := by decide +kernel
theorem dX6_lines_2 : decode cX6_lines 2 = .ok (.putfield 143, 3) := by decide +kernel
theorem dX6_lines_5 : decode cX6_lines 5 = .ok (.iconst 0, 1) := by decide +kernel
theorem dX6_lines_6 : decode cX6_lines 6 = .ok (.istore_n 2, 1) := by decide +kernel
theorem dX6_lines_7 : decode cX6_lines 7 = .ok (.iload_n 2, 1) := by decide +kernel
theorem dX6_lines_8 : decode cX6_lines 8 = .ok (.aload_n 0, 1) := by decide +kernel
theorem dX6_lines_9 : decode cX6_lines 9 = .ok (.getfield 13, 3) := by decide +kernel
theorem dX6_lines_12 : decode cX6_lines 12 = .ok (.iconst 0, 1) := by decide +kernel
theorem dX6_lines_13 : decode cX6_lines 13 = .ok (.iaload, 1) := by decide +kernel
theorem dX6_lines_14 : decode cX6_lines 14 = .ok (.if_icmp .ge 82, 3) := by decide +kernel
theorem dX6_lines_17 : decode cX6_lines 17 = .ok (.aload_n 1, 1) := by decide +kernel
theorem dX6_lines_18 : decode cX6_lines 18 = .ok (.bipush 13, 2) := by decide +kernel
theorem dX6_lines_20 : decode cX6_lines 20 = .ok (.iload_n 2, 1) := by decide +kernel
theorem dX6_lines_21 : decode cX6_lines 21 = .ok (.iadd, 1) := by decide +kernel
theorem dX6_lines_22 : decode cX6_lines 22 = .ok (.iaload, 1) := by decide +kernel
theorem dX6_lines_23 : decode cX6_lines 23 = .ok (.iconst 3, 1) := by decide +kernel
theorem dX6_lines_24 : decode cX6_lines 24 = .ok (.if_icmp .ne 66, 3) := by decide +kernel
theorem dX6_lines_27 : decode cX6_lines 27 = .ok (.aload_n 0, 1) := by decide +kernel
theorem dX6_lines_28 : decode cX6_lines 28 = .ok (.getfield 143, 3) := by decide +kernel
theorem dX6_lines_31 : decode cX6_lines 31 = .ok (.istore_n 3, 1) := by decide +kernel
theorem dX6_lines_32 : decode cX6_lines 32 = .ok (.iload_n 3, 1) := by decide +kernel
theorem dX6_lines_33 : decode cX6_lines 33 = .ok (.ifCond .le 40, 3) := by decide +kernel
theorem dX6_lines_36 : decode cX6_lines 36 = .ok (.aload_n 0, 1) := by decide +kernel
theorem dX6_lines_37 : decode cX6_lines 37 = .ok (.aload_n 1, 1) := by decide +kernel
theorem dX6_lines_38 : decode cX6_lines 38 = .ok (.iload_n 2, 1) := by decide +kernel
theorem dX6_lines_39 : decode cX6_lines 39 = .ok (.aload_n 0, 1) := by decide +kernel
theorem dX6_lines_40 : decode cX6_lines 40 = .ok (.getfield 44, 3) := by decide +kernel
theorem dX6_lines_43 : decode cX6_lines 43 = .ok (.iload_n 3, 1) := by decide +kernel
theorem dX6_lines_44 : decode cX6_lines 44 = .ok (.iconst 1, 1) := by decide +kernel
theorem dX6_lines_45 : decode cX6_lines 45 = .ok (.isub, 1) := by decide +kernel
theorem dX6_lines_46 : decode cX6_lines 46 = .ok (.iaload, 1) := by decide +kernel
theorem dX6_lines_47 : decode cX6_lines 47 = .ok (.invokevirtual 146, 3) := by decide +kernel
theorem dX6_lines_50 : decode cX6_lines 50 = .ok (.ifCond .eq 23, 3) := by decide +kernel
theorem dX6_lines_53 : decode cX6_lines 53 = .ok (.aload_n 0, 1) := by decide +kernel
theorem dX6_lines_54 : decode cX6_lines 54 = .ok (.getfield 44, 3) := by decide +kernel
theorem dX6_lines_57 : decode cX6_lines 57 = .ok (.iload_n 3, 1) := by decide +kernel
theorem dX6_lines_58 : decode cX6_lines 58 = .ok (.aload_n 0, 1) := by decide +kernel
theorem dX6_lines_59 : decode cX6_lines 59 = .ok (.getfield 44, 3) := by decide +kernel
theorem dX6_lines_62 : decode cX6_lines 62 = .ok (.iload_n 3, 1) := by decide +kernel
theorem dX6_lines_63 : decode cX6_lines 63 = .ok (.iconst 1, 1) := by decide +kernel
theorem dX6_lines_64 : decode cX6_lines 64 = .ok (.isub, 1) := by decide +kernel
theorem dX6_lines_65 : decode cX6_lines 65 = .ok (.iaload, 1) := by decide +kernel
theorem dX6_lines_66 : decode cX6_lines 66 = .ok (.iastore, 1) := by decide +kernel
theorem dX6_lines_67 : decode cX6_lines 67 = .ok (.iinc 3 (-1), 3) := by decide +kernel
theorem dX6_lines_70 : decode cX6_lines 70 = .ok (.goto (-38), 3) := by decide +kernel
theorem dX6_lines_73 : decode cX6_lines 73 = .ok (.aload_n 0, 1) := by decide +kernel
theorem dX6_lines_74 : decode cX6_lines 74 = .ok (.getfield 44, 3) := by decide +kernel
theorem dX6_lines_77 : decode cX6_lines 77 = .ok (.iload_n 3, 1) := by decide +kernel
theorem dX6_lines_78 : decode cX6_lines 78 = .ok (.iload_n 2, 1) := by decide +kernel
theorem dX6_lines_79 : decode cX6_lines 79 = .ok (.iastore, 1) := by decide +kernel
theorem dX6_lines_80 : decode cX6_lines 80 = .ok (.aload_n 0, 1) := by decide +kernel
theorem dX6_lines_81 : decode cX6_lines 81 = .ok (.dup, 1) := by decide +kernel
theorem dX6_lines_82 : decode cX6_lines 82 = .ok (.getfield 143, 3) := by decide +kernel
theorem dX6_lines_85 : decode cX6_lines 85 = .ok (.iconst 1, 1) := by decide +kernel
theorem dX6_lines_86 : decode cX6_lines 86 = .ok (.iadd, 1) := by decide +kernel
theorem dX6_lines_87 : decode cX6_lines 87 = .ok (.putfield 143, 3) := by decide +kernel
theorem dX6_lines_90 : decode cX6_lines 90 = .ok (.iinc 2 1, 3) := by decide +kernel
theorem dX6_lines_93 : decode cX6_lines 93 = .ok (.goto (-86), 3) := by decide +kernel
theorem dX6_lines_96 : decode cX6_lines 96 = .ok (.return_, 1) := by decide +kernel
theorem dX6_neededBy_0 : decode cX6_neededBy 0 = .ok (.iconst 1, 1) := by decide +kernel
theorem dX6_neededBy_1 : decode cX6_neededBy 1 = .ok (.aload_n 1, 1) := by decide +kernel
theorem dX6_neededBy_2 : decode cX6_neededBy 2 = .ok (.bipush 6, 2) := by decide +kernel
theorem dX6_neededBy_4 : decode cX6_neededBy 4 = .ok (.iload_n 2, 1) := by decide +kernel
theorem dX6_neededBy_5 : decode cX6_neededBy 5 = .ok (.iadd, 1) := by decide +kernel
theorem dX6_neededBy_6 : decode cX6_neededBy 6 = .ok (.iaload, 1) := by decide +kernel
theorem dX6_neededBy_7 : decode cX6_neededBy 7 = .ok (.isub, 1) := by decide +kernel
theorem dX6_neededBy_8 : decode cX6_neededBy 8 = .ok (.istore_n 3, 1) := by decide +kernel
theorem dX6_neededBy_9 : decode cX6_neededBy 9 = .ok (.iconst 0, 1) := by decide +kernel
theorem dX6_neededBy_10 : decode cX6_neededBy 10 = .ok (.istore 4, 2) := by decide +kernel
theorem dX6_neededBy_12 : decode cX6_neededBy 12 = .ok (.iconst 0, 1) := by decide +kernel
theorem dX6_neededBy_13 : decode cX6_neededBy 13 = .ok (.istore 5, 2) := by decide +kernel
theorem dX6_neededBy_15 : decode cX6_neededBy 15 = .ok (.iload 5, 2) := by decide +kernel
theorem dX6_neededBy_17 : decode cX6_neededBy 17 = .ok (.aload_n 0, 1) := by decide +kernel
theorem dX6_neededBy_18 : decode cX6_neededBy 18 = .ok (.getfield 13, 3) := by decide +kernel
theorem dX6_neededBy_21 : decode cX6_neededBy 21 = .ok (.iconst 0, 1) := by decide +kernel
theorem dX6_neededBy_22 : decode cX6_neededBy 22 = .ok (.iaload, 1) := by decide +kernel
theorem dX6_neededBy_23 : decode cX6_neededBy 23 = .ok (.if_icmp .ge 52, 3) := by decide +kernel
theorem dX6_neededBy_26 : decode cX6_neededBy 26 = .ok (.iload 4, 2) := by decide +kernel
theorem dX6_neededBy_28 : decode cX6_neededBy 28 = .ok (.ifCond .ne 34, 3) := by decide +kernel
theorem dX6_neededBy_31 : decode cX6_neededBy 31 = .ok (.aload_n 0, 1) := by decide +kernel
theorem dX6_neededBy_32 : decode cX6_neededBy 32 = .ok (.getfield 13, 3) := by decide +kernel
theorem dX6_neededBy_35 : decode cX6_neededBy 35 = .ok (.iconst 5, 1) := by decide +kernel
theorem dX6_neededBy_36 : decode cX6_neededBy 36 = .ok (.iload 5, 2) := by decide +kernel
theorem dX6_neededBy_38 : decode cX6_neededBy 38 = .ok (.iadd, 1) := by decide +kernel
theorem dX6_neededBy_39 : decode cX6_neededBy 39 = .ok (.iaload, 1) := by decide +kernel
theorem dX6_neededBy_40 : decode cX6_neededBy 40 = .ok (.aload_n 0, 1) := by decide +kernel
theorem dX6_neededBy_41 : decode cX6_neededBy 41 = .ok (.getfield 13, 3) := by decide +kernel
theorem dX6_neededBy_44 : decode cX6_neededBy 44 = .ok (.iconst 5, 1) := by decide +kernel
theorem dX6_neededBy_45 : decode cX6_neededBy 45 = .ok (.iload_n 2, 1) := by decide +kernel
theorem dX6_neededBy_46 : decode cX6_neededBy 46 = .ok (.iadd, 1) := by decide +kernel
theorem dX6_neededBy_47 : decode cX6_neededBy 47 = .ok (.iaload, 1) := by decide +kernel
theorem dX6_neededBy_48 : decode cX6_neededBy 48 = .ok (.if_icmp .ne 18, 3) := by decide +kernel
theorem dX6_neededBy_51 : decode cX6_neededBy 51 = .ok (.aload_n 1, 1) := by decide +kernel
theorem dX6_neededBy_52 : decode cX6_neededBy 52 = .ok (.bipush 6, 2) := by decide +kernel
theorem dX6_neededBy_54 : decode cX6_neededBy 54 = .ok (.iload 5, 2) := by decide +kernel
theorem dX6_neededBy_56 : decode cX6_neededBy 56 = .ok (.iadd, 1) := by decide +kernel
theorem dX6_neededBy_57 : decode cX6_neededBy 57 = .ok (.iaload, 1) := by decide +kernel
theorem dX6_neededBy_58 : decode cX6_neededBy 58 = .ok (.iload_n 3, 1) := by decide +kernel
theorem dX6_neededBy_59 : decode cX6_neededBy 59 = .ok (.if_icmp .ne 7, 3) := by decide +kernel
theorem dX6_neededBy_62 : decode cX6_neededBy 62 = .ok (.iconst 1, 1) := by decide +kernel
theorem dX6_neededBy_63 : decode cX6_neededBy 63 = .ok (.goto 4, 3) := by decide +kernel
theorem dX6_neededBy_66 : decode cX6_neededBy 66 = .ok (.iconst 0, 1) := by decide +kernel
theorem dX6_neededBy_67 : decode cX6_neededBy 67 = .ok (.istore 4, 2) := by decide +kernel
theorem dX6_neededBy_69 : decode cX6_neededBy 69 = .ok (.iinc 5 1, 3) := by decide +kernel
theorem dX6_neededBy_72 : decode cX6_neededBy 72 = .ok (.goto (-57), 3) := by decide +kernel
theorem dX6_neededBy_75 : decode cX6_neededBy 75 = .ok (.iconst 1, 1) := by decide +kernel
theorem dX6_neededBy_76 : decode cX6_neededBy 76 = .ok (.aload_n 1, 1) := by decide +kernel
theorem dX6_neededBy_77 : decode cX6_neededBy 77 = .ok (.bipush 6, 2) := by decide +kernel
theorem dX6_neededBy_79 : decode cX6_neededBy 79 = .ok (.iload_n 2, 1) := by decide +kernel
theorem dX6_neededBy_80 : decode cX6_neededBy 80 = .ok (.iadd, 1) := by decide +kernel
theorem dX6_neededBy_81 : decode cX6_neededBy 81 = .ok (.iaload, 1) := by decide +kernel
theorem dX6_neededBy_82 : decode cX6_neededBy 82 = .ok (.ishl, 1) := by decide +kernel
theorem dX6_neededBy_83 : decode cX6_neededBy 83 = .ok (.iload 4, 2) := by decide +kernel
theorem dX6_neededBy_85 : decode cX6_neededBy 85 = .ok (.ifCond .eq 17, 3) := by decide +kernel
theorem dX6_neededBy_88 : decode cX6_neededBy 88 = .ok (.aload_n 1, 1) := by decide +kernel
theorem dX6_neededBy_89 : decode cX6_neededBy 89 = .ok (.iconst 0, 1) := by decide +kernel
theorem dX6_neededBy_90 : decode cX6_neededBy 90 = .ok (.iload_n 3, 1) := by decide +kernel
theorem dX6_neededBy_91 : decode cX6_neededBy 91 = .ok (.iadd, 1) := by decide +kernel
theorem dX6_neededBy_92 : decode cX6_neededBy 92 = .ok (.iaload, 1) := by decide +kernel
theorem dX6_neededBy_93 : decode cX6_neededBy 93 = .ok (.ifCond .ge 9, 3) := by decide +kernel
theorem dX6_neededBy_96 : decode cX6_neededBy 96 = .ok (.iconst 1, 1) := by decide +kernel
theorem dX6_neededBy_97 : decode cX6_neededBy 97 = .ok (.iload_n 3, 1) := by decide +kernel
theorem dX6_neededBy_98 : decode cX6_neededBy 98 = .ok (.ishl, 1) := by decide +kernel
theorem dX6_neededBy_99 : decode cX6_neededBy 99 = .ok (.goto 4, 3) := by decide +kernel
theorem dX6_neededBy_102 : decode cX6_neededBy 102 = .ok (.iconst 0, 1) := by decide +kernel
theorem dX6_neededBy_103 : decode cX6_neededBy 103 = .ok (.ior, 1) := by decide +kernel
theorem dX6_neededBy_104 : decode cX6_neededBy 104 = .ok (.ireturn, 1) := by decide +kernel
theorem dX6_leastAt_0 : decode cX6_leastAt 0 = .ok (.bipush (-9), 2) := by decide +kernel
theorem dX6_leastAt_2 : decode cX6_leastAt 2 = .ok (.istore_n 3, 1) := by decide +kernel
theorem dX6_leastAt_3 : decode cX6_leastAt 3 = .ok (.iconst 0, 1) := by decide +kernel
theorem dX6_leastAt_4 : decode cX6_leastAt 4 = .ok (.istore 4, 2) := by decide +kernel
theorem dX6_leastAt_6 : decode cX6_leastAt 6 = .ok (.iload 4, 2) := by decide +kernel
theorem dX6_leastAt_8 : decode cX6_leastAt 8 = .ok (.aload_n 0, 1) := by decide +kernel
theorem dX6_leastAt_9 : decode cX6_leastAt 9 = .ok (.getfield 13, 3) := by decide +kernel
theorem dX6_leastAt_12 : decode cX6_leastAt 12 = .ok (.iconst 0, 1) := by decide +kernel
theorem dX6_leastAt_13 : decode cX6_leastAt 13 = .ok (.iaload, 1) := by decide +kernel
theorem dX6_leastAt_14 : decode cX6_leastAt 14 = .ok (.if_icmp .ge 91, 3) := by decide +kernel
theorem dX6_leastAt_17 : decode cX6_leastAt 17 = .ok (.aload_n 1, 1) := by decide +kernel
theorem dX6_leastAt_18 : decode cX6_leastAt 18 = .ok (.bipush 13, 2) := by decide +kernel
theorem dX6_leastAt_20 : decode cX6_leastAt 20 = .ok (.iload 4, 2) := by decide +kernel
theorem dX6_leastAt_22 : decode cX6_leastAt 22 = .ok (.iadd, 1) := by decide +kernel
theorem dX6_leastAt_23 : decode cX6_leastAt 23 = .ok (.iaload, 1) := by decide +kernel
theorem dX6_leastAt_24 : decode cX6_leastAt 24 = .ok (.iconst 4, 1) := by decide +kernel
theorem dX6_leastAt_25 : decode cX6_leastAt 25 = .ok (.if_icmp .ne 31, 3) := by decide +kernel
theorem dX6_leastAt_28 : decode cX6_leastAt 28 = .ok (.aload_n 1, 1) := by decide +kernel
theorem dX6_leastAt_29 : decode cX6_leastAt 29 = .ok (.bipush 27, 2) := by decide +kernel
theorem dX6_leastAt_31 : decode cX6_leastAt 31 = .ok (.iload 4, 2) := by decide +kernel
theorem dX6_leastAt_33 : decode cX6_leastAt 33 = .ok (.iadd, 1) := by decide +kernel
theorem dX6_leastAt_34 : decode cX6_leastAt 34 = .ok (.iaload, 1) := by decide +kernel
theorem dX6_leastAt_35 : decode cX6_leastAt 35 = .ok (.ifCond .ne 21, 3) := by decide +kernel
theorem dX6_leastAt_38 : decode cX6_leastAt 38 = .ok (.aload_n 1, 1) := by decide +kernel
theorem dX6_leastAt_39 : decode cX6_leastAt 39 = .ok (.bipush 34, 2) := by decide +kernel
theorem dX6_leastAt_41 : decode cX6_leastAt 41 = .ok (.iload 4, 2) := by decide +kernel
theorem dX6_leastAt_43 : decode cX6_leastAt 43 = .ok (.iadd, 1) := by decide +kernel
theorem dX6_leastAt_44 : decode cX6_leastAt 44 = .ok (.iaload, 1) := by decide +kernel
theorem dX6_leastAt_45 : decode cX6_leastAt 45 = .ok (.iload_n 2, 1) := by decide +kernel
theorem dX6_leastAt_46 : decode cX6_leastAt 46 = .ok (.invokestatic 139, 3) := by decide +kernel
theorem dX6_leastAt_49 : decode cX6_leastAt 49 = .ok (.ifCond .eq 7, 3) := by decide +kernel
theorem dX6_leastAt_52 : decode cX6_leastAt 52 = .ok (.iconst 1, 1) := by decide +kernel
theorem dX6_leastAt_53 : decode cX6_leastAt 53 = .ok (.goto 4, 3) := by decide +kernel
theorem dX6_leastAt_56 : decode cX6_leastAt 56 = .ok (.iconst 0, 1) := by decide +kernel
theorem dX6_leastAt_57 : decode cX6_leastAt 57 = .ok (.istore 5, 2) := by decide +kernel
theorem dX6_leastAt_59 : decode cX6_leastAt 59 = .ok (.iload 5, 2) := by decide +kernel
theorem dX6_leastAt_61 : decode cX6_leastAt 61 = .ok (.ifCond .eq 36, 3) := by decide +kernel
theorem dX6_leastAt_64 : decode cX6_leastAt 64 = .ok (.iload_n 3, 1) := by decide +kernel
theorem dX6_leastAt_65 : decode cX6_leastAt 65 = .ok (.bipush (-9), 2) := by decide +kernel
theorem dX6_leastAt_67 : decode cX6_leastAt 67 = .ok (.if_icmp .eq 25, 3) := by decide +kernel
theorem dX6_leastAt_70 : decode cX6_leastAt 70 = .ok (.aload_n 0, 1) := by decide +kernel
theorem dX6_leastAt_71 : decode cX6_leastAt 71 = .ok (.getfield 13, 3) := by decide +kernel
theorem dX6_leastAt_74 : decode cX6_leastAt 74 = .ok (.bipush 12, 2) := by decide +kernel
theorem dX6_leastAt_76 : decode cX6_leastAt 76 = .ok (.iload 4, 2) := by decide +kernel
theorem dX6_leastAt_78 : decode cX6_leastAt 78 = .ok (.iadd, 1) := by decide +kernel
theorem dX6_leastAt_79 : decode cX6_leastAt 79 = .ok (.iaload, 1) := by decide +kernel
theorem dX6_leastAt_80 : decode cX6_leastAt 80 = .ok (.aload_n 0, 1) := by decide +kernel
theorem dX6_leastAt_81 : decode cX6_leastAt 81 = .ok (.getfield 13, 3) := by decide +kernel
theorem dX6_leastAt_84 : decode cX6_leastAt 84 = .ok (.bipush 12, 2) := by decide +kernel
theorem dX6_leastAt_86 : decode cX6_leastAt 86 = .ok (.iload_n 3, 1) := by decide +kernel
theorem dX6_leastAt_87 : decode cX6_leastAt 87 = .ok (.iadd, 1) := by decide +kernel
theorem dX6_leastAt_88 : decode cX6_leastAt 88 = .ok (.iaload, 1) := by decide +kernel
theorem dX6_leastAt_89 : decode cX6_leastAt 89 = .ok (.if_icmp .gt 8, 3) := by decide +kernel
theorem dX6_leastAt_92 : decode cX6_leastAt 92 = .ok (.iload 4, 2) := by decide +kernel
theorem dX6_leastAt_94 : decode cX6_leastAt 94 = .ok (.goto 4, 3) := by decide +kernel
theorem dX6_leastAt_97 : decode cX6_leastAt 97 = .ok (.iload_n 3, 1) := by decide +kernel
theorem dX6_leastAt_98 : decode cX6_leastAt 98 = .ok (.istore_n 3, 1) := by decide +kernel
theorem dX6_leastAt_99 : decode cX6_leastAt 99 = .ok (.iinc 4 1, 3) := by decide +kernel
theorem dX6_leastAt_102 : decode cX6_leastAt 102 = .ok (.goto (-96), 3) := by decide +kernel
theorem dX6_leastAt_105 : decode cX6_leastAt 105 = .ok (.iload_n 3, 1) := by decide +kernel
theorem dX6_leastAt_106 : decode cX6_leastAt 106 = .ok (.ireturn, 1) := by decide +kernel
theorem dX6_isFree_0 : decode cX6_isFree 0 = .ok (.iload_n 2, 1) := by decide +kernel
theorem dX6_isFree_1 : decode cX6_isFree 1 = .ok (.iconst 0, 1) := by decide +kernel
theorem dX6_isFree_2 : decode cX6_isFree 2 = .ok (.invokestatic 139, 3) := by decide +kernel
theorem dX6_isFree_5 : decode cX6_isFree 5 = .ok (.ifCond .eq 12, 3) := by decide +kernel
theorem dX6_isFree_8 : decode cX6_isFree 8 = .ok (.aload_n 0, 1) := by decide +kernel
theorem dX6_isFree_9 : decode cX6_isFree 9 = .ok (.aload_n 1, 1) := by decide +kernel
theorem dX6_isFree_10 : decode cX6_isFree 10 = .ok (.iconst 0, 1) := by decide +kernel
theorem dX6_isFree_11 : decode cX6_isFree 11 = .ok (.invokevirtual 149, 3) := by decide +kernel
theorem dX6_isFree_14 : decode cX6_isFree 14 = .ok (.ifCond .le 24, 3) := by decide +kernel
theorem dX6_isFree_17 : decode cX6_isFree 17 = .ok (.iload_n 2, 1) := by decide +kernel
theorem dX6_isFree_18 : decode cX6_isFree 18 = .ok (.iconst 1, 1) := by decide +kernel
theorem dX6_isFree_19 : decode cX6_isFree 19 = .ok (.invokestatic 139, 3) := by decide +kernel
theorem dX6_isFree_22 : decode cX6_isFree 22 = .ok (.ifCond .eq 12, 3) := by decide +kernel
theorem dX6_isFree_25 : decode cX6_isFree 25 = .ok (.aload_n 0, 1) := by decide +kernel
theorem dX6_isFree_26 : decode cX6_isFree 26 = .ok (.aload_n 1, 1) := by decide +kernel
theorem dX6_isFree_27 : decode cX6_isFree 27 = .ok (.iconst 1, 1) := by decide +kernel
theorem dX6_isFree_28 : decode cX6_isFree 28 = .ok (.invokevirtual 149, 3) := by decide +kernel
theorem dX6_isFree_31 : decode cX6_isFree 31 = .ok (.ifCond .le 7, 3) := by decide +kernel
theorem dX6_isFree_34 : decode cX6_isFree 34 = .ok (.iconst 1, 1) := by decide +kernel
theorem dX6_isFree_35 : decode cX6_isFree 35 = .ok (.goto 4, 3) := by decide +kernel
theorem dX6_isFree_38 : decode cX6_isFree 38 = .ok (.iconst 0, 1) := by decide +kernel
theorem dX6_isFree_39 : decode cX6_isFree 39 = .ok (.ireturn, 1) := by decide +kernel
theorem dX6_takesOver_0 : decode cX6_takesOver 0 = .ok (.iconst 1, 1) := by decide +kernel
theorem dX6_takesOver_1 : decode cX6_takesOver 1 = .ok (.istore_n 3, 1) := by decide +kernel
theorem dX6_takesOver_2 : decode cX6_takesOver 2 = .ok (.iconst 0, 1) := by decide +kernel
theorem dX6_takesOver_3 : decode cX6_takesOver 3 = .ok (.istore 4, 2) := by decide +kernel
theorem dX6_takesOver_5 : decode cX6_takesOver 5 = .ok (.iload 4, 2) := by decide +kernel
theorem dX6_takesOver_7 : decode cX6_takesOver 7 = .ok (.iconst 2, 1) := by decide +kernel
theorem dX6_takesOver_8 : decode cX6_takesOver 8 = .ok (.if_icmp .ge 50, 3) := by decide +kernel
theorem dX6_takesOver_11 : decode cX6_takesOver 11 = .ok (.iload_n 3, 1) := by decide +kernel
theorem dX6_takesOver_12 : decode cX6_takesOver 12 = .ok (.ifCond .eq 38, 3) := by decide +kernel
theorem dX6_takesOver_15 : decode cX6_takesOver 15 = .ok (.iload_n 2, 1) := by decide +kernel
theorem dX6_takesOver_16 : decode cX6_takesOver 16 = .ok (.iload 4, 2) := by decide +kernel
theorem dX6_takesOver_18 : decode cX6_takesOver 18 = .ok (.invokestatic 139, 3) := by decide +kernel
theorem dX6_takesOver_21 : decode cX6_takesOver 21 = .ok (.ifCond .eq 25, 3) := by decide +kernel
theorem dX6_takesOver_24 : decode cX6_takesOver 24 = .ok (.aload_n 0, 1) := by decide +kernel
theorem dX6_takesOver_25 : decode cX6_takesOver 25 = .ok (.aload_n 1, 1) := by decide +kernel
theorem dX6_takesOver_26 : decode cX6_takesOver 26 = .ok (.iload 4, 2) := by decide +kernel
theorem dX6_takesOver_28 : decode cX6_takesOver 28 = .ok (.invokevirtual 149, 3) := by decide +kernel
theorem dX6_takesOver_31 : decode cX6_takesOver 31 = .ok (.ifCond .gt 15, 3) := by decide +kernel
theorem dX6_takesOver_34 : decode cX6_takesOver 34 = .ok (.aload_n 0, 1) := by decide +kernel
theorem dX6_takesOver_35 : decode cX6_takesOver 35 = .ok (.aload_n 1, 1) := by decide +kernel
theorem dX6_takesOver_36 : decode cX6_takesOver 36 = .ok (.iload 4, 2) := by decide +kernel
theorem dX6_takesOver_38 : decode cX6_takesOver 38 = .ok (.invokevirtual 152, 3) := by decide +kernel
theorem dX6_takesOver_41 : decode cX6_takesOver 41 = .ok (.bipush (-9), 2) := by decide +kernel
theorem dX6_takesOver_43 : decode cX6_takesOver 43 = .ok (.if_icmp .eq 7, 3) := by decide +kernel
theorem dX6_takesOver_46 : decode cX6_takesOver 46 = .ok (.iconst 1, 1) := by decide +kernel
theorem dX6_takesOver_47 : decode cX6_takesOver 47 = .ok (.goto 4, 3) := by decide +kernel
theorem dX6_takesOver_50 : decode cX6_takesOver 50 = .ok (.iconst 0, 1) := by decide +kernel
theorem dX6_takesOver_51 : decode cX6_takesOver 51 = .ok (.istore_n 3, 1) := by decide +kernel
theorem dX6_takesOver_52 : decode cX6_takesOver 52 = .ok (.iinc 4 1, 3) := by decide +kernel
theorem dX6_takesOver_55 : decode cX6_takesOver 55 = .ok (.goto (-50), 3) := by decide +kernel
theorem dX6_takesOver_58 : decode cX6_takesOver 58 = .ok (.iconst 0, 1) := by decide +kernel
theorem dX6_takesOver_59 : decode cX6_takesOver 59 = .ok (.istore 4, 2) := by decide +kernel
theorem dX6_takesOver_61 : decode cX6_takesOver 61 = .ok (.iload 4, 2) := by decide +kernel
theorem dX6_takesOver_63 : decode cX6_takesOver 63 = .ok (.iconst 2, 1) := by decide +kernel
theorem dX6_takesOver_64 : decode cX6_takesOver 64 = .ok (.if_icmp .ge 43, 3) := by decide +kernel
theorem dX6_takesOver_67 : decode cX6_takesOver 67 = .ok (.iload_n 3, 1) := by decide +kernel
theorem dX6_takesOver_68 : decode cX6_takesOver 68 = .ok (.ifCond .eq 39, 3) := by decide +kernel
theorem dX6_takesOver_71 : decode cX6_takesOver 71 = .ok (.iload_n 2, 1) := by decide +kernel
theorem dX6_takesOver_72 : decode cX6_takesOver 72 = .ok (.iload 4, 2) := by decide +kernel
theorem dX6_takesOver_74 : decode cX6_takesOver 74 = .ok (.invokestatic 139, 3) := by decide +kernel
theorem dX6_takesOver_77 : decode cX6_takesOver 77 = .ok (.ifCond .eq 24, 3) := by decide +kernel
theorem dX6_takesOver_80 : decode cX6_takesOver 80 = .ok (.aload_n 0, 1) := by decide +kernel
theorem dX6_takesOver_81 : decode cX6_takesOver 81 = .ok (.aload_n 1, 1) := by decide +kernel
theorem dX6_takesOver_82 : decode cX6_takesOver 82 = .ok (.iload 4, 2) := by decide +kernel
theorem dX6_takesOver_84 : decode cX6_takesOver 84 = .ok (.invokevirtual 149, 3) := by decide +kernel
theorem dX6_takesOver_87 : decode cX6_takesOver 87 = .ok (.ifCond .gt 14, 3) := by decide +kernel
theorem dX6_takesOver_90 : decode cX6_takesOver 90 = .ok (.aload_n 1, 1) := by decide +kernel
theorem dX6_takesOver_91 : decode cX6_takesOver 91 = .ok (.aload_n 0, 1) := by decide +kernel
theorem dX6_takesOver_92 : decode cX6_takesOver 92 = .ok (.aload_n 1, 1) := by decide +kernel
theorem dX6_takesOver_93 : decode cX6_takesOver 93 = .ok (.iload 4, 2) := by decide +kernel
theorem dX6_takesOver_95 : decode cX6_takesOver 95 = .ok (.invokevirtual 152, 3) := by decide +kernel
theorem dX6_takesOver_98 : decode cX6_takesOver 98 = .ok (.invokestatic 155, 3) := by decide +kernel
theorem dX6_takesOver_101 : decode cX6_takesOver 101 = .ok (.iinc 4 1, 3) := by decide +kernel
theorem dX6_takesOver_104 : decode cX6_takesOver 104 = .ok (.goto (-43), 3) := by decide +kernel
theorem dX6_takesOver_107 : decode cX6_takesOver 107 = .ok (.return_, 1) := by decide +kernel
theorem dX6_serves_0 : decode cX6_serves 0 = .ok (.aload_n 0, 1) := by decide +kernel
theorem dX6_serves_1 : decode cX6_serves 1 = .ok (.aload_n 1, 1) := by decide +kernel
theorem dX6_serves_2 : decode cX6_serves 2 = .ok (.aload_n 0, 1) := by decide +kernel
theorem dX6_serves_3 : decode cX6_serves 3 = .ok (.getfield 13, 3) := by decide +kernel
theorem dX6_serves_6 : decode cX6_serves 6 = .ok (.iconst 5, 1) := by decide +kernel
theorem dX6_serves_7 : decode cX6_serves 7 = .ok (.iload_n 2, 1) := by decide +kernel
theorem dX6_serves_8 : decode cX6_serves 8 = .ok (.iadd, 1) := by decide +kernel
theorem dX6_serves_9 : decode cX6_serves 9 = .ok (.iaload, 1) := by decide +kernel
theorem dX6_serves_10 : decode cX6_serves 10 = .ok (.invokevirtual 159, 3) := by decide +kernel
theorem dX6_serves_13 : decode cX6_serves 13 = .ok (.istore_n 3, 1) := by decide +kernel
theorem dX6_serves_14 : decode cX6_serves 14 = .ok (.iload_n 3, 1) := by decide +kernel
theorem dX6_serves_15 : decode cX6_serves 15 = .ok (.bipush (-9), 2) := by decide +kernel
theorem dX6_serves_17 : decode cX6_serves 17 = .ok (.if_icmp .eq 28, 3) := by decide +kernel
theorem dX6_serves_20 : decode cX6_serves 20 = .ok (.aload_n 1, 1) := by decide +kernel
theorem dX6_serves_21 : decode cX6_serves 21 = .ok (.bipush 27, 2) := by decide +kernel
theorem dX6_serves_23 : decode cX6_serves 23 = .ok (.iload_n 2, 1) := by decide +kernel
theorem dX6_serves_24 : decode cX6_serves 24 = .ok (.iadd, 1) := by decide +kernel
theorem dX6_serves_25 : decode cX6_serves 25 = .ok (.iaload, 1) := by decide +kernel
theorem dX6_serves_26 : decode cX6_serves 26 = .ok (.ifCond .eq 13, 3) := by decide +kernel
theorem dX6_serves_29 : decode cX6_serves 29 = .ok (.aload_n 1, 1) := by decide +kernel
theorem dX6_serves_30 : decode cX6_serves 30 = .ok (.bipush 27, 2) := by decide +kernel
theorem dX6_serves_32 : decode cX6_serves 32 = .ok (.iload_n 3, 1) := by decide +kernel
theorem dX6_serves_33 : decode cX6_serves 33 = .ok (.iadd, 1) := by decide +kernel
theorem dX6_serves_34 : decode cX6_serves 34 = .ok (.iaload, 1) := by decide +kernel
theorem dX6_serves_35 : decode cX6_serves 35 = .ok (.iconst 1, 1) := by decide +kernel
theorem dX6_serves_36 : decode cX6_serves 36 = .ok (.if_icmp .ne 4, 3) := by decide +kernel
theorem dX6_serves_39 : decode cX6_serves 39 = .ok (.return_, 1) := by decide +kernel
theorem dX6_serves_40 : decode cX6_serves 40 = .ok (.aload_n 1, 1) := by decide +kernel
theorem dX6_serves_41 : decode cX6_serves 41 = .ok (.iload_n 3, 1) := by decide +kernel
theorem dX6_serves_42 : decode cX6_serves 42 = .ok (.invokestatic 155, 3) := by decide +kernel
theorem dX6_serves_45 : decode cX6_serves 45 = .ok (.aload_n 0, 1) := by decide +kernel
theorem dX6_serves_46 : decode cX6_serves 46 = .ok (.aload_n 1, 1) := by decide +kernel
theorem dX6_serves_47 : decode cX6_serves 47 = .ok (.iload_n 2, 1) := by decide +kernel
theorem dX6_serves_48 : decode cX6_serves 48 = .ok (.invokevirtual 162, 3) := by decide +kernel
theorem dX6_serves_51 : decode cX6_serves 51 = .ok (.istore 4, 2) := by decide +kernel
theorem dX6_serves_53 : decode cX6_serves 53 = .ok (.aload_n 0, 1) := by decide +kernel
theorem dX6_serves_54 : decode cX6_serves 54 = .ok (.aload_n 1, 1) := by decide +kernel
theorem dX6_serves_55 : decode cX6_serves 55 = .ok (.iload 4, 2) := by decide +kernel
theorem dX6_serves_57 : decode cX6_serves 57 = .ok (.invokevirtual 165, 3) := by decide +kernel
theorem dX6_serves_60 : decode cX6_serves 60 = .ok (.ifCond .ne 20, 3) := by decide +kernel
theorem dX6_serves_63 : decode cX6_serves 63 = .ok (.aload_n 1, 1) := by decide +kernel
theorem dX6_serves_64 : decode cX6_serves 64 = .ok (.bipush 27, 2) := by decide +kernel
theorem dX6_serves_66 : decode cX6_serves 66 = .ok (.iload_n 2, 1) := by decide +kernel
theorem dX6_serves_67 : decode cX6_serves 67 = .ok (.iadd, 1) := by decide +kernel
theorem dX6_serves_68 : decode cX6_serves 68 = .ok (.iaload, 1) := by decide +kernel
theorem dX6_serves_69 : decode cX6_serves 69 = .ok (.iconst 1, 1) := by decide +kernel
theorem dX6_serves_70 : decode cX6_serves 70 = .ok (.if_icmp .ne 10, 3) := by decide +kernel
theorem dX6_serves_73 : decode cX6_serves 73 = .ok (.aload_n 0, 1) := by decide +kernel
theorem dX6_serves_74 : decode cX6_serves 74 = .ok (.aload_n 1, 1) := by decide +kernel
theorem dX6_serves_75 : decode cX6_serves 75 = .ok (.iload 4, 2) := by decide +kernel
theorem dX6_serves_77 : decode cX6_serves 77 = .ok (.invokevirtual 169, 3) := by decide +kernel
theorem dX6_serves_80 : decode cX6_serves 80 = .ok (.aload_n 0, 1) := by decide +kernel
theorem dX6_serves_81 : decode cX6_serves 81 = .ok (.aload_n 1, 1) := by decide +kernel
theorem dX6_serves_82 : decode cX6_serves 82 = .ok (.iload 4, 2) := by decide +kernel
theorem dX6_serves_84 : decode cX6_serves 84 = .ok (.invokevirtual 165, 3) := by decide +kernel
theorem dX6_serves_87 : decode cX6_serves 87 = .ok (.ifCond .eq 25, 3) := by decide +kernel
theorem dX6_serves_90 : decode cX6_serves 90 = .ok (.aload_n 1, 1) := by decide +kernel
theorem dX6_serves_91 : decode cX6_serves 91 = .ok (.iload_n 2, 1) := by decide +kernel
theorem dX6_serves_92 : decode cX6_serves 92 = .ok (.iconst 4, 1) := by decide +kernel
theorem dX6_serves_93 : decode cX6_serves 93 = .ok (.iconst 0, 1) := by decide +kernel
theorem dX6_serves_94 : decode cX6_serves 94 = .ok (.invokestatic 135, 3) := by decide +kernel
theorem dX6_serves_97 : decode cX6_serves 97 = .ok (.aload_n 1, 1) := by decide +kernel
theorem dX6_serves_98 : decode cX6_serves 98 = .ok (.bipush 34, 2) := by decide +kernel
theorem dX6_serves_100 : decode cX6_serves 100 = .ok (.iload_n 2, 1) := by decide +kernel
theorem dX6_serves_101 : decode cX6_serves 101 = .ok (.iadd, 1) := by decide +kernel
theorem dX6_serves_102 : decode cX6_serves 102 = .ok (.iload 4, 2) := by decide +kernel
theorem dX6_serves_104 : decode cX6_serves 104 = .ok (.iastore, 1) := by decide +kernel
theorem dX6_serves_105 : decode cX6_serves 105 = .ok (.aload_n 1, 1) := by decide +kernel
theorem dX6_serves_106 : decode cX6_serves 106 = .ok (.iconst 3, 1) := by decide +kernel
theorem dX6_serves_107 : decode cX6_serves 107 = .ok (.dup2, 1) := by decide +kernel
theorem dX6_serves_108 : decode cX6_serves 108 = .ok (.iaload, 1) := by decide +kernel
theorem dX6_serves_109 : decode cX6_serves 109 = .ok (.iconst 1, 1) := by decide +kernel
theorem dX6_serves_110 : decode cX6_serves 110 = .ok (.iadd, 1) := by decide +kernel
theorem dX6_serves_111 : decode cX6_serves 111 = .ok (.iastore, 1) := by decide +kernel
theorem dX6_serves_112 : decode cX6_serves 112 = .ok (.return_, 1) := by decide +kernel
theorem dX6_goes_0 : decode cX6_goes 0 = .ok (.iconst 0, 1) := by decide +kernel
theorem dX6_goes_1 : decode cX6_goes 1 = .ok (.istore_n 2, 1) := by decide +kernel
theorem dX6_goes_2 : decode cX6_goes 2 = .ok (.iload_n 2, 1) := by decide +kernel
theorem dX6_goes_3 : decode cX6_goes 3 = .ok (.aload_n 0, 1) := by decide +kernel
theorem dX6_goes_4 : decode cX6_goes 4 = .ok (.getfield 13, 3) := by decide +kernel
theorem dX6_goes_7 : decode cX6_goes 7 = .ok (.iconst 0, 1) := by decide +kernel
theorem dX6_goes_8 : decode cX6_goes 8 = .ok (.iaload, 1) := by decide +kernel
theorem dX6_goes_9 : decode cX6_goes 9 = .ok (.if_icmp .ge 21, 3) := by decide +kernel
theorem dX6_goes_12 : decode cX6_goes 12 = .ok (.aload_n 0, 1) := by decide +kernel
theorem dX6_goes_13 : decode cX6_goes 13 = .ok (.getfield 47, 3) := by decide +kernel
theorem dX6_goes_16 : decode cX6_goes 16 = .ok (.iload_n 2, 1) := by decide +kernel
theorem dX6_goes_17 : decode cX6_goes 17 = .ok (.aload_n 1, 1) := by decide +kernel
theorem dX6_goes_18 : decode cX6_goes 18 = .ok (.bipush 13, 2) := by decide +kernel
theorem dX6_goes_20 : decode cX6_goes 20 = .ok (.iload_n 2, 1) := by decide +kernel
theorem dX6_goes_21 : decode cX6_goes 21 = .ok (.iadd, 1) := by decide +kernel
theorem dX6_goes_22 : decode cX6_goes 22 = .ok (.iaload, 1) := by decide +kernel
theorem dX6_goes_23 : decode cX6_goes 23 = .ok (.iastore, 1) := by decide +kernel
theorem dX6_goes_24 : decode cX6_goes 24 = .ok (.iinc 2 1, 3) := by decide +kernel
theorem dX6_goes_27 : decode cX6_goes 27 = .ok (.goto (-25), 3) := by decide +kernel
theorem dX6_goes_30 : decode cX6_goes 30 = .ok (.iconst 0, 1) := by decide +kernel
theorem dX6_goes_31 : decode cX6_goes 31 = .ok (.istore_n 2, 1) := by decide +kernel
theorem dX6_goes_32 : decode cX6_goes 32 = .ok (.iload_n 2, 1) := by decide +kernel
theorem dX6_goes_33 : decode cX6_goes 33 = .ok (.iconst 2, 1) := by decide +kernel
theorem dX6_goes_34 : decode cX6_goes 34 = .ok (.if_icmp .ge 72, 3) := by decide +kernel
theorem dX6_goes_37 : decode cX6_goes 37 = .ok (.aload_n 1, 1) := by decide +kernel
theorem dX6_goes_38 : decode cX6_goes 38 = .ok (.iconst 0, 1) := by decide +kernel
theorem dX6_goes_39 : decode cX6_goes 39 = .ok (.iload_n 2, 1) := by decide +kernel
theorem dX6_goes_40 : decode cX6_goes 40 = .ok (.iadd, 1) := by decide +kernel
theorem dX6_goes_41 : decode cX6_goes 41 = .ok (.dup2, 1) := by decide +kernel
theorem dX6_goes_42 : decode cX6_goes 42 = .ok (.iaload, 1) := by decide +kernel
theorem dX6_goes_43 : decode cX6_goes 43 = .ok (.aload_n 1, 1) := by decide +kernel
theorem dX6_goes_44 : decode cX6_goes 44 = .ok (.iconst 0, 1) := by decide +kernel
theorem dX6_goes_45 : decode cX6_goes 45 = .ok (.iload_n 2, 1) := by decide +kernel
theorem dX6_goes_46 : decode cX6_goes 46 = .ok (.iadd, 1) := by decide +kernel
theorem dX6_goes_47 : decode cX6_goes 47 = .ok (.iaload, 1) := by decide +kernel
theorem dX6_goes_48 : decode cX6_goes 48 = .ok (.ifCond .lt 17, 3) := by decide +kernel
theorem dX6_goes_51 : decode cX6_goes 51 = .ok (.aload_n 1, 1) := by decide +kernel
theorem dX6_goes_52 : decode cX6_goes 52 = .ok (.iconst 0, 1) := by decide +kernel
theorem dX6_goes_53 : decode cX6_goes 53 = .ok (.iload_n 2, 1) := by decide +kernel
theorem dX6_goes_54 : decode cX6_goes 54 = .ok (.iadd, 1) := by decide +kernel
theorem dX6_goes_55 : decode cX6_goes 55 = .ok (.iaload, 1) := by decide +kernel
theorem dX6_goes_56 : decode cX6_goes 56 = .ok (.bipush 99, 2) := by decide +kernel
theorem dX6_goes_58 : decode cX6_goes 58 = .ok (.if_icmp .ge 7, 3) := by decide +kernel
theorem dX6_goes_61 : decode cX6_goes 61 = .ok (.iconst 1, 1) := by decide +kernel
theorem dX6_goes_62 : decode cX6_goes 62 = .ok (.goto 4, 3) := by decide +kernel
theorem dX6_goes_65 : decode cX6_goes 65 = .ok (.iconst 0, 1) := by decide +kernel
theorem dX6_goes_66 : decode cX6_goes 66 = .ok (.iadd, 1) := by decide +kernel
theorem dX6_goes_67 : decode cX6_goes 67 = .ok (.iastore, 1) := by decide +kernel
theorem dX6_goes_68 : decode cX6_goes 68 = .ok (.aload_n 1, 1) := by decide +kernel
theorem dX6_goes_69 : decode cX6_goes 69 = .ok (.iconst 0, 1) := by decide +kernel
theorem dX6_goes_70 : decode cX6_goes 70 = .ok (.iload_n 2, 1) := by decide +kernel
theorem dX6_goes_71 : decode cX6_goes 71 = .ok (.iadd, 1) := by decide +kernel
theorem dX6_goes_72 : decode cX6_goes 72 = .ok (.iaload, 1) := by decide +kernel
theorem dX6_goes_73 : decode cX6_goes 73 = .ok (.ifCond .ge 12, 3) := by decide +kernel
theorem dX6_goes_76 : decode cX6_goes 76 = .ok (.aload_n 0, 1) := by decide +kernel
theorem dX6_goes_77 : decode cX6_goes 77 = .ok (.aload_n 1, 1) := by decide +kernel
theorem dX6_goes_78 : decode cX6_goes 78 = .ok (.iload_n 2, 1) := by decide +kernel
theorem dX6_goes_79 : decode cX6_goes 79 = .ok (.invokevirtual 172, 3) := by decide +kernel
theorem dX6_goes_82 : decode cX6_goes 82 = .ok (.goto 18, 3) := by decide +kernel
theorem dX6_goes_85 : decode cX6_goes 85 = .ok (.aload_n 1, 1) := by decide +kernel
theorem dX6_goes_86 : decode cX6_goes 86 = .ok (.iconst 0, 1) := by decide +kernel
theorem dX6_goes_87 : decode cX6_goes 87 = .ok (.iload_n 2, 1) := by decide +kernel
theorem dX6_goes_88 : decode cX6_goes 88 = .ok (.iadd, 1) := by decide +kernel
theorem dX6_goes_89 : decode cX6_goes 89 = .ok (.iaload, 1) := by decide +kernel
theorem dX6_goes_90 : decode cX6_goes 90 = .ok (.iconst 1, 1) := by decide +kernel
theorem dX6_goes_91 : decode cX6_goes 91 = .ok (.if_icmp .le 9, 3) := by decide +kernel
theorem dX6_goes_94 : decode cX6_goes 94 = .ok (.aload_n 0, 1) := by decide +kernel
theorem dX6_goes_95 : decode cX6_goes 95 = .ok (.aload_n 1, 1) := by decide +kernel
theorem dX6_goes_96 : decode cX6_goes 96 = .ok (.iload_n 2, 1) := by decide +kernel
theorem dX6_goes_97 : decode cX6_goes 97 = .ok (.invokevirtual 175, 3) := by decide +kernel
theorem dX6_goes_100 : decode cX6_goes 100 = .ok (.iinc 2 1, 3) := by decide +kernel
theorem dX6_goes_103 : decode cX6_goes 103 = .ok (.goto (-71), 3) := by decide +kernel
theorem dX6_goes_106 : decode cX6_goes 106 = .ok (.iconst 0, 1) := by decide +kernel
theorem dX6_goes_107 : decode cX6_goes 107 = .ok (.istore_n 2, 1) := by decide +kernel
theorem dX6_goes_108 : decode cX6_goes 108 = .ok (.iload_n 2, 1) := by decide +kernel
theorem dX6_goes_109 : decode cX6_goes 109 = .ok (.aload_n 0, 1) := by decide +kernel
theorem dX6_goes_110 : decode cX6_goes 110 = .ok (.getfield 13, 3) := by decide +kernel
theorem dX6_goes_113 : decode cX6_goes 113 = .ok (.iconst 0, 1) := by decide +kernel
theorem dX6_goes_114 : decode cX6_goes 114 = .ok (.iaload, 1) := by decide +kernel
theorem dX6_goes_115 : decode cX6_goes 115 = .ok (.if_icmp .ge 106, 3) := by decide +kernel
theorem dX6_goes_118 : decode cX6_goes 118 = .ok (.aload_n 0, 1) := by decide +kernel
theorem dX6_goes_119 : decode cX6_goes 119 = .ok (.getfield 47, 3) := by decide +kernel
theorem dX6_goes_122 : decode cX6_goes 122 = .ok (.iload_n 2, 1) := by decide +kernel
theorem dX6_goes_123 : decode cX6_goes 123 = .ok (.iaload, 1) := by decide +kernel
theorem dX6_goes_124 : decode cX6_goes 124 = .ok (.iconst 2, 1) := by decide +kernel
theorem dX6_goes_125 : decode cX6_goes 125 = .ok (.if_icmp .ne 33, 3) := by decide +kernel
theorem dX6_goes_128 : decode cX6_goes 128 = .ok (.aload_n 1, 1) := by decide +kernel
theorem dX6_goes_129 : decode cX6_goes 129 = .ok (.bipush 20, 2) := by decide +kernel
theorem dX6_goes_131 : decode cX6_goes 131 = .ok (.iload_n 2, 1) := by decide +kernel
theorem dX6_goes_132 : decode cX6_goes 132 = .ok (.iadd, 1) := by decide +kernel
theorem dX6_goes_133 : decode cX6_goes 133 = .ok (.dup2, 1) := by decide +kernel
theorem dX6_goes_134 : decode cX6_goes 134 = .ok (.iaload, 1) := by decide +kernel
theorem dX6_goes_135 : decode cX6_goes 135 = .ok (.iconst 1, 1) := by decide +kernel
theorem dX6_goes_136 : decode cX6_goes 136 = .ok (.isub, 1) := by decide +kernel
theorem dX6_goes_137 : decode cX6_goes 137 = .ok (.iastore, 1) := by decide +kernel
theorem dX6_goes_138 : decode cX6_goes 138 = .ok (.aload_n 1, 1) := by decide +kernel
theorem dX6_goes_139 : decode cX6_goes 139 = .ok (.bipush 13, 2) := by decide +kernel
theorem dX6_goes_141 : decode cX6_goes 141 = .ok (.iload_n 2, 1) := by decide +kernel
theorem dX6_goes_142 : decode cX6_goes 142 = .ok (.iadd, 1) := by decide +kernel
theorem dX6_goes_143 : decode cX6_goes 143 = .ok (.aload_n 1, 1) := by decide +kernel
theorem dX6_goes_144 : decode cX6_goes 144 = .ok (.bipush 20, 2) := by decide +kernel
theorem dX6_goes_146 : decode cX6_goes 146 = .ok (.iload_n 2, 1) := by decide +kernel
theorem dX6_goes_147 : decode cX6_goes 147 = .ok (.iadd, 1) := by decide +kernel
theorem dX6_goes_148 : decode cX6_goes 148 = .ok (.iaload, 1) := by decide +kernel
theorem dX6_goes_149 : decode cX6_goes 149 = .ok (.ifCond .ne 7, 3) := by decide +kernel
theorem dX6_goes_152 : decode cX6_goes 152 = .ok (.iconst 1, 1) := by decide +kernel
theorem dX6_goes_153 : decode cX6_goes 153 = .ok (.goto 4, 3) := by decide +kernel
theorem dX6_goes_156 : decode cX6_goes 156 = .ok (.iconst 2, 1) := by decide +kernel
theorem dX6_goes_157 : decode cX6_goes 157 = .ok (.iastore, 1) := by decide +kernel
theorem dX6_goes_158 : decode cX6_goes 158 = .ok (.aload_n 0, 1) := by decide +kernel
theorem dX6_goes_159 : decode cX6_goes 159 = .ok (.getfield 47, 3) := by decide +kernel
theorem dX6_goes_162 : decode cX6_goes 162 = .ok (.iload_n 2, 1) := by decide +kernel
theorem dX6_goes_163 : decode cX6_goes 163 = .ok (.iaload, 1) := by decide +kernel
theorem dX6_goes_164 : decode cX6_goes 164 = .ok (.iconst 4, 1) := by decide +kernel
theorem dX6_goes_165 : decode cX6_goes 165 = .ok (.if_icmp .eq 13, 3) := by decide +kernel
theorem dX6_goes_168 : decode cX6_goes 168 = .ok (.aload_n 0, 1) := by decide +kernel
theorem dX6_goes_169 : decode cX6_goes 169 = .ok (.getfield 47, 3) := by decide +kernel
theorem dX6_goes_172 : decode cX6_goes 172 = .ok (.iload_n 2, 1) := by decide +kernel
theorem dX6_goes_173 : decode cX6_goes 173 = .ok (.iaload, 1) := by decide +kernel
theorem dX6_goes_174 : decode cX6_goes 174 = .ok (.iconst 5, 1) := by decide +kernel
theorem dX6_goes_175 : decode cX6_goes 175 = .ok (.if_icmp .ne 40, 3) := by decide +kernel
theorem dX6_goes_178 : decode cX6_goes 178 = .ok (.aload_n 1, 1) := by decide +kernel
theorem dX6_goes_179 : decode cX6_goes 179 = .ok (.bipush 20, 2) := by decide +kernel
theorem dX6_goes_181 : decode cX6_goes 181 = .ok (.iload_n 2, 1) := by decide +kernel
theorem dX6_goes_182 : decode cX6_goes 182 = .ok (.iadd, 1) := by decide +kernel
theorem dX6_goes_183 : decode cX6_goes 183 = .ok (.dup2, 1) := by decide +kernel
theorem dX6_goes_184 : decode cX6_goes 184 = .ok (.iaload, 1) := by decide +kernel
theorem dX6_goes_185 : decode cX6_goes 185 = .ok (.iconst 1, 1) := by decide +kernel
theorem dX6_goes_186 : decode cX6_goes 186 = .ok (.iadd, 1) := by decide +kernel
theorem dX6_goes_187 : decode cX6_goes 187 = .ok (.iastore, 1) := by decide +kernel
theorem dX6_goes_188 : decode cX6_goes 188 = .ok (.aload_n 1, 1) := by decide +kernel
theorem dX6_goes_189 : decode cX6_goes 189 = .ok (.bipush 20, 2) := by decide +kernel
theorem dX6_goes_191 : decode cX6_goes 191 = .ok (.iload_n 2, 1) := by decide +kernel
theorem dX6_goes_192 : decode cX6_goes 192 = .ok (.iadd, 1) := by decide +kernel
theorem dX6_goes_193 : decode cX6_goes 193 = .ok (.iaload, 1) := by decide +kernel
theorem dX6_goes_194 : decode cX6_goes 194 = .ok (.aload_n 0, 1) := by decide +kernel
theorem dX6_goes_195 : decode cX6_goes 195 = .ok (.getfield 13, 3) := by decide +kernel
theorem dX6_goes_198 : decode cX6_goes 198 = .ok (.iconst 1, 1) := by decide +kernel
theorem dX6_goes_199 : decode cX6_goes 199 = .ok (.iaload, 1) := by decide +kernel
theorem dX6_goes_200 : decode cX6_goes 200 = .ok (.if_icmp .ne 15, 3) := by decide +kernel
theorem dX6_goes_203 : decode cX6_goes 203 = .ok (.aload_n 1, 1) := by decide +kernel
theorem dX6_goes_204 : decode cX6_goes 204 = .ok (.iload_n 2, 1) := by decide +kernel
theorem dX6_goes_205 : decode cX6_goes 205 = .ok (.invokestatic 155, 3) := by decide +kernel
theorem dX6_goes_208 : decode cX6_goes 208 = .ok (.aload_n 1, 1) := by decide +kernel
theorem dX6_goes_209 : decode cX6_goes 209 = .ok (.iconst 4, 1) := by decide +kernel
theorem dX6_goes_210 : decode cX6_goes 210 = .ok (.dup2, 1) := by decide +kernel
theorem dX6_goes_211 : decode cX6_goes 211 = .ok (.iaload, 1) := by decide +kernel
theorem dX6_goes_212 : decode cX6_goes 212 = .ok (.iconst 1, 1) := by decide +kernel
theorem dX6_goes_213 : decode cX6_goes 213 = .ok (.iadd, 1) := by decide +kernel
theorem dX6_goes_214 : decode cX6_goes 214 = .ok (.iastore, 1) := by decide +kernel
theorem dX6_goes_215 : decode cX6_goes 215 = .ok (.iinc 2 1, 3) := by decide +kernel
theorem dX6_goes_218 : decode cX6_goes 218 = .ok (.goto (-110), 3) := by decide +kernel
theorem dX6_goes_221 : decode cX6_goes 221 = .ok (.aload_n 0, 1) := by decide +kernel
theorem dX6_goes_222 : decode cX6_goes 222 = .ok (.aload_n 1, 1) := by decide +kernel
theorem dX6_goes_223 : decode cX6_goes 223 = .ok (.invokevirtual 178, 3) := by decide +kernel
theorem dX6_goes_226 : decode cX6_goes 226 = .ok (.iconst 0, 1) := by decide +kernel
theorem dX6_goes_227 : decode cX6_goes 227 = .ok (.istore_n 2, 1) := by decide +kernel
theorem dX6_goes_228 : decode cX6_goes 228 = .ok (.iload_n 2, 1) := by decide +kernel
theorem dX6_goes_229 : decode cX6_goes 229 = .ok (.aload_n 0, 1) := by decide +kernel
theorem dX6_goes_230 : decode cX6_goes 230 = .ok (.getfield 143, 3) := by decide +kernel
theorem dX6_goes_233 : decode cX6_goes 233 = .ok (.if_icmp .ge 20, 3) := by decide +kernel
theorem dX6_goes_236 : decode cX6_goes 236 = .ok (.aload_n 0, 1) := by decide +kernel
theorem dX6_goes_237 : decode cX6_goes 237 = .ok (.aload_n 1, 1) := by decide +kernel
theorem dX6_goes_238 : decode cX6_goes 238 = .ok (.aload_n 0, 1) := by decide +kernel
theorem dX6_goes_239 : decode cX6_goes 239 = .ok (.getfield 44, 3) := by decide +kernel
theorem dX6_goes_242 : decode cX6_goes 242 = .ok (.iload_n 2, 1) := by decide +kernel
theorem dX6_goes_243 : decode cX6_goes 243 = .ok (.iaload, 1) := by decide +kernel
theorem dX6_goes_244 : decode cX6_goes 244 = .ok (.invokevirtual 182, 3) := by decide +kernel
theorem dX6_goes_247 : decode cX6_goes 247 = .ok (.iinc 2 1, 3) := by decide +kernel
theorem dX6_goes_250 : decode cX6_goes 250 = .ok (.goto (-22), 3) := by decide +kernel
theorem dX6_goes_253 : decode cX6_goes 253 = .ok (.iconst 0, 1) := by decide +kernel
theorem dX6_goes_254 : decode cX6_goes 254 = .ok (.istore_n 2, 1) := by decide +kernel
theorem dX6_goes_255 : decode cX6_goes 255 = .ok (.iload_n 2, 1) := by decide +kernel
theorem dX6_goes_256 : decode cX6_goes 256 = .ok (.aload_n 0, 1) := by decide +kernel
theorem dX6_goes_257 : decode cX6_goes 257 = .ok (.getfield 13, 3) := by decide +kernel
theorem dX6_goes_260 : decode cX6_goes 260 = .ok (.iconst 0, 1) := by decide +kernel
theorem dX6_goes_261 : decode cX6_goes 261 = .ok (.iaload, 1) := by decide +kernel
theorem dX6_goes_262 : decode cX6_goes 262 = .ok (.if_icmp .ge 56, 3) := by decide +kernel
theorem dX6_goes_265 : decode cX6_goes 265 = .ok (.aload_n 1, 1) := by decide +kernel
theorem dX6_goes_266 : decode cX6_goes 266 = .ok (.bipush 13, 2) := by decide +kernel
theorem dX6_goes_268 : decode cX6_goes 268 = .ok (.iload_n 2, 1) := by decide +kernel
theorem dX6_goes_269 : decode cX6_goes 269 = .ok (.iadd, 1) := by decide +kernel
theorem dX6_goes_270 : decode cX6_goes 270 = .ok (.iaload, 1) := by decide +kernel
theorem dX6_goes_271 : decode cX6_goes 271 = .ok (.iconst 3, 1) := by decide +kernel
theorem dX6_goes_272 : decode cX6_goes 272 = .ok (.if_icmp .ne 40, 3) := by decide +kernel
theorem dX6_goes_275 : decode cX6_goes 275 = .ok (.aload_n 1, 1) := by decide +kernel
theorem dX6_goes_276 : decode cX6_goes 276 = .ok (.bipush 20, 2) := by decide +kernel
theorem dX6_goes_278 : decode cX6_goes 278 = .ok (.iload_n 2, 1) := by decide +kernel
theorem dX6_goes_279 : decode cX6_goes 279 = .ok (.iadd, 1) := by decide +kernel
theorem dX6_goes_280 : decode cX6_goes 280 = .ok (.dup2, 1) := by decide +kernel
theorem dX6_goes_281 : decode cX6_goes 281 = .ok (.iaload, 1) := by decide +kernel
theorem dX6_goes_282 : decode cX6_goes 282 = .ok (.iconst 1, 1) := by decide +kernel
theorem dX6_goes_283 : decode cX6_goes 283 = .ok (.iadd, 1) := by decide +kernel
theorem dX6_goes_284 : decode cX6_goes 284 = .ok (.iastore, 1) := by decide +kernel
theorem dX6_goes_285 : decode cX6_goes 285 = .ok (.aload_n 1, 1) := by decide +kernel
theorem dX6_goes_286 : decode cX6_goes 286 = .ok (.bipush 20, 2) := by decide +kernel
theorem dX6_goes_288 : decode cX6_goes 288 = .ok (.iload_n 2, 1) := by decide +kernel
theorem dX6_goes_289 : decode cX6_goes 289 = .ok (.iadd, 1) := by decide +kernel
theorem dX6_goes_290 : decode cX6_goes 290 = .ok (.iaload, 1) := by decide +kernel
theorem dX6_goes_291 : decode cX6_goes 291 = .ok (.aload_n 0, 1) := by decide +kernel
theorem dX6_goes_292 : decode cX6_goes 292 = .ok (.getfield 13, 3) := by decide +kernel
theorem dX6_goes_295 : decode cX6_goes 295 = .ok (.iconst 2, 1) := by decide +kernel
theorem dX6_goes_296 : decode cX6_goes 296 = .ok (.iaload, 1) := by decide +kernel
theorem dX6_goes_297 : decode cX6_goes 297 = .ok (.if_icmp .le 15, 3) := by decide +kernel
theorem dX6_goes_300 : decode cX6_goes 300 = .ok (.aload_n 1, 1) := by decide +kernel
theorem dX6_goes_301 : decode cX6_goes 301 = .ok (.iload_n 2, 1) := by decide +kernel
theorem dX6_goes_302 : decode cX6_goes 302 = .ok (.invokestatic 155, 3) := by decide +kernel
theorem dX6_goes_305 : decode cX6_goes 305 = .ok (.aload_n 1, 1) := by decide +kernel
theorem dX6_goes_306 : decode cX6_goes 306 = .ok (.iconst 5, 1) := by decide +kernel
theorem dX6_goes_307 : decode cX6_goes 307 = .ok (.dup2, 1) := by decide +kernel
theorem dX6_goes_308 : decode cX6_goes 308 = .ok (.iaload, 1) := by decide +kernel
theorem dX6_goes_309 : decode cX6_goes 309 = .ok (.iconst 1, 1) := by decide +kernel
theorem dX6_goes_310 : decode cX6_goes 310 = .ok (.iadd, 1) := by decide +kernel
theorem dX6_goes_311 : decode cX6_goes 311 = .ok (.iastore, 1) := by decide +kernel
theorem dX6_goes_312 : decode cX6_goes 312 = .ok (.iinc 2 1, 3) := by decide +kernel
theorem dX6_goes_315 : decode cX6_goes 315 = .ok (.goto (-60), 3) := by decide +kernel
theorem dX6_goes_318 : decode cX6_goes 318 = .ok (.aload_n 1, 1) := by decide +kernel
theorem dX6_goes_319 : decode cX6_goes 319 = .ok (.iconst 2, 1) := by decide +kernel
theorem dX6_goes_320 : decode cX6_goes 320 = .ok (.dup2, 1) := by decide +kernel
theorem dX6_goes_321 : decode cX6_goes 321 = .ok (.iaload, 1) := by decide +kernel
theorem dX6_goes_322 : decode cX6_goes 322 = .ok (.iconst 1, 1) := by decide +kernel
theorem dX6_goes_323 : decode cX6_goes 323 = .ok (.iadd, 1) := by decide +kernel
theorem dX6_goes_324 : decode cX6_goes 324 = .ok (.iastore, 1) := by decide +kernel
theorem dX6_goes_325 : decode cX6_goes 325 = .ok (.return_, 1) := by decide +kernel
theorem dX6_isOn_0 : decode cX6_isOn 0 = .ok (.aload_n 1, 1) := by decide +kernel
theorem dX6_isOn_1 : decode cX6_isOn 1 = .ok (.bipush 13, 2) := by decide +kernel
theorem dX6_isOn_3 : decode cX6_isOn 3 = .ok (.iload_n 2, 1) := by decide +kernel
theorem dX6_isOn_4 : decode cX6_isOn 4 = .ok (.iadd, 1) := by decide +kernel
theorem dX6_isOn_5 : decode cX6_isOn 5 = .ok (.iaload, 1) := by decide +kernel
theorem dX6_isOn_6 : decode cX6_isOn 6 = .ok (.iconst 4, 1) := by decide +kernel
theorem dX6_isOn_7 : decode cX6_isOn 7 = .ok (.if_icmp .eq 13, 3) := by decide +kernel
theorem dX6_isOn_10 : decode cX6_isOn 10 = .ok (.aload_n 1, 1) := by decide +kernel
theorem dX6_isOn_11 : decode cX6_isOn 11 = .ok (.bipush 13, 2) := by decide +kernel
theorem dX6_isOn_13 : decode cX6_isOn 13 = .ok (.iload_n 2, 1) := by decide +kernel
theorem dX6_isOn_14 : decode cX6_isOn 14 = .ok (.iadd, 1) := by decide +kernel
theorem dX6_isOn_15 : decode cX6_isOn 15 = .ok (.iaload, 1) := by decide +kernel
theorem dX6_isOn_16 : decode cX6_isOn 16 = .ok (.iconst 5, 1) := by decide +kernel
theorem dX6_isOn_17 : decode cX6_isOn 17 = .ok (.if_icmp .ne 7, 3) := by decide +kernel
theorem dX6_isOn_20 : decode cX6_isOn 20 = .ok (.iconst 1, 1) := by decide +kernel
theorem dX6_isOn_21 : decode cX6_isOn 21 = .ok (.goto 4, 3) := by decide +kernel
theorem dX6_isOn_24 : decode cX6_isOn 24 = .ok (.iconst 0, 1) := by decide +kernel
theorem dX6_isOn_25 : decode cX6_isOn 25 = .ok (.ireturn, 1) := by decide +kernel
theorem dX6_notes_0 : decode cX6_notes 0 = .ok (.aload_n 0, 1) := by decide +kernel
theorem dX6_notes_1 : decode cX6_notes 1 = .ok (.getfield 124, 3) := by decide +kernel
theorem dX6_notes_4 : decode cX6_notes 4 = .ok (.bipush 12, 2) := by decide +kernel
theorem dX6_notes_6 : decode cX6_notes 6 = .ok (.if_icmp .ne 39, 3) := by decide +kernel
theorem dX6_notes_9 : decode cX6_notes 9 = .ok (.iconst 0, 1) := by decide +kernel
theorem dX6_notes_10 : decode cX6_notes 10 = .ok (.istore_n 1, 1) := by decide +kernel
theorem dX6_notes_11 : decode cX6_notes 11 = .ok (.iload_n 1, 1) := by decide +kernel
theorem dX6_notes_12 : decode cX6_notes 12 = .ok (.sipush 451, 3) := by decide +kernel
theorem dX6_notes_15 : decode cX6_notes 15 = .ok (.if_icmp .ge 24, 3) := by decide +kernel
theorem dX6_notes_18 : decode cX6_notes 18 = .ok (.aload_n 0, 1) := by decide +kernel
theorem dX6_notes_19 : decode cX6_notes 19 = .ok (.getfield 28, 3) := by decide +kernel
theorem dX6_notes_22 : decode cX6_notes 22 = .ok (.iload_n 1, 1) := by decide +kernel
theorem dX6_notes_23 : decode cX6_notes 23 = .ok (.aload_n 0, 1) := by decide +kernel
theorem dX6_notes_24 : decode cX6_notes 24 = .ok (.getfield 28, 3) := by decide +kernel
theorem dX6_notes_27 : decode cX6_notes 27 = .ok (.iload_n 1, 1) := by decide +kernel
theorem dX6_notes_28 : decode cX6_notes 28 = .ok (.bipush 41, 2) := by decide +kernel
theorem dX6_notes_30 : decode cX6_notes 30 = .ok (.iadd, 1) := by decide +kernel
theorem dX6_notes_31 : decode cX6_notes 31 = .ok (.iaload, 1) := by decide +kernel
theorem dX6_notes_32 : decode cX6_notes 32 = .ok (.iastore, 1) := by decide +kernel
theorem dX6_notes_33 : decode cX6_notes 33 = .ok (.iinc 1 1, 3) := by decide +kernel
theorem dX6_notes_36 : decode cX6_notes 36 = .ok (.goto (-25), 3) := by decide +kernel
theorem dX6_notes_39 : decode cX6_notes 39 = .ok (.aload_n 0, 1) := by decide +kernel
theorem dX6_notes_40 : decode cX6_notes 40 = .ok (.bipush 11, 2) := by decide +kernel
theorem dX6_notes_42 : decode cX6_notes 42 = .ok (.putfield 124, 3) := by decide +kernel
theorem dX6_notes_45 : decode cX6_notes 45 = .ok (.iconst 0, 1) := by decide +kernel
theorem dX6_notes_46 : decode cX6_notes 46 = .ok (.istore_n 1, 1) := by decide +kernel
theorem dX6_notes_47 : decode cX6_notes 47 = .ok (.iload_n 1, 1) := by decide +kernel
theorem dX6_notes_48 : decode cX6_notes 48 = .ok (.bipush 41, 2) := by decide +kernel
theorem dX6_notes_50 : decode cX6_notes 50 = .ok (.if_icmp .ge 29, 3) := by decide +kernel
theorem dX6_notes_53 : decode cX6_notes 53 = .ok (.aload_n 0, 1) := by decide +kernel
theorem dX6_notes_54 : decode cX6_notes 54 = .ok (.getfield 28, 3) := by decide +kernel
theorem dX6_notes_57 : decode cX6_notes 57 = .ok (.bipush 41, 2) := by decide +kernel
theorem dX6_notes_59 : decode cX6_notes 59 = .ok (.aload_n 0, 1) := by decide +kernel
theorem dX6_notes_60 : decode cX6_notes 60 = .ok (.getfield 124, 3) := by decide +kernel
theorem dX6_notes_63 : decode cX6_notes 63 = .ok (.imul, 1) := by decide +kernel
theorem dX6_notes_64 : decode cX6_notes 64 = .ok (.iload_n 1, 1) := by decide +kernel
theorem dX6_notes_65 : decode cX6_notes 65 = .ok (.iadd, 1) := by decide +kernel
theorem dX6_notes_66 : decode cX6_notes 66 = .ok (.aload_n 0, 1) := by decide +kernel
theorem dX6_notes_67 : decode cX6_notes 67 = .ok (.getfield 22, 3) := by decide +kernel
theorem dX6_notes_70 : decode cX6_notes 70 = .ok (.iload_n 1, 1) := by decide +kernel
theorem dX6_notes_71 : decode cX6_notes 71 = .ok (.iaload, 1) := by decide +kernel
theorem dX6_notes_72 : decode cX6_notes 72 = .ok (.iastore, 1) := by decide +kernel
theorem dX6_notes_73 : decode cX6_notes 73 = .ok (.iinc 1 1, 3) := by decide +kernel
theorem dX6_notes_76 : decode cX6_notes 76 = .ok (.goto (-29), 3) := by decide +kernel
theorem dX6_notes_79 : decode cX6_notes 79 = .ok (.aload_n 0, 1) := by decide +kernel
theorem dX6_notes_80 : decode cX6_notes 80 = .ok (.dup, 1) := by decide +kernel
theorem dX6_notes_81 : decode cX6_notes 81 = .ok (.getfield 124, 3) := by decide +kernel
theorem dX6_notes_84 : decode cX6_notes 84 = .ok (.iconst 1, 1) := by decide +kernel
theorem dX6_notes_85 : decode cX6_notes 85 = .ok (.iadd, 1) := by decide +kernel
theorem dX6_notes_86 : decode cX6_notes 86 = .ok (.putfield 124, 3) := by decide +kernel
theorem dX6_notes_89 : decode cX6_notes 89 = .ok (.return_, 1) := by decide +kernel
theorem dX6_ticks_0 : decode cX6_ticks 0 = .ok (.aload_n 0, 1) := by decide +kernel
theorem dX6_ticks_1 : decode cX6_ticks 1 = .ok (.iconst 0, 1) := by decide +kernel
theorem dX6_ticks_2 : decode cX6_ticks 2 = .ok (.putfield 59, 3) := by decide +kernel
theorem dX6_ticks_5 : decode cX6_ticks 5 = .ok (.iload_n 1, 1) := by decide +kernel
theorem dX6_ticks_6 : decode cX6_ticks 6 = .ok (.iconst 1, 1) := by decide +kernel
theorem dX6_ticks_7 : decode cX6_ticks 7 = .ok (.bipush 12, 2) := by decide +kernel
theorem dX6_ticks_9 : decode cX6_ticks 9 = .ok (.invokestatic 63, 3) := by decide +kernel
theorem dX6_ticks_12 : decode cX6_ticks 12 = .ok (.ifCond .ne 5, 3) := by decide +kernel
theorem dX6_ticks_15 : decode cX6_ticks 15 = .ok (.iconst (-1), 1) := by decide +kernel
theorem dX6_ticks_16 : decode cX6_ticks 16 = .ok (.ireturn, 1) := by decide +kernel
theorem dX6_ticks_17 : decode cX6_ticks 17 = .ok (.aload_n 0, 1) := by decide +kernel
theorem dX6_ticks_18 : decode cX6_ticks 18 = .ok (.getfield 22, 3) := by decide +kernel
theorem dX6_ticks_21 : decode cX6_ticks 21 = .ok (.iconst 2, 1) := by decide +kernel
theorem dX6_ticks_22 : decode cX6_ticks 22 = .ok (.iaload, 1) := by decide +kernel
theorem dX6_ticks_23 : decode cX6_ticks 23 = .ok (.iload_n 1, 1) := by decide +kernel
theorem dX6_ticks_24 : decode cX6_ticks 24 = .ok (.iadd, 1) := by decide +kernel
theorem dX6_ticks_25 : decode cX6_ticks 25 = .ok (.sipush 999, 3) := by decide +kernel
theorem dX6_ticks_28 : decode cX6_ticks 28 = .ok (.if_icmp .le 6, 3) := by decide +kernel
theorem dX6_ticks_31 : decode cX6_ticks 31 = .ok (.bipush (-3), 2) := by decide +kernel
theorem dX6_ticks_33 : decode cX6_ticks 33 = .ok (.ireturn, 1) := by decide +kernel
theorem dX6_ticks_34 : decode cX6_ticks 34 = .ok (.iconst 0, 1) := by decide +kernel
theorem dX6_ticks_35 : decode cX6_ticks 35 = .ok (.istore_n 2, 1) := by decide +kernel
theorem dX6_ticks_36 : decode cX6_ticks 36 = .ok (.iload_n 2, 1) := by decide +kernel
theorem dX6_ticks_37 : decode cX6_ticks 37 = .ok (.iload_n 1, 1) := by decide +kernel
theorem dX6_ticks_38 : decode cX6_ticks 38 = .ok (.if_icmp .ge 21, 3) := by decide +kernel
theorem dX6_ticks_41 : decode cX6_ticks 41 = .ok (.aload_n 0, 1) := by decide +kernel
theorem dX6_ticks_42 : decode cX6_ticks 42 = .ok (.invokevirtual 185, 3) := by decide +kernel
theorem dX6_ticks_45 : decode cX6_ticks 45 = .ok (.aload_n 0, 1) := by decide +kernel
theorem dX6_ticks_46 : decode cX6_ticks 46 = .ok (.aload_n 0, 1) := by decide +kernel
theorem dX6_ticks_47 : decode cX6_ticks 47 = .ok (.getfield 22, 3) := by decide +kernel
theorem dX6_ticks_50 : decode cX6_ticks 50 = .ok (.invokevirtual 188, 3) := by decide +kernel
theorem dX6_ticks_53 : decode cX6_ticks 53 = .ok (.iinc 2 1, 3) := by decide +kernel
theorem dX6_ticks_56 : decode cX6_ticks 56 = .ok (.goto (-20), 3) := by decide +kernel
theorem dX6_ticks_59 : decode cX6_ticks 59 = .ok (.iconst 0, 1) := by decide +kernel
theorem dX6_ticks_60 : decode cX6_ticks 60 = .ok (.istore_n 2, 1) := by decide +kernel
theorem dX6_ticks_61 : decode cX6_ticks 61 = .ok (.iconst 0, 1) := by decide +kernel
theorem dX6_ticks_62 : decode cX6_ticks 62 = .ok (.istore_n 3, 1) := by decide +kernel
theorem dX6_ticks_63 : decode cX6_ticks 63 = .ok (.iload_n 3, 1) := by decide +kernel
theorem dX6_ticks_64 : decode cX6_ticks 64 = .ok (.aload_n 0, 1) := by decide +kernel
theorem dX6_ticks_65 : decode cX6_ticks 65 = .ok (.getfield 13, 3) := by decide +kernel
theorem dX6_ticks_68 : decode cX6_ticks 68 = .ok (.iconst 0, 1) := by decide +kernel
theorem dX6_ticks_69 : decode cX6_ticks 69 = .ok (.iaload, 1) := by decide +kernel
theorem dX6_ticks_70 : decode cX6_ticks 70 = .ok (.if_icmp .ge 29, 3) := by decide +kernel
theorem dX6_ticks_73 : decode cX6_ticks 73 = .ok (.iload_n 2, 1) := by decide +kernel
theorem dX6_ticks_74 : decode cX6_ticks 74 = .ok (.aload_n 0, 1) := by decide +kernel
theorem dX6_ticks_75 : decode cX6_ticks 75 = .ok (.aload_n 0, 1) := by decide +kernel
theorem dX6_ticks_76 : decode cX6_ticks 76 = .ok (.getfield 22, 3) := by decide +kernel
theorem dX6_ticks_79 : decode cX6_ticks 79 = .ok (.iload_n 3, 1) := by decide +kernel
theorem dX6_ticks_80 : decode cX6_ticks 80 = .ok (.invokevirtual 191, 3) := by decide +kernel
theorem dX6_ticks_83 : decode cX6_ticks 83 = .ok (.ifCond .eq 7, 3) := by decide +kernel
theorem dX6_ticks_86 : decode cX6_ticks 86 = .ok (.iconst 1, 1) := by decide +kernel
theorem dX6_ticks_87 : decode cX6_ticks 87 = .ok (.goto 4, 3) := by decide +kernel
theorem dX6_ticks_90 : decode cX6_ticks 90 = .ok (.iconst 0, 1) := by decide +kernel
theorem dX6_ticks_91 : decode cX6_ticks 91 = .ok (.iadd, 1) := by decide +kernel
theorem dX6_ticks_92 : decode cX6_ticks 92 = .ok (.istore_n 2, 1) := by decide +kernel
theorem dX6_ticks_93 : decode cX6_ticks 93 = .ok (.iinc 3 1, 3) := by decide +kernel
theorem dX6_ticks_96 : decode cX6_ticks 96 = .ok (.goto (-33), 3) := by decide +kernel
theorem dX6_ticks_99 : decode cX6_ticks 99 = .ok (.iload_n 2, 1) := by decide +kernel
theorem dX6_ticks_100 : decode cX6_ticks 100 = .ok (.ireturn, 1) := by decide +kernel
theorem dX6_presses_0 : decode cX6_presses 0 = .ok (.aload_n 0, 1) := by decide +kernel
theorem dX6_presses_1 : decode cX6_presses 1 = .ok (.iconst 0, 1) := by decide +kernel
theorem dX6_presses_2 : decode cX6_presses 2 = .ok (.putfield 59, 3) := by decide +kernel
theorem dX6_presses_5 : decode cX6_presses 5 = .ok (.aload_n 0, 1) := by decide +kernel
theorem dX6_presses_6 : decode cX6_presses 6 = .ok (.iload_n 1, 1) := by decide +kernel
theorem dX6_presses_7 : decode cX6_presses 7 = .ok (.invokevirtual 194, 3) := by decide +kernel
theorem dX6_presses_10 : decode cX6_presses 10 = .ok (.ifCond .eq 12, 3) := by decide +kernel
theorem dX6_presses_13 : decode cX6_presses 13 = .ok (.iload_n 2, 1) := by decide +kernel
theorem dX6_presses_14 : decode cX6_presses 14 = .ok (.iconst 0, 1) := by decide +kernel
theorem dX6_presses_15 : decode cX6_presses 15 = .ok (.iconst 1, 1) := by decide +kernel
theorem dX6_presses_16 : decode cX6_presses 16 = .ok (.invokestatic 63, 3) := by decide +kernel
theorem dX6_presses_19 : decode cX6_presses 19 = .ok (.ifCond .ne 5, 3) := by decide +kernel
theorem dX6_presses_22 : decode cX6_presses 22 = .ok (.iconst (-1), 1) := by decide +kernel
theorem dX6_presses_23 : decode cX6_presses 23 = .ok (.ireturn, 1) := by decide +kernel
theorem dX6_presses_24 : decode cX6_presses 24 = .ok (.aload_n 0, 1) := by decide +kernel
theorem dX6_presses_25 : decode cX6_presses 25 = .ok (.getfield 22, 3) := by decide +kernel
theorem dX6_presses_28 : decode cX6_presses 28 = .ok (.bipush 13, 2) := by decide +kernel
theorem dX6_presses_30 : decode cX6_presses 30 = .ok (.iload_n 1, 1) := by decide +kernel
theorem dX6_presses_31 : decode cX6_presses 31 = .ok (.iadd, 1) := by decide +kernel
theorem dX6_presses_32 : decode cX6_presses 32 = .ok (.iaload, 1) := by decide +kernel
theorem dX6_presses_33 : decode cX6_presses 33 = .ok (.ifCond .eq 6, 3) := by decide +kernel
theorem dX6_presses_36 : decode cX6_presses 36 = .ok (.bipush (-2), 2) := by decide +kernel
theorem dX6_presses_38 : decode cX6_presses 38 = .ok (.ireturn, 1) := by decide +kernel
theorem dX6_presses_39 : decode cX6_presses 39 = .ok (.aload_n 0, 1) := by decide +kernel
theorem dX6_presses_40 : decode cX6_presses 40 = .ok (.invokevirtual 185, 3) := by decide +kernel
theorem dX6_presses_43 : decode cX6_presses 43 = .ok (.aload_n 0, 1) := by decide +kernel
theorem dX6_presses_44 : decode cX6_presses 44 = .ok (.getfield 22, 3) := by decide +kernel
theorem dX6_presses_47 : decode cX6_presses 47 = .ok (.bipush 13, 2) := by decide +kernel
theorem dX6_presses_49 : decode cX6_presses 49 = .ok (.iload_n 1, 1) := by decide +kernel
theorem dX6_presses_50 : decode cX6_presses 50 = .ok (.iadd, 1) := by decide +kernel
theorem dX6_presses_51 : decode cX6_presses 51 = .ok (.iconst 1, 1) := by decide +kernel
theorem dX6_presses_52 : decode cX6_presses 52 = .ok (.iastore, 1) := by decide +kernel
theorem dX6_presses_53 : decode cX6_presses 53 = .ok (.aload_n 0, 1) := by decide +kernel
theorem dX6_presses_54 : decode cX6_presses 54 = .ok (.getfield 22, 3) := by decide +kernel
theorem dX6_presses_57 : decode cX6_presses 57 = .ok (.bipush 27, 2) := by decide +kernel
theorem dX6_presses_59 : decode cX6_presses 59 = .ok (.iload_n 1, 1) := by decide +kernel
theorem dX6_presses_60 : decode cX6_presses 60 = .ok (.iadd, 1) := by decide +kernel
theorem dX6_presses_61 : decode cX6_presses 61 = .ok (.iload_n 2, 1) := by decide +kernel
theorem dX6_presses_62 : decode cX6_presses 62 = .ok (.iastore, 1) := by decide +kernel
theorem dX6_presses_63 : decode cX6_presses 63 = .ok (.aload_n 0, 1) := by decide +kernel
theorem dX6_presses_64 : decode cX6_presses 64 = .ok (.getfield 22, 3) := by decide +kernel
theorem dX6_presses_67 : decode cX6_presses 67 = .ok (.bipush 6, 2) := by decide +kernel
theorem dX6_presses_69 : decode cX6_presses 69 = .ok (.iload_n 1, 1) := by decide +kernel
theorem dX6_presses_70 : decode cX6_presses 70 = .ok (.iadd, 1) := by decide +kernel
theorem dX6_presses_71 : decode cX6_presses 71 = .ok (.iaload, 1) := by decide +kernel
theorem dX6_presses_72 : decode cX6_presses 72 = .ok (.ireturn, 1) := by decide +kernel
theorem dX6_releases_0 : decode cX6_releases 0 = .ok (.aload_n 0, 1) := by decide +kernel
theorem dX6_releases_1 : decode cX6_releases 1 = .ok (.iconst 0, 1) := by decide +kernel
theorem dX6_releases_2 : decode cX6_releases 2 = .ok (.putfield 59, 3) := by decide +kernel
theorem dX6_releases_5 : decode cX6_releases 5 = .ok (.aload_n 0, 1) := by decide +kernel
theorem dX6_releases_6 : decode cX6_releases 6 = .ok (.iload_n 1, 1) := by decide +kernel
theorem dX6_releases_7 : decode cX6_releases 7 = .ok (.invokevirtual 194, 3) := by decide +kernel
theorem dX6_releases_10 : decode cX6_releases 10 = .ok (.ifCond .ne 5, 3) := by decide +kernel
theorem dX6_releases_13 : decode cX6_releases 13 = .ok (.iconst (-1), 1) := by decide +kernel
theorem dX6_releases_14 : decode cX6_releases 14 = .ok (.ireturn, 1) := by decide +kernel
theorem dX6_releases_15 : decode cX6_releases 15 = .ok (.aload_n 0, 1) := by decide +kernel
theorem dX6_releases_16 : decode cX6_releases 16 = .ok (.getfield 22, 3) := by decide +kernel
theorem dX6_releases_19 : decode cX6_releases 19 = .ok (.bipush 13, 2) := by decide +kernel
theorem dX6_releases_21 : decode cX6_releases 21 = .ok (.iload_n 1, 1) := by decide +kernel
theorem dX6_releases_22 : decode cX6_releases 22 = .ok (.iadd, 1) := by decide +kernel
theorem dX6_releases_23 : decode cX6_releases 23 = .ok (.iaload, 1) := by decide +kernel
theorem dX6_releases_24 : decode cX6_releases 24 = .ok (.istore_n 2, 1) := by decide +kernel
theorem dX6_releases_25 : decode cX6_releases 25 = .ok (.iload_n 2, 1) := by decide +kernel
theorem dX6_releases_26 : decode cX6_releases 26 = .ok (.ifCond .ne 6, 3) := by decide +kernel
theorem dX6_releases_29 : decode cX6_releases 29 = .ok (.bipush (-2), 2) := by decide +kernel
theorem dX6_releases_31 : decode cX6_releases 31 = .ok (.ireturn, 1) := by decide +kernel
theorem dX6_releases_32 : decode cX6_releases 32 = .ok (.aload_n 0, 1) := by decide +kernel
theorem dX6_releases_33 : decode cX6_releases 33 = .ok (.invokevirtual 185, 3) := by decide +kernel
theorem dX6_releases_36 : decode cX6_releases 36 = .ok (.aload_n 0, 1) := by decide +kernel
theorem dX6_releases_37 : decode cX6_releases 37 = .ok (.getfield 22, 3) := by decide +kernel
theorem dX6_releases_40 : decode cX6_releases 40 = .ok (.iload_n 1, 1) := by decide +kernel
theorem dX6_releases_41 : decode cX6_releases 41 = .ok (.invokestatic 155, 3) := by decide +kernel
theorem dX6_releases_44 : decode cX6_releases 44 = .ok (.iload_n 2, 1) := by decide +kernel
theorem dX6_releases_45 : decode cX6_releases 45 = .ok (.ireturn, 1) := by decide +kernel
theorem dX6_controls_0 : decode cX6_controls 0 = .ok (.aload_n 0, 1) := by decide +kernel
theorem dX6_controls_1 : decode cX6_controls 1 = .ok (.iconst 0, 1) := by decide +kernel
theorem dX6_controls_2 : decode cX6_controls 2 = .ok (.putfield 59, 3) := by decide +kernel
theorem dX6_controls_5 : decode cX6_controls 5 = .ok (.iload_n 1, 1) := by decide +kernel
theorem dX6_controls_6 : decode cX6_controls 6 = .ok (.iconst 0, 1) := by decide +kernel
theorem dX6_controls_7 : decode cX6_controls 7 = .ok (.iconst 1, 1) := by decide +kernel
theorem dX6_controls_8 : decode cX6_controls 8 = .ok (.invokestatic 63, 3) := by decide +kernel
theorem dX6_controls_11 : decode cX6_controls 11 = .ok (.ifCond .eq 12, 3) := by decide +kernel
theorem dX6_controls_14 : decode cX6_controls 14 = .ok (.iload_n 2, 1) := by decide +kernel
theorem dX6_controls_15 : decode cX6_controls 15 = .ok (.iconst 0, 1) := by decide +kernel
theorem dX6_controls_16 : decode cX6_controls 16 = .ok (.iconst 1, 1) := by decide +kernel
theorem dX6_controls_17 : decode cX6_controls 17 = .ok (.invokestatic 63, 3) := by decide +kernel
theorem dX6_controls_20 : decode cX6_controls 20 = .ok (.ifCond .ne 5, 3) := by decide +kernel
theorem dX6_controls_23 : decode cX6_controls 23 = .ok (.iconst (-1), 1) := by decide +kernel
theorem dX6_controls_24 : decode cX6_controls 24 = .ok (.ireturn, 1) := by decide +kernel
theorem dX6_controls_25 : decode cX6_controls 25 = .ok (.aload_n 0, 1) := by decide +kernel
theorem dX6_controls_26 : decode cX6_controls 26 = .ok (.getfield 22, 3) := by decide +kernel
theorem dX6_controls_29 : decode cX6_controls 29 = .ok (.iconst 0, 1) := by decide +kernel
theorem dX6_controls_30 : decode cX6_controls 30 = .ok (.iload_n 1, 1) := by decide +kernel
theorem dX6_controls_31 : decode cX6_controls 31 = .ok (.iadd, 1) := by decide +kernel
theorem dX6_controls_32 : decode cX6_controls 32 = .ok (.iaload, 1) := by decide +kernel
theorem dX6_controls_33 : decode cX6_controls 33 = .ok (.istore_n 3, 1) := by decide +kernel
theorem dX6_controls_34 : decode cX6_controls 34 = .ok (.iload_n 3, 1) := by decide +kernel
theorem dX6_controls_35 : decode cX6_controls 35 = .ok (.ifCond .ge 7, 3) := by decide +kernel
theorem dX6_controls_38 : decode cX6_controls 38 = .ok (.iconst 1, 1) := by decide +kernel
theorem dX6_controls_39 : decode cX6_controls 39 = .ok (.goto 4, 3) := by decide +kernel
theorem dX6_controls_42 : decode cX6_controls 42 = .ok (.iconst 0, 1) := by decide +kernel
theorem dX6_controls_43 : decode cX6_controls 43 = .ok (.iload_n 2, 1) := by decide +kernel
theorem dX6_controls_44 : decode cX6_controls 44 = .ok (.iconst 1, 1) := by decide +kernel
theorem dX6_controls_45 : decode cX6_controls 45 = .ok (.if_icmp .ne 7, 3) := by decide +kernel
theorem dX6_controls_48 : decode cX6_controls 48 = .ok (.iconst 1, 1) := by decide +kernel
theorem dX6_controls_49 : decode cX6_controls 49 = .ok (.goto 4, 3) := by decide +kernel
theorem dX6_controls_52 : decode cX6_controls 52 = .ok (.iconst 0, 1) := by decide +kernel
theorem dX6_controls_53 : decode cX6_controls 53 = .ok (.if_icmp .ne 6, 3) := by decide +kernel
theorem dX6_controls_56 : decode cX6_controls 56 = .ok (.bipush (-2), 2) := by decide +kernel
theorem dX6_controls_58 : decode cX6_controls 58 = .ok (.ireturn, 1) := by decide +kernel
theorem dX6_controls_59 : decode cX6_controls 59 = .ok (.aload_n 0, 1) := by decide +kernel
theorem dX6_controls_60 : decode cX6_controls 60 = .ok (.invokevirtual 185, 3) := by decide +kernel
theorem dX6_controls_63 : decode cX6_controls 63 = .ok (.aload_n 0, 1) := by decide +kernel
theorem dX6_controls_64 : decode cX6_controls 64 = .ok (.getfield 22, 3) := by decide +kernel
theorem dX6_controls_67 : decode cX6_controls 67 = .ok (.iconst 0, 1) := by decide +kernel
theorem dX6_controls_68 : decode cX6_controls 68 = .ok (.iload_n 1, 1) := by decide +kernel
theorem dX6_controls_69 : decode cX6_controls 69 = .ok (.iadd, 1) := by decide +kernel
theorem dX6_controls_70 : decode cX6_controls 70 = .ok (.iload_n 2, 1) := by decide +kernel
theorem dX6_controls_71 : decode cX6_controls 71 = .ok (.iconst 1, 1) := by decide +kernel
theorem dX6_controls_72 : decode cX6_controls 72 = .ok (.if_icmp .ne 7, 3) := by decide +kernel
theorem dX6_controls_75 : decode cX6_controls 75 = .ok (.iconst (-1), 1) := by decide +kernel
theorem dX6_controls_76 : decode cX6_controls 76 = .ok (.goto 4, 3) := by decide +kernel
theorem dX6_controls_79 : decode cX6_controls 79 = .ok (.iconst 0, 1) := by decide +kernel
theorem dX6_controls_80 : decode cX6_controls 80 = .ok (.iastore, 1) := by decide +kernel
theorem dX6_controls_81 : decode cX6_controls 81 = .ok (.iload_n 3, 1) := by decide +kernel
theorem dX6_controls_82 : decode cX6_controls 82 = .ok (.ifCond .ge 7, 3) := by decide +kernel
theorem dX6_controls_85 : decode cX6_controls 85 = .ok (.iconst 0, 1) := by decide +kernel
theorem dX6_controls_86 : decode cX6_controls 86 = .ok (.goto 4, 3) := by decide +kernel
theorem dX6_controls_89 : decode cX6_controls 89 = .ok (.iload_n 3, 1) := by decide +kernel
theorem dX6_controls_90 : decode cX6_controls 90 = .ok (.ireturn, 1) := by decide +kernel
theorem dX6_moves_0 : decode cX6_moves 0 = .ok (.aload_n 0, 1) := by decide +kernel
theorem dX6_moves_1 : decode cX6_moves 1 = .ok (.iconst 0, 1) := by decide +kernel
theorem dX6_moves_2 : decode cX6_moves 2 = .ok (.putfield 59, 3) := by decide +kernel
theorem dX6_moves_5 : decode cX6_moves 5 = .ok (.aload_n 0, 1) := by decide +kernel
theorem dX6_moves_6 : decode cX6_moves 6 = .ok (.iload_n 1, 1) := by decide +kernel
theorem dX6_moves_7 : decode cX6_moves 7 = .ok (.invokevirtual 194, 3) := by decide +kernel
theorem dX6_moves_10 : decode cX6_moves 10 = .ok (.ifCond .ne 5, 3) := by decide +kernel
theorem dX6_moves_13 : decode cX6_moves 13 = .ok (.iconst (-1), 1) := by decide +kernel
theorem dX6_moves_14 : decode cX6_moves 14 = .ok (.ireturn, 1) := by decide +kernel
theorem dX6_moves_15 : decode cX6_moves 15 = .ok (.aload_n 0, 1) := by decide +kernel
theorem dX6_moves_16 : decode cX6_moves 16 = .ok (.getfield 22, 3) := by decide +kernel
theorem dX6_moves_19 : decode cX6_moves 19 = .ok (.bipush 13, 2) := by decide +kernel
theorem dX6_moves_21 : decode cX6_moves 21 = .ok (.iload_n 1, 1) := by decide +kernel
theorem dX6_moves_22 : decode cX6_moves 22 = .ok (.iadd, 1) := by decide +kernel
theorem dX6_moves_23 : decode cX6_moves 23 = .ok (.iaload, 1) := by decide +kernel
theorem dX6_moves_24 : decode cX6_moves 24 = .ok (.ifCond .eq 6, 3) := by decide +kernel
theorem dX6_moves_27 : decode cX6_moves 27 = .ok (.bipush (-2), 2) := by decide +kernel
theorem dX6_moves_29 : decode cX6_moves 29 = .ok (.ireturn, 1) := by decide +kernel
theorem dX6_moves_30 : decode cX6_moves 30 = .ok (.aload_n 0, 1) := by decide +kernel
theorem dX6_moves_31 : decode cX6_moves 31 = .ok (.invokevirtual 185, 3) := by decide +kernel
theorem dX6_moves_34 : decode cX6_moves 34 = .ok (.aload_n 0, 1) := by decide +kernel
theorem dX6_moves_35 : decode cX6_moves 35 = .ok (.getfield 22, 3) := by decide +kernel
theorem dX6_moves_38 : decode cX6_moves 38 = .ok (.bipush 6, 2) := by decide +kernel
theorem dX6_moves_40 : decode cX6_moves 40 = .ok (.iload_n 1, 1) := by decide +kernel
theorem dX6_moves_41 : decode cX6_moves 41 = .ok (.iadd, 1) := by decide +kernel
theorem dX6_moves_42 : decode cX6_moves 42 = .ok (.iconst 1, 1) := by decide +kernel
theorem dX6_moves_43 : decode cX6_moves 43 = .ok (.aload_n 0, 1) := by decide +kernel
theorem dX6_moves_44 : decode cX6_moves 44 = .ok (.getfield 22, 3) := by decide +kernel
theorem dX6_moves_47 : decode cX6_moves 47 = .ok (.bipush 6, 2) := by decide +kernel
theorem dX6_moves_49 : decode cX6_moves 49 = .ok (.iload_n 1, 1) := by decide +kernel
theorem dX6_moves_50 : decode cX6_moves 50 = .ok (.iadd, 1) := by decide +kernel
theorem dX6_moves_51 : decode cX6_moves 51 = .ok (.iaload, 1) := by decide +kernel
theorem dX6_moves_52 : decode cX6_moves 52 = .ok (.isub, 1) := by decide +kernel
theorem dX6_moves_53 : decode cX6_moves 53 = .ok (.iastore, 1) := by decide +kernel
theorem dX6_moves_54 : decode cX6_moves 54 = .ok (.aload_n 0, 1) := by decide +kernel
theorem dX6_moves_55 : decode cX6_moves 55 = .ok (.getfield 22, 3) := by decide +kernel
theorem dX6_moves_58 : decode cX6_moves 58 = .ok (.bipush 6, 2) := by decide +kernel
theorem dX6_moves_60 : decode cX6_moves 60 = .ok (.iload_n 1, 1) := by decide +kernel
theorem dX6_moves_61 : decode cX6_moves 61 = .ok (.iadd, 1) := by decide +kernel
theorem dX6_moves_62 : decode cX6_moves 62 = .ok (.iaload, 1) := by decide +kernel
theorem dX6_moves_63 : decode cX6_moves 63 = .ok (.ireturn, 1) := by decide +kernel
theorem dX6_undo_0 : decode cX6_undo 0 = .ok (.aload_n 0, 1) := by decide +kernel
theorem dX6_undo_1 : decode cX6_undo 1 = .ok (.iconst 0, 1) := by decide +kernel
theorem dX6_undo_2 : decode cX6_undo 2 = .ok (.putfield 59, 3) := by decide +kernel
theorem dX6_undo_5 : decode cX6_undo 5 = .ok (.aload_n 0, 1) := by decide +kernel
theorem dX6_undo_6 : decode cX6_undo 6 = .ok (.getfield 124, 3) := by decide +kernel
theorem dX6_undo_9 : decode cX6_undo 9 = .ok (.ifCond .ne 6, 3) := by decide +kernel
theorem dX6_undo_12 : decode cX6_undo 12 = .ok (.bipush (-2), 2) := by decide +kernel
theorem dX6_undo_14 : decode cX6_undo 14 = .ok (.ireturn, 1) := by decide +kernel
theorem dX6_undo_15 : decode cX6_undo 15 = .ok (.aload_n 0, 1) := by decide +kernel
theorem dX6_undo_16 : decode cX6_undo 16 = .ok (.dup, 1) := by decide +kernel
theorem dX6_undo_17 : decode cX6_undo 17 = .ok (.getfield 124, 3) := by decide +kernel
theorem dX6_undo_20 : decode cX6_undo 20 = .ok (.iconst 1, 1) := by decide +kernel
theorem dX6_undo_21 : decode cX6_undo 21 = .ok (.isub, 1) := by decide +kernel
theorem dX6_undo_22 : decode cX6_undo 22 = .ok (.putfield 124, 3) := by decide +kernel
theorem dX6_undo_25 : decode cX6_undo 25 = .ok (.iconst 0, 1) := by decide +kernel
theorem dX6_undo_26 : decode cX6_undo 26 = .ok (.istore_n 1, 1) := by decide +kernel
theorem dX6_undo_27 : decode cX6_undo 27 = .ok (.iload_n 1, 1) := by decide +kernel
theorem dX6_undo_28 : decode cX6_undo 28 = .ok (.bipush 41, 2) := by decide +kernel
theorem dX6_undo_30 : decode cX6_undo 30 = .ok (.if_icmp .ge 29, 3) := by decide +kernel
theorem dX6_undo_33 : decode cX6_undo 33 = .ok (.aload_n 0, 1) := by decide +kernel
theorem dX6_undo_34 : decode cX6_undo 34 = .ok (.getfield 22, 3) := by decide +kernel
theorem dX6_undo_37 : decode cX6_undo 37 = .ok (.iload_n 1, 1) := by decide +kernel
theorem dX6_undo_38 : decode cX6_undo 38 = .ok (.aload_n 0, 1) := by decide +kernel
theorem dX6_undo_39 : decode cX6_undo 39 = .ok (.getfield 28, 3) := by decide +kernel
theorem dX6_undo_42 : decode cX6_undo 42 = .ok (.bipush 41, 2) := by decide +kernel
theorem dX6_undo_44 : decode cX6_undo 44 = .ok (.aload_n 0, 1) := by decide +kernel
theorem dX6_undo_45 : decode cX6_undo 45 = .ok (.getfield 124, 3) := by decide +kernel
theorem dX6_undo_48 : decode cX6_undo 48 = .ok (.imul, 1) := by decide +kernel
theorem dX6_undo_49 : decode cX6_undo 49 = .ok (.iload_n 1, 1) := by decide +kernel
theorem dX6_undo_50 : decode cX6_undo 50 = .ok (.iadd, 1) := by decide +kernel
theorem dX6_undo_51 : decode cX6_undo 51 = .ok (.iaload, 1) := by decide +kernel
theorem dX6_undo_52 : decode cX6_undo 52 = .ok (.iastore, 1) := by decide +kernel
theorem dX6_undo_53 : decode cX6_undo 53 = .ok (.iinc 1 1, 3) := by decide +kernel
theorem dX6_undo_56 : decode cX6_undo 56 = .ok (.goto (-29), 3) := by decide +kernel
theorem dX6_undo_59 : decode cX6_undo 59 = .ok (.aload_n 0, 1) := by decide +kernel
theorem dX6_undo_60 : decode cX6_undo 60 = .ok (.getfield 124, 3) := by decide +kernel
theorem dX6_undo_63 : decode cX6_undo 63 = .ok (.ireturn, 1) := by decide +kernel
theorem dX6_radio_0 : decode cX6_radio 0 = .ok (.aload_n 0, 1) := by decide +kernel
theorem dX6_radio_1 : decode cX6_radio 1 = .ok (.iconst 0, 1) := by decide +kernel
theorem dX6_radio_2 : decode cX6_radio 2 = .ok (.putfield 59, 3) := by decide +kernel
theorem dX6_radio_5 : decode cX6_radio 5 = .ok (.aload_n 0, 1) := by decide +kernel
theorem dX6_radio_6 : decode cX6_radio 6 = .ok (.iload_n 1, 1) := by decide +kernel
theorem dX6_radio_7 : decode cX6_radio 7 = .ok (.invokevirtual 194, 3) := by decide +kernel
theorem dX6_radio_10 : decode cX6_radio 10 = .ok (.ifCond .eq 13, 3) := by decide +kernel
theorem dX6_radio_13 : decode cX6_radio 13 = .ok (.iload_n 2, 1) := by decide +kernel
theorem dX6_radio_14 : decode cX6_radio 14 = .ok (.iconst 0, 1) := by decide +kernel
theorem dX6_radio_15 : decode cX6_radio 15 = .ok (.bipush 6, 2) := by decide +kernel
theorem dX6_radio_17 : decode cX6_radio 17 = .ok (.invokestatic 63, 3) := by decide +kernel
theorem dX6_radio_20 : decode cX6_radio 20 = .ok (.ifCond .ne 5, 3) := by decide +kernel
theorem dX6_radio_23 : decode cX6_radio 23 = .ok (.iconst (-1), 1) := by decide +kernel
theorem dX6_radio_24 : decode cX6_radio 24 = .ok (.ireturn, 1) := by decide +kernel
theorem dX6_radio_25 : decode cX6_radio 25 = .ok (.iload_n 2, 1) := by decide +kernel
theorem dX6_radio_26 : decode cX6_radio 26 = .ok (.iconst 3, 1) := by decide +kernel
theorem dX6_radio_27 : decode cX6_radio 27 = .ok (.if_icmp .ge 45, 3) := by decide +kernel
theorem dX6_radio_30 : decode cX6_radio 30 = .ok (.iload_n 2, 1) := by decide +kernel
theorem dX6_radio_31 : decode cX6_radio 31 = .ok (.ifCond .ne 15, 3) := by decide +kernel
theorem dX6_radio_34 : decode cX6_radio 34 = .ok (.aload_n 0, 1) := by decide +kernel
theorem dX6_radio_35 : decode cX6_radio 35 = .ok (.getfield 22, 3) := by decide +kernel
theorem dX6_radio_38 : decode cX6_radio 38 = .ok (.bipush 6, 2) := by decide +kernel
theorem dX6_radio_40 : decode cX6_radio 40 = .ok (.iload_n 1, 1) := by decide +kernel
theorem dX6_radio_41 : decode cX6_radio 41 = .ok (.iadd, 1) := by decide +kernel
theorem dX6_radio_42 : decode cX6_radio 42 = .ok (.iaload, 1) := by decide +kernel
theorem dX6_radio_43 : decode cX6_radio 43 = .ok (.goto 28, 3) := by decide +kernel
theorem dX6_radio_46 : decode cX6_radio 46 = .ok (.iload_n 2, 1) := by decide +kernel
theorem dX6_radio_47 : decode cX6_radio 47 = .ok (.iconst 1, 1) := by decide +kernel
theorem dX6_radio_48 : decode cX6_radio 48 = .ok (.if_icmp .ne 14, 3) := by decide +kernel
theorem dX6_radio_51 : decode cX6_radio 51 = .ok (.aload_n 0, 1) := by decide +kernel
theorem dX6_radio_52 : decode cX6_radio 52 = .ok (.getfield 13, 3) := by decide +kernel
theorem dX6_radio_55 : decode cX6_radio 55 = .ok (.iconst 5, 1) := by decide +kernel
theorem dX6_radio_56 : decode cX6_radio 56 = .ok (.iload_n 1, 1) := by decide +kernel
theorem dX6_radio_57 : decode cX6_radio 57 = .ok (.iadd, 1) := by decide +kernel
theorem dX6_radio_58 : decode cX6_radio 58 = .ok (.iaload, 1) := by decide +kernel
theorem dX6_radio_59 : decode cX6_radio 59 = .ok (.goto 12, 3) := by decide +kernel
theorem dX6_radio_62 : decode cX6_radio 62 = .ok (.aload_n 0, 1) := by decide +kernel
theorem dX6_radio_63 : decode cX6_radio 63 = .ok (.getfield 13, 3) := by decide +kernel
theorem dX6_radio_66 : decode cX6_radio 66 = .ok (.bipush 12, 2) := by decide +kernel
theorem dX6_radio_68 : decode cX6_radio 68 = .ok (.iload_n 1, 1) := by decide +kernel
theorem dX6_radio_69 : decode cX6_radio 69 = .ok (.iadd, 1) := by decide +kernel
theorem dX6_radio_70 : decode cX6_radio 70 = .ok (.iaload, 1) := by decide +kernel
theorem dX6_radio_71 : decode cX6_radio 71 = .ok (.ireturn, 1) := by decide +kernel
theorem dX6_radio_72 : decode cX6_radio 72 = .ok (.iload_n 2, 1) := by decide +kernel
theorem dX6_radio_73 : decode cX6_radio 73 = .ok (.iconst 3, 1) := by decide +kernel
theorem dX6_radio_74 : decode cX6_radio 74 = .ok (.if_icmp .ne 15, 3) := by decide +kernel
theorem dX6_radio_77 : decode cX6_radio 77 = .ok (.aload_n 0, 1) := by decide +kernel
theorem dX6_radio_78 : decode cX6_radio 78 = .ok (.getfield 22, 3) := by decide +kernel
theorem dX6_radio_81 : decode cX6_radio 81 = .ok (.bipush 13, 2) := by decide +kernel
theorem dX6_radio_83 : decode cX6_radio 83 = .ok (.iload_n 1, 1) := by decide +kernel
theorem dX6_radio_84 : decode cX6_radio 84 = .ok (.iadd, 1) := by decide +kernel
theorem dX6_radio_85 : decode cX6_radio 85 = .ok (.iaload, 1) := by decide +kernel
theorem dX6_radio_86 : decode cX6_radio 86 = .ok (.goto 46, 3) := by decide +kernel
theorem dX6_radio_89 : decode cX6_radio 89 = .ok (.iload_n 2, 1) := by decide +kernel
theorem dX6_radio_90 : decode cX6_radio 90 = .ok (.iconst 4, 1) := by decide +kernel
theorem dX6_radio_91 : decode cX6_radio 91 = .ok (.if_icmp .ne 15, 3) := by decide +kernel
theorem dX6_radio_94 : decode cX6_radio 94 = .ok (.aload_n 0, 1) := by decide +kernel
theorem dX6_radio_95 : decode cX6_radio 95 = .ok (.getfield 22, 3) := by decide +kernel
theorem dX6_radio_98 : decode cX6_radio 98 = .ok (.bipush 20, 2) := by decide +kernel
theorem dX6_radio_100 : decode cX6_radio 100 = .ok (.iload_n 1, 1) := by decide +kernel
theorem dX6_radio_101 : decode cX6_radio 101 = .ok (.iadd, 1) := by decide +kernel
theorem dX6_radio_102 : decode cX6_radio 102 = .ok (.iaload, 1) := by decide +kernel
theorem dX6_radio_103 : decode cX6_radio 103 = .ok (.goto 29, 3) := by decide +kernel
theorem dX6_radio_106 : decode cX6_radio 106 = .ok (.iload_n 2, 1) := by decide +kernel
theorem dX6_radio_107 : decode cX6_radio 107 = .ok (.iconst 5, 1) := by decide +kernel
theorem dX6_radio_108 : decode cX6_radio 108 = .ok (.if_icmp .ne 15, 3) := by decide +kernel
theorem dX6_radio_111 : decode cX6_radio 111 = .ok (.aload_n 0, 1) := by decide +kernel
theorem dX6_radio_112 : decode cX6_radio 112 = .ok (.getfield 22, 3) := by decide +kernel
theorem dX6_radio_115 : decode cX6_radio 115 = .ok (.bipush 27, 2) := by decide +kernel
theorem dX6_radio_117 : decode cX6_radio 117 = .ok (.iload_n 1, 1) := by decide +kernel
theorem dX6_radio_118 : decode cX6_radio 118 = .ok (.iadd, 1) := by decide +kernel
theorem dX6_radio_119 : decode cX6_radio 119 = .ok (.iaload, 1) := by decide +kernel
theorem dX6_radio_120 : decode cX6_radio 120 = .ok (.goto 12, 3) := by decide +kernel
theorem dX6_radio_123 : decode cX6_radio 123 = .ok (.aload_n 0, 1) := by decide +kernel
theorem dX6_radio_124 : decode cX6_radio 124 = .ok (.getfield 22, 3) := by decide +kernel
theorem dX6_radio_127 : decode cX6_radio 127 = .ok (.bipush 34, 2) := by decide +kernel
theorem dX6_radio_129 : decode cX6_radio 129 = .ok (.iload_n 1, 1) := by decide +kernel
theorem dX6_radio_130 : decode cX6_radio 130 = .ok (.iadd, 1) := by decide +kernel
theorem dX6_radio_131 : decode cX6_radio 131 = .ok (.iaload, 1) := by decide +kernel
theorem dX6_radio_132 : decode cX6_radio 132 = .ok (.ireturn, 1) := by decide +kernel
theorem dX6_site_0 : decode cX6_site 0 = .ok (.aload_n 0, 1) := by decide +kernel
theorem dX6_site_1 : decode cX6_site 1 = .ok (.iconst 0, 1) := by decide +kernel
theorem dX6_site_2 : decode cX6_site 2 = .ok (.putfield 59, 3) := by decide +kernel
theorem dX6_site_5 : decode cX6_site 5 = .ok (.iload_n 1, 1) := by decide +kernel
theorem dX6_site_6 : decode cX6_site 6 = .ok (.iconst 0, 1) := by decide +kernel
theorem dX6_site_7 : decode cX6_site 7 = .ok (.iconst 1, 1) := by decide +kernel
theorem dX6_site_8 : decode cX6_site 8 = .ok (.invokestatic 63, 3) := by decide +kernel
theorem dX6_site_11 : decode cX6_site 11 = .ok (.ifCond .eq 12, 3) := by decide +kernel
theorem dX6_site_14 : decode cX6_site 14 = .ok (.iload_n 2, 1) := by decide +kernel
theorem dX6_site_15 : decode cX6_site 15 = .ok (.iconst 0, 1) := by decide +kernel
theorem dX6_site_16 : decode cX6_site 16 = .ok (.iconst 3, 1) := by decide +kernel
theorem dX6_site_17 : decode cX6_site 17 = .ok (.invokestatic 63, 3) := by decide +kernel
theorem dX6_site_20 : decode cX6_site 20 = .ok (.ifCond .ne 5, 3) := by decide +kernel
theorem dX6_site_23 : decode cX6_site 23 = .ok (.iconst (-1), 1) := by decide +kernel
theorem dX6_site_24 : decode cX6_site 24 = .ok (.ireturn, 1) := by decide +kernel
theorem dX6_site_25 : decode cX6_site 25 = .ok (.aload_n 0, 1) := by decide +kernel
theorem dX6_site_26 : decode cX6_site 26 = .ok (.getfield 22, 3) := by decide +kernel
theorem dX6_site_29 : decode cX6_site 29 = .ok (.iconst 0, 1) := by decide +kernel
theorem dX6_site_30 : decode cX6_site 30 = .ok (.iload_n 1, 1) := by decide +kernel
theorem dX6_site_31 : decode cX6_site 31 = .ok (.iadd, 1) := by decide +kernel
theorem dX6_site_32 : decode cX6_site 32 = .ok (.iaload, 1) := by decide +kernel
theorem dX6_site_33 : decode cX6_site 33 = .ok (.istore_n 3, 1) := by decide +kernel
theorem dX6_site_34 : decode cX6_site 34 = .ok (.iload_n 2, 1) := by decide +kernel
theorem dX6_site_35 : decode cX6_site 35 = .ok (.ifCond .ne 14, 3) := by decide +kernel
theorem dX6_site_38 : decode cX6_site 38 = .ok (.aload_n 0, 1) := by decide +kernel
theorem dX6_site_39 : decode cX6_site 39 = .ok (.getfield 13, 3) := by decide +kernel
theorem dX6_site_42 : decode cX6_site 42 = .ok (.iconst 3, 1) := by decide +kernel
theorem dX6_site_43 : decode cX6_site 43 = .ok (.iload_n 1, 1) := by decide +kernel
theorem dX6_site_44 : decode cX6_site 44 = .ok (.iadd, 1) := by decide +kernel
theorem dX6_site_45 : decode cX6_site 45 = .ok (.iaload, 1) := by decide +kernel
theorem dX6_site_46 : decode cX6_site 46 = .ok (.goto 46, 3) := by decide +kernel
theorem dX6_site_49 : decode cX6_site 49 = .ok (.iload_n 2, 1) := by decide +kernel
theorem dX6_site_50 : decode cX6_site 50 = .ok (.iconst 1, 1) := by decide +kernel
theorem dX6_site_51 : decode cX6_site 51 = .ok (.if_icmp .ne 15, 3) := by decide +kernel
theorem dX6_site_54 : decode cX6_site 54 = .ok (.aload_n 0, 1) := by decide +kernel
theorem dX6_site_55 : decode cX6_site 55 = .ok (.aload_n 0, 1) := by decide +kernel
theorem dX6_site_56 : decode cX6_site 56 = .ok (.getfield 22, 3) := by decide +kernel
theorem dX6_site_59 : decode cX6_site 59 = .ok (.iload_n 1, 1) := by decide +kernel
theorem dX6_site_60 : decode cX6_site 60 = .ok (.invokevirtual 149, 3) := by decide +kernel
theorem dX6_site_63 : decode cX6_site 63 = .ok (.goto 29, 3) := by decide +kernel
theorem dX6_site_66 : decode cX6_site 66 = .ok (.iload_n 2, 1) := by decide +kernel
theorem dX6_site_67 : decode cX6_site 67 = .ok (.iconst 2, 1) := by decide +kernel
theorem dX6_site_68 : decode cX6_site 68 = .ok (.if_icmp .ne 15, 3) := by decide +kernel
theorem dX6_site_71 : decode cX6_site 71 = .ok (.iload_n 3, 1) := by decide +kernel
theorem dX6_site_72 : decode cX6_site 72 = .ok (.ifCond .ge 7, 3) := by decide +kernel
theorem dX6_site_75 : decode cX6_site 75 = .ok (.iconst 1, 1) := by decide +kernel
theorem dX6_site_76 : decode cX6_site 76 = .ok (.goto 16, 3) := by decide +kernel
theorem dX6_site_79 : decode cX6_site 79 = .ok (.iconst 0, 1) := by decide +kernel
theorem dX6_site_80 : decode cX6_site 80 = .ok (.goto 12, 3) := by decide +kernel
theorem dX6_site_83 : decode cX6_site 83 = .ok (.iload_n 3, 1) := by decide +kernel
theorem dX6_site_84 : decode cX6_site 84 = .ok (.ifCond .ge 7, 3) := by decide +kernel
theorem dX6_site_87 : decode cX6_site 87 = .ok (.iconst 0, 1) := by decide +kernel
theorem dX6_site_88 : decode cX6_site 88 = .ok (.goto 4, 3) := by decide +kernel
theorem dX6_site_91 : decode cX6_site 91 = .ok (.iload_n 3, 1) := by decide +kernel
theorem dX6_site_92 : decode cX6_site 92 = .ok (.ireturn, 1) := by decide +kernel
theorem dX6_talker_0 : decode cX6_talker 0 = .ok (.aload_n 0, 1) := by decide +kernel
theorem dX6_talker_1 : decode cX6_talker 1 = .ok (.iconst 0, 1) := by decide +kernel
theorem dX6_talker_2 : decode cX6_talker 2 = .ok (.putfield 59, 3) := by decide +kernel
theorem dX6_talker_5 : decode cX6_talker 5 = .ok (.iload_n 1, 1) := by decide +kernel
theorem dX6_talker_6 : decode cX6_talker 6 = .ok (.iconst 0, 1) := by decide +kernel
theorem dX6_talker_7 : decode cX6_talker 7 = .ok (.iconst 5, 1) := by decide +kernel
theorem dX6_talker_8 : decode cX6_talker 8 = .ok (.invokestatic 63, 3) := by decide +kernel
theorem dX6_talker_11 : decode cX6_talker 11 = .ok (.ifCond .eq 15, 3) := by decide +kernel
theorem dX6_talker_14 : decode cX6_talker 14 = .ok (.aload_n 0, 1) := by decide +kernel
theorem dX6_talker_15 : decode cX6_talker 15 = .ok (.aload_n 0, 1) := by decide +kernel
theorem dX6_talker_16 : decode cX6_talker 16 = .ok (.getfield 22, 3) := by decide +kernel
theorem dX6_talker_19 : decode cX6_talker 19 = .ok (.iload_n 1, 1) := by decide +kernel
theorem dX6_talker_20 : decode cX6_talker 20 = .ok (.invokevirtual 159, 3) := by decide +kernel
theorem dX6_talker_23 : decode cX6_talker 23 = .ok (.goto 4, 3) := by decide +kernel
theorem dX6_talker_26 : decode cX6_talker 26 = .ok (.iconst (-1), 1) := by decide +kernel
theorem dX6_talker_27 : decode cX6_talker 27 = .ok (.ireturn, 1) := by decide +kernel
theorem dX6_queue_0 : decode cX6_queue 0 = .ok (.aload_n 0, 1) := by decide +kernel
theorem dX6_queue_1 : decode cX6_queue 1 = .ok (.iconst 0, 1) := by decide +kernel
theorem dX6_queue_2 : decode cX6_queue 2 = .ok (.putfield 59, 3) := by decide +kernel
theorem dX6_queue_5 : decode cX6_queue 5 = .ok (.iload_n 1, 1) := by decide +kernel
theorem dX6_queue_6 : decode cX6_queue 6 = .ok (.ifCond .ge 5, 3) := by decide +kernel
theorem dX6_queue_9 : decode cX6_queue 9 = .ok (.iconst (-1), 1) := by decide +kernel
theorem dX6_queue_10 : decode cX6_queue 10 = .ok (.ireturn, 1) := by decide +kernel
theorem dX6_queue_11 : decode cX6_queue 11 = .ok (.aload_n 0, 1) := by decide +kernel
theorem dX6_queue_12 : decode cX6_queue 12 = .ok (.aload_n 0, 1) := by decide +kernel
theorem dX6_queue_13 : decode cX6_queue 13 = .ok (.getfield 22, 3) := by decide +kernel
theorem dX6_queue_16 : decode cX6_queue 16 = .ok (.invokevirtual 178, 3) := by decide +kernel
theorem dX6_queue_19 : decode cX6_queue 19 = .ok (.iload_n 1, 1) := by decide +kernel
theorem dX6_queue_20 : decode cX6_queue 20 = .ok (.aload_n 0, 1) := by decide +kernel
theorem dX6_queue_21 : decode cX6_queue 21 = .ok (.getfield 143, 3) := by decide +kernel
theorem dX6_queue_24 : decode cX6_queue 24 = .ok (.if_icmp .ge 12, 3) := by decide +kernel
theorem dX6_queue_27 : decode cX6_queue 27 = .ok (.aload_n 0, 1) := by decide +kernel
theorem dX6_queue_28 : decode cX6_queue 28 = .ok (.getfield 44, 3) := by decide +kernel
theorem dX6_queue_31 : decode cX6_queue 31 = .ok (.iload_n 1, 1) := by decide +kernel
theorem dX6_queue_32 : decode cX6_queue 32 = .ok (.iaload, 1) := by decide +kernel
theorem dX6_queue_33 : decode cX6_queue 33 = .ok (.goto 5, 3) := by decide +kernel
theorem dX6_queue_36 : decode cX6_queue 36 = .ok (.bipush (-9), 2) := by decide +kernel
theorem dX6_queue_38 : decode cX6_queue 38 = .ok (.ireturn, 1) := by decide +kernel
theorem dX6_soon_0 : decode cX6_soon 0 = .ok (.aload_n 0, 1) := by decide +kernel
theorem dX6_soon_1 : decode cX6_soon 1 = .ok (.iconst 0, 1) := by decide +kernel
theorem dX6_soon_2 : decode cX6_soon 2 = .ok (.putfield 59, 3) := by decide +kernel
theorem dX6_soon_5 : decode cX6_soon 5 = .ok (.aload_n 0, 1) := by decide +kernel
theorem dX6_soon_6 : decode cX6_soon 6 = .ok (.iload_n 1, 1) := by decide +kernel
theorem dX6_soon_7 : decode cX6_soon 7 = .ok (.invokevirtual 194, 3) := by decide +kernel
theorem dX6_soon_10 : decode cX6_soon 10 = .ok (.ifCond .ne 5, 3) := by decide +kernel
theorem dX6_soon_13 : decode cX6_soon 13 = .ok (.iconst (-1), 1) := by decide +kernel
theorem dX6_soon_14 : decode cX6_soon 14 = .ok (.ireturn, 1) := by decide +kernel
theorem dX6_soon_15 : decode cX6_soon 15 = .ok (.aload_n 0, 1) := by decide +kernel
theorem dX6_soon_16 : decode cX6_soon 16 = .ok (.getfield 22, 3) := by decide +kernel
theorem dX6_soon_19 : decode cX6_soon 19 = .ok (.aload_n 0, 1) := by decide +kernel
theorem dX6_soon_20 : decode cX6_soon 20 = .ok (.getfield 25, 3) := by decide +kernel
theorem dX6_soon_23 : decode cX6_soon 23 = .ok (.invokestatic 117, 3) := by decide +kernel
theorem dX6_soon_26 : decode cX6_soon 26 = .ok (.iconst 0, 1) := by decide +kernel
theorem dX6_soon_27 : decode cX6_soon 27 = .ok (.istore_n 2, 1) := by decide +kernel
theorem dX6_soon_28 : decode cX6_soon 28 = .ok (.iload_n 2, 1) := by decide +kernel
theorem dX6_soon_29 : decode cX6_soon 29 = .ok (.bipush 60, 2) := by decide +kernel
theorem dX6_soon_31 : decode cX6_soon 31 = .ok (.if_icmp .gt 31, 3) := by decide +kernel
theorem dX6_soon_34 : decode cX6_soon 34 = .ok (.aload_n 0, 1) := by decide +kernel
theorem dX6_soon_35 : decode cX6_soon 35 = .ok (.aload_n 0, 1) := by decide +kernel
theorem dX6_soon_36 : decode cX6_soon 36 = .ok (.getfield 25, 3) := by decide +kernel
theorem dX6_soon_39 : decode cX6_soon 39 = .ok (.iload_n 1, 1) := by decide +kernel
theorem dX6_soon_40 : decode cX6_soon 40 = .ok (.invokevirtual 191, 3) := by decide +kernel
theorem dX6_soon_43 : decode cX6_soon 43 = .ok (.ifCond .eq 5, 3) := by decide +kernel
theorem dX6_soon_46 : decode cX6_soon 46 = .ok (.iload_n 2, 1) := by decide +kernel
theorem dX6_soon_47 : decode cX6_soon 47 = .ok (.ireturn, 1) := by decide +kernel
theorem dX6_soon_48 : decode cX6_soon 48 = .ok (.aload_n 0, 1) := by decide +kernel
theorem dX6_soon_49 : decode cX6_soon 49 = .ok (.aload_n 0, 1) := by decide +kernel
theorem dX6_soon_50 : decode cX6_soon 50 = .ok (.getfield 25, 3) := by decide +kernel
theorem dX6_soon_53 : decode cX6_soon 53 = .ok (.invokevirtual 188, 3) := by decide +kernel
theorem dX6_soon_56 : decode cX6_soon 56 = .ok (.iinc 2 1, 3) := by decide +kernel
end
section
theorem dX6_soon_59 : decode cX6_soon 59 = .ok (.goto (-31), 3) := by decide +kernel
theorem dX6_soon_62 : decode cX6_soon 62 = .ok (.bipush (-9), 2) := by decide +kernel
theorem dX6_soon_64 : decode cX6_soon 64 = .ok (.ireturn, 1) := by decide +kernel
theorem dX6_within_0 : decode cX6_within 0 = .ok (.aload_n 0, 1) := by decide +kernel
theorem dX6_within_1 : decode cX6_within 1 = .ok (.iconst 0, 1) := by decide +kernel
theorem dX6_within_2 : decode cX6_within 2 = .ok (.putfield 59, 3) := by decide +kernel
theorem dX6_within_5 : decode cX6_within 5 = .ok (.iload_n 1, 1) := by decide +kernel
theorem dX6_within_6 : decode cX6_within 6 = .ok (.iconst 1, 1) := by decide +kernel
theorem dX6_within_7 : decode cX6_within 7 = .ok (.bipush 60, 2) := by decide +kernel
theorem dX6_within_9 : decode cX6_within 9 = .ok (.invokestatic 63, 3) := by decide +kernel
theorem dX6_within_12 : decode cX6_within 12 = .ok (.ifCond .eq 12, 3) := by decide +kernel
theorem dX6_within_15 : decode cX6_within 15 = .ok (.iload_n 2, 1) := by decide +kernel
theorem dX6_within_16 : decode cX6_within 16 = .ok (.iconst 0, 1) := by decide +kernel
theorem dX6_within_17 : decode cX6_within 17 = .ok (.iconst 3, 1) := by decide +kernel
theorem dX6_within_18 : decode cX6_within 18 = .ok (.invokestatic 63, 3) := by decide +kernel
theorem dX6_within_21 : decode cX6_within 21 = .ok (.ifCond .ne 5, 3) := by decide +kernel
theorem dX6_within_24 : decode cX6_within 24 = .ok (.iconst (-1), 1) := by decide +kernel
theorem dX6_within_25 : decode cX6_within 25 = .ok (.ireturn, 1) := by decide +kernel
theorem dX6_within_26 : decode cX6_within 26 = .ok (.aload_n 0, 1) := by decide +kernel
theorem dX6_within_27 : decode cX6_within 27 = .ok (.getfield 22, 3) := by decide +kernel
theorem dX6_within_30 : decode cX6_within 30 = .ok (.aload_n 0, 1) := by decide +kernel
theorem dX6_within_31 : decode cX6_within 31 = .ok (.getfield 25, 3) := by decide +kernel
theorem dX6_within_34 : decode cX6_within 34 = .ok (.invokestatic 117, 3) := by decide +kernel
theorem dX6_within_37 : decode cX6_within 37 = .ok (.iconst 0, 1) := by decide +kernel
theorem dX6_within_38 : decode cX6_within 38 = .ok (.istore_n 3, 1) := by decide +kernel
theorem dX6_within_39 : decode cX6_within 39 = .ok (.iconst 0, 1) := by decide +kernel
theorem dX6_within_40 : decode cX6_within 40 = .ok (.istore 4, 2) := by decide +kernel
theorem dX6_within_42 : decode cX6_within 42 = .ok (.iload 4, 2) := by decide +kernel
theorem dX6_within_44 : decode cX6_within 44 = .ok (.iload_n 1, 1) := by decide +kernel
theorem dX6_within_45 : decode cX6_within 45 = .ok (.if_icmp .ge 42, 3) := by decide +kernel
theorem dX6_within_48 : decode cX6_within 48 = .ok (.aload_n 0, 1) := by decide +kernel
theorem dX6_within_49 : decode cX6_within 49 = .ok (.aload_n 0, 1) := by decide +kernel
theorem dX6_within_50 : decode cX6_within 50 = .ok (.getfield 25, 3) := by decide +kernel
theorem dX6_within_53 : decode cX6_within 53 = .ok (.invokevirtual 188, 3) := by decide +kernel
theorem dX6_within_56 : decode cX6_within 56 = .ok (.iload_n 3, 1) := by decide +kernel
theorem dX6_within_57 : decode cX6_within 57 = .ok (.iload_n 2, 1) := by decide +kernel
theorem dX6_within_58 : decode cX6_within 58 = .ok (.iconst 2, 1) := by decide +kernel
theorem dX6_within_59 : decode cX6_within 59 = .ok (.if_icmp .ge 19, 3) := by decide +kernel
theorem dX6_within_62 : decode cX6_within 62 = .ok (.aload_n 0, 1) := by decide +kernel
theorem dX6_within_63 : decode cX6_within 63 = .ok (.aload_n 0, 1) := by decide +kernel
theorem dX6_within_64 : decode cX6_within 64 = .ok (.getfield 25, 3) := by decide +kernel
theorem dX6_within_67 : decode cX6_within 67 = .ok (.iload_n 2, 1) := by decide +kernel
theorem dX6_within_68 : decode cX6_within 68 = .ok (.invokevirtual 149, 3) := by decide +kernel
theorem dX6_within_71 : decode cX6_within 71 = .ok (.ifCond .gt 7, 3) := by decide +kernel
theorem dX6_within_74 : decode cX6_within 74 = .ok (.iconst 1, 1) := by decide +kernel
theorem dX6_within_75 : decode cX6_within 75 = .ok (.goto 4, 3) := by decide +kernel
theorem dX6_within_78 : decode cX6_within 78 = .ok (.iconst 0, 1) := by decide +kernel
theorem dX6_within_79 : decode cX6_within 79 = .ok (.iadd, 1) := by decide +kernel
theorem dX6_within_80 : decode cX6_within 80 = .ok (.istore_n 3, 1) := by decide +kernel
theorem dX6_within_81 : decode cX6_within 81 = .ok (.iinc 4 1, 3) := by decide +kernel
theorem dX6_within_84 : decode cX6_within 84 = .ok (.goto (-42), 3) := by decide +kernel
theorem dX6_within_87 : decode cX6_within 87 = .ok (.iload_n 2, 1) := by decide +kernel
theorem dX6_within_88 : decode cX6_within 88 = .ok (.iconst 2, 1) := by decide +kernel
theorem dX6_within_89 : decode cX6_within 89 = .ok (.if_icmp .ge 7, 3) := by decide +kernel
theorem dX6_within_92 : decode cX6_within 92 = .ok (.iload_n 3, 1) := by decide +kernel
theorem dX6_within_93 : decode cX6_within 93 = .ok (.goto 37, 3) := by decide +kernel
theorem dX6_within_96 : decode cX6_within 96 = .ok (.iload_n 2, 1) := by decide +kernel
theorem dX6_within_97 : decode cX6_within 97 = .ok (.iconst 2, 1) := by decide +kernel
theorem dX6_within_98 : decode cX6_within 98 = .ok (.if_icmp .ne 19, 3) := by decide +kernel
theorem dX6_within_101 : decode cX6_within 101 = .ok (.aload_n 0, 1) := by decide +kernel
theorem dX6_within_102 : decode cX6_within 102 = .ok (.getfield 25, 3) := by decide +kernel
theorem dX6_within_105 : decode cX6_within 105 = .ok (.iconst 3, 1) := by decide +kernel
theorem dX6_within_106 : decode cX6_within 106 = .ok (.iaload, 1) := by decide +kernel
theorem dX6_within_107 : decode cX6_within 107 = .ok (.aload_n 0, 1) := by decide +kernel
theorem dX6_within_108 : decode cX6_within 108 = .ok (.getfield 22, 3) := by decide +kernel
theorem dX6_within_111 : decode cX6_within 111 = .ok (.iconst 3, 1) := by decide +kernel
theorem dX6_within_112 : decode cX6_within 112 = .ok (.iaload, 1) := by decide +kernel
theorem dX6_within_113 : decode cX6_within 113 = .ok (.isub, 1) := by decide +kernel
theorem dX6_within_114 : decode cX6_within 114 = .ok (.goto 16, 3) := by decide +kernel
theorem dX6_within_117 : decode cX6_within 117 = .ok (.aload_n 0, 1) := by decide +kernel
theorem dX6_within_118 : decode cX6_within 118 = .ok (.getfield 25, 3) := by decide +kernel
theorem dX6_within_121 : decode cX6_within 121 = .ok (.iconst 5, 1) := by decide +kernel
theorem dX6_within_122 : decode cX6_within 122 = .ok (.iaload, 1) := by decide +kernel
theorem dX6_within_123 : decode cX6_within 123 = .ok (.aload_n 0, 1) := by decide +kernel
theorem dX6_within_124 : decode cX6_within 124 = .ok (.getfield 22, 3) := by decide +kernel
theorem dX6_within_127 : decode cX6_within 127 = .ok (.iconst 5, 1) := by decide +kernel
theorem dX6_within_128 : decode cX6_within 128 = .ok (.iaload, 1) := by decide +kernel
theorem dX6_within_129 : decode cX6_within 129 = .ok (.isub, 1) := by decide +kernel
theorem dX6_within_130 : decode cX6_within 130 = .ok (.ireturn, 1) := by decide +kernel
theorem dX6_presses2_0 : decode cX6_presses2 0 = .ok (.aload_n 0, 1) := by decide +kernel
theorem dX6_presses2_1 : decode cX6_presses2 1 = .ok (.getfield 22, 3) := by decide +kernel
theorem dX6_presses2_4 : decode cX6_presses2 4 = .ok (.aload_n 0, 1) := by decide +kernel
theorem dX6_presses2_5 : decode cX6_presses2 5 = .ok (.getfield 25, 3) := by decide +kernel
theorem dX6_presses2_8 : decode cX6_presses2 8 = .ok (.invokestatic 117, 3) := by decide +kernel
theorem dX6_presses2_11 : decode cX6_presses2 11 = .ok (.iconst 0, 1) := by decide +kernel
theorem dX6_presses2_12 : decode cX6_presses2 12 = .ok (.istore_n 2, 1) := by decide +kernel
theorem dX6_presses2_13 : decode cX6_presses2 13 = .ok (.iload_n 2, 1) := by decide +kernel
theorem dX6_presses2_14 : decode cX6_presses2 14 = .ok (.aload_n 0, 1) := by decide +kernel
theorem dX6_presses2_15 : decode cX6_presses2 15 = .ok (.getfield 13, 3) := by decide +kernel
theorem dX6_presses2_18 : decode cX6_presses2 18 = .ok (.iconst 0, 1) := by decide +kernel
theorem dX6_presses2_19 : decode cX6_presses2 19 = .ok (.iaload, 1) := by decide +kernel
theorem dX6_presses2_20 : decode cX6_presses2 20 = .ok (.if_icmp .ge 39, 3) := by decide +kernel
theorem dX6_presses2_23 : decode cX6_presses2 23 = .ok (.iload_n 1, 1) := by decide +kernel
theorem dX6_presses2_24 : decode cX6_presses2 24 = .ok (.iload_n 2, 1) := by decide +kernel
theorem dX6_presses2_25 : decode cX6_presses2 25 = .ok (.invokestatic 139, 3) := by decide +kernel
theorem dX6_presses2_28 : decode cX6_presses2 28 = .ok (.ifCond .eq 25, 3) := by decide +kernel
theorem dX6_presses2_31 : decode cX6_presses2 31 = .ok (.aload_n 0, 1) := by decide +kernel
theorem dX6_presses2_32 : decode cX6_presses2 32 = .ok (.getfield 25, 3) := by decide +kernel
theorem dX6_presses2_35 : decode cX6_presses2 35 = .ok (.bipush 13, 2) := by decide +kernel
theorem dX6_presses2_37 : decode cX6_presses2 37 = .ok (.iload_n 2, 1) := by decide +kernel
theorem dX6_presses2_38 : decode cX6_presses2 38 = .ok (.iadd, 1) := by decide +kernel
theorem dX6_presses2_39 : decode cX6_presses2 39 = .ok (.iaload, 1) := by decide +kernel
theorem dX6_presses2_40 : decode cX6_presses2 40 = .ok (.ifCond .ne 13, 3) := by decide +kernel
theorem dX6_presses2_43 : decode cX6_presses2 43 = .ok (.aload_n 0, 1) := by decide +kernel
theorem dX6_presses2_44 : decode cX6_presses2 44 = .ok (.getfield 25, 3) := by decide +kernel
theorem dX6_presses2_47 : decode cX6_presses2 47 = .ok (.bipush 13, 2) := by decide +kernel
theorem dX6_presses2_49 : decode cX6_presses2 49 = .ok (.iload_n 2, 1) := by decide +kernel
theorem dX6_presses2_50 : decode cX6_presses2 50 = .ok (.iadd, 1) := by decide +kernel
theorem dX6_presses2_51 : decode cX6_presses2 51 = .ok (.iconst 1, 1) := by decide +kernel
theorem dX6_presses2_52 : decode cX6_presses2 52 = .ok (.iastore, 1) := by decide +kernel
theorem dX6_presses2_53 : decode cX6_presses2 53 = .ok (.iinc 2 1, 3) := by decide +kernel
theorem dX6_presses2_56 : decode cX6_presses2 56 = .ok (.goto (-43), 3) := by decide +kernel
theorem dX6_presses2_59 : decode cX6_presses2 59 = .ok (.return_, 1) := by decide +kernel
theorem dX6_lasts_0 : decode cX6_lasts 0 = .ok (.iconst 0, 1) := by decide +kernel
theorem dX6_lasts_1 : decode cX6_lasts 1 = .ok (.istore_n 1, 1) := by decide +kernel
theorem dX6_lasts_2 : decode cX6_lasts 2 = .ok (.iload_n 1, 1) := by decide +kernel
theorem dX6_lasts_3 : decode cX6_lasts 3 = .ok (.bipush 60, 2) := by decide +kernel
theorem dX6_lasts_5 : decode cX6_lasts 5 = .ok (.if_icmp .gt 70, 3) := by decide +kernel
theorem dX6_lasts_8 : decode cX6_lasts 8 = .ok (.iconst 0, 1) := by decide +kernel
theorem dX6_lasts_9 : decode cX6_lasts 9 = .ok (.istore_n 2, 1) := by decide +kernel
theorem dX6_lasts_10 : decode cX6_lasts 10 = .ok (.iconst 0, 1) := by decide +kernel
theorem dX6_lasts_11 : decode cX6_lasts 11 = .ok (.istore_n 3, 1) := by decide +kernel
theorem dX6_lasts_12 : decode cX6_lasts 12 = .ok (.iload_n 3, 1) := by decide +kernel
theorem dX6_lasts_13 : decode cX6_lasts 13 = .ok (.aload_n 0, 1) := by decide +kernel
theorem dX6_lasts_14 : decode cX6_lasts 14 = .ok (.getfield 13, 3) := by decide +kernel
theorem dX6_lasts_17 : decode cX6_lasts 17 = .ok (.iconst 0, 1) := by decide +kernel
theorem dX6_lasts_18 : decode cX6_lasts 18 = .ok (.iaload, 1) := by decide +kernel
theorem dX6_lasts_19 : decode cX6_lasts 19 = .ok (.if_icmp .ge 36, 3) := by decide +kernel
theorem dX6_lasts_22 : decode cX6_lasts 22 = .ok (.iload_n 2, 1) := by decide +kernel
theorem dX6_lasts_23 : decode cX6_lasts 23 = .ok (.ifCond .ne 20, 3) := by decide +kernel
theorem dX6_lasts_26 : decode cX6_lasts 26 = .ok (.aload_n 0, 1) := by decide +kernel
theorem dX6_lasts_27 : decode cX6_lasts 27 = .ok (.getfield 25, 3) := by decide +kernel
theorem dX6_lasts_30 : decode cX6_lasts 30 = .ok (.bipush 13, 2) := by decide +kernel
theorem dX6_lasts_32 : decode cX6_lasts 32 = .ok (.iload_n 3, 1) := by decide +kernel
theorem dX6_lasts_33 : decode cX6_lasts 33 = .ok (.iadd, 1) := by decide +kernel
theorem dX6_lasts_34 : decode cX6_lasts 34 = .ok (.iaload, 1) := by decide +kernel
theorem dX6_lasts_35 : decode cX6_lasts 35 = .ok (.iconst 1, 1) := by decide +kernel
theorem dX6_lasts_36 : decode cX6_lasts 36 = .ok (.iconst 3, 1) := by decide +kernel
theorem dX6_lasts_37 : decode cX6_lasts 37 = .ok (.invokestatic 63, 3) := by decide +kernel
theorem dX6_lasts_40 : decode cX6_lasts 40 = .ok (.ifCond .eq 7, 3) := by decide +kernel
theorem dX6_lasts_43 : decode cX6_lasts 43 = .ok (.iconst 1, 1) := by decide +kernel
theorem dX6_lasts_44 : decode cX6_lasts 44 = .ok (.goto 4, 3) := by decide +kernel
theorem dX6_lasts_47 : decode cX6_lasts 47 = .ok (.iconst 0, 1) := by decide +kernel
theorem dX6_lasts_48 : decode cX6_lasts 48 = .ok (.istore_n 2, 1) := by decide +kernel
theorem dX6_lasts_49 : decode cX6_lasts 49 = .ok (.iinc 3 1, 3) := by decide +kernel
theorem dX6_lasts_52 : decode cX6_lasts 52 = .ok (.goto (-40), 3) := by decide +kernel
theorem dX6_lasts_55 : decode cX6_lasts 55 = .ok (.iload_n 2, 1) := by decide +kernel
theorem dX6_lasts_56 : decode cX6_lasts 56 = .ok (.ifCond .ne 5, 3) := by decide +kernel
theorem dX6_lasts_59 : decode cX6_lasts 59 = .ok (.iload_n 1, 1) := by decide +kernel
theorem dX6_lasts_60 : decode cX6_lasts 60 = .ok (.ireturn, 1) := by decide +kernel
theorem dX6_lasts_61 : decode cX6_lasts 61 = .ok (.aload_n 0, 1) := by decide +kernel
theorem dX6_lasts_62 : decode cX6_lasts 62 = .ok (.aload_n 0, 1) := by decide +kernel
theorem dX6_lasts_63 : decode cX6_lasts 63 = .ok (.getfield 25, 3) := by decide +kernel
theorem dX6_lasts_66 : decode cX6_lasts 66 = .ok (.invokevirtual 188, 3) := by decide +kernel
theorem dX6_lasts_69 : decode cX6_lasts 69 = .ok (.iinc 1 1, 3) := by decide +kernel
theorem dX6_lasts_72 : decode cX6_lasts 72 = .ok (.goto (-70), 3) := by decide +kernel
theorem dX6_lasts_75 : decode cX6_lasts 75 = .ok (.bipush (-9), 2) := by decide +kernel
theorem dX6_lasts_77 : decode cX6_lasts 77 = .ok (.ireturn, 1) := by decide +kernel
theorem dX6_enough_0 : decode cX6_enough 0 = .ok (.aload_n 0, 1) := by decide +kernel
theorem dX6_enough_1 : decode cX6_enough 1 = .ok (.getfield 13, 3) := by decide +kernel
theorem dX6_enough_4 : decode cX6_enough 4 = .ok (.iconst 3, 1) := by decide +kernel
theorem dX6_enough_5 : decode cX6_enough 5 = .ok (.iaload, 1) := by decide +kernel
theorem dX6_enough_6 : decode cX6_enough 6 = .ok (.istore_n 2, 1) := by decide +kernel
theorem dX6_enough_7 : decode cX6_enough 7 = .ok (.aload_n 0, 1) := by decide +kernel
theorem dX6_enough_8 : decode cX6_enough 8 = .ok (.getfield 13, 3) := by decide +kernel
theorem dX6_enough_11 : decode cX6_enough 11 = .ok (.iconst 4, 1) := by decide +kernel
theorem dX6_enough_12 : decode cX6_enough 12 = .ok (.iaload, 1) := by decide +kernel
theorem dX6_enough_13 : decode cX6_enough 13 = .ok (.istore_n 3, 1) := by decide +kernel
theorem dX6_enough_14 : decode cX6_enough 14 = .ok (.bipush (-9), 2) := by decide +kernel
theorem dX6_enough_16 : decode cX6_enough 16 = .ok (.istore 4, 2) := by decide +kernel
theorem dX6_enough_18 : decode cX6_enough 18 = .ok (.iload_n 2, 1) := by decide +kernel
theorem dX6_enough_19 : decode cX6_enough 19 = .ok (.aload_n 0, 1) := by decide +kernel
theorem dX6_enough_20 : decode cX6_enough 20 = .ok (.aload_n 0, 1) := by decide +kernel
theorem dX6_enough_21 : decode cX6_enough 21 = .ok (.getfield 22, 3) := by decide +kernel
theorem dX6_enough_24 : decode cX6_enough 24 = .ok (.iconst 0, 1) := by decide +kernel
theorem dX6_enough_25 : decode cX6_enough 25 = .ok (.invokevirtual 149, 3) := by decide +kernel
theorem dX6_enough_28 : decode cX6_enough 28 = .ok (.isub, 1) := by decide +kernel
theorem dX6_enough_29 : decode cX6_enough 29 = .ok (.istore 5, 2) := by decide +kernel
theorem dX6_enough_31 : decode cX6_enough 31 = .ok (.iload_n 3, 1) := by decide +kernel
theorem dX6_enough_32 : decode cX6_enough 32 = .ok (.aload_n 0, 1) := by decide +kernel
theorem dX6_enough_33 : decode cX6_enough 33 = .ok (.aload_n 0, 1) := by decide +kernel
theorem dX6_enough_34 : decode cX6_enough 34 = .ok (.getfield 22, 3) := by decide +kernel
theorem dX6_enough_37 : decode cX6_enough 37 = .ok (.iconst 1, 1) := by decide +kernel
theorem dX6_enough_38 : decode cX6_enough 38 = .ok (.invokevirtual 149, 3) := by decide +kernel
theorem dX6_enough_41 : decode cX6_enough 41 = .ok (.isub, 1) := by decide +kernel
theorem dX6_enough_42 : decode cX6_enough 42 = .ok (.istore 6, 2) := by decide +kernel
theorem dX6_enough_44 : decode cX6_enough 44 = .ok (.iconst 3, 1) := by decide +kernel
theorem dX6_enough_45 : decode cX6_enough 45 = .ok (.istore 7, 2) := by decide +kernel
theorem dX6_enough_47 : decode cX6_enough 47 = .ok (.iload 7, 2) := by decide +kernel
theorem dX6_enough_49 : decode cX6_enough 49 = .ok (.ifCond .le 102, 3) := by decide +kernel
theorem dX6_enough_52 : decode cX6_enough 52 = .ok (.aload_n 0, 1) := by decide +kernel
theorem dX6_enough_53 : decode cX6_enough 53 = .ok (.getfield 13, 3) := by decide +kernel
theorem dX6_enough_56 : decode cX6_enough 56 = .ok (.iconst 3, 1) := by decide +kernel
theorem dX6_enough_57 : decode cX6_enough 57 = .ok (.iload 5, 2) := by decide +kernel
theorem dX6_enough_59 : decode cX6_enough 59 = .ok (.iload 7, 2) := by decide +kernel
theorem dX6_enough_61 : decode cX6_enough 61 = .ok (.if_icmp .le 8, 3) := by decide +kernel
theorem dX6_enough_64 : decode cX6_enough 64 = .ok (.iload 5, 2) := by decide +kernel
theorem dX6_enough_66 : decode cX6_enough 66 = .ok (.goto 5, 3) := by decide +kernel
theorem dX6_enough_69 : decode cX6_enough 69 = .ok (.iload 7, 2) := by decide +kernel
theorem dX6_enough_71 : decode cX6_enough 71 = .ok (.iastore, 1) := by decide +kernel
theorem dX6_enough_72 : decode cX6_enough 72 = .ok (.aload_n 0, 1) := by decide +kernel
theorem dX6_enough_73 : decode cX6_enough 73 = .ok (.getfield 13, 3) := by decide +kernel
theorem dX6_enough_76 : decode cX6_enough 76 = .ok (.iconst 4, 1) := by decide +kernel
theorem dX6_enough_77 : decode cX6_enough 77 = .ok (.iload 6, 2) := by decide +kernel
theorem dX6_enough_79 : decode cX6_enough 79 = .ok (.iload 7, 2) := by decide +kernel
theorem dX6_enough_81 : decode cX6_enough 81 = .ok (.if_icmp .le 8, 3) := by decide +kernel
theorem dX6_enough_84 : decode cX6_enough 84 = .ok (.iload 6, 2) := by decide +kernel
theorem dX6_enough_86 : decode cX6_enough 86 = .ok (.goto 5, 3) := by decide +kernel
theorem dX6_enough_89 : decode cX6_enough 89 = .ok (.iload 7, 2) := by decide +kernel
theorem dX6_enough_91 : decode cX6_enough 91 = .ok (.iastore, 1) := by decide +kernel
theorem dX6_enough_92 : decode cX6_enough 92 = .ok (.aload_n 0, 1) := by decide +kernel
theorem dX6_enough_93 : decode cX6_enough 93 = .ok (.iload_n 1, 1) := by decide +kernel
theorem dX6_enough_94 : decode cX6_enough 94 = .ok (.invokevirtual 198, 3) := by decide +kernel
theorem dX6_enough_97 : decode cX6_enough 97 = .ok (.iconst 0, 1) := by decide +kernel
theorem dX6_enough_98 : decode cX6_enough 98 = .ok (.istore 8, 2) := by decide +kernel
theorem dX6_enough_100 : decode cX6_enough 100 = .ok (.iload 8, 2) := by decide +kernel
theorem dX6_enough_102 : decode cX6_enough 102 = .ok (.bipush 60, 2) := by decide +kernel
theorem dX6_enough_104 : decode cX6_enough 104 = .ok (.if_icmp .ge 17, 3) := by decide +kernel
theorem dX6_enough_107 : decode cX6_enough 107 = .ok (.aload_n 0, 1) := by decide +kernel
theorem dX6_enough_108 : decode cX6_enough 108 = .ok (.aload_n 0, 1) := by decide +kernel
theorem dX6_enough_109 : decode cX6_enough 109 = .ok (.getfield 25, 3) := by decide +kernel
theorem dX6_enough_112 : decode cX6_enough 112 = .ok (.invokevirtual 188, 3) := by decide +kernel
theorem dX6_enough_115 : decode cX6_enough 115 = .ok (.iinc 8 1, 3) := by decide +kernel
theorem dX6_enough_118 : decode cX6_enough 118 = .ok (.goto (-18), 3) := by decide +kernel
theorem dX6_enough_121 : decode cX6_enough 121 = .ok (.aload_n 0, 1) := by decide +kernel
theorem dX6_enough_122 : decode cX6_enough 122 = .ok (.getfield 25, 3) := by decide +kernel
theorem dX6_enough_125 : decode cX6_enough 125 = .ok (.iconst 5, 1) := by decide +kernel
theorem dX6_enough_126 : decode cX6_enough 126 = .ok (.iaload, 1) := by decide +kernel
theorem dX6_enough_127 : decode cX6_enough 127 = .ok (.aload_n 0, 1) := by decide +kernel
theorem dX6_enough_128 : decode cX6_enough 128 = .ok (.getfield 22, 3) := by decide +kernel
theorem dX6_enough_131 : decode cX6_enough 131 = .ok (.iconst 5, 1) := by decide +kernel
theorem dX6_enough_132 : decode cX6_enough 132 = .ok (.iaload, 1) := by decide +kernel
theorem dX6_enough_133 : decode cX6_enough 133 = .ok (.if_icmp .ne 8, 3) := by decide +kernel
theorem dX6_enough_136 : decode cX6_enough 136 = .ok (.iload 7, 2) := by decide +kernel
theorem dX6_enough_138 : decode cX6_enough 138 = .ok (.goto 5, 3) := by decide +kernel
theorem dX6_enough_141 : decode cX6_enough 141 = .ok (.iload 4, 2) := by decide +kernel
theorem dX6_enough_143 : decode cX6_enough 143 = .ok (.istore 4, 2) := by decide +kernel
theorem dX6_enough_145 : decode cX6_enough 145 = .ok (.iinc 7 (-1), 3) := by decide +kernel
theorem dX6_enough_148 : decode cX6_enough 148 = .ok (.goto (-101), 3) := by decide +kernel
theorem dX6_enough_151 : decode cX6_enough 151 = .ok (.aload_n 0, 1) := by decide +kernel
theorem dX6_enough_152 : decode cX6_enough 152 = .ok (.getfield 13, 3) := by decide +kernel
theorem dX6_enough_155 : decode cX6_enough 155 = .ok (.iconst 3, 1) := by decide +kernel
theorem dX6_enough_156 : decode cX6_enough 156 = .ok (.iload_n 2, 1) := by decide +kernel
theorem dX6_enough_157 : decode cX6_enough 157 = .ok (.iastore, 1) := by decide +kernel
theorem dX6_enough_158 : decode cX6_enough 158 = .ok (.aload_n 0, 1) := by decide +kernel
theorem dX6_enough_159 : decode cX6_enough 159 = .ok (.getfield 13, 3) := by decide +kernel
theorem dX6_enough_162 : decode cX6_enough 162 = .ok (.iconst 4, 1) := by decide +kernel
theorem dX6_enough_163 : decode cX6_enough 163 = .ok (.iload_n 3, 1) := by decide +kernel
theorem dX6_enough_164 : decode cX6_enough 164 = .ok (.iastore, 1) := by decide +kernel
theorem dX6_enough_165 : decode cX6_enough 165 = .ok (.iload 4, 2) := by decide +kernel
theorem dX6_enough_167 : decode cX6_enough 167 = .ok (.ireturn, 1) := by decide +kernel
theorem dX6_wave_0 : decode cX6_wave 0 = .ok (.aload_n 0, 1) := by decide +kernel
theorem dX6_wave_1 : decode cX6_wave 1 = .ok (.iconst 0, 1) := by decide +kernel
theorem dX6_wave_2 : decode cX6_wave 2 = .ok (.putfield 59, 3) := by decide +kernel
theorem dX6_wave_5 : decode cX6_wave 5 = .ok (.iload_n 1, 1) := by decide +kernel
theorem dX6_wave_6 : decode cX6_wave 6 = .ok (.ifCond .lt 24, 3) := by decide +kernel
theorem dX6_wave_9 : decode cX6_wave 9 = .ok (.iload_n 1, 1) := by decide +kernel
theorem dX6_wave_10 : decode cX6_wave 10 = .ok (.iconst 1, 1) := by decide +kernel
theorem dX6_wave_11 : decode cX6_wave 11 = .ok (.aload_n 0, 1) := by decide +kernel
theorem dX6_wave_12 : decode cX6_wave 12 = .ok (.getfield 13, 3) := by decide +kernel
theorem dX6_wave_15 : decode cX6_wave 15 = .ok (.iconst 0, 1) := by decide +kernel
theorem dX6_wave_16 : decode cX6_wave 16 = .ok (.iaload, 1) := by decide +kernel
theorem dX6_wave_17 : decode cX6_wave 17 = .ok (.ishl, 1) := by decide +kernel
theorem dX6_wave_18 : decode cX6_wave 18 = .ok (.if_icmp .ge 12, 3) := by decide +kernel
theorem dX6_wave_21 : decode cX6_wave 21 = .ok (.iload_n 2, 1) := by decide +kernel
theorem dX6_wave_22 : decode cX6_wave 22 = .ok (.iconst 0, 1) := by decide +kernel
theorem dX6_wave_23 : decode cX6_wave 23 = .ok (.iconst 1, 1) := by decide +kernel
theorem dX6_wave_24 : decode cX6_wave 24 = .ok (.invokestatic 63, 3) := by decide +kernel
theorem dX6_wave_27 : decode cX6_wave 27 = .ok (.ifCond .ne 5, 3) := by decide +kernel
theorem dX6_wave_30 : decode cX6_wave 30 = .ok (.iconst (-1), 1) := by decide +kernel
theorem dX6_wave_31 : decode cX6_wave 31 = .ok (.ireturn, 1) := by decide +kernel
theorem dX6_wave_32 : decode cX6_wave 32 = .ok (.iload_n 2, 1) := by decide +kernel
theorem dX6_wave_33 : decode cX6_wave 33 = .ok (.iconst 1, 1) := by decide +kernel
theorem dX6_wave_34 : decode cX6_wave 34 = .ok (.if_icmp .ne 9, 3) := by decide +kernel
theorem dX6_wave_37 : decode cX6_wave 37 = .ok (.aload_n 0, 1) := by decide +kernel
theorem dX6_wave_38 : decode cX6_wave 38 = .ok (.iload_n 1, 1) := by decide +kernel
theorem dX6_wave_39 : decode cX6_wave 39 = .ok (.invokevirtual 201, 3) := by decide +kernel
theorem dX6_wave_42 : decode cX6_wave 42 = .ok (.ireturn, 1) := by decide +kernel
theorem dX6_wave_43 : decode cX6_wave 43 = .ok (.aload_n 0, 1) := by decide +kernel
theorem dX6_wave_44 : decode cX6_wave 44 = .ok (.iload_n 1, 1) := by decide +kernel
theorem dX6_wave_45 : decode cX6_wave 45 = .ok (.invokevirtual 198, 3) := by decide +kernel
theorem dX6_wave_48 : decode cX6_wave 48 = .ok (.aload_n 0, 1) := by decide +kernel
theorem dX6_wave_49 : decode cX6_wave 49 = .ok (.invokevirtual 204, 3) := by decide +kernel
theorem dX6_wave_52 : decode cX6_wave 52 = .ok (.ireturn, 1) := by decide +kernel
theorem dX6_gcd_0 : decode cX6_gcd 0 = .ok (.iload_n 0, 1) := by decide +kernel
theorem dX6_gcd_1 : decode cX6_gcd 1 = .ok (.istore_n 2, 1) := by decide +kernel
theorem dX6_gcd_2 : decode cX6_gcd 2 = .ok (.iload_n 1, 1) := by decide +kernel
theorem dX6_gcd_3 : decode cX6_gcd 3 = .ok (.istore_n 3, 1) := by decide +kernel
theorem dX6_gcd_4 : decode cX6_gcd 4 = .ok (.iload_n 3, 1) := by decide +kernel
theorem dX6_gcd_5 : decode cX6_gcd 5 = .ok (.ifCond .eq 16, 3) := by decide +kernel
theorem dX6_gcd_8 : decode cX6_gcd 8 = .ok (.iload_n 2, 1) := by decide +kernel
theorem dX6_gcd_9 : decode cX6_gcd 9 = .ok (.iload_n 3, 1) := by decide +kernel
theorem dX6_gcd_10 : decode cX6_gcd 10 = .ok (.irem, 1) := by decide +kernel
theorem dX6_gcd_11 : decode cX6_gcd 11 = .ok (.istore 4, 2) := by decide +kernel
theorem dX6_gcd_13 : decode cX6_gcd 13 = .ok (.iload_n 3, 1) := by decide +kernel
theorem dX6_gcd_14 : decode cX6_gcd 14 = .ok (.istore_n 2, 1) := by decide +kernel
theorem dX6_gcd_15 : decode cX6_gcd 15 = .ok (.iload 4, 2) := by decide +kernel
theorem dX6_gcd_17 : decode cX6_gcd 17 = .ok (.istore_n 3, 1) := by decide +kernel
theorem dX6_gcd_18 : decode cX6_gcd 18 = .ok (.goto (-14), 3) := by decide +kernel
theorem dX6_gcd_21 : decode cX6_gcd 21 = .ok (.iload_n 2, 1) := by decide +kernel
theorem dX6_gcd_22 : decode cX6_gcd 22 = .ok (.ireturn, 1) := by decide +kernel
theorem dX6_odds_0 : decode cX6_odds 0 = .ok (.aload_n 0, 1) := by decide +kernel
theorem dX6_odds_1 : decode cX6_odds 1 = .ok (.iconst 0, 1) := by decide +kernel
theorem dX6_odds_2 : decode cX6_odds 2 = .ok (.putfield 59, 3) := by decide +kernel
theorem dX6_odds_5 : decode cX6_odds 5 = .ok (.iload_n 1, 1) := by decide +kernel
theorem dX6_odds_6 : decode cX6_odds 6 = .ok (.iconst 0, 1) := by decide +kernel
theorem dX6_odds_7 : decode cX6_odds 7 = .ok (.bipush 10, 2) := by decide +kernel
theorem dX6_odds_9 : decode cX6_odds 9 = .ok (.invokestatic 63, 3) := by decide +kernel
theorem dX6_odds_12 : decode cX6_odds 12 = .ok (.ifCond .eq 31, 3) := by decide +kernel
theorem dX6_odds_15 : decode cX6_odds 15 = .ok (.aload_n 0, 1) := by decide +kernel
theorem dX6_odds_16 : decode cX6_odds 16 = .ok (.iload_n 2, 1) := by decide +kernel
theorem dX6_odds_17 : decode cX6_odds 17 = .ok (.invokevirtual 194, 3) := by decide +kernel
theorem dX6_odds_20 : decode cX6_odds 20 = .ok (.ifCond .eq 23, 3) := by decide +kernel
theorem dX6_odds_23 : decode cX6_odds 23 = .ok (.iload_n 3, 1) := by decide +kernel
theorem dX6_odds_24 : decode cX6_odds 24 = .ok (.iconst 1, 1) := by decide +kernel
theorem dX6_odds_25 : decode cX6_odds 25 = .ok (.bipush 20, 2) := by decide +kernel
theorem dX6_odds_27 : decode cX6_odds 27 = .ok (.invokestatic 63, 3) := by decide +kernel
theorem dX6_odds_30 : decode cX6_odds 30 = .ok (.ifCond .eq 13, 3) := by decide +kernel
theorem dX6_odds_33 : decode cX6_odds 33 = .ok (.iload 4, 2) := by decide +kernel
theorem dX6_odds_35 : decode cX6_odds 35 = .ok (.iconst 0, 1) := by decide +kernel
theorem dX6_odds_36 : decode cX6_odds 36 = .ok (.iconst 1, 1) := by decide +kernel
theorem dX6_odds_37 : decode cX6_odds 37 = .ok (.invokestatic 63, 3) := by decide +kernel
theorem dX6_odds_40 : decode cX6_odds 40 = .ok (.ifCond .ne 5, 3) := by decide +kernel
theorem dX6_odds_43 : decode cX6_odds 43 = .ok (.iconst (-1), 1) := by decide +kernel
theorem dX6_odds_44 : decode cX6_odds 44 = .ok (.ireturn, 1) := by decide +kernel
theorem dX6_odds_45 : decode cX6_odds 45 = .ok (.iconst 0, 1) := by decide +kernel
theorem dX6_odds_46 : decode cX6_odds 46 = .ok (.istore 5, 2) := by decide +kernel
theorem dX6_odds_48 : decode cX6_odds 48 = .ok (.iconst 1, 1) := by decide +kernel
theorem dX6_odds_49 : decode cX6_odds 49 = .ok (.istore 6, 2) := by decide +kernel
theorem dX6_odds_51 : decode cX6_odds 51 = .ok (.iconst 0, 1) := by decide +kernel
theorem dX6_odds_52 : decode cX6_odds 52 = .ok (.istore 7, 2) := by decide +kernel
theorem dX6_odds_54 : decode cX6_odds 54 = .ok (.iload 7, 2) := by decide +kernel
theorem dX6_odds_56 : decode cX6_odds 56 = .ok (.aload_n 0, 1) := by decide +kernel
theorem dX6_odds_57 : decode cX6_odds 57 = .ok (.getfield 13, 3) := by decide +kernel
theorem dX6_odds_60 : decode cX6_odds 60 = .ok (.iconst 0, 1) := by decide +kernel
theorem dX6_odds_61 : decode cX6_odds 61 = .ok (.iaload, 1) := by decide +kernel
theorem dX6_odds_62 : decode cX6_odds 62 = .ok (.if_icmp .ge 44, 3) := by decide +kernel
theorem dX6_odds_65 : decode cX6_odds 65 = .ok (.iload 7, 2) := by decide +kernel
theorem dX6_odds_67 : decode cX6_odds 67 = .ok (.iload_n 2, 1) := by decide +kernel
theorem dX6_odds_68 : decode cX6_odds 68 = .ok (.if_icmp .eq 32, 3) := by decide +kernel
theorem dX6_odds_71 : decode cX6_odds 71 = .ok (.aload_n 0, 1) := by decide +kernel
theorem dX6_odds_72 : decode cX6_odds 72 = .ok (.getfield 22, 3) := by decide +kernel
theorem dX6_odds_75 : decode cX6_odds 75 = .ok (.bipush 13, 2) := by decide +kernel
theorem dX6_odds_77 : decode cX6_odds 77 = .ok (.iload 7, 2) := by decide +kernel
theorem dX6_odds_79 : decode cX6_odds 79 = .ok (.iadd, 1) := by decide +kernel
theorem dX6_odds_80 : decode cX6_odds 80 = .ok (.iaload, 1) := by decide +kernel
theorem dX6_odds_81 : decode cX6_odds 81 = .ok (.ifCond .ne 19, 3) := by decide +kernel
theorem dX6_odds_84 : decode cX6_odds 84 = .ok (.iload 5, 2) := by decide +kernel
theorem dX6_odds_86 : decode cX6_odds 86 = .ok (.iconst 1, 1) := by decide +kernel
theorem dX6_odds_87 : decode cX6_odds 87 = .ok (.iload 7, 2) := by decide +kernel
theorem dX6_odds_89 : decode cX6_odds 89 = .ok (.ishl, 1) := by decide +kernel
theorem dX6_odds_90 : decode cX6_odds 90 = .ok (.ior, 1) := by decide +kernel
theorem dX6_odds_91 : decode cX6_odds 91 = .ok (.istore 5, 2) := by decide +kernel
theorem dX6_odds_93 : decode cX6_odds 93 = .ok (.iload 6, 2) := by decide +kernel
theorem dX6_odds_95 : decode cX6_odds 95 = .ok (.bipush 10, 2) := by decide +kernel
theorem dX6_odds_97 : decode cX6_odds 97 = .ok (.imul, 1) := by decide +kernel
theorem dX6_odds_98 : decode cX6_odds 98 = .ok (.istore 6, 2) := by decide +kernel
theorem dX6_odds_100 : decode cX6_odds 100 = .ok (.iinc 7 1, 3) := by decide +kernel
theorem dX6_odds_103 : decode cX6_odds 103 = .ok (.goto (-49), 3) := by decide +kernel
theorem dX6_odds_106 : decode cX6_odds 106 = .ok (.iconst 0, 1) := by decide +kernel
theorem dX6_odds_107 : decode cX6_odds 107 = .ok (.istore 7, 2) := by decide +kernel
theorem dX6_odds_109 : decode cX6_odds 109 = .ok (.iconst 0, 1) := by decide +kernel
theorem dX6_odds_110 : decode cX6_odds 110 = .ok (.istore 8, 2) := by decide +kernel
theorem dX6_odds_112 : decode cX6_odds 112 = .ok (.iload 8, 2) := by decide +kernel
theorem dX6_odds_114 : decode cX6_odds 114 = .ok (.iconst 1, 1) := by decide +kernel
theorem dX6_odds_115 : decode cX6_odds 115 = .ok (.aload_n 0, 1) := by decide +kernel
theorem dX6_odds_116 : decode cX6_odds 116 = .ok (.getfield 13, 3) := by decide +kernel
theorem dX6_odds_119 : decode cX6_odds 119 = .ok (.iconst 0, 1) := by decide +kernel
theorem dX6_odds_120 : decode cX6_odds 120 = .ok (.iaload, 1) := by decide +kernel
theorem dX6_odds_121 : decode cX6_odds 121 = .ok (.ishl, 1) := by decide +kernel
theorem dX6_odds_122 : decode cX6_odds 122 = .ok (.if_icmp .ge 155, 3) := by decide +kernel
theorem dX6_odds_125 : decode cX6_odds 125 = .ok (.iload 8, 2) := by decide +kernel
theorem dX6_odds_127 : decode cX6_odds 127 = .ok (.iload 5, 2) := by decide +kernel
theorem dX6_odds_129 : decode cX6_odds 129 = .ok (.iconst (-1), 1) := by decide +kernel
theorem dX6_odds_130 : decode cX6_odds 130 = .ok (.ixor, 1) := by decide +kernel
theorem dX6_odds_131 : decode cX6_odds 131 = .ok (.iand, 1) := by decide +kernel
theorem dX6_odds_132 : decode cX6_odds 132 = .ok (.ifCond .ne 139, 3) := by decide +kernel
theorem dX6_odds_135 : decode cX6_odds 135 = .ok (.iconst 1, 1) := by decide +kernel
theorem dX6_odds_136 : decode cX6_odds 136 = .ok (.istore 9, 2) := by decide +kernel
theorem dX6_odds_138 : decode cX6_odds 138 = .ok (.iconst 0, 1) := by decide +kernel
theorem dX6_odds_139 : decode cX6_odds 139 = .ok (.istore 10, 2) := by decide +kernel
theorem dX6_odds_141 : decode cX6_odds 141 = .ok (.iload 10, 2) := by decide +kernel
theorem dX6_odds_143 : decode cX6_odds 143 = .ok (.aload_n 0, 1) := by decide +kernel
theorem dX6_odds_144 : decode cX6_odds 144 = .ok (.getfield 13, 3) := by decide +kernel
theorem dX6_odds_147 : decode cX6_odds 147 = .ok (.iconst 0, 1) := by decide +kernel
theorem dX6_odds_148 : decode cX6_odds 148 = .ok (.iaload, 1) := by decide +kernel
theorem dX6_odds_149 : decode cX6_odds 149 = .ok (.if_icmp .ge 46, 3) := by decide +kernel
theorem dX6_odds_152 : decode cX6_odds 152 = .ok (.iload 9, 2) := by decide +kernel
theorem dX6_odds_154 : decode cX6_odds 154 = .ok (.iload 5, 2) := by decide +kernel
theorem dX6_odds_156 : decode cX6_odds 156 = .ok (.iload 10, 2) := by decide +kernel
theorem dX6_odds_158 : decode cX6_odds 158 = .ok (.invokestatic 139, 3) := by decide +kernel
theorem dX6_odds_161 : decode cX6_odds 161 = .ok (.ifCond .ne 7, 3) := by decide +kernel
theorem dX6_odds_164 : decode cX6_odds 164 = .ok (.iconst 1, 1) := by decide +kernel
theorem dX6_odds_165 : decode cX6_odds 165 = .ok (.goto 21, 3) := by decide +kernel
theorem dX6_odds_168 : decode cX6_odds 168 = .ok (.iload 8, 2) := by decide +kernel
theorem dX6_odds_170 : decode cX6_odds 170 = .ok (.iload 10, 2) := by decide +kernel
theorem dX6_odds_172 : decode cX6_odds 172 = .ok (.invokestatic 139, 3) := by decide +kernel
theorem dX6_odds_175 : decode cX6_odds 175 = .ok (.ifCond .eq 7, 3) := by decide +kernel
theorem dX6_odds_178 : decode cX6_odds 178 = .ok (.iload_n 1, 1) := by decide +kernel
theorem dX6_odds_179 : decode cX6_odds 179 = .ok (.goto 7, 3) := by decide +kernel
theorem dX6_odds_182 : decode cX6_odds 182 = .ok (.bipush 10, 2) := by decide +kernel
theorem dX6_odds_184 : decode cX6_odds 184 = .ok (.iload_n 1, 1) := by decide +kernel
theorem dX6_odds_185 : decode cX6_odds 185 = .ok (.isub, 1) := by decide +kernel
theorem dX6_odds_186 : decode cX6_odds 186 = .ok (.imul, 1) := by decide +kernel
theorem dX6_odds_187 : decode cX6_odds 187 = .ok (.istore 9, 2) := by decide +kernel
theorem dX6_odds_189 : decode cX6_odds 189 = .ok (.iinc 10 1, 3) := by decide +kernel
theorem dX6_odds_192 : decode cX6_odds 192 = .ok (.goto (-51), 3) := by decide +kernel
theorem dX6_odds_195 : decode cX6_odds 195 = .ok (.aload_n 0, 1) := by decide +kernel
theorem dX6_odds_196 : decode cX6_odds 196 = .ok (.iload 8, 2) := by decide +kernel
theorem dX6_odds_198 : decode cX6_odds 198 = .ok (.iconst 1, 1) := by decide +kernel
theorem dX6_odds_199 : decode cX6_odds 199 = .ok (.iload_n 2, 1) := by decide +kernel
theorem dX6_odds_200 : decode cX6_odds 200 = .ok (.ishl, 1) := by decide +kernel
theorem dX6_odds_201 : decode cX6_odds 201 = .ok (.ior, 1) := by decide +kernel
theorem dX6_odds_202 : decode cX6_odds 202 = .ok (.invokevirtual 198, 3) := by decide +kernel
theorem dX6_odds_205 : decode cX6_odds 205 = .ok (.iconst 0, 1) := by decide +kernel
theorem dX6_odds_206 : decode cX6_odds 206 = .ok (.istore 10, 2) := by decide +kernel
theorem dX6_odds_208 : decode cX6_odds 208 = .ok (.iconst 0, 1) := by decide +kernel
theorem dX6_odds_209 : decode cX6_odds 209 = .ok (.istore 11, 2) := by decide +kernel
theorem dX6_odds_211 : decode cX6_odds 211 = .ok (.iload 11, 2) := by decide +kernel
theorem dX6_odds_213 : decode cX6_odds 213 = .ok (.iload_n 3, 1) := by decide +kernel
theorem dX6_odds_214 : decode cX6_odds 214 = .ok (.if_icmp .ge 41, 3) := by decide +kernel
theorem dX6_odds_217 : decode cX6_odds 217 = .ok (.aload_n 0, 1) := by decide +kernel
theorem dX6_odds_218 : decode cX6_odds 218 = .ok (.aload_n 0, 1) := by decide +kernel
theorem dX6_odds_219 : decode cX6_odds 219 = .ok (.getfield 25, 3) := by decide +kernel
theorem dX6_odds_222 : decode cX6_odds 222 = .ok (.invokevirtual 188, 3) := by decide +kernel
theorem dX6_odds_225 : decode cX6_odds 225 = .ok (.iload 10, 2) := by decide +kernel
theorem dX6_odds_227 : decode cX6_odds 227 = .ok (.ifCond .ne 15, 3) := by decide +kernel
theorem dX6_odds_230 : decode cX6_odds 230 = .ok (.aload_n 0, 1) := by decide +kernel
theorem dX6_odds_231 : decode cX6_odds 231 = .ok (.aload_n 0, 1) := by decide +kernel
theorem dX6_odds_232 : decode cX6_odds 232 = .ok (.getfield 25, 3) := by decide +kernel
theorem dX6_odds_235 : decode cX6_odds 235 = .ok (.iload_n 2, 1) := by decide +kernel
theorem dX6_odds_236 : decode cX6_odds 236 = .ok (.invokevirtual 191, 3) := by decide +kernel
theorem dX6_odds_239 : decode cX6_odds 239 = .ok (.ifCond .eq 7, 3) := by decide +kernel
theorem dX6_odds_242 : decode cX6_odds 242 = .ok (.iconst 1, 1) := by decide +kernel
theorem dX6_odds_243 : decode cX6_odds 243 = .ok (.goto 4, 3) := by decide +kernel
theorem dX6_odds_246 : decode cX6_odds 246 = .ok (.iconst 0, 1) := by decide +kernel
theorem dX6_odds_247 : decode cX6_odds 247 = .ok (.istore 10, 2) := by decide +kernel
theorem dX6_odds_249 : decode cX6_odds 249 = .ok (.iinc 11 1, 3) := by decide +kernel
theorem dX6_odds_252 : decode cX6_odds 252 = .ok (.goto (-41), 3) := by decide +kernel
theorem dX6_odds_255 : decode cX6_odds 255 = .ok (.iload 7, 2) := by decide +kernel
theorem dX6_odds_257 : decode cX6_odds 257 = .ok (.iload 10, 2) := by decide +kernel
theorem dX6_odds_259 : decode cX6_odds 259 = .ok (.ifCond .eq 8, 3) := by decide +kernel
theorem dX6_odds_262 : decode cX6_odds 262 = .ok (.iload 9, 2) := by decide +kernel
theorem dX6_odds_264 : decode cX6_odds 264 = .ok (.goto 4, 3) := by decide +kernel
theorem dX6_odds_267 : decode cX6_odds 267 = .ok (.iconst 0, 1) := by decide +kernel
theorem dX6_odds_268 : decode cX6_odds 268 = .ok (.iadd, 1) := by decide +kernel
theorem dX6_odds_269 : decode cX6_odds 269 = .ok (.istore 7, 2) := by decide +kernel
theorem dX6_odds_271 : decode cX6_odds 271 = .ok (.iinc 8 1, 3) := by decide +kernel
theorem dX6_odds_274 : decode cX6_odds 274 = .ok (.goto (-162), 3) := by decide +kernel
theorem dX6_odds_277 : decode cX6_odds 277 = .ok (.iload 7, 2) := by decide +kernel
theorem dX6_odds_279 : decode cX6_odds 279 = .ok (.iload 6, 2) := by decide +kernel
theorem dX6_odds_281 : decode cX6_odds 281 = .ok (.invokestatic 208, 3) := by decide +kernel
theorem dX6_odds_284 : decode cX6_odds 284 = .ok (.istore 8, 2) := by decide +kernel
theorem dX6_odds_286 : decode cX6_odds 286 = .ok (.iload 4, 2) := by decide +kernel
theorem dX6_odds_288 : decode cX6_odds 288 = .ok (.ifCond .ne 11, 3) := by decide +kernel
theorem dX6_odds_291 : decode cX6_odds 291 = .ok (.iload 7, 2) := by decide +kernel
theorem dX6_odds_293 : decode cX6_odds 293 = .ok (.iload 8, 2) := by decide +kernel
theorem dX6_odds_295 : decode cX6_odds 295 = .ok (.idiv, 1) := by decide +kernel
theorem dX6_odds_296 : decode cX6_odds 296 = .ok (.goto 8, 3) := by decide +kernel
theorem dX6_odds_299 : decode cX6_odds 299 = .ok (.iload 6, 2) := by decide +kernel
theorem dX6_odds_301 : decode cX6_odds 301 = .ok (.iload 8, 2) := by decide +kernel
theorem dX6_odds_303 : decode cX6_odds 303 = .ok (.idiv, 1) := by decide +kernel
theorem dX6_odds_304 : decode cX6_odds 304 = .ok (.ireturn, 1) := by decide +kernel
theorem dX6_sees_0 : decode cX6_sees 0 = .ok (.aload_n 0, 1) := by decide +kernel
theorem dX6_sees_1 : decode cX6_sees 1 = .ok (.iconst 0, 1) := by decide +kernel
theorem dX6_sees_2 : decode cX6_sees 2 = .ok (.putfield 59, 3) := by decide +kernel
theorem dX6_sees_5 : decode cX6_sees 5 = .ok (.iload_n 1, 1) := by decide +kernel
theorem dX6_sees_6 : decode cX6_sees 6 = .ok (.iconst 1, 1) := by decide +kernel
theorem dX6_sees_7 : decode cX6_sees 7 = .ok (.bipush 20, 2) := by decide +kernel
theorem dX6_sees_9 : decode cX6_sees 9 = .ok (.invokestatic 63, 3) := by decide +kernel
theorem dX6_sees_12 : decode cX6_sees 12 = .ok (.ifCond .eq 12, 3) := by decide +kernel
theorem dX6_sees_15 : decode cX6_sees 15 = .ok (.iload_n 2, 1) := by decide +kernel
theorem dX6_sees_16 : decode cX6_sees 16 = .ok (.iconst 0, 1) := by decide +kernel
theorem dX6_sees_17 : decode cX6_sees 17 = .ok (.iconst 1, 1) := by decide +kernel
theorem dX6_sees_18 : decode cX6_sees 18 = .ok (.invokestatic 63, 3) := by decide +kernel
theorem dX6_sees_21 : decode cX6_sees 21 = .ok (.ifCond .ne 5, 3) := by decide +kernel
theorem dX6_sees_24 : decode cX6_sees 24 = .ok (.iconst (-1), 1) := by decide +kernel
theorem dX6_sees_25 : decode cX6_sees 25 = .ok (.ireturn, 1) := by decide +kernel
theorem dX6_sees_26 : decode cX6_sees 26 = .ok (.aload_n 0, 1) := by decide +kernel
theorem dX6_sees_27 : decode cX6_sees 27 = .ok (.getfield 121, 3) := by decide +kernel
theorem dX6_sees_30 : decode cX6_sees 30 = .ok (.bipush 6, 2) := by decide +kernel
theorem dX6_sees_32 : decode cX6_sees 32 = .ok (.if_icmp .ne 6, 3) := by decide +kernel
theorem dX6_sees_35 : decode cX6_sees 35 = .ok (.bipush (-3), 2) := by decide +kernel
theorem dX6_sees_37 : decode cX6_sees 37 = .ok (.ireturn, 1) := by decide +kernel
theorem dX6_sees_38 : decode cX6_sees 38 = .ok (.aload_n 0, 1) := by decide +kernel
theorem dX6_sees_39 : decode cX6_sees 39 = .ok (.getfield 38, 3) := by decide +kernel
theorem dX6_sees_42 : decode cX6_sees 42 = .ok (.aload_n 0, 1) := by decide +kernel
theorem dX6_sees_43 : decode cX6_sees 43 = .ok (.getfield 121, 3) := by decide +kernel
theorem dX6_sees_46 : decode cX6_sees 46 = .ok (.iload_n 1, 1) := by decide +kernel
theorem dX6_sees_47 : decode cX6_sees 47 = .ok (.iastore, 1) := by decide +kernel
theorem dX6_sees_48 : decode cX6_sees 48 = .ok (.aload_n 0, 1) := by decide +kernel
theorem dX6_sees_49 : decode cX6_sees 49 = .ok (.getfield 41, 3) := by decide +kernel
theorem dX6_sees_52 : decode cX6_sees 52 = .ok (.aload_n 0, 1) := by decide +kernel
theorem dX6_sees_53 : decode cX6_sees 53 = .ok (.getfield 121, 3) := by decide +kernel
theorem dX6_sees_56 : decode cX6_sees 56 = .ok (.iload_n 2, 1) := by decide +kernel
theorem dX6_sees_57 : decode cX6_sees 57 = .ok (.iastore, 1) := by decide +kernel
theorem dX6_sees_58 : decode cX6_sees 58 = .ok (.aload_n 0, 1) := by decide +kernel
theorem dX6_sees_59 : decode cX6_sees 59 = .ok (.dup, 1) := by decide +kernel
theorem dX6_sees_60 : decode cX6_sees 60 = .ok (.getfield 121, 3) := by decide +kernel
theorem dX6_sees_63 : decode cX6_sees 63 = .ok (.iconst 1, 1) := by decide +kernel
theorem dX6_sees_64 : decode cX6_sees 64 = .ok (.iadd, 1) := by decide +kernel
theorem dX6_sees_65 : decode cX6_sees 65 = .ok (.putfield 121, 3) := by decide +kernel
theorem dX6_sees_68 : decode cX6_sees 68 = .ok (.aload_n 0, 1) := by decide +kernel
theorem dX6_sees_69 : decode cX6_sees 69 = .ok (.getfield 121, 3) := by decide +kernel
theorem dX6_sees_72 : decode cX6_sees 72 = .ok (.ireturn, 1) := by decide +kernel
theorem dX6_forget_0 : decode cX6_forget 0 = .ok (.aload_n 0, 1) := by decide +kernel
theorem dX6_forget_1 : decode cX6_forget 1 = .ok (.iconst 0, 1) := by decide +kernel
theorem dX6_forget_2 : decode cX6_forget 2 = .ok (.putfield 59, 3) := by decide +kernel
theorem dX6_forget_5 : decode cX6_forget 5 = .ok (.aload_n 0, 1) := by decide +kernel
theorem dX6_forget_6 : decode cX6_forget 6 = .ok (.getfield 121, 3) := by decide +kernel
theorem dX6_forget_9 : decode cX6_forget 9 = .ok (.istore_n 1, 1) := by decide +kernel
theorem dX6_forget_10 : decode cX6_forget 10 = .ok (.aload_n 0, 1) := by decide +kernel
theorem dX6_forget_11 : decode cX6_forget 11 = .ok (.iconst 0, 1) := by decide +kernel
theorem dX6_forget_12 : decode cX6_forget 12 = .ok (.putfield 121, 3) := by decide +kernel
theorem dX6_forget_15 : decode cX6_forget 15 = .ok (.iload_n 1, 1) := by decide +kernel
theorem dX6_forget_16 : decode cX6_forget 16 = .ok (.ireturn, 1) := by decide +kernel
theorem dX6_onBy_0 : decode cX6_onBy 0 = .ok (.aload_n 0, 1) := by decide +kernel
theorem dX6_onBy_1 : decode cX6_onBy 1 = .ok (.getfield 13, 3) := by decide +kernel
theorem dX6_onBy_4 : decode cX6_onBy 4 = .ok (.bipush 12, 2) := by decide +kernel
theorem dX6_onBy_6 : decode cX6_onBy 6 = .ok (.iload_n 1, 1) := by decide +kernel
theorem dX6_onBy_7 : decode cX6_onBy 7 = .ok (.iadd, 1) := by decide +kernel
theorem dX6_onBy_8 : decode cX6_onBy 8 = .ok (.iaload, 1) := by decide +kernel
theorem dX6_onBy_9 : decode cX6_onBy 9 = .ok (.istore_n 3, 1) := by decide +kernel
theorem dX6_onBy_10 : decode cX6_onBy 10 = .ok (.aload_n 0, 1) := by decide +kernel
theorem dX6_onBy_11 : decode cX6_onBy 11 = .ok (.getfield 13, 3) := by decide +kernel
theorem dX6_onBy_14 : decode cX6_onBy 14 = .ok (.bipush 12, 2) := by decide +kernel
theorem dX6_onBy_16 : decode cX6_onBy 16 = .ok (.iload_n 1, 1) := by decide +kernel
theorem dX6_onBy_17 : decode cX6_onBy 17 = .ok (.iadd, 1) := by decide +kernel
theorem dX6_onBy_18 : decode cX6_onBy 18 = .ok (.iload_n 2, 1) := by decide +kernel
theorem dX6_onBy_19 : decode cX6_onBy 19 = .ok (.iastore, 1) := by decide +kernel
theorem dX6_onBy_20 : decode cX6_onBy 20 = .ok (.aload_n 0, 1) := by decide +kernel
theorem dX6_onBy_21 : decode cX6_onBy 21 = .ok (.getfield 22, 3) := by decide +kernel
theorem dX6_onBy_24 : decode cX6_onBy 24 = .ok (.aload_n 0, 1) := by decide +kernel
theorem dX6_onBy_25 : decode cX6_onBy 25 = .ok (.getfield 25, 3) := by decide +kernel
theorem dX6_onBy_28 : decode cX6_onBy 28 = .ok (.invokestatic 117, 3) := by decide +kernel
theorem dX6_onBy_31 : decode cX6_onBy 31 = .ok (.iconst 0, 1) := by decide +kernel
theorem dX6_onBy_32 : decode cX6_onBy 32 = .ok (.istore 4, 2) := by decide +kernel
theorem dX6_onBy_34 : decode cX6_onBy 34 = .ok (.iconst 1, 1) := by decide +kernel
theorem dX6_onBy_35 : decode cX6_onBy 35 = .ok (.istore 5, 2) := by decide +kernel
theorem dX6_onBy_37 : decode cX6_onBy 37 = .ok (.iload 5, 2) := by decide +kernel
theorem dX6_onBy_39 : decode cX6_onBy 39 = .ok (.bipush 20, 2) := by decide +kernel
theorem dX6_onBy_41 : decode cX6_onBy 41 = .ok (.if_icmp .gt 42, 3) := by decide +kernel
theorem dX6_onBy_44 : decode cX6_onBy 44 = .ok (.aload_n 0, 1) := by decide +kernel
theorem dX6_onBy_45 : decode cX6_onBy 45 = .ok (.aload_n 0, 1) := by decide +kernel
theorem dX6_onBy_46 : decode cX6_onBy 46 = .ok (.getfield 25, 3) := by decide +kernel
theorem dX6_onBy_49 : decode cX6_onBy 49 = .ok (.invokevirtual 188, 3) := by decide +kernel
theorem dX6_onBy_52 : decode cX6_onBy 52 = .ok (.iload 4, 2) := by decide +kernel
theorem dX6_onBy_54 : decode cX6_onBy 54 = .ok (.aload_n 0, 1) := by decide +kernel
theorem dX6_onBy_55 : decode cX6_onBy 55 = .ok (.aload_n 0, 1) := by decide +kernel
theorem dX6_onBy_56 : decode cX6_onBy 56 = .ok (.getfield 25, 3) := by decide +kernel
theorem dX6_onBy_59 : decode cX6_onBy 59 = .ok (.iload_n 1, 1) := by decide +kernel
theorem dX6_onBy_60 : decode cX6_onBy 60 = .ok (.invokevirtual 191, 3) := by decide +kernel
theorem dX6_onBy_63 : decode cX6_onBy 63 = .ok (.ifCond .eq 10, 3) := by decide +kernel
theorem dX6_onBy_66 : decode cX6_onBy 66 = .ok (.iconst 1, 1) := by decide +kernel
theorem dX6_onBy_67 : decode cX6_onBy 67 = .ok (.iload 5, 2) := by decide +kernel
theorem dX6_onBy_69 : decode cX6_onBy 69 = .ok (.ishl, 1) := by decide +kernel
theorem dX6_onBy_70 : decode cX6_onBy 70 = .ok (.goto 4, 3) := by decide +kernel
theorem dX6_onBy_73 : decode cX6_onBy 73 = .ok (.iconst 0, 1) := by decide +kernel
theorem dX6_onBy_74 : decode cX6_onBy 74 = .ok (.ior, 1) := by decide +kernel
theorem dX6_onBy_75 : decode cX6_onBy 75 = .ok (.istore 4, 2) := by decide +kernel
theorem dX6_onBy_77 : decode cX6_onBy 77 = .ok (.iinc 5 1, 3) := by decide +kernel
theorem dX6_onBy_80 : decode cX6_onBy 80 = .ok (.goto (-43), 3) := by decide +kernel
theorem dX6_onBy_83 : decode cX6_onBy 83 = .ok (.aload_n 0, 1) := by decide +kernel
theorem dX6_onBy_84 : decode cX6_onBy 84 = .ok (.getfield 13, 3) := by decide +kernel
theorem dX6_onBy_87 : decode cX6_onBy 87 = .ok (.bipush 12, 2) := by decide +kernel
theorem dX6_onBy_89 : decode cX6_onBy 89 = .ok (.iload_n 1, 1) := by decide +kernel
theorem dX6_onBy_90 : decode cX6_onBy 90 = .ok (.iadd, 1) := by decide +kernel
theorem dX6_onBy_91 : decode cX6_onBy 91 = .ok (.iload_n 3, 1) := by decide +kernel
theorem dX6_onBy_92 : decode cX6_onBy 92 = .ok (.iastore, 1) := by decide +kernel
theorem dX6_onBy_93 : decode cX6_onBy 93 = .ok (.iload 4, 2) := by decide +kernel
theorem dX6_onBy_95 : decode cX6_onBy 95 = .ok (.ireturn, 1) := by decide +kernel
theorem dX6_isAsSeen_0 : decode cX6_isAsSeen 0 = .ok (.iconst 1, 1) := by decide +kernel
theorem dX6_isAsSeen_1 : decode cX6_isAsSeen 1 = .ok (.istore_n 2, 1) := by decide +kernel
theorem dX6_isAsSeen_2 : decode cX6_isAsSeen 2 = .ok (.iconst 0, 1) := by decide +kernel
theorem dX6_isAsSeen_3 : decode cX6_isAsSeen 3 = .ok (.istore_n 3, 1) := by decide +kernel
theorem dX6_isAsSeen_4 : decode cX6_isAsSeen 4 = .ok (.iload_n 3, 1) := by decide +kernel
theorem dX6_isAsSeen_5 : decode cX6_isAsSeen 5 = .ok (.aload_n 0, 1) := by decide +kernel
theorem dX6_isAsSeen_6 : decode cX6_isAsSeen 6 = .ok (.getfield 121, 3) := by decide +kernel
theorem dX6_isAsSeen_9 : decode cX6_isAsSeen 9 = .ok (.if_icmp .ge 38, 3) := by decide +kernel
theorem dX6_isAsSeen_12 : decode cX6_isAsSeen 12 = .ok (.iload_n 2, 1) := by decide +kernel
theorem dX6_isAsSeen_13 : decode cX6_isAsSeen 13 = .ok (.ifCond .eq 26, 3) := by decide +kernel
theorem dX6_isAsSeen_16 : decode cX6_isAsSeen 16 = .ok (.iload_n 1, 1) := by decide +kernel
theorem dX6_isAsSeen_17 : decode cX6_isAsSeen 17 = .ok (.aload_n 0, 1) := by decide +kernel
theorem dX6_isAsSeen_18 : decode cX6_isAsSeen 18 = .ok (.getfield 38, 3) := by decide +kernel
theorem dX6_isAsSeen_21 : decode cX6_isAsSeen 21 = .ok (.iload_n 3, 1) := by decide +kernel
theorem dX6_isAsSeen_22 : decode cX6_isAsSeen 22 = .ok (.iaload, 1) := by decide +kernel
theorem dX6_isAsSeen_23 : decode cX6_isAsSeen 23 = .ok (.ishr, 1) := by decide +kernel
theorem dX6_isAsSeen_24 : decode cX6_isAsSeen 24 = .ok (.iconst 1, 1) := by decide +kernel
theorem dX6_isAsSeen_25 : decode cX6_isAsSeen 25 = .ok (.iand, 1) := by decide +kernel
theorem dX6_isAsSeen_26 : decode cX6_isAsSeen 26 = .ok (.aload_n 0, 1) := by decide +kernel
theorem dX6_isAsSeen_27 : decode cX6_isAsSeen 27 = .ok (.getfield 41, 3) := by decide +kernel
theorem dX6_isAsSeen_30 : decode cX6_isAsSeen 30 = .ok (.iload_n 3, 1) := by decide +kernel
theorem dX6_isAsSeen_31 : decode cX6_isAsSeen 31 = .ok (.iaload, 1) := by decide +kernel
theorem dX6_isAsSeen_32 : decode cX6_isAsSeen 32 = .ok (.if_icmp .ne 7, 3) := by decide +kernel
theorem dX6_isAsSeen_35 : decode cX6_isAsSeen 35 = .ok (.iconst 1, 1) := by decide +kernel
theorem dX6_isAsSeen_36 : decode cX6_isAsSeen 36 = .ok (.goto 4, 3) := by decide +kernel
theorem dX6_isAsSeen_39 : decode cX6_isAsSeen 39 = .ok (.iconst 0, 1) := by decide +kernel
theorem dX6_isAsSeen_40 : decode cX6_isAsSeen 40 = .ok (.istore_n 2, 1) := by decide +kernel
theorem dX6_isAsSeen_41 : decode cX6_isAsSeen 41 = .ok (.iinc 3 1, 3) := by decide +kernel
theorem dX6_isAsSeen_44 : decode cX6_isAsSeen 44 = .ok (.goto (-40), 3) := by decide +kernel
theorem dX6_isAsSeen_47 : decode cX6_isAsSeen 47 = .ok (.iload_n 2, 1) := by decide +kernel
theorem dX6_isAsSeen_48 : decode cX6_isAsSeen 48 = .ok (.ireturn, 1) := by decide +kernel
theorem dX6_ranks_0 : decode cX6_ranks 0 = .ok (.aload_n 0, 1) := by decide +kernel
theorem dX6_ranks_1 : decode cX6_ranks 1 = .ok (.iconst 0, 1) := by decide +kernel
theorem dX6_ranks_2 : decode cX6_ranks 2 = .ok (.putfield 59, 3) := by decide +kernel
theorem dX6_ranks_5 : decode cX6_ranks 5 = .ok (.aload_n 0, 1) := by decide +kernel
theorem dX6_ranks_6 : decode cX6_ranks 6 = .ok (.iload_n 1, 1) := by decide +kernel
theorem dX6_ranks_7 : decode cX6_ranks 7 = .ok (.invokevirtual 194, 3) := by decide +kernel
theorem dX6_ranks_10 : decode cX6_ranks 10 = .ok (.ifCond .ne 5, 3) := by decide +kernel
theorem dX6_ranks_13 : decode cX6_ranks 13 = .ok (.iconst (-1), 1) := by decide +kernel
theorem dX6_ranks_14 : decode cX6_ranks 14 = .ok (.ireturn, 1) := by decide +kernel
theorem dX6_ranks_15 : decode cX6_ranks 15 = .ok (.iconst 0, 1) := by decide +kernel
theorem dX6_ranks_16 : decode cX6_ranks 16 = .ok (.istore_n 2, 1) := by decide +kernel
theorem dX6_ranks_17 : decode cX6_ranks 17 = .ok (.iconst 0, 1) := by decide +kernel
theorem dX6_ranks_18 : decode cX6_ranks 18 = .ok (.istore_n 3, 1) := by decide +kernel
theorem dX6_ranks_19 : decode cX6_ranks 19 = .ok (.iload_n 3, 1) := by decide +kernel
theorem dX6_ranks_20 : decode cX6_ranks 20 = .ok (.iconst 4, 1) := by decide +kernel
theorem dX6_ranks_21 : decode cX6_ranks 21 = .ok (.if_icmp .ge 32, 3) := by decide +kernel
theorem dX6_ranks_24 : decode cX6_ranks 24 = .ok (.iload_n 2, 1) := by decide +kernel
theorem dX6_ranks_25 : decode cX6_ranks 25 = .ok (.aload_n 0, 1) := by decide +kernel
theorem dX6_ranks_26 : decode cX6_ranks 26 = .ok (.aload_n 0, 1) := by decide +kernel
theorem dX6_ranks_27 : decode cX6_ranks 27 = .ok (.iload_n 1, 1) := by decide +kernel
theorem dX6_ranks_28 : decode cX6_ranks 28 = .ok (.iload_n 3, 1) := by decide +kernel
theorem dX6_ranks_29 : decode cX6_ranks 29 = .ok (.invokevirtual 211, 3) := by decide +kernel
theorem dX6_ranks_32 : decode cX6_ranks 32 = .ok (.invokevirtual 214, 3) := by decide +kernel
theorem dX6_ranks_35 : decode cX6_ranks 35 = .ok (.ifCond .eq 9, 3) := by decide +kernel
theorem dX6_ranks_38 : decode cX6_ranks 38 = .ok (.iconst 1, 1) := by decide +kernel
theorem dX6_ranks_39 : decode cX6_ranks 39 = .ok (.iload_n 3, 1) := by decide +kernel
theorem dX6_ranks_40 : decode cX6_ranks 40 = .ok (.ishl, 1) := by decide +kernel
theorem dX6_ranks_41 : decode cX6_ranks 41 = .ok (.goto 4, 3) := by decide +kernel
theorem dX6_ranks_44 : decode cX6_ranks 44 = .ok (.iconst 0, 1) := by decide +kernel
theorem dX6_ranks_45 : decode cX6_ranks 45 = .ok (.ior, 1) := by decide +kernel
theorem dX6_ranks_46 : decode cX6_ranks 46 = .ok (.istore_n 2, 1) := by decide +kernel
theorem dX6_ranks_47 : decode cX6_ranks 47 = .ok (.iinc 3 1, 3) := by decide +kernel
theorem dX6_ranks_50 : decode cX6_ranks 50 = .ok (.goto (-31), 3) := by decide +kernel
theorem dX6_ranks_53 : decode cX6_ranks 53 = .ok (.iload_n 2, 1) := by decide +kernel
theorem dX6_ranks_54 : decode cX6_ranks 54 = .ok (.ireturn, 1) := by decide +kernel
theorem dX6_look_0 : decode cX6_look 0 = .ok (.aload_n 0, 1) := by decide +kernel
theorem dX6_look_1 : decode cX6_look 1 = .ok (.iconst 0, 1) := by decide +kernel
theorem dX6_look_2 : decode cX6_look 2 = .ok (.putfield 59, 3) := by decide +kernel
theorem dX6_look_5 : decode cX6_look 5 = .ok (.aload_n 0, 1) := by decide +kernel
theorem dX6_look_6 : decode cX6_look 6 = .ok (.iload_n 1, 1) := by decide +kernel
theorem dX6_look_7 : decode cX6_look 7 = .ok (.invokevirtual 194, 3) := by decide +kernel
theorem dX6_look_10 : decode cX6_look 10 = .ok (.ifCond .ne 5, 3) := by decide +kernel
theorem dX6_look_13 : decode cX6_look 13 = .ok (.iconst (-1), 1) := by decide +kernel
theorem dX6_look_14 : decode cX6_look 14 = .ok (.ireturn, 1) := by decide +kernel
theorem dX6_look_15 : decode cX6_look 15 = .ok (.iconst 0, 1) := by decide +kernel
theorem dX6_look_16 : decode cX6_look 16 = .ok (.istore_n 2, 1) := by decide +kernel
theorem dX6_look_17 : decode cX6_look 17 = .ok (.iload_n 2, 1) := by decide +kernel
theorem dX6_look_18 : decode cX6_look 18 = .ok (.bipush 21, 2) := by decide +kernel
theorem dX6_look_20 : decode cX6_look 20 = .ok (.if_icmp .ge 16, 3) := by decide +kernel
theorem dX6_look_23 : decode cX6_look 23 = .ok (.aload_n 0, 1) := by decide +kernel
theorem dX6_look_24 : decode cX6_look 24 = .ok (.getfield 50, 3) := by decide +kernel
theorem dX6_look_27 : decode cX6_look 27 = .ok (.iload_n 2, 1) := by decide +kernel
theorem dX6_look_28 : decode cX6_look 28 = .ok (.iconst 0, 1) := by decide +kernel
theorem dX6_look_29 : decode cX6_look 29 = .ok (.iastore, 1) := by decide +kernel
theorem dX6_look_30 : decode cX6_look 30 = .ok (.iinc 2 1, 3) := by decide +kernel
theorem dX6_look_33 : decode cX6_look 33 = .ok (.goto (-16), 3) := by decide +kernel
theorem dX6_look_36 : decode cX6_look 36 = .ok (.iconst 0, 1) := by decide +kernel
theorem dX6_look_37 : decode cX6_look 37 = .ok (.istore_n 2, 1) := by decide +kernel
theorem dX6_look_38 : decode cX6_look 38 = .ok (.iconst 0, 1) := by decide +kernel
theorem dX6_look_39 : decode cX6_look 39 = .ok (.istore_n 3, 1) := by decide +kernel
theorem dX6_look_40 : decode cX6_look 40 = .ok (.iload_n 3, 1) := by decide +kernel
theorem dX6_look_41 : decode cX6_look 41 = .ok (.iconst 4, 1) := by decide +kernel
theorem dX6_look_42 : decode cX6_look 42 = .ok (.if_icmp .ge 62, 3) := by decide +kernel
theorem dX6_look_45 : decode cX6_look 45 = .ok (.aload_n 0, 1) := by decide +kernel
theorem dX6_look_46 : decode cX6_look 46 = .ok (.iload_n 1, 1) := by decide +kernel
theorem dX6_look_47 : decode cX6_look 47 = .ok (.iload_n 3, 1) := by decide +kernel
theorem dX6_look_48 : decode cX6_look 48 = .ok (.invokevirtual 211, 3) := by decide +kernel
theorem dX6_look_51 : decode cX6_look 51 = .ok (.istore 4, 2) := by decide +kernel
theorem dX6_look_53 : decode cX6_look 53 = .ok (.aload_n 0, 1) := by decide +kernel
theorem dX6_look_54 : decode cX6_look 54 = .ok (.iload 4, 2) := by decide +kernel
theorem dX6_look_56 : decode cX6_look 56 = .ok (.invokevirtual 214, 3) := by decide +kernel
theorem dX6_look_59 : decode cX6_look 59 = .ok (.ifCond .eq 39, 3) := by decide +kernel
theorem dX6_look_62 : decode cX6_look 62 = .ok (.iinc 2 1, 3) := by decide +kernel
theorem dX6_look_65 : decode cX6_look 65 = .ok (.iconst 1, 1) := by decide +kernel
theorem dX6_look_66 : decode cX6_look 66 = .ok (.istore 5, 2) := by decide +kernel
theorem dX6_look_68 : decode cX6_look 68 = .ok (.iload 5, 2) := by decide +kernel
theorem dX6_look_70 : decode cX6_look 70 = .ok (.bipush 21, 2) := by decide +kernel
theorem dX6_look_72 : decode cX6_look 72 = .ok (.if_icmp .ge 26, 3) := by decide +kernel
theorem dX6_look_75 : decode cX6_look 75 = .ok (.aload_n 0, 1) := by decide +kernel
theorem dX6_look_76 : decode cX6_look 76 = .ok (.getfield 50, 3) := by decide +kernel
theorem dX6_look_79 : decode cX6_look 79 = .ok (.iload 5, 2) := by decide +kernel
theorem dX6_look_81 : decode cX6_look 81 = .ok (.dup2, 1) := by decide +kernel
theorem dX6_look_82 : decode cX6_look 82 = .ok (.iaload, 1) := by decide +kernel
theorem dX6_look_83 : decode cX6_look 83 = .ok (.iload 4, 2) := by decide +kernel
theorem dX6_look_85 : decode cX6_look 85 = .ok (.iload 5, 2) := by decide +kernel
theorem dX6_look_87 : decode cX6_look 87 = .ok (.ishr, 1) := by decide +kernel
theorem dX6_look_88 : decode cX6_look 88 = .ok (.iconst 1, 1) := by decide +kernel
theorem dX6_look_89 : decode cX6_look 89 = .ok (.iand, 1) := by decide +kernel
theorem dX6_look_90 : decode cX6_look 90 = .ok (.iadd, 1) := by decide +kernel
theorem dX6_look_91 : decode cX6_look 91 = .ok (.iastore, 1) := by decide +kernel
theorem dX6_look_92 : decode cX6_look 92 = .ok (.iinc 5 1, 3) := by decide +kernel
theorem dX6_look_95 : decode cX6_look 95 = .ok (.goto (-27), 3) := by decide +kernel
theorem dX6_look_98 : decode cX6_look 98 = .ok (.iinc 3 1, 3) := by decide +kernel
theorem dX6_look_101 : decode cX6_look 101 = .ok (.goto (-61), 3) := by decide +kernel
theorem dX6_look_104 : decode cX6_look 104 = .ok (.bipush (-9), 2) := by decide +kernel
theorem dX6_look_106 : decode cX6_look 106 = .ok (.istore_n 3, 1) := by decide +kernel
theorem dX6_look_107 : decode cX6_look 107 = .ok (.bipush 99, 2) := by decide +kernel
theorem dX6_look_109 : decode cX6_look 109 = .ok (.istore 4, 2) := by decide +kernel
theorem dX6_look_111 : decode cX6_look 111 = .ok (.iconst 1, 1) := by decide +kernel
theorem dX6_look_112 : decode cX6_look 112 = .ok (.istore 5, 2) := by decide +kernel
theorem dX6_look_114 : decode cX6_look 114 = .ok (.iload 5, 2) := by decide +kernel
theorem dX6_look_116 : decode cX6_look 116 = .ok (.bipush 21, 2) := by decide +kernel
theorem dX6_look_118 : decode cX6_look 118 = .ok (.if_icmp .ge 84, 3) := by decide +kernel
theorem dX6_look_121 : decode cX6_look 121 = .ok (.iload_n 2, 1) := by decide +kernel
theorem dX6_look_122 : decode cX6_look 122 = .ok (.iconst 1, 1) := by decide +kernel
theorem dX6_look_123 : decode cX6_look 123 = .ok (.if_icmp .le 79, 3) := by decide +kernel
theorem dX6_look_126 : decode cX6_look 126 = .ok (.aload_n 0, 1) := by decide +kernel
theorem dX6_look_127 : decode cX6_look 127 = .ok (.getfield 50, 3) := by decide +kernel
theorem dX6_look_130 : decode cX6_look 130 = .ok (.iload 5, 2) := by decide +kernel
theorem dX6_look_132 : decode cX6_look 132 = .ok (.iaload, 1) := by decide +kernel
theorem dX6_look_133 : decode cX6_look 133 = .ok (.iload_n 2, 1) := by decide +kernel
theorem dX6_look_134 : decode cX6_look 134 = .ok (.aload_n 0, 1) := by decide +kernel
theorem dX6_look_135 : decode cX6_look 135 = .ok (.getfield 50, 3) := by decide +kernel
theorem dX6_look_138 : decode cX6_look 138 = .ok (.iload 5, 2) := by decide +kernel
theorem dX6_look_140 : decode cX6_look 140 = .ok (.iaload, 1) := by decide +kernel
theorem dX6_look_141 : decode cX6_look 141 = .ok (.isub, 1) := by decide +kernel
theorem dX6_look_142 : decode cX6_look 142 = .ok (.if_icmp .le 13, 3) := by decide +kernel
theorem dX6_look_145 : decode cX6_look 145 = .ok (.aload_n 0, 1) := by decide +kernel
theorem dX6_look_146 : decode cX6_look 146 = .ok (.getfield 50, 3) := by decide +kernel
theorem dX6_look_149 : decode cX6_look 149 = .ok (.iload 5, 2) := by decide +kernel
theorem dX6_look_151 : decode cX6_look 151 = .ok (.iaload, 1) := by decide +kernel
theorem dX6_look_152 : decode cX6_look 152 = .ok (.goto 12, 3) := by decide +kernel
theorem dX6_look_155 : decode cX6_look 155 = .ok (.iload_n 2, 1) := by decide +kernel
theorem dX6_look_156 : decode cX6_look 156 = .ok (.aload_n 0, 1) := by decide +kernel
theorem dX6_look_157 : decode cX6_look 157 = .ok (.getfield 50, 3) := by decide +kernel
theorem dX6_look_160 : decode cX6_look 160 = .ok (.iload 5, 2) := by decide +kernel
theorem dX6_look_162 : decode cX6_look 162 = .ok (.iaload, 1) := by decide +kernel
theorem dX6_look_163 : decode cX6_look 163 = .ok (.isub, 1) := by decide +kernel
theorem dX6_look_164 : decode cX6_look 164 = .ok (.istore 6, 2) := by decide +kernel
theorem dX6_look_166 : decode cX6_look 166 = .ok (.iload 6, 2) := by decide +kernel
theorem dX6_look_168 : decode cX6_look 168 = .ok (.iload 4, 2) := by decide +kernel
theorem dX6_look_170 : decode cX6_look 170 = .ok (.if_icmp .ge 8, 3) := by decide +kernel
theorem dX6_look_173 : decode cX6_look 173 = .ok (.iload 5, 2) := by decide +kernel
theorem dX6_look_175 : decode cX6_look 175 = .ok (.goto 4, 3) := by decide +kernel
theorem dX6_look_178 : decode cX6_look 178 = .ok (.iload_n 3, 1) := by decide +kernel
theorem dX6_look_179 : decode cX6_look 179 = .ok (.istore_n 3, 1) := by decide +kernel
theorem dX6_look_180 : decode cX6_look 180 = .ok (.iload 6, 2) := by decide +kernel
theorem dX6_look_182 : decode cX6_look 182 = .ok (.iload 4, 2) := by decide +kernel
theorem dX6_look_184 : decode cX6_look 184 = .ok (.if_icmp .ge 8, 3) := by decide +kernel
theorem dX6_look_187 : decode cX6_look 187 = .ok (.iload 6, 2) := by decide +kernel
theorem dX6_look_189 : decode cX6_look 189 = .ok (.goto 5, 3) := by decide +kernel
theorem dX6_look_192 : decode cX6_look 192 = .ok (.iload 4, 2) := by decide +kernel
theorem dX6_look_194 : decode cX6_look 194 = .ok (.istore 4, 2) := by decide +kernel
theorem dX6_look_196 : decode cX6_look 196 = .ok (.iinc 5 1, 3) := by decide +kernel
theorem dX6_look_199 : decode cX6_look 199 = .ok (.goto (-85), 3) := by decide +kernel
theorem dX6_look_202 : decode cX6_look 202 = .ok (.iload_n 3, 1) := by decide +kernel
theorem dX6_look_203 : decode cX6_look 203 = .ok (.ireturn, 1) := by decide +kernel
theorem dX6_keep_0 : decode cX6_keep 0 = .ok (.aload_n 0, 1) := by decide +kernel
theorem dX6_keep_1 : decode cX6_keep 1 = .ok (.iconst 0, 1) := by decide +kernel
theorem dX6_keep_2 : decode cX6_keep 2 = .ok (.putfield 59, 3) := by decide +kernel
theorem dX6_keep_5 : decode cX6_keep 5 = .ok (.iload_n 1, 1) := by decide +kernel
theorem dX6_keep_6 : decode cX6_keep 6 = .ok (.iconst 0, 1) := by decide +kernel
theorem dX6_keep_7 : decode cX6_keep 7 = .ok (.iconst 1, 1) := by decide +kernel
theorem dX6_keep_8 : decode cX6_keep 8 = .ok (.invokestatic 63, 3) := by decide +kernel
theorem dX6_keep_11 : decode cX6_keep 11 = .ok (.ifCond .ne 5, 3) := by decide +kernel
theorem dX6_keep_14 : decode cX6_keep 14 = .ok (.iconst (-1), 1) := by decide +kernel
theorem dX6_keep_15 : decode cX6_keep 15 = .ok (.ireturn, 1) := by decide +kernel
theorem dX6_keep_16 : decode cX6_keep 16 = .ok (.iconst 0, 1) := by decide +kernel
theorem dX6_keep_17 : decode cX6_keep 17 = .ok (.istore_n 2, 1) := by decide +kernel
theorem dX6_keep_18 : decode cX6_keep 18 = .ok (.iload_n 2, 1) := by decide +kernel
theorem dX6_keep_19 : decode cX6_keep 19 = .ok (.bipush 41, 2) := by decide +kernel
theorem dX6_keep_21 : decode cX6_keep 21 = .ok (.if_icmp .ge 26, 3) := by decide +kernel
theorem dX6_keep_24 : decode cX6_keep 24 = .ok (.aload_n 0, 1) := by decide +kernel
theorem dX6_keep_25 : decode cX6_keep 25 = .ok (.getfield 31, 3) := by decide +kernel
theorem dX6_keep_28 : decode cX6_keep 28 = .ok (.bipush 41, 2) := by decide +kernel
theorem dX6_keep_30 : decode cX6_keep 30 = .ok (.iload_n 1, 1) := by decide +kernel
theorem dX6_keep_31 : decode cX6_keep 31 = .ok (.imul, 1) := by decide +kernel
theorem dX6_keep_32 : decode cX6_keep 32 = .ok (.iload_n 2, 1) := by decide +kernel
theorem dX6_keep_33 : decode cX6_keep 33 = .ok (.iadd, 1) := by decide +kernel
theorem dX6_keep_34 : decode cX6_keep 34 = .ok (.aload_n 0, 1) := by decide +kernel
theorem dX6_keep_35 : decode cX6_keep 35 = .ok (.getfield 22, 3) := by decide +kernel
theorem dX6_keep_38 : decode cX6_keep 38 = .ok (.iload_n 2, 1) := by decide +kernel
theorem dX6_keep_39 : decode cX6_keep 39 = .ok (.iaload, 1) := by decide +kernel
theorem dX6_keep_40 : decode cX6_keep 40 = .ok (.iastore, 1) := by decide +kernel
theorem dX6_keep_41 : decode cX6_keep 41 = .ok (.iinc 2 1, 3) := by decide +kernel
theorem dX6_keep_44 : decode cX6_keep 44 = .ok (.goto (-26), 3) := by decide +kernel
theorem dX6_keep_47 : decode cX6_keep 47 = .ok (.aload_n 0, 1) := by decide +kernel
theorem dX6_keep_48 : decode cX6_keep 48 = .ok (.getfield 34, 3) := by decide +kernel
theorem dX6_keep_51 : decode cX6_keep 51 = .ok (.iload_n 1, 1) := by decide +kernel
theorem dX6_keep_52 : decode cX6_keep 52 = .ok (.iconst 1, 1) := by decide +kernel
theorem dX6_keep_53 : decode cX6_keep 53 = .ok (.bastore, 1) := by decide +kernel
theorem dX6_keep_54 : decode cX6_keep 54 = .ok (.aload_n 0, 1) := by decide +kernel
theorem dX6_keep_55 : decode cX6_keep 55 = .ok (.getfield 22, 3) := by decide +kernel
theorem dX6_keep_58 : decode cX6_keep 58 = .ok (.iconst 2, 1) := by decide +kernel
theorem dX6_keep_59 : decode cX6_keep 59 = .ok (.iaload, 1) := by decide +kernel
theorem dX6_keep_60 : decode cX6_keep 60 = .ok (.ireturn, 1) := by decide +kernel
theorem dX6_back_0 : decode cX6_back 0 = .ok (.aload_n 0, 1) := by decide +kernel
theorem dX6_back_1 : decode cX6_back 1 = .ok (.iconst 0, 1) := by decide +kernel
theorem dX6_back_2 : decode cX6_back 2 = .ok (.putfield 59, 3) := by decide +kernel
theorem dX6_back_5 : decode cX6_back 5 = .ok (.iload_n 1, 1) := by decide +kernel
theorem dX6_back_6 : decode cX6_back 6 = .ok (.iconst 0, 1) := by decide +kernel
theorem dX6_back_7 : decode cX6_back 7 = .ok (.iconst 1, 1) := by decide +kernel
theorem dX6_back_8 : decode cX6_back 8 = .ok (.invokestatic 63, 3) := by decide +kernel
theorem dX6_back_11 : decode cX6_back 11 = .ok (.ifCond .ne 5, 3) := by decide +kernel
theorem dX6_back_14 : decode cX6_back 14 = .ok (.iconst (-1), 1) := by decide +kernel
theorem dX6_back_15 : decode cX6_back 15 = .ok (.ireturn, 1) := by decide +kernel
theorem dX6_back_16 : decode cX6_back 16 = .ok (.aload_n 0, 1) := by decide +kernel
theorem dX6_back_17 : decode cX6_back 17 = .ok (.getfield 34, 3) := by decide +kernel
theorem dX6_back_20 : decode cX6_back 20 = .ok (.iload_n 1, 1) := by decide +kernel
theorem dX6_back_21 : decode cX6_back 21 = .ok (.baload, 1) := by decide +kernel
theorem dX6_back_22 : decode cX6_back 22 = .ok (.ifCond .ne 6, 3) := by decide +kernel
theorem dX6_back_25 : decode cX6_back 25 = .ok (.bipush (-2), 2) := by decide +kernel
theorem dX6_back_27 : decode cX6_back 27 = .ok (.ireturn, 1) := by decide +kernel
theorem dX6_back_28 : decode cX6_back 28 = .ok (.iconst 0, 1) := by decide +kernel
theorem dX6_back_29 : decode cX6_back 29 = .ok (.istore_n 2, 1) := by decide +kernel
theorem dX6_back_30 : decode cX6_back 30 = .ok (.iload_n 2, 1) := by decide +kernel
theorem dX6_back_31 : decode cX6_back 31 = .ok (.bipush 41, 2) := by decide +kernel
theorem dX6_back_33 : decode cX6_back 33 = .ok (.if_icmp .ge 26, 3) := by decide +kernel
theorem dX6_back_36 : decode cX6_back 36 = .ok (.aload_n 0, 1) := by decide +kernel
theorem dX6_back_37 : decode cX6_back 37 = .ok (.getfield 22, 3) := by decide +kernel
theorem dX6_back_40 : decode cX6_back 40 = .ok (.iload_n 2, 1) := by decide +kernel
theorem dX6_back_41 : decode cX6_back 41 = .ok (.aload_n 0, 1) := by decide +kernel
theorem dX6_back_42 : decode cX6_back 42 = .ok (.getfield 31, 3) := by decide +kernel
theorem dX6_back_45 : decode cX6_back 45 = .ok (.bipush 41, 2) := by decide +kernel
theorem dX6_back_47 : decode cX6_back 47 = .ok (.iload_n 1, 1) := by decide +kernel
theorem dX6_back_48 : decode cX6_back 48 = .ok (.imul, 1) := by decide +kernel
theorem dX6_back_49 : decode cX6_back 49 = .ok (.iload_n 2, 1) := by decide +kernel
theorem dX6_back_50 : decode cX6_back 50 = .ok (.iadd, 1) := by decide +kernel
theorem dX6_back_51 : decode cX6_back 51 = .ok (.iaload, 1) := by decide +kernel
theorem dX6_back_52 : decode cX6_back 52 = .ok (.iastore, 1) := by decide +kernel
theorem dX6_back_53 : decode cX6_back 53 = .ok (.iinc 2 1, 3) := by decide +kernel
theorem dX6_back_56 : decode cX6_back 56 = .ok (.goto (-26), 3) := by decide +kernel
theorem dX6_back_59 : decode cX6_back 59 = .ok (.aload_n 0, 1) := by decide +kernel
theorem dX6_back_60 : decode cX6_back 60 = .ok (.iconst 0, 1) := by decide +kernel
theorem dX6_back_61 : decode cX6_back 61 = .ok (.putfield 124, 3) := by decide +kernel
theorem dX6_back_64 : decode cX6_back 64 = .ok (.aload_n 0, 1) := by decide +kernel
theorem dX6_back_65 : decode cX6_back 65 = .ok (.getfield 22, 3) := by decide +kernel
theorem dX6_back_68 : decode cX6_back 68 = .ok (.iconst 2, 1) := by decide +kernel
theorem dX6_back_69 : decode cX6_back 69 = .ok (.iaload, 1) := by decide +kernel
theorem dX6_back_70 : decode cX6_back 70 = .ok (.ireturn, 1) := by decide +kernel
theorem dX6_count_0 : decode cX6_count 0 = .ok (.aload_n 0, 1) := by decide +kernel
theorem dX6_count_1 : decode cX6_count 1 = .ok (.iconst 0, 1) := by decide +kernel
theorem dX6_count_2 : decode cX6_count 2 = .ok (.putfield 59, 3) := by decide +kernel
theorem dX6_count_5 : decode cX6_count 5 = .ok (.iload_n 1, 1) := by decide +kernel
theorem dX6_count_6 : decode cX6_count 6 = .ok (.iconst 0, 1) := by decide +kernel
theorem dX6_count_7 : decode cX6_count 7 = .ok (.bipush 10, 2) := by decide +kernel
theorem dX6_count_9 : decode cX6_count 9 = .ok (.invokestatic 63, 3) := by decide +kernel
theorem dX6_count_12 : decode cX6_count 12 = .ok (.ifCond .ne 5, 3) := by decide +kernel
theorem dX6_count_15 : decode cX6_count 15 = .ok (.iconst (-1), 1) := by decide +kernel
theorem dX6_count_16 : decode cX6_count 16 = .ok (.ireturn, 1) := by decide +kernel
theorem dX6_count_17 : decode cX6_count 17 = .ok (.iload_n 1, 1) := by decide +kernel
theorem dX6_count_18 : decode cX6_count 18 = .ok (.iconst 3, 1) := by decide +kernel
theorem dX6_count_19 : decode cX6_count 19 = .ok (.if_icmp .ge 10, 3) := by decide +kernel
theorem dX6_count_22 : decode cX6_count 22 = .ok (.aload_n 0, 1) := by decide +kernel
theorem dX6_count_23 : decode cX6_count 23 = .ok (.getfield 13, 3) := by decide +kernel
theorem dX6_count_26 : decode cX6_count 26 = .ok (.iload_n 1, 1) := by decide +kernel
theorem dX6_count_27 : decode cX6_count 27 = .ok (.iaload, 1) := by decide +kernel
theorem dX6_count_28 : decode cX6_count 28 = .ok (.ireturn, 1) := by decide +kernel
theorem dX6_count_29 : decode cX6_count 29 = .ok (.iload_n 1, 1) := by decide +kernel
theorem dX6_count_30 : decode cX6_count 30 = .ok (.bipush 7, 2) := by decide +kernel
theorem dX6_count_32 : decode cX6_count 32 = .ok (.if_icmp .ge 14, 3) := by decide +kernel
theorem dX6_count_35 : decode cX6_count 35 = .ok (.aload_n 0, 1) := by decide +kernel
theorem dX6_count_36 : decode cX6_count 36 = .ok (.getfield 22, 3) := by decide +kernel
theorem dX6_count_39 : decode cX6_count 39 = .ok (.iconst 2, 1) := by decide +kernel
theorem dX6_count_40 : decode cX6_count 40 = .ok (.iload_n 1, 1) := by decide +kernel
theorem dX6_count_41 : decode cX6_count 41 = .ok (.iadd, 1) := by decide +kernel
theorem dX6_count_42 : decode cX6_count 42 = .ok (.iconst 3, 1) := by decide +kernel
theorem dX6_count_43 : decode cX6_count 43 = .ok (.isub, 1) := by decide +kernel
theorem dX6_count_44 : decode cX6_count 44 = .ok (.iaload, 1) := by decide +kernel
theorem dX6_count_45 : decode cX6_count 45 = .ok (.ireturn, 1) := by decide +kernel
theorem dX6_count_46 : decode cX6_count 46 = .ok (.aload_n 0, 1) := by decide +kernel
theorem dX6_count_47 : decode cX6_count 47 = .ok (.aload_n 0, 1) := by decide +kernel
theorem dX6_count_48 : decode cX6_count 48 = .ok (.getfield 22, 3) := by decide +kernel
theorem dX6_count_51 : decode cX6_count 51 = .ok (.invokevirtual 178, 3) := by decide +kernel
theorem dX6_count_54 : decode cX6_count 54 = .ok (.iload_n 1, 1) := by decide +kernel
theorem dX6_count_55 : decode cX6_count 55 = .ok (.bipush 7, 2) := by decide +kernel
theorem dX6_count_57 : decode cX6_count 57 = .ok (.if_icmp .ne 10, 3) := by decide +kernel
theorem dX6_count_60 : decode cX6_count 60 = .ok (.aload_n 0, 1) := by decide +kernel
theorem dX6_count_61 : decode cX6_count 61 = .ok (.getfield 143, 3) := by decide +kernel
theorem dX6_count_64 : decode cX6_count 64 = .ok (.goto 33, 3) := by decide +kernel
theorem dX6_count_67 : decode cX6_count 67 = .ok (.iload_n 1, 1) := by decide +kernel
theorem dX6_count_68 : decode cX6_count 68 = .ok (.bipush 8, 2) := by decide +kernel
theorem dX6_count_70 : decode cX6_count 70 = .ok (.if_icmp .ne 10, 3) := by decide +kernel
theorem dX6_count_73 : decode cX6_count 73 = .ok (.aload_n 0, 1) := by decide +kernel
theorem dX6_count_74 : decode cX6_count 74 = .ok (.getfield 121, 3) := by decide +kernel
theorem dX6_count_77 : decode cX6_count 77 = .ok (.goto 20, 3) := by decide +kernel
theorem dX6_count_80 : decode cX6_count 80 = .ok (.iload_n 1, 1) := by decide +kernel
theorem dX6_count_81 : decode cX6_count 81 = .ok (.bipush 9, 2) := by decide +kernel
theorem dX6_count_83 : decode cX6_count 83 = .ok (.if_icmp .ne 10, 3) := by decide +kernel
theorem dX6_count_86 : decode cX6_count 86 = .ok (.aload_n 0, 1) := by decide +kernel
theorem dX6_count_87 : decode cX6_count 87 = .ok (.getfield 67, 3) := by decide +kernel
theorem dX6_count_90 : decode cX6_count 90 = .ok (.goto 7, 3) := by decide +kernel
theorem dX6_count_93 : decode cX6_count 93 = .ok (.aload_n 0, 1) := by decide +kernel
theorem dX6_count_94 : decode cX6_count 94 = .ok (.getfield 124, 3) := by decide +kernel
theorem dX6_count_97 : decode cX6_count 97 = .ok (.ireturn, 1) := by decide +kernel
theorem dJ6_bitCount_0f7a4_0 : decode cJ6_bitCount_0f7a4 0 = .ok (.iload_n 0, 1) := by decide +kernel
theorem dJ6_bitCount_0f7a4_1 : decode cJ6_bitCount_0f7a4 1 = .ok (.iload_n 0, 1) := by decide +kernel
theorem dJ6_bitCount_0f7a4_2 : decode cJ6_bitCount_0f7a4 2 = .ok (.iconst 1, 1) := by decide +kernel
theorem dJ6_bitCount_0f7a4_3 : decode cJ6_bitCount_0f7a4 3 = .ok (.iushr, 1) := by decide +kernel
theorem dJ6_bitCount_0f7a4_4 : decode cJ6_bitCount_0f7a4 4 = .ok (.ldc_w 265, 3) := by decide +kernel
theorem dJ6_bitCount_0f7a4_7 : decode cJ6_bitCount_0f7a4 7 = .ok (.iand, 1) := by decide +kernel
theorem dJ6_bitCount_0f7a4_8 : decode cJ6_bitCount_0f7a4 8 = .ok (.isub, 1) := by decide +kernel
theorem dJ6_bitCount_0f7a4_9 : decode cJ6_bitCount_0f7a4 9 = .ok (.istore_n 0, 1) := by decide +kernel
theorem dJ6_bitCount_0f7a4_10 : decode cJ6_bitCount_0f7a4 10 = .ok (.iload_n 0, 1) := by decide +kernel
theorem dJ6_bitCount_0f7a4_11 : decode cJ6_bitCount_0f7a4 11 = .ok (.ldc_w 266, 3) := by decide +kernel
theorem dJ6_bitCount_0f7a4_14 : decode cJ6_bitCount_0f7a4 14 = .ok (.iand, 1) := by decide +kernel
theorem dJ6_bitCount_0f7a4_15 : decode cJ6_bitCount_0f7a4 15 = .ok (.iload_n 0, 1) := by decide +kernel
theorem dJ6_bitCount_0f7a4_16 : decode cJ6_bitCount_0f7a4 16 = .ok (.iconst 2, 1) := by decide +kernel
theorem dJ6_bitCount_0f7a4_17 : decode cJ6_bitCount_0f7a4 17 = .ok (.iushr, 1) := by decide +kernel
theorem dJ6_bitCount_0f7a4_18 : decode cJ6_bitCount_0f7a4 18 = .ok (.ldc_w 266, 3) := by decide +kernel
theorem dJ6_bitCount_0f7a4_21 : decode cJ6_bitCount_0f7a4 21 = .ok (.iand, 1) := by decide +kernel
theorem dJ6_bitCount_0f7a4_22 : decode cJ6_bitCount_0f7a4 22 = .ok (.iadd, 1) := by decide +kernel
theorem dJ6_bitCount_0f7a4_23 : decode cJ6_bitCount_0f7a4 23 = .ok (.istore_n 0, 1) := by decide +kernel
theorem dJ6_bitCount_0f7a4_24 : decode cJ6_bitCount_0f7a4 24 = .ok (.iload_n 0, 1) := by decide +kernel
theorem dJ6_bitCount_0f7a4_25 : decode cJ6_bitCount_0f7a4 25 = .ok (.iload_n 0, 1) := by decide +kernel
theorem dJ6_bitCount_0f7a4_26 : decode cJ6_bitCount_0f7a4 26 = .ok (.iconst 4, 1) := by decide +kernel
theorem dJ6_bitCount_0f7a4_27 : decode cJ6_bitCount_0f7a4 27 = .ok (.iushr, 1) := by decide +kernel
theorem dJ6_bitCount_0f7a4_28 : decode cJ6_bitCount_0f7a4 28 = .ok (.iadd, 1) := by decide +kernel
theorem dJ6_bitCount_0f7a4_29 : decode cJ6_bitCount_0f7a4 29 = .ok (.ldc_w 267, 3) := by decide +kernel
theorem dJ6_bitCount_0f7a4_32 : decode cJ6_bitCount_0f7a4 32 = .ok (.iand, 1) := by decide +kernel
theorem dJ6_bitCount_0f7a4_33 : decode cJ6_bitCount_0f7a4 33 = .ok (.istore_n 0, 1) := by decide +kernel
theorem dJ6_bitCount_0f7a4_34 : decode cJ6_bitCount_0f7a4 34 = .ok (.iload_n 0, 1) := by decide +kernel
theorem dJ6_bitCount_0f7a4_35 : decode cJ6_bitCount_0f7a4 35 = .ok (.iload_n 0, 1) := by decide +kernel
theorem dJ6_bitCount_0f7a4_36 : decode cJ6_bitCount_0f7a4 36 = .ok (.bipush 8, 2) := by decide +kernel
theorem dJ6_bitCount_0f7a4_38 : decode cJ6_bitCount_0f7a4 38 = .ok (.iushr, 1) := by decide +kernel
theorem dJ6_bitCount_0f7a4_39 : decode cJ6_bitCount_0f7a4 39 = .ok (.iadd, 1) := by decide +kernel
theorem dJ6_bitCount_0f7a4_40 : decode cJ6_bitCount_0f7a4 40 = .ok (.istore_n 0, 1) := by decide +kernel
theorem dJ6_bitCount_0f7a4_41 : decode cJ6_bitCount_0f7a4 41 = .ok (.iload_n 0, 1) := by decide +kernel
theorem dJ6_bitCount_0f7a4_42 : decode cJ6_bitCount_0f7a4 42 = .ok (.iload_n 0, 1) := by decide +kernel
theorem dJ6_bitCount_0f7a4_43 : decode cJ6_bitCount_0f7a4 43 = .ok (.bipush 16, 2) := by decide +kernel
theorem dJ6_bitCount_0f7a4_45 : decode cJ6_bitCount_0f7a4 45 = .ok (.iushr, 1) := by decide +kernel
theorem dJ6_bitCount_0f7a4_46 : decode cJ6_bitCount_0f7a4 46 = .ok (.iadd, 1) := by decide +kernel
theorem dJ6_bitCount_0f7a4_47 : decode cJ6_bitCount_0f7a4 47 = .ok (.istore_n 0, 1) := by decide +kernel
theorem dJ6_bitCount_0f7a4_48 : decode cJ6_bitCount_0f7a4 48 = .ok (.iload_n 0, 1) := by decide +kernel
theorem dJ6_bitCount_0f7a4_49 : decode cJ6_bitCount_0f7a4 49 = .ok (.bipush 63, 2) := by decide +kernel
theorem dJ6_bitCount_0f7a4_51 : decode cJ6_bitCount_0f7a4 51 = .ok (.iand, 1) := by decide +kernel
theorem dJ6_bitCount_0f7a4_52 : decode cJ6_bitCount_0f7a4 52 = .ok (.ireturn, 1) := by decide +kernel
theorem dJ9_max_7cf53_0 : decode cJ9_max_7cf53 0 = .ok (.iload_n 0, 1) := by decide +kernel
theorem dJ9_max_7cf53_1 : decode cJ9_max_7cf53 1 = .ok (.iload_n 1, 1) := by decide +kernel
theorem dJ9_max_7cf53_2 : decode cJ9_max_7cf53 2 = .ok (.if_icmp .lt 7, 3) := by decide +kernel
theorem dJ9_max_7cf53_5 : decode cJ9_max_7cf53 5 = .ok (.iload_n 0, 1) := by decide +kernel
theorem dJ9_max_7cf53_6 : decode cJ9_max_7cf53 6 = .ok (.goto 4, 3) := by decide +kernel
theorem dJ9_max_7cf53_9 : decode cJ9_max_7cf53 9 = .ok (.iload_n 1, 1) := by decide +kernel
theorem dJ9_max_7cf53_10 : decode cJ9_max_7cf53 10 = .ok (.ireturn, 1) := by decide +kernel
theorem dJ9_min_7cf53_0 : decode cJ9_min_7cf53 0 = .ok (.iload_n 0, 1) := by decide +kernel
theorem dJ9_min_7cf53_1 : decode cJ9_min_7cf53 1 = .ok (.iload_n 1, 1) := by decide +kernel
theorem dJ9_min_7cf53_2 : decode cJ9_min_7cf53 2 = .ok (.if_icmp .gt 7, 3) := by decide +kernel
theorem dJ9_min_7cf53_5 : decode cJ9_min_7cf53 5 = .ok (.iload_n 0, 1) := by decide +kernel
theorem dJ9_min_7cf53_6 : decode cJ9_min_7cf53 6 = .ok (.goto 4, 3) := by decide +kernel
theorem dJ9_min_7cf53_9 : decode cJ9_min_7cf53 9 = .ok (.iload_n 1, 1) := by decide +kernel
theorem dJ9_min_7cf53_10 : decode cJ9_min_7cf53 10 = .ok (.ireturn, 1) := by decide +kernel
theorem dL_law_0 : decode cL_law 0 = .ok (.new 7, 3) := by decide +kernel
theorem dL_law_3 : decode cL_law 3 = .ok (.dup, 1) := by decide +kernel
theorem dL_law_4 : decode cL_law 4 = .ok (.invokespecial 9, 3) := by decide +kernel
theorem dL_law_7 : decode cL_law 7 = .ok (.astore_n 1, 1) := by decide +kernel
theorem dL_law_8 : decode cL_law 8 = .ok (.new 10, 3) := by decide +kernel
theorem dL_law_11 : decode cL_law 11 = .ok (.dup, 1) := by decide +kernel
theorem dL_law_12 : decode cL_law 12 = .ok (.invokespecial 12, 3) := by decide +kernel
theorem dL_law_15 : decode cL_law 15 = .ok (.astore_n 2, 1) := by decide +kernel
theorem dL_law_16 : decode cL_law 16 = .ok (.iconst 0, 1) := by decide +kernel
theorem dL_law_17 : decode cL_law 17 = .ok (.istore_n 3, 1) := by decide +kernel
theorem dL_law_18 : decode cL_law 18 = .ok (.iload_n 3, 1) := by decide +kernel
theorem dL_law_19 : decode cL_law 19 = .ok (.aload_n 0, 1) := by decide +kernel
theorem dL_law_20 : decode cL_law 20 = .ok (.arraylength, 1) := by decide +kernel
theorem dL_law_21 : decode cL_law 21 = .ok (.iconst 5, 1) := by decide +kernel
theorem dL_law_22 : decode cL_law 22 = .ok (.isub, 1) := by decide +kernel
theorem dL_law_23 : decode cL_law 23 = .ok (.if_icmp .gt 739, 3) := by decide +kernel
theorem dL_law_26 : decode cL_law 26 = .ok (.aload_n 0, 1) := by decide +kernel
theorem dL_law_27 : decode cL_law 27 = .ok (.iload_n 3, 1) := by decide +kernel
theorem dL_law_28 : decode cL_law 28 = .ok (.iaload, 1) := by decide +kernel
theorem dL_law_29 : decode cL_law 29 = .ok (.bipush 31, 2) := by decide +kernel
theorem dL_law_31 : decode cL_law 31 = .ok (.iand, 1) := by decide +kernel
theorem dL_law_32 : decode cL_law 32 = .ok (.tableswitch 724 0 23 #[112, 135, 148, 161, 184, 217, 240, 273, 296, 309, 342, 375, 398, 421, 444, 477, 510, 563, 596, 609, 632, 655, 678, 701], 112) := by decide +kernel
theorem dL_law_144 : decode cL_law 144 = .ok (.aload_n 1, 1) := by decide +kernel
theorem dL_law_145 : decode cL_law 145 = .ok (.aload_n 0, 1) := by decide +kernel
theorem dL_law_146 : decode cL_law 146 = .ok (.iload_n 3, 1) := by decide +kernel
theorem dL_law_147 : decode cL_law 147 = .ok (.iconst 1, 1) := by decide +kernel
theorem dL_law_148 : decode cL_law 148 = .ok (.iadd, 1) := by decide +kernel
theorem dL_law_149 : decode cL_law 149 = .ok (.iaload, 1) := by decide +kernel
theorem dL_law_150 : decode cL_law 150 = .ok (.invokevirtual 13, 3) := by decide +kernel
theorem dL_law_153 : decode cL_law 153 = .ok (.aload_n 2, 1) := by decide +kernel
theorem dL_law_154 : decode cL_law 154 = .ok (.aload_n 0, 1) := by decide +kernel
theorem dL_law_155 : decode cL_law 155 = .ok (.iload_n 3, 1) := by decide +kernel
theorem dL_law_156 : decode cL_law 156 = .ok (.iconst 1, 1) := by decide +kernel
theorem dL_law_157 : decode cL_law 157 = .ok (.iadd, 1) := by decide +kernel
theorem dL_law_158 : decode cL_law 158 = .ok (.iaload, 1) := by decide +kernel
theorem dL_law_159 : decode cL_law 159 = .ok (.invokevirtual 17, 3) := by decide +kernel
theorem dL_law_162 : decode cL_law 162 = .ok (.if_icmp .eq 594, 3) := by decide +kernel
theorem dL_law_165 : decode cL_law 165 = .ok (.iconst 0, 1) := by decide +kernel
theorem dL_law_166 : decode cL_law 166 = .ok (.ireturn, 1) := by decide +kernel
theorem dL_law_167 : decode cL_law 167 = .ok (.aload_n 1, 1) := by decide +kernel
theorem dL_law_168 : decode cL_law 168 = .ok (.invokevirtual 18, 3) := by decide +kernel
theorem dL_law_171 : decode cL_law 171 = .ok (.aload_n 2, 1) := by decide +kernel
theorem dL_law_172 : decode cL_law 172 = .ok (.invokevirtual 22, 3) := by decide +kernel
theorem dL_law_175 : decode cL_law 175 = .ok (.if_icmp .eq 581, 3) := by decide +kernel
theorem dL_law_178 : decode cL_law 178 = .ok (.iconst 0, 1) := by decide +kernel
theorem dL_law_179 : decode cL_law 179 = .ok (.ireturn, 1) := by decide +kernel
theorem dL_law_180 : decode cL_law 180 = .ok (.aload_n 1, 1) := by decide +kernel
theorem dL_law_181 : decode cL_law 181 = .ok (.invokevirtual 23, 3) := by decide +kernel
theorem dL_law_184 : decode cL_law 184 = .ok (.aload_n 2, 1) := by decide +kernel
theorem dL_law_185 : decode cL_law 185 = .ok (.invokevirtual 26, 3) := by decide +kernel
theorem dL_law_188 : decode cL_law 188 = .ok (.if_icmp .eq 568, 3) := by decide +kernel
theorem dL_law_191 : decode cL_law 191 = .ok (.iconst 0, 1) := by decide +kernel
theorem dL_law_192 : decode cL_law 192 = .ok (.ireturn, 1) := by decide +kernel
theorem dL_law_193 : decode cL_law 193 = .ok (.aload_n 1, 1) := by decide +kernel
theorem dL_law_194 : decode cL_law 194 = .ok (.aload_n 0, 1) := by decide +kernel
theorem dL_law_195 : decode cL_law 195 = .ok (.iload_n 3, 1) := by decide +kernel
theorem dL_law_196 : decode cL_law 196 = .ok (.iconst 1, 1) := by decide +kernel
theorem dL_law_197 : decode cL_law 197 = .ok (.iadd, 1) := by decide +kernel
theorem dL_law_198 : decode cL_law 198 = .ok (.iaload, 1) := by decide +kernel
theorem dL_law_199 : decode cL_law 199 = .ok (.invokevirtual 27, 3) := by decide +kernel
theorem dL_law_202 : decode cL_law 202 = .ok (.aload_n 2, 1) := by decide +kernel
theorem dL_law_203 : decode cL_law 203 = .ok (.aload_n 0, 1) := by decide +kernel
theorem dL_law_204 : decode cL_law 204 = .ok (.iload_n 3, 1) := by decide +kernel
theorem dL_law_205 : decode cL_law 205 = .ok (.iconst 1, 1) := by decide +kernel
theorem dL_law_206 : decode cL_law 206 = .ok (.iadd, 1) := by decide +kernel
theorem dL_law_207 : decode cL_law 207 = .ok (.iaload, 1) := by decide +kernel
theorem dL_law_208 : decode cL_law 208 = .ok (.invokevirtual 30, 3) := by decide +kernel
theorem dL_law_211 : decode cL_law 211 = .ok (.if_icmp .eq 545, 3) := by decide +kernel
theorem dL_law_214 : decode cL_law 214 = .ok (.iconst 0, 1) := by decide +kernel
theorem dL_law_215 : decode cL_law 215 = .ok (.ireturn, 1) := by decide +kernel
theorem dL_law_216 : decode cL_law 216 = .ok (.aload_n 1, 1) := by decide +kernel
theorem dL_law_217 : decode cL_law 217 = .ok (.aload_n 0, 1) := by decide +kernel
theorem dL_law_218 : decode cL_law 218 = .ok (.iload_n 3, 1) := by decide +kernel
theorem dL_law_219 : decode cL_law 219 = .ok (.iconst 1, 1) := by decide +kernel
theorem dL_law_220 : decode cL_law 220 = .ok (.iadd, 1) := by decide +kernel
theorem dL_law_221 : decode cL_law 221 = .ok (.iaload, 1) := by decide +kernel
theorem dL_law_222 : decode cL_law 222 = .ok (.aload_n 0, 1) := by decide +kernel
theorem dL_law_223 : decode cL_law 223 = .ok (.iload_n 3, 1) := by decide +kernel
theorem dL_law_224 : decode cL_law 224 = .ok (.iconst 2, 1) := by decide +kernel
theorem dL_law_225 : decode cL_law 225 = .ok (.iadd, 1) := by decide +kernel
theorem dL_law_226 : decode cL_law 226 = .ok (.iaload, 1) := by decide +kernel
theorem dL_law_227 : decode cL_law 227 = .ok (.invokevirtual 31, 3) := by decide +kernel
theorem dL_law_230 : decode cL_law 230 = .ok (.aload_n 2, 1) := by decide +kernel
theorem dL_law_231 : decode cL_law 231 = .ok (.aload_n 0, 1) := by decide +kernel
theorem dL_law_232 : decode cL_law 232 = .ok (.iload_n 3, 1) := by decide +kernel
theorem dL_law_233 : decode cL_law 233 = .ok (.iconst 1, 1) := by decide +kernel
theorem dL_law_234 : decode cL_law 234 = .ok (.iadd, 1) := by decide +kernel
theorem dL_law_235 : decode cL_law 235 = .ok (.iaload, 1) := by decide +kernel
theorem dL_law_236 : decode cL_law 236 = .ok (.aload_n 0, 1) := by decide +kernel
theorem dL_law_237 : decode cL_law 237 = .ok (.iload_n 3, 1) := by decide +kernel
theorem dL_law_238 : decode cL_law 238 = .ok (.iconst 2, 1) := by decide +kernel
theorem dL_law_239 : decode cL_law 239 = .ok (.iadd, 1) := by decide +kernel
theorem dL_law_240 : decode cL_law 240 = .ok (.iaload, 1) := by decide +kernel
theorem dL_law_241 : decode cL_law 241 = .ok (.invokevirtual 35, 3) := by decide +kernel
theorem dL_law_244 : decode cL_law 244 = .ok (.if_icmp .eq 512, 3) := by decide +kernel
theorem dL_law_247 : decode cL_law 247 = .ok (.iconst 0, 1) := by decide +kernel
theorem dL_law_248 : decode cL_law 248 = .ok (.ireturn, 1) := by decide +kernel
theorem dL_law_249 : decode cL_law 249 = .ok (.aload_n 1, 1) := by decide +kernel
theorem dL_law_250 : decode cL_law 250 = .ok (.aload_n 0, 1) := by decide +kernel
theorem dL_law_251 : decode cL_law 251 = .ok (.iload_n 3, 1) := by decide +kernel
theorem dL_law_252 : decode cL_law 252 = .ok (.iconst 1, 1) := by decide +kernel
theorem dL_law_253 : decode cL_law 253 = .ok (.iadd, 1) := by decide +kernel
theorem dL_law_254 : decode cL_law 254 = .ok (.iaload, 1) := by decide +kernel
theorem dL_law_255 : decode cL_law 255 = .ok (.invokevirtual 36, 3) := by decide +kernel
theorem dL_law_258 : decode cL_law 258 = .ok (.aload_n 2, 1) := by decide +kernel
theorem dL_law_259 : decode cL_law 259 = .ok (.aload_n 0, 1) := by decide +kernel
theorem dL_law_260 : decode cL_law 260 = .ok (.iload_n 3, 1) := by decide +kernel
theorem dL_law_261 : decode cL_law 261 = .ok (.iconst 1, 1) := by decide +kernel
theorem dL_law_262 : decode cL_law 262 = .ok (.iadd, 1) := by decide +kernel
theorem dL_law_263 : decode cL_law 263 = .ok (.iaload, 1) := by decide +kernel
theorem dL_law_264 : decode cL_law 264 = .ok (.invokevirtual 39, 3) := by decide +kernel
theorem dL_law_267 : decode cL_law 267 = .ok (.if_icmp .eq 489, 3) := by decide +kernel
theorem dL_law_270 : decode cL_law 270 = .ok (.iconst 0, 1) := by decide +kernel
theorem dL_law_271 : decode cL_law 271 = .ok (.ireturn, 1) := by decide +kernel
theorem dL_law_272 : decode cL_law 272 = .ok (.aload_n 1, 1) := by decide +kernel
theorem dL_law_273 : decode cL_law 273 = .ok (.aload_n 0, 1) := by decide +kernel
theorem dL_law_274 : decode cL_law 274 = .ok (.iload_n 3, 1) := by decide +kernel
theorem dL_law_275 : decode cL_law 275 = .ok (.iconst 1, 1) := by decide +kernel
theorem dL_law_276 : decode cL_law 276 = .ok (.iadd, 1) := by decide +kernel
theorem dL_law_277 : decode cL_law 277 = .ok (.iaload, 1) := by decide +kernel
theorem dL_law_278 : decode cL_law 278 = .ok (.aload_n 0, 1) := by decide +kernel
theorem dL_law_279 : decode cL_law 279 = .ok (.iload_n 3, 1) := by decide +kernel
theorem dL_law_280 : decode cL_law 280 = .ok (.iconst 2, 1) := by decide +kernel
theorem dL_law_281 : decode cL_law 281 = .ok (.iadd, 1) := by decide +kernel
theorem dL_law_282 : decode cL_law 282 = .ok (.iaload, 1) := by decide +kernel
theorem dL_law_283 : decode cL_law 283 = .ok (.invokevirtual 40, 3) := by decide +kernel
theorem dL_law_286 : decode cL_law 286 = .ok (.aload_n 2, 1) := by decide +kernel
theorem dL_law_287 : decode cL_law 287 = .ok (.aload_n 0, 1) := by decide +kernel
theorem dL_law_288 : decode cL_law 288 = .ok (.iload_n 3, 1) := by decide +kernel
theorem dL_law_289 : decode cL_law 289 = .ok (.iconst 1, 1) := by decide +kernel
theorem dL_law_290 : decode cL_law 290 = .ok (.iadd, 1) := by decide +kernel
theorem dL_law_291 : decode cL_law 291 = .ok (.iaload, 1) := by decide +kernel
theorem dL_law_292 : decode cL_law 292 = .ok (.aload_n 0, 1) := by decide +kernel
theorem dL_law_293 : decode cL_law 293 = .ok (.iload_n 3, 1) := by decide +kernel
theorem dL_law_294 : decode cL_law 294 = .ok (.iconst 2, 1) := by decide +kernel
theorem dL_law_295 : decode cL_law 295 = .ok (.iadd, 1) := by decide +kernel
theorem dL_law_296 : decode cL_law 296 = .ok (.iaload, 1) := by decide +kernel
theorem dL_law_297 : decode cL_law 297 = .ok (.invokevirtual 43, 3) := by decide +kernel
theorem dL_law_300 : decode cL_law 300 = .ok (.if_icmp .eq 456, 3) := by decide +kernel
theorem dL_law_303 : decode cL_law 303 = .ok (.iconst 0, 1) := by decide +kernel
theorem dL_law_304 : decode cL_law 304 = .ok (.ireturn, 1) := by decide +kernel
theorem dL_law_305 : decode cL_law 305 = .ok (.aload_n 1, 1) := by decide +kernel
theorem dL_law_306 : decode cL_law 306 = .ok (.aload_n 0, 1) := by decide +kernel
theorem dL_law_307 : decode cL_law 307 = .ok (.iload_n 3, 1) := by decide +kernel
theorem dL_law_308 : decode cL_law 308 = .ok (.iconst 1, 1) := by decide +kernel
theorem dL_law_309 : decode cL_law 309 = .ok (.iadd, 1) := by decide +kernel
theorem dL_law_310 : decode cL_law 310 = .ok (.iaload, 1) := by decide +kernel
theorem dL_law_311 : decode cL_law 311 = .ok (.invokevirtual 44, 3) := by decide +kernel
theorem dL_law_314 : decode cL_law 314 = .ok (.aload_n 2, 1) := by decide +kernel
theorem dL_law_315 : decode cL_law 315 = .ok (.aload_n 0, 1) := by decide +kernel
theorem dL_law_316 : decode cL_law 316 = .ok (.iload_n 3, 1) := by decide +kernel
theorem dL_law_317 : decode cL_law 317 = .ok (.iconst 1, 1) := by decide +kernel
theorem dL_law_318 : decode cL_law 318 = .ok (.iadd, 1) := by decide +kernel
theorem dL_law_319 : decode cL_law 319 = .ok (.iaload, 1) := by decide +kernel
theorem dL_law_320 : decode cL_law 320 = .ok (.invokevirtual 47, 3) := by decide +kernel
theorem dL_law_323 : decode cL_law 323 = .ok (.if_icmp .eq 433, 3) := by decide +kernel
theorem dL_law_326 : decode cL_law 326 = .ok (.iconst 0, 1) := by decide +kernel
theorem dL_law_327 : decode cL_law 327 = .ok (.ireturn, 1) := by decide +kernel
theorem dL_law_328 : decode cL_law 328 = .ok (.aload_n 1, 1) := by decide +kernel
theorem dL_law_329 : decode cL_law 329 = .ok (.invokevirtual 48, 3) := by decide +kernel
theorem dL_law_332 : decode cL_law 332 = .ok (.aload_n 2, 1) := by decide +kernel
theorem dL_law_333 : decode cL_law 333 = .ok (.invokevirtual 51, 3) := by decide +kernel
theorem dL_law_336 : decode cL_law 336 = .ok (.if_icmp .eq 420, 3) := by decide +kernel
theorem dL_law_339 : decode cL_law 339 = .ok (.iconst 0, 1) := by decide +kernel
theorem dL_law_340 : decode cL_law 340 = .ok (.ireturn, 1) := by decide +kernel
theorem dL_law_341 : decode cL_law 341 = .ok (.aload_n 1, 1) := by decide +kernel
theorem dL_law_342 : decode cL_law 342 = .ok (.aload_n 0, 1) := by decide +kernel
theorem dL_law_343 : decode cL_law 343 = .ok (.iload_n 3, 1) := by decide +kernel
theorem dL_law_344 : decode cL_law 344 = .ok (.iconst 1, 1) := by decide +kernel
theorem dL_law_345 : decode cL_law 345 = .ok (.iadd, 1) := by decide +kernel
theorem dL_law_346 : decode cL_law 346 = .ok (.iaload, 1) := by decide +kernel
theorem dL_law_347 : decode cL_law 347 = .ok (.aload_n 0, 1) := by decide +kernel
theorem dL_law_348 : decode cL_law 348 = .ok (.iload_n 3, 1) := by decide +kernel
theorem dL_law_349 : decode cL_law 349 = .ok (.iconst 2, 1) := by decide +kernel
theorem dL_law_350 : decode cL_law 350 = .ok (.iadd, 1) := by decide +kernel
theorem dL_law_351 : decode cL_law 351 = .ok (.iaload, 1) := by decide +kernel
theorem dL_law_352 : decode cL_law 352 = .ok (.invokevirtual 52, 3) := by decide +kernel
theorem dL_law_355 : decode cL_law 355 = .ok (.aload_n 2, 1) := by decide +kernel
theorem dL_law_356 : decode cL_law 356 = .ok (.aload_n 0, 1) := by decide +kernel
theorem dL_law_357 : decode cL_law 357 = .ok (.iload_n 3, 1) := by decide +kernel
theorem dL_law_358 : decode cL_law 358 = .ok (.iconst 1, 1) := by decide +kernel
theorem dL_law_359 : decode cL_law 359 = .ok (.iadd, 1) := by decide +kernel
theorem dL_law_360 : decode cL_law 360 = .ok (.iaload, 1) := by decide +kernel
theorem dL_law_361 : decode cL_law 361 = .ok (.aload_n 0, 1) := by decide +kernel
theorem dL_law_362 : decode cL_law 362 = .ok (.iload_n 3, 1) := by decide +kernel
theorem dL_law_363 : decode cL_law 363 = .ok (.iconst 2, 1) := by decide +kernel
theorem dL_law_364 : decode cL_law 364 = .ok (.iadd, 1) := by decide +kernel
theorem dL_law_365 : decode cL_law 365 = .ok (.iaload, 1) := by decide +kernel
theorem dL_law_366 : decode cL_law 366 = .ok (.invokevirtual 55, 3) := by decide +kernel
theorem dL_law_369 : decode cL_law 369 = .ok (.if_icmp .eq 387, 3) := by decide +kernel
theorem dL_law_372 : decode cL_law 372 = .ok (.iconst 0, 1) := by decide +kernel
theorem dL_law_373 : decode cL_law 373 = .ok (.ireturn, 1) := by decide +kernel
theorem dL_law_374 : decode cL_law 374 = .ok (.aload_n 1, 1) := by decide +kernel
theorem dL_law_375 : decode cL_law 375 = .ok (.aload_n 0, 1) := by decide +kernel
theorem dL_law_376 : decode cL_law 376 = .ok (.iload_n 3, 1) := by decide +kernel
theorem dL_law_377 : decode cL_law 377 = .ok (.iconst 1, 1) := by decide +kernel
theorem dL_law_378 : decode cL_law 378 = .ok (.iadd, 1) := by decide +kernel
theorem dL_law_379 : decode cL_law 379 = .ok (.iaload, 1) := by decide +kernel
theorem dL_law_380 : decode cL_law 380 = .ok (.aload_n 0, 1) := by decide +kernel
theorem dL_law_381 : decode cL_law 381 = .ok (.iload_n 3, 1) := by decide +kernel
theorem dL_law_382 : decode cL_law 382 = .ok (.iconst 2, 1) := by decide +kernel
theorem dL_law_383 : decode cL_law 383 = .ok (.iadd, 1) := by decide +kernel
theorem dL_law_384 : decode cL_law 384 = .ok (.iaload, 1) := by decide +kernel
theorem dL_law_385 : decode cL_law 385 = .ok (.invokevirtual 56, 3) := by decide +kernel
theorem dL_law_388 : decode cL_law 388 = .ok (.aload_n 2, 1) := by decide +kernel
theorem dL_law_389 : decode cL_law 389 = .ok (.aload_n 0, 1) := by decide +kernel
theorem dL_law_390 : decode cL_law 390 = .ok (.iload_n 3, 1) := by decide +kernel
theorem dL_law_391 : decode cL_law 391 = .ok (.iconst 1, 1) := by decide +kernel
theorem dL_law_392 : decode cL_law 392 = .ok (.iadd, 1) := by decide +kernel
theorem dL_law_393 : decode cL_law 393 = .ok (.iaload, 1) := by decide +kernel
theorem dL_law_394 : decode cL_law 394 = .ok (.aload_n 0, 1) := by decide +kernel
theorem dL_law_395 : decode cL_law 395 = .ok (.iload_n 3, 1) := by decide +kernel
theorem dL_law_396 : decode cL_law 396 = .ok (.iconst 2, 1) := by decide +kernel
theorem dL_law_397 : decode cL_law 397 = .ok (.iadd, 1) := by decide +kernel
theorem dL_law_398 : decode cL_law 398 = .ok (.iaload, 1) := by decide +kernel
theorem dL_law_399 : decode cL_law 399 = .ok (.invokevirtual 59, 3) := by decide +kernel
theorem dL_law_402 : decode cL_law 402 = .ok (.if_icmp .eq 354, 3) := by decide +kernel
theorem dL_law_405 : decode cL_law 405 = .ok (.iconst 0, 1) := by decide +kernel
theorem dL_law_406 : decode cL_law 406 = .ok (.ireturn, 1) := by decide +kernel
theorem dL_law_407 : decode cL_law 407 = .ok (.aload_n 1, 1) := by decide +kernel
theorem dL_law_408 : decode cL_law 408 = .ok (.aload_n 0, 1) := by decide +kernel
theorem dL_law_409 : decode cL_law 409 = .ok (.iload_n 3, 1) := by decide +kernel
theorem dL_law_410 : decode cL_law 410 = .ok (.iconst 1, 1) := by decide +kernel
theorem dL_law_411 : decode cL_law 411 = .ok (.iadd, 1) := by decide +kernel
theorem dL_law_412 : decode cL_law 412 = .ok (.iaload, 1) := by decide +kernel
theorem dL_law_413 : decode cL_law 413 = .ok (.invokevirtual 60, 3) := by decide +kernel
theorem dL_law_416 : decode cL_law 416 = .ok (.aload_n 2, 1) := by decide +kernel
theorem dL_law_417 : decode cL_law 417 = .ok (.aload_n 0, 1) := by decide +kernel
theorem dL_law_418 : decode cL_law 418 = .ok (.iload_n 3, 1) := by decide +kernel
theorem dL_law_419 : decode cL_law 419 = .ok (.iconst 1, 1) := by decide +kernel
theorem dL_law_420 : decode cL_law 420 = .ok (.iadd, 1) := by decide +kernel
theorem dL_law_421 : decode cL_law 421 = .ok (.iaload, 1) := by decide +kernel
theorem dL_law_422 : decode cL_law 422 = .ok (.invokevirtual 63, 3) := by decide +kernel
theorem dL_law_425 : decode cL_law 425 = .ok (.if_icmp .eq 331, 3) := by decide +kernel
theorem dL_law_428 : decode cL_law 428 = .ok (.iconst 0, 1) := by decide +kernel
theorem dL_law_429 : decode cL_law 429 = .ok (.ireturn, 1) := by decide +kernel
theorem dL_law_430 : decode cL_law 430 = .ok (.aload_n 1, 1) := by decide +kernel
theorem dL_law_431 : decode cL_law 431 = .ok (.aload_n 0, 1) := by decide +kernel
theorem dL_law_432 : decode cL_law 432 = .ok (.iload_n 3, 1) := by decide +kernel
theorem dL_law_433 : decode cL_law 433 = .ok (.iconst 1, 1) := by decide +kernel
theorem dL_law_434 : decode cL_law 434 = .ok (.iadd, 1) := by decide +kernel
theorem dL_law_435 : decode cL_law 435 = .ok (.iaload, 1) := by decide +kernel
theorem dL_law_436 : decode cL_law 436 = .ok (.invokevirtual 64, 3) := by decide +kernel
theorem dL_law_439 : decode cL_law 439 = .ok (.aload_n 2, 1) := by decide +kernel
theorem dL_law_440 : decode cL_law 440 = .ok (.aload_n 0, 1) := by decide +kernel
theorem dL_law_441 : decode cL_law 441 = .ok (.iload_n 3, 1) := by decide +kernel
theorem dL_law_442 : decode cL_law 442 = .ok (.iconst 1, 1) := by decide +kernel
theorem dL_law_443 : decode cL_law 443 = .ok (.iadd, 1) := by decide +kernel
theorem dL_law_444 : decode cL_law 444 = .ok (.iaload, 1) := by decide +kernel
theorem dL_law_445 : decode cL_law 445 = .ok (.invokevirtual 67, 3) := by decide +kernel
theorem dL_law_448 : decode cL_law 448 = .ok (.if_icmp .eq 308, 3) := by decide +kernel
theorem dL_law_451 : decode cL_law 451 = .ok (.iconst 0, 1) := by decide +kernel
theorem dL_law_452 : decode cL_law 452 = .ok (.ireturn, 1) := by decide +kernel
theorem dL_law_453 : decode cL_law 453 = .ok (.aload_n 1, 1) := by decide +kernel
theorem dL_law_454 : decode cL_law 454 = .ok (.aload_n 0, 1) := by decide +kernel
theorem dL_law_455 : decode cL_law 455 = .ok (.iload_n 3, 1) := by decide +kernel
theorem dL_law_456 : decode cL_law 456 = .ok (.iconst 1, 1) := by decide +kernel
theorem dL_law_457 : decode cL_law 457 = .ok (.iadd, 1) := by decide +kernel
theorem dL_law_458 : decode cL_law 458 = .ok (.iaload, 1) := by decide +kernel
theorem dL_law_459 : decode cL_law 459 = .ok (.invokevirtual 68, 3) := by decide +kernel
theorem dL_law_462 : decode cL_law 462 = .ok (.aload_n 2, 1) := by decide +kernel
theorem dL_law_463 : decode cL_law 463 = .ok (.aload_n 0, 1) := by decide +kernel
theorem dL_law_464 : decode cL_law 464 = .ok (.iload_n 3, 1) := by decide +kernel
theorem dL_law_465 : decode cL_law 465 = .ok (.iconst 1, 1) := by decide +kernel
theorem dL_law_466 : decode cL_law 466 = .ok (.iadd, 1) := by decide +kernel
theorem dL_law_467 : decode cL_law 467 = .ok (.iaload, 1) := by decide +kernel
theorem dL_law_468 : decode cL_law 468 = .ok (.invokevirtual 71, 3) := by decide +kernel
theorem dL_law_471 : decode cL_law 471 = .ok (.if_icmp .eq 285, 3) := by decide +kernel
theorem dL_law_474 : decode cL_law 474 = .ok (.iconst 0, 1) := by decide +kernel
theorem dL_law_475 : decode cL_law 475 = .ok (.ireturn, 1) := by decide +kernel
theorem dL_law_476 : decode cL_law 476 = .ok (.aload_n 1, 1) := by decide +kernel
theorem dL_law_477 : decode cL_law 477 = .ok (.aload_n 0, 1) := by decide +kernel
theorem dL_law_478 : decode cL_law 478 = .ok (.iload_n 3, 1) := by decide +kernel
theorem dL_law_479 : decode cL_law 479 = .ok (.iconst 1, 1) := by decide +kernel
theorem dL_law_480 : decode cL_law 480 = .ok (.iadd, 1) := by decide +kernel
theorem dL_law_481 : decode cL_law 481 = .ok (.iaload, 1) := by decide +kernel
theorem dL_law_482 : decode cL_law 482 = .ok (.aload_n 0, 1) := by decide +kernel
theorem dL_law_483 : decode cL_law 483 = .ok (.iload_n 3, 1) := by decide +kernel
theorem dL_law_484 : decode cL_law 484 = .ok (.iconst 2, 1) := by decide +kernel
theorem dL_law_485 : decode cL_law 485 = .ok (.iadd, 1) := by decide +kernel
theorem dL_law_486 : decode cL_law 486 = .ok (.iaload, 1) := by decide +kernel
theorem dL_law_487 : decode cL_law 487 = .ok (.invokevirtual 72, 3) := by decide +kernel
theorem dL_law_490 : decode cL_law 490 = .ok (.aload_n 2, 1) := by decide +kernel
theorem dL_law_491 : decode cL_law 491 = .ok (.aload_n 0, 1) := by decide +kernel
theorem dL_law_492 : decode cL_law 492 = .ok (.iload_n 3, 1) := by decide +kernel
theorem dL_law_493 : decode cL_law 493 = .ok (.iconst 1, 1) := by decide +kernel
theorem dL_law_494 : decode cL_law 494 = .ok (.iadd, 1) := by decide +kernel
theorem dL_law_495 : decode cL_law 495 = .ok (.iaload, 1) := by decide +kernel
theorem dL_law_496 : decode cL_law 496 = .ok (.aload_n 0, 1) := by decide +kernel
theorem dL_law_497 : decode cL_law 497 = .ok (.iload_n 3, 1) := by decide +kernel
theorem dL_law_498 : decode cL_law 498 = .ok (.iconst 2, 1) := by decide +kernel
theorem dL_law_499 : decode cL_law 499 = .ok (.iadd, 1) := by decide +kernel
theorem dL_law_500 : decode cL_law 500 = .ok (.iaload, 1) := by decide +kernel
theorem dL_law_501 : decode cL_law 501 = .ok (.invokevirtual 75, 3) := by decide +kernel
theorem dL_law_504 : decode cL_law 504 = .ok (.if_icmp .eq 252, 3) := by decide +kernel
theorem dL_law_507 : decode cL_law 507 = .ok (.iconst 0, 1) := by decide +kernel
theorem dL_law_508 : decode cL_law 508 = .ok (.ireturn, 1) := by decide +kernel
theorem dL_law_509 : decode cL_law 509 = .ok (.aload_n 1, 1) := by decide +kernel
theorem dL_law_510 : decode cL_law 510 = .ok (.aload_n 0, 1) := by decide +kernel
theorem dL_law_511 : decode cL_law 511 = .ok (.iload_n 3, 1) := by decide +kernel
theorem dL_law_512 : decode cL_law 512 = .ok (.iconst 1, 1) := by decide +kernel
theorem dL_law_513 : decode cL_law 513 = .ok (.iadd, 1) := by decide +kernel
theorem dL_law_514 : decode cL_law 514 = .ok (.iaload, 1) := by decide +kernel
theorem dL_law_515 : decode cL_law 515 = .ok (.aload_n 0, 1) := by decide +kernel
theorem dL_law_516 : decode cL_law 516 = .ok (.iload_n 3, 1) := by decide +kernel
theorem dL_law_517 : decode cL_law 517 = .ok (.iconst 2, 1) := by decide +kernel
theorem dL_law_518 : decode cL_law 518 = .ok (.iadd, 1) := by decide +kernel
theorem dL_law_519 : decode cL_law 519 = .ok (.iaload, 1) := by decide +kernel
theorem dL_law_520 : decode cL_law 520 = .ok (.invokevirtual 76, 3) := by decide +kernel
theorem dL_law_523 : decode cL_law 523 = .ok (.aload_n 2, 1) := by decide +kernel
theorem dL_law_524 : decode cL_law 524 = .ok (.aload_n 0, 1) := by decide +kernel
theorem dL_law_525 : decode cL_law 525 = .ok (.iload_n 3, 1) := by decide +kernel
theorem dL_law_526 : decode cL_law 526 = .ok (.iconst 1, 1) := by decide +kernel
theorem dL_law_527 : decode cL_law 527 = .ok (.iadd, 1) := by decide +kernel
theorem dL_law_528 : decode cL_law 528 = .ok (.iaload, 1) := by decide +kernel
theorem dL_law_529 : decode cL_law 529 = .ok (.aload_n 0, 1) := by decide +kernel
theorem dL_law_530 : decode cL_law 530 = .ok (.iload_n 3, 1) := by decide +kernel
theorem dL_law_531 : decode cL_law 531 = .ok (.iconst 2, 1) := by decide +kernel
theorem dL_law_532 : decode cL_law 532 = .ok (.iadd, 1) := by decide +kernel
theorem dL_law_533 : decode cL_law 533 = .ok (.iaload, 1) := by decide +kernel
theorem dL_law_534 : decode cL_law 534 = .ok (.invokevirtual 79, 3) := by decide +kernel
theorem dL_law_537 : decode cL_law 537 = .ok (.if_icmp .eq 219, 3) := by decide +kernel
theorem dL_law_540 : decode cL_law 540 = .ok (.iconst 0, 1) := by decide +kernel
theorem dL_law_541 : decode cL_law 541 = .ok (.ireturn, 1) := by decide +kernel
theorem dL_law_542 : decode cL_law 542 = .ok (.aload_n 1, 1) := by decide +kernel
theorem dL_law_543 : decode cL_law 543 = .ok (.aload_n 0, 1) := by decide +kernel
theorem dL_law_544 : decode cL_law 544 = .ok (.iload_n 3, 1) := by decide +kernel
theorem dL_law_545 : decode cL_law 545 = .ok (.iconst 1, 1) := by decide +kernel
theorem dL_law_546 : decode cL_law 546 = .ok (.iadd, 1) := by decide +kernel
theorem dL_law_547 : decode cL_law 547 = .ok (.iaload, 1) := by decide +kernel
theorem dL_law_548 : decode cL_law 548 = .ok (.aload_n 0, 1) := by decide +kernel
theorem dL_law_549 : decode cL_law 549 = .ok (.iload_n 3, 1) := by decide +kernel
theorem dL_law_550 : decode cL_law 550 = .ok (.iconst 2, 1) := by decide +kernel
theorem dL_law_551 : decode cL_law 551 = .ok (.iadd, 1) := by decide +kernel
theorem dL_law_552 : decode cL_law 552 = .ok (.iaload, 1) := by decide +kernel
theorem dL_law_553 : decode cL_law 553 = .ok (.aload_n 0, 1) := by decide +kernel
theorem dL_law_554 : decode cL_law 554 = .ok (.iload_n 3, 1) := by decide +kernel
theorem dL_law_555 : decode cL_law 555 = .ok (.iconst 3, 1) := by decide +kernel
theorem dL_law_556 : decode cL_law 556 = .ok (.iadd, 1) := by decide +kernel
theorem dL_law_557 : decode cL_law 557 = .ok (.iaload, 1) := by decide +kernel
theorem dL_law_558 : decode cL_law 558 = .ok (.aload_n 0, 1) := by decide +kernel
theorem dL_law_559 : decode cL_law 559 = .ok (.iload_n 3, 1) := by decide +kernel
theorem dL_law_560 : decode cL_law 560 = .ok (.iconst 4, 1) := by decide +kernel
theorem dL_law_561 : decode cL_law 561 = .ok (.iadd, 1) := by decide +kernel
theorem dL_law_562 : decode cL_law 562 = .ok (.iaload, 1) := by decide +kernel
theorem dL_law_563 : decode cL_law 563 = .ok (.invokevirtual 80, 3) := by decide +kernel
theorem dL_law_566 : decode cL_law 566 = .ok (.aload_n 2, 1) := by decide +kernel
theorem dL_law_567 : decode cL_law 567 = .ok (.aload_n 0, 1) := by decide +kernel
theorem dL_law_568 : decode cL_law 568 = .ok (.iload_n 3, 1) := by decide +kernel
theorem dL_law_569 : decode cL_law 569 = .ok (.iconst 1, 1) := by decide +kernel
theorem dL_law_570 : decode cL_law 570 = .ok (.iadd, 1) := by decide +kernel
theorem dL_law_571 : decode cL_law 571 = .ok (.iaload, 1) := by decide +kernel
theorem dL_law_572 : decode cL_law 572 = .ok (.aload_n 0, 1) := by decide +kernel
theorem dL_law_573 : decode cL_law 573 = .ok (.iload_n 3, 1) := by decide +kernel
theorem dL_law_574 : decode cL_law 574 = .ok (.iconst 2, 1) := by decide +kernel
theorem dL_law_575 : decode cL_law 575 = .ok (.iadd, 1) := by decide +kernel
theorem dL_law_576 : decode cL_law 576 = .ok (.iaload, 1) := by decide +kernel
theorem dL_law_577 : decode cL_law 577 = .ok (.aload_n 0, 1) := by decide +kernel
theorem dL_law_578 : decode cL_law 578 = .ok (.iload_n 3, 1) := by decide +kernel
theorem dL_law_579 : decode cL_law 579 = .ok (.iconst 3, 1) := by decide +kernel
theorem dL_law_580 : decode cL_law 580 = .ok (.iadd, 1) := by decide +kernel
theorem dL_law_581 : decode cL_law 581 = .ok (.iaload, 1) := by decide +kernel
theorem dL_law_582 : decode cL_law 582 = .ok (.aload_n 0, 1) := by decide +kernel
theorem dL_law_583 : decode cL_law 583 = .ok (.iload_n 3, 1) := by decide +kernel
theorem dL_law_584 : decode cL_law 584 = .ok (.iconst 4, 1) := by decide +kernel
theorem dL_law_585 : decode cL_law 585 = .ok (.iadd, 1) := by decide +kernel
theorem dL_law_586 : decode cL_law 586 = .ok (.iaload, 1) := by decide +kernel
theorem dL_law_587 : decode cL_law 587 = .ok (.invokevirtual 84, 3) := by decide +kernel
theorem dL_law_590 : decode cL_law 590 = .ok (.if_icmp .eq 166, 3) := by decide +kernel
theorem dL_law_593 : decode cL_law 593 = .ok (.iconst 0, 1) := by decide +kernel
theorem dL_law_594 : decode cL_law 594 = .ok (.ireturn, 1) := by decide +kernel
theorem dL_law_595 : decode cL_law 595 = .ok (.aload_n 1, 1) := by decide +kernel
theorem dL_law_596 : decode cL_law 596 = .ok (.aload_n 0, 1) := by decide +kernel
theorem dL_law_597 : decode cL_law 597 = .ok (.iload_n 3, 1) := by decide +kernel
theorem dL_law_598 : decode cL_law 598 = .ok (.iconst 1, 1) := by decide +kernel
theorem dL_law_599 : decode cL_law 599 = .ok (.iadd, 1) := by decide +kernel
theorem dL_law_600 : decode cL_law 600 = .ok (.iaload, 1) := by decide +kernel
theorem dL_law_601 : decode cL_law 601 = .ok (.aload_n 0, 1) := by decide +kernel
theorem dL_law_602 : decode cL_law 602 = .ok (.iload_n 3, 1) := by decide +kernel
theorem dL_law_603 : decode cL_law 603 = .ok (.iconst 2, 1) := by decide +kernel
theorem dL_law_604 : decode cL_law 604 = .ok (.iadd, 1) := by decide +kernel
theorem dL_law_605 : decode cL_law 605 = .ok (.iaload, 1) := by decide +kernel
theorem dL_law_606 : decode cL_law 606 = .ok (.invokevirtual 85, 3) := by decide +kernel
theorem dL_law_609 : decode cL_law 609 = .ok (.aload_n 2, 1) := by decide +kernel
theorem dL_law_610 : decode cL_law 610 = .ok (.aload_n 0, 1) := by decide +kernel
theorem dL_law_611 : decode cL_law 611 = .ok (.iload_n 3, 1) := by decide +kernel
theorem dL_law_612 : decode cL_law 612 = .ok (.iconst 1, 1) := by decide +kernel
theorem dL_law_613 : decode cL_law 613 = .ok (.iadd, 1) := by decide +kernel
theorem dL_law_614 : decode cL_law 614 = .ok (.iaload, 1) := by decide +kernel
theorem dL_law_615 : decode cL_law 615 = .ok (.aload_n 0, 1) := by decide +kernel
theorem dL_law_616 : decode cL_law 616 = .ok (.iload_n 3, 1) := by decide +kernel
theorem dL_law_617 : decode cL_law 617 = .ok (.iconst 2, 1) := by decide +kernel
theorem dL_law_618 : decode cL_law 618 = .ok (.iadd, 1) := by decide +kernel
theorem dL_law_619 : decode cL_law 619 = .ok (.iaload, 1) := by decide +kernel
theorem dL_law_620 : decode cL_law 620 = .ok (.invokevirtual 88, 3) := by decide +kernel
theorem dL_law_623 : decode cL_law 623 = .ok (.if_icmp .eq 133, 3) := by decide +kernel
theorem dL_law_626 : decode cL_law 626 = .ok (.iconst 0, 1) := by decide +kernel
theorem dL_law_627 : decode cL_law 627 = .ok (.ireturn, 1) := by decide +kernel
theorem dL_law_628 : decode cL_law 628 = .ok (.aload_n 1, 1) := by decide +kernel
theorem dL_law_629 : decode cL_law 629 = .ok (.invokevirtual 89, 3) := by decide +kernel
theorem dL_law_632 : decode cL_law 632 = .ok (.aload_n 2, 1) := by decide +kernel
theorem dL_law_633 : decode cL_law 633 = .ok (.invokevirtual 92, 3) := by decide +kernel
theorem dL_law_636 : decode cL_law 636 = .ok (.if_icmp .eq 120, 3) := by decide +kernel
theorem dL_law_639 : decode cL_law 639 = .ok (.iconst 0, 1) := by decide +kernel
theorem dL_law_640 : decode cL_law 640 = .ok (.ireturn, 1) := by decide +kernel
theorem dL_law_641 : decode cL_law 641 = .ok (.aload_n 1, 1) := by decide +kernel
theorem dL_law_642 : decode cL_law 642 = .ok (.aload_n 0, 1) := by decide +kernel
theorem dL_law_643 : decode cL_law 643 = .ok (.iload_n 3, 1) := by decide +kernel
theorem dL_law_644 : decode cL_law 644 = .ok (.iconst 1, 1) := by decide +kernel
theorem dL_law_645 : decode cL_law 645 = .ok (.iadd, 1) := by decide +kernel
theorem dL_law_646 : decode cL_law 646 = .ok (.iaload, 1) := by decide +kernel
theorem dL_law_647 : decode cL_law 647 = .ok (.invokevirtual 93, 3) := by decide +kernel
theorem dL_law_650 : decode cL_law 650 = .ok (.aload_n 2, 1) := by decide +kernel
theorem dL_law_651 : decode cL_law 651 = .ok (.aload_n 0, 1) := by decide +kernel
theorem dL_law_652 : decode cL_law 652 = .ok (.iload_n 3, 1) := by decide +kernel
theorem dL_law_653 : decode cL_law 653 = .ok (.iconst 1, 1) := by decide +kernel
theorem dL_law_654 : decode cL_law 654 = .ok (.iadd, 1) := by decide +kernel
theorem dL_law_655 : decode cL_law 655 = .ok (.iaload, 1) := by decide +kernel
theorem dL_law_656 : decode cL_law 656 = .ok (.invokevirtual 96, 3) := by decide +kernel
theorem dL_law_659 : decode cL_law 659 = .ok (.if_icmp .eq 97, 3) := by decide +kernel
theorem dL_law_662 : decode cL_law 662 = .ok (.iconst 0, 1) := by decide +kernel
theorem dL_law_663 : decode cL_law 663 = .ok (.ireturn, 1) := by decide +kernel
theorem dL_law_664 : decode cL_law 664 = .ok (.aload_n 1, 1) := by decide +kernel
theorem dL_law_665 : decode cL_law 665 = .ok (.aload_n 0, 1) := by decide +kernel
theorem dL_law_666 : decode cL_law 666 = .ok (.iload_n 3, 1) := by decide +kernel
theorem dL_law_667 : decode cL_law 667 = .ok (.iconst 1, 1) := by decide +kernel
theorem dL_law_668 : decode cL_law 668 = .ok (.iadd, 1) := by decide +kernel
theorem dL_law_669 : decode cL_law 669 = .ok (.iaload, 1) := by decide +kernel
theorem dL_law_670 : decode cL_law 670 = .ok (.invokevirtual 97, 3) := by decide +kernel
theorem dL_law_673 : decode cL_law 673 = .ok (.aload_n 2, 1) := by decide +kernel
theorem dL_law_674 : decode cL_law 674 = .ok (.aload_n 0, 1) := by decide +kernel
theorem dL_law_675 : decode cL_law 675 = .ok (.iload_n 3, 1) := by decide +kernel
theorem dL_law_676 : decode cL_law 676 = .ok (.iconst 1, 1) := by decide +kernel
theorem dL_law_677 : decode cL_law 677 = .ok (.iadd, 1) := by decide +kernel
theorem dL_law_678 : decode cL_law 678 = .ok (.iaload, 1) := by decide +kernel
theorem dL_law_679 : decode cL_law 679 = .ok (.invokevirtual 100, 3) := by decide +kernel
theorem dL_law_682 : decode cL_law 682 = .ok (.if_icmp .eq 74, 3) := by decide +kernel
theorem dL_law_685 : decode cL_law 685 = .ok (.iconst 0, 1) := by decide +kernel
theorem dL_law_686 : decode cL_law 686 = .ok (.ireturn, 1) := by decide +kernel
theorem dL_law_687 : decode cL_law 687 = .ok (.aload_n 1, 1) := by decide +kernel
theorem dL_law_688 : decode cL_law 688 = .ok (.aload_n 0, 1) := by decide +kernel
theorem dL_law_689 : decode cL_law 689 = .ok (.iload_n 3, 1) := by decide +kernel
theorem dL_law_690 : decode cL_law 690 = .ok (.iconst 1, 1) := by decide +kernel
theorem dL_law_691 : decode cL_law 691 = .ok (.iadd, 1) := by decide +kernel
theorem dL_law_692 : decode cL_law 692 = .ok (.iaload, 1) := by decide +kernel
theorem dL_law_693 : decode cL_law 693 = .ok (.invokevirtual 101, 3) := by decide +kernel
theorem dL_law_696 : decode cL_law 696 = .ok (.aload_n 2, 1) := by decide +kernel
theorem dL_law_697 : decode cL_law 697 = .ok (.aload_n 0, 1) := by decide +kernel
theorem dL_law_698 : decode cL_law 698 = .ok (.iload_n 3, 1) := by decide +kernel
theorem dL_law_699 : decode cL_law 699 = .ok (.iconst 1, 1) := by decide +kernel
theorem dL_law_700 : decode cL_law 700 = .ok (.iadd, 1) := by decide +kernel
theorem dL_law_701 : decode cL_law 701 = .ok (.iaload, 1) := by decide +kernel
theorem dL_law_702 : decode cL_law 702 = .ok (.invokevirtual 104, 3) := by decide +kernel
theorem dL_law_705 : decode cL_law 705 = .ok (.if_icmp .eq 51, 3) := by decide +kernel
theorem dL_law_708 : decode cL_law 708 = .ok (.iconst 0, 1) := by decide +kernel
theorem dL_law_709 : decode cL_law 709 = .ok (.ireturn, 1) := by decide +kernel
theorem dL_law_710 : decode cL_law 710 = .ok (.aload_n 1, 1) := by decide +kernel
theorem dL_law_711 : decode cL_law 711 = .ok (.aload_n 0, 1) := by decide +kernel
theorem dL_law_712 : decode cL_law 712 = .ok (.iload_n 3, 1) := by decide +kernel
theorem dL_law_713 : decode cL_law 713 = .ok (.iconst 1, 1) := by decide +kernel
theorem dL_law_714 : decode cL_law 714 = .ok (.iadd, 1) := by decide +kernel
theorem dL_law_715 : decode cL_law 715 = .ok (.iaload, 1) := by decide +kernel
theorem dL_law_716 : decode cL_law 716 = .ok (.invokevirtual 105, 3) := by decide +kernel
theorem dL_law_719 : decode cL_law 719 = .ok (.aload_n 2, 1) := by decide +kernel
theorem dL_law_720 : decode cL_law 720 = .ok (.aload_n 0, 1) := by decide +kernel
theorem dL_law_721 : decode cL_law 721 = .ok (.iload_n 3, 1) := by decide +kernel
theorem dL_law_722 : decode cL_law 722 = .ok (.iconst 1, 1) := by decide +kernel
theorem dL_law_723 : decode cL_law 723 = .ok (.iadd, 1) := by decide +kernel
theorem dL_law_724 : decode cL_law 724 = .ok (.iaload, 1) := by decide +kernel
theorem dL_law_725 : decode cL_law 725 = .ok (.invokevirtual 108, 3) := by decide +kernel
theorem dL_law_728 : decode cL_law 728 = .ok (.if_icmp .eq 28, 3) := by decide +kernel
theorem dL_law_731 : decode cL_law 731 = .ok (.iconst 0, 1) := by decide +kernel
theorem dL_law_732 : decode cL_law 732 = .ok (.ireturn, 1) := by decide +kernel
theorem dL_law_733 : decode cL_law 733 = .ok (.aload_n 1, 1) := by decide +kernel
theorem dL_law_734 : decode cL_law 734 = .ok (.aload_n 0, 1) := by decide +kernel
theorem dL_law_735 : decode cL_law 735 = .ok (.iload_n 3, 1) := by decide +kernel
theorem dL_law_736 : decode cL_law 736 = .ok (.iconst 1, 1) := by decide +kernel
theorem dL_law_737 : decode cL_law 737 = .ok (.iadd, 1) := by decide +kernel
theorem dL_law_738 : decode cL_law 738 = .ok (.iaload, 1) := by decide +kernel
theorem dL_law_739 : decode cL_law 739 = .ok (.invokevirtual 109, 3) := by decide +kernel
theorem dL_law_742 : decode cL_law 742 = .ok (.aload_n 2, 1) := by decide +kernel
theorem dL_law_743 : decode cL_law 743 = .ok (.aload_n 0, 1) := by decide +kernel
theorem dL_law_744 : decode cL_law 744 = .ok (.iload_n 3, 1) := by decide +kernel
theorem dL_law_745 : decode cL_law 745 = .ok (.iconst 1, 1) := by decide +kernel
theorem dL_law_746 : decode cL_law 746 = .ok (.iadd, 1) := by decide +kernel
theorem dL_law_747 : decode cL_law 747 = .ok (.iaload, 1) := by decide +kernel
theorem dL_law_748 : decode cL_law 748 = .ok (.invokevirtual 112, 3) := by decide +kernel
theorem dL_law_751 : decode cL_law 751 = .ok (.if_icmp .eq 5, 3) := by decide +kernel
theorem dL_law_754 : decode cL_law 754 = .ok (.iconst 0, 1) := by decide +kernel
theorem dL_law_755 : decode cL_law 755 = .ok (.ireturn, 1) := by decide +kernel
theorem dL_law_756 : decode cL_law 756 = .ok (.iinc 3 5, 3) := by decide +kernel
theorem dL_law_759 : decode cL_law 759 = .ok (.goto (-741), 3) := by decide +kernel
theorem dL_law_762 : decode cL_law 762 = .ok (.iconst 1, 1) := by decide +kernel
theorem dL_law_763 : decode cL_law 763 = .ok (.ireturn, 1) := by decide +kernel
end
section
/-! the flat world: 149 cells; cell k holds the numbers w k; objects of one class lie in fixed places -/
abbrev ra_W : Type := Nat → Nat → Int32
abbrev ra_G : Type := (Nat → Nat) × va_G × ClassId × ClassId × ClassId
def ra_kl : List (Nat × Nat) := [(5, 0), (3, 0), (10, 80), (2, 0), (10, 2), (10, 7), (10, 7), (10, 7), (2, 0), (10, 2), (10, 7), (10, 7), (10, 7), (0, 0), (10, 7), (10, 7), (4, 0), (10, 7), (10, 7), (10, 7), (10, 7), (10, 7), (10, 2), (4, 0), (10, 7), (10, 7), (10, 7), (10, 7), (10, 7), (10, 2), (1, 0), (12, 12), (12, 2), (10, 6), (10, 6), (10, 4), (4, 0), (10, 7), (10, 7), (10, 7), (10, 7), (10, 7), (10, 2), (4, 0), (10, 7), (10, 7), (10, 7), (10, 7), (10, 7), (10, 2), (4, 0), (10, 7), (10, 7), (10, 7), (10, 7), (10, 7), (10, 2), (4, 0), (10, 7), (10, 7), (10, 7), (10, 7), (10, 7), (10, 2), (4, 0), (10, 7), (10, 7), (10, 7), (10, 7), (10, 7), (10, 2), (4, 0), (10, 7), (10, 7), (10, 7), (10, 7), (10, 7), (10, 2), (4, 0), (10, 7), (10, 7), (10, 7), (10, 7), (10, 7), (10, 2), (4, 0), (10, 7), (10, 7), (10, 7), (10, 7), (10, 7), (10, 2), (4, 0), (10, 7), (10, 7), (10, 7), (10, 7), (10, 7), (10, 2), (4, 0), (10, 7), (10, 7), (10, 7), (10, 7), (10, 7), (10, 2), (4, 0), (10, 7), (10, 7), (10, 7), (10, 7), (10, 7), (10, 2), (4, 0), (10, 7), (10, 7), (10, 7), (10, 7), (10, 7), (10, 2), (4, 0), (10, 7), (10, 7), (10, 7), (10, 7), (10, 7), (10, 2), (4, 0), (10, 7), (10, 7), (10, 7), (10, 7), (10, 7), (10, 2), (6, 0), (10, 80), (10, 19), (10, 19), (10, 41), (10, 41), (10, 41), (10, 492), (10, 82), (11, 2), (10, 6), (10, 6), (10, 7), (10, 7), (10, 21)]
def ra_kd (k : Nat) : Nat × Nat := ra_kl.getD k (99, 0)
def ra_fs (ad : Nat → Nat) (ci k : Nat) (c : Nat → Int32) : List Value := match ci with
  | 0 => [.ref (ad (k + 1)), .ref (ad (k + 2))]
  | 1 => [.int (c 0), .ref (ad (k + 1)), .int (c 2)]
  | 2 => [.int (c 0), .int (c 1), .int (c 2), .ref (ad (k + 1)), .ref (ad (k + 2)), .ref (ad (k + 3)), .ref (ad (k + 4))]
  | 3 => [.int (c 0), .ref (ad (k + 1)), .int (c 2), .int (c 3), .int (c 4), .int (c 5), .int (c 6), .int (c 7), .int (c 8)]
  | 4 => [.ref (ad (k + 1)), .ref (ad (k + 2)), .ref (ad (k + 3)), .ref (ad (k + 4)), .ref (ad (k + 5)), .ref (ad (k + 6)), .int (c 6), .int (c 7), .int (c 8), .int (c 9)]
  | 5 => [.ref (ad 1), .ref (ad 3), .ref (ad 8), .ref (ad 13), .ref (ad 16), .ref (ad 23), .ref (ad 30), .ref (ad 32), .int (c 8), .ref (ad 33), .ref (ad 34), .int (c 11), .ref (ad 35)]
  | 6 => [.int (c 0), .ref (ad 135), .int (c 2), .int (c 3), .int (c 4), .int (c 5), .int (c 6), .int (c 7), .int (c 8), .ref (ad 136), .ref (ad 137), .ref (ad 138), .ref (ad 139), .ref (ad 140), .ref (ad 141), .int (c 15), .ref (ad 142), .ref (ad 143), .ref (ad 144), .ref (ad 145), .int (c 20), .ref (ad 146), .int (c 22), .ref (ad 147), .ref (ad 148)]
  | _ => []
def ra_rs (k j : Nat) : Nat := if k = 31 then 50 + 7 * j else 36 + 7 * j
def ra_E (G : ra_G) (k : Nat) (c : Nat → Int32) : va_E :=
  if (ra_kd k).1 = 10 then .inl (G.2.2.1, (ra_kd k).2, .inl c)
  else if (ra_kd k).1 = 11 then .inl (G.2.2.2.1, (ra_kd k).2, .inl c)
  else if (ra_kd k).1 = 12 then .inl (G.2.2.2.2, (ra_kd k).2, .inr (.inr (.inr (.inr (fun j => some (G.1 (ra_rs k j)))))))
  else .inr ((ra_kd k).1, ra_fs G.1 (ra_kd k).1 k c)
def ra_L (G : ra_G) (w : ra_W) : va_W := (List.range 149).map (fun k => (G.1 k, ra_E G k (w k)))
def ra_up (w : ra_W) (k : Nat) (c : Nat → Int32) : ra_W := fun j => if j = k then c else w j
def ra_st (w : ra_W) (k i : Nat) (x : Int32) : ra_W := ra_up w k (upd (w k) i x)
theorem ra_kl_len : ra_kl.length = 149 := by decide +kernel
theorem ra_kd_lt {k : Nat} (h : (ra_kd k).1 ≠ 99) : k < 149 := by
  rcases Nat.lt_or_ge k 149 with q | q
  · exact q
  · exfalso
    apply h
    unfold ra_kd
    rw [List.getD_eq_getElem?_getD, List.getElem?_eq_none (by rw [ra_kl_len]; exact q)]
    rfl
theorem ra_L_get (G : ra_G) (w : ra_W) {k : Nat} (h : k < 149) : (ra_L G w)[k]? = some (G.1 k, ra_E G k (w k)) := by
  simp [ra_L, h]
theorem ra_L_len (G : ra_G) (w : ra_W) : (ra_L G w).length = 149 := by simp [ra_L]
theorem ra_L_some {G : ra_G} {w : ra_W} {k : Nat} {q : Nat × va_E} (h : (ra_L G w)[k]? = some q) : k < 149 ∧ q.1 = G.1 k := by
  have hk : k < 149 := by rw [← ra_L_len G w]; exact (List.getElem?_eq_some_iff.mp h).1
  rw [ra_L_get G w hk] at h
  cases h
  exact ⟨hk, rfl⟩
theorem ra_L_set (G : ra_G) (w : ra_W) {k : Nat} (h : k < 149) (c : Nat → Int32) : (ra_L G w).set k (G.1 k, ra_E G k c) = ra_L G (ra_up w k c) := by
  apply List.ext_getElem?
  intro i
  rw [List.getElem?_set]
  by_cases hk : k = i
  · subst hk
    rw [if_pos rfl, if_pos (by rw [ra_L_len]; exact h), ra_L_get _ _ h]
    simp [ra_up]
  · rw [if_neg hk]
    by_cases hi : i < 149
    · rw [ra_L_get _ _ hi, ra_L_get _ _ hi]
      simp [ra_up, Ne.symm hk]
    · rw [List.getElem?_eq_none (by rw [ra_L_len]; omega), List.getElem?_eq_none (by rw [ra_L_len]; omega)]
theorem ra_EA {G : ra_G} {k n : Nat} (h : ra_kd k = (10, n)) (c : Nat → Int32) : ra_E G k c = .inl (G.2.2.1, n, .inl c) := by
  rw [ra_E, h]; rfl
theorem ra_EZ {G : ra_G} {k n : Nat} (h : ra_kd k = (11, n)) (c : Nat → Int32) : ra_E G k c = .inl (G.2.2.2.1, n, .inl c) := by
  rw [ra_E, h]; rfl
theorem ra_ES {G : ra_G} {k n : Nat} (h : ra_kd k = (12, n)) (c : Nat → Int32) : ra_E G k c = .inl (G.2.2.2.2, n, .inr (.inr (.inr (.inr (fun j => some (G.1 (ra_rs k j))))))) := by
  rw [ra_E, h]; rfl
theorem ra_EO {G : ra_G} {k ci : Nat} (h : ra_kd k = (ci, 0)) (hc : ci < 7) (c : Nat → Int32) : ra_E G k c = .inr (ci, ra_fs G.1 ci k c) := by
  rw [ra_E, h, if_neg (by show ¬ ci = 10; omega), if_neg (by show ¬ ci = 11; omega), if_neg (by show ¬ ci = 12; omega)]
theorem ra_lt {k a b : Nat} (h : ra_kd k = (a, b)) (ha : a ≠ 99) : k < 149 := ra_kd_lt (by rw [h]; exact ha)
theorem ra_getA (G : ra_G) (w : ra_W) {k n : Nat} (h : ra_kd k = (10, n)) : (ra_L G w)[k]? = some (G.1 k, .inl (G.2.2.1, n, .inl (w k))) := by
  rw [ra_L_get G w (ra_lt h (by decide)), ra_EA h]
theorem ra_getZ (G : ra_G) (w : ra_W) {k n : Nat} (h : ra_kd k = (11, n)) : (ra_L G w)[k]? = some (G.1 k, .inl (G.2.2.2.1, n, .inl (w k))) := by
  rw [ra_L_get G w (ra_lt h (by decide)), ra_EZ h]
theorem ra_getS (G : ra_G) (w : ra_W) {k n : Nat} (h : ra_kd k = (12, n)) : (ra_L G w)[k]? = some (G.1 k, .inl (G.2.2.2.2, n, .inr (.inr (.inr (.inr (fun j => some (G.1 (ra_rs k j)))))))) := by
  rw [ra_L_get G w (ra_lt h (by decide)), ra_ES h]
theorem ra_getO (G : ra_G) (w : ra_W) {k ci : Nat} (h : ra_kd k = (ci, 0)) (hc : ci < 7) : (ra_L G w)[k]? = some (G.1 k, .inr (ci, ra_fs G.1 ci k (w k))) := by
  rw [ra_L_get G w (ra_lt h (by omega)), ra_EO h hc]
theorem ra_setA (G : ra_G) (w : ra_W) {k n : Nat} (h : ra_kd k = (10, n)) (c : Nat → Int32) : (ra_L G w).set k (G.1 k, .inl (G.2.2.1, n, .inl c)) = ra_L G (ra_up w k c) := by
  rw [← ra_L_set G w (ra_lt h (by decide)), ra_EA h]
theorem ra_setZ (G : ra_G) (w : ra_W) {k n : Nat} (h : ra_kd k = (11, n)) (c : Nat → Int32) : (ra_L G w).set k (G.1 k, .inl (G.2.2.2.1, n, .inl c)) = ra_L G (ra_up w k c) := by
  rw [← ra_L_set G w (ra_lt h (by decide)), ra_EZ h]
theorem ra_setO (G : ra_G) (w : ra_W) {k ci : Nat} (h : ra_kd k = (ci, 0)) (hc : ci < 7) (c : Nat → Int32) : (ra_L G w).set k (G.1 k, .inr (ci, ra_fs G.1 ci k c)) = ra_L G (ra_up w k c) := by
  rw [← ra_L_set G w (ra_lt h (by omega)), ra_EO h hc]
def ra_tys (G : ra_G) : List (ClassId × FieldType) := [(G.2.2.1, .int), (G.2.2.2.1, .boolean), (G.2.2.2.2, .object "TrunkRadio$State")]
def ra_inj (G : ra_G) : Prop := ∀ i j : Nat, i < 149 → j < 149 → G.1 i = G.1 j → i = j
def ra_A (G : ra_G) : Nat → Prop := fun q => ∃ k : Nat, k < 149 ∧ q = G.1 k
theorem ra_D {G : ra_G} {A : Nat → Prop} (hj : ra_inj G) (hA : ∀ k, k < 149 → A (G.1 k)) (w : ra_W) : va_D A (ra_L G w) := by
  refine ⟨fun i j p q hi hq e => ?_, fun k q hk => ?_⟩
  · obtain ⟨a1, a2⟩ := ra_L_some hi
    obtain ⟨b1, b2⟩ := ra_L_some hq
    exact hj i j a1 b1 (by rw [← a2, ← b2, e])
  · obtain ⟨a1, a2⟩ := ra_L_some hk
    rw [a2]
    exact hA k a1
abbrev ra_Z := Program × Launch × Env × Room × State × MethodId × Array Value × List Frame × Method × Code × (State → Prop) × ra_G × (Nat → Prop) × Nat × Nat
abbrev zp (Z : ra_Z) := Z.1
abbrev zl (Z : ra_Z) := Z.2.1
abbrev ze (Z : ra_Z) := Z.2.2.1
abbrev zR (Z : ra_Z) := Z.2.2.2.1
abbrev zs (Z : ra_Z) := Z.2.2.2.2.1
abbrev zm (Z : ra_Z) := Z.2.2.2.2.2.1
abbrev zar (Z : ra_Z) := Z.2.2.2.2.2.2.1
abbrev zbl (Z : ra_Z) := Z.2.2.2.2.2.2.2.1
abbrev zmt (Z : ra_Z) := Z.2.2.2.2.2.2.2.2.1
abbrev zc (Z : ra_Z) := Z.2.2.2.2.2.2.2.2.2.1
abbrev zQ (Z : ra_Z) := Z.2.2.2.2.2.2.2.2.2.2.1
abbrev zG (Z : ra_Z) := Z.2.2.2.2.2.2.2.2.2.2.2.1
abbrev zA (Z : ra_Z) := Z.2.2.2.2.2.2.2.2.2.2.2.2.1
abbrev zcl (Z : ra_Z) := Z.2.2.2.2.2.2.2.2.2.2.2.2.2.1
abbrev zsl (Z : ra_Z) := Z.2.2.2.2.2.2.2.2.2.2.2.2.2.2
def ra_J (Z : ra_Z) (nL pc : Nat) (lv : List (Nat × Value)) (st : List Value) (w : ra_W) : Prop :=
  ∀ (ls : Array Slot) (H : Heap) (locs : List Loc), lv_has ls nL lv → va_P (zG Z).2.1 vwCl (ra_L (zG Z) w) H → va_S (zA Z) (zs Z).heap H locs →
    W (zp Z) (zl Z) (ze Z) (zR Z) (zs Z) (zm Z) (zar Z) (zbl Z) (zmt Z) (zc Z) H locs (zcl Z) (zsl Z) (zQ Z) (F0 (zm Z) pc ls st)
def ra_C (Z : ra_Z) (cc : ByteArray) (nL : Nat) (own : String) (fr lo : Nat) : Prop :=
  ((zp Z).tables.exec = Jvm.exec ∧ (zc Z).code = cc ∧ (zc Z).maxLocals = nL ∧ (zs Z).vm.findClass own = some (zm Z).cls) ∧ (∀ w ∈ TW, w.before (zar Z) (zs Z) = true) ∧ va_K (zG Z).2.1 vwCl (ra_tys (zG Z)) (zs Z) ∧ ra_inj (zG Z) ∧ (∀ k, k < 149 → zA Z ((zG Z).1 k)) ∧ (zcl Z ≤ (zR Z).cells ∧ zsl Z ≤ (zR Z).slots) ∧ (fr ≤ (zR Z).frames ∧ lo ≤ (zR Z).locals) ∧ (zmt Z).locks = false
def ra_K (G : ra_G) (w : ra_W) (t : State) : Prop := va_P G.2.1 vwCl (ra_L G w) t.heap ∧ va_K G.2.1 vwCl (ra_tys G) t
def ra_QI (Z : ra_Z) (r : Int32) (w1 : ra_W) : Prop := zQ Z = MQ (zbl Z) (va_Qi (fun (r' : Int32) (_ : Unit) => r' = r) (fun _ t => ra_K (zG Z) w1 t) (zA Z)) (zar Z) (zs Z) (zcl Z) (zsl Z) (zA Z)
def ra_QV (Z : ra_Z) (_ : Int32) (w1 : ra_W) : Prop := zQ Z = MQ (zbl Z) (va_Qv (fun (_ : Unit) => True) (fun _ t => ra_K (zG Z) w1 t) (zA Z)) (zar Z) (zs Z) (zcl Z) (zsl Z) (zA Z)
abbrev ra_rm (fr lo : Nat) : Room := { frames := fr, cells := 0, slots := 0, locals := lo }
def ra_MI (l : Launch) (G : ra_G) (y : MethodName) (cc : ByteArray) (nL : Nat) (ret : Option FieldType) (fr lo : Nat) (av : List Value) (w : ra_W) (r : Int32) (w1 : ra_W) : Prop :=
  Met l y (.code y cc nL ret :: TW) (ra_rm fr lo) (va_Pc av (fun U => ra_K G w U)) (va_Qi (fun (r' : Int32) (_ : Unit) => r' = r) (fun _ t => ra_K G w1 t) (ra_A G)) 0 0 (ra_A G)
def ra_MV (l : Launch) (G : ra_G) (y : MethodName) (cc : ByteArray) (nL : Nat) (ret : Option FieldType) (fr lo : Nat) (av : List Value) (w : ra_W) (_ : Int32) (w1 : ra_W) : Prop :=
  Met l y (.code y cc nL ret :: TW) (ra_rm fr lo) (va_Pc av (fun U => ra_K G w U)) (va_Qv (fun (_ : Unit) => True) (fun _ t => ra_K G w1 t) (ra_A G)) 0 0 (ra_A G)
theorem ra_good {y : MethodName} {cc : ByteArray} {nL : Nat} {ret : Option FieldType} (h : Cond.code y cc nL ret ∈ TW) : GoodIn TW (.code y cc nL ret :: TW) := by
  intro w hw
  have hm : w ∈ TW := (List.mem_cons.mp hw).elim (fun e => e ▸ h) id
  exact ⟨hm, good_of_word (TW_good w hm)⟩
def ra_Y (y : MethodName) (cc : ByteArray) (nL : Nat) (ret : Option FieldType) (n : Nat) : Prop := Cond.initialized y.cls ∈ TW ∧ Cond.code y cc nL ret ∈ TW ∧ y.cls ≠ "java/lang/invoke/MethodHandle" ∧ y.cls ≠ "java/lang/invoke/VarHandle" ∧ (parseMethodDescriptor y.desc).map (fun d => d.parameters.length) = some n
def ra_YV (y : MethodName) (cc : ByteArray) (nL : Nat) (ret : Option FieldType) (n : Nat) (Cn : String) : Prop := ra_Y y cc nL ret n ∧ Cond.instanceMethod y ∈ TW ∧ Cond.selects Cn y y ∈ TW
def ra_YS (y : MethodName) (cc : ByteArray) (nL : Nat) (ret : Option FieldType) (n : Nat) : Prop := ra_Y y cc nL ret n ∧ Cond.static y ∈ TW
abbrev ra_in (i : Int32) (n : Nat) : Prop := ¬ (i < 0 ∨ n ≤ i.toNatClampNeg)
abbrev ra_ix (i : Int32) : Nat := i.toNatClampNeg
def ra_bind (o : Option (Int32 × ra_W)) (F : Int32 → ra_W → Option (Int32 × ra_W)) : Option (Int32 × ra_W) := match o with
  | none => none
  | some (r, w) => F r w
theorem ra_bd {o : Option (Int32 × ra_W)} {F : Int32 → ra_W → Option (Int32 × ra_W)} {y : Int32 × ra_W} (h : ra_bind o F = some y) : ∃ (r : Int32) (w : ra_W), o = some (r, w) ∧ F r w = some y := by
  cases o with
  | none => cases h
  | some q => exact ⟨q.1, q.2, rfl, h⟩
theorem ra_t {c : Prop} [Decidable c] {α : Type} {x y z : α} (h : (if c then x else y) = z) (hc : c) : x = z := by rw [if_pos hc] at h; exact h
theorem ra_f {c : Prop} [Decidable c] {α : Type} {x y z : α} (h : (if c then x else y) = z) (hc : ¬ c) : y = z := by rw [if_neg hc] at h; exact h
theorem ra_gd {c : Prop} [Decidable c] {α : Type} {x : Option α} {z : α} (h : (if c then x else none) = some z) : c ∧ x = some z := by
  by_cases hc : c
  · rw [if_pos hc] at h; exact ⟨hc, h⟩
  · rw [if_neg hc] at h; cases h
section RG
variable {Z : ra_Z} {cc : ByteArray} {nL : Nat} {own : String} {fr lo : Nat} {pc : Nat} {lv : List (Nat × Value)} {st : List Value} {w : ra_W}
theorem ra_C.hx (C : ra_C Z cc nL own fr lo) : (zp Z).tables.exec = Jvm.exec := C.1.1
theorem ra_C.hb (C : ra_C Z cc nL own fr lo) : (zc Z).code = cc := C.1.2.1
theorem ra_C.hml (C : ra_C Z cc nL own fr lo) : (zc Z).maxLocals = nL := C.1.2.2.1
theorem ra_C.hown (C : ra_C Z cc nL own fr lo) : (zs Z).vm.findClass own = some (zm Z).cls := C.1.2.2.2
theorem ra_C.hts (C : ra_C Z cc nL own fr lo) : ∀ w ∈ TW, w.before (zar Z) (zs Z) = true := C.2.1
theorem ra_C.hK (C : ra_C Z cc nL own fr lo) : va_K (zG Z).2.1 vwCl (ra_tys (zG Z)) (zs Z) := C.2.2.1
theorem ra_C.hj (C : ra_C Z cc nL own fr lo) : ra_inj (zG Z) := C.2.2.2.1
theorem ra_C.hA (C : ra_C Z cc nL own fr lo) : ∀ k, k < 149 → zA Z ((zG Z).1 k) := C.2.2.2.2.1
theorem ra_C.hce (C : ra_C Z cc nL own fr lo) : zcl Z ≤ (zR Z).cells ∧ zsl Z ≤ (zR Z).slots := C.2.2.2.2.2.1
theorem ra_C.hro (C : ra_C Z cc nL own fr lo) : fr ≤ (zR Z).frames ∧ lo ≤ (zR Z).locals := C.2.2.2.2.2.2.1
theorem ra_C.hlk (C : ra_C Z cc nL own fr lo) : (zmt Z).locks = false := C.2.2.2.2.2.2.2
theorem ra_C.hD (C : ra_C Z cc nL own fr lo) (w : ra_W) : va_D (zA Z) (ra_L (zG Z) w) := ra_D C.hj C.hA w
theorem rg_sub (ks : List Nat) {lv' : List (Nat × Value)} (h : lv_pick lv ks = lv') (k : ra_J Z nL pc lv' st w) : ra_J Z nL pc lv st w := fun ls H locs hl hP hS => k ls H locs (lv_sub hl ks h) hP hS
theorem rg_iconst (C : ra_C Z cc nL own fr lo) {n : Int} {v : Int32} (hd : decode cc pc = .ok (.iconst n, 1)) (hv : Int32.ofInt n = v) (k : ra_J Z nL (pc + 1) lv (.int v :: st) w) : ra_J Z nL pc lv st w := fun ls H locs hl hP hS => lv_iconst C.hx C.hb hd hv (k ls H locs hl hP hS)
theorem rg_bipush (C : ra_C Z cc nL own fr lo) {n : Int} {v : Int32} (hd : decode cc pc = .ok (.bipush n, 2)) (hv : (Int8.ofInt n).toInt32 = v) (k : ra_J Z nL (pc + 2) lv (.int v :: st) w) : ra_J Z nL pc lv st w := fun ls H locs hl hP hS => lv_bipush C.hx C.hb hd hv (k ls H locs hl hP hS)
theorem rg_sipush (C : ra_C Z cc nL own fr lo) {n : Int} {v : Int32} (hd : decode cc pc = .ok (.sipush n, 3)) (hv : (Int16.ofInt n).toInt32 = v) (k : ra_J Z nL (pc + 3) lv (.int v :: st) w) : ra_J Z nL pc lv st w := fun ls H locs hl hP hS => lv_sipush C.hx C.hb hd hv (k ls H locs hl hP hS)
theorem rg_iload_n (C : ra_C Z cc nL own fr lo) {k : Fin 4} {i : Nat} {x : Int32} (j : Nat) (hj : lv[j]? = some (i, .int x)) (hi : (k : Nat) = i) (hd : decode cc pc = .ok (.iload_n k, 1)) (kk : ra_J Z nL (pc + 1) lv (.int x :: st) w) : ra_J Z nL pc lv st w := fun ls H locs hl hP hS => lv_iload_n C.hx C.hb hd hi (lv_at hl j hj) (kk ls H locs hl hP hS)
theorem rg_iload (C : ra_C Z cc nL own fr lo) {i : Nat} {x : Int32} (j : Nat) (hj : lv[j]? = some (i, .int x)) (hd : decode cc pc = .ok (.iload i, 2)) (kk : ra_J Z nL (pc + 2) lv (.int x :: st) w) : ra_J Z nL pc lv st w := fun ls H locs hl hP hS => lv_iload C.hx C.hb hd (lv_at hl j hj) (kk ls H locs hl hP hS)
theorem rg_aload_n (C : ra_C Z cc nL own fr lo) {k : Fin 4} {i : Nat} {x : Nat} (j : Nat) (hj : lv[j]? = some (i, .ref x)) (hi : (k : Nat) = i) (hd : decode cc pc = .ok (.aload_n k, 1)) (kk : ra_J Z nL (pc + 1) lv (.ref x :: st) w) : ra_J Z nL pc lv st w := fun ls H locs hl hP hS => lv_aload_n C.hx C.hb hd hi (lv_at hl j hj) (kk ls H locs hl hP hS)
theorem rg_istore_n (C : ra_C Z cc nL own fr lo) {k : Fin 4} {i : Nat} {x : Int32} {lv' : List (Nat × Value)} (ks : List Nat) (hl' : lv_pick ((i, Value.int x) :: lv.filter (fun q => !(q.1 == i) && !(q.1 + 1 == i && q.2.category == 2))) ks = lv') (hi : (k : Nat) = i) (hn : i < nL) (hd : decode cc pc = .ok (.istore_n k, 1)) (kk : ra_J Z nL (pc + 1) lv' st w) : ra_J Z nL pc lv (.int x :: st) w := fun _ H locs hl hP hS => lv_istore_n C.hx C.hb hd hi hl hn rfl (fun ls' h' => kk ls' H locs (lv_sub h' ks hl') hP hS)
theorem rg_istore (C : ra_C Z cc nL own fr lo) {i : Nat} {x : Int32} {lv' : List (Nat × Value)} (ks : List Nat) (hl' : lv_pick ((i, Value.int x) :: lv.filter (fun q => !(q.1 == i) && !(q.1 + 1 == i && q.2.category == 2))) ks = lv') (hn : i < nL) (hd : decode cc pc = .ok (.istore i, 2)) (kk : ra_J Z nL (pc + 2) lv' st w) : ra_J Z nL pc lv (.int x :: st) w := fun _ H locs hl hP hS => lv_istore C.hx C.hb hd hl hn rfl (fun ls' h' => kk ls' H locs (lv_sub h' ks hl') hP hS)
theorem rg_iinc (C : ra_C Z cc nL own fr lo) {i : Nat} {n : Int} {x v : Int32} {lv' : List (Nat × Value)} (j : Nat) (hj : lv[j]? = some (i, .int x)) (ks : List Nat) (hv : x + Int32.ofInt n = v) (hl' : lv_pick ((i, Value.int v) :: lv.filter (fun q => !(q.1 == i) && !(q.1 + 1 == i && q.2.category == 2))) ks = lv') (hn : i < nL) (hd : decode cc pc = .ok (.iinc i n, 3)) (kk : ra_J Z nL (pc + 3) lv' st w) : ra_J Z nL pc lv st w := fun _ H locs hl hP hS => lv_iinc C.hx C.hb hd hl hj hv hn rfl (fun ls' h' => kk ls' H locs (lv_sub h' ks hl') hP hS)
theorem rg_iadd (C : ra_C Z cc nL own fr lo) {x y : Int32} (hd : decode cc pc = .ok (.iadd, 1)) (k : ra_J Z nL (pc + 1) lv (.int (x + y) :: st) w) : ra_J Z nL pc lv (.int y :: .int x :: st) w := fun ls H locs hl hP hS => lv_iadd C.hx C.hb hd (k ls H locs hl hP hS)
theorem rg_isub (C : ra_C Z cc nL own fr lo) {x y : Int32} (hd : decode cc pc = .ok (.isub, 1)) (k : ra_J Z nL (pc + 1) lv (.int (x - y) :: st) w) : ra_J Z nL pc lv (.int y :: .int x :: st) w := fun ls H locs hl hP hS => lv_isub C.hx C.hb hd (k ls H locs hl hP hS)
theorem rg_imul (C : ra_C Z cc nL own fr lo) {x y : Int32} (hd : decode cc pc = .ok (.imul, 1)) (k : ra_J Z nL (pc + 1) lv (.int (x * y) :: st) w) : ra_J Z nL pc lv (.int y :: .int x :: st) w := fun ls H locs hl hP hS => lv_imul C.hx C.hb hd (k ls H locs hl hP hS)
theorem rg_iand (C : ra_C Z cc nL own fr lo) {x y : Int32} (hd : decode cc pc = .ok (.iand, 1)) (k : ra_J Z nL (pc + 1) lv (.int (x &&& y) :: st) w) : ra_J Z nL pc lv (.int y :: .int x :: st) w := fun ls H locs hl hP hS => lv_iand C.hx C.hb hd (k ls H locs hl hP hS)
theorem rg_ior (C : ra_C Z cc nL own fr lo) {x y : Int32} (hd : decode cc pc = .ok (.ior, 1)) (k : ra_J Z nL (pc + 1) lv (.int (x ||| y) :: st) w) : ra_J Z nL pc lv (.int y :: .int x :: st) w := fun ls H locs hl hP hS => lv_ior C.hx C.hb hd (k ls H locs hl hP hS)
theorem rg_ixor (C : ra_C Z cc nL own fr lo) {x y : Int32} (hd : decode cc pc = .ok (.ixor, 1)) (k : ra_J Z nL (pc + 1) lv (.int (x ^^^ y) :: st) w) : ra_J Z nL pc lv (.int y :: .int x :: st) w := fun ls H locs hl hP hS => lv_ixor C.hx C.hb hd (k ls H locs hl hP hS)
theorem rg_ishl (C : ra_C Z cc nL own fr lo) {x y : Int32} (hd : decode cc pc = .ok (.ishl, 1)) (k : ra_J Z nL (pc + 1) lv (.int (x <<< (y &&& 31)) :: st) w) : ra_J Z nL pc lv (.int y :: .int x :: st) w := fun ls H locs hl hP hS => lv_ishl C.hx C.hb hd (k ls H locs hl hP hS)
theorem rg_ishr (C : ra_C Z cc nL own fr lo) {x y : Int32} (hd : decode cc pc = .ok (.ishr, 1)) (k : ra_J Z nL (pc + 1) lv (.int (x >>> (y &&& 31)) :: st) w) : ra_J Z nL pc lv (.int y :: .int x :: st) w := fun ls H locs hl hP hS => lv_ishr C.hx C.hb hd (k ls H locs hl hP hS)
theorem rg_idiv (C : ra_C Z cc nL own fr lo) {x y : Int32} (hne : ¬ y = 0) (hd : decode cc pc = .ok (.idiv, 1)) (k : ra_J Z nL (pc + 1) lv (.int (x / y) :: st) w) : ra_J Z nL pc lv (.int y :: .int x :: st) w := fun ls H locs hl hP hS => lv_idiv C.hx C.hb hd hne (k ls H locs hl hP hS)
theorem rg_irem (C : ra_C Z cc nL own fr lo) {x y : Int32} (hne : ¬ y = 0) (hd : decode cc pc = .ok (.irem, 1)) (k : ra_J Z nL (pc + 1) lv (.int (x - x / y * y) :: st) w) : ra_J Z nL pc lv (.int y :: .int x :: st) w := fun ls H locs hl hP hS => lv_irem C.hx C.hb hd hne (k ls H locs hl hP hS)
theorem rg_iushr (C : ra_C Z cc nL own fr lo) {x y : Int32} (hd : decode cc pc = .ok (.iushr, 1)) (k : ra_J Z nL (pc + 1) lv (.int ((x.toUInt32 >>> (y.toUInt32 &&& Int32.toUInt32 31)).toInt32) :: st) w) : ra_J Z nL pc lv (.int y :: .int x :: st) w := fun ls H locs hl hP hS => lv_iushr C.hx C.hb hd rfl (k ls H locs hl hP hS)
theorem rg_dup (C : ra_C Z cc nL own fr lo) {a : Value} (h : a.category = 1) (hd : decode cc pc = .ok (.dup, 1)) (k : ra_J Z nL (pc + 1) lv (a :: a :: st) w) : ra_J Z nL pc lv (a :: st) w := fun ls H locs hl hP hS => lv_dup C.hx C.hb hd h (k ls H locs hl hP hS)
theorem rg_pop (C : ra_C Z cc nL own fr lo) {a : Value} (h : a.category = 1) (hd : decode cc pc = .ok (.pop, 1)) (k : ra_J Z nL (pc + 1) lv st w) : ra_J Z nL pc lv (a :: st) w := fun ls H locs hl hP hS => lv_pop C.hx C.hb hd h (k ls H locs hl hP hS)
theorem rg_dup2 (C : ra_C Z cc nL own fr lo) {a b : Value} (h : a.category = 1) (h2 : b.category = 1) (hd : decode cc pc = .ok (.dup2, 1)) (k : ra_J Z nL (pc + 1) lv (a :: b :: a :: b :: st) w) : ra_J Z nL pc lv (a :: b :: st) w := fun ls H locs hl hP hS => lv_dup2_11 C.hx C.hb hd h h2 (k ls H locs hl hP hS)
theorem rg_if_eq (C : ra_C Z cc nL own fr lo) {x : Int32} {off : Int} {tgt : Nat} (hd : decode cc pc = .ok (.ifCond .eq off, 3)) (ht : (pc : Int) + off = (tgt : Int)) (kt : x = 0 → ra_J Z nL tgt lv st w) (kf : ¬ x = 0 → ra_J Z nL (pc + 3) lv st w) : ra_J Z nL pc lv (.int x :: st) w := fun ls H locs hl hP hS => lv_if_eq C.hx C.hb hd ht (fun h => kt h ls H locs hl hP hS) (fun h => kf h ls H locs hl hP hS)
theorem rg_icmp_eq (C : ra_C Z cc nL own fr lo) {x y : Int32} {off : Int} {tgt : Nat} (hd : decode cc pc = .ok (.if_icmp .eq off, 3)) (ht : (pc : Int) + off = (tgt : Int)) (kt : x = y → ra_J Z nL tgt lv st w) (kf : ¬ x = y → ra_J Z nL (pc + 3) lv st w) : ra_J Z nL pc lv (.int y :: .int x :: st) w := fun ls H locs hl hP hS => lv_icmp_eq C.hx C.hb hd ht (fun h => kt h ls H locs hl hP hS) (fun h => kf h ls H locs hl hP hS)
theorem rg_if_ne (C : ra_C Z cc nL own fr lo) {x : Int32} {off : Int} {tgt : Nat} (hd : decode cc pc = .ok (.ifCond .ne off, 3)) (ht : (pc : Int) + off = (tgt : Int)) (kt : ¬ x = 0 → ra_J Z nL tgt lv st w) (kf : x = 0 → ra_J Z nL (pc + 3) lv st w) : ra_J Z nL pc lv (.int x :: st) w := fun ls H locs hl hP hS => lv_if_ne C.hx C.hb hd ht (fun h => kt h ls H locs hl hP hS) (fun h => kf h ls H locs hl hP hS)
theorem rg_icmp_ne (C : ra_C Z cc nL own fr lo) {x y : Int32} {off : Int} {tgt : Nat} (hd : decode cc pc = .ok (.if_icmp .ne off, 3)) (ht : (pc : Int) + off = (tgt : Int)) (kt : ¬ x = y → ra_J Z nL tgt lv st w) (kf : x = y → ra_J Z nL (pc + 3) lv st w) : ra_J Z nL pc lv (.int y :: .int x :: st) w := fun ls H locs hl hP hS => lv_icmp_ne C.hx C.hb hd ht (fun h => kt h ls H locs hl hP hS) (fun h => kf h ls H locs hl hP hS)
theorem rg_if_lt (C : ra_C Z cc nL own fr lo) {x : Int32} {off : Int} {tgt : Nat} (hd : decode cc pc = .ok (.ifCond .lt off, 3)) (ht : (pc : Int) + off = (tgt : Int)) (kt : x < 0 → ra_J Z nL tgt lv st w) (kf : ¬ x < 0 → ra_J Z nL (pc + 3) lv st w) : ra_J Z nL pc lv (.int x :: st) w := fun ls H locs hl hP hS => lv_if_lt C.hx C.hb hd ht (fun h => kt h ls H locs hl hP hS) (fun h => kf h ls H locs hl hP hS)
theorem rg_icmp_lt (C : ra_C Z cc nL own fr lo) {x y : Int32} {off : Int} {tgt : Nat} (hd : decode cc pc = .ok (.if_icmp .lt off, 3)) (ht : (pc : Int) + off = (tgt : Int)) (kt : x < y → ra_J Z nL tgt lv st w) (kf : ¬ x < y → ra_J Z nL (pc + 3) lv st w) : ra_J Z nL pc lv (.int y :: .int x :: st) w := fun ls H locs hl hP hS => lv_icmp_lt C.hx C.hb hd ht (fun h => kt h ls H locs hl hP hS) (fun h => kf h ls H locs hl hP hS)
theorem rg_if_ge (C : ra_C Z cc nL own fr lo) {x : Int32} {off : Int} {tgt : Nat} (hd : decode cc pc = .ok (.ifCond .ge off, 3)) (ht : (pc : Int) + off = (tgt : Int)) (kt : 0 ≤ x → ra_J Z nL tgt lv st w) (kf : ¬ 0 ≤ x → ra_J Z nL (pc + 3) lv st w) : ra_J Z nL pc lv (.int x :: st) w := fun ls H locs hl hP hS => lv_if_ge C.hx C.hb hd ht (fun h => kt h ls H locs hl hP hS) (fun h => kf h ls H locs hl hP hS)
theorem rg_icmp_ge (C : ra_C Z cc nL own fr lo) {x y : Int32} {off : Int} {tgt : Nat} (hd : decode cc pc = .ok (.if_icmp .ge off, 3)) (ht : (pc : Int) + off = (tgt : Int)) (kt : y ≤ x → ra_J Z nL tgt lv st w) (kf : ¬ y ≤ x → ra_J Z nL (pc + 3) lv st w) : ra_J Z nL pc lv (.int y :: .int x :: st) w := fun ls H locs hl hP hS => lv_icmp_ge C.hx C.hb hd ht (fun h => kt h ls H locs hl hP hS) (fun h => kf h ls H locs hl hP hS)
theorem rg_if_gt (C : ra_C Z cc nL own fr lo) {x : Int32} {off : Int} {tgt : Nat} (hd : decode cc pc = .ok (.ifCond .gt off, 3)) (ht : (pc : Int) + off = (tgt : Int)) (kt : 0 < x → ra_J Z nL tgt lv st w) (kf : ¬ 0 < x → ra_J Z nL (pc + 3) lv st w) : ra_J Z nL pc lv (.int x :: st) w := fun ls H locs hl hP hS => lv_if_gt C.hx C.hb hd ht (fun h => kt h ls H locs hl hP hS) (fun h => kf h ls H locs hl hP hS)
theorem rg_icmp_gt (C : ra_C Z cc nL own fr lo) {x y : Int32} {off : Int} {tgt : Nat} (hd : decode cc pc = .ok (.if_icmp .gt off, 3)) (ht : (pc : Int) + off = (tgt : Int)) (kt : y < x → ra_J Z nL tgt lv st w) (kf : ¬ y < x → ra_J Z nL (pc + 3) lv st w) : ra_J Z nL pc lv (.int y :: .int x :: st) w := fun ls H locs hl hP hS => lv_icmp_gt C.hx C.hb hd ht (fun h => kt h ls H locs hl hP hS) (fun h => kf h ls H locs hl hP hS)
theorem rg_if_le (C : ra_C Z cc nL own fr lo) {x : Int32} {off : Int} {tgt : Nat} (hd : decode cc pc = .ok (.ifCond .le off, 3)) (ht : (pc : Int) + off = (tgt : Int)) (kt : x ≤ 0 → ra_J Z nL tgt lv st w) (kf : ¬ x ≤ 0 → ra_J Z nL (pc + 3) lv st w) : ra_J Z nL pc lv (.int x :: st) w := fun ls H locs hl hP hS => lv_if_le C.hx C.hb hd ht (fun h => kt h ls H locs hl hP hS) (fun h => kf h ls H locs hl hP hS)
theorem rg_icmp_le (C : ra_C Z cc nL own fr lo) {x y : Int32} {off : Int} {tgt : Nat} (hd : decode cc pc = .ok (.if_icmp .le off, 3)) (ht : (pc : Int) + off = (tgt : Int)) (kt : x ≤ y → ra_J Z nL tgt lv st w) (kf : ¬ x ≤ y → ra_J Z nL (pc + 3) lv st w) : ra_J Z nL pc lv (.int y :: .int x :: st) w := fun ls H locs hl hP hS => lv_icmp_le C.hx C.hb hd ht (fun h => kt h ls H locs hl hP hS) (fun h => kf h ls H locs hl hP hS)
theorem rg_goto (C : ra_C Z cc nL own fr lo) {off : Int} {tgt : Nat} (hd : decode cc pc = .ok (.goto off, 3)) (ht : (pc : Int) + off = (tgt : Int)) (k : ra_J Z nL tgt lv st w) : ra_J Z nL pc lv st w := fun ls H locs hl hP hS => lv_goto C.hx C.hb hd ht (k ls H locs hl hP hS)
theorem rg_tableOut (C : ra_C Z cc nL own fr lo) {dflt lw hi : Int} {offs : Array Int} {len : Nat} {x : Int32} {tgt : Nat} (hd : decode cc pc = .ok (.tableswitch dflt lw hi offs, len)) (h : x.toInt < lw ∨ hi < x.toInt) (ht : (pc : Int) + dflt = (tgt : Int)) (k : ra_J Z nL tgt lv st w) : ra_J Z nL pc lv (.int x :: st) w := fun ls H locs hl hP hS => lv_tableOut C.hx C.hb hd h ht (k ls H locs hl hP hS)
theorem rg_tableIn (C : ra_C Z cc nL own fr lo) {dflt lw hi : Int} {offs : Array Int} {len : Nat} {x : Int32} {off : Int} {tgt : Nat} (hd : decode cc pc = .ok (.tableswitch dflt lw hi offs, len)) (h1 : ¬ x.toInt < lw) (h2 : ¬ hi < x.toInt) (ho : offs[(x.toInt - lw).toNat]? = some off) (ht : (pc : Int) + off = (tgt : Int)) (k : ra_J Z nL tgt lv st w) : ra_J Z nL pc lv (.int x :: st) w := fun ls H locs hl hP hS => lv_tableIn C.hx C.hb hd h1 h2 ho ht (k ls H locs hl hP hS)
theorem rg_lookup (C : ra_C Z cc nL own fr lo) {dflt : Int} {ps : Array (Int × Int)} {len : Nat} {x : Int32} {off : Int} {tgt : Nat} (hd : decode cc pc = .ok (.lookupswitch dflt ps, len)) (hp : (ps.toList.zip (ps.toList.drop 1)).all (fun (a, next) => a.1 < next.1) = true) (ho : Op.lookupswitch.offset ps.toList dflt x.toInt = off) (ht : (pc : Int) + off = (tgt : Int)) (k : ra_J Z nL tgt lv st w) : ra_J Z nL pc lv (.int x :: st) w := fun ls H locs hl hP hS => lv_lookup C.hx C.hb hd hp ho ht (k ls H locs hl hP hS)
theorem rg_tableK (C : ra_C Z cc nL own fr lo) {dflt lw hi : Int} {offs : Array Int} {len : Nat} {x : Int32} {off : Int} {tgt : Nat} (c : Int32) (hc : x = c) (hd : decode cc pc = .ok (.tableswitch dflt lw hi offs, len)) (h1 : ¬ c.toInt < lw) (h2 : ¬ hi < c.toInt) (ho : offs[(c.toInt - lw).toNat]? = some off) (ht : (pc : Int) + off = (tgt : Int)) (k : ra_J Z nL tgt lv st w) : ra_J Z nL pc lv (.int x :: st) w := by
  subst hc
  exact rg_tableIn C hd h1 h2 ho ht k
theorem rg_lookK (C : ra_C Z cc nL own fr lo) {dflt : Int} {ps : Array (Int × Int)} {len : Nat} {x : Int32} {off : Int} {tgt : Nat} (c : Int32) (hc : x = c) (hd : decode cc pc = .ok (.lookupswitch dflt ps, len)) (hp : (ps.toList.zip (ps.toList.drop 1)).all (fun (a, next) => a.1 < next.1) = true) (ho : Op.lookupswitch.offset ps.toList dflt c.toInt = off) (ht : (pc : Int) + off = (tgt : Int)) (k : ra_J Z nL tgt lv st w) : ra_J Z nL pc lv (.int x :: st) w := by
  subst hc
  exact rg_lookup C hd hp ho ht k
theorem rg_ldcw (C : ra_C Z cc nL own fr lo) {idx : Nat} {v : Int32} (hc : Cond.constant own idx v ∈ TW) (hd : decode cc pc = .ok (.ldc_w idx, 3)) (k : ra_J Z nL (pc + 3) lv (.int v :: st) w) : ra_J Z nL pc lv st w := fun ls H locs hl hP hS => lv_ldcw C.hx C.hb C.hown (C.hts _ hc) hd (k ls H locs hl hP hS)
theorem rg_get (C : ra_C Z cc nL own fr lo) (k ci j : Nat) (hk : ra_kd k = (ci, 0)) (hci : ci < 7) {Cn : String} {T : u_T} {N idx : Nat} (hcl : vwCl[ci]? = some (Cn, T, N)) (hin : ∀ w ∈ u_ws Cn T N, w ∈ TW) (hj : j < N) (hlk : Cond.fieldLink own idx (T j).1 (T j).2.1 (T j).2.2.1 ∈ TW) {v : Value} (hv : (ra_fs (zG Z).1 ci k (w k))[j]? = some v) (hd : decode cc pc = .ok (.getfield idx, 3)) (kk : ra_J Z nL (pc + 3) lv (v :: st) w) : ra_J Z nL pc lv (.ref ((zG Z).1 k) :: st) w :=
  fun ls H locs hl hP hS => va_get (D := (zG Z).2.1) C.hx C.hb C.hts hin C.hown C.hK hP k (ra_getO _ _ hk hci) hcl j hj (C.hts _ hlk) (fun _ h => h) hv hd (kk ls H locs hl hP hS)
theorem rg_put (C : ra_C Z cc nL own fr lo) (k ci j : Nat) (hk : ra_kd k = (ci, 0)) (hci : ci < 7) {Cn : String} {T : u_T} {N idx : Nat} (hcl : vwCl[ci]? = some (Cn, T, N)) (hin : ∀ w ∈ u_ws Cn T N, w ∈ TW) (ty0 : Nat → FieldType) (hty : ∀ k, k < N → parseFieldDescriptor (T k).2.2.1 = some (ty0 k)) (hnm : ∀ a, a < N → ∀ b, b < N → a ≠ b → (T a).2.1 ≠ (T b).2.1) (hj : j < N) (hlk : Cond.fieldLink own idx (T j).1 (T j).2.1 (T j).2.2.1 ∈ TW) (hfin : (T j).2.2.2 = false) {x : Int32} (hn : narrow (ty0 j) (.int x) = .int x) (hfit : fits (ty0 j) (.int x) = true) (hl0 : j < (ra_fs (zG Z).1 ci k (w k)).length) (hset : (ra_fs (zG Z).1 ci k (w k)).set j (.int x) = ra_fs (zG Z).1 ci k (upd (w k) j x)) (hd : decode cc pc = .ok (.putfield idx, 3)) (kk : ra_J Z nL (pc + 3) lv st (ra_st w k j x)) : ra_J Z nL pc lv (.int x :: .ref ((zG Z).1 k) :: st) w := by
  intro ls H locs hl hP hS
  refine va_put (D := (zG Z).2.1) (ty := ty0 j) C.hx C.hb C.hts hin ty0 hty hnm C.hown C.hK hP (C.hD w) hS k (ra_getO _ _ hk hci) hcl j hj (C.hts _ hlk) (fun _ h => h) hfin (hty j hj) hn hfit hl0 hd (fun H1 locs1 hP1 _ hS1 => ?_)
  rw [hset, ra_setO _ _ hk hci] at hP1
  exact kk ls H1 locs1 hl hP1 hS1
theorem rg_iald (C : ra_C Z cc nL own fr lo) (k : Nat) {n : Nat} (hk : ra_kd k = (10, n)) {i : Int32} {j : Nat} (hj : ra_ix i = j) (hin : ra_in i n) (hd : decode cc pc = .ok (.iaload, 1)) (kk : ra_J Z nL (pc + 1) lv (.int (w k j) :: st) w) : ra_J Z nL pc lv (.int i :: .ref ((zG Z).1 k) :: st) w := by
  subst hj
  exact fun ls H locs hl hP hS => va_iald (D := (zG Z).2.1) C.hx C.hb C.hK hP k 0 (ra_getA _ _ hk) rfl hin hd (kk ls H locs hl hP hS)
theorem rg_zald (C : ra_C Z cc nL own fr lo) (k : Nat) {n : Nat} (hk : ra_kd k = (11, n)) {i : Int32} {j : Nat} (hj : ra_ix i = j) (hin : ra_in i n) (hd : decode cc pc = .ok (.baload, 1)) (kk : ra_J Z nL (pc + 1) lv (.int (w k j) :: st) w) : ra_J Z nL pc lv (.int i :: .ref ((zG Z).1 k) :: st) w := by
  subst hj
  exact fun ls H locs hl hP hS => va_zald (D := (zG Z).2.1) C.hx C.hb C.hK hP k 1 (ra_getZ _ _ hk) rfl hin hd (kk ls H locs hl hP hS)
theorem rg_aald (C : ra_C Z cc nL own fr lo) (k : Nat) {n : Nat} (hk : ra_kd k = (12, n)) {i : Int32} (hin : ra_in i n) (hd : decode cc pc = .ok (.aaload, 1)) (kk : ra_J Z nL (pc + 1) lv (.ref ((zG Z).1 (ra_rs k (ra_ix i))) :: st) w) : ra_J Z nL pc lv (.int i :: .ref ((zG Z).1 k) :: st) w :=
  fun ls H locs hl hP hS => va_aldq (D := (zG Z).2.1) C.hx C.hb C.hK hP k 2 (ra_getS _ _ hk) rfl hin hd (kk ls H locs hl hP hS)
theorem rg_iast (C : ra_C Z cc nL own fr lo) (k : Nat) {n : Nat} (hk : ra_kd k = (10, n)) {i x : Int32} {j : Nat} (hj : ra_ix i = j) (hin : ra_in i n) (hd : decode cc pc = .ok (.iastore, 1)) (kk : ra_J Z nL (pc + 1) lv st (ra_st w k j x)) : ra_J Z nL pc lv (.int x :: .int i :: .ref ((zG Z).1 k) :: st) w := by
  subst hj
  intro ls H locs hl hP hS
  refine va_iast (D := (zG Z).2.1) C.hx C.hb C.hK hP (C.hD w) hS k 0 (ra_getA _ _ hk) rfl hin hd (fun H1 locs1 hP1 _ hS1 => ?_)
  rw [ra_setA _ _ hk] at hP1
  exact kk ls H1 locs1 hl hP1 hS1
theorem rg_zast (C : ra_C Z cc nL own fr lo) (k : Nat) {n : Nat} (hk : ra_kd k = (11, n)) {i x : Int32} {j : Nat} (hj : ra_ix i = j) (hx : vp_nar .boolean x = x) (hin : ra_in i n) (hd : decode cc pc = .ok (.bastore, 1)) (kk : ra_J Z nL (pc + 1) lv st (ra_st w k j x)) : ra_J Z nL pc lv (.int x :: .int i :: .ref ((zG Z).1 k) :: st) w := by
  subst hj
  intro ls H locs hl hP hS
  refine va_zast (D := (zG Z).2.1) C.hx C.hb C.hK hP (C.hD w) hS k 1 (ra_getZ _ _ hk) rfl hin hd (fun H1 locs1 hP1 _ hS1 => ?_)
  rw [hx, ra_setZ _ _ hk] at hP1
  exact kk ls H1 locs1 hl hP1 hS1
theorem rg_max (C : ra_C Z cc nL own fr lo) {idx : Nat} (hlk : Cond.methodLink own idx Lib.Math.max.name ∈ TW) (h2 : Cond.static Lib.Math.max.name ∈ TW) (h3 : Cond.initialized "java/lang/Math" ∈ TW) (h4 : Cond.code Lib.Math.max.name Lib.Math.max.code 2 (some .int) ∈ TW) (hfr : 1 ≤ fr) (hlo : (st.map fun v => v.category).sum + 13 ≤ lo) {x y : Int32} (hd : decode cc pc = .ok (.invokestatic idx, 3)) (kk : ra_J Z nL (pc + 3) lv (.int (if x < y then y else x) :: st) w) : ra_J Z nL pc lv (.int y :: .int x :: st) w :=
  fun ls H locs hl hP hS => va_mmax C.hx C.hb (C.hml.trans hl.1.symm) C.hown (C.hts _ hlk) (C.hts _ h2) (C.hts _ h3) (C.hts _ h4) (Nat.le_trans hfr C.hro.1) (Nat.le_trans hlo C.hro.2) C.hce.1 C.hce.2 hd (kk ls H locs hl hP hS)
theorem rg_min (C : ra_C Z cc nL own fr lo) {idx : Nat} (hlk : Cond.methodLink own idx Lib.Math.min.name ∈ TW) (h2 : Cond.static Lib.Math.min.name ∈ TW) (h3 : Cond.initialized "java/lang/Math" ∈ TW) (h4 : Cond.code Lib.Math.min.name Lib.Math.min.code 2 (some .int) ∈ TW) (hfr : 1 ≤ fr) (hlo : (st.map fun v => v.category).sum + 13 ≤ lo) {x y : Int32} (hd : decode cc pc = .ok (.invokestatic idx, 3)) (kk : ra_J Z nL (pc + 3) lv (.int (if y < x then y else x) :: st) w) : ra_J Z nL pc lv (.int y :: .int x :: st) w :=
  fun ls H locs hl hP hS => va_mmin C.hx C.hb (C.hml.trans hl.1.symm) C.hown (C.hts _ hlk) (C.hts _ h2) (C.hts _ h3) (C.hts _ h4) (Nat.le_trans hfr C.hro.1) (Nat.le_trans hlo C.hro.2) C.hce.1 C.hce.2 hd (kk ls H locs hl hP hS)
def ra_cp (w : ra_W) (k0 sp k1 dp n : Nat) : ra_W := ra_up w k1 (va_cpy (w k0) (w k1) sp dp n)
theorem rg_copy (C : ra_C Z cc nL own fr lo) {idx : Nat} (hlk : Cond.methodLink own idx arraycopyName ∈ TW) (h1 : Cond.native arraycopyName ∈ TW) (h2 : Cond.static arraycopyName ∈ TW) (h3 : Cond.initialized "java/lang/System" ∈ TW) (k0 k1 : Nat) {n0 n1 : Nat} (hk0 : ra_kd k0 = (10, n0)) (hk1 : ra_kd k1 = (10, n1)) {sp dp n : Int32} {s0 d0 m0 : Nat} (e1 : sp.toNatClampNeg = s0) (e2 : dp.toNatClampNeg = d0) (e3 : n.toNatClampNeg = m0) (hsp : ¬ sp < 0) (hdp : ¬ dp < 0) (hn : ¬ n < 0) (h4 : s0 + m0 ≤ n0) (h5 : d0 + m0 ≤ n1) (hfr : 1 ≤ fr) (hlo : (st.map fun v => v.category).sum + (nativeFrameWords "java/lang/System" "arraycopy" 5 + 11) ≤ lo) (hd : decode cc pc = .ok (.invokestatic idx, 3)) (kk : ra_J Z nL (pc + 3) lv st (ra_cp w k0 s0 k1 d0 m0)) : ra_J Z nL pc lv (.int n :: .int dp :: .ref ((zG Z).1 k1) :: .int sp :: .ref ((zG Z).1 k0) :: st) w := by
  subst e1; subst e2; subst e3
  intro ls H locs hl hP hS
  refine va_copyi (D := (zG Z).2.1) (ty := .int) C.hx C.hb (C.hml.trans hl.1.symm) C.hown (C.hts _ hlk) (C.hts _ h1) (C.hts _ h2) (C.hts _ h3) C.hK hP (C.hD w) hS k0 k1 0 0 (ra_getA _ _ hk0) (ra_getA _ _ hk1) rfl rfl rfl hsp hdp hn h4 h5 (fun _ _ => rfl) (Nat.le_trans hfr C.hro.1) (Nat.le_trans hlo C.hro.2) hd (fun H1 locs1 hP1 _ hS1 => ?_)
  rw [ra_setA _ _ hk1] at hP1
  exact kk ls H1 locs1 hl hP1 hS1
theorem rg_iret (C : ra_C Z cc nL own fr lo) {r x : Int32} {w1 : ra_W} (hQ : ra_QI Z r w1) (hr : (zmt Z).sig.returnType = some .int) (hf : some (x, w) = some (r, w1)) (hd : decode cc pc = .ok (.ireturn, 1)) : ra_J Z nL pc lv [.int x] w := by
  cases hf
  intro ls H locs hl hP hS
  rw [hQ]
  exact W.iret C.hx C.hb hr (fun t ht hW => ⟨⟨_, (), rfl, rfl, by rw [ht]; exact hP, va_K.moved hW.alike C.hK⟩, hS.F ht⟩) hS.2.2 hd C.hlk
theorem rg_zret (C : ra_C Z cc nL own fr lo) {r x : Int32} {w1 : ra_W} (hQ : ra_QI Z r w1) (hr : (zmt Z).sig.returnType = some .boolean) (hn : x = 0 ∨ x = 1) (hf : some (x, w) = some (r, w1)) (hd : decode cc pc = .ok (.ireturn, 1)) : ra_J Z nL pc lv [.int x] w := by
  cases hf
  intro ls H locs hl hP hS
  rw [hQ]
  exact W.zret C.hx C.hb hr (by rcases hn with e | e <;> subst e <;> decide) (fun t ht hW => ⟨⟨_, (), rfl, rfl, by rw [ht]; exact hP, va_K.moved hW.alike C.hK⟩, hS.F ht⟩) hS.2.2 hd C.hlk
theorem rg_vret (C : ra_C Z cc nL own fr lo) {r x : Int32} {w1 : ra_W} (hQ : ra_QV Z r w1) (hr : (zmt Z).sig.returnType = none) (hf : some (x, w) = some (r, w1)) (hd : decode cc pc = .ok (.return_, 1)) : ra_J Z nL pc lv [] w := by
  cases hf
  intro ls H locs hl hP hS
  rw [hQ]
  exact W.vret C.hx C.hb hr (fun t ht hW => ⟨⟨(), rfl, trivial, by rw [ht]; exact hP, va_K.moved hW.alike C.hK⟩, hS.F ht⟩) hS.2.2 hd C.hlk
theorem ra_blind (G : ra_G) (w : ra_W) (av : List Value) : FrameBlind (va_Pc av (fun U => ra_K G w U)) := fun a U g mk q => by
  obtain ⟨q0, qP, qK⟩ := q
  exact ⟨q0, qP, va_K.moved (u := U) (U := U.calling g mk a) (Vm.Alike.refl U.vm) qK⟩
theorem ra_callB (C : ra_C Z cc nL own fr lo) {y : MethodName} {bytes : ByteArray} {maxL n fr' lo' idx : Nat} {ret : Option FieldType} (hY : ra_Y y bytes maxL ret n) (hlk : Cond.methodLink own idx y ∈ TW) (hR : fr' + 1 ≤ fr ∧ 8 + (maxL + 11) + lo' ≤ lo) : CallB (zR Z) (zs Z) (zar Z) own idx y bytes maxL ret (.code y bytes maxL ret :: TW) (ra_rm fr' lo') 0 0 n :=
  callB_of n C.hts (ra_good hY.2.1) rfl rfl rfl (C.hts _ hY.1) (C.hts _ hlk) hY.2.2 ⟨Nat.le_trans hR.1 C.hro.1, Nat.le_trans hR.2 C.hro.2⟩
theorem ra_toA (C : ra_C Z cc nL own fr lo) : ∀ q, ra_A (zG Z) q → zA Z q := fun q h => by
  obtain ⟨k, hk, e⟩ := h
  rw [e]
  exact C.hA k hk
theorem rg_callVI (C : ra_C Z cc nL own fr lo) {y : MethodName} {bytes : ByteArray} {maxL n fr' lo' idx k ci : Nat} {ret : Option FieldType} {As stk : List Value} {r : Int32} {w1 : ra_W} {Cn : String} {T : u_T} {N : Nat} (hM : ra_MI (zl Z) (zG Z) y bytes maxL ret fr' lo' (.ref ((zG Z).1 k) :: As) w r w1) (hk : ra_kd k = (ci, 0)) (hci : ci < 7) (hcl : vwCl[ci]? = some (Cn, T, N)) (hY : ra_YV y bytes maxL ret n Cn) (hn : As.length = n) (hlk : Cond.methodLink own idx y ∈ TW) (hR : fr' + 1 ≤ fr ∧ 8 + (maxL + 11) + lo' ≤ lo) (hs : stk = As.reverse ++ .ref ((zG Z).1 k) :: st) (hst : (st.map fun v => v.category).sum ≤ 8) (hd : decode cc pc = .ok (.invokevirtual idx, 3)) (kk : ra_J Z nL (pc + 3) lv (.int r :: st) w1) : ra_J Z nL pc lv stk w := by
  intro ls H locs hl hP hS
  subst hs
  refine va_calli (va_runV (As := As) (rest := st) (cc := cc) (nL := nL) ⟨C.hx, C.hb, C.hml, C.hown, C.hts⟩ hM ⟨ra_callB C hY.1 hlk hR, C.hts _ hY.2.1, C.hts _ hY.2.2⟩ ⟨ra_blind _ _ _, va_recv C.hK hP hcl (ra_getO _ _ hk hci), fun U hU hW => ⟨rfl, by rw [hU]; exact hP, va_K.moved hW.alike C.hK⟩⟩ rfl hn hl.1 rfl (lv_room hst) hd ⟨C.hce.1, C.hce.2⟩) hS (fun q _ h => ra_toA C q h) (ra_toA C) (fun r' _ t H1 locs1 ht _ hpost hB _ _ hS1 => ?_)
  subst hpost
  exact kk ls H1 locs1 hl (by rw [← ht]; exact hB.1) hS1
theorem rg_callVV (C : ra_C Z cc nL own fr lo) {y : MethodName} {bytes : ByteArray} {maxL n fr' lo' idx k ci : Nat} {ret : Option FieldType} {As stk : List Value} {r : Int32} {w1 : ra_W} {Cn : String} {T : u_T} {N : Nat} (hM : ra_MV (zl Z) (zG Z) y bytes maxL ret fr' lo' (.ref ((zG Z).1 k) :: As) w r w1) (hk : ra_kd k = (ci, 0)) (hci : ci < 7) (hcl : vwCl[ci]? = some (Cn, T, N)) (hY : ra_YV y bytes maxL ret n Cn) (hn : As.length = n) (hlk : Cond.methodLink own idx y ∈ TW) (hR : fr' + 1 ≤ fr ∧ 8 + (maxL + 11) + lo' ≤ lo) (hs : stk = As.reverse ++ .ref ((zG Z).1 k) :: st) (hst : (st.map fun v => v.category).sum ≤ 8) (hd : decode cc pc = .ok (.invokevirtual idx, 3)) (kk : ra_J Z nL (pc + 3) lv st w1) : ra_J Z nL pc lv stk w := by
  intro ls H locs hl hP hS
  subst hs
  refine va_callv (va_runV (As := As) (rest := st) (cc := cc) (nL := nL) ⟨C.hx, C.hb, C.hml, C.hown, C.hts⟩ hM ⟨ra_callB C hY.1 hlk hR, C.hts _ hY.2.1, C.hts _ hY.2.2⟩ ⟨ra_blind _ _ _, va_recv C.hK hP hcl (ra_getO _ _ hk hci), fun U hU hW => ⟨rfl, by rw [hU]; exact hP, va_K.moved hW.alike C.hK⟩⟩ rfl hn hl.1 rfl (lv_room hst) hd ⟨C.hce.1, C.hce.2⟩) hS (fun q _ h => ra_toA C q h) (ra_toA C) (fun _ t H1 locs1 ht _ _ hB _ _ hS1 => ?_)
  exact kk ls H1 locs1 hl (by rw [← ht]; exact hB.1) hS1
theorem rg_callSI (C : ra_C Z cc nL own fr lo) {y : MethodName} {bytes : ByteArray} {maxL n fr' lo' idx : Nat} {ret : Option FieldType} {As stk : List Value} {r : Int32} {w1 : ra_W} (hM : ra_MI (zl Z) (zG Z) y bytes maxL ret fr' lo' As w r w1) (hY : ra_YS y bytes maxL ret n) (hn : As.length = n) (hlk : Cond.methodLink own idx y ∈ TW) (hR : fr' + 1 ≤ fr ∧ 8 + (maxL + 11) + lo' ≤ lo) (hs : stk = As.reverse ++ st) (hst : (st.map fun v => v.category).sum ≤ 8) (hd : decode cc pc = .ok (.invokestatic idx, 3)) (kk : ra_J Z nL (pc + 3) lv (.int r :: st) w1) : ra_J Z nL pc lv stk w := by
  intro ls H locs hl hP hS
  subst hs
  refine va_calli (va_runS (As := As) (rest := st) (cc := cc) (nL := nL) ⟨C.hx, C.hb, C.hml, C.hown, C.hts⟩ hM ⟨ra_callB C hY.1 hlk hR, C.hts _ hY.2⟩ ⟨ra_blind _ _ _, fun U hU hW => ⟨rfl, by rw [hU]; exact hP, va_K.moved hW.alike C.hK⟩⟩ rfl hn hl.1 rfl (lv_room hst) hd ⟨C.hce.1, C.hce.2⟩) hS (fun q _ h => ra_toA C q h) (ra_toA C) (fun r' _ t H1 locs1 ht _ hpost hB _ _ hS1 => ?_)
  subst hpost
  exact kk ls H1 locs1 hl (by rw [← ht]; exact hB.1) hS1
theorem rg_callSV (C : ra_C Z cc nL own fr lo) {y : MethodName} {bytes : ByteArray} {maxL n fr' lo' idx : Nat} {ret : Option FieldType} {As stk : List Value} {r : Int32} {w1 : ra_W} (hM : ra_MV (zl Z) (zG Z) y bytes maxL ret fr' lo' As w r w1) (hY : ra_YS y bytes maxL ret n) (hn : As.length = n) (hlk : Cond.methodLink own idx y ∈ TW) (hR : fr' + 1 ≤ fr ∧ 8 + (maxL + 11) + lo' ≤ lo) (hs : stk = As.reverse ++ st) (hst : (st.map fun v => v.category).sum ≤ 8) (hd : decode cc pc = .ok (.invokestatic idx, 3)) (kk : ra_J Z nL (pc + 3) lv st w1) : ra_J Z nL pc lv stk w := by
  intro ls H locs hl hP hS
  subst hs
  refine va_callv (va_runS (As := As) (rest := st) (cc := cc) (nL := nL) ⟨C.hx, C.hb, C.hml, C.hown, C.hts⟩ hM ⟨ra_callB C hY.1 hlk hR, C.hts _ hY.2⟩ ⟨ra_blind _ _ _, fun U hU hW => ⟨rfl, by rw [hU]; exact hP, va_K.moved hW.alike C.hK⟩⟩ rfl hn hl.1 rfl (lv_room hst) hd ⟨C.hce.1, C.hce.2⟩) hS (fun q _ h => ra_toA C q h) (ra_toA C) (fun _ t H1 locs1 ht _ _ hB _ _ hS1 => ?_)
  exact kk ls H1 locs1 hl (by rw [← ht]; exact hB.1) hS1
end RG
theorem ra_entryI {l : Launch} {G : ra_G} {y : MethodName} {cc : ByteArray} {nL : Nat} {ret : Option FieldType} {fr lo : Nat} {av : List Value} {w : ra_W} {r : Int32} {w1 : ra_W} {own : String} (hp : plainName y.cls = true) (hown : y.cls = own) (hlen : (lg_sl av).length ≤ nL) (hj : ra_inj G)
    (h : ∀ Z : ra_Z, zl Z = l → zG Z = G → ra_C Z cc nL own fr lo → ra_QI Z r w1 → (zmt Z).sig.returnType = ret → ra_J Z nL 0 (lv_args 0 av) [] w) : ra_MI l G y cc nL ret fr lo av w r w1 := by
  refine Met.ofW (cc := cc) (maxL := nL) (ret := ret) hp rfl ?_
  intro p e s m args below meth c s₁ B hml hv
  obtain ⟨rfl, hP, hK⟩ := hv
  have hts := atoms_spec (ws := .code y cc nL ret :: TW) B.pre
  have ho : s.vm.findClass own = some m.cls := hown ▸ findClass_of_methodNamed B.named
  have hl := lv_entry av (n := nL) hlen
  rw [lg_entry_eq]
  generalize (lg_sl av ++ List.replicate (nL - (lg_sl av).length) Slot.unset).toArray = ls at hl ⊢
  exact h (p, l, e, ra_rm fr lo, s, m, av.toArray, below, meth, c, MQ below (va_Qi (fun (r' : Int32) (_ : Unit) => r' = r) (fun _ t => ra_K G w1 t) (ra_A G)) av.toArray s 0 0 (ra_A G), G, ra_A G, 0, 0) rfl rfl ⟨⟨B.exec, B.bytes, hml, ho⟩, fun w hw => hts w (List.mem_cons_of_mem _ hw), hK, hj, fun k hk => ⟨k, hk, rfl⟩, ⟨Nat.le_refl _, Nat.le_refl _⟩, ⟨Nat.le_refl _, Nat.le_refl _⟩, B.notSynchronized⟩ rfl B.returns ls s.heap [] hl hP va_S.rf
theorem ra_entryV {l : Launch} {G : ra_G} {y : MethodName} {cc : ByteArray} {nL : Nat} {ret : Option FieldType} {fr lo : Nat} {av : List Value} {w : ra_W} {r : Int32} {w1 : ra_W} {own : String} (hp : plainName y.cls = true) (hown : y.cls = own) (hlen : (lg_sl av).length ≤ nL) (hj : ra_inj G)
    (h : ∀ Z : ra_Z, zl Z = l → zG Z = G → ra_C Z cc nL own fr lo → ra_QV Z r w1 → (zmt Z).sig.returnType = ret → ra_J Z nL 0 (lv_args 0 av) [] w) : ra_MV l G y cc nL ret fr lo av w r w1 := by
  refine Met.ofW (cc := cc) (maxL := nL) (ret := ret) hp rfl ?_
  intro p e s m args below meth c s₁ B hml hv
  obtain ⟨rfl, hP, hK⟩ := hv
  have hts := atoms_spec (ws := .code y cc nL ret :: TW) B.pre
  have ho : s.vm.findClass own = some m.cls := hown ▸ findClass_of_methodNamed B.named
  have hl := lv_entry av (n := nL) hlen
  rw [lg_entry_eq]
  generalize (lg_sl av ++ List.replicate (nL - (lg_sl av).length) Slot.unset).toArray = ls at hl ⊢
  exact h (p, l, e, ra_rm fr lo, s, m, av.toArray, below, meth, c, MQ below (va_Qv (fun (_ : Unit) => True) (fun _ t => ra_K G w1 t) (ra_A G)) av.toArray s 0 0 (ra_A G), G, ra_A G, 0, 0) rfl rfl ⟨⟨B.exec, B.bytes, hml, ho⟩, fun w hw => hts w (List.mem_cons_of_mem _ hw), hK, hj, fun k hk => ⟨k, hk, rfl⟩, ⟨Nat.le_refl _, Nat.le_refl _⟩, ⟨Nat.le_refl _, Nat.le_refl _⟩, B.notSynchronized⟩ rfl B.returns ls s.heap [] hl hP va_S.rf

theorem kd_0 : ra_kd 0 = (5, 0) := by decide +kernel
theorem kd_1 : ra_kd 1 = (3, 0) := by decide +kernel
theorem kd_2 : ra_kd 2 = (10, 80) := by decide +kernel
theorem kd_3 : ra_kd 3 = (2, 0) := by decide +kernel
theorem kd_4 : ra_kd 4 = (10, 2) := by decide +kernel
theorem kd_5 : ra_kd 5 = (10, 7) := by decide +kernel
theorem kd_6 : ra_kd 6 = (10, 7) := by decide +kernel
theorem kd_7 : ra_kd 7 = (10, 7) := by decide +kernel
theorem kd_8 : ra_kd 8 = (2, 0) := by decide +kernel
theorem kd_9 : ra_kd 9 = (10, 2) := by decide +kernel
theorem kd_10 : ra_kd 10 = (10, 7) := by decide +kernel
theorem kd_11 : ra_kd 11 = (10, 7) := by decide +kernel
theorem kd_12 : ra_kd 12 = (10, 7) := by decide +kernel
theorem kd_13 : ra_kd 13 = (0, 0) := by decide +kernel
theorem kd_14 : ra_kd 14 = (10, 7) := by decide +kernel
theorem kd_15 : ra_kd 15 = (10, 7) := by decide +kernel
theorem kd_16 : ra_kd 16 = (4, 0) := by decide +kernel
theorem kd_17 : ra_kd 17 = (10, 7) := by decide +kernel
theorem kd_18 : ra_kd 18 = (10, 7) := by decide +kernel
theorem kd_19 : ra_kd 19 = (10, 7) := by decide +kernel
theorem kd_20 : ra_kd 20 = (10, 7) := by decide +kernel
theorem kd_21 : ra_kd 21 = (10, 7) := by decide +kernel
theorem kd_22 : ra_kd 22 = (10, 2) := by decide +kernel
theorem kd_23 : ra_kd 23 = (4, 0) := by decide +kernel
theorem kd_24 : ra_kd 24 = (10, 7) := by decide +kernel
theorem kd_25 : ra_kd 25 = (10, 7) := by decide +kernel
theorem kd_26 : ra_kd 26 = (10, 7) := by decide +kernel
theorem kd_27 : ra_kd 27 = (10, 7) := by decide +kernel
theorem kd_28 : ra_kd 28 = (10, 7) := by decide +kernel
theorem kd_29 : ra_kd 29 = (10, 2) := by decide +kernel
theorem kd_30 : ra_kd 30 = (1, 0) := by decide +kernel
theorem kd_31 : ra_kd 31 = (12, 12) := by decide +kernel
theorem kd_32 : ra_kd 32 = (12, 2) := by decide +kernel
theorem kd_33 : ra_kd 33 = (10, 6) := by decide +kernel
theorem kd_34 : ra_kd 34 = (10, 6) := by decide +kernel
theorem kd_35 : ra_kd 35 = (10, 4) := by decide +kernel
theorem kd_134 : ra_kd 134 = (6, 0) := by decide +kernel
theorem kd_135 : ra_kd 135 = (10, 80) := by decide +kernel
theorem kd_136 : ra_kd 136 = (10, 19) := by decide +kernel
theorem kd_137 : ra_kd 137 = (10, 19) := by decide +kernel
theorem kd_138 : ra_kd 138 = (10, 41) := by decide +kernel
theorem kd_139 : ra_kd 139 = (10, 41) := by decide +kernel
theorem kd_140 : ra_kd 140 = (10, 41) := by decide +kernel
theorem kd_141 : ra_kd 141 = (10, 492) := by decide +kernel
theorem kd_142 : ra_kd 142 = (10, 82) := by decide +kernel
theorem kd_143 : ra_kd 143 = (11, 2) := by decide +kernel
theorem kd_144 : ra_kd 144 = (10, 6) := by decide +kernel
theorem kd_145 : ra_kd 145 = (10, 6) := by decide +kernel
theorem kd_146 : ra_kd 146 = (10, 7) := by decide +kernel
theorem kd_147 : ra_kd 147 = (10, 7) := by decide +kernel
theorem kd_148 : ra_kd 148 = (10, 21) := by decide +kernel
def ra_S (b : Nat) : Prop := ra_kd b = (4, 0) ∧ ra_kd (b + 1) = (10, 7) ∧ ra_kd (b + 2) = (10, 7) ∧ ra_kd (b + 3) = (10, 7) ∧ ra_kd (b + 4) = (10, 7) ∧ ra_kd (b + 5) = (10, 7) ∧ ra_kd (b + 6) = (10, 2)
def ra_N (b : Nat) : Prop := ra_kd b = (2, 0) ∧ ra_kd (b + 1) = (10, 2) ∧ ra_kd (b + 2) = (10, 7) ∧ ra_kd (b + 3) = (10, 7) ∧ ra_kd (b + 4) = (10, 7)
theorem ra_S16 : ra_S 16 := by unfold ra_S; decide +kernel
theorem ra_S23 : ra_S 23 := by unfold ra_S; decide +kernel
theorem ra_N3 : ra_N 3 := by unfold ra_N; decide +kernel
theorem ra_N8 : ra_N 8 := by unfold ra_N; decide +kernel
theorem ra_S_all : ∀ j : Fin 14, ra_S (36 + 7 * j.val) := by unfold ra_S; decide +kernel
theorem ra_S31 {i : Int32} (h : ra_in i 12) : ra_S (ra_rs 31 (ra_ix i)) := by
  have hlt : i.toNatClampNeg < 12 := Nat.not_le.mp fun q => h (Or.inr q)
  have e : ra_rs 31 (ra_ix i) = 36 + 7 * (⟨i.toNatClampNeg + 2, by omega⟩ : Fin 14).val := by
    show 50 + 7 * i.toNatClampNeg = 36 + 7 * (i.toNatClampNeg + 2)
    omega
  rw [e]
  exact ra_S_all _
theorem ra_S32 {i : Int32} (h : ra_in i 2) : ra_S (ra_rs 32 (ra_ix i)) := by
  have hlt : i.toNatClampNeg < 2 := Nat.not_le.mp fun q => h (Or.inr q)
  have e : ra_rs 32 (ra_ix i) = 36 + 7 * (⟨i.toNatClampNeg, by omega⟩ : Fin 14).val := by
    show 36 + 7 * i.toNatClampNeg = 36 + 7 * i.toNatClampNeg
    rfl
  rw [e]
  exact ra_S_all _
end
