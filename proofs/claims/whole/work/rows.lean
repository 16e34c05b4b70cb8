section
-- ===== PART A: goes FIRST, ahead of the names: the tables' words, and 'selects' of the private methods out of them =====
/-- a private method of a class that the tables say can be made, by its rows of tables_1 -/
def lw_okq (q : MethodName × Nat) : Prop := (q.1.cls ≠ "java/lang/invoke/MethodHandle" ∧ q.1.cls ≠ "java/lang/invoke/VarHandle") ∧ Cond.instantiable q.1.cls q.2 ∈ tables_1 ∧ Cond.privateMethod q.1 ∈ tables_1 ∧ Cond.instanceMethod q.1 ∈ tables_1
theorem lw_p0 : lw_okq (⟨"OtherDoor$Tape", "nextToken", "()V"⟩, 13) := ⟨⟨by decide +kernel, by decide +kernel⟩, List.mem_of_getElem? (i := 175) (by decide +kernel), List.mem_of_getElem? (i := 466) (by decide +kernel), List.mem_of_getElem? (i := 467) (by decide +kernel)⟩
theorem lw_p1 : lw_okq (⟨"OtherDoor$Tape", "behind", "(CC)I"⟩, 13) := ⟨⟨by decide +kernel, by decide +kernel⟩, List.mem_of_getElem? (i := 175) (by decide +kernel), List.mem_of_getElem? (i := 470) (by decide +kernel), List.mem_of_getElem? (i := 471) (by decide +kernel)⟩
theorem lw_p2 : lw_okq (⟨"OtherDoor$Tape", "takeFigures", "()V"⟩, 13) := ⟨⟨by decide +kernel, by decide +kernel⟩, List.mem_of_getElem? (i := 175) (by decide +kernel), List.mem_of_getElem? (i := 474) (by decide +kernel), List.mem_of_getElem? (i := 475) (by decide +kernel)⟩
theorem lw_p3 : lw_okq (⟨"OtherDoor$Tape", "refuse", "(II)Z"⟩, 13) := ⟨⟨by decide +kernel, by decide +kernel⟩, List.mem_of_getElem? (i := 175) (by decide +kernel), List.mem_of_getElem? (i := 478) (by decide +kernel), List.mem_of_getElem? (i := 479) (by decide +kernel)⟩
theorem lw_p4 : lw_okq (⟨"OtherDoor$Tape", "takeLine", "()Z"⟩, 13) := ⟨⟨by decide +kernel, by decide +kernel⟩, List.mem_of_getElem? (i := 175) (by decide +kernel), List.mem_of_getElem? (i := 482) (by decide +kernel), List.mem_of_getElem? (i := 483) (by decide +kernel)⟩
theorem lw_p5 : lw_okq (⟨"OtherDoor$Tape", "isWord", "(Ljava/lang/String;)Z"⟩, 13) := ⟨⟨by decide +kernel, by decide +kernel⟩, List.mem_of_getElem? (i := 175) (by decide +kernel), List.mem_of_getElem? (i := 487) (by decide +kernel), List.mem_of_getElem? (i := 488) (by decide +kernel)⟩
theorem lw_p6 : lw_okq (⟨"OtherDoor$Tape", "takeRooms", "()Z"⟩, 13) := ⟨⟨by decide +kernel, by decide +kernel⟩, List.mem_of_getElem? (i := 175) (by decide +kernel), List.mem_of_getElem? (i := 539) (by decide +kernel), List.mem_of_getElem? (i := 540) (by decide +kernel)⟩
theorem lw_p7 : lw_okq (⟨"OtherDoor$Tape", "takeNumber", "(II)Z"⟩, 13) := ⟨⟨by decide +kernel, by decide +kernel⟩, List.mem_of_getElem? (i := 175) (by decide +kernel), List.mem_of_getElem? (i := 543) (by decide +kernel), List.mem_of_getElem? (i := 544) (by decide +kernel)⟩
theorem lw_p8 : lw_okq (⟨"OtherDoor$Tape", "takeSign", "()Z"⟩, 13) := ⟨⟨by decide +kernel, by decide +kernel⟩, List.mem_of_getElem? (i := 175) (by decide +kernel), List.mem_of_getElem? (i := 547) (by decide +kernel), List.mem_of_getElem? (i := 548) (by decide +kernel)⟩
theorem lw_p9 : lw_okq (⟨"OtherDoor$Tape", "isSign", "()Z"⟩, 13) := ⟨⟨by decide +kernel, by decide +kernel⟩, List.mem_of_getElem? (i := 175) (by decide +kernel), List.mem_of_getElem? (i := 551) (by decide +kernel), List.mem_of_getElem? (i := 552) (by decide +kernel)⟩
theorem lw_p10 : lw_okq (⟨"OtherDoor$Tape", "takeLaw", "()Z"⟩, 13) := ⟨⟨by decide +kernel, by decide +kernel⟩, List.mem_of_getElem? (i := 175) (by decide +kernel), List.mem_of_getElem? (i := 556) (by decide +kernel), List.mem_of_getElem? (i := 557) (by decide +kernel)⟩
theorem lw_p11 : lw_okq (⟨"OtherDoor$Tape", "takeDoor", "()Z"⟩, 13) := ⟨⟨by decide +kernel, by decide +kernel⟩, List.mem_of_getElem? (i := 175) (by decide +kernel), List.mem_of_getElem? (i := 561) (by decide +kernel), List.mem_of_getElem? (i := 562) (by decide +kernel)⟩
theorem lw_p12 : lw_okq (⟨"OtherDoor$Tape", "colourTold", "()I"⟩, 13) := ⟨⟨by decide +kernel, by decide +kernel⟩, List.mem_of_getElem? (i := 175) (by decide +kernel), List.mem_of_getElem? (i := 565) (by decide +kernel), List.mem_of_getElem? (i := 566) (by decide +kernel)⟩
theorem lw_p13 : lw_okq (⟨"OtherDoor$Tape", "takeOne", "()Z"⟩, 13) := ⟨⟨by decide +kernel, by decide +kernel⟩, List.mem_of_getElem? (i := 175) (by decide +kernel), List.mem_of_getElem? (i := 577) (by decide +kernel), List.mem_of_getElem? (i := 578) (by decide +kernel)⟩
theorem lw_p14 : lw_okq (⟨"OtherDoor$Tape", "takeWalled", "()Z"⟩, 13) := ⟨⟨by decide +kernel, by decide +kernel⟩, List.mem_of_getElem? (i := 175) (by decide +kernel), List.mem_of_getElem? (i := 586) (by decide +kernel), List.mem_of_getElem? (i := 587) (by decide +kernel)⟩
theorem lw_p15 : lw_okq (⟨"OtherDoor$Tape", "closeText", "()Z"⟩, 13) := ⟨⟨by decide +kernel, by decide +kernel⟩, List.mem_of_getElem? (i := 175) (by decide +kernel), List.mem_of_getElem? (i := 590) (by decide +kernel), List.mem_of_getElem? (i := 591) (by decide +kernel)⟩
def lw_privs_1 : List (MethodName × Nat) := [(⟨"OtherDoor$Tape", "nextToken", "()V"⟩, 13), (⟨"OtherDoor$Tape", "behind", "(CC)I"⟩, 13), (⟨"OtherDoor$Tape", "takeFigures", "()V"⟩, 13), (⟨"OtherDoor$Tape", "refuse", "(II)Z"⟩, 13), (⟨"OtherDoor$Tape", "takeLine", "()Z"⟩, 13), (⟨"OtherDoor$Tape", "isWord", "(Ljava/lang/String;)Z"⟩, 13), (⟨"OtherDoor$Tape", "takeRooms", "()Z"⟩, 13), (⟨"OtherDoor$Tape", "takeNumber", "(II)Z"⟩, 13), (⟨"OtherDoor$Tape", "takeSign", "()Z"⟩, 13), (⟨"OtherDoor$Tape", "isSign", "()Z"⟩, 13), (⟨"OtherDoor$Tape", "takeLaw", "()Z"⟩, 13), (⟨"OtherDoor$Tape", "takeDoor", "()Z"⟩, 13), (⟨"OtherDoor$Tape", "colourTold", "()I"⟩, 13), (⟨"OtherDoor$Tape", "takeOne", "()Z"⟩, 13), (⟨"OtherDoor$Tape", "takeWalled", "()Z"⟩, 13), (⟨"OtherDoor$Tape", "closeText", "()Z"⟩, 13)]
theorem lw_r1 : ∀ q ∈ lw_privs_1, lw_okq q := List.forall_mem_cons.mpr ⟨lw_p0, List.forall_mem_cons.mpr ⟨lw_p1, List.forall_mem_cons.mpr ⟨lw_p2, List.forall_mem_cons.mpr ⟨lw_p3, List.forall_mem_cons.mpr ⟨lw_p4, List.forall_mem_cons.mpr ⟨lw_p5, List.forall_mem_cons.mpr ⟨lw_p6, List.forall_mem_cons.mpr ⟨lw_p7, List.forall_mem_cons.mpr ⟨lw_p8, List.forall_mem_cons.mpr ⟨lw_p9, List.forall_mem_cons.mpr ⟨lw_p10, List.forall_mem_cons.mpr ⟨lw_p11, List.forall_mem_cons.mpr ⟨lw_p12, List.forall_mem_cons.mpr ⟨lw_p13, List.forall_mem_cons.mpr ⟨lw_p14, List.forall_mem_cons.mpr ⟨lw_p15, fun _ h => absurd h List.not_mem_nil⟩⟩⟩⟩⟩⟩⟩⟩⟩⟩⟩⟩⟩⟩⟩⟩
theorem lw_p16 : lw_okq (⟨"OtherDoor$Ways", "begin", "(LOtherDoor$House;LOtherDoor$Walker;)V"⟩, 8) := ⟨⟨by decide +kernel, by decide +kernel⟩, List.mem_of_getElem? (i := 231) (by decide +kernel), List.mem_of_getElem? (i := 703) (by decide +kernel), List.mem_of_getElem? (i := 704) (by decide +kernel)⟩
theorem lw_p17 : lw_okq (⟨"OtherDoor$Ways", "spread", "(LOtherDoor$House;I)V"⟩, 8) := ⟨⟨by decide +kernel, by decide +kernel⟩, List.mem_of_getElem? (i := 231) (by decide +kernel), List.mem_of_getElem? (i := 712) (by decide +kernel), List.mem_of_getElem? (i := 713) (by decide +kernel)⟩
theorem lw_p18 : lw_okq (⟨"OtherDoor$Builders", "spreadNew", "(LOtherDoor$House;)V"⟩, 4) := ⟨⟨by decide +kernel, by decide +kernel⟩, List.mem_of_getElem? (i := 346) (by decide +kernel), List.mem_of_getElem? (i := 750) (by decide +kernel), List.mem_of_getElem? (i := 751) (by decide +kernel)⟩
theorem lw_p19 : lw_okq (⟨"OtherDoor$Builders", "enterBy", "(LOtherDoor$House;III)Z"⟩, 4) := ⟨⟨by decide +kernel, by decide +kernel⟩, List.mem_of_getElem? (i := 346) (by decide +kernel), List.mem_of_getElem? (i := 756) (by decide +kernel), List.mem_of_getElem? (i := 757) (by decide +kernel)⟩
theorem lw_p20 : lw_okq (⟨"OtherDoor$Builders", "comersTo", "(II)I"⟩, 4) := ⟨⟨by decide +kernel, by decide +kernel⟩, List.mem_of_getElem? (i := 346) (by decide +kernel), List.mem_of_getElem? (i := 760) (by decide +kernel), List.mem_of_getElem? (i := 761) (by decide +kernel)⟩
theorem lw_p21 : lw_okq (⟨"OtherDoor$House", "losesBySecond", "(I)Z"⟩, 9) := ⟨⟨by decide +kernel, by decide +kernel⟩, List.mem_of_getElem? (i := 36) (by decide +kernel), List.mem_of_getElem? (i := 801) (by decide +kernel), List.mem_of_getElem? (i := 802) (by decide +kernel)⟩
theorem lw_p22 : lw_okq (⟨"OtherDoor$House", "losesBehind", "(II)Z"⟩, 9) := ⟨⟨by decide +kernel, by decide +kernel⟩, List.mem_of_getElem? (i := 36) (by decide +kernel), List.mem_of_getElem? (i := 805) (by decide +kernel), List.mem_of_getElem? (i := 806) (by decide +kernel)⟩
theorem lw_p23 : lw_okq (⟨"OtherDoor$Rounds", "begin", "(II)V"⟩, 7) := ⟨⟨by decide +kernel, by decide +kernel⟩, List.mem_of_getElem? (i := 262) (by decide +kernel), List.mem_of_getElem? (i := 819) (by decide +kernel), List.mem_of_getElem? (i := 820) (by decide +kernel)⟩
theorem lw_p24 : lw_okq (⟨"OtherDoor$Rounds", "put", "(III)V"⟩, 7) := ⟨⟨by decide +kernel, by decide +kernel⟩, List.mem_of_getElem? (i := 262) (by decide +kernel), List.mem_of_getElem? (i := 825) (by decide +kernel), List.mem_of_getElem? (i := 826) (by decide +kernel)⟩
theorem lw_p25 : lw_okq (⟨"OtherDoor$Rounds", "spreadLevel", "(LOtherDoor$House;I)Z"⟩, 7) := ⟨⟨by decide +kernel, by decide +kernel⟩, List.mem_of_getElem? (i := 262) (by decide +kernel), List.mem_of_getElem? (i := 829) (by decide +kernel), List.mem_of_getElem? (i := 830) (by decide +kernel)⟩
theorem lw_p26 : lw_okq (⟨"OtherDoor$Rounds", "spread", "(LOtherDoor$House;III)Z"⟩, 7) := ⟨⟨by decide +kernel, by decide +kernel⟩, List.mem_of_getElem? (i := 262) (by decide +kernel), List.mem_of_getElem? (i := 833) (by decide +kernel), List.mem_of_getElem? (i := 834) (by decide +kernel)⟩
theorem lw_p27 : lw_okq (⟨"OtherDoor$Rounds", "withRoom", "(II)I"⟩, 7) := ⟨⟨by decide +kernel, by decide +kernel⟩, List.mem_of_getElem? (i := 262) (by decide +kernel), List.mem_of_getElem? (i := 843) (by decide +kernel), List.mem_of_getElem? (i := 844) (by decide +kernel)⟩
theorem lw_p28 : lw_okq (⟨"OtherDoor$Tours", "fill", "(LOtherDoor$House;I)V"⟩, 4) := ⟨⟨by decide +kernel, by decide +kernel⟩, List.mem_of_getElem? (i := 292) (by decide +kernel), List.mem_of_getElem? (i := 864) (by decide +kernel), List.mem_of_getElem? (i := 865) (by decide +kernel)⟩
theorem lw_p29 : lw_okq (⟨"OtherDoor$Tours", "roomBehind", "(LOtherDoor$House;I)I"⟩, 4) := ⟨⟨by decide +kernel, by decide +kernel⟩, List.mem_of_getElem? (i := 292) (by decide +kernel), List.mem_of_getElem? (i := 868) (by decide +kernel), List.mem_of_getElem? (i := 869) (by decide +kernel)⟩
theorem lw_p30 : lw_okq (⟨"OtherDoor$Tours", "through", "(LOtherDoor$House;IIII)I"⟩, 4) := ⟨⟨by decide +kernel, by decide +kernel⟩, List.mem_of_getElem? (i := 292) (by decide +kernel), List.mem_of_getElem? (i := 872) (by decide +kernel), List.mem_of_getElem? (i := 873) (by decide +kernel)⟩
theorem lw_p31 : lw_okq (⟨"OtherDoor$Two", "addSpot", "(LOtherDoor$House;III)V"⟩, 9) := ⟨⟨by decide +kernel, by decide +kernel⟩, List.mem_of_getElem? (i := 311) (by decide +kernel), List.mem_of_getElem? (i := 896) (by decide +kernel), List.mem_of_getElem? (i := 897) (by decide +kernel)⟩
def lw_privs_2 : List (MethodName × Nat) := [(⟨"OtherDoor$Ways", "begin", "(LOtherDoor$House;LOtherDoor$Walker;)V"⟩, 8), (⟨"OtherDoor$Ways", "spread", "(LOtherDoor$House;I)V"⟩, 8), (⟨"OtherDoor$Builders", "spreadNew", "(LOtherDoor$House;)V"⟩, 4), (⟨"OtherDoor$Builders", "enterBy", "(LOtherDoor$House;III)Z"⟩, 4), (⟨"OtherDoor$Builders", "comersTo", "(II)I"⟩, 4), (⟨"OtherDoor$House", "losesBySecond", "(I)Z"⟩, 9), (⟨"OtherDoor$House", "losesBehind", "(II)Z"⟩, 9), (⟨"OtherDoor$Rounds", "begin", "(II)V"⟩, 7), (⟨"OtherDoor$Rounds", "put", "(III)V"⟩, 7), (⟨"OtherDoor$Rounds", "spreadLevel", "(LOtherDoor$House;I)Z"⟩, 7), (⟨"OtherDoor$Rounds", "spread", "(LOtherDoor$House;III)Z"⟩, 7), (⟨"OtherDoor$Rounds", "withRoom", "(II)I"⟩, 7), (⟨"OtherDoor$Tours", "fill", "(LOtherDoor$House;I)V"⟩, 4), (⟨"OtherDoor$Tours", "roomBehind", "(LOtherDoor$House;I)I"⟩, 4), (⟨"OtherDoor$Tours", "through", "(LOtherDoor$House;IIII)I"⟩, 4), (⟨"OtherDoor$Two", "addSpot", "(LOtherDoor$House;III)V"⟩, 9)]
theorem lw_r2 : ∀ q ∈ lw_privs_2, lw_okq q := List.forall_mem_cons.mpr ⟨lw_p16, List.forall_mem_cons.mpr ⟨lw_p17, List.forall_mem_cons.mpr ⟨lw_p18, List.forall_mem_cons.mpr ⟨lw_p19, List.forall_mem_cons.mpr ⟨lw_p20, List.forall_mem_cons.mpr ⟨lw_p21, List.forall_mem_cons.mpr ⟨lw_p22, List.forall_mem_cons.mpr ⟨lw_p23, List.forall_mem_cons.mpr ⟨lw_p24, List.forall_mem_cons.mpr ⟨lw_p25, List.forall_mem_cons.mpr ⟨lw_p26, List.forall_mem_cons.mpr ⟨lw_p27, List.forall_mem_cons.mpr ⟨lw_p28, List.forall_mem_cons.mpr ⟨lw_p29, List.forall_mem_cons.mpr ⟨lw_p30, List.forall_mem_cons.mpr ⟨lw_p31, fun _ h => absurd h List.not_mem_nil⟩⟩⟩⟩⟩⟩⟩⟩⟩⟩⟩⟩⟩⟩⟩⟩
theorem lw_p32 : lw_okq (⟨"OtherDoor$Two", "together", "()Z"⟩, 9) := ⟨⟨by decide +kernel, by decide +kernel⟩, List.mem_of_getElem? (i := 311) (by decide +kernel), List.mem_of_getElem? (i := 907) (by decide +kernel), List.mem_of_getElem? (i := 908) (by decide +kernel)⟩
theorem lw_p33 : lw_okq (⟨"OtherDoor$Two", "put", "(III)V"⟩, 9) := ⟨⟨by decide +kernel, by decide +kernel⟩, List.mem_of_getElem? (i := 311) (by decide +kernel), List.mem_of_getElem? (i := 911) (by decide +kernel), List.mem_of_getElem? (i := 912) (by decide +kernel)⟩
theorem lw_p34 : lw_okq (⟨"OtherDoor$Two", "turnMinute", "()V"⟩, 9) := ⟨⟨by decide +kernel, by decide +kernel⟩, List.mem_of_getElem? (i := 311) (by decide +kernel), List.mem_of_getElem? (i := 915) (by decide +kernel), List.mem_of_getElem? (i := 916) (by decide +kernel)⟩
theorem lw_p35 : lw_okq (⟨"OtherDoor$Two", "talkMinute", "(I)Z"⟩, 9) := ⟨⟨by decide +kernel, by decide +kernel⟩, List.mem_of_getElem? (i := 311) (by decide +kernel), List.mem_of_getElem? (i := 920) (by decide +kernel), List.mem_of_getElem? (i := 921) (by decide +kernel)⟩
theorem lw_p36 : lw_okq (⟨"OtherDoor$Two", "talkStep", "(III)Z"⟩, 9) := ⟨⟨by decide +kernel, by decide +kernel⟩, List.mem_of_getElem? (i := 311) (by decide +kernel), List.mem_of_getElem? (i := 924) (by decide +kernel), List.mem_of_getElem? (i := 925) (by decide +kernel)⟩
theorem lw_p37 : lw_okq (⟨"OtherDoor$Two", "nextOf", "(I)I"⟩, 9) := ⟨⟨by decide +kernel, by decide +kernel⟩, List.mem_of_getElem? (i := 311) (by decide +kernel), List.mem_of_getElem? (i := 928) (by decide +kernel), List.mem_of_getElem? (i := 929) (by decide +kernel)⟩
theorem lw_p38 : lw_okq (⟨"OtherDoor$Two", "cupMinute", "(I)Z"⟩, 9) := ⟨⟨by decide +kernel, by decide +kernel⟩, List.mem_of_getElem? (i := 311) (by decide +kernel), List.mem_of_getElem? (i := 940) (by decide +kernel), List.mem_of_getElem? (i := 941) (by decide +kernel)⟩
theorem lw_p39 : lw_okq (⟨"OtherDoor$Two", "cupStep", "(III)Z"⟩, 9) := ⟨⟨by decide +kernel, by decide +kernel⟩, List.mem_of_getElem? (i := 311) (by decide +kernel), List.mem_of_getElem? (i := 944) (by decide +kernel), List.mem_of_getElem? (i := 945) (by decide +kernel)⟩
theorem lw_p40 : lw_okq (⟨"OtherDoor$Builders", "tryMore", "(LOtherDoor$House;II)V"⟩, 4) := ⟨⟨by decide +kernel, by decide +kernel⟩, List.mem_of_getElem? (i := 346) (by decide +kernel), List.mem_of_getElem? (i := 957) (by decide +kernel), List.mem_of_getElem? (i := 958) (by decide +kernel)⟩
theorem lw_p41 : lw_okq (⟨"OtherDoor$Builders", "mendByOne", "(LOtherDoor$House;III)Z"⟩, 4) := ⟨⟨by decide +kernel, by decide +kernel⟩, List.mem_of_getElem? (i := 346) (by decide +kernel), List.mem_of_getElem? (i := 988) (by decide +kernel), List.mem_of_getElem? (i := 989) (by decide +kernel)⟩
theorem lw_p42 : lw_okq (⟨"OtherDoor$Builders", "mendByTwo", "(LOtherDoor$House;I)Z"⟩, 4) := ⟨⟨by decide +kernel, by decide +kernel⟩, List.mem_of_getElem? (i := 346) (by decide +kernel), List.mem_of_getElem? (i := 999) (by decide +kernel), List.mem_of_getElem? (i := 1000) (by decide +kernel)⟩
theorem lw_p43 : lw_okq (⟨"OtherDoor$Trails", "follow", "(LOtherDoor$House;IIIII)V"⟩, 6) := ⟨⟨by decide +kernel, by decide +kernel⟩, List.mem_of_getElem? (i := 367) (by decide +kernel), List.mem_of_getElem? (i := 1023) (by decide +kernel), List.mem_of_getElem? (i := 1024) (by decide +kernel)⟩
theorem lw_p44 : lw_okq (⟨"OtherDoor$Trails", "note", "(I)V"⟩, 6) := ⟨⟨by decide +kernel, by decide +kernel⟩, List.mem_of_getElem? (i := 367) (by decide +kernel), List.mem_of_getElem? (i := 1028) (by decide +kernel), List.mem_of_getElem? (i := 1029) (by decide +kernel)⟩
theorem lw_p45 : lw_okq (⟨"OtherDoor$Trails", "branch", "(LOtherDoor$House;IIIII)V"⟩, 6) := ⟨⟨by decide +kernel, by decide +kernel⟩, List.mem_of_getElem? (i := 367) (by decide +kernel), List.mem_of_getElem? (i := 1033) (by decide +kernel), List.mem_of_getElem? (i := 1034) (by decide +kernel)⟩
theorem lw_p46 : lw_okq (⟨"OtherDoorModel", "step", "()V"⟩, 44) := ⟨⟨by decide +kernel, by decide +kernel⟩, List.mem_of_getElem? (i := 1092) (by decide +kernel), List.mem_of_getElem? (i := 1248) (by decide +kernel), List.mem_of_getElem? (i := 1249) (by decide +kernel)⟩
theorem lw_p47 : lw_okq (⟨"OtherDoorModel", "byteAt", "(I)I"⟩, 44) := ⟨⟨by decide +kernel, by decide +kernel⟩, List.mem_of_getElem? (i := 1092) (by decide +kernel), List.mem_of_getElem? (i := 1252) (by decide +kernel), List.mem_of_getElem? (i := 1253) (by decide +kernel)⟩
def lw_privs_3 : List (MethodName × Nat) := [(⟨"OtherDoor$Two", "together", "()Z"⟩, 9), (⟨"OtherDoor$Two", "put", "(III)V"⟩, 9), (⟨"OtherDoor$Two", "turnMinute", "()V"⟩, 9), (⟨"OtherDoor$Two", "talkMinute", "(I)Z"⟩, 9), (⟨"OtherDoor$Two", "talkStep", "(III)Z"⟩, 9), (⟨"OtherDoor$Two", "nextOf", "(I)I"⟩, 9), (⟨"OtherDoor$Two", "cupMinute", "(I)Z"⟩, 9), (⟨"OtherDoor$Two", "cupStep", "(III)Z"⟩, 9), (⟨"OtherDoor$Builders", "tryMore", "(LOtherDoor$House;II)V"⟩, 4), (⟨"OtherDoor$Builders", "mendByOne", "(LOtherDoor$House;III)Z"⟩, 4), (⟨"OtherDoor$Builders", "mendByTwo", "(LOtherDoor$House;I)Z"⟩, 4), (⟨"OtherDoor$Trails", "follow", "(LOtherDoor$House;IIIII)V"⟩, 6), (⟨"OtherDoor$Trails", "note", "(I)V"⟩, 6), (⟨"OtherDoor$Trails", "branch", "(LOtherDoor$House;IIIII)V"⟩, 6), (⟨"OtherDoorModel", "step", "()V"⟩, 44), (⟨"OtherDoorModel", "byteAt", "(I)I"⟩, 44)]
theorem lw_r3 : ∀ q ∈ lw_privs_3, lw_okq q := List.forall_mem_cons.mpr ⟨lw_p32, List.forall_mem_cons.mpr ⟨lw_p33, List.forall_mem_cons.mpr ⟨lw_p34, List.forall_mem_cons.mpr ⟨lw_p35, List.forall_mem_cons.mpr ⟨lw_p36, List.forall_mem_cons.mpr ⟨lw_p37, List.forall_mem_cons.mpr ⟨lw_p38, List.forall_mem_cons.mpr ⟨lw_p39, List.forall_mem_cons.mpr ⟨lw_p40, List.forall_mem_cons.mpr ⟨lw_p41, List.forall_mem_cons.mpr ⟨lw_p42, List.forall_mem_cons.mpr ⟨lw_p43, List.forall_mem_cons.mpr ⟨lw_p44, List.forall_mem_cons.mpr ⟨lw_p45, List.forall_mem_cons.mpr ⟨lw_p46, List.forall_mem_cons.mpr ⟨lw_p47, fun _ h => absurd h List.not_mem_nil⟩⟩⟩⟩⟩⟩⟩⟩⟩⟩⟩⟩⟩⟩⟩⟩
theorem lw_p48 : lw_okq (⟨"OtherDoorModel", "fails", "(I)V"⟩, 44) := ⟨⟨by decide +kernel, by decide +kernel⟩, List.mem_of_getElem? (i := 1092) (by decide +kernel), List.mem_of_getElem? (i := 1260) (by decide +kernel), List.mem_of_getElem? (i := 1261) (by decide +kernel)⟩
theorem lw_p49 : lw_okq (⟨"OtherDoorModel", "readLine", "()V"⟩, 44) := ⟨⟨by decide +kernel, by decide +kernel⟩, List.mem_of_getElem? (i := 1092) (by decide +kernel), List.mem_of_getElem? (i := 1264) (by decide +kernel), List.mem_of_getElem? (i := 1265) (by decide +kernel)⟩
theorem lw_p50 : lw_okq (⟨"OtherDoorModel", "nameHere", "()I"⟩, 44) := ⟨⟨by decide +kernel, by decide +kernel⟩, List.mem_of_getElem? (i := 1092) (by decide +kernel), List.mem_of_getElem? (i := 1268) (by decide +kernel), List.mem_of_getElem? (i := 1269) (by decide +kernel)⟩
theorem lw_p51 : lw_okq (⟨"OtherDoorModel", "readDoor", "()V"⟩, 44) := ⟨⟨by decide +kernel, by decide +kernel⟩, List.mem_of_getElem? (i := 1092) (by decide +kernel), List.mem_of_getElem? (i := 1273) (by decide +kernel), List.mem_of_getElem? (i := 1274) (by decide +kernel)⟩
theorem lw_p52 : lw_okq (⟨"OtherDoorModel", "room", "(I)I"⟩, 44) := ⟨⟨by decide +kernel, by decide +kernel⟩, List.mem_of_getElem? (i := 1092) (by decide +kernel), List.mem_of_getElem? (i := 1277) (by decide +kernel), List.mem_of_getElem? (i := 1278) (by decide +kernel)⟩
theorem lw_p53 : lw_okq (⟨"OtherDoorModel", "looks", "(II)V"⟩, 44) := ⟨⟨by decide +kernel, by decide +kernel⟩, List.mem_of_getElem? (i := 1092) (by decide +kernel), List.mem_of_getElem? (i := 1281) (by decide +kernel), List.mem_of_getElem? (i := 1282) (by decide +kernel)⟩
theorem lw_p54 : lw_okq (⟨"OtherDoorModel", "number", "(II)I"⟩, 44) := ⟨⟨by decide +kernel, by decide +kernel⟩, List.mem_of_getElem? (i := 1092) (by decide +kernel), List.mem_of_getElem? (i := 1285) (by decide +kernel), List.mem_of_getElem? (i := 1286) (by decide +kernel)⟩
theorem lw_p55 : lw_okq (⟨"OtherDoorModel", "readOne", "()V"⟩, 44) := ⟨⟨by decide +kernel, by decide +kernel⟩, List.mem_of_getElem? (i := 1092) (by decide +kernel), List.mem_of_getElem? (i := 1289) (by decide +kernel), List.mem_of_getElem? (i := 1290) (by decide +kernel)⟩
theorem lw_p56 : lw_okq (⟨"OtherDoorModel", "readWalled", "()V"⟩, 44) := ⟨⟨by decide +kernel, by decide +kernel⟩, List.mem_of_getElem? (i := 1092) (by decide +kernel), List.mem_of_getElem? (i := 1293) (by decide +kernel), List.mem_of_getElem? (i := 1294) (by decide +kernel)⟩
theorem lw_p57 : lw_okq (⟨"OtherDoorModel", "doorMany", "()I"⟩, 44) := ⟨⟨by decide +kernel, by decide +kernel⟩, List.mem_of_getElem? (i := 1092) (by decide +kernel), List.mem_of_getElem? (i := 1297) (by decide +kernel), List.mem_of_getElem? (i := 1298) (by decide +kernel)⟩
theorem lw_p58 : lw_okq (⟨"OtherDoorModel", "ones", "()I"⟩, 44) := ⟨⟨by decide +kernel, by decide +kernel⟩, List.mem_of_getElem? (i := 1092) (by decide +kernel), List.mem_of_getElem? (i := 1309) (by decide +kernel), List.mem_of_getElem? (i := 1310) (by decide +kernel)⟩
theorem lw_p59 : lw_okq (⟨"OtherDoorModel", "isDoor", "(I)Z"⟩, 44) := ⟨⟨by decide +kernel, by decide +kernel⟩, List.mem_of_getElem? (i := 1092) (by decide +kernel), List.mem_of_getElem? (i := 1317) (by decide +kernel), List.mem_of_getElem? (i := 1318) (by decide +kernel)⟩
theorem lw_p60 : lw_okq (⟨"OtherDoorModel", "isOne", "(I)Z"⟩, 44) := ⟨⟨by decide +kernel, by decide +kernel⟩, List.mem_of_getElem? (i := 1092) (by decide +kernel), List.mem_of_getElem? (i := 1326) (by decide +kernel), List.mem_of_getElem? (i := 1327) (by decide +kernel)⟩
theorem lw_p61 : lw_okq (⟨"OtherDoorModel", "placeOfOne", "(I)I"⟩, 44) := ⟨⟨by decide +kernel, by decide +kernel⟩, List.mem_of_getElem? (i := 1092) (by decide +kernel), List.mem_of_getElem? (i := 1330) (by decide +kernel), List.mem_of_getElem? (i := 1331) (by decide +kernel)⟩
theorem lw_p62 : lw_okq (⟨"OtherDoorModel", "mayTake", "(I)I"⟩, 44) := ⟨⟨by decide +kernel, by decide +kernel⟩, List.mem_of_getElem? (i := 1092) (by decide +kernel), List.mem_of_getElem? (i := 1337) (by decide +kernel), List.mem_of_getElem? (i := 1338) (by decide +kernel)⟩
theorem lw_p63 : lw_okq (⟨"OtherDoorModel", "stepped", "(II)I"⟩, 44) := ⟨⟨by decide +kernel, by decide +kernel⟩, List.mem_of_getElem? (i := 1092) (by decide +kernel), List.mem_of_getElem? (i := 1341) (by decide +kernel), List.mem_of_getElem? (i := 1342) (by decide +kernel)⟩
def lw_privs_4 : List (MethodName × Nat) := [(⟨"OtherDoorModel", "fails", "(I)V"⟩, 44), (⟨"OtherDoorModel", "readLine", "()V"⟩, 44), (⟨"OtherDoorModel", "nameHere", "()I"⟩, 44), (⟨"OtherDoorModel", "readDoor", "()V"⟩, 44), (⟨"OtherDoorModel", "room", "(I)I"⟩, 44), (⟨"OtherDoorModel", "looks", "(II)V"⟩, 44), (⟨"OtherDoorModel", "number", "(II)I"⟩, 44), (⟨"OtherDoorModel", "readOne", "()V"⟩, 44), (⟨"OtherDoorModel", "readWalled", "()V"⟩, 44), (⟨"OtherDoorModel", "doorMany", "()I"⟩, 44), (⟨"OtherDoorModel", "ones", "()I"⟩, 44), (⟨"OtherDoorModel", "isDoor", "(I)Z"⟩, 44), (⟨"OtherDoorModel", "isOne", "(I)Z"⟩, 44), (⟨"OtherDoorModel", "placeOfOne", "(I)I"⟩, 44), (⟨"OtherDoorModel", "mayTake", "(I)I"⟩, 44), (⟨"OtherDoorModel", "stepped", "(II)I"⟩, 44)]
theorem lw_r4 : ∀ q ∈ lw_privs_4, lw_okq q := List.forall_mem_cons.mpr ⟨lw_p48, List.forall_mem_cons.mpr ⟨lw_p49, List.forall_mem_cons.mpr ⟨lw_p50, List.forall_mem_cons.mpr ⟨lw_p51, List.forall_mem_cons.mpr ⟨lw_p52, List.forall_mem_cons.mpr ⟨lw_p53, List.forall_mem_cons.mpr ⟨lw_p54, List.forall_mem_cons.mpr ⟨lw_p55, List.forall_mem_cons.mpr ⟨lw_p56, List.forall_mem_cons.mpr ⟨lw_p57, List.forall_mem_cons.mpr ⟨lw_p58, List.forall_mem_cons.mpr ⟨lw_p59, List.forall_mem_cons.mpr ⟨lw_p60, List.forall_mem_cons.mpr ⟨lw_p61, List.forall_mem_cons.mpr ⟨lw_p62, List.forall_mem_cons.mpr ⟨lw_p63, fun _ h => absurd h List.not_mem_nil⟩⟩⟩⟩⟩⟩⟩⟩⟩⟩⟩⟩⟩⟩⟩⟩
theorem lw_p64 : lw_okq (⟨"OtherDoorModel", "roomAt", "(I)I"⟩, 44) := ⟨⟨by decide +kernel, by decide +kernel⟩, List.mem_of_getElem? (i := 1092) (by decide +kernel), List.mem_of_getElem? (i := 1345) (by decide +kernel), List.mem_of_getElem? (i := 1346) (by decide +kernel)⟩
theorem lw_p65 : lw_okq (⟨"OtherDoorModel", "isRoom", "(I)Z"⟩, 44) := ⟨⟨by decide +kernel, by decide +kernel⟩, List.mem_of_getElem? (i := 1092) (by decide +kernel), List.mem_of_getElem? (i := 1356) (by decide +kernel), List.mem_of_getElem? (i := 1357) (by decide +kernel)⟩
theorem lw_p66 : lw_okq (⟨"OtherDoorModel", "doorsOf", "(I)I"⟩, 44) := ⟨⟨by decide +kernel, by decide +kernel⟩, List.mem_of_getElem? (i := 1092) (by decide +kernel), List.mem_of_getElem? (i := 1360) (by decide +kernel), List.mem_of_getElem? (i := 1361) (by decide +kernel)⟩
theorem lw_p67 : lw_okq (⟨"OtherDoorModel", "addDoor", "(III)V"⟩, 44) := ⟨⟨by decide +kernel, by decide +kernel⟩, List.mem_of_getElem? (i := 1092) (by decide +kernel), List.mem_of_getElem? (i := 1372) (by decide +kernel), List.mem_of_getElem? (i := 1373) (by decide +kernel)⟩
theorem lw_p68 : lw_okq (⟨"OtherDoorModel", "goes", "(II)I"⟩, 44) := ⟨⟨by decide +kernel, by decide +kernel⟩, List.mem_of_getElem? (i := 1092) (by decide +kernel), List.mem_of_getElem? (i := 1388) (by decide +kernel), List.mem_of_getElem? (i := 1389) (by decide +kernel)⟩
theorem lw_p69 : lw_okq (⟨"OtherDoorModel", "laysFrom", "(I)V"⟩, 44) := ⟨⟨by decide +kernel, by decide +kernel⟩, List.mem_of_getElem? (i := 1092) (by decide +kernel), List.mem_of_getElem? (i := 1396) (by decide +kernel), List.mem_of_getElem? (i := 1397) (by decide +kernel)⟩
theorem lw_p70 : lw_okq (⟨"OtherDoorModel", "begins", "()V"⟩, 44) := ⟨⟨by decide +kernel, by decide +kernel⟩, List.mem_of_getElem? (i := 1092) (by decide +kernel), List.mem_of_getElem? (i := 1400) (by decide +kernel), List.mem_of_getElem? (i := 1401) (by decide +kernel)⟩
theorem lw_p71 : lw_okq (⟨"OtherDoorModel", "finds", "(IIII)V"⟩, 44) := ⟨⟨by decide +kernel, by decide +kernel⟩, List.mem_of_getElem? (i := 1092) (by decide +kernel), List.mem_of_getElem? (i := 1404) (by decide +kernel), List.mem_of_getElem? (i := 1405) (by decide +kernel)⟩
theorem lw_p72 : lw_okq (⟨"OtherDoorModel", "spreads", "()V"⟩, 44) := ⟨⟨by decide +kernel, by decide +kernel⟩, List.mem_of_getElem? (i := 1092) (by decide +kernel), List.mem_of_getElem? (i := 1408) (by decide +kernel), List.mem_of_getElem? (i := 1409) (by decide +kernel)⟩
theorem lw_p73 : lw_okq (⟨"OtherDoorModel", "foundIn", "(I)I"⟩, 44) := ⟨⟨by decide +kernel, by decide +kernel⟩, List.mem_of_getElem? (i := 1092) (by decide +kernel), List.mem_of_getElem? (i := 1412) (by decide +kernel), List.mem_of_getElem? (i := 1413) (by decide +kernel)⟩
theorem lw_p74 : lw_okq (⟨"OtherDoorModel", "foundRooms", "()I"⟩, 44) := ⟨⟨by decide +kernel, by decide +kernel⟩, List.mem_of_getElem? (i := 1092) (by decide +kernel), List.mem_of_getElem? (i := 1424) (by decide +kernel), List.mem_of_getElem? (i := 1425) (by decide +kernel)⟩
theorem lw_p75 : lw_okq (⟨"OtherDoorModel", "pairsNow", "()I"⟩, 44) := ⟨⟨by decide +kernel, by decide +kernel⟩, List.mem_of_getElem? (i := 1092) (by decide +kernel), List.mem_of_getElem? (i := 1439) (by decide +kernel), List.mem_of_getElem? (i := 1440) (by decide +kernel)⟩
theorem lw_p76 : lw_okq (⟨"OtherDoorModel", "isTrap", "(II)Z"⟩, 44) := ⟨⟨by decide +kernel, by decide +kernel⟩, List.mem_of_getElem? (i := 1092) (by decide +kernel), List.mem_of_getElem? (i := 1450) (by decide +kernel), List.mem_of_getElem? (i := 1451) (by decide +kernel)⟩
theorem lw_p77 : lw_okq (⟨"OtherDoorModel", "isLost", "(I)Z"⟩, 44) := ⟨⟨by decide +kernel, by decide +kernel⟩, List.mem_of_getElem? (i := 1092) (by decide +kernel), List.mem_of_getElem? (i := 1454) (by decide +kernel), List.mem_of_getElem? (i := 1455) (by decide +kernel)⟩
theorem lw_p78 : lw_okq (⟨"OtherDoorModel", "isSafe", "()Z"⟩, 44) := ⟨⟨by decide +kernel, by decide +kernel⟩, List.mem_of_getElem? (i := 1092) (by decide +kernel), List.mem_of_getElem? (i := 1470) (by decide +kernel), List.mem_of_getElem? (i := 1471) (by decide +kernel)⟩
theorem lw_p79 : lw_okq (⟨"OtherDoorModel", "isRound", "(II)Z"⟩, 44) := ⟨⟨by decide +kernel, by decide +kernel⟩, List.mem_of_getElem? (i := 1092) (by decide +kernel), List.mem_of_getElem? (i := 1481) (by decide +kernel), List.mem_of_getElem? (i := 1482) (by decide +kernel)⟩
def lw_privs_5 : List (MethodName × Nat) := [(⟨"OtherDoorModel", "roomAt", "(I)I"⟩, 44), (⟨"OtherDoorModel", "isRoom", "(I)Z"⟩, 44), (⟨"OtherDoorModel", "doorsOf", "(I)I"⟩, 44), (⟨"OtherDoorModel", "addDoor", "(III)V"⟩, 44), (⟨"OtherDoorModel", "goes", "(II)I"⟩, 44), (⟨"OtherDoorModel", "laysFrom", "(I)V"⟩, 44), (⟨"OtherDoorModel", "begins", "()V"⟩, 44), (⟨"OtherDoorModel", "finds", "(IIII)V"⟩, 44), (⟨"OtherDoorModel", "spreads", "()V"⟩, 44), (⟨"OtherDoorModel", "foundIn", "(I)I"⟩, 44), (⟨"OtherDoorModel", "foundRooms", "()I"⟩, 44), (⟨"OtherDoorModel", "pairsNow", "()I"⟩, 44), (⟨"OtherDoorModel", "isTrap", "(II)Z"⟩, 44), (⟨"OtherDoorModel", "isLost", "(I)Z"⟩, 44), (⟨"OtherDoorModel", "isSafe", "()Z"⟩, 44), (⟨"OtherDoorModel", "isRound", "(II)Z"⟩, 44)]
theorem lw_r5 : ∀ q ∈ lw_privs_5, lw_okq q := List.forall_mem_cons.mpr ⟨lw_p64, List.forall_mem_cons.mpr ⟨lw_p65, List.forall_mem_cons.mpr ⟨lw_p66, List.forall_mem_cons.mpr ⟨lw_p67, List.forall_mem_cons.mpr ⟨lw_p68, List.forall_mem_cons.mpr ⟨lw_p69, List.forall_mem_cons.mpr ⟨lw_p70, List.forall_mem_cons.mpr ⟨lw_p71, List.forall_mem_cons.mpr ⟨lw_p72, List.forall_mem_cons.mpr ⟨lw_p73, List.forall_mem_cons.mpr ⟨lw_p74, List.forall_mem_cons.mpr ⟨lw_p75, List.forall_mem_cons.mpr ⟨lw_p76, List.forall_mem_cons.mpr ⟨lw_p77, List.forall_mem_cons.mpr ⟨lw_p78, List.forall_mem_cons.mpr ⟨lw_p79, fun _ h => absurd h List.not_mem_nil⟩⟩⟩⟩⟩⟩⟩⟩⟩⟩⟩⟩⟩⟩⟩⟩
theorem lw_p80 : lw_okq (⟨"OtherDoorModel", "goesRound", "(I)Z"⟩, 44) := ⟨⟨by decide +kernel, by decide +kernel⟩, List.mem_of_getElem? (i := 1092) (by decide +kernel), List.mem_of_getElem? (i := 1485) (by decide +kernel), List.mem_of_getElem? (i := 1486) (by decide +kernel)⟩
theorem lw_p81 : lw_okq (⟨"OtherDoorModel", "layOpens", "()V"⟩, 44) := ⟨⟨by decide +kernel, by decide +kernel⟩, List.mem_of_getElem? (i := 1092) (by decide +kernel), List.mem_of_getElem? (i := 1498) (by decide +kernel), List.mem_of_getElem? (i := 1499) (by decide +kernel)⟩
theorem lw_p82 : lw_okq (⟨"OtherDoorModel", "layTours", "()V"⟩, 44) := ⟨⟨by decide +kernel, by decide +kernel⟩, List.mem_of_getElem? (i := 1092) (by decide +kernel), List.mem_of_getElem? (i := 1502) (by decide +kernel), List.mem_of_getElem? (i := 1503) (by decide +kernel)⟩
theorem lw_p83 : lw_okq (⟨"OtherDoorModel", "onward", "(II)I"⟩, 44) := ⟨⟨by decide +kernel, by decide +kernel⟩, List.mem_of_getElem? (i := 1092) (by decide +kernel), List.mem_of_getElem? (i := 1506) (by decide +kernel), List.mem_of_getElem? (i := 1507) (by decide +kernel)⟩
theorem lw_p84 : lw_okq (⟨"OtherDoorModel", "beginsTwo", "()V"⟩, 44) := ⟨⟨by decide +kernel, by decide +kernel⟩, List.mem_of_getElem? (i := 1092) (by decide +kernel), List.mem_of_getElem? (i := 1515) (by decide +kernel), List.mem_of_getElem? (i := 1516) (by decide +kernel)⟩
theorem lw_p85 : lw_okq (⟨"OtherDoorModel", "findsTwo", "(II)V"⟩, 44) := ⟨⟨by decide +kernel, by decide +kernel⟩, List.mem_of_getElem? (i := 1092) (by decide +kernel), List.mem_of_getElem? (i := 1519) (by decide +kernel), List.mem_of_getElem? (i := 1520) (by decide +kernel)⟩
theorem lw_p86 : lw_okq (⟨"OtherDoorModel", "layTalk", "(II)V"⟩, 44) := ⟨⟨by decide +kernel, by decide +kernel⟩, List.mem_of_getElem? (i := 1092) (by decide +kernel), List.mem_of_getElem? (i := 1523) (by decide +kernel), List.mem_of_getElem? (i := 1524) (by decide +kernel)⟩
theorem lw_p87 : lw_okq (⟨"OtherDoorModel", "stays", "(I)I"⟩, 44) := ⟨⟨by decide +kernel, by decide +kernel⟩, List.mem_of_getElem? (i := 1092) (by decide +kernel), List.mem_of_getElem? (i := 1527) (by decide +kernel), List.mem_of_getElem? (i := 1528) (by decide +kernel)⟩
theorem lw_p88 : lw_okq (⟨"OtherDoorModel", "doneBy", "(II)I"⟩, 44) := ⟨⟨by decide +kernel, by decide +kernel⟩, List.mem_of_getElem? (i := 1092) (by decide +kernel), List.mem_of_getElem? (i := 1531) (by decide +kernel), List.mem_of_getElem? (i := 1532) (by decide +kernel)⟩
theorem lw_p89 : lw_okq (⟨"OtherDoorModel", "doing", "(II)I"⟩, 44) := ⟨⟨by decide +kernel, by decide +kernel⟩, List.mem_of_getElem? (i := 1092) (by decide +kernel), List.mem_of_getElem? (i := 1535) (by decide +kernel), List.mem_of_getElem? (i := 1536) (by decide +kernel)⟩
theorem lw_p90 : lw_okq (⟨"OtherDoorModel", "findsCup", "(IIII)V"⟩, 44) := ⟨⟨by decide +kernel, by decide +kernel⟩, List.mem_of_getElem? (i := 1092) (by decide +kernel), List.mem_of_getElem? (i := 1543) (by decide +kernel), List.mem_of_getElem? (i := 1544) (by decide +kernel)⟩
theorem lw_p91 : lw_okq (⟨"OtherDoorModel", "layMend", "()I"⟩, 44) := ⟨⟨by decide +kernel, by decide +kernel⟩, List.mem_of_getElem? (i := 1092) (by decide +kernel), List.mem_of_getElem? (i := 1560) (by decide +kernel), List.mem_of_getElem? (i := 1561) (by decide +kernel)⟩
theorem lw_p92 : lw_okq (⟨"OtherDoorModel", "mendsOne", "(Z)Z"⟩, 44) := ⟨⟨by decide +kernel, by decide +kernel⟩, List.mem_of_getElem? (i := 1092) (by decide +kernel), List.mem_of_getElem? (i := 1564) (by decide +kernel), List.mem_of_getElem? (i := 1565) (by decide +kernel)⟩
theorem lw_p93 : lw_okq (⟨"OtherDoorModel", "layWays", "(IIII)J"⟩, 44) := ⟨⟨by decide +kernel, by decide +kernel⟩, List.mem_of_getElem? (i := 1092) (by decide +kernel), List.mem_of_getElem? (i := 1586) (by decide +kernel), List.mem_of_getElem? (i := 1587) (by decide +kernel)⟩
theorem lw_p94 : lw_okq (⟨"OtherDoorModel", "addWays", "(IIII)V"⟩, 44) := ⟨⟨by decide +kernel, by decide +kernel⟩, List.mem_of_getElem? (i := 1092) (by decide +kernel), List.mem_of_getElem? (i := 1590) (by decide +kernel), List.mem_of_getElem? (i := 1591) (by decide +kernel)⟩
theorem lw_p95 : lw_okq (⟨"OtherDoorModel", "copies", "(II)V"⟩, 44) := ⟨⟨by decide +kernel, by decide +kernel⟩, List.mem_of_getElem? (i := 1092) (by decide +kernel), List.mem_of_getElem? (i := 1598) (by decide +kernel), List.mem_of_getElem? (i := 1599) (by decide +kernel)⟩
def lw_privs_6 : List (MethodName × Nat) := [(⟨"OtherDoorModel", "goesRound", "(I)Z"⟩, 44), (⟨"OtherDoorModel", "layOpens", "()V"⟩, 44), (⟨"OtherDoorModel", "layTours", "()V"⟩, 44), (⟨"OtherDoorModel", "onward", "(II)I"⟩, 44), (⟨"OtherDoorModel", "beginsTwo", "()V"⟩, 44), (⟨"OtherDoorModel", "findsTwo", "(II)V"⟩, 44), (⟨"OtherDoorModel", "layTalk", "(II)V"⟩, 44), (⟨"OtherDoorModel", "stays", "(I)I"⟩, 44), (⟨"OtherDoorModel", "doneBy", "(II)I"⟩, 44), (⟨"OtherDoorModel", "doing", "(II)I"⟩, 44), (⟨"OtherDoorModel", "findsCup", "(IIII)V"⟩, 44), (⟨"OtherDoorModel", "layMend", "()I"⟩, 44), (⟨"OtherDoorModel", "mendsOne", "(Z)Z"⟩, 44), (⟨"OtherDoorModel", "layWays", "(IIII)J"⟩, 44), (⟨"OtherDoorModel", "addWays", "(IIII)V"⟩, 44), (⟨"OtherDoorModel", "copies", "(II)V"⟩, 44)]
theorem lw_r6 : ∀ q ∈ lw_privs_6, lw_okq q := List.forall_mem_cons.mpr ⟨lw_p80, List.forall_mem_cons.mpr ⟨lw_p81, List.forall_mem_cons.mpr ⟨lw_p82, List.forall_mem_cons.mpr ⟨lw_p83, List.forall_mem_cons.mpr ⟨lw_p84, List.forall_mem_cons.mpr ⟨lw_p85, List.forall_mem_cons.mpr ⟨lw_p86, List.forall_mem_cons.mpr ⟨lw_p87, List.forall_mem_cons.mpr ⟨lw_p88, List.forall_mem_cons.mpr ⟨lw_p89, List.forall_mem_cons.mpr ⟨lw_p90, List.forall_mem_cons.mpr ⟨lw_p91, List.forall_mem_cons.mpr ⟨lw_p92, List.forall_mem_cons.mpr ⟨lw_p93, List.forall_mem_cons.mpr ⟨lw_p94, List.forall_mem_cons.mpr ⟨lw_p95, fun _ h => absurd h List.not_mem_nil⟩⟩⟩⟩⟩⟩⟩⟩⟩⟩⟩⟩⟩⟩⟩⟩
def lw_privs : List (MethodName × Nat) := lw_privs_1 ++ (lw_privs_2 ++ (lw_privs_3 ++ (lw_privs_4 ++ (lw_privs_5 ++ (lw_privs_6)))))
def lw_tbl : List Cond := k2_sels lw_privs ++ tables_1
theorem lw_privs_ok : ∀ q ∈ lw_privs, lw_okq q := by
  show ∀ q ∈ lw_privs_1 ++ (lw_privs_2 ++ (lw_privs_3 ++ (lw_privs_4 ++ (lw_privs_5 ++ (lw_privs_6))))), lw_okq q
  exact List.forall_mem_append.mpr ⟨lw_r1, List.forall_mem_append.mpr ⟨lw_r2, List.forall_mem_append.mpr ⟨lw_r3, List.forall_mem_append.mpr ⟨lw_r4, List.forall_mem_append.mpr ⟨lw_r5, lw_r6⟩⟩⟩⟩⟩
end
section
def RX0 : String := "OtherDoor$Builders"
def TX0 : u_T := fun k => match k with
  | 0 => ("OtherDoor$Builders", "entered", "[[I", true)
  | 1 => ("OtherDoor$Builders", "row", "[I", true)
  | 2 => ("OtherDoor$Builders", "best", "I", false)
  | _ => ("OtherDoor$Builders", "bestPairs", "I", false)
def tyX0 : Nat → FieldType := fun k => match k with
  | 0 => .array (.array .int)
  | 1 => .array .int
  | 2 => .int
  | _ => .int
abbrev wsX00 : List Cond := u_ws RX0 TX0 4
theorem nmX0 : ∀ a, a < 4 → ∀ b, b < 4 → a ≠ b → (TX0 a).2.1 ≠ (TX0 b).2.1 := by decide +kernel
theorem tyX0_ok : ∀ k, k < 4 → parseFieldDescriptor (TX0 k).2.2.1 = some (tyX0 k) := by decide +kernel
abbrev cX0_init : ByteArray := prog_2_method_1_code
def yX0_init : MethodName := ⟨RX0, "<init>", "()V"⟩
abbrev cX0_answer : ByteArray := prog_2_method_2_code
def yX0_answer : MethodName := ⟨RX0, "answer", "(I)I"⟩
abbrev cX0_pairsOf : ByteArray := prog_2_method_3_code
def yX0_pairsOf : MethodName := ⟨RX0, "pairsOf", "(LOtherDoor$House;)I"⟩
abbrev cX0_spreadNew : ByteArray := prog_2_method_4_code
def yX0_spreadNew : MethodName := ⟨RX0, "spreadNew", "(LOtherDoor$House;)V"⟩
abbrev cX0_enterBy : ByteArray := prog_2_method_5_code
def yX0_enterBy : MethodName := ⟨RX0, "enterBy", "(LOtherDoor$House;III)Z"⟩
abbrev cX0_comersTo : ByteArray := prog_2_method_6_code
def yX0_comersTo : MethodName := ⟨RX0, "comersTo", "(II)I"⟩
abbrev cX0_seekMore : ByteArray := prog_2_method_7_code
def yX0_seekMore : MethodName := ⟨RX0, "seekMore", "(LOtherDoor$House;)V"⟩
abbrev cX0_tryMore : ByteArray := prog_2_method_8_code
def yX0_tryMore : MethodName := ⟨RX0, "tryMore", "(LOtherDoor$House;II)V"⟩
abbrev cX0_seekWorst : ByteArray := prog_2_method_9_code
def yX0_seekWorst : MethodName := ⟨RX0, "seekWorst", "(LOtherDoor$House;)V"⟩
abbrev cX0_seekMend : ByteArray := prog_2_method_10_code
def yX0_seekMend : MethodName := ⟨RX0, "seekMend", "(LOtherDoor$House;)I"⟩
abbrev cX0_mendByTwo : ByteArray := prog_2_method_11_code
def yX0_mendByTwo : MethodName := ⟨RX0, "mendByTwo", "(LOtherDoor$House;I)Z"⟩
abbrev cX0_mendByOne : ByteArray := prog_2_method_12_code
def yX0_mendByOne : MethodName := ⟨RX0, "mendByOne", "(LOtherDoor$House;III)Z"⟩
abbrev cX0_isPair : ByteArray := prog_2_method_13_code
def yX0_isPair : MethodName := ⟨RX0, "isPair", "(LOtherDoor$House;I)Z"⟩
abbrev cX0_roomsOf : ByteArray := prog_2_method_14_code
def yX0_roomsOf : MethodName := ⟨RX0, "roomsOf", "(I)I"⟩
def RX1 : String := "OtherDoor$House"
def TX1 : u_T := fun k => match k with
  | 0 => ("OtherDoor$House", "rooms", "I", false)
  | 1 => ("OtherDoor$House", "law", "I", false)
  | 2 => ("OtherDoor$House", "size", "I", false)
  | 3 => ("OtherDoor$House", "walled", "I", false)
  | 4 => ("OtherDoor$House", "first", "[I", true)
  | 5 => ("OtherDoor$House", "second", "[I", true)
  | 6 => ("OtherDoor$House", "colour", "[I", true)
  | 7 => ("OtherDoor$House", "open", "[I", true)
  | _ => ("OtherDoor$House", "painted", "[I", true)
def tyX1 : Nat → FieldType := fun k => match k with
  | 0 => .int
  | 1 => .int
  | 2 => .int
  | 3 => .int
  | 4 => .array .int
  | 5 => .array .int
  | 6 => .array .int
  | 7 => .array .int
  | _ => .array .int
abbrev wsX10 : List Cond := u_ws RX1 TX1 9
theorem nmX1 : ∀ a, a < 9 → ∀ b, b < 9 → a ≠ b → (TX1 a).2.1 ≠ (TX1 b).2.1 := by decide +kernel
theorem tyX1_ok : ∀ k, k < 9 → parseFieldDescriptor (TX1 k).2.2.1 = some (tyX1 k) := by decide +kernel
abbrev cX1_init : ByteArray := prog_3_method_1_code
def yX1_init : MethodName := ⟨RX1, "<init>", "()V"⟩
abbrev cX1_clear : ByteArray := prog_3_method_2_code
def yX1_clear : MethodName := ⟨RX1, "clear", "()V"⟩
abbrev cX1_take : ByteArray := prog_3_method_3_code
def yX1_take : MethodName := ⟨RX1, "take", "(LOtherDoor$House;)V"⟩
abbrev cX1_hasRoom : ByteArray := prog_3_method_4_code
def yX1_hasRoom : MethodName := ⟨RX1, "hasRoom", "(I)Z"⟩
abbrev cX1_hasDoor : ByteArray := prog_3_method_5_code
def yX1_hasDoor : MethodName := ⟨RX1, "hasDoor", "(I)Z"⟩
abbrev cX1_isWalled : ByteArray := prog_3_method_6_code
def yX1_isWalled : MethodName := ⟨RX1, "isWalled", "(I)Z"⟩
abbrev cX1_isOf : ByteArray := prog_3_method_7_code
def yX1_isOf : MethodName := ⟨RX1, "isOf", "(II)Z"⟩
abbrev cX1_beyond : ByteArray := prog_3_method_8_code
def yX1_beyond : MethodName := ⟨RX1, "beyond", "(II)I"⟩
abbrev cX1_sideBeyond : ByteArray := prog_3_method_9_code
def yX1_sideBeyond : MethodName := ⟨RX1, "sideBeyond", "(II)I"⟩
abbrev cX1_sideAt : ByteArray := prog_3_method_10_code
def yX1_sideAt : MethodName := ⟨RX1, "sideAt", "(II)I"⟩
abbrev cX1_roomOfSide : ByteArray := prog_3_method_11_code
def yX1_roomOfSide : MethodName := ⟨RX1, "roomOfSide", "(I)I"⟩
abbrev cX1_openDoors : ByteArray := prog_3_method_12_code
def yX1_openDoors : MethodName := ⟨RX1, "openDoors", "()I"⟩
abbrev cX1_add : ByteArray := prog_3_method_13_code
def yX1_add : MethodName := ⟨RX1, "add", "(III)Z"⟩
abbrev cX1_dropLatest : ByteArray := prog_3_method_14_code
def yX1_dropLatest : MethodName := ⟨RX1, "dropLatest", "()V"⟩
abbrev cX1_setWalled : ByteArray := prog_3_method_15_code
def yX1_setWalled : MethodName := ⟨RX1, "setWalled", "(IZ)V"⟩
abbrev cX1_choices : ByteArray := prog_3_method_16_code
def yX1_choices : MethodName := ⟨RX1, "choices", "(III)I"⟩
abbrev cX1_isForLife : ByteArray := prog_3_method_17_code
def yX1_isForLife : MethodName := ⟨RX1, "isForLife", "(I)Z"⟩
abbrev cX1_losing : ByteArray := prog_3_method_18_code
def yX1_losing : MethodName := ⟨RX1, "losing", "()I"⟩
abbrev cX1_losesBySecond : ByteArray := prog_3_method_19_code
def yX1_losesBySecond : MethodName := ⟨RX1, "losesBySecond", "(I)Z"⟩
abbrev cX1_losesBehind : ByteArray := prog_3_method_20_code
def yX1_losesBehind : MethodName := ⟨RX1, "losesBehind", "(II)Z"⟩
def RX2 : String := "OtherDoor$Palace"
def TX2 : u_T := fun k => match k with
  | 0 => ("OtherDoor$Palace", "house", "LOtherDoor$House;", true)
  | 1 => ("OtherDoor$Palace", "ones", "[LOtherDoor$Walker;", true)
  | 2 => ("OtherDoor$Palace", "people", "I", false)
  | 3 => ("OtherDoor$Palace", "told", "[I", true)
  | _ => ("OtherDoor$Palace", "toldSize", "I", false)
def tyX2 : Nat → FieldType := fun k => match k with
  | 0 => .object "OtherDoor$House"
  | 1 => .array (.object "OtherDoor$Walker")
  | 2 => .int
  | 3 => .array .int
  | _ => .int
abbrev wsX20 : List Cond := u_ws RX2 TX2 5
theorem nmX2 : ∀ a, a < 5 → ∀ b, b < 5 → a ≠ b → (TX2 a).2.1 ≠ (TX2 b).2.1 := by decide +kernel
theorem tyX2_ok : ∀ k, k < 5 → parseFieldDescriptor (TX2 k).2.2.1 = some (tyX2 k) := by decide +kernel
abbrev cX2_init : ByteArray := prog_4_method_1_code
def yX2_init : MethodName := ⟨RX2, "<init>", "()V"⟩
abbrev cX2_clear : ByteArray := prog_4_method_2_code
def yX2_clear : MethodName := ⟨RX2, "clear", "()V"⟩
abbrev cX2_take : ByteArray := prog_4_method_3_code
def yX2_take : MethodName := ⟨RX2, "take", "(LOtherDoor$Palace;)V"⟩
abbrev cX2_hasOne : ByteArray := prog_4_method_4_code
def yX2_hasOne : MethodName := ⟨RX2, "hasOne", "(I)Z"⟩
abbrev cX2_lost : ByteArray := prog_4_method_5_code
def yX2_lost : MethodName := ⟨RX2, "lost", "()I"⟩
def RX3 : String := "OtherDoor$Rounds"
def TX3 : u_T := fun k => match k with
  | 0 => ("OtherDoor$Rounds", "order", "[I", true)
  | 1 => ("OtherDoor$Rounds", "met", "[I", true)
  | 2 => ("OtherDoor$Rounds", "fresh", "[[I", true)
  | 3 => ("OtherDoor$Rounds", "spots", "[[I", true)
  | 4 => ("OtherDoor$Rounds", "sizes", "[I", true)
  | 5 => ("OtherDoor$Rounds", "home", "I", false)
  | _ => ("OtherDoor$Rounds", "all", "I", false)
def tyX3 : Nat → FieldType := fun k => match k with
  | 0 => .array .int
  | 1 => .array .int
  | 2 => .array (.array .int)
  | 3 => .array (.array .int)
  | 4 => .array .int
  | 5 => .int
  | _ => .int
abbrev wsX30 : List Cond := u_ws RX3 TX3 7
theorem nmX3 : ∀ a, a < 7 → ∀ b, b < 7 → a ≠ b → (TX3 a).2.1 ≠ (TX3 b).2.1 := by decide +kernel
theorem tyX3_ok : ∀ k, k < 7 → parseFieldDescriptor (TX3 k).2.2.1 = some (tyX3 k) := by decide +kernel
abbrev cX3_init : ByteArray := prog_5_method_1_code
def yX3_init : MethodName := ⟨RX3, "<init>", "()V"⟩
abbrev cX3_least : ByteArray := prog_5_method_2_code
def yX3_least : MethodName := ⟨RX3, "least", "(LOtherDoor$House;LOtherDoor$Walker;I)I"⟩
abbrev cX3_begin : ByteArray := prog_5_method_3_code
def yX3_begin : MethodName := ⟨RX3, "begin", "(II)V"⟩
abbrev cX3_put : ByteArray := prog_5_method_4_code
def yX3_put : MethodName := ⟨RX3, "put", "(III)V"⟩
abbrev cX3_spreadLevel : ByteArray := prog_5_method_5_code
def yX3_spreadLevel : MethodName := ⟨RX3, "spreadLevel", "(LOtherDoor$House;I)Z"⟩
abbrev cX3_spread : ByteArray := prog_5_method_6_code
def yX3_spread : MethodName := ⟨RX3, "spread", "(LOtherDoor$House;III)Z"⟩
abbrev cX3_withRoom : ByteArray := prog_5_method_7_code
def yX3_withRoom : MethodName := ⟨RX3, "withRoom", "(II)I"⟩
def RX4 : String := "OtherDoor$Sheet"
def TX4 : u_T := fun k => match k with
  | 0 => ("OtherDoor$Sheet", "cells", "[I", true)
  | 1 => ("OtherDoor$Sheet", "lane", "I", false)
  | _ => ("OtherDoor$Sheet", "size", "I", false)
def tyX4 : Nat → FieldType := fun k => match k with
  | 0 => .array .int
  | 1 => .int
  | _ => .int
abbrev wsX40 : List Cond := u_ws RX4 TX4 3
theorem nmX4 : ∀ a, a < 3 → ∀ b, b < 3 → a ≠ b → (TX4 a).2.1 ≠ (TX4 b).2.1 := by decide +kernel
theorem tyX4_ok : ∀ k, k < 3 → parseFieldDescriptor (TX4 k).2.2.1 = some (tyX4 k) := by decide +kernel
abbrev cX4_init : ByteArray := prog_6_method_1_code
def yX4_init : MethodName := ⟨RX4, "<init>", "()V"⟩
abbrev cX4_renew : ByteArray := prog_6_method_2_code
def yX4_renew : MethodName := ⟨RX4, "renew", "(II)V"⟩
abbrev cX4_faultAt : ByteArray := prog_6_method_3_code
def yX4_faultAt : MethodName := ⟨RX4, "faultAt", "(II)I"⟩
abbrev cX4_put : ByteArray := prog_6_method_4_code
def yX4_put : MethodName := ⟨RX4, "put", "(II)V"⟩
def RX5 : String := "OtherDoor$Tape"
def TX5 : u_T := fun k => match k with
  | 0 => ("OtherDoor$Tape", "bytes", "[B", true)
  | 1 => ("OtherDoor$Tape", "draft", "LOtherDoor$Palace;", true)
  | 2 => ("OtherDoor$Tape", "length", "I", false)
  | 3 => ("OtherDoor$Tape", "lines", "I", false)
  | 4 => ("OtherDoor$Tape", "fault", "I", false)
  | 5 => ("OtherDoor$Tape", "faultPlace", "I", false)
  | 6 => ("OtherDoor$Tape", "place", "I", false)
  | 7 => ("OtherDoor$Tape", "start", "I", false)
  | 8 => ("OtherDoor$Tape", "kind", "I", false)
  | 9 => ("OtherDoor$Tape", "number", "I", false)
  | 10 => ("OtherDoor$Tape", "hasRooms", "Z", false)
  | 11 => ("OtherDoor$Tape", "hasLaw", "Z", false)
  | _ => ("OtherDoor$Tape", "walls", "I", false)
def tyX5 : Nat → FieldType := fun k => match k with
  | 0 => .array .byte
  | 1 => .object "OtherDoor$Palace"
  | 2 => .int
  | 3 => .int
  | 4 => .int
  | 5 => .int
  | 6 => .int
  | 7 => .int
  | 8 => .int
  | 9 => .int
  | 10 => .boolean
  | 11 => .boolean
  | _ => .int
abbrev wsX50 : List Cond := u_ws RX5 TX5 13
theorem nmX5 : ∀ a, a < 13 → ∀ b, b < 13 → a ≠ b → (TX5 a).2.1 ≠ (TX5 b).2.1 := by decide +kernel
theorem tyX5_ok : ∀ k, k < 13 → parseFieldDescriptor (TX5 k).2.2.1 = some (tyX5 k) := by decide +kernel
abbrev cX5_init : ByteArray := prog_7_method_1_code
def yX5_init : MethodName := ⟨RX5, "<init>", "()V"⟩
abbrev cX5_append : ByteArray := prog_7_method_2_code
def yX5_append : MethodName := ⟨RX5, "append", "(J)Z"⟩
abbrev cX5_understand : ByteArray := prog_7_method_3_code
def yX5_understand : MethodName := ⟨RX5, "understand", "()Z"⟩
abbrev cX5_refuse : ByteArray := prog_7_method_4_code
def yX5_refuse : MethodName := ⟨RX5, "refuse", "(II)Z"⟩
abbrev cX5_nextToken : ByteArray := prog_7_method_5_code
def yX5_nextToken : MethodName := ⟨RX5, "nextToken", "()V"⟩
abbrev cX5_behind : ByteArray := prog_7_method_6_code
def yX5_behind : MethodName := ⟨RX5, "behind", "(CC)I"⟩
abbrev cX5_takeFigures : ByteArray := prog_7_method_7_code
def yX5_takeFigures : MethodName := ⟨RX5, "takeFigures", "()V"⟩
abbrev cX5_isWord : ByteArray := prog_7_method_8_code
def yX5_isWord : MethodName := ⟨RX5, "isWord", "(Ljava/lang/String;)Z"⟩
abbrev cX5_takeLine : ByteArray := prog_7_method_9_code
def yX5_takeLine : MethodName := ⟨RX5, "takeLine", "()Z"⟩
abbrev cX5_takeNumber : ByteArray := prog_7_method_10_code
def yX5_takeNumber : MethodName := ⟨RX5, "takeNumber", "(II)Z"⟩
abbrev cX5_takeSign : ByteArray := prog_7_method_11_code
def yX5_takeSign : MethodName := ⟨RX5, "takeSign", "()Z"⟩
abbrev cX5_isSign : ByteArray := prog_7_method_12_code
def yX5_isSign : MethodName := ⟨RX5, "isSign", "()Z"⟩
abbrev cX5_takeRooms : ByteArray := prog_7_method_13_code
def yX5_takeRooms : MethodName := ⟨RX5, "takeRooms", "()Z"⟩
abbrev cX5_takeLaw : ByteArray := prog_7_method_14_code
def yX5_takeLaw : MethodName := ⟨RX5, "takeLaw", "()Z"⟩
abbrev cX5_takeDoor : ByteArray := prog_7_method_15_code
def yX5_takeDoor : MethodName := ⟨RX5, "takeDoor", "()Z"⟩
abbrev cX5_colourTold : ByteArray := prog_7_method_16_code
def yX5_colourTold : MethodName := ⟨RX5, "colourTold", "()I"⟩
abbrev cX5_takeOne : ByteArray := prog_7_method_17_code
def yX5_takeOne : MethodName := ⟨RX5, "takeOne", "()Z"⟩
abbrev cX5_takeWalled : ByteArray := prog_7_method_18_code
def yX5_takeWalled : MethodName := ⟨RX5, "takeWalled", "()Z"⟩
abbrev cX5_closeText : ByteArray := prog_7_method_19_code
def yX5_closeText : MethodName := ⟨RX5, "closeText", "()Z"⟩
def RX6 : String := "OtherDoor$Tours"
def TX6 : u_T := fun k => match k with
  | 0 => ("OtherDoor$Tours", "doors", "[I", true)
  | 1 => ("OtherDoor$Tours", "rest", "[I", true)
  | 2 => ("OtherDoor$Tours", "size", "I", false)
  | _ => ("OtherDoor$Tours", "start", "I", false)
def tyX6 : Nat → FieldType := fun k => match k with
  | 0 => .array .int
  | 1 => .array .int
  | 2 => .int
  | _ => .int
abbrev wsX60 : List Cond := u_ws RX6 TX6 4
theorem nmX6 : ∀ a, a < 4 → ∀ b, b < 4 → a ≠ b → (TX6 a).2.1 ≠ (TX6 b).2.1 := by decide +kernel
theorem tyX6_ok : ∀ k, k < 4 → parseFieldDescriptor (TX6 k).2.2.1 = some (tyX6 k) := by decide +kernel
abbrev cX6_init : ByteArray := prog_8_method_1_code
def yX6_init : MethodName := ⟨RX6, "<init>", "()V"⟩
abbrev cX6_prepare : ByteArray := prog_8_method_2_code
def yX6_prepare : MethodName := ⟨RX6, "prepare", "(LOtherDoor$House;I)V"⟩
abbrev cX6_all : ByteArray := prog_8_method_3_code
def yX6_all : MethodName := ⟨RX6, "all", "()I"⟩
abbrev cX6_stepOf : ByteArray := prog_8_method_4_code
def yX6_stepOf : MethodName := ⟨RX6, "stepOf", "(LOtherDoor$House;I)I"⟩
abbrev cX6_fill : ByteArray := prog_8_method_5_code
def yX6_fill : MethodName := ⟨RX6, "fill", "(LOtherDoor$House;I)V"⟩
abbrev cX6_through : ByteArray := prog_8_method_6_code
def yX6_through : MethodName := ⟨RX6, "through", "(LOtherDoor$House;IIII)I"⟩
abbrev cX6_roomBehind : ByteArray := prog_8_method_7_code
def yX6_roomBehind : MethodName := ⟨RX6, "roomBehind", "(LOtherDoor$House;I)I"⟩
def RX7 : String := "OtherDoor$Trails"
def TX7 : u_T := fun k => match k with
  | 0 => ("OtherDoor$Trails", "first", "[I", true)
  | 1 => ("OtherDoor$Trails", "trail", "[I", true)
  | 2 => ("OtherDoor$Trails", "found", "I", false)
  | 3 => ("OtherDoor$Trails", "ends", "I", false)
  | 4 => ("OtherDoor$Trails", "some", "I", false)
  | _ => ("OtherDoor$Trails", "steps", "I", false)
def tyX7 : Nat → FieldType := fun k => match k with
  | 0 => .array .int
  | 1 => .array .int
  | 2 => .int
  | 3 => .int
  | 4 => .int
  | _ => .int
abbrev wsX70 : List Cond := u_ws RX7 TX7 6
theorem nmX7 : ∀ a, a < 6 → ∀ b, b < 6 → a ≠ b → (TX7 a).2.1 ≠ (TX7 b).2.1 := by decide +kernel
theorem tyX7_ok : ∀ k, k < 6 → parseFieldDescriptor (TX7 k).2.2.1 = some (tyX7 k) := by decide +kernel
abbrev cX7_init : ByteArray := prog_9_method_1_code
def yX7_init : MethodName := ⟨RX7, "<init>", "()V"⟩
abbrev cX7_seek : ByteArray := prog_9_method_2_code
def yX7_seek : MethodName := ⟨RX7, "seek", "(LOtherDoor$House;III)V"⟩
abbrev cX7_follow : ByteArray := prog_9_method_3_code
def yX7_follow : MethodName := ⟨RX7, "follow", "(LOtherDoor$House;IIIII)V"⟩
abbrev cX7_branch : ByteArray := prog_9_method_4_code
def yX7_branch : MethodName := ⟨RX7, "branch", "(LOtherDoor$House;IIIII)V"⟩
abbrev cX7_note : ByteArray := prog_9_method_5_code
def yX7_note : MethodName := ⟨RX7, "note", "(I)V"⟩
def RX8 : String := "OtherDoor$Two"
def TX8 : u_T := fun k => match k with
  | 0 => ("OtherDoor$Two", "roomOf", "[I", true)
  | 1 => ("OtherDoor$Two", "next", "[I", true)
  | 2 => ("OtherDoor$Two", "inRoom", "[I", true)
  | 3 => ("OtherDoor$Two", "met", "[[I", true)
  | 4 => ("OtherDoor$Two", "fresh", "[[I", true)
  | 5 => ("OtherDoor$Two", "coming", "[[I", true)
  | 6 => ("OtherDoor$Two", "firstSpot", "I", false)
  | 7 => ("OtherDoor$Two", "secondSpot", "I", false)
  | _ => ("OtherDoor$Two", "anyComing", "Z", false)
def tyX8 : Nat → FieldType := fun k => match k with
  | 0 => .array .int
  | 1 => .array .int
  | 2 => .array .int
  | 3 => .array (.array .int)
  | 4 => .array (.array .int)
  | 5 => .array (.array .int)
  | 6 => .int
  | 7 => .int
  | _ => .boolean
abbrev wsX80 : List Cond := u_ws RX8 TX8 9
theorem nmX8 : ∀ a, a < 9 → ∀ b, b < 9 → a ≠ b → (TX8 a).2.1 ≠ (TX8 b).2.1 := by decide +kernel
theorem tyX8_ok : ∀ k, k < 9 → parseFieldDescriptor (TX8 k).2.2.1 = some (tyX8 k) := by decide +kernel
abbrev cX8_init : ByteArray := prog_10_method_1_code
def yX8_init : MethodName := ⟨RX8, "<init>", "()V"⟩
abbrev cX8_prepare : ByteArray := prog_10_method_2_code
def yX8_prepare : MethodName := ⟨RX8, "prepare", "(LOtherDoor$House;LOtherDoor$Walker;LOtherDoor$Walker;)V"⟩
abbrev cX8_addSpot : ByteArray := prog_10_method_3_code
def yX8_addSpot : MethodName := ⟨RX8, "addSpot", "(LOtherDoor$House;III)V"⟩
abbrev cX8_together : ByteArray := prog_10_method_4_code
def yX8_together : MethodName := ⟨RX8, "together", "()Z"⟩
abbrev cX8_untilTalked : ByteArray := prog_10_method_5_code
def yX8_untilTalked : MethodName := ⟨RX8, "untilTalked", "(I)I"⟩
abbrev cX8_talkMinute : ByteArray := prog_10_method_6_code
def yX8_talkMinute : MethodName := ⟨RX8, "talkMinute", "(I)Z"⟩
abbrev cX8_talkStep : ByteArray := prog_10_method_7_code
def yX8_talkStep : MethodName := ⟨RX8, "talkStep", "(III)Z"⟩
abbrev cX8_untilCupIn : ByteArray := prog_10_method_8_code
def yX8_untilCupIn : MethodName := ⟨RX8, "untilCupIn", "(I)I"⟩
abbrev cX8_cupMinute : ByteArray := prog_10_method_9_code
def yX8_cupMinute : MethodName := ⟨RX8, "cupMinute", "(I)Z"⟩
abbrev cX8_cupStep : ByteArray := prog_10_method_10_code
def yX8_cupStep : MethodName := ⟨RX8, "cupStep", "(III)Z"⟩
abbrev cX8_nextOf : ByteArray := prog_10_method_11_code
def yX8_nextOf : MethodName := ⟨RX8, "nextOf", "(I)I"⟩
abbrev cX8_put : ByteArray := prog_10_method_12_code
def yX8_put : MethodName := ⟨RX8, "put", "(III)V"⟩
abbrev cX8_turnMinute : ByteArray := prog_10_method_13_code
def yX8_turnMinute : MethodName := ⟨RX8, "turnMinute", "()V"⟩
def RX9 : String := "OtherDoor$Walker"
def TX9 : u_T := fun k => match k with
  | 0 => ("OtherDoor$Walker", "room", "I", false)
  | 1 => ("OtherDoor$Walker", "last", "I", false)
  | _ => ("OtherDoor$Walker", "ahead", "I", false)
def tyX9 : Nat → FieldType := fun k => match k with
  | 0 => .int
  | 1 => .int
  | _ => .int
abbrev wsX90 : List Cond := u_ws RX9 TX9 3
theorem nmX9 : ∀ a, a < 3 → ∀ b, b < 3 → a ≠ b → (TX9 a).2.1 ≠ (TX9 b).2.1 := by decide +kernel
theorem tyX9_ok : ∀ k, k < 3 → parseFieldDescriptor (TX9 k).2.2.1 = some (tyX9 k) := by decide +kernel
abbrev cX9_init : ByteArray := prog_11_method_1_code
def yX9_init : MethodName := ⟨RX9, "<init>", "()V"⟩
abbrev cX9_standNew : ByteArray := prog_11_method_2_code
def yX9_standNew : MethodName := ⟨RX9, "standNew", "(I)V"⟩
abbrev cX9_take : ByteArray := prog_11_method_3_code
def yX9_take : MethodName := ⟨RX9, "take", "(LOtherDoor$Walker;)V"⟩
abbrev cX9_choices : ByteArray := prog_11_method_4_code
def yX9_choices : MethodName := ⟨RX9, "choices", "(LOtherDoor$House;)I"⟩
abbrev cX9_step : ByteArray := prog_11_method_5_code
def yX9_step : MethodName := ⟨RX9, "step", "(LOtherDoor$House;I)Z"⟩
def RX10 : String := "OtherDoor$Ways"
def TX10 : u_T := fun k => match k with
  | 0 => ("OtherDoor$Ways", "room", "[I", true)
  | 1 => ("OtherDoor$Ways", "last", "[I", true)
  | 2 => ("OtherDoor$Ways", "ahead", "[I", true)
  | 3 => ("OtherDoor$Ways", "from", "[I", true)
  | 4 => ("OtherDoor$Ways", "length", "[I", true)
  | 5 => ("OtherDoor$Ways", "met", "[I", true)
  | 6 => ("OtherDoor$Ways", "size", "I", false)
  | _ => ("OtherDoor$Ways", "goal", "I", false)
def tyX10 : Nat → FieldType := fun k => match k with
  | 0 => .array .int
  | 1 => .array .int
  | 2 => .array .int
  | 3 => .array .int
  | 4 => .array .int
  | 5 => .array .int
  | 6 => .int
  | _ => .int
abbrev wsX100 : List Cond := u_ws RX10 TX10 8
theorem nmX10 : ∀ a, a < 8 → ∀ b, b < 8 → a ≠ b → (TX10 a).2.1 ≠ (TX10 b).2.1 := by decide +kernel
theorem tyX10_ok : ∀ k, k < 8 → parseFieldDescriptor (TX10 k).2.2.1 = some (tyX10 k) := by decide +kernel
abbrev cX10_init : ByteArray := prog_12_method_1_code
def yX10_init : MethodName := ⟨RX10, "<init>", "()V"⟩
abbrev cX10_leastTo : ByteArray := prog_12_method_2_code
def yX10_leastTo : MethodName := ⟨RX10, "leastTo", "(LOtherDoor$House;LOtherDoor$Walker;I)I"⟩
abbrev cX10_stepOf : ByteArray := prog_12_method_3_code
def yX10_stepOf : MethodName := ⟨RX10, "stepOf", "(I)I"⟩
abbrev cX10_roomsOf : ByteArray := prog_12_method_4_code
def yX10_roomsOf : MethodName := ⟨RX10, "roomsOf", "(LOtherDoor$House;LOtherDoor$Walker;)I"⟩
abbrev cX10_begin : ByteArray := prog_12_method_5_code
def yX10_begin : MethodName := ⟨RX10, "begin", "(LOtherDoor$House;LOtherDoor$Walker;)V"⟩
abbrev cX10_spread : ByteArray := prog_12_method_6_code
def yX10_spread : MethodName := ⟨RX10, "spread", "(LOtherDoor$House;I)V"⟩
def RX11 : String := "OtherDoor"
def TX11 : u_T := fun k => match k with
  | 0 => ("OtherDoor", "now", "LOtherDoor$Palace;", true)
  | 1 => ("OtherDoor", "images", "[LOtherDoor$Palace;", true)
  | 2 => ("OtherDoor", "sheets", "[LOtherDoor$Sheet;", true)
  | 3 => ("OtherDoor", "tape", "LOtherDoor$Tape;", true)
  | 4 => ("OtherDoor", "scratch", "LOtherDoor$Walker;", true)
  | 5 => ("OtherDoor", "ways", "LOtherDoor$Ways;", true)
  | 6 => ("OtherDoor", "rounds", "LOtherDoor$Rounds;", true)
  | 7 => ("OtherDoor", "tours", "LOtherDoor$Tours;", true)
  | 8 => ("OtherDoor", "two", "LOtherDoor$Two;", true)
  | 9 => ("OtherDoor", "builders", "LOtherDoor$Builders;", true)
  | 10 => ("OtherDoor", "trails", "LOtherDoor$Trails;", true)
  | 11 => ("OtherDoor", "kept", "I", false)
  | _ => ("OtherDoor", "lastTorn", "I", false)
def tyX11 : Nat → FieldType := fun k => match k with
  | 0 => .object "OtherDoor$Palace"
  | 1 => .array (.object "OtherDoor$Palace")
  | 2 => .array (.object "OtherDoor$Sheet")
  | 3 => .object "OtherDoor$Tape"
  | 4 => .object "OtherDoor$Walker"
  | 5 => .object "OtherDoor$Ways"
  | 6 => .object "OtherDoor$Rounds"
  | 7 => .object "OtherDoor$Tours"
  | 8 => .object "OtherDoor$Two"
  | 9 => .object "OtherDoor$Builders"
  | 10 => .object "OtherDoor$Trails"
  | 11 => .int
  | _ => .int
abbrev wsX110 : List Cond := u_ws RX11 TX11 13
theorem nmX11 : ∀ a, a < 13 → ∀ b, b < 13 → a ≠ b → (TX11 a).2.1 ≠ (TX11 b).2.1 := by decide +kernel
theorem tyX11_ok : ∀ k, k < 13 → parseFieldDescriptor (TX11 k).2.2.1 = some (tyX11 k) := by decide +kernel
abbrev cX11_init : ByteArray := prog_1_method_1_code
def yX11_init : MethodName := ⟨RX11, "<init>", "()V"⟩
abbrev cX11_feed : ByteArray := prog_1_method_2_code
def yX11_feed : MethodName := ⟨RX11, "feed", "(J)I"⟩
abbrev cX11_end : ByteArray := prog_1_method_3_code
def yX11_end : MethodName := ⟨RX11, "end", "(I)I"⟩
abbrev cX11_palace : ByteArray := prog_1_method_4_code
def yX11_palace : MethodName := ⟨RX11, "palace", "()I"⟩
abbrev cX11_fault : ByteArray := prog_1_method_5_code
def yX11_fault : MethodName := ⟨RX11, "fault", "()I"⟩
abbrev cX11_rule : ByteArray := prog_1_method_6_code
def yX11_rule : MethodName := ⟨RX11, "rule", "(I)I"⟩
abbrev cX11_door : ByteArray := prog_1_method_7_code
def yX11_door : MethodName := ⟨RX11, "door", "(II)I"⟩
abbrev cX11_one : ByteArray := prog_1_method_8_code
def yX11_one : MethodName := ⟨RX11, "one", "(II)I"⟩
abbrev cX11_orNone : ByteArray := prog_1_method_9_code
def yX11_orNone : MethodName := ⟨RX11, "orNone", "(I)I"⟩
abbrev cX11_doors : ByteArray := prog_1_method_10_code
def yX11_doors : MethodName := ⟨RX11, "doors", "(I)I"⟩
abbrev cX11_law : ByteArray := prog_1_method_11_code
def yX11_law : MethodName := ⟨RX11, "law", "(I)I"⟩
abbrev cX11_build : ByteArray := prog_1_method_12_code
def yX11_build : MethodName := ⟨RX11, "build", "(III)I"⟩
abbrev cX11_wall : ByteArray := prog_1_method_13_code
def yX11_wall : MethodName := ⟨RX11, "wall", "(IZ)I"⟩
abbrev cX11_stand : ByteArray := prog_1_method_14_code
def yX11_stand : MethodName := ⟨RX11, "stand", "(II)I"⟩
abbrev cX11_go : ByteArray := prog_1_method_15_code
def yX11_go : MethodName := ⟨RX11, "go", "(II)I"⟩
abbrev cX11_far : ByteArray := prog_1_method_16_code
def yX11_far : MethodName := ⟨RX11, "far", "(II)I"⟩
abbrev cX11_way : ByteArray := prog_1_method_17_code
def yX11_way : MethodName := ⟨RX11, "way", "(III)I"⟩
abbrev cX11_can : ByteArray := prog_1_method_18_code
def yX11_can : MethodName := ⟨RX11, "can", "(I)I"⟩
abbrev cX11_path : ByteArray := prog_1_method_19_code
def yX11_path : MethodName := ⟨RX11, "path", "(II)I"⟩
abbrev cX11_pairs : ByteArray := prog_1_method_20_code
def yX11_pairs : MethodName := ⟨RX11, "pairs", "()I"⟩
abbrev cX11_life : ByteArray := prog_1_method_21_code
def yX11_life : MethodName := ⟨RX11, "life", "()I"⟩
abbrev cX11_trap : ByteArray := prog_1_method_22_code
def yX11_trap : MethodName := ⟨RX11, "trap", "(II)I"⟩
abbrev cX11_secret : ByteArray := prog_1_method_23_code
def yX11_secret : MethodName := ⟨RX11, "secret", "()I"⟩
abbrev cX11_safe : ByteArray := prog_1_method_24_code
def yX11_safe : MethodName := ⟨RX11, "safe", "()I"⟩
abbrev cX11_round : ByteArray := prog_1_method_25_code
def yX11_round : MethodName := ⟨RX11, "round", "(II)I"⟩
abbrev cX11_tour : ByteArray := prog_1_method_26_code
def yX11_tour : MethodName := ⟨RX11, "tour", "(II)I"⟩
abbrev cX11_talk : ByteArray := prog_1_method_27_code
def yX11_talk : MethodName := ⟨RX11, "talk", "(III)I"⟩
abbrev cX11_cup : ByteArray := prog_1_method_28_code
def yX11_cup : MethodName := ⟨RX11, "cup", "(III)I"⟩
abbrev cX11_more : ByteArray := prog_1_method_29_code
def yX11_more : MethodName := ⟨RX11, "more", "(I)I"⟩
abbrev cX11_worst : ByteArray := prog_1_method_30_code
def yX11_worst : MethodName := ⟨RX11, "worst", "(I)I"⟩
abbrev cX11_mend : ByteArray := prog_1_method_31_code
def yX11_mend : MethodName := ⟨RX11, "mend", "(I)I"⟩
abbrev cX11_tell : ByteArray := prog_1_method_32_code
def yX11_tell : MethodName := ⟨RX11, "tell", "(I)I"⟩
abbrev cX11_forget : ByteArray := prog_1_method_33_code
def yX11_forget : MethodName := ⟨RX11, "forget", "()I"⟩
abbrev cX11_judge : ByteArray := prog_1_method_34_code
def yX11_judge : MethodName := ⟨RX11, "judge", "(I)I"⟩
abbrev cX11_ajar : ByteArray := prog_1_method_35_code
def yX11_ajar : MethodName := ⟨RX11, "ajar", "(IIII)I"⟩
abbrev cX11_keep : ByteArray := prog_1_method_36_code
def yX11_keep : MethodName := ⟨RX11, "keep", "(I)I"⟩
abbrev cX11_back : ByteArray := prog_1_method_37_code
def yX11_back : MethodName := ⟨RX11, "back", "(I)I"⟩
abbrev cX11_sheet : ByteArray := prog_1_method_38_code
def yX11_sheet : MethodName := ⟨RX11, "sheet", "(III)I"⟩
abbrev cX11_isSheet : ByteArray := prog_1_method_39_code
def yX11_isSheet : MethodName := ⟨RX11, "isSheet", "(I)Z"⟩
abbrev cX11_isLane : ByteArray := prog_1_method_40_code
def yX11_isLane : MethodName := ⟨RX11, "isLane", "(I)Z"⟩
abbrev cX11_lay : ByteArray := prog_1_method_41_code
def yX11_lay : MethodName := ⟨RX11, "lay", "(III)I"⟩
abbrev cX11_read : ByteArray := prog_1_method_42_code
def yX11_read : MethodName := ⟨RX11, "read", "(IIIII)I"⟩
abbrev cX11_torn : ByteArray := prog_1_method_43_code
def yX11_torn : MethodName := ⟨RX11, "torn", "()I"⟩
abbrev cX11_count : ByteArray := prog_1_method_44_code
def yX11_count : MethodName := ⟨RX11, "count", "(I)I"⟩
def RX12 : String := "OtherDoorModel"
def TX12 : u_T := fun k => match k with
  | 0 => ("OtherDoorModel", "state", "[I", true)
  | 1 => ("OtherDoorModel", "rooms", "I", false)
  | 2 => ("OtherDoorModel", "readPage", "[I", true)
  | 3 => ("OtherDoorModel", "readRooms", "I", false)
  | 4 => ("OtherDoorModel", "hasRooms", "Z", false)
  | 5 => ("OtherDoorModel", "hasLaw", "Z", false)
  | 6 => ("OtherDoorModel", "toldWalls", "I", false)
  | 7 => ("OtherDoorModel", "highRoom", "I", false)
  | 8 => ("OtherDoorModel", "highDoor", "I", false)
  | 9 => ("OtherDoorModel", "tape", "[I", true)
  | 10 => ("OtherDoorModel", "taped", "I", false)
  | 11 => ("OtherDoorModel", "fault", "I", false)
  | 12 => ("OtherDoorModel", "broken", "I", false)
  | 13 => ("OtherDoorModel", "brokenAt", "I", false)
  | 14 => ("OtherDoorModel", "spot", "I", false)
  | 15 => ("OtherDoorModel", "here", "I", false)
  | 16 => ("OtherDoorModel", "token", "I", false)
  | 17 => ("OtherDoorModel", "value", "I", false)
  | 18 => ("OtherDoorModel", "cuts", "[I", true)
  | 19 => ("OtherDoorModel", "letters", "[I", true)
  | 20 => ("OtherDoorModel", "fars", "[I", true)
  | 21 => ("OtherDoorModel", "froms", "[I", true)
  | 22 => ("OtherDoorModel", "bys", "[I", true)
  | 23 => ("OtherDoorModel", "found", "[I", true)
  | 24 => ("OtherDoorModel", "foundMany", "I", false)
  | 25 => ("OtherDoorModel", "been", "[I", true)
  | 26 => ("OtherDoorModel", "now", "[I", true)
  | 27 => ("OtherDoorModel", "then", "[I", true)
  | 28 => ("OtherDoorModel", "opens", "[I", true)
  | 29 => ("OtherDoorModel", "openMany", "I", false)
  | 30 => ("OtherDoorModel", "tours", "[I", true)
  | 31 => ("OtherDoorModel", "both", "[I", true)
  | 32 => ("OtherDoorModel", "queue", "[I", true)
  | 33 => ("OtherDoorModel", "queued", "I", false)
  | 34 => ("OtherDoorModel", "mendFirst", "I", false)
  | 35 => ("OtherDoorModel", "mendSecond", "I", false)
  | 36 => ("OtherDoorModel", "waysNow", "[J", true)
  | 37 => ("OtherDoorModel", "waysThen", "[J", true)
  | 38 => ("OtherDoorModel", "waysIn", "[J", true)
  | 39 => ("OtherDoorModel", "isKept", "[Z", true)
  | 40 => ("OtherDoorModel", "lanes", "[I", true)
  | 41 => ("OtherDoorModel", "lengths", "[I", true)
  | 42 => ("OtherDoorModel", "cells", "[I", true)
  | _ => ("OtherDoorModel", "torn", "I", false)
def tyX12 : Nat → FieldType := fun k => match k with
  | 0 => .array .int
  | 1 => .int
  | 2 => .array .int
  | 3 => .int
  | 4 => .boolean
  | 5 => .boolean
  | 6 => .int
  | 7 => .int
  | 8 => .int
  | 9 => .array .int
  | 10 => .int
  | 11 => .int
  | 12 => .int
  | 13 => .int
  | 14 => .int
  | 15 => .int
  | 16 => .int
  | 17 => .int
  | 18 => .array .int
  | 19 => .array .int
  | 20 => .array .int
  | 21 => .array .int
  | 22 => .array .int
  | 23 => .array .int
  | 24 => .int
  | 25 => .array .int
  | 26 => .array .int
  | 27 => .array .int
  | 28 => .array .int
  | 29 => .int
  | 30 => .array .int
  | 31 => .array .int
  | 32 => .array .int
  | 33 => .int
  | 34 => .int
  | 35 => .int
  | 36 => .array .long
  | 37 => .array .long
  | 38 => .array .long
  | 39 => .array .boolean
  | 40 => .array .int
  | 41 => .array .int
  | 42 => .array .int
  | _ => .int
abbrev wsX120 : List Cond := u_ws RX12 TX12 44
theorem nmX12 : ∀ a, a < 44 → ∀ b, b < 44 → a ≠ b → (TX12 a).2.1 ≠ (TX12 b).2.1 := by decide +kernel
theorem tyX12_ok : ∀ k, k < 44 → parseFieldDescriptor (TX12 k).2.2.1 = some (tyX12 k) := by decide +kernel
abbrev cX12_init : ByteArray := prog_14_method_1_code
def yX12_init : MethodName := ⟨RX12, "<init>", "()V"⟩
abbrev cX12_in : ByteArray := prog_14_method_3_code
def yX12_in : MethodName := ⟨RX12, "in", "(JJJ)Z"⟩
abbrev cX12_feed : ByteArray := prog_14_method_4_code
def yX12_feed : MethodName := ⟨RX12, "feed", "(J)I"⟩
abbrev cX12_end : ByteArray := prog_14_method_5_code
def yX12_end : MethodName := ⟨RX12, "end", "(I)I"⟩
abbrev cX12_byteAt : ByteArray := prog_14_method_6_code
def yX12_byteAt : MethodName := ⟨RX12, "byteAt", "(I)I"⟩
abbrev cX12_fails : ByteArray := prog_14_method_7_code
def yX12_fails : MethodName := ⟨RX12, "fails", "(I)V"⟩
abbrev cX12_nameHere : ByteArray := prog_14_method_8_code
def yX12_nameHere : MethodName := ⟨RX12, "nameHere", "()I"⟩
abbrev cX12_step : ByteArray := prog_14_method_9_code
def yX12_step : MethodName := ⟨RX12, "step", "()V"⟩
abbrev cX12_looks : ByteArray := prog_14_method_10_code
def yX12_looks : MethodName := ⟨RX12, "looks", "(II)V"⟩
abbrev cX12_number : ByteArray := prog_14_method_11_code
def yX12_number : MethodName := ⟨RX12, "number", "(II)I"⟩
abbrev cX12_room : ByteArray := prog_14_method_12_code
def yX12_room : MethodName := ⟨RX12, "room", "(I)I"⟩
abbrev cX12_readDoor : ByteArray := prog_14_method_13_code
def yX12_readDoor : MethodName := ⟨RX12, "readDoor", "()V"⟩
abbrev cX12_readOne : ByteArray := prog_14_method_14_code
def yX12_readOne : MethodName := ⟨RX12, "readOne", "()V"⟩
abbrev cX12_readWalled : ByteArray := prog_14_method_15_code
def yX12_readWalled : MethodName := ⟨RX12, "readWalled", "()V"⟩
abbrev cX12_readLine : ByteArray := prog_14_method_16_code
def yX12_readLine : MethodName := ⟨RX12, "readLine", "()V"⟩
abbrev cX12_palace : ByteArray := prog_14_method_17_code
def yX12_palace : MethodName := ⟨RX12, "palace", "()I"⟩
abbrev cX12_fault : ByteArray := prog_14_method_18_code
def yX12_fault : MethodName := ⟨RX12, "fault", "()I"⟩
abbrev cX12_doorMany : ByteArray := prog_14_method_19_code
def yX12_doorMany : MethodName := ⟨RX12, "doorMany", "()I"⟩
abbrev cX12_ones : ByteArray := prog_14_method_20_code
def yX12_ones : MethodName := ⟨RX12, "ones", "()I"⟩
abbrev cX12_isRoom : ByteArray := prog_14_method_21_code
def yX12_isRoom : MethodName := ⟨RX12, "isRoom", "(I)Z"⟩
abbrev cX12_isDoor : ByteArray := prog_14_method_22_code
def yX12_isDoor : MethodName := ⟨RX12, "isDoor", "(I)Z"⟩
abbrev cX12_isOne : ByteArray := prog_14_method_23_code
def yX12_isOne : MethodName := ⟨RX12, "isOne", "(I)Z"⟩
abbrev cX12_rule : ByteArray := prog_14_method_24_code
def yX12_rule : MethodName := ⟨RX12, "rule", "(I)I"⟩
abbrev cX12_door : ByteArray := prog_14_method_25_code
def yX12_door : MethodName := ⟨RX12, "door", "(II)I"⟩
abbrev cX12_placeOf : ByteArray := prog_14_method_26_code
def yX12_placeOf : MethodName := ⟨RX12, "placeOf", "(IIII)I"⟩
abbrev cX12_placeOfOne : ByteArray := prog_14_method_27_code
def yX12_placeOfOne : MethodName := ⟨RX12, "placeOfOne", "(I)I"⟩
abbrev cX12_roomAt : ByteArray := prog_14_method_28_code
def yX12_roomAt : MethodName := ⟨RX12, "roomAt", "(I)I"⟩
abbrev cX12_lastAt : ByteArray := prog_14_method_29_code
def yX12_lastAt : MethodName := ⟨RX12, "lastAt", "(I)I"⟩
abbrev cX12_stepped : ByteArray := prog_14_method_30_code
def yX12_stepped : MethodName := ⟨RX12, "stepped", "(II)I"⟩
abbrev cX12_mayTake : ByteArray := prog_14_method_31_code
def yX12_mayTake : MethodName := ⟨RX12, "mayTake", "(I)I"⟩
abbrev cX12_isLost : ByteArray := prog_14_method_32_code
def yX12_isLost : MethodName := ⟨RX12, "isLost", "(I)Z"⟩
abbrev cX12_one : ByteArray := prog_14_method_33_code
def yX12_one : MethodName := ⟨RX12, "one", "(II)I"⟩
abbrev cX12_doorsOf : ByteArray := prog_14_method_34_code
def yX12_doorsOf : MethodName := ⟨RX12, "doorsOf", "(I)I"⟩
abbrev cX12_doors : ByteArray := prog_14_method_35_code
def yX12_doors : MethodName := ⟨RX12, "doors", "(I)I"⟩
abbrev cX12_law : ByteArray := prog_14_method_36_code
def yX12_law : MethodName := ⟨RX12, "law", "(I)I"⟩
abbrev cX12_addDoor : ByteArray := prog_14_method_37_code
def yX12_addDoor : MethodName := ⟨RX12, "addDoor", "(III)V"⟩
abbrev cX12_build : ByteArray := prog_14_method_38_code
def yX12_build : MethodName := ⟨RX12, "build", "(III)I"⟩
abbrev cX12_wall : ByteArray := prog_14_method_39_code
def yX12_wall : MethodName := ⟨RX12, "wall", "(IZ)I"⟩
abbrev cX12_stand : ByteArray := prog_14_method_40_code
def yX12_stand : MethodName := ⟨RX12, "stand", "(II)I"⟩
abbrev cX12_goes : ByteArray := prog_14_method_41_code
def yX12_goes : MethodName := ⟨RX12, "goes", "(II)I"⟩
abbrev cX12_go : ByteArray := prog_14_method_42_code
def yX12_go : MethodName := ⟨RX12, "go", "(II)I"⟩
abbrev cX12_begins : ByteArray := prog_14_method_43_code
def yX12_begins : MethodName := ⟨RX12, "begins", "()V"⟩
abbrev cX12_finds : ByteArray := prog_14_method_44_code
def yX12_finds : MethodName := ⟨RX12, "finds", "(IIII)V"⟩
abbrev cX12_spreads : ByteArray := prog_14_method_45_code
def yX12_spreads : MethodName := ⟨RX12, "spreads", "()V"⟩
abbrev cX12_laysFrom : ByteArray := prog_14_method_46_code
def yX12_laysFrom : MethodName := ⟨RX12, "laysFrom", "(I)V"⟩
abbrev cX12_foundIn : ByteArray := prog_14_method_47_code
def yX12_foundIn : MethodName := ⟨RX12, "foundIn", "(I)I"⟩
abbrev cX12_foundRooms : ByteArray := prog_14_method_48_code
def yX12_foundRooms : MethodName := ⟨RX12, "foundRooms", "()I"⟩
abbrev cX12_far : ByteArray := prog_14_method_49_code
def yX12_far : MethodName := ⟨RX12, "far", "(II)I"⟩
abbrev cX12_way : ByteArray := prog_14_method_50_code
def yX12_way : MethodName := ⟨RX12, "way", "(III)I"⟩
abbrev cX12_can : ByteArray := prog_14_method_51_code
def yX12_can : MethodName := ⟨RX12, "can", "(I)I"⟩
abbrev cX12_newIn : ByteArray := prog_14_method_52_code
def yX12_newIn : MethodName := ⟨RX12, "newIn", "(I)I"⟩
abbrev cX12_path : ByteArray := prog_14_method_53_code
def yX12_path : MethodName := ⟨RX12, "path", "(II)I"⟩
abbrev cX12_bitsOf : ByteArray := prog_14_method_54_code
def yX12_bitsOf : MethodName := ⟨RX12, "bitsOf", "(I)I"⟩
abbrev cX12_pairsNow : ByteArray := prog_14_method_55_code
def yX12_pairsNow : MethodName := ⟨RX12, "pairsNow", "()I"⟩
abbrev cX12_pairs : ByteArray := prog_14_method_56_code
def yX12_pairs : MethodName := ⟨RX12, "pairs", "()I"⟩
abbrev cX12_isTrap : ByteArray := prog_14_method_57_code
def yX12_isTrap : MethodName := ⟨RX12, "isTrap", "(II)Z"⟩
abbrev cX12_life : ByteArray := prog_14_method_58_code
def yX12_life : MethodName := ⟨RX12, "life", "()I"⟩
abbrev cX12_trap : ByteArray := prog_14_method_59_code
def yX12_trap : MethodName := ⟨RX12, "trap", "(II)I"⟩
abbrev cX12_secret : ByteArray := prog_14_method_60_code
def yX12_secret : MethodName := ⟨RX12, "secret", "()I"⟩
abbrev cX12_isSafe : ByteArray := prog_14_method_61_code
def yX12_isSafe : MethodName := ⟨RX12, "isSafe", "()Z"⟩
abbrev cX12_safe : ByteArray := prog_14_method_62_code
def yX12_safe : MethodName := ⟨RX12, "safe", "()I"⟩
abbrev cX12_askedBit : ByteArray := prog_14_method_63_code
def yX12_askedBit : MethodName := ⟨RX12, "askedBit", "(II)I"⟩
abbrev cX12_withRoom : ByteArray := prog_14_method_64_code
def yX12_withRoom : MethodName := ⟨RX12, "withRoom", "(II)I"⟩
abbrev cX12_goesRound : ByteArray := prog_14_method_65_code
def yX12_goesRound : MethodName := ⟨RX12, "goesRound", "(I)Z"⟩
abbrev cX12_isRound : ByteArray := prog_14_method_66_code
def yX12_isRound : MethodName := ⟨RX12, "isRound", "(II)Z"⟩
abbrev cX12_round : ByteArray := prog_14_method_67_code
def yX12_round : MethodName := ⟨RX12, "round", "(II)I"⟩
abbrev cX12_layOpens : ByteArray := prog_14_method_68_code
def yX12_layOpens : MethodName := ⟨RX12, "layOpens", "()V"⟩
abbrev cX12_onward : ByteArray := prog_14_method_69_code
def yX12_onward : MethodName := ⟨RX12, "onward", "(II)I"⟩
abbrev cX12_layTours : ByteArray := prog_14_method_70_code
def yX12_layTours : MethodName := ⟨RX12, "layTours", "()V"⟩
abbrev cX12_tour : ByteArray := prog_14_method_71_code
def yX12_tour : MethodName := ⟨RX12, "tour", "(II)I"⟩
abbrev cX12_beginsTwo : ByteArray := prog_14_method_72_code
def yX12_beginsTwo : MethodName := ⟨RX12, "beginsTwo", "()V"⟩
abbrev cX12_findsTwo : ByteArray := prog_14_method_73_code
def yX12_findsTwo : MethodName := ⟨RX12, "findsTwo", "(II)V"⟩
abbrev cX12_doing : ByteArray := prog_14_method_74_code
def yX12_doing : MethodName := ⟨RX12, "doing", "(II)I"⟩
abbrev cX12_talk : ByteArray := prog_14_method_75_code
def yX12_talk : MethodName := ⟨RX12, "talk", "(III)I"⟩
abbrev cX12_stays : ByteArray := prog_14_method_76_code
def yX12_stays : MethodName := ⟨RX12, "stays", "(I)I"⟩
abbrev cX12_doneBy : ByteArray := prog_14_method_77_code
def yX12_doneBy : MethodName := ⟨RX12, "doneBy", "(II)I"⟩
abbrev cX12_layTalk : ByteArray := prog_14_method_78_code
def yX12_layTalk : MethodName := ⟨RX12, "layTalk", "(II)V"⟩
abbrev cX12_cup : ByteArray := prog_14_method_79_code
def yX12_cup : MethodName := ⟨RX12, "cup", "(III)I"⟩
abbrev cX12_findsCup : ByteArray := prog_14_method_80_code
def yX12_findsCup : MethodName := ⟨RX12, "findsCup", "(IIII)V"⟩
abbrev cX12_more : ByteArray := prog_14_method_81_code
def yX12_more : MethodName := ⟨RX12, "more", "(I)I"⟩
abbrev cX12_worst : ByteArray := prog_14_method_82_code
def yX12_worst : MethodName := ⟨RX12, "worst", "(I)I"⟩
abbrev cX12_mendsOne : ByteArray := prog_14_method_83_code
def yX12_mendsOne : MethodName := ⟨RX12, "mendsOne", "(Z)Z"⟩
abbrev cX12_layMend : ByteArray := prog_14_method_84_code
def yX12_layMend : MethodName := ⟨RX12, "layMend", "()I"⟩
abbrev cX12_mend : ByteArray := prog_14_method_85_code
def yX12_mend : MethodName := ⟨RX12, "mend", "(I)I"⟩
abbrev cX12_tell : ByteArray := prog_14_method_86_code
def yX12_tell : MethodName := ⟨RX12, "tell", "(I)I"⟩
abbrev cX12_forget : ByteArray := prog_14_method_87_code
def yX12_forget : MethodName := ⟨RX12, "forget", "()I"⟩
abbrev cX12_judge : ByteArray := prog_14_method_88_code
def yX12_judge : MethodName := ⟨RX12, "judge", "(I)I"⟩
abbrev cX12_addWays : ByteArray := prog_14_method_89_code
def yX12_addWays : MethodName := ⟨RX12, "addWays", "(IIII)V"⟩
abbrev cX12_layWays : ByteArray := prog_14_method_90_code
def yX12_layWays : MethodName := ⟨RX12, "layWays", "(IIII)J"⟩
abbrev cX12_ajar : ByteArray := prog_14_method_91_code
def yX12_ajar : MethodName := ⟨RX12, "ajar", "(IIII)I"⟩
abbrev cX12_copies : ByteArray := prog_14_method_92_code
def yX12_copies : MethodName := ⟨RX12, "copies", "(II)V"⟩
abbrev cX12_keep : ByteArray := prog_14_method_93_code
def yX12_keep : MethodName := ⟨RX12, "keep", "(I)I"⟩
abbrev cX12_back : ByteArray := prog_14_method_94_code
def yX12_back : MethodName := ⟨RX12, "back", "(I)I"⟩
abbrev cX12_sheet : ByteArray := prog_14_method_95_code
def yX12_sheet : MethodName := ⟨RX12, "sheet", "(III)I"⟩
abbrev cX12_lay : ByteArray := prog_14_method_96_code
def yX12_lay : MethodName := ⟨RX12, "lay", "(III)I"⟩
abbrev cX12_read : ByteArray := prog_14_method_97_code
def yX12_read : MethodName := ⟨RX12, "read", "(IIIII)I"⟩
abbrev cX12_torn : ByteArray := prog_14_method_98_code
def yX12_torn : MethodName := ⟨RX12, "torn", "()I"⟩
abbrev cX12_count : ByteArray := prog_14_method_99_code
def yX12_count : MethodName := ⟨RX12, "count", "(I)I"⟩
def RJx145de : String := "java/io/Serializable"
def TJx145de : u_T := fun k => match k with
  | _ => ("", "", "", false)
def tyJx145de : Nat → FieldType := fun k => match k with
  | _ => .int
abbrev wsJx145de0 : List Cond := u_ws RJx145de TJx145de 0
theorem nmJx145de : ∀ a, a < 0 → ∀ b, b < 0 → a ≠ b → (TJx145de a).2.1 ≠ (TJx145de b).2.1 := by decide +kernel
theorem tyJx145de_ok : ∀ k, k < 0 → parseFieldDescriptor (TJx145de k).2.2.1 = some (tyJx145de k) := by decide +kernel
def RJx9f9b0 : String := "java/lang/CharSequence"
def TJx9f9b0 : u_T := fun k => match k with
  | _ => ("", "", "", false)
def tyJx9f9b0 : Nat → FieldType := fun k => match k with
  | _ => .int
abbrev wsJx9f9b00 : List Cond := u_ws RJx9f9b0 TJx9f9b0 0
theorem nmJx9f9b0 : ∀ a, a < 0 → ∀ b, b < 0 → a ≠ b → (TJx9f9b0 a).2.1 ≠ (TJx9f9b0 b).2.1 := by decide +kernel
theorem tyJx9f9b0_ok : ∀ k, k < 0 → parseFieldDescriptor (TJx9f9b0 k).2.2.1 = some (tyJx9f9b0 k) := by decide +kernel
def RJxb160c : String := "java/lang/Comparable"
def TJxb160c : u_T := fun k => match k with
  | _ => ("", "", "", false)
def tyJxb160c : Nat → FieldType := fun k => match k with
  | _ => .int
abbrev wsJxb160c0 : List Cond := u_ws RJxb160c TJxb160c 0
theorem nmJxb160c : ∀ a, a < 0 → ∀ b, b < 0 → a ≠ b → (TJxb160c a).2.1 ≠ (TJxb160c b).2.1 := by decide +kernel
theorem tyJxb160c_ok : ∀ k, k < 0 → parseFieldDescriptor (TJxb160c k).2.2.1 = some (tyJxb160c k) := by decide +kernel
def RJ6 : String := "java/lang/Integer"
def TJ6 : u_T := fun k => match k with
  | _ => ("", "", "", false)
def tyJ6 : Nat → FieldType := fun k => match k with
  | _ => .int
abbrev wsJ60 : List Cond := u_ws RJ6 TJ6 0
theorem nmJ6 : ∀ a, a < 0 → ∀ b, b < 0 → a ≠ b → (TJ6 a).2.1 ≠ (TJ6 b).2.1 := by decide +kernel
theorem tyJ6_ok : ∀ k, k < 0 → parseFieldDescriptor (TJ6 k).2.2.1 = some (tyJ6 k) := by decide +kernel
abbrev cJ6_bitCount_0f7a4 : ByteArray := prog_15_method_49_code
def yJ6_bitCount_0f7a4 : MethodName := ⟨RJ6, "bitCount", "(I)I"⟩
def RJ0 : String := "java/lang/String"
def TJ0 : u_T := fun k => match k with
  | _ => ("", "", "", false)
def tyJ0 : Nat → FieldType := fun k => match k with
  | _ => .int
abbrev wsJ00 : List Cond := u_ws RJ0 TJ0 0
theorem nmJ0 : ∀ a, a < 0 → ∀ b, b < 0 → a ≠ b → (TJ0 a).2.1 ≠ (TJ0 b).2.1 := by decide +kernel
theorem tyJ0_ok : ∀ k, k < 0 → parseFieldDescriptor (TJ0 k).2.2.1 = some (tyJ0 k) := by decide +kernel
abbrev cJ0_length_8abf5 : ByteArray := prog_16_method_54_code
def yJ0_length_8abf5 : MethodName := ⟨RJ0, "length", "()I"⟩
abbrev cJ0_charAt_5068e : ByteArray := prog_16_method_56_code
def yJ0_charAt_5068e : MethodName := ⟨RJ0, "charAt", "(I)C"⟩
abbrev cJ0_coder_7d493 : ByteArray := prog_16_method_152_code
def yJ0_coder_7d493 : MethodName := ⟨RJ0, "coder", "()B"⟩
abbrev cJ0_isLatin1_aae02 : ByteArray := prog_16_method_154_code
def yJ0_isLatin1_aae02 : MethodName := ⟨RJ0, "isLatin1", "()Z"⟩
abbrev cJ0_checkIndex_df160 : ByteArray := prog_16_method_155_code
def yJ0_checkIndex_df160 : MethodName := ⟨RJ0, "checkIndex", "(II)V"⟩
def RJ1 : String := "java/lang/StringLatin1"
def TJ1 : u_T := fun k => match k with
  | _ => ("", "", "", false)
def tyJ1 : Nat → FieldType := fun k => match k with
  | _ => .int
abbrev wsJ10 : List Cond := u_ws RJ1 TJ1 0
theorem nmJ1 : ∀ a, a < 0 → ∀ b, b < 0 → a ≠ b → (TJ1 a).2.1 ≠ (TJ1 b).2.1 := by decide +kernel
theorem tyJ1_ok : ∀ k, k < 0 → parseFieldDescriptor (TJ1 k).2.2.1 = some (tyJ1 k) := by decide +kernel
abbrev cJ1_charAt_3b067 : ByteArray := prog_17_method_2_code
def yJ1_charAt_3b067 : MethodName := ⟨RJ1, "charAt", "([BI)C"⟩
def RJ2 : String := "java/lang/StringUTF16"
def TJ2 : u_T := fun k => match k with
  | _ => ("", "", "", false)
def tyJ2 : Nat → FieldType := fun k => match k with
  | _ => .int
abbrev wsJ20 : List Cond := u_ws RJ2 TJ2 0
theorem nmJ2 : ∀ a, a < 0 → ∀ b, b < 0 → a ≠ b → (TJ2 a).2.1 ≠ (TJ2 b).2.1 := by decide +kernel
theorem tyJ2_ok : ∀ k, k < 0 → parseFieldDescriptor (TJ2 k).2.2.1 = some (tyJ2 k) := by decide +kernel
abbrev cJ2_getChar_3b067 : ByteArray := prog_18_method_5_code
def yJ2_getChar_3b067 : MethodName := ⟨RJ2, "getChar", "([BI)C"⟩
abbrev cJ2_length_9d52b : ByteArray := prog_18_method_6_code
def yJ2_length_9d52b : MethodName := ⟨RJ2, "length", "([B)I"⟩
abbrev cJ2_charAt_3b067 : ByteArray := prog_18_method_83_code
def yJ2_charAt_3b067 : MethodName := ⟨RJ2, "charAt", "([BI)C"⟩
abbrev cJ2_checkIndex_2214a : ByteArray := prog_18_method_91_code
def yJ2_checkIndex_2214a : MethodName := ⟨RJ2, "checkIndex", "(I[B)V"⟩
def RJ10 : String := "java/lang/System"
def TJ10 : u_T := fun k => match k with
  | _ => ("", "", "", false)
def tyJ10 : Nat → FieldType := fun k => match k with
  | _ => .int
abbrev wsJ100 : List Cond := u_ws RJ10 TJ10 0
theorem nmJ10 : ∀ a, a < 0 → ∀ b, b < 0 → a ≠ b → (TJ10 a).2.1 ≠ (TJ10 b).2.1 := by decide +kernel
theorem tyJ10_ok : ∀ k, k < 0 → parseFieldDescriptor (TJ10 k).2.2.1 = some (tyJ10 k) := by decide +kernel
def RJxfd54e : String := "java/lang/constant/Constable"
def TJxfd54e : u_T := fun k => match k with
  | _ => ("", "", "", false)
def tyJxfd54e : Nat → FieldType := fun k => match k with
  | _ => .int
abbrev wsJxfd54e0 : List Cond := u_ws RJxfd54e TJxfd54e 0
theorem nmJxfd54e : ∀ a, a < 0 → ∀ b, b < 0 → a ≠ b → (TJxfd54e a).2.1 ≠ (TJxfd54e b).2.1 := by decide +kernel
theorem tyJxfd54e_ok : ∀ k, k < 0 → parseFieldDescriptor (TJxfd54e k).2.2.1 = some (tyJxfd54e k) := by decide +kernel
def RJx3cf43 : String := "java/lang/constant/ConstantDesc"
def TJx3cf43 : u_T := fun k => match k with
  | _ => ("", "", "", false)
def tyJx3cf43 : Nat → FieldType := fun k => match k with
  | _ => .int
abbrev wsJx3cf430 : List Cond := u_ws RJx3cf43 TJx3cf43 0
theorem nmJx3cf43 : ∀ a, a < 0 → ∀ b, b < 0 → a ≠ b → (TJx3cf43 a).2.1 ≠ (TJx3cf43 b).2.1 := by decide +kernel
theorem tyJx3cf43_ok : ∀ k, k < 0 → parseFieldDescriptor (TJx3cf43 k).2.2.1 = some (tyJx3cf43 k) := by decide +kernel
def RJ7 : String := "java/util/Arrays"
def TJ7 : u_T := fun k => match k with
  | _ => ("", "", "", false)
def tyJ7 : Nat → FieldType := fun k => match k with
  | _ => .int
abbrev wsJ70 : List Cond := u_ws RJ7 TJ7 0
theorem nmJ7 : ∀ a, a < 0 → ∀ b, b < 0 → a ≠ b → (TJ7 a).2.1 ≠ (TJ7 b).2.1 := by decide +kernel
theorem tyJ7_ok : ∀ k, k < 0 → parseFieldDescriptor (TJ7 k).2.2.1 = some (tyJ7 k) := by decide +kernel
abbrev cJ7_fill_53178 : ByteArray := prog_20_method_103_code
def yJ7_fill_53178 : MethodName := ⟨RJ7, "fill", "([II)V"⟩
def RJ3 : String := "jdk/internal/util/Preconditions"
def TJ3 : u_T := fun k => match k with
  | _ => ("", "", "", false)
def tyJ3 : Nat → FieldType := fun k => match k with
  | _ => .int
abbrev wsJ30 : List Cond := u_ws RJ3 TJ3 0
theorem nmJ3 : ∀ a, a < 0 → ∀ b, b < 0 → a ≠ b → (TJ3 a).2.1 ≠ (TJ3 b).2.1 := by decide +kernel
theorem tyJ3_ok : ∀ k, k < 0 → parseFieldDescriptor (TJ3 k).2.2.1 = some (tyJ3 k) := by decide +kernel
abbrev cJ3_checkIndex_8e157 : ByteArray := prog_21_method_11_code
def yJ3_checkIndex_8e157 : MethodName := ⟨RJ3, "checkIndex", "(IILjava/util/function/BiFunction;)I"⟩
def RL : String := "OtherDoorLaw"
abbrev cL_law : ByteArray := code
def yL_law : MethodName := ⟨RL, "law", "([I)Z"⟩
abbrev vwCl : List vw_C := [(RX0, TX0, 4), (RX1, TX1, 9), (RX2, TX2, 5), (RX3, TX3, 7), (RX4, TX4, 3), (RX5, TX5, 13), (RX6, TX6, 4), (RX7, TX7, 6), (RX8, TX8, 9), (RX9, TX9, 3), (RX10, TX10, 8), (RX11, TX11, 13), (RX12, TX12, 44)]
end
section
section
/-! The numbers of the mini machine: an int is an Int in range, an operation goes by way of Int32. -/
def zI (z : Int) : Prop := -2147483648 ≤ z ∧ z < 2147483648
def zJ (z : Int) : Prop := -9223372036854775808 ≤ z ∧ z < 9223372036854775808
def w32 (z : Int) : Int := (z + 2147483648) % 4294967296 - 2147483648
def w64 (z : Int) : Int := (z + 9223372036854775808) % 18446744073709551616 - 9223372036854775808
theorem zI_to {z : Int} (h : zI z) : (Int32.ofInt z).toInt = z := Int32.toInt_ofInt_of_le h.1 h.2
theorem zJ_to {z : Int} (h : zJ z) : (Int64.ofInt z).toInt = z := Int64.toInt_ofInt_of_le h.1 h.2
theorem zI_of (x : Int32) : zI x.toInt := ⟨x.le_toInt, x.toInt_lt⟩
theorem zJ_of (x : Int64) : zJ x.toInt := ⟨x.le_toInt, x.toInt_lt⟩
theorem w32_bmod (z : Int) : z.bmod 4294967296 = w32 z := by
  unfold w32
  rw [Int.bmod_def]
  split <;> omega
theorem w64_bmod (z : Int) : z.bmod 18446744073709551616 = w64 z := by
  unfold w64
  rw [Int.bmod_def]
  split <;> omega
theorem w32_I (z : Int) : zI (w32 z) := by unfold w32 zI; omega
theorem w64_J (z : Int) : zJ (w64 z) := by unfold w64 zJ; omega
theorem w32_id {z : Int} (h : zI z) : w32 z = z := by unfold zI at h; unfold w32; omega
theorem w64_id {z : Int} (h : zJ z) : w64 z = z := by unfold zJ at h; unfold w64; omega
theorem zO (z : Int) : (Int32.ofInt z).toInt = w32 z := by rw [Int32.toInt_ofInt]; exact w32_bmod z
theorem zOl (z : Int) : (Int64.ofInt z).toInt = w64 z := by rw [Int64.toInt_ofInt]; exact w64_bmod z
def zadd (x y : Int) : Int := (Int32.ofInt x + Int32.ofInt y).toInt
def zsub (x y : Int) : Int := (Int32.ofInt x - Int32.ofInt y).toInt
def zmul (x y : Int) : Int := (Int32.ofInt x * Int32.ofInt y).toInt
def zneg (x : Int) : Int := (-Int32.ofInt x).toInt
def zdiv (x y : Int) : Int := (Int32.ofInt x / Int32.ofInt y).toInt
def zrem (x y : Int) : Int := (Int32.ofInt x - Int32.ofInt x / Int32.ofInt y * Int32.ofInt y).toInt
def zand (x y : Int) : Int := (Int32.ofInt x &&& Int32.ofInt y).toInt
def zor (x y : Int) : Int := (Int32.ofInt x ||| Int32.ofInt y).toInt
def zxor (x y : Int) : Int := (Int32.ofInt x ^^^ Int32.ofInt y).toInt
def zshl (x y : Int) : Int := (Int32.ofInt x <<< (Int32.ofInt y &&& 31)).toInt
def zshr (x y : Int) : Int := (Int32.ofInt x >>> (Int32.ofInt y &&& 31)).toInt
def zushr (x y : Int) : Int := (((Int32.ofInt x).toUInt32 >>> ((Int32.ofInt y).toUInt32 &&& Int32.toUInt32 31)).toInt32).toInt
def zi2b (x : Int) : Int := (Int32.ofInt x).toInt8.toInt32.toInt
def zi2s (x : Int) : Int := (Int32.ofInt x).toInt16.toInt32.toInt
def zi2c (x : Int) : Int := ((Int32.ofInt x).toUInt32 % 65536).toInt32.toInt
def zl2i (x : Int) : Int := (Int64.ofInt x).toInt32.toInt
def zladd (x y : Int) : Int := (Int64.ofInt x + Int64.ofInt y).toInt
def zlmul (x y : Int) : Int := (Int64.ofInt x * Int64.ofInt y).toInt
def zland (x y : Int) : Int := (Int64.ofInt x &&& Int64.ofInt y).toInt
def zlor (x y : Int) : Int := (Int64.ofInt x ||| Int64.ofInt y).toInt
def zlshl (x y : Int) : Int := (Int64.ofInt x <<< ((Int32.ofInt y).toInt64 &&& 63)).toInt
def zlshr (x y : Int) : Int := (Int64.ofInt x >>> ((Int32.ofInt y).toInt64 &&& 63)).toInt
def zlushr (x y : Int) : Int := (((Int64.ofInt x).toUInt64 >>> ((Int32.ofInt y).toInt64.toUInt64 &&& Int64.toUInt64 63)).toInt64).toInt
def zlcmp (x y : Int) : Int := (lg_cmp (Int64.ofInt x) (Int64.ofInt y)).toInt
theorem zadd_w (x y : Int) : zadd x y = w32 (x + y) := by
  unfold zadd
  rw [← Int32.ofInt_add, zO]
theorem zsub_w (x y : Int) : zsub x y = w32 (x - y) := by
  unfold zsub
  rw [← Int32.ofInt_sub, zO]
theorem zmul_w (x y : Int) : zmul x y = w32 (x * y) := by
  unfold zmul
  rw [← Int32.ofInt_mul, zO]
theorem zneg_w (x : Int) : zneg x = w32 (-x) := by
  unfold zneg
  rw [← Int32.ofInt_neg, zO]
theorem zladd_w (x y : Int) : zladd x y = w64 (x + y) := by
  unfold zladd
  rw [← Int64.ofInt_add, zOl]
theorem zlmul_w (x y : Int) : zlmul x y = w64 (x * y) := by
  unfold zlmul
  rw [← Int64.ofInt_mul, zOl]
theorem zadd_n {x y : Int} (h : zI (x + y)) : zadd x y = x + y := by rw [zadd_w, w32_id h]
theorem zsub_n {x y : Int} (h : zI (x - y)) : zsub x y = x - y := by rw [zsub_w, w32_id h]
theorem zmul_n {x y : Int} (h : zI (x * y)) : zmul x y = x * y := by rw [zmul_w, w32_id h]
theorem zlt_i {x y : Int} (hx : zI x) (hy : zI y) : Int32.ofInt x < Int32.ofInt y ↔ x < y := by rw [Int32.lt_iff_toInt_lt, zI_to hx, zI_to hy]
theorem zle_i {x y : Int} (hx : zI x) (hy : zI y) : Int32.ofInt x ≤ Int32.ofInt y ↔ x ≤ y := by rw [Int32.le_iff_toInt_le, zI_to hx, zI_to hy]
theorem zeq_i {x y : Int} (hx : zI x) (hy : zI y) : Int32.ofInt x = Int32.ofInt y ↔ x = y := by rw [← Int32.toInt_inj, zI_to hx, zI_to hy]
theorem z0_i : (0 : Int32) = Int32.ofInt 0 := by decide +kernel
theorem zin_i {x : Int} (hx : zI x) {n : Nat} (h0 : 0 ≤ x) (hn : x < n) : vp_in (Int32.ofInt x) n := by
  rw [vp_in_iff, zI_to hx]
  exact ⟨h0, hn⟩
theorem zcl_i {x : Int} (hx : zI x) : (Int32.ofInt x).toNatClampNeg = x.toNat := by
  show (Int32.ofInt x).toInt.toNat = x.toNat
  rw [zI_to hx]
theorem zi2l_i {x : Int} (hx : zI x) : (Int32.ofInt x).toInt64 = Int64.ofInt x := by
  rw [← Int64.toInt_inj, Int32.toInt_toInt64, zI_to hx, zJ_to]
  unfold zI at hx
  unfold zJ
  omega
end
end
section
section
/-! The block: the cells that the two constructors make, in the order in which they are made (printed by wip/whole/gen_shape.py). -/
/-- kind and size of each cell: below 100 an object of that class (its place in vwCl); 100 int[], 101 byte[], 102 boolean[], 103 long[], 110.. rows of references -/
def zSH : List (Nat × Nat) := [(11, 13), (2, 5), (1, 9), (100, 14), (100, 14), (100, 14), (100, 10), (100, 4), (110, 5), (9, 3), (9, 3), (9, 3), (9, 3), (9, 3), (100, 12), (111, 2), (2, 5), (1, 9), (100, 14), (100, 14), (100, 14), (100, 10), (100, 4), (110, 5), (9, 3), (9, 3), (9, 3), (9, 3), (9, 3), (100, 12), (2, 5), (1, 9), (100, 14), (100, 14), (100, 14), (100, 10), (100, 4), (110, 5), (9, 3), (9, 3), (9, 3), (9, 3), (9, 3), (100, 12), (112, 4), (4, 3), (100, 40), (4, 3), (100, 40), (4, 3), (100, 40), (4, 3), (100, 40), (5, 13), (101, 320), (2, 5), (1, 9), (100, 14), (100, 14), (100, 14), (100, 10), (100, 4), (110, 5), (9, 3), (9, 3), (9, 3), (9, 3), (9, 3), (100, 12), (9, 3), (10, 8), (100, 421), (100, 421), (100, 421), (100, 421), (100, 421), (100, 28), (3, 7), (100, 10), (100, 421), (113, 2), (100, 421), (100, 421), (113, 2), (100, 421), (100, 421), (100, 2), (6, 4), (100, 8), (100, 1280), (8, 9), (100, 30), (100, 30), (100, 10), (113, 5), (100, 30), (100, 30), (100, 30), (100, 30), (100, 30), (113, 5), (100, 30), (100, 30), (100, 30), (100, 30), (100, 30), (113, 5), (100, 30), (100, 30), (100, 30), (100, 30), (100, 30), (0, 4), (113, 4), (100, 10), (100, 10), (100, 10), (100, 10), (100, 2), (7, 6), (100, 6), (100, 6), (12, 44), (100, 264), (100, 88), (100, 320), (100, 9), (100, 33), (100, 570), (100, 570), (100, 570), (100, 570), (100, 570), (100, 570), (100, 570), (100, 14), (100, 7680), (100, 8664), (100, 8664), (103, 570), (103, 570), (103, 10), (102, 2), (100, 4), (100, 4), (100, 160)]
/-- where the references of a cell lead -/
def zRL : List (List Nat) := [[1, 15, 44, 53, 69, 70, 77, 87, 90, 112, 119, 0, 0], [2, 8, 0, 14, 0], [0, 0, 0, 0, 3, 4, 5, 6, 7], [], [], [], [], [], [9, 10, 11, 12, 13], [], [], [], [], [], [], [16, 30], [17, 23, 0, 29, 0], [0, 0, 0, 0, 18, 19, 20, 21, 22], [], [], [], [], [], [24, 25, 26, 27, 28], [], [], [], [], [], [], [31, 37, 0, 43, 0], [0, 0, 0, 0, 32, 33, 34, 35, 36], [], [], [], [], [], [38, 39, 40, 41, 42], [], [], [], [], [], [], [45, 47, 49, 51], [46, 0, 0], [], [48, 0, 0], [], [50, 0, 0], [], [52, 0, 0], [], [54, 55, 0, 0, 0, 0, 0, 0, 0, 0, 0, 0, 0], [], [56, 62, 0, 68, 0], [0, 0, 0, 0, 57, 58, 59, 60, 61], [], [], [], [], [], [63, 64, 65, 66, 67], [], [], [], [], [], [], [], [71, 72, 73, 74, 75, 76, 0, 0], [], [], [], [], [], [], [78, 79, 80, 83, 86, 0, 0], [], [], [81, 82], [], [], [84, 85], [], [], [], [88, 89, 0, 0], [], [], [91, 92, 93, 94, 100, 106, 0, 0, 0], [], [], [], [95, 96, 97, 98, 99], [], [], [], [], [], [101, 102, 103, 104, 105], [], [], [], [], [], [107, 108, 109, 110, 111], [], [], [], [], [], [113, 118, 0, 0], [114, 115, 116, 117], [], [], [], [], [], [120, 121, 0, 0, 0, 0], [], [], [123, 0, 124, 0, 0, 0, 0, 0, 0, 125, 0, 0, 0, 0, 0, 0, 0, 0, 126, 127, 128, 129, 130, 131, 0, 132, 133, 134, 135, 0, 136, 137, 138, 0, 0, 0, 139, 140, 141, 142, 143, 144, 145, 0], [], [], [], [], [], [], [], [], [], [], [], [], [], [], [], [], [], [], [], [], [], [], []]
/-- the fields of each class: 0 an int, 1 a boolean, 2 a reference -/
def zFL : List (List Nat) := [[2, 2, 0, 0], [0, 0, 0, 0, 2, 2, 2, 2, 2], [2, 2, 0, 2, 0], [2, 2, 2, 2, 2, 0, 0], [2, 0, 0], [2, 2, 0, 0, 0, 0, 0, 0, 0, 0, 1, 1, 0], [2, 2, 0, 0], [2, 2, 0, 0, 0, 0], [2, 2, 2, 2, 2, 2, 0, 0, 1], [0, 0, 0], [2, 2, 2, 2, 2, 2, 0, 0], [2, 2, 2, 2, 2, 2, 2, 2, 2, 2, 2, 0, 0], [2, 0, 2, 0, 1, 1, 0, 0, 0, 2, 0, 0, 0, 0, 0, 0, 0, 0, 2, 2, 2, 2, 2, 2, 0, 2, 2, 2, 2, 0, 2, 2, 2, 0, 0, 0, 2, 2, 2, 2, 2, 2, 2, 0]]
abbrev zNC : Nat := 146
def zsh (k : Nat) : Nat × Nat := zSH.getD k (999, 0)
def zkd (k : Nat) : Nat := (zsh k).1
def zln (k : Nat) : Nat := (zsh k).2
def zrt (k j : Nat) : Nat := (zRL.getD k []).getD j 0
def zfk (c j : Nat) : Nat := (zFL.getD c []).getD j 0
/-- what stands in the cells behind the constructors -/
def zIL : List (List Int) := [[], [], [4], [], [], [], [], [], [], [0, -1, -1], [0, -1, -1], [0, -1, -1], [0, -1, -1], [0, -1, -1], [], [], [], [4], [], [], [], [], [], [], [0, -1, -1], [0, -1, -1], [0, -1, -1], [0, -1, -1], [0, -1, -1], [], [], [4], [], [], [], [], [], [], [0, -1, -1], [0, -1, -1], [0, -1, -1], [0, -1, -1], [0, -1, -1], [], [], [0, -1], [], [0, -1], [], [0, -1], [], [0, -1], [], [0, 0, 0, 0, 0, 0, 0, 0, 1], [], [], [4], [], [], [], [], [], [], [0, -1, -1], [0, -1, -1], [0, -1, -1], [0, -1, -1], [0, -1, -1], [], [0, -1, -1], [], [], [], [], [], [], [], [], [], [], [], [], [], [], [], [], [], [], [], [], [], [], [], [], [], [], [], [], [], [], [], [], [], [], [], [], [], [], [], [], [], [], [0, 0, -4, -4], [], [], [], [], [], [], [], [], [], [0, 4], [], [], [], [0, 5, 8, 12, 15, 21, 24, 29, 33], [114, 111, 111, 109, 115, 108, 97, 119, 100, 111, 111, 114, 111, 110, 101, 119, 97, 108, 108, 101, 100, 114, 101, 100, 103, 114, 101, 101, 110, 98, 108, 117, 101], [], [], [], [], [], [], [], [], [], [], [], [], [], [], [], [-4, -4, -4, -4], [], []]
def zm0 : Nat → Nat → Int := fun k j => (zIL.getD k []).getD j 0
end
end
section
section
/-! The mini machine's world: values, memory, and how a heap holds them. -/
abbrev zV : Type := Nat × Int
abbrev zMem : Type := Nat → Nat → Int
abbrev zKey : Type := MethodName × ByteArray × Nat × Option FieldType
/-- the block's first address; classes and slots; array classes by kind; the string constants and their bytes; HAVING's address; the script's address, length, ints -/
abbrev zEnv : Type := Nat × va_G × (Nat → ClassId) × (Nat → Nat) × (Nat → Nat) × Nat × Nat × Nat × (Nat → Int32)
def zEb (E : zEnv) : Nat := E.1
def zED (E : zEnv) : va_G := E.2.1
def zEc (E : zEnv) : Nat → ClassId := E.2.2.1
def zEk (E : zEnv) : Nat → Nat := E.2.2.2.1
def zEv (E : zEnv) : Nat → Nat := E.2.2.2.2.1
def zEh (E : zEnv) : Nat := E.2.2.2.2.2.1
def zEs (E : zEnv) : Nat := E.2.2.2.2.2.2.1
def zEl (E : zEnv) : Nat := E.2.2.2.2.2.2.2.1
def zEx (E : zEnv) : Nat → Int32 := E.2.2.2.2.2.2.2.2
/-- a value: tag 0 an int, 1 a long, 2 a cell of the block, 3 a string constant, 4 HAVING, 5 the script; 9: nothing is known -/
def zv (E : zEnv) : zV → Value
  | (0, x) => .int (Int32.ofInt x)
  | (1, x) => .long (Int64.ofInt x)
  | (2, x) => .ref (zEb E + x.toNat)
  | (3, x) => .ref (zEk E x.toNat)
  | (4, _) => .ref (zEh E)
  | (5, _) => .ref (zEs E)
  | (_, _) => .null
def zok : zV → Prop
  | (0, x) => zI x
  | (1, x) => zJ x
  | (_, _) => True
def zcat : Nat → Nat
  | 1 => 2
  | _ => 1
theorem zv_cat (E : zEnv) (v : zV) : (zv E v).category = zcat v.1 := by
  obtain ⟨t, x⟩ := v
  match t with
  | 0 => rfl
  | 1 => rfl
  | 2 => rfl
  | 3 => rfl
  | 4 => rfl
  | 5 => rfl
  | t + 6 => rfl
def zfv (E : zEnv) (k j : Nat) (x : Int) : Value := if zfk (zkd k) j = 2 then .ref (zEb E + zrt k j) else .int (Int32.ofInt x)
def zel (E : zEnv) (k : Nat) (f : Nat → Int) : va_E :=
  if zkd k < 100 then .inr (zkd k, (List.range (zln k)).map fun j => zfv E k j (f j))
  else .inl (zEc E (zkd k), zln k, if zkd k < 103 then .inl (fun j => Int32.ofInt (f j)) else if zkd k = 103 then .inr (.inl fun j => Int64.ofInt (f j)) else .inr (.inr (.inr (.inr fun j => some (zEb E + zrt k j)))))
def zws (E : zEnv) (mem : zMem) : va_W := (List.range zNC).map fun k => (zEb E + k, zel E k (mem k))
def zA (E : zEnv) : Nat → Prop := fun q => zEb E ≤ q ∧ q < zEb E + zNC
def zrg (mem : zMem) : Prop := ∀ k j, (zkd k = 103 → zJ (mem k j)) ∧ (zkd k ≠ 103 → zI (mem k j))
def zup (mem : zMem) (k j : Nat) (v : Int) : zMem := fun a i => if a = k ∧ i = j then v else mem a i
/-- a row's places dp.. of cell t become the places sp.. of cell k -/
def zcp (mem : zMem) (k sp t dp n : Nat) : zMem := fun a i => if a = t ∧ dp ≤ i ∧ i < dp + n then mem k (sp + (i - dp)) else mem a i
def ztys (E : zEnv) : List (ClassId × FieldType) := [(zEc E 100, .int), (zEc E 101, .byte), (zEc E 102, .boolean), (zEc E 103, .long), (zEc E 110, .object "OtherDoor$Walker"), (zEc E 111, .object "OtherDoor$Palace"), (zEc E 112, .object "OtherDoor$Sheet"), (zEc E 113, .array .int)]
theorem zws_at (E : zEnv) (mem : zMem) {k : Nat} (hk : k < zNC) : (zws E mem)[k]? = some (zEb E + k, zel E k (mem k)) := by
  unfold zws
  rw [List.getElem?_map, List.getElem?_range hk]
  rfl
theorem zws_of {E : zEnv} {mem : zMem} {k : Nat} {q : Nat × va_E} (h : (zws E mem)[k]? = some q) : k < zNC ∧ q = (zEb E + k, zel E k (mem k)) := by
  have hk : k < zNC := by
    have h1 := (List.getElem?_eq_some_iff.mp h).1
    unfold zws at h1
    rw [List.length_map, List.length_range] at h1
    exact h1
  rw [zws_at E mem hk] at h
  exact ⟨hk, (Option.some.inj h).symm⟩
theorem zws_D (E : zEnv) (mem : zMem) : va_D (zA E) (zws E mem) := by
  refine ⟨fun i j p q hi hj h => ?_, fun k q hk => ?_⟩
  · obtain ⟨-, rfl⟩ := zws_of hi
    obtain ⟨-, rfl⟩ := zws_of hj
    exact Nat.add_left_cancel h
  · obtain ⟨h1, rfl⟩ := zws_of hk
    exact ⟨Nat.le_add_right _ _, Nat.add_lt_add_left h1 _⟩
theorem zws_set (E : zEnv) (mem mem' : zMem) {k : Nat} (hk : k < zNC) (ho : ∀ a, a ≠ k → mem' a = mem a) : (zws E mem).set k (zEb E + k, zel E k (mem' k)) = zws E mem' := by
  apply List.ext_getElem?
  intro i
  by_cases hik : i = k
  · subst hik
    rw [zws_at E mem' hk, List.getElem?_set_self]
    unfold zws
    rw [List.length_map, List.length_range]
    exact hk
  · rw [List.getElem?_set_ne (Ne.symm hik)]
    by_cases hi : i < zNC
    · rw [zws_at E mem hi, zws_at E mem' hi, ho i hik]
    · rw [List.getElem?_eq_none, List.getElem?_eq_none] <;> · unfold zws; rw [List.length_map, List.length_range]; omega
theorem zup_o (mem : zMem) (k j : Nat) (v : Int) (a : Nat) (h : a ≠ k) : zup mem k j v a = mem a := by
  funext i
  unfold zup
  rw [if_neg (fun q => h q.1)]
theorem zcp_o (mem : zMem) (k sp t dp n : Nat) (a : Nat) (h : a ≠ t) : zcp mem k sp t dp n a = mem a := by
  funext i
  unfold zcp
  rw [if_neg (fun q => h q.1)]
theorem zup_rg {mem : zMem} {k j : Nat} {v : Int} (h : zrg mem) (h1 : zkd k = 103 → zJ v) (h2 : zkd k ≠ 103 → zI v) : zrg (zup mem k j v) := by
  intro a i
  unfold zup
  by_cases hq : a = k ∧ i = j
  · rw [if_pos hq, hq.1]
    exact ⟨h1, h2⟩
  · rw [if_neg hq]
    exact h a i
theorem zcp_rg {mem : zMem} {k sp t dp n : Nat} (h : zrg mem) (hk : zkd k = zkd t) : zrg (zcp mem k sp t dp n) := by
  intro a i
  unfold zcp
  by_cases hq : a = t ∧ dp ≤ i ∧ i < dp + n
  · rw [if_pos hq, hq.1, ← hk]
    exact h k _
  · rw [if_neg hq]
    exact h a i
theorem zkd_lt {k : Nat} (h : zkd k < 999) : k < zNC := by
  rcases Nat.lt_or_ge k zNC with h1 | h1
  · exact h1
  · exfalso
    have h2 : zSH.length ≤ k := h1
    unfold zkd zsh at h
    have h3 : zSH[k]? = none := List.getElem?_eq_none h2
    simp [List.getD, h3] at h
theorem zel_o {k : Nat} (E : zEnv) (f : Nat → Int) (h : zkd k < 100) : zel E k f = .inr (zkd k, (List.range (zln k)).map fun j => zfv E k j (f j)) := if_pos h
theorem zel_i {k : Nat} (E : zEnv) (f : Nat → Int) (h1 : 100 ≤ zkd k) (h2 : zkd k < 103) : zel E k f = .inl (zEc E (zkd k), zln k, .inl fun j => Int32.ofInt (f j)) := by
  unfold zel
  rw [if_neg (by omega), if_pos h2]
theorem zel_l {k : Nat} (E : zEnv) (f : Nat → Int) (h : zkd k = 103) : zel E k f = .inl (zEc E 103, zln k, .inr (.inl fun j => Int64.ofInt (f j))) := by
  unfold zel
  rw [if_neg (by omega), if_neg (by omega), if_pos h, h]
theorem zel_r {k : Nat} (E : zEnv) (f : Nat → Int) (h : 110 ≤ zkd k) : zel E k f = .inl (zEc E (zkd k), zln k, .inr (.inr (.inr (.inr fun j => some (zEb E + zrt k j))))) := by
  unfold zel
  rw [if_neg (by omega), if_neg (by omega), if_neg (by omega)]
/-- every class's number stands for as many fields as the block's cells of that kind have -/
theorem zsh_cl : ∀ k, k < zNC → zkd k < 100 → (vwCl.getD (zkd k) ("", (fun _ => ("", "", "", false)), 0)).2.2 = zln k := by decide +kernel
end
end
section
section
/-! The mini machine: one instruction ('zone'), a piece of code up to cuts ('zseg'), contracts ('zC'), the rest of a method ('zG'). -/
/-- a method: key; class; code (pc, instruction, length); fields (index, class, slot, place of the word); calls (index, key, kind, arguments, places); constants (index, kind as a value's tag, value, place); the script's length and one, and its ints, for the law alone. Kinds of calls: below 100 on an object of that class; 100 static; 101 arraycopy; 102 on a string -/
abbrev zMt : Type := zKey × String × List (Nat × Instr × Nat) × List (Nat × Nat × Nat × Nat) × List (Nat × zKey × Nat × Nat × List Nat) × List (Nat × Nat × Int × Nat) × Nat × (Nat → Int)
def zMk (M : zMt) : zKey := M.1
def zMo (M : zMt) : String := M.2.1
def zMc (M : zMt) : List (Nat × Instr × Nat) := M.2.2.1
def zMf (M : zMt) : List (Nat × Nat × Nat × Nat) := M.2.2.2.1
def zMm (M : zMt) : List (Nat × zKey × Nat × Nat × List Nat) := M.2.2.2.2.1
def zMn (M : zMt) : List (Nat × Nat × Int × Nat) := M.2.2.2.2.2.1
def zMx (M : zMt) : Nat × (Nat → Int) := M.2.2.2.2.2.2
def zKy (K : zKey) : MethodName := K.1
def zKb (K : zKey) : ByteArray := K.2.1
def zKl (K : zKey) : Nat := K.2.2.1
def zKr (K : zKey) : Option FieldType := K.2.2.2
def zat {α : Type} : List (Nat × α) → Nat → Option α
  | [], _ => none
  | (i, a) :: r, k => match Nat.beq i k with
    | true => some a
    | false => zat r k
def zgood : List Cond := lw_tbl.filter goodWord
def zW (K : zKey) : List Cond := Cond.code (zKy K) (zKb K) (zKl K) (zKr K) :: zgood
def zRm (d : Nat) : Room := { frames := d, cells := 0, slots := 0, locals := 100 * d }
/-- the string constants: index in Tape's file, text, bytes -/
def zSi : List Nat := [90, 99, 104, 109, 114, 148, 150, 152]
def zSt : List String := ["rooms", "law", "door", "one", "walled", "red", "green", "blue"]
def zSb : List (List Int32) := [[114, 111, 111, 109, 115], [108, 97, 119], [100, 111, 111, 114], [111, 110, 101], [119, 97, 108, 108, 101, 100], [114, 101, 100], [103, 114, 101, 101, 110], [98, 108, 117, 101]]
def zSl : List Nat := [5, 3, 4, 3, 6, 3, 5, 4]
def zHV : List Int := [-1431655766, -858993460, -252645136, -16711936, -65536]
/-- what lies outside the block: strings, HAVING, the script, statics of the JDK -/
def zXt (E : zEnv) (U : State) (H : Heap) : Prop :=
  vk_S 8 zSl zSb (zEk E) (zEv E) (zA E) U H ∧ (∀ i, i < 8 → vk_R "OtherDoor$Tape" (zSi.getD i 0) (zSt.getD i "") (zEk E i) U) ∧
  va_Z "OtherDoor$Rounds" "HAVING" "[I" (.ref (zEh E)) (zA E) U H ∧ va_T .int (zEh E) 5 (fun j => .int (Int32.ofInt (zHV.getD j 0))) (zA E) U H ∧
  (va_X (zEs E) (zEl E) (zEx E) U H ∧ zEl E ≤ 3072 ∧ ¬ zA E (zEs E)) ∧
  va_Z "java/lang/String" "COMPACT_STRINGS" "Z" (.int 1) (zA E) U H ∧ va_Zq "jdk/internal/util/Preconditions" "SIOOBE_FORMATTER" "Ljava/util/function/BiFunction;" (zA E) U H
def zOn (E : zEnv) (U : State) : Prop := va_K (zED E) vwCl (ztys E) U ∧ zXt E U U.heap
def zHp (E : zEnv) (mem : zMem) (H : Heap) : Prop := zrg mem ∧ va_P (zED E) vwCl (zws E mem) H
def zPc (E : zEnv) (av : List zV) (mem : zMem) : Array Value → State → Prop := fun v U => v = (av.map (zv E)).toArray ∧ (∀ x ∈ av, zok x) ∧ zOn E U ∧ zHp E mem U.heap
/-- the tag of a result -/
def zrtag : Option FieldType → Nat
  | none => 9
  | some .long => 1
  | some _ => 0
def zret (E : zEnv) (r : Option FieldType) (x : Int) : Option Value := match r with
  | none => none
  | some .long => some (.long (Int64.ofInt x))
  | some _ => some (.int (Int32.ofInt x))
def zQc (E : zEnv) (r : Option FieldType) (Q : Int → zMem → Prop) : Array Value → State → Outcome → State → Prop := fun _ st o t =>
  (∃ (x : Int) (mem' : zMem), o = .returned (zret E r x) ∧ zok (zrtag r, x) ∧ Q x mem' ∧ zHp E mem' t.heap) ∧ va_F (zA E) st t
/-- THE CONTRACT of a method: called with av in a world that holds mem, at d frames and more, it returns, and Q holds of its answer and of the memory behind it -/
def zC (d : Nat) (K : zKey) (av : List zV) (mem : zMem) (Q : Int → zMem → Prop) : Prop :=
  ∀ (l : Launch) (E : zEnv) (d' : Nat), d ≤ d' → Met l (zKy K) (zW K) (zRm d') (zPc E av mem) (zQc E (zKr K) Q) 0 0 (zA E)
def zCk (d : Nat) (K : zKey) (av : List zV) (mem : zMem) (Q : Int → zMem → Prop) : Prop := match d with
  | 0 => False
  | e + 1 => zC e K av mem Q
/-- what a method's body knows of its place -/
def zCx (d : Nat) (M : zMt) (E : zEnv) (p : Program) (R : Room) (s : State) (m : MethodId) (args : Array Value) (meth : Method) (c : Code) : Prop :=
  p.tables.exec = Jvm.exec ∧ c.code = zKb (zMk M) ∧ c.maxLocals = zKl (zMk M) ∧ s.vm.findClass (zMo M) = some m.cls ∧ (∀ w ∈ zgood, w.before args s = true) ∧ d ≤ R.frames ∧ 100 * d ≤ R.locals ∧ zOn E s ∧ ((zMx M).1 = 0 ∨ zMx M = (zEl E + 1, fun j => (zEx E j).toInt))
/-- the locals, as far as they are known -/
def zLo (E : zEnv) (n : Nat) (ls : List zV) (lj : Array Slot) : Prop :=
  lj.size = n ∧ ls.length ≤ n ∧ lv_wf lj ∧ ∀ (i : Nat) (v : zV), ls[i]? = some v → v.1 < 9 → lj[i]? = some (.val (zv E v))
/-- the method's end is answered for: at a return instruction with an answer for which Q holds -/
def zRt (M : zMt) (E : zEnv) (Q : Int → zMem → Prop) (p : Program) (l : Launch) (e : Env) (R : Room) (s : State) (m : MethodId) (args : Array Value) (below : List Frame) (meth : Method) (c : Code) (cells slots : Nat) (Qf : State → Prop) : Prop :=
  ∀ (x : Int) (mem' : zMem) (H' : Heap) (locs' : List Loc) (pc : Nat) (lj : Array Slot) (i : Instr), Q x mem' → zok (zrtag (zKr (zMk M)), x) → (zKr (zMk M) = some .boolean → x = 0 ∨ x = 1) → zHp E mem' H' → va_S (zA E) s.heap H' locs' →
    decode (zKb (zMk M)) pc = .ok (i, 1) → ((zKr (zMk M) = none ∧ i = .return_) ∨ (zKr (zMk M) = some .long ∧ i = .lreturn) ∨ ((zKr (zMk M) = some .int ∨ zKr (zMk M) = some .boolean) ∧ i = .ireturn)) →
    W p l e R s m args below meth c H' locs' cells slots Qf (F0 m pc lj (zret E (zKr (zMk M)) x).toList)
/-- THE REST of a method: from pc, with locals ls, stack st and memory mem, it returns, and Q holds -/
def zG (d : Nat) (M : zMt) (pc : Nat) (ls st : List zV) (mem : zMem) (Q : Int → zMem → Prop) : Prop :=
  ∀ (p : Program) (l : Launch) (e : Env) (R : Room) (s : State) (m : MethodId) (args : Array Value) (below : List Frame) (meth : Method) (c : Code) (H : Heap) (locs : List Loc) (cells slots : Nat) (Qf : State → Prop) (E : zEnv) (lj : Array Slot),
    zCx d M E p R s m args meth c → cells ≤ R.cells → slots ≤ R.slots → zHp E mem H → va_S (zA E) s.heap H locs → zLo E (zKl (zMk M)) ls lj → (∀ v ∈ ls, zok v) → (∀ v ∈ st, zok v) → zRt M E Q p l e R s m args below meth c cells slots Qf →
    W p l e R s m args below meth c H locs cells slots Qf (F0 m pc lj (st.map (zv E)))
def zcmp : ClassFile.Cond → Int → Int → Prop
  | .eq, x, y => x = y
  | .ne, x, y => x ≠ y
  | .lt, x, y => x < y
  | .ge, x, y => y ≤ x
  | .gt, x, y => y < x
  | .le, x, y => x ≤ y
def ztgt (pc : Nat) (off : Int) : Nat := ((pc : Int) + off).toNat
def ztk : Nat → List zV → List zV → Option (List zV × List zV)
  | 0, st, acc => some (acc, st)
  | n + 1, v :: st, acc => ztk n st (v :: acc)
  | _ + 1, [], _ => none
def zpsh (t : Nat) (x : Int) (st : List zV) : List zV := match t with
  | 9 => st
  | t => (t, x) :: st
/-- a switch: the places in their order -/
def zsw (pc : Nat) (x : Int) (k : Nat → Prop) : List Int → Int → Prop
  | [], _ => True
  | o :: r, lo => (x = lo → k (ztgt pc o)) ∧ zsw pc x k r (lo + 1)
/-- the value that is stored in local i: what stood there goes; a long ahead of it must not be cut -/
def zst (ls : List zV) (i : Nat) (v : zV) (k : List zV → Prop) : Prop := match ls[i]? with
  | none => False
  | some _ => match i with
    | 0 => k (ls.set i v)
    | j + 1 => match (ls.getD j (9, 0)).1 with
      | 1 => False
      | _ => k (ls.set i v)
def zld (t : Nat) (ls : List zV) (i : Nat) (k : zV → Prop) : Prop := match ls[i]? with
  | some (s, x) => match Nat.beq s t with
    | true => k (s, x)
    | false => False
  | none => False
def zlda (ls : List zV) (i : Nat) (k : zV → Prop) : Prop := match ls[i]? with
  | some (2, x) => k (2, x)
  | some (3, x) => k (3, x)
  | some (5, x) => k (5, x)
  | _ => False
def zbin (st : List zV) (f : Int → Int → Int) (k : List zV → Prop) : Prop := match st with
  | (0, y) :: (0, x) :: r => k ((0, f x y) :: r)
  | _ => False
def zun (st : List zV) (f : Int → Int) (k : List zV → Prop) : Prop := match st with
  | (0, x) :: r => k ((0, f x) :: r)
  | _ => False
def zlbin (st : List zV) (f : Int → Int → Int) (k : List zV → Prop) : Prop := match st with
  | (1, y) :: (1, x) :: r => k ((1, f x y) :: r)
  | _ => False
def zlsh (st : List zV) (f : Int → Int → Int) (k : List zV → Prop) : Prop := match st with
  | (0, y) :: (1, x) :: r => k ((1, f x y) :: r)
  | _ => False
def zsm : List zV → Nat
  | [] => 0
  | (t, _) :: r => zcat t + zsm r
/-- the stack that waits below a call is short -/
def zrm (r : List zV) (P : Prop) : Prop := match Nat.ble (zsm r) 8 with
  | true => P
  | false => False
/-- ONE INSTRUCTION, goal first -/
def zone (d : Nat) (M : zMt) (Q : Int → zMem → Prop) (i : Instr) (pc : Nat) (ls st : List zV) (mem : zMem) (k : Nat → List zV → List zV → zMem → Prop) : Prop :=
  match i with
  | .iconst n => k (pc + 1) ls ((0, n) :: st) mem
  | .bipush n => k (pc + 2) ls ((0, n) :: st) mem
  | .sipush n => k (pc + 3) ls ((0, n) :: st) mem
  | .lconst n => k (pc + 1) ls ((1, Int.ofNat n.val) :: st) mem
  | .iload_n n => zld 0 ls n.val (fun v => k (pc + 1) ls (v :: st) mem)
  | .iload n => zld 0 ls n (fun v => k (pc + 2) ls (v :: st) mem)
  | .lload_n n => zld 1 ls n.val (fun v => k (pc + 1) ls (v :: st) mem)
  | .lload n => zld 1 ls n (fun v => k (pc + 2) ls (v :: st) mem)
  | .aload_n n => zlda ls n.val (fun v => k (pc + 1) ls (v :: st) mem)
  | .aload n => zlda ls n (fun v => k (pc + 2) ls (v :: st) mem)
  | .istore_n n => match st with
    | (0, x) :: r => ∀ z : Int, z = x → zst ls n.val (0, z) (fun l => k (pc + 1) l r mem)
    | _ => False
  | .istore n => match st with
    | (0, x) :: r => ∀ z : Int, z = x → zst ls n (0, z) (fun l => k (pc + 2) l r mem)
    | _ => False
  | .astore_n n => match st with
    | (2, x) :: r => zst ls n.val (2, x) (fun l => k (pc + 1) l r mem)
    | _ => False
  | .astore n => match st with
    | (2, x) :: r => zst ls n (2, x) (fun l => k (pc + 2) l r mem)
    | _ => False
  | .lstore_n n => match st with
    | (1, x) :: r => ∀ z : Int, z = x → zst ls n.val (1, z) (fun l => match l[n.val + 1]? with
      | none => False
      | some _ => k (pc + 1) (l.set (n.val + 1) (9, 0)) r mem)
    | _ => False
  | .lstore n => match st with
    | (1, x) :: r => ∀ z : Int, z = x → zst ls n (1, z) (fun l => match l[n + 1]? with
      | none => False
      | some _ => k (pc + 2) (l.set (n + 1) (9, 0)) r mem)
    | _ => False
  | .iinc n c => zld 0 ls n (fun v => ∀ z : Int, z = zadd v.2 c → zst ls n (0, z) (fun l => k (pc + 3) l st mem))
  | .iadd => zbin st zadd (fun t => k (pc + 1) ls t mem)
  | .isub => zbin st zsub (fun t => k (pc + 1) ls t mem)
  | .imul => zbin st zmul (fun t => k (pc + 1) ls t mem)
  | .iand => zbin st zand (fun t => k (pc + 1) ls t mem)
  | .ior => zbin st zor (fun t => k (pc + 1) ls t mem)
  | .ixor => zbin st zxor (fun t => k (pc + 1) ls t mem)
  | .ishl => zbin st zshl (fun t => k (pc + 1) ls t mem)
  | .ishr => zbin st zshr (fun t => k (pc + 1) ls t mem)
  | .iushr => zbin st zushr (fun t => k (pc + 1) ls t mem)
  | .idiv => match st with
    | (0, y) :: (0, x) :: r => y ≠ 0 ∧ k (pc + 1) ls ((0, zdiv x y) :: r) mem
    | _ => False
  | .irem => match st with
    | (0, y) :: (0, x) :: r => y ≠ 0 ∧ k (pc + 1) ls ((0, zrem x y) :: r) mem
    | _ => False
  | .ineg => zun st zneg (fun t => k (pc + 1) ls t mem)
  | .i2b => zun st zi2b (fun t => k (pc + 1) ls t mem)
  | .i2s => zun st zi2s (fun t => k (pc + 1) ls t mem)
  | .i2c => zun st zi2c (fun t => k (pc + 1) ls t mem)
  | .i2l => match st with
    | (0, x) :: r => k (pc + 1) ls ((1, x) :: r) mem
    | _ => False
  | .l2i => match st with
    | (1, x) :: r => k (pc + 1) ls ((0, zl2i x) :: r) mem
    | _ => False
  | .ladd => zlbin st zladd (fun t => k (pc + 1) ls t mem)
  | .lmul => zlbin st zlmul (fun t => k (pc + 1) ls t mem)
  | .land => zlbin st zland (fun t => k (pc + 1) ls t mem)
  | .lor => zlbin st zlor (fun t => k (pc + 1) ls t mem)
  | .lshl => zlsh st zlshl (fun t => k (pc + 1) ls t mem)
  | .lshr => zlsh st zlshr (fun t => k (pc + 1) ls t mem)
  | .lushr => zlsh st zlushr (fun t => k (pc + 1) ls t mem)
  | .lcmp => match st with
    | (1, y) :: (1, x) :: r => k (pc + 1) ls ((0, zlcmp x y) :: r) mem
    | _ => False
  | .dup => match st with
    | (0, x) :: r => k (pc + 1) ls ((0, x) :: (0, x) :: r) mem
    | (2, x) :: r => k (pc + 1) ls ((2, x) :: (2, x) :: r) mem
    | _ => False
  | .dup2 => match st with
    | (0, x) :: (2, y) :: r => k (pc + 1) ls ((0, x) :: (2, y) :: (0, x) :: (2, y) :: r) mem
    | _ => False
  | .pop => match st with
    | (0, _) :: r => k (pc + 1) ls r mem
    | (2, _) :: r => k (pc + 1) ls r mem
    | _ => False
  | .goto off => k (ztgt pc off) ls st mem
  | .ifCond c off => match st with
    | (0, x) :: r => (zcmp c x 0 → k (ztgt pc off) ls r mem) ∧ (¬ zcmp c x 0 → k (pc + 3) ls r mem)
    | _ => False
  | .if_icmp c off => match st with
    | (0, y) :: (0, x) :: r => (zcmp c x y → k (ztgt pc off) ls r mem) ∧ (¬ zcmp c x y → k (pc + 3) ls r mem)
    | _ => False
  | .tableswitch df lo hi offs => match st with
    | (0, x) :: r => zsw pc x (fun t => k t ls r mem) offs.toList lo ∧ (x < lo ∨ hi < x → k (ztgt pc df) ls r mem)
    | _ => False
  | .getfield idx => match st with
    | (2, h) :: r => match zat (zMf M) idx with
      | some (ci, sl, _) => zkd h.toNat = ci ∧ (match zfk ci sl with
        | 2 => k (pc + 3) ls ((2, Int.ofNat (zrt h.toNat sl)) :: r) mem
        | _ => k (pc + 3) ls ((0, mem h.toNat sl) :: r) mem)
      | none => False
    | _ => False
  | .putfield idx => match st with
    | (0, x) :: (2, h) :: r => match zat (zMf M) idx with
      | some (ci, sl, _) => zkd h.toNat = ci ∧ (match zfk ci sl with
        | 0 => ∀ mem' : zMem, mem' = zup mem h.toNat sl x → k (pc + 3) ls r mem'
        | 1 => (x = 0 ∨ x = 1) ∧ ∀ mem' : zMem, mem' = zup mem h.toNat sl x → k (pc + 3) ls r mem'
        | _ => False)
      | none => False
    | _ => False
  | .iaload => match st with
    | (0, i) :: (2, a) :: r => (zkd a.toNat = 100 ∧ 0 ≤ i ∧ i < zln a.toNat) ∧ k (pc + 1) ls ((0, mem a.toNat i.toNat) :: r) mem
    | (0, i) :: (4, _) :: r => (0 ≤ i ∧ i < 5) ∧ k (pc + 1) ls ((0, zHV.getD i.toNat 0) :: r) mem
    | (0, i) :: (5, _) :: r => (0 ≤ i ∧ i + 1 < (zMx M).1) ∧ k (pc + 1) ls ((0, (zMx M).2 i.toNat) :: r) mem
    | _ => False
  | .baload => match st with
    | (0, i) :: (2, a) :: r => ((zkd a.toNat = 101 ∨ zkd a.toNat = 102) ∧ 0 ≤ i ∧ i < zln a.toNat) ∧ k (pc + 1) ls ((0, mem a.toNat i.toNat) :: r) mem
    | _ => False
  | .laload => match st with
    | (0, i) :: (2, a) :: r => (zkd a.toNat = 103 ∧ 0 ≤ i ∧ i < zln a.toNat) ∧ k (pc + 1) ls ((1, mem a.toNat i.toNat) :: r) mem
    | _ => False
  | .aaload => match st with
    | (0, i) :: (2, a) :: r => (110 ≤ zkd a.toNat ∧ zkd a.toNat ≤ 113 ∧ 0 ≤ i ∧ i < zln a.toNat) ∧ k (pc + 1) ls ((2, Int.ofNat (zrt a.toNat i.toNat)) :: r) mem
    | _ => False
  | .iastore => match st with
    | (0, x) :: (0, i) :: (2, a) :: r => (zkd a.toNat = 100 ∧ 0 ≤ i ∧ i < zln a.toNat) ∧ ∀ mem' : zMem, mem' = zup mem a.toNat i.toNat x → k (pc + 1) ls r mem'
    | _ => False
  | .bastore => match st with
    | (0, x) :: (0, i) :: (2, a) :: r => ((zkd a.toNat = 101 ∧ -128 ≤ x ∧ x < 128 ∨ zkd a.toNat = 102 ∧ (x = 0 ∨ x = 1)) ∧ 0 ≤ i ∧ i < zln a.toNat) ∧ ∀ mem' : zMem, mem' = zup mem a.toNat i.toNat x → k (pc + 1) ls r mem'
    | _ => False
  | .lastore => match st with
    | (1, x) :: (0, i) :: (2, a) :: r => (zkd a.toNat = 103 ∧ 0 ≤ i ∧ i < zln a.toNat) ∧ ∀ mem' : zMem, mem' = zup mem a.toNat i.toNat x → k (pc + 1) ls r mem'
    | _ => False
  | .arraylength => match st with
    | (2, a) :: r => (100 ≤ zkd a.toNat ∧ zkd a.toNat ≤ 103) ∧ k (pc + 1) ls ((0, (zln a.toNat : Int)) :: r) mem
    | (5, _) :: r => (zMx M).1 ≠ 0 ∧ k (pc + 1) ls ((0, ((zMx M).1 : Int) - 1) :: r) mem
    | _ => False
  | .ldc_w idx => match zat (zMn M) idx with
    | some (0, v, _) => k (pc + 3) ls ((0, v) :: st) mem
    | _ => False
  | .ldc2_w idx => match zat (zMn M) idx with
    | some (1, v, _) => k (pc + 3) ls ((1, v) :: st) mem
    | _ => False
  | .ldc idx => match zat (zMn M) idx with
    | some (3, v, _) => k (pc + 2) ls ((3, v) :: st) mem
    | _ => False
  | .getstatic idx => match zat (zMn M) idx with
    | some (4, _, _) => k (pc + 3) ls ((4, 0) :: st) mem
    | _ => False
  | .invokevirtual idx => match zat (zMm M) idx with
    | some (K, kd, n, _) => match ztk (n + 1) st [] with
      | some ((2, h) :: as, r) => match Nat.blt kd 100 with
        | true => zkd h.toNat = kd ∧ zrm r (zCk d K ((2, h) :: as) mem (fun x mem' => k (pc + 3) ls (zpsh (zrtag (zKr K)) x r) mem'))
        | false => False
      | some ((3, h) :: as, r) => (kd = 102 ∧ 0 ≤ h ∧ h < 8) ∧ zrm r (zCk d K ((3, h) :: as) mem (fun x mem' => k (pc + 3) ls (zpsh (zrtag (zKr K)) x r) mem'))
      | _ => False
    | none => False
  | .invokestatic idx => match zat (zMm M) idx with
    | some (K, 100, n, _) => match ztk n st [] with
      | some (as, r) => zrm r (zCk d K as mem (fun x mem' => k (pc + 3) ls (zpsh (zrtag (zKr K)) x r) mem'))
      | none => False
    | some (_, 101, _, _) => match st with
      | (0, n) :: (0, dp) :: (2, t) :: (0, sp) :: (2, a) :: r => (zkd a.toNat = 100 ∧ zkd t.toNat = 100 ∧ 0 ≤ sp ∧ 0 ≤ dp ∧ 0 ≤ n ∧ sp + n ≤ zln a.toNat ∧ dp + n ≤ zln t.toNat) ∧ zrm r (d ≠ 0 ∧ ∀ mem' : zMem, mem' = zcp mem a.toNat sp.toNat t.toNat dp.toNat n.toNat → k (pc + 3) ls r mem')
      | _ => False
    | _ => False
  | .ireturn => match st with
    | [(0, x)] => match zKr (zMk M) with
      | some .int => Q x mem
      | some .boolean => (x = 0 ∨ x = 1) ∧ Q x mem
      | _ => False
    | _ => False
  | .lreturn => match st with
    | [(1, x)] => match zKr (zMk M) with
      | some .long => Q x mem
      | _ => False
    | _ => False
  | .return_ => match st with
    | [] => match zKr (zMk M) with
      | none => Q 0 mem
      | _ => False
    | _ => False
  | _ => False
/-- a piece of code, up to a cut -/
def zseg (d : Nat) (M : zMt) (Q : Int → zMem → Prop) (cuts : List Nat) : Nat → Nat → List zV → List zV → zMem → Prop
  | 0, pc, ls, st, mem => zG d M pc ls st mem Q
  | f + 1, pc, ls, st, mem => match cuts.elem pc with
    | true => zG d M pc ls st mem Q
    | false => match zat (zMc M) pc with
      | some (i, _) => zone d M Q i pc ls st mem (zseg d M Q cuts f)
      | none => False
/-- from a cut on to the next ones -/
def zent (d : Nat) (M : zMt) (Q : Int → zMem → Prop) (cuts : List Nat) (f pc : Nat) (ls st : List zV) (mem : zMem) : Prop := match zat (zMc M) pc with
  | some (i, _) => zone d M Q i pc ls st mem (zseg d M Q cuts f)
  | none => False
end
end
section
section
/-! Each instruction of the mini machine is what the machine does (printed by wip/whole/gen_sound.py). -/
theorem zoc {v : zV} {r : List zV} (h : zok v) (hr : ∀ u ∈ r, zok u) : ∀ u ∈ v :: r, zok u := List.forall_mem_cons.mpr ⟨h, hr⟩
theorem zot {v : zV} {r : List zV} (h : ∀ u ∈ v :: r, zok u) : ∀ u ∈ r, zok u := (List.forall_mem_cons.mp h).2
theorem zoh {v : zV} {r : List zV} (h : ∀ u ∈ v :: r, zok u) : zok v := (List.forall_mem_cons.mp h).1
variable {d : Nat} {M : zMt} {Q : Int → zMem → Prop} {pc : Nat} {ls st : List zV} {mem : zMem} {k : Nat → List zV → List zV → zMem → Prop}
theorem zs_iconst {n : Int} (hd : decode (zKb (zMk M)) pc = .ok (.iconst n, 1)) (hn : zI n) (hk : ∀ pc ls st mem, k pc ls st mem → zG d M pc ls st mem Q) (h : k (pc + 1) ls ((0, n) :: st) mem) : zG d M pc ls st mem Q := by
  intro p l e R s m args below meth c H locs cells slots Qf E lj C hc hs hH hS hL hl hst hR
  obtain ⟨hx, hb, hml, hown, hts, hfr, hlo, hOn, hscr⟩ := id C
  exact lv_iconst hx hb hd rfl (hk _ _ _ _ h p l e R s m args below meth c _ _ cells slots Qf E _ C hc hs hH hS hL hl (zoc hn hst) hR)
theorem zb8 {n : Int} (h : -128 ≤ n ∧ n < 128) : (Int8.ofInt n).toInt32 = Int32.ofInt n := by
  rw [← Int32.toInt_inj, Int8.toInt_toInt32, Int8.toInt_ofInt_of_le (by omega) (by omega), zI_to (by unfold zI; omega)]
theorem zb16 {n : Int} (h : -32768 ≤ n ∧ n < 32768) : (Int16.ofInt n).toInt32 = Int32.ofInt n := by
  rw [← Int32.toInt_inj, Int16.toInt_toInt32, Int16.toInt_ofInt_of_le (by omega) (by omega), zI_to (by unfold zI; omega)]
theorem zs_bipush {n : Int} (hd : decode (zKb (zMk M)) pc = .ok (.bipush n, 2)) (hn : -128 ≤ n ∧ n < 128) (hk : ∀ pc ls st mem, k pc ls st mem → zG d M pc ls st mem Q) (h : k (pc + 2) ls ((0, n) :: st) mem) : zG d M pc ls st mem Q := by
  intro p l e R s m args below meth c H locs cells slots Qf E lj C hc hs hH hS hL hl hst hR
  obtain ⟨hx, hb, hml, hown, hts, hfr, hlo, hOn, hscr⟩ := id C
  exact lv_bipush hx hb hd (zb8 hn) (hk _ _ _ _ h p l e R s m args below meth c _ _ cells slots Qf E _ C hc hs hH hS hL hl (zoc (show zI n by unfold zI; omega) hst) hR)
theorem zs_sipush {n : Int} (hd : decode (zKb (zMk M)) pc = .ok (.sipush n, 3)) (hn : -32768 ≤ n ∧ n < 32768) (hk : ∀ pc ls st mem, k pc ls st mem → zG d M pc ls st mem Q) (h : k (pc + 3) ls ((0, n) :: st) mem) : zG d M pc ls st mem Q := by
  intro p l e R s m args below meth c H locs cells slots Qf E lj C hc hs hH hS hL hl hst hR
  obtain ⟨hx, hb, hml, hown, hts, hfr, hlo, hOn, hscr⟩ := id C
  exact lv_sipush hx hb hd (zb16 hn) (hk _ _ _ _ h p l e R s m args below meth c _ _ cells slots Qf E _ C hc hs hH hS hL hl (zoc (show zI n by unfold zI; omega) hst) hR)
theorem zs_lconst {n : Fin 2} (hd : decode (zKb (zMk M)) pc = .ok (.lconst n, 1)) (hk : ∀ pc ls st mem, k pc ls st mem → zG d M pc ls st mem Q) (h : k (pc + 1) ls ((1, Int.ofNat n.val) :: st) mem) : zG d M pc ls st mem Q := by
  intro p l e R s m args below meth c H locs cells slots Qf E lj C hc hs hH hS hL hl hst hR
  obtain ⟨hx, hb, hml, hown, hts, hfr, hlo, hOn, hscr⟩ := id C
  refine lv_lconst hx hb hd (v := Int64.ofInt (Int.ofNat n.val)) ?_ (hk _ _ _ _ h p l e R s m args below meth c _ _ cells slots Qf E _ C hc hs hH hS hL hl (zoc (show zJ _ by unfold zJ; have := n.isLt; simp only [Int.ofNat_eq_natCast]; omega) hst) hR)
  rcases n with ⟨n, hn⟩
  rcases (show n = 0 ∨ n = 1 by omega) with rfl | rfl
  · show Int64.ofNat 0 = Int64.ofInt (Int.ofNat 0)
    decide +kernel
  · show Int64.ofNat 1 = Int64.ofInt (Int.ofNat 1)
    decide +kernel
theorem zLo_at {E : zEnv} {n i : Nat} {ls : List zV} {lj : Array Slot} {v : zV} (h : zLo E n ls lj) (hi : ls[i]? = some v) (hv : v.1 < 9) : lj[i]? = some (.val (zv E v)) := h.2.2.2 i v hi hv
theorem zok_at {i : Nat} {ls : List zV} {v : zV} (h : ∀ u ∈ ls, zok u) (hi : ls[i]? = some v) : zok v := h v (List.mem_of_getElem? hi)
theorem zld_spec {t : Nat} {ls : List zV} {i : Nat} {k : zV → Prop} (h : zld t ls i k) : ∃ x, ls[i]? = some (t, x) ∧ k (t, x) := by
  unfold zld at h
  split at h
  · rename_i s x hs
    split at h
    · rename_i hb
      have := Nat.eq_of_beq_eq_true hb
      subst this
      exact ⟨x, hs, h⟩
    · exact h.elim
  · exact h.elim
theorem zlda_spec {ls : List zV} {i : Nat} {k : zV → Prop} (h : zlda ls i k) : ∃ t x, ls[i]? = some (t, x) ∧ (t = 2 ∨ t = 3 ∨ t = 5) ∧ k (t, x) := by
  unfold zlda at h
  split at h
  · rename_i x hs
    exact ⟨2, x, hs, Or.inl rfl, h⟩
  · rename_i x hs
    exact ⟨3, x, hs, Or.inr (Or.inl rfl), h⟩
  · rename_i x hs
    exact ⟨5, x, hs, Or.inr (Or.inr rfl), h⟩
  · exact h.elim
theorem zs_iload_n {n : Fin 4} (hd : decode (zKb (zMk M)) pc = .ok (.iload_n n, 1)) (hk : ∀ pc ls st mem, k pc ls st mem → zG d M pc ls st mem Q) (h : zld 0 ls n.val (fun v => k (pc + 1) ls (v :: st) mem)) : zG d M pc ls st mem Q := by
  intro p l e R s m args below meth c H locs cells slots Qf E lj C hc hs hH hS hL hl hst hR
  obtain ⟨hx, hb, hml, hown, hts, hfr, hlo, hOn, hscr⟩ := id C
  obtain ⟨x, hi, h⟩ := zld_spec h
  exact lv_iload_n hx hb hd rfl (zLo_at hL hi (by show _ < 9; omega)) (hk _ _ _ _ h p l e R s m args below meth c _ _ cells slots Qf E _ C hc hs hH hS hL hl (zoc (zok_at hl hi) hst) hR)
theorem zs_iload {n : Nat} (hd : decode (zKb (zMk M)) pc = .ok (.iload n, 2)) (hk : ∀ pc ls st mem, k pc ls st mem → zG d M pc ls st mem Q) (h : zld 0 ls n (fun v => k (pc + 2) ls (v :: st) mem)) : zG d M pc ls st mem Q := by
  intro p l e R s m args below meth c H locs cells slots Qf E lj C hc hs hH hS hL hl hst hR
  obtain ⟨hx, hb, hml, hown, hts, hfr, hlo, hOn, hscr⟩ := id C
  obtain ⟨x, hi, h⟩ := zld_spec h
  exact lv_iload hx hb hd (zLo_at hL hi (by show _ < 9; omega)) (hk _ _ _ _ h p l e R s m args below meth c _ _ cells slots Qf E _ C hc hs hH hS hL hl (zoc (zok_at hl hi) hst) hR)
theorem zs_lload_n {n : Fin 4} (hd : decode (zKb (zMk M)) pc = .ok (.lload_n n, 1)) (hk : ∀ pc ls st mem, k pc ls st mem → zG d M pc ls st mem Q) (h : zld 1 ls n.val (fun v => k (pc + 1) ls (v :: st) mem)) : zG d M pc ls st mem Q := by
  intro p l e R s m args below meth c H locs cells slots Qf E lj C hc hs hH hS hL hl hst hR
  obtain ⟨hx, hb, hml, hown, hts, hfr, hlo, hOn, hscr⟩ := id C
  obtain ⟨x, hi, h⟩ := zld_spec h
  exact lv_lload_n hx hb hd rfl (zLo_at hL hi (by show _ < 9; omega)) (hk _ _ _ _ h p l e R s m args below meth c _ _ cells slots Qf E _ C hc hs hH hS hL hl (zoc (zok_at hl hi) hst) hR)
theorem zs_lload {n : Nat} (hd : decode (zKb (zMk M)) pc = .ok (.lload n, 2)) (hk : ∀ pc ls st mem, k pc ls st mem → zG d M pc ls st mem Q) (h : zld 1 ls n (fun v => k (pc + 2) ls (v :: st) mem)) : zG d M pc ls st mem Q := by
  intro p l e R s m args below meth c H locs cells slots Qf E lj C hc hs hH hS hL hl hst hR
  obtain ⟨hx, hb, hml, hown, hts, hfr, hlo, hOn, hscr⟩ := id C
  obtain ⟨x, hi, h⟩ := zld_spec h
  exact lv_lload hx hb hd (zLo_at hL hi (by show _ < 9; omega)) (hk _ _ _ _ h p l e R s m args below meth c _ _ cells slots Qf E _ C hc hs hH hS hL hl (zoc (zok_at hl hi) hst) hR)
theorem zs_aload_n {n : Fin 4} (hd : decode (zKb (zMk M)) pc = .ok (.aload_n n, 1)) (hk : ∀ pc ls st mem, k pc ls st mem → zG d M pc ls st mem Q) (h : zlda ls n.val (fun v => k (pc + 1) ls (v :: st) mem)) : zG d M pc ls st mem Q := by
  intro p l e R s m args below meth c H locs cells slots Qf E lj C hc hs hH hS hL hl hst hR
  obtain ⟨hx, hb, hml, hown, hts, hfr, hlo, hOn, hscr⟩ := id C
  obtain ⟨t, x, hi, ht, h⟩ := zlda_spec h
  rcases ht with rfl | rfl | rfl <;> exact lv_aload_n hx hb hd rfl (zLo_at hL hi (by show _ < 9; omega)) (hk _ _ _ _ h p l e R s m args below meth c _ _ cells slots Qf E _ C hc hs hH hS hL hl (zoc (zok_at hl hi) hst) hR)
theorem zs_aload {n : Nat} (hd : decode (zKb (zMk M)) pc = .ok (.aload n, 2)) (hk : ∀ pc ls st mem, k pc ls st mem → zG d M pc ls st mem Q) (h : zlda ls n (fun v => k (pc + 2) ls (v :: st) mem)) : zG d M pc ls st mem Q := by
  intro p l e R s m args below meth c H locs cells slots Qf E lj C hc hs hH hS hL hl hst hR
  obtain ⟨hx, hb, hml, hown, hts, hfr, hlo, hOn, hscr⟩ := id C
  obtain ⟨t, x, hi, ht, h⟩ := zlda_spec h
  rcases ht with rfl | rfl | rfl <;> exact lv_aload hx hb hd (zLo_at hL hi (by show _ < 9; omega)) (hk _ _ _ _ h p l e R s m args below meth c _ _ cells slots Qf E _ C hc hs hH hS hL hl (zoc (zok_at hl hi) hst) hR)
theorem zs_iadd (hd : decode (zKb (zMk M)) pc = .ok (.iadd, 1)) (hk : ∀ pc ls st mem, k pc ls st mem → zG d M pc ls st mem Q) (h : zbin st zadd (fun t => k (pc + 1) ls t mem)) : zG d M pc ls st mem Q := by
  intro p l e R s m args below meth c H locs cells slots Qf E lj C hc hs hH hS hL hl hst hR
  obtain ⟨hx, hb, hml, hown, hts, hfr, hlo, hOn, hscr⟩ := id C
  unfold zbin at h
  split at h
  · rename_i y x r
    have hg := hk _ _ _ _ h p l e R s m args below meth c _ _ cells slots Qf E _ C hc hs hH hS hL hl (zoc (zI_of _) (zot (zot hst))) hR
    refine lv_iadd hx hb hd ?_
    rw [List.map_cons, show zv E (0, zadd x y) = .int (Int32.ofInt (zadd x y)) from rfl, show Int32.ofInt (zadd x y) = _ from Int32.ofInt_toInt _] at hg
    exact hg
  · exact h.elim
theorem zs_isub (hd : decode (zKb (zMk M)) pc = .ok (.isub, 1)) (hk : ∀ pc ls st mem, k pc ls st mem → zG d M pc ls st mem Q) (h : zbin st zsub (fun t => k (pc + 1) ls t mem)) : zG d M pc ls st mem Q := by
  intro p l e R s m args below meth c H locs cells slots Qf E lj C hc hs hH hS hL hl hst hR
  obtain ⟨hx, hb, hml, hown, hts, hfr, hlo, hOn, hscr⟩ := id C
  unfold zbin at h
  split at h
  · rename_i y x r
    have hg := hk _ _ _ _ h p l e R s m args below meth c _ _ cells slots Qf E _ C hc hs hH hS hL hl (zoc (zI_of _) (zot (zot hst))) hR
    refine lv_isub hx hb hd ?_
    rw [List.map_cons, show zv E (0, zsub x y) = .int (Int32.ofInt (zsub x y)) from rfl, show Int32.ofInt (zsub x y) = _ from Int32.ofInt_toInt _] at hg
    exact hg
  · exact h.elim
theorem zs_imul (hd : decode (zKb (zMk M)) pc = .ok (.imul, 1)) (hk : ∀ pc ls st mem, k pc ls st mem → zG d M pc ls st mem Q) (h : zbin st zmul (fun t => k (pc + 1) ls t mem)) : zG d M pc ls st mem Q := by
  intro p l e R s m args below meth c H locs cells slots Qf E lj C hc hs hH hS hL hl hst hR
  obtain ⟨hx, hb, hml, hown, hts, hfr, hlo, hOn, hscr⟩ := id C
  unfold zbin at h
  split at h
  · rename_i y x r
    have hg := hk _ _ _ _ h p l e R s m args below meth c _ _ cells slots Qf E _ C hc hs hH hS hL hl (zoc (zI_of _) (zot (zot hst))) hR
    refine lv_imul hx hb hd ?_
    rw [List.map_cons, show zv E (0, zmul x y) = .int (Int32.ofInt (zmul x y)) from rfl, show Int32.ofInt (zmul x y) = _ from Int32.ofInt_toInt _] at hg
    exact hg
  · exact h.elim
theorem zs_iand (hd : decode (zKb (zMk M)) pc = .ok (.iand, 1)) (hk : ∀ pc ls st mem, k pc ls st mem → zG d M pc ls st mem Q) (h : zbin st zand (fun t => k (pc + 1) ls t mem)) : zG d M pc ls st mem Q := by
  intro p l e R s m args below meth c H locs cells slots Qf E lj C hc hs hH hS hL hl hst hR
  obtain ⟨hx, hb, hml, hown, hts, hfr, hlo, hOn, hscr⟩ := id C
  unfold zbin at h
  split at h
  · rename_i y x r
    have hg := hk _ _ _ _ h p l e R s m args below meth c _ _ cells slots Qf E _ C hc hs hH hS hL hl (zoc (zI_of _) (zot (zot hst))) hR
    refine lv_iand hx hb hd ?_
    rw [List.map_cons, show zv E (0, zand x y) = .int (Int32.ofInt (zand x y)) from rfl, show Int32.ofInt (zand x y) = _ from Int32.ofInt_toInt _] at hg
    exact hg
  · exact h.elim
theorem zs_ior (hd : decode (zKb (zMk M)) pc = .ok (.ior, 1)) (hk : ∀ pc ls st mem, k pc ls st mem → zG d M pc ls st mem Q) (h : zbin st zor (fun t => k (pc + 1) ls t mem)) : zG d M pc ls st mem Q := by
  intro p l e R s m args below meth c H locs cells slots Qf E lj C hc hs hH hS hL hl hst hR
  obtain ⟨hx, hb, hml, hown, hts, hfr, hlo, hOn, hscr⟩ := id C
  unfold zbin at h
  split at h
  · rename_i y x r
    have hg := hk _ _ _ _ h p l e R s m args below meth c _ _ cells slots Qf E _ C hc hs hH hS hL hl (zoc (zI_of _) (zot (zot hst))) hR
    refine lv_ior hx hb hd ?_
    rw [List.map_cons, show zv E (0, zor x y) = .int (Int32.ofInt (zor x y)) from rfl, show Int32.ofInt (zor x y) = _ from Int32.ofInt_toInt _] at hg
    exact hg
  · exact h.elim
theorem zs_ixor (hd : decode (zKb (zMk M)) pc = .ok (.ixor, 1)) (hk : ∀ pc ls st mem, k pc ls st mem → zG d M pc ls st mem Q) (h : zbin st zxor (fun t => k (pc + 1) ls t mem)) : zG d M pc ls st mem Q := by
  intro p l e R s m args below meth c H locs cells slots Qf E lj C hc hs hH hS hL hl hst hR
  obtain ⟨hx, hb, hml, hown, hts, hfr, hlo, hOn, hscr⟩ := id C
  unfold zbin at h
  split at h
  · rename_i y x r
    have hg := hk _ _ _ _ h p l e R s m args below meth c _ _ cells slots Qf E _ C hc hs hH hS hL hl (zoc (zI_of _) (zot (zot hst))) hR
    refine lv_ixor hx hb hd ?_
    rw [List.map_cons, show zv E (0, zxor x y) = .int (Int32.ofInt (zxor x y)) from rfl, show Int32.ofInt (zxor x y) = _ from Int32.ofInt_toInt _] at hg
    exact hg
  · exact h.elim
theorem zs_ishl (hd : decode (zKb (zMk M)) pc = .ok (.ishl, 1)) (hk : ∀ pc ls st mem, k pc ls st mem → zG d M pc ls st mem Q) (h : zbin st zshl (fun t => k (pc + 1) ls t mem)) : zG d M pc ls st mem Q := by
  intro p l e R s m args below meth c H locs cells slots Qf E lj C hc hs hH hS hL hl hst hR
  obtain ⟨hx, hb, hml, hown, hts, hfr, hlo, hOn, hscr⟩ := id C
  unfold zbin at h
  split at h
  · rename_i y x r
    have hg := hk _ _ _ _ h p l e R s m args below meth c _ _ cells slots Qf E _ C hc hs hH hS hL hl (zoc (zI_of _) (zot (zot hst))) hR
    refine lv_ishl hx hb hd ?_
    rw [List.map_cons, show zv E (0, zshl x y) = .int (Int32.ofInt (zshl x y)) from rfl, show Int32.ofInt (zshl x y) = _ from Int32.ofInt_toInt _] at hg
    exact hg
  · exact h.elim
theorem zs_ishr (hd : decode (zKb (zMk M)) pc = .ok (.ishr, 1)) (hk : ∀ pc ls st mem, k pc ls st mem → zG d M pc ls st mem Q) (h : zbin st zshr (fun t => k (pc + 1) ls t mem)) : zG d M pc ls st mem Q := by
  intro p l e R s m args below meth c H locs cells slots Qf E lj C hc hs hH hS hL hl hst hR
  obtain ⟨hx, hb, hml, hown, hts, hfr, hlo, hOn, hscr⟩ := id C
  unfold zbin at h
  split at h
  · rename_i y x r
    have hg := hk _ _ _ _ h p l e R s m args below meth c _ _ cells slots Qf E _ C hc hs hH hS hL hl (zoc (zI_of _) (zot (zot hst))) hR
    refine lv_ishr hx hb hd ?_
    rw [List.map_cons, show zv E (0, zshr x y) = .int (Int32.ofInt (zshr x y)) from rfl, show Int32.ofInt (zshr x y) = _ from Int32.ofInt_toInt _] at hg
    exact hg
  · exact h.elim
theorem zs_iushr (hd : decode (zKb (zMk M)) pc = .ok (.iushr, 1)) (hk : ∀ pc ls st mem, k pc ls st mem → zG d M pc ls st mem Q) (h : zbin st zushr (fun t => k (pc + 1) ls t mem)) : zG d M pc ls st mem Q := by
  intro p l e R s m args below meth c H locs cells slots Qf E lj C hc hs hH hS hL hl hst hR
  obtain ⟨hx, hb, hml, hown, hts, hfr, hlo, hOn, hscr⟩ := id C
  unfold zbin at h
  split at h
  · rename_i y x r
    exact lv_iushr hx hb hd (Int32.ofInt_toInt _).symm (hk _ _ _ _ h p l e R s m args below meth c _ _ cells slots Qf E _ C hc hs hH hS hL hl (zoc (zI_of _) (zot (zot hst))) hR)
  · exact h.elim
theorem zs_idiv (hd : decode (zKb (zMk M)) pc = .ok (.idiv, 1)) (hk : ∀ pc ls st mem, k pc ls st mem → zG d M pc ls st mem Q) (h : match st with
    | (0, y) :: (0, x) :: r => y ≠ 0 ∧ k (pc + 1) ls ((0, zdiv x y) :: r) mem
    | _ => False) : zG d M pc ls st mem Q := by
  intro p l e R s m args below meth c H locs cells slots Qf E lj C hc hs hH hS hL hl hst hR
  obtain ⟨hx, hb, hml, hown, hts, hfr, hlo, hOn, hscr⟩ := id C
  split at h
  · rename_i y x r
    obtain ⟨hy, h⟩ := h
    have hg := hk _ _ _ _ h p l e R s m args below meth c _ _ cells slots Qf E _ C hc hs hH hS hL hl (zoc (zI_of _) (zot (zot hst))) hR
    refine lv_idiv hx hb hd (fun q => hy ?_) ?_
    · rw [z0_i, zeq_i (zoh hst) (by unfold zI; omega)] at q
      exact q
    rw [List.map_cons, show zv E (0, zdiv x y) = .int (Int32.ofInt (zdiv x y)) from rfl, show Int32.ofInt (zdiv x y) = _ from Int32.ofInt_toInt _] at hg
    exact hg
  · exact h.elim
theorem zs_irem (hd : decode (zKb (zMk M)) pc = .ok (.irem, 1)) (hk : ∀ pc ls st mem, k pc ls st mem → zG d M pc ls st mem Q) (h : match st with
    | (0, y) :: (0, x) :: r => y ≠ 0 ∧ k (pc + 1) ls ((0, zrem x y) :: r) mem
    | _ => False) : zG d M pc ls st mem Q := by
  intro p l e R s m args below meth c H locs cells slots Qf E lj C hc hs hH hS hL hl hst hR
  obtain ⟨hx, hb, hml, hown, hts, hfr, hlo, hOn, hscr⟩ := id C
  split at h
  · rename_i y x r
    obtain ⟨hy, h⟩ := h
    have hg := hk _ _ _ _ h p l e R s m args below meth c _ _ cells slots Qf E _ C hc hs hH hS hL hl (zoc (zI_of _) (zot (zot hst))) hR
    refine lv_irem hx hb hd (fun q => hy ?_) ?_
    · rw [z0_i, zeq_i (zoh hst) (by unfold zI; omega)] at q
      exact q
    rw [List.map_cons, show zv E (0, zrem x y) = .int (Int32.ofInt (zrem x y)) from rfl, show Int32.ofInt (zrem x y) = _ from Int32.ofInt_toInt _] at hg
    exact hg
  · exact h.elim
theorem zs_ineg (hd : decode (zKb (zMk M)) pc = .ok (.ineg, 1)) (hk : ∀ pc ls st mem, k pc ls st mem → zG d M pc ls st mem Q) (h : zun st zneg (fun t => k (pc + 1) ls t mem)) : zG d M pc ls st mem Q := by
  intro p l e R s m args below meth c H locs cells slots Qf E lj C hc hs hH hS hL hl hst hR
  obtain ⟨hx, hb, hml, hown, hts, hfr, hlo, hOn, hscr⟩ := id C
  unfold zun at h
  split at h
  · rename_i x r
    have hg := hk _ _ _ _ h p l e R s m args below meth c _ _ cells slots Qf E _ C hc hs hH hS hL hl (zoc (zI_of _) (zot hst)) hR
    refine lv_ineg hx hb hd ?_
    rw [List.map_cons, show zv E (0, zneg x) = .int (Int32.ofInt (zneg x)) from rfl, show Int32.ofInt (zneg x) = _ from Int32.ofInt_toInt _] at hg
    exact hg
  · exact h.elim
theorem zs_i2b (hd : decode (zKb (zMk M)) pc = .ok (.i2b, 1)) (hk : ∀ pc ls st mem, k pc ls st mem → zG d M pc ls st mem Q) (h : zun st zi2b (fun t => k (pc + 1) ls t mem)) : zG d M pc ls st mem Q := by
  intro p l e R s m args below meth c H locs cells slots Qf E lj C hc hs hH hS hL hl hst hR
  obtain ⟨hx, hb, hml, hown, hts, hfr, hlo, hOn, hscr⟩ := id C
  unfold zun at h
  split at h
  · rename_i x r
    exact lv_i2b hx hb hd (Int32.ofInt_toInt _).symm (hk _ _ _ _ h p l e R s m args below meth c _ _ cells slots Qf E _ C hc hs hH hS hL hl (zoc (zI_of _) (zot hst)) hR)
  · exact h.elim
theorem zs_i2s (hd : decode (zKb (zMk M)) pc = .ok (.i2s, 1)) (hk : ∀ pc ls st mem, k pc ls st mem → zG d M pc ls st mem Q) (h : zun st zi2s (fun t => k (pc + 1) ls t mem)) : zG d M pc ls st mem Q := by
  intro p l e R s m args below meth c H locs cells slots Qf E lj C hc hs hH hS hL hl hst hR
  obtain ⟨hx, hb, hml, hown, hts, hfr, hlo, hOn, hscr⟩ := id C
  unfold zun at h
  split at h
  · rename_i x r
    exact lv_i2s hx hb hd (Int32.ofInt_toInt _).symm (hk _ _ _ _ h p l e R s m args below meth c _ _ cells slots Qf E _ C hc hs hH hS hL hl (zoc (zI_of _) (zot hst)) hR)
  · exact h.elim
theorem zs_i2c (hd : decode (zKb (zMk M)) pc = .ok (.i2c, 1)) (hk : ∀ pc ls st mem, k pc ls st mem → zG d M pc ls st mem Q) (h : zun st zi2c (fun t => k (pc + 1) ls t mem)) : zG d M pc ls st mem Q := by
  intro p l e R s m args below meth c H locs cells slots Qf E lj C hc hs hH hS hL hl hst hR
  obtain ⟨hx, hb, hml, hown, hts, hfr, hlo, hOn, hscr⟩ := id C
  unfold zun at h
  split at h
  · rename_i x r
    exact lv_i2c hx hb hd (Int32.ofInt_toInt _).symm (hk _ _ _ _ h p l e R s m args below meth c _ _ cells slots Qf E _ C hc hs hH hS hL hl (zoc (zI_of _) (zot hst)) hR)
  · exact h.elim
theorem zs_i2l (hd : decode (zKb (zMk M)) pc = .ok (.i2l, 1)) (hk : ∀ pc ls st mem, k pc ls st mem → zG d M pc ls st mem Q) (h : match st with
    | (0, x) :: r => k (pc + 1) ls ((1, x) :: r) mem
    | _ => False) : zG d M pc ls st mem Q := by
  intro p l e R s m args below meth c H locs cells slots Qf E lj C hc hs hH hS hL hl hst hR
  obtain ⟨hx, hb, hml, hown, hts, hfr, hlo, hOn, hscr⟩ := id C
  split at h
  · rename_i x r
    have hxx : zI x := zoh hst
    exact lv_i2l hx hb hd (zi2l_i hxx) (hk _ _ _ _ h p l e R s m args below meth c _ _ cells slots Qf E _ C hc hs hH hS hL hl (zoc (show zJ x by unfold zI at hxx; unfold zJ; omega) (zot hst)) hR)
  · exact h.elim
theorem zs_l2i (hd : decode (zKb (zMk M)) pc = .ok (.l2i, 1)) (hk : ∀ pc ls st mem, k pc ls st mem → zG d M pc ls st mem Q) (h : match st with
    | (1, x) :: r => k (pc + 1) ls ((0, zl2i x) :: r) mem
    | _ => False) : zG d M pc ls st mem Q := by
  intro p l e R s m args below meth c H locs cells slots Qf E lj C hc hs hH hS hL hl hst hR
  obtain ⟨hx, hb, hml, hown, hts, hfr, hlo, hOn, hscr⟩ := id C
  split at h
  · rename_i x r
    exact lv_l2i hx hb hd (Int32.ofInt_toInt _).symm (hk _ _ _ _ h p l e R s m args below meth c _ _ cells slots Qf E _ C hc hs hH hS hL hl (zoc (zI_of _) (zot hst)) hR)
  · exact h.elim
theorem zs_ladd (hd : decode (zKb (zMk M)) pc = .ok (.ladd, 1)) (hk : ∀ pc ls st mem, k pc ls st mem → zG d M pc ls st mem Q) (h : zlbin st zladd (fun t => k (pc + 1) ls t mem)) : zG d M pc ls st mem Q := by
  intro p l e R s m args below meth c H locs cells slots Qf E lj C hc hs hH hS hL hl hst hR
  obtain ⟨hx, hb, hml, hown, hts, hfr, hlo, hOn, hscr⟩ := id C
  unfold zlbin at h
  split at h
  · rename_i y x r
    have hg := hk _ _ _ _ h p l e R s m args below meth c _ _ cells slots Qf E _ C hc hs hH hS hL hl (zoc (zJ_of _) (zot (zot hst))) hR
    refine lv_ladd hx hb hd ?_
    rw [List.map_cons, show zv E (1, zladd x y) = .long (Int64.ofInt (zladd x y)) from rfl, show Int64.ofInt (zladd x y) = _ from Int64.ofInt_toInt _] at hg
    exact hg
  · exact h.elim
theorem zs_lmul (hd : decode (zKb (zMk M)) pc = .ok (.lmul, 1)) (hk : ∀ pc ls st mem, k pc ls st mem → zG d M pc ls st mem Q) (h : zlbin st zlmul (fun t => k (pc + 1) ls t mem)) : zG d M pc ls st mem Q := by
  intro p l e R s m args below meth c H locs cells slots Qf E lj C hc hs hH hS hL hl hst hR
  obtain ⟨hx, hb, hml, hown, hts, hfr, hlo, hOn, hscr⟩ := id C
  unfold zlbin at h
  split at h
  · rename_i y x r
    have hg := hk _ _ _ _ h p l e R s m args below meth c _ _ cells slots Qf E _ C hc hs hH hS hL hl (zoc (zJ_of _) (zot (zot hst))) hR
    refine lv_lmul hx hb hd ?_
    rw [List.map_cons, show zv E (1, zlmul x y) = .long (Int64.ofInt (zlmul x y)) from rfl, show Int64.ofInt (zlmul x y) = _ from Int64.ofInt_toInt _] at hg
    exact hg
  · exact h.elim
theorem zs_land (hd : decode (zKb (zMk M)) pc = .ok (.land, 1)) (hk : ∀ pc ls st mem, k pc ls st mem → zG d M pc ls st mem Q) (h : zlbin st zland (fun t => k (pc + 1) ls t mem)) : zG d M pc ls st mem Q := by
  intro p l e R s m args below meth c H locs cells slots Qf E lj C hc hs hH hS hL hl hst hR
  obtain ⟨hx, hb, hml, hown, hts, hfr, hlo, hOn, hscr⟩ := id C
  unfold zlbin at h
  split at h
  · rename_i y x r
    have hg := hk _ _ _ _ h p l e R s m args below meth c _ _ cells slots Qf E _ C hc hs hH hS hL hl (zoc (zJ_of _) (zot (zot hst))) hR
    refine lv_land hx hb hd ?_
    rw [List.map_cons, show zv E (1, zland x y) = .long (Int64.ofInt (zland x y)) from rfl, show Int64.ofInt (zland x y) = _ from Int64.ofInt_toInt _] at hg
    exact hg
  · exact h.elim
theorem zs_lor (hd : decode (zKb (zMk M)) pc = .ok (.lor, 1)) (hk : ∀ pc ls st mem, k pc ls st mem → zG d M pc ls st mem Q) (h : zlbin st zlor (fun t => k (pc + 1) ls t mem)) : zG d M pc ls st mem Q := by
  intro p l e R s m args below meth c H locs cells slots Qf E lj C hc hs hH hS hL hl hst hR
  obtain ⟨hx, hb, hml, hown, hts, hfr, hlo, hOn, hscr⟩ := id C
  unfold zlbin at h
  split at h
  · rename_i y x r
    have hg := hk _ _ _ _ h p l e R s m args below meth c _ _ cells slots Qf E _ C hc hs hH hS hL hl (zoc (zJ_of _) (zot (zot hst))) hR
    refine lv_lor hx hb hd ?_
    rw [List.map_cons, show zv E (1, zlor x y) = .long (Int64.ofInt (zlor x y)) from rfl, show Int64.ofInt (zlor x y) = _ from Int64.ofInt_toInt _] at hg
    exact hg
  · exact h.elim
theorem zs_lshl (hd : decode (zKb (zMk M)) pc = .ok (.lshl, 1)) (hk : ∀ pc ls st mem, k pc ls st mem → zG d M pc ls st mem Q) (h : zlsh st zlshl (fun t => k (pc + 1) ls t mem)) : zG d M pc ls st mem Q := by
  intro p l e R s m args below meth c H locs cells slots Qf E lj C hc hs hH hS hL hl hst hR
  obtain ⟨hx, hb, hml, hown, hts, hfr, hlo, hOn, hscr⟩ := id C
  unfold zlsh at h
  split at h
  · rename_i y x r
    exact lv_lshl hx hb hd (Int64.ofInt_toInt _).symm (hk _ _ _ _ h p l e R s m args below meth c _ _ cells slots Qf E _ C hc hs hH hS hL hl (zoc (zJ_of _) (zot (zot hst))) hR)
  · exact h.elim
theorem zs_lshr (hd : decode (zKb (zMk M)) pc = .ok (.lshr, 1)) (hk : ∀ pc ls st mem, k pc ls st mem → zG d M pc ls st mem Q) (h : zlsh st zlshr (fun t => k (pc + 1) ls t mem)) : zG d M pc ls st mem Q := by
  intro p l e R s m args below meth c H locs cells slots Qf E lj C hc hs hH hS hL hl hst hR
  obtain ⟨hx, hb, hml, hown, hts, hfr, hlo, hOn, hscr⟩ := id C
  unfold zlsh at h
  split at h
  · rename_i y x r
    exact lv_lshr hx hb hd (Int64.ofInt_toInt _).symm (hk _ _ _ _ h p l e R s m args below meth c _ _ cells slots Qf E _ C hc hs hH hS hL hl (zoc (zJ_of _) (zot (zot hst))) hR)
  · exact h.elim
theorem zs_lushr (hd : decode (zKb (zMk M)) pc = .ok (.lushr, 1)) (hk : ∀ pc ls st mem, k pc ls st mem → zG d M pc ls st mem Q) (h : zlsh st zlushr (fun t => k (pc + 1) ls t mem)) : zG d M pc ls st mem Q := by
  intro p l e R s m args below meth c H locs cells slots Qf E lj C hc hs hH hS hL hl hst hR
  obtain ⟨hx, hb, hml, hown, hts, hfr, hlo, hOn, hscr⟩ := id C
  unfold zlsh at h
  split at h
  · rename_i y x r
    exact lv_lushr hx hb hd (Int64.ofInt_toInt _).symm (hk _ _ _ _ h p l e R s m args below meth c _ _ cells slots Qf E _ C hc hs hH hS hL hl (zoc (zJ_of _) (zot (zot hst))) hR)
  · exact h.elim
theorem zs_lcmp (hd : decode (zKb (zMk M)) pc = .ok (.lcmp, 1)) (hk : ∀ pc ls st mem, k pc ls st mem → zG d M pc ls st mem Q) (h : match st with
    | (1, y) :: (1, x) :: r => k (pc + 1) ls ((0, zlcmp x y) :: r) mem
    | _ => False) : zG d M pc ls st mem Q := by
  intro p l e R s m args below meth c H locs cells slots Qf E lj C hc hs hH hS hL hl hst hR
  obtain ⟨hx, hb, hml, hown, hts, hfr, hlo, hOn, hscr⟩ := id C
  split at h
  · rename_i y x r
    have hg := hk _ _ _ _ h p l e R s m args below meth c _ _ cells slots Qf E _ C hc hs hH hS hL hl (zoc (zI_of _) (zot (zot hst))) hR
    refine W.lcmp hx hb hd ?_
    rw [List.map_cons, show zv E (0, zlcmp x y) = .int (Int32.ofInt (zlcmp x y)) from rfl, show Int32.ofInt (zlcmp x y) = _ from Int32.ofInt_toInt _] at hg
    exact hg
  · exact h.elim
theorem zs_dup (hd : decode (zKb (zMk M)) pc = .ok (.dup, 1)) (hk : ∀ pc ls st mem, k pc ls st mem → zG d M pc ls st mem Q) (h : match st with
    | (0, x) :: r => k (pc + 1) ls ((0, x) :: (0, x) :: r) mem
    | (2, x) :: r => k (pc + 1) ls ((2, x) :: (2, x) :: r) mem
    | _ => False) : zG d M pc ls st mem Q := by
  intro p l e R s m args below meth c H locs cells slots Qf E lj C hc hs hH hS hL hl hst hR
  obtain ⟨hx, hb, hml, hown, hts, hfr, hlo, hOn, hscr⟩ := id C
  split at h
  · exact lv_dup hx hb hd rfl (hk _ _ _ _ h p l e R s m args below meth c _ _ cells slots Qf E _ C hc hs hH hS hL hl (zoc (zoh hst) hst) hR)
  · exact lv_dup hx hb hd rfl (hk _ _ _ _ h p l e R s m args below meth c _ _ cells slots Qf E _ C hc hs hH hS hL hl (zoc (zoh hst) hst) hR)
  · exact h.elim
theorem zs_dup2 (hd : decode (zKb (zMk M)) pc = .ok (.dup2, 1)) (hk : ∀ pc ls st mem, k pc ls st mem → zG d M pc ls st mem Q) (h : match st with
    | (0, x) :: (2, y) :: r => k (pc + 1) ls ((0, x) :: (2, y) :: (0, x) :: (2, y) :: r) mem
    | _ => False) : zG d M pc ls st mem Q := by
  intro p l e R s m args below meth c H locs cells slots Qf E lj C hc hs hH hS hL hl hst hR
  obtain ⟨hx, hb, hml, hown, hts, hfr, hlo, hOn, hscr⟩ := id C
  split at h
  · exact lv_dup2_11 hx hb hd rfl rfl (hk _ _ _ _ h p l e R s m args below meth c _ _ cells slots Qf E _ C hc hs hH hS hL hl (zoc (zoh hst) (zoc (zoh (zot hst)) hst)) hR)
  · exact h.elim
theorem zs_pop (hd : decode (zKb (zMk M)) pc = .ok (.pop, 1)) (hk : ∀ pc ls st mem, k pc ls st mem → zG d M pc ls st mem Q) (h : match st with
    | (0, _) :: r => k (pc + 1) ls r mem
    | (2, _) :: r => k (pc + 1) ls r mem
    | _ => False) : zG d M pc ls st mem Q := by
  intro p l e R s m args below meth c H locs cells slots Qf E lj C hc hs hH hS hL hl hst hR
  obtain ⟨hx, hb, hml, hown, hts, hfr, hlo, hOn, hscr⟩ := id C
  split at h
  · exact lv_pop hx hb hd rfl (hk _ _ _ _ h p l e R s m args below meth c _ _ cells slots Qf E _ C hc hs hH hS hL hl (zot hst) hR)
  · exact lv_pop hx hb hd rfl (hk _ _ _ _ h p l e R s m args below meth c _ _ cells slots Qf E _ C hc hs hH hS hL hl (zot hst) hR)
  · exact h.elim
end
end
section
section
variable {d : Nat} {M : zMt} {Q : Int → zMem → Prop} {pc : Nat} {ls st : List zV} {mem : zMem} {k : Nat → List zV → List zV → zMem → Prop}
def zlv (E : zEnv) (ls : List zV) : List (Nat × Value) := (List.range ls.length).filterMap (fun i => match ls[i]? with
  | some v => if v.1 < 9 then some (i, zv E v) else none
  | none => none)
theorem zlv_mem {E : zEnv} {ls : List zV} {q : Nat × Value} (h : q ∈ zlv E ls) : ∃ v, ls[q.1]? = some v ∧ v.1 < 9 ∧ q.2 = zv E v := by
  obtain ⟨i, -, hi⟩ := List.mem_filterMap.mp h
  cases hv : ls[i]? with
  | none => simp [hv] at hi
  | some v =>
    simp only [hv] at hi
    split at hi
    · cases hi
      exact ⟨v, hv, by assumption, rfl⟩
    · cases hi
theorem zlv_in {E : zEnv} {ls : List zV} {i : Nat} {v : zV} (h : ls[i]? = some v) (hv : v.1 < 9) : (i, zv E v) ∈ zlv E ls := by
  refine List.mem_filterMap.mpr ⟨i, List.mem_range.mpr (List.getElem?_eq_some_iff.mp h).1, ?_⟩
  simp only [h, hv, if_true]
theorem zLo_has {E : zEnv} {n : Nat} {ls : List zV} {lj : Array Slot} (h : zLo E n ls lj) : lv_has lj n (zlv E ls) := by
  refine ⟨h.1, h.2.2.1, fun q hq => ?_⟩
  obtain ⟨v, h1, h2, h3⟩ := zlv_mem hq
  rw [h3]
  exact h.2.2.2 _ _ h1 h2
theorem zst_spec {ls : List zV} {i : Nat} {v : zV} {k : List zV → Prop} (h : zst ls i v k) : i < ls.length ∧ (∀ j u, i = j + 1 → ls[j]? = some u → u.1 ≠ 1) ∧ k (ls.set i v) := by
  unfold zst at h
  split at h
  · exact h.elim
  · rename_i w hw
    have hlt := (List.getElem?_eq_some_iff.mp hw).1
    split at h
    · exact ⟨hlt, fun j u e => by omega, h⟩
    · rename_i j
      split at h
      · exact h.elim
      · rename_i hne
        refine ⟨hlt, fun j' u e hu he => ?_, h⟩
        have : j' = j := by omega
        subst this
        apply hne
        rw [List.getD_eq_getElem?_getD, hu]
        exact he
theorem zlen_set {ls : List zV} {i n : Nat} {v : zV} (h : ls.length ≤ n) : (ls.set i v).length ≤ n := by rw [List.length_set]; exact h
theorem zok_set {ls : List zV} {i : Nat} {v : zV} (h : ∀ u ∈ ls, zok u) (hv : zok v) : ∀ u ∈ ls.set i v, zok u := by
  intro u hu
  rcases List.mem_or_eq_of_mem_set hu with h1 | h1
  · exact h u h1
  · rw [h1]; exact hv
theorem zLo_st {E : zEnv} {n : Nat} {ls : List zV} {lj lj' : Array Slot} {i : Nat} {v : zV} (hL : zLo E n ls lj) (hi : i < ls.length) (hp : ∀ j u, i = j + 1 → ls[j]? = some u → u.1 ≠ 1) (lv : List (Nat × Value)) (hlv : ∀ q ∈ zlv E ls, q ∈ lv)
    (h : lv_has lj' n ((i, zv E v) :: lv.filter (fun q => !(q.1 == i) && !(q.1 + 1 == i && q.2.category == 2)))) : zLo E n (ls.set i v) lj' := by
  refine ⟨h.1, zlen_set hL.2.1, h.2.1, fun j u hj hu => ?_⟩
  by_cases hji : j = i
  · subst hji
    rw [List.getElem?_set_self hi] at hj
    cases hj
    exact h.2.2 _ List.mem_cons_self
  · rw [List.getElem?_set_ne (Ne.symm hji)] at hj
    refine h.2.2 (j, zv E u) (List.mem_cons_of_mem _ (List.mem_filter.mpr ⟨hlv _ (zlv_in hj hu), ?_⟩))
    have h1 : (j == i) = false := by simp [hji]
    simp only [h1, Bool.not_false, Bool.true_and, Bool.not_eq_true', Bool.and_eq_false_iff]
    by_cases hj1 : j + 1 = i
    · right
      have := hp j u hj1.symm hj
      rw [zv_cat]
      simp only [beq_eq_false_iff_ne, ne_eq]
      unfold zcat
      split
      · rename_i e
        exact absurd e this
      · omega
    · left
      simp [hj1]
theorem zLo_st2 {E : zEnv} {n : Nat} {ls : List zV} {lj lj' : Array Slot} {i : Nat} {x : Int} (hL : zLo E n ls lj) (hi : i + 1 < ls.length) (hp : ∀ j u, i = j + 1 → ls[j]? = some u → u.1 ≠ 1)
    (h : lv_has lj' n ((i, zv E (1, x)) :: (zlv E ls).filter (fun q => !(q.1 == i) && (!(q.1 == i + 1) && !(q.1 + 1 == i && q.2.category == 2))))) : zLo E n ((ls.set i (1, x)).set (i + 1) (9, 0)) lj' := by
  refine ⟨h.1, zlen_set (zlen_set hL.2.1), h.2.1, fun j u hj hu => ?_⟩
  by_cases hj1 : j = i + 1
  · subst hj1
    rw [List.getElem?_set_self (by rw [List.length_set]; exact hi)] at hj
    cases hj
    exact absurd hu (by decide)
  rw [List.getElem?_set_ne (Ne.symm hj1)] at hj
  by_cases hji : j = i
  · subst hji
    rw [List.getElem?_set_self (by omega)] at hj
    cases hj
    exact h.2.2 _ List.mem_cons_self
  · rw [List.getElem?_set_ne (Ne.symm hji)] at hj
    refine h.2.2 (j, zv E u) (List.mem_cons_of_mem _ (List.mem_filter.mpr ⟨zlv_in hj hu, ?_⟩))
    have h1 : (j == i) = false := by simp [hji]
    have h2 : (j == i + 1) = false := by simp [hj1]
    simp only [h1, h2, Bool.not_false, Bool.true_and, Bool.not_eq_true', Bool.and_eq_false_iff]
    by_cases hj1 : j + 1 = i
    · right
      have := hp j u hj1.symm hj
      rw [zv_cat]
      simp only [beq_eq_false_iff_ne, ne_eq]
      unfold zcat
      split
      · rename_i e
        exact absurd e this
      · omega
    · left
      simp [hj1]
theorem zs_istore_n {n : Fin 4} (hd : decode (zKb (zMk M)) pc = .ok (.istore_n n, 1)) (hk : ∀ pc ls st mem, k pc ls st mem → zG d M pc ls st mem Q) (h : match st with
    | (0, x) :: r => ∀ z : Int, z = x → zst ls n.val (0, z) (fun l => k (pc + 1) l r mem)
    | _ => False) : zG d M pc ls st mem Q := by
  intro p l e R s m args below meth c H locs cells slots Qf E lj C hc hs hH hS hL hl hst hR
  obtain ⟨hx, hb, hml, hown, hts, hfr, hlo, hOn, hscr⟩ := id C
  split at h
  · rename_i x r
    obtain ⟨h1, h2, h⟩ := zst_spec (h x rfl)
    exact lv_istore_n hx hb hd rfl (zLo_has hL) (Nat.lt_of_lt_of_le h1 hL.2.1) rfl (fun lj' hj => hk _ _ _ _ h p l e R s m args below meth c _ _ cells slots Qf E _ C hc hs hH hS (zLo_st (v := (0, x)) hL h1 h2 _ (fun _ q => q) hj) (zok_set hl (zoh hst)) (zot hst) hR)
  · exact h.elim
theorem zs_istore {n : Nat} (hd : decode (zKb (zMk M)) pc = .ok (.istore n, 2)) (hk : ∀ pc ls st mem, k pc ls st mem → zG d M pc ls st mem Q) (h : match st with
    | (0, x) :: r => ∀ z : Int, z = x → zst ls n (0, z) (fun l => k (pc + 2) l r mem)
    | _ => False) : zG d M pc ls st mem Q := by
  intro p l e R s m args below meth c H locs cells slots Qf E lj C hc hs hH hS hL hl hst hR
  obtain ⟨hx, hb, hml, hown, hts, hfr, hlo, hOn, hscr⟩ := id C
  split at h
  · rename_i x r
    obtain ⟨h1, h2, h⟩ := zst_spec (h x rfl)
    exact lv_istore hx hb hd (zLo_has hL) (Nat.lt_of_lt_of_le h1 hL.2.1) rfl (fun lj' hj => hk _ _ _ _ h p l e R s m args below meth c _ _ cells slots Qf E _ C hc hs hH hS (zLo_st (v := (0, x)) hL h1 h2 _ (fun _ q => q) hj) (zok_set hl (zoh hst)) (zot hst) hR)
  · exact h.elim
theorem zs_astore_n {n : Fin 4} (hd : decode (zKb (zMk M)) pc = .ok (.astore_n n, 1)) (hk : ∀ pc ls st mem, k pc ls st mem → zG d M pc ls st mem Q) (h : match st with
    | (2, x) :: r => zst ls n.val (2, x) (fun l => k (pc + 1) l r mem)
    | _ => False) : zG d M pc ls st mem Q := by
  intro p l e R s m args below meth c H locs cells slots Qf E lj C hc hs hH hS hL hl hst hR
  obtain ⟨hx, hb, hml, hown, hts, hfr, hlo, hOn, hscr⟩ := id C
  split at h
  · rename_i x r
    obtain ⟨h1, h2, h⟩ := zst_spec h
    exact lv_astore_n hx hb hd rfl (zLo_has hL) (Nat.lt_of_lt_of_le h1 hL.2.1) rfl (fun lj' hj => hk _ _ _ _ h p l e R s m args below meth c _ _ cells slots Qf E _ C hc hs hH hS (zLo_st (v := (2, x)) hL h1 h2 _ (fun _ q => q) hj) (zok_set hl (zoh hst)) (zot hst) hR)
  · exact h.elim
theorem zs_astore {n : Nat} (hd : decode (zKb (zMk M)) pc = .ok (.astore n, 2)) (hk : ∀ pc ls st mem, k pc ls st mem → zG d M pc ls st mem Q) (h : match st with
    | (2, x) :: r => zst ls n (2, x) (fun l => k (pc + 2) l r mem)
    | _ => False) : zG d M pc ls st mem Q := by
  intro p l e R s m args below meth c H locs cells slots Qf E lj C hc hs hH hS hL hl hst hR
  obtain ⟨hx, hb, hml, hown, hts, hfr, hlo, hOn, hscr⟩ := id C
  split at h
  · rename_i x r
    obtain ⟨h1, h2, h⟩ := zst_spec h
    exact lv_astore hx hb hd (zLo_has hL) (Nat.lt_of_lt_of_le h1 hL.2.1) rfl (fun lj' hj => hk _ _ _ _ h p l e R s m args below meth c _ _ cells slots Qf E _ C hc hs hH hS (zLo_st (v := (2, x)) hL h1 h2 _ (fun _ q => q) hj) (zok_set hl (zoh hst)) (zot hst) hR)
  · exact h.elim
theorem zs_lstore_n {n : Fin 4} (hd : decode (zKb (zMk M)) pc = .ok (.lstore_n n, 1)) (hk : ∀ pc ls st mem, k pc ls st mem → zG d M pc ls st mem Q) (h : match st with
    | (1, x) :: r => ∀ z : Int, z = x → zst ls n.val (1, z) (fun l => match l[n.val + 1]? with
      | none => False
      | some _ => k (pc + 1) (l.set (n.val + 1) (9, 0)) r mem)
    | _ => False) : zG d M pc ls st mem Q := by
  intro p l e R s m args below meth c H locs cells slots Qf E lj C hc hs hH hS hL hl hst hR
  obtain ⟨hx, hb, hml, hown, hts, hfr, hlo, hOn, hscr⟩ := id C
  split at h
  · rename_i x r
    obtain ⟨h1, h2, h⟩ := zst_spec (h x rfl)
    split at h
    · exact h.elim
    · rename_i w hw
      have h3 : n.val + 1 < ls.length := by
        have := (List.getElem?_eq_some_iff.mp hw).1
        rw [List.length_set] at this
        exact this
      exact lv_lstore_n hx hb hd rfl (zLo_has hL) (Nat.lt_of_lt_of_le h3 hL.2.1) rfl (fun lj' hj => hk _ _ _ _ h p l e R s m args below meth c _ _ cells slots Qf E _ C hc hs hH hS (zLo_st2 hL h3 h2 hj) (zok_set (zok_set hl (zoh hst)) trivial) (zot hst) hR)
  · exact h.elim
theorem zs_lstore {n : Nat} (hd : decode (zKb (zMk M)) pc = .ok (.lstore n, 2)) (hk : ∀ pc ls st mem, k pc ls st mem → zG d M pc ls st mem Q) (h : match st with
    | (1, x) :: r => ∀ z : Int, z = x → zst ls n (1, z) (fun l => match l[n + 1]? with
      | none => False
      | some _ => k (pc + 2) (l.set (n + 1) (9, 0)) r mem)
    | _ => False) : zG d M pc ls st mem Q := by
  intro p l e R s m args below meth c H locs cells slots Qf E lj C hc hs hH hS hL hl hst hR
  obtain ⟨hx, hb, hml, hown, hts, hfr, hlo, hOn, hscr⟩ := id C
  split at h
  · rename_i x r
    obtain ⟨h1, h2, h⟩ := zst_spec (h x rfl)
    split at h
    · exact h.elim
    · rename_i w hw
      have h3 : n + 1 < ls.length := by
        have := (List.getElem?_eq_some_iff.mp hw).1
        rw [List.length_set] at this
        exact this
      exact lv_lstore hx hb hd (zLo_has hL) (Nat.lt_of_lt_of_le h3 hL.2.1) rfl (fun lj' hj => hk _ _ _ _ h p l e R s m args below meth c _ _ cells slots Qf E _ C hc hs hH hS (zLo_st2 hL h3 h2 hj) (zok_set (zok_set hl (zoh hst)) trivial) (zot hst) hR)
  · exact h.elim
theorem zs_iinc {n : Nat} {c0 : Int} (hd : decode (zKb (zMk M)) pc = .ok (.iinc n c0, 3)) (hk : ∀ pc ls st mem, k pc ls st mem → zG d M pc ls st mem Q) (h : zld 0 ls n (fun v => ∀ z : Int, z = zadd v.2 c0 → zst ls n (0, z) (fun l => k (pc + 3) l st mem))) : zG d M pc ls st mem Q := by
  intro p l e R s m args below meth c H locs cells slots Qf E lj C hc hs hH hS hL hl hst hR
  obtain ⟨hx, hb, hml, hown, hts, hfr, hlo, hOn, hscr⟩ := id C
  obtain ⟨x, hi, h⟩ := zld_spec h
  obtain ⟨h1, h2, h⟩ := zst_spec (h _ rfl)
  have hv := hL.2.2.2 _ _ hi (show 0 < 9 by decide)
  refine lv_iinc (lv := (n, zv E (0, x)) :: zlv E ls) (k := 0) hx hb hd ⟨(zLo_has hL).1, (zLo_has hL).2.1, fun q hq => ?_⟩ rfl (Int32.ofInt_toInt _).symm (Nat.lt_of_lt_of_le h1 hL.2.1) rfl (fun lj' hj => hk _ _ _ _ h p l e R s m args below meth c _ _ cells slots Qf E _ C hc hs hH hS (zLo_st (v := (0, zadd x c0)) hL h1 h2 _ (fun _ q => List.mem_cons_of_mem _ q) hj) (zok_set hl (zI_of _)) hst hR)
  rcases List.mem_cons.mp hq with rfl | hq
  · exact hv
  · exact (zLo_has hL).2.2 q hq
theorem ztgt_eq {pc : Nat} {off : Int} (h : 0 ≤ (pc : Int) + off) : (pc : Int) + off = (ztgt pc off : Int) := by unfold ztgt; omega
theorem zs_goto {off : Int} (hd : decode (zKb (zMk M)) pc = .ok (.goto off, 3)) (ho : 0 ≤ (pc : Int) + off) (hk : ∀ pc ls st mem, k pc ls st mem → zG d M pc ls st mem Q) (h : k (ztgt pc off) ls st mem) : zG d M pc ls st mem Q := by
  intro p l e R s m args below meth c H locs cells slots Qf E lj C hc hs hH hS hL hl hst hR
  obtain ⟨hx, hb, hml, hown, hts, hfr, hlo, hOn, hscr⟩ := id C
  exact lv_goto hx hb hd (ztgt_eq ho) (hk _ _ _ _ h p l e R s m args below meth c _ _ cells slots Qf E _ C hc hs hH hS hL hl hst hR)
theorem zs_icmp {c0 : ClassFile.Cond} {off : Int} (hd : decode (zKb (zMk M)) pc = .ok (.if_icmp c0 off, 3)) (ho : 0 ≤ (pc : Int) + off) (hk : ∀ pc ls st mem, k pc ls st mem → zG d M pc ls st mem Q) (h : match st with
    | (0, y) :: (0, x) :: r => (zcmp c0 x y → k (ztgt pc off) ls r mem) ∧ (¬ zcmp c0 x y → k (pc + 3) ls r mem)
    | _ => False) : zG d M pc ls st mem Q := by
  intro p l e R s m args below meth c H locs cells slots Qf E lj C hc hs hH hS hL hl hst hR
  obtain ⟨hx, hb, hml, hown, hts, hfr, hlo, hOn, hscr⟩ := id C
  split at h
  · rename_i y x r
    obtain ⟨h1, h2⟩ := h
    have hy : zI y := zoh hst
    have hxx : zI x := zoh (zot hst)
    have g1 := fun q => hk _ _ _ _ (h1 q) p l e R s m args below meth c _ _ cells slots Qf E _ C hc hs hH hS hL hl (zot (zot hst)) hR
    have g2 := fun q => hk _ _ _ _ (h2 q) p l e R s m args below meth c _ _ cells slots Qf E _ C hc hs hH hS hL hl (zot (zot hst)) hR
    cases c0
    case eq => exact lv_icmp_eq hx hb hd (ztgt_eq ho) (fun q => g1 ((zeq_i hxx hy).mp q)) (fun q => g2 (fun e => q ((zeq_i hxx hy).mpr e)))
    case ne => exact lv_icmp_ne hx hb hd (ztgt_eq ho) (fun q => g1 (fun e => q ((zeq_i hxx hy).mpr e))) (fun q => g2 (fun e => e ((zeq_i hxx hy).mp q)))
    case lt => exact lv_icmp_lt hx hb hd (ztgt_eq ho) (fun q => g1 ((zlt_i hxx hy).mp q)) (fun q => g2 (fun e => q ((zlt_i hxx hy).mpr e)))
    case ge => exact lv_icmp_ge hx hb hd (ztgt_eq ho) (fun q => g1 ((zle_i hy hxx).mp q)) (fun q => g2 (fun e => q ((zle_i hy hxx).mpr e)))
    case gt => exact lv_icmp_gt hx hb hd (ztgt_eq ho) (fun q => g1 ((zlt_i hy hxx).mp q)) (fun q => g2 (fun e => q ((zlt_i hy hxx).mpr e)))
    case le => exact lv_icmp_le hx hb hd (ztgt_eq ho) (fun q => g1 ((zle_i hxx hy).mp q)) (fun q => g2 (fun e => q ((zle_i hxx hy).mpr e)))
  · exact h.elim
theorem zs_if {c0 : ClassFile.Cond} {off : Int} (hd : decode (zKb (zMk M)) pc = .ok (.ifCond c0 off, 3)) (ho : 0 ≤ (pc : Int) + off) (hk : ∀ pc ls st mem, k pc ls st mem → zG d M pc ls st mem Q) (h : match st with
    | (0, x) :: r => (zcmp c0 x 0 → k (ztgt pc off) ls r mem) ∧ (¬ zcmp c0 x 0 → k (pc + 3) ls r mem)
    | _ => False) : zG d M pc ls st mem Q := by
  intro p l e R s m args below meth c H locs cells slots Qf E lj C hc hs hH hS hL hl hst hR
  obtain ⟨hx, hb, hml, hown, hts, hfr, hlo, hOn, hscr⟩ := id C
  split at h
  · rename_i x r
    obtain ⟨h1, h2⟩ := h
    have hxx : zI x := zoh hst
    have hy : zI 0 := by unfold zI; omega
    have g1 := fun q => hk _ _ _ _ (h1 q) p l e R s m args below meth c _ _ cells slots Qf E _ C hc hs hH hS hL hl (zot hst) hR
    have g2 := fun q => hk _ _ _ _ (h2 q) p l e R s m args below meth c _ _ cells slots Qf E _ C hc hs hH hS hL hl (zot hst) hR
    cases c0
    case eq => exact lv_if_eq hx hb hd (ztgt_eq ho) (fun q => g1 ((zeq_i hxx hy).mp q)) (fun q => g2 (fun e => q ((zeq_i hxx hy).mpr e)))
    case ne => exact lv_if_ne hx hb hd (ztgt_eq ho) (fun q => g1 (fun e => q ((zeq_i hxx hy).mpr e))) (fun q => g2 (fun e => e ((zeq_i hxx hy).mp q)))
    case lt => exact lv_if_lt hx hb hd (ztgt_eq ho) (fun q => g1 ((zlt_i hxx hy).mp q)) (fun q => g2 (fun e => q ((zlt_i hxx hy).mpr e)))
    case ge => exact lv_if_ge hx hb hd (ztgt_eq ho) (fun q => g1 ((zle_i hy hxx).mp q)) (fun q => g2 (fun e => q ((zle_i hy hxx).mpr e)))
    case gt => exact lv_if_gt hx hb hd (ztgt_eq ho) (fun q => g1 ((zlt_i hy hxx).mp q)) (fun q => g2 (fun e => q ((zlt_i hy hxx).mpr e)))
    case le => exact lv_if_le hx hb hd (ztgt_eq ho) (fun q => g1 ((zle_i hxx hy).mp q)) (fun q => g2 (fun e => q ((zle_i hxx hy).mpr e)))
  · exact h.elim
theorem zsw_spec {pc : Nat} {x : Int} {k : Nat → Prop} : ∀ {l : List Int} {lo : Int}, zsw pc x k l lo → ∀ (j : Nat) (o : Int), l[j]? = some o → x = lo + j → k (ztgt pc o)
  | [], lo, _, j, o, h, _ => by simp at h
  | a :: l, lo, h, 0, o, hj, e => by
    have : a = o := by simpa using hj
    subst this
    exact h.1 (by simpa using e)
  | a :: l, lo, h, j + 1, o, hj, e => zsw_spec h.2 j o (by simpa using hj) (by rw [e]; push_cast; omega)
theorem zs_switch {df lo hi : Int} {offs : Array Int} {len : Nat} (hd : decode (zKb (zMk M)) pc = .ok (.tableswitch df lo hi offs, len)) (h0 : 0 ≤ (pc : Int) + df) (h1 : ∀ o ∈ offs, 0 ≤ (pc : Int) + o) (hn : (offs.size : Int) = hi - lo + 1) (hk : ∀ pc ls st mem, k pc ls st mem → zG d M pc ls st mem Q) (h : match st with
    | (0, x) :: r => zsw pc x (fun t => k t ls r mem) offs.toList lo ∧ (x < lo ∨ hi < x → k (ztgt pc df) ls r mem)
    | _ => False) : zG d M pc ls st mem Q := by
  intro p l e R s m args below meth c H locs cells slots Qf E lj C hc hs hH hS hL hl hst hR
  obtain ⟨hx, hb, hml, hown, hts, hfr, hlo, hOn, hscr⟩ := id C
  split at h
  · rename_i x r
    obtain ⟨ha, hb2⟩ := h
    have hxx : zI x := zoh hst
    by_cases hc2 : x < lo ∨ hi < x
    · have h := hb2 hc2
      exact lv_tableOut hx hb hd (by rw [zI_to hxx]; exact hc2) (ztgt_eq h0) (hk _ _ _ _ h p l e R s m args below meth c _ _ cells slots Qf E _ C hc hs hH hS hL hl (zot hst) hR)
    · have hlt : (x - lo).toNat < offs.size := by omega
      have ho : offs[(x - lo).toNat]? = some offs[(x - lo).toNat] := Array.getElem?_eq_getElem hlt
      have h := zsw_spec ha (x - lo).toNat _ (by rw [Array.getElem?_toList]; exact ho) (by omega)
      exact lv_tableIn hx hb hd (by rw [zI_to hxx]; omega) (by rw [zI_to hxx]; omega) (by rw [zI_to hxx]; exact ho) (ztgt_eq (h1 _ (Array.getElem_mem hlt))) (hk _ _ _ _ h p l e R s m args below meth c _ _ cells slots Qf E _ C hc hs hH hS hL hl (zot hst) hR)
  · exact h.elim
end
end
section
section
variable {d : Nat} {M : zMt} {Q : Int → zMem → Prop} {pc : Nat} {ls st : List zV} {mem : zMem} {k : Nat → List zV → List zV → zMem → Prop}
theorem zgood_of {w : Cond} (h : w ∈ lw_tbl) (g : goodWord w = true) : w ∈ zgood := List.mem_filter.mpr ⟨h, g⟩
theorem zgood_in {w : Cond} (h : w ∈ zgood) : (w.onTables && w.keeps) = true ∨ ∃ ty, w = .arrayClass ty := good_of_word (List.mem_filter.mp h).2
/-- a class's words and types -/
def zCF (ci : Nat) (q : vw_C) (ty : Nat → FieldType) : Prop := (∀ w ∈ u_ws q.1 q.2.1 q.2.2, w ∈ zgood) ∧ (∀ k, k < q.2.2 → parseFieldDescriptor (q.2.1 k).2.2.1 = some (ty k)) ∧ (∀ a, a < q.2.2 → ∀ b, b < q.2.2 → a ≠ b → (q.2.1 a).2.1 ≠ (q.2.1 b).2.1) ∧
  (∀ k, k < q.2.2 → zfk ci k = 0 → ty k = .int ∧ (q.2.1 k).2.2.2 = false) ∧ (∀ k, k < q.2.2 → zfk ci k = 1 → ty k = .boolean ∧ (q.2.1 k).2.2.2 = false)
/-- a field's row: its class is known, its link's word is there -/
def zFf (own : String) (f : Nat × Nat × Nat × Nat) : Prop := ∃ q ty, vwCl[f.2.1]? = some q ∧ f.2.1 < 100 ∧ f.2.2.1 < q.2.2 ∧ zCF f.2.1 q ty ∧ Cond.fieldLink own f.1 (q.2.1 f.2.2.1).1 (q.2.1 f.2.2.1).2.1 (q.2.1 f.2.2.1).2.2.1 ∈ zgood
theorem zat_mem {α : Type} {l : List (Nat × α)} {k : Nat} {a : α} (h : zat l k = some a) : (k, a) ∈ l := by
  induction l with
  | nil => cases h
  | cons x l ih =>
    obtain ⟨i, b⟩ := x
    unfold zat at h
    split at h
    · rename_i hb
      have := Nat.eq_of_beq_eq_true hb
      subst this
      cases h
      exact List.mem_cons_self
    · exact List.mem_cons_of_mem _ (ih h)
theorem zfs_at (E : zEnv) (k : Nat) (f : Nat → Int) {j : Nat} (hj : j < zln k) : ((List.range (zln k)).map fun j => zfv E k j (f j))[j]? = some (zfv E k j (f j)) := by
  rw [List.getElem?_map, List.getElem?_range hj]
  rfl
theorem zfs_set (E : zEnv) (k : Nat) (f g : Nat → Int) {j : Nat} (hj : j < zln k) (ho : ∀ i, i ≠ j → g i = f i) : ((List.range (zln k)).map fun j => zfv E k j (f j)).set j (zfv E k j (g j)) = (List.range (zln k)).map fun j => zfv E k j (g j) := by
  apply List.ext_getElem?
  intro i
  by_cases hij : i = j
  · subst hij
    rw [zfs_at E k g hj, List.getElem?_set_self]
    rw [List.length_map, List.length_range]
    exact hj
  · rw [List.getElem?_set_ne (Ne.symm hij)]
    by_cases hi : i < zln k
    · rw [zfs_at E k f hi, zfs_at E k g hi, ho i hij]
    · rw [List.getElem?_eq_none, List.getElem?_eq_none] <;> · rw [List.length_map, List.length_range]; omega
theorem zsz {k : Nat} {q : vw_C} (h : zkd k < 100) (hq : vwCl[zkd k]? = some q) : q.2.2 = zln k := by
  have h1 := zsh_cl k (zkd_lt (by omega)) h
  rw [List.getD_eq_getElem?_getD, hq] at h1
  exact h1
theorem zHp_at {E : zEnv} {mem : zMem} {H : Heap} (h : zHp E mem H) {k : Nat} (hk : k < zNC) : (zws E mem)[k]? = some (zEb E + k, zel E k (mem k)) := zws_at E mem hk
theorem zs_getfield {idx : Nat} (hd : decode (zKb (zMk M)) pc = .ok (.getfield idx, 3)) (hF : ∀ f ∈ zMf M, zFf (zMo M) f) (hk : ∀ pc ls st mem, k pc ls st mem → zG d M pc ls st mem Q) (h : match st with
    | (2, h) :: r => match zat (zMf M) idx with
      | some (ci, sl, _) => zkd h.toNat = ci ∧ (match zfk ci sl with
        | 2 => k (pc + 3) ls ((2, Int.ofNat (zrt h.toNat sl)) :: r) mem
        | _ => k (pc + 3) ls ((0, mem h.toNat sl) :: r) mem)
      | none => False
    | _ => False) : zG d M pc ls st mem Q := by
  intro p l e R s m args below meth c H locs cells slots Qf E lj C hc hs hH hS hL hl hst hR
  obtain ⟨hx, hb, hml, hown, hts, hfr, hlo, hOn, hscr⟩ := id C
  split at h
  · rename_i q r
    split at h
    · rename_i ci sl pl hat
      obtain ⟨rfl, h⟩ := h
      obtain ⟨⟨C1, T1, N1⟩, ty, hq1, hq2, hq3, hq4, hq5⟩ := hF _ (zat_mem hat)
      dsimp only at hq1 hq2 hq3 hq4 hq5
      have hN : N1 = zln q.toNat := zsz (q := (C1, T1, N1)) hq2 hq1
      have he := zws_at E mem (zkd_lt (k := q.toNat) (by omega))
      rw [zel_o E _ hq2] at he
      have hv := zfs_at E q.toNat (mem q.toNat) (j := sl) (by rw [← hN]; exact hq3)
      refine va_get (C := C1) (T := T1) (N := N1) (own := zMo M) (ref := (T1 sl).1) hx hb hts hq4.1 hown hOn.1 hH.2 q.toNat he hq1 sl hq3 (hts _ hq5) (fun x hx => hx) hv hd ?_
      unfold zfv
      split at h
      · rename_i h2
        rw [if_pos h2]
        exact hk _ _ _ _ h p l e R s m args below meth c _ _ cells slots Qf E _ C hc hs hH hS hL hl (zoc (show zok (2, _) from trivial) (zot hst)) hR
      · rename_i h2
        rw [if_neg h2]
        exact hk _ _ _ _ h p l e R s m args below meth c _ _ cells slots Qf E _ C hc hs hH hS hL hl (zoc (show zI _ from (hH.1 _ _).2 (by omega)) (zot hst)) hR
    · exact h.elim
  · exact h.elim
theorem zHp_set {E : zEnv} {mem mem' : zMem} {H1 : Heap} {k : Nat} {e : va_E} (hk : k < zNC) (hr : zrg mem') (ho : ∀ a, a ≠ k → mem' a = mem a) (he : e = zel E k (mem' k)) (hP : va_P (zED E) vwCl ((zws E mem).set k (zEb E + k, e)) H1) : zHp E mem' H1 := by
  subst he
  rw [zws_set E mem mem' hk ho] at hP
  exact ⟨hr, hP⟩
theorem zup_s (mem : zMem) (k j : Nat) (v : Int) : zup mem k j v k j = v := by unfold zup; rw [if_pos ⟨rfl, rfl⟩]
theorem zup_n (mem : zMem) (k j : Nat) (v : Int) {i : Nat} (h : i ≠ j) : zup mem k j v k i = mem k i := by unfold zup; rw [if_neg (fun q => h q.2)]
theorem zbool {x : Int} (h : x = 0 ∨ x = 1) : narrow .boolean (.int (Int32.ofInt x)) = .int (Int32.ofInt x) ∧ fits .boolean (.int (Int32.ofInt x)) = true ∧ zI x := by
  rcases h with rfl | rfl
  · exact ⟨by decide +kernel, by decide +kernel, by unfold zI; omega⟩
  · exact ⟨by decide +kernel, by decide +kernel, by unfold zI; omega⟩
theorem zs_putfield {idx : Nat} (hd : decode (zKb (zMk M)) pc = .ok (.putfield idx, 3)) (hF : ∀ f ∈ zMf M, zFf (zMo M) f) (hk : ∀ pc ls st mem, k pc ls st mem → zG d M pc ls st mem Q) (h : match st with
    | (0, x) :: (2, h) :: r => match zat (zMf M) idx with
      | some (ci, sl, _) => zkd h.toNat = ci ∧ (match zfk ci sl with
        | 0 => ∀ mem' : zMem, mem' = zup mem h.toNat sl x → k (pc + 3) ls r mem'
        | 1 => (x = 0 ∨ x = 1) ∧ ∀ mem' : zMem, mem' = zup mem h.toNat sl x → k (pc + 3) ls r mem'
        | _ => False)
      | none => False
    | _ => False) : zG d M pc ls st mem Q := by
  intro p l e R s m args below meth c H locs cells slots Qf E lj C hc hs hH hS hL hl hst hR
  obtain ⟨hx, hb, hml, hown, hts, hfr, hlo, hOn, hscr⟩ := id C
  split at h
  · rename_i x q r
    split at h
    · rename_i ci sl pl hat
      obtain ⟨rfl, h⟩ := h
      obtain ⟨⟨C1, T1, N1⟩, ty, hq1, hq2, hq3, hq4, hq5⟩ := hF _ (zat_mem hat)
      dsimp only at hq1 hq2 hq3 hq4 hq5
      have hN : N1 = zln q.toNat := zsz (q := (C1, T1, N1)) hq2 hq1
      have he := zws_at E mem (zkd_lt (k := q.toNat) (by omega))
      rw [zel_o E _ hq2] at he
      split at h
      · rename_i h2
        have hfi := hq4.2.2.2.1 sl hq3 h2
        refine va_put (C := C1) (T := T1) (N := N1) (own := zMo M) (ref := (T1 sl).1) (ty := .int) hx hb hts hq4.1 ty hq4.2.1 hq4.2.2.1 hown hOn.1 hH.2 (zws_D E mem) hS q.toNat he hq1 sl hq3 (hts _ hq5) (fun x hx => hx) hfi.2 (by rw [hq4.2.1 sl hq3, hfi.1]) rfl rfl (by rw [List.length_map, List.length_range, ← hN]; exact hq3) hd (fun H1 locs1 hP1 _ hS1 => ?_)
        have h := h _ rfl
        have hv : zfv E q.toNat sl x = .int (Int32.ofInt x) := by unfold zfv; rw [if_neg (by omega)]
        refine hk _ _ _ _ h p l e R s m args below meth c _ _ cells slots Qf E _ C hc hs (zHp_set (zkd_lt (by omega)) (zup_rg hH.1 (fun q => by omega) (fun _ => zoh hst)) (zup_o _ _ _ _) ?_ hP1) hS1 hL hl (zot (zot hst)) hR
        rw [zel_o E _ hq2, ← zfs_set E q.toNat (mem q.toNat) (zup mem q.toNat sl x q.toNat) (j := sl) (by rw [← hN]; exact hq3) (fun i hi => zup_n _ _ _ _ hi), zup_s, hv]
        rfl
      · rename_i h2
        have hfi := hq4.2.2.2.2 sl hq3 h2
        obtain ⟨hx01, h⟩ := h
        refine va_put (C := C1) (T := T1) (N := N1) (own := zMo M) (ref := (T1 sl).1) (ty := .boolean) hx hb hts hq4.1 ty hq4.2.1 hq4.2.2.1 hown hOn.1 hH.2 (zws_D E mem) hS q.toNat he hq1 sl hq3 (hts _ hq5) (fun x hx => hx) hfi.2 (by rw [hq4.2.1 sl hq3, hfi.1]) (zbool hx01).1 (zbool hx01).2.1 (by rw [List.length_map, List.length_range, ← hN]; exact hq3) hd (fun H1 locs1 hP1 _ hS1 => ?_)
        have h := h _ rfl
        have hv : zfv E q.toNat sl x = .int (Int32.ofInt x) := by unfold zfv; rw [if_neg (by omega)]
        refine hk _ _ _ _ h p l e R s m args below meth c _ _ cells slots Qf E _ C hc hs (zHp_set (zkd_lt (by omega)) (zup_rg hH.1 (fun q => by omega) (fun _ => zoh hst)) (zup_o _ _ _ _) ?_ hP1) hS1 hL hl (zot (zot hst)) hR
        rw [zel_o E _ hq2, ← zfs_set E q.toNat (mem q.toNat) (zup mem q.toNat sl x q.toNat) (j := sl) (by rw [← hN]; exact hq3) (fun i hi => zup_n _ _ _ _ hi), zup_s, hv]
        rfl
      · exact h.elim
    · exact h.elim
  · exact h.elim
theorem zty (E : zEnv) : (ztys E)[0]? = some (zEc E 100, .int) ∧ (ztys E)[1]? = some (zEc E 101, .byte) ∧ (ztys E)[2]? = some (zEc E 102, .boolean) ∧ (ztys E)[3]? = some (zEc E 103, .long) := ⟨rfl, rfl, rfl, rfl⟩
theorem zs_iaload (hd : decode (zKb (zMk M)) pc = .ok (.iaload, 1)) (hk : ∀ pc ls st mem, k pc ls st mem → zG d M pc ls st mem Q) (h : match st with
    | (0, i) :: (2, a) :: r => (zkd a.toNat = 100 ∧ 0 ≤ i ∧ i < zln a.toNat) ∧ k (pc + 1) ls ((0, mem a.toNat i.toNat) :: r) mem
    | (0, i) :: (4, _) :: r => (0 ≤ i ∧ i < 5) ∧ k (pc + 1) ls ((0, zHV.getD i.toNat 0) :: r) mem
    | (0, i) :: (5, _) :: r => (0 ≤ i ∧ i + 1 < (zMx M).1) ∧ k (pc + 1) ls ((0, (zMx M).2 i.toNat) :: r) mem
    | _ => False) : zG d M pc ls st mem Q := by
  intro p l e R s m args below meth c H locs cells slots Qf E lj C hc hs hH hS hL hl hst hR
  obtain ⟨hx, hb, hml, hown, hts, hfr, hlo, hOn, hscr⟩ := id C
  split at h
  · rename_i i a r
    obtain ⟨⟨hk1, hk2, hk3⟩, h⟩ := h
    have he := zws_at E mem (zkd_lt (k := a.toNat) (by omega))
    rw [zel_i E _ (by omega) (by omega), hk1] at he
    have hi : zI i := zoh hst
    have hg := hk _ _ _ _ h p l e R s m args below meth c _ _ cells slots Qf E _ C hc hs hH hS hL hl (zoc (show zI _ from (hH.1 _ _).2 (by omega)) (zot (zot hst))) hR
    refine va_iald hx hb hOn.1 hH.2 a.toNat 0 he rfl (zin_i hi hk2 hk3) hd ?_
    rw [zcl_i hi]
    exact hg
  · rename_i i a r
    obtain ⟨⟨hk2, hk3⟩, h⟩ := h
    have hi : zI i := zoh hst
    have hz : zI (zHV.getD i.toNat 0) := by
      rcases (show i = 0 ∨ i = 1 ∨ i = 2 ∨ i = 3 ∨ i = 4 by omega) with rfl | rfl | rfl | rfl | rfl <;> (constructor <;> decide +kernel)
    refine va_ti hx hb hOn.2.2.2.2.1 hS (zin_i hi hk2 (by omega)) ?_ hd (hk _ _ _ _ h p l e R s m args below meth c _ _ cells slots Qf E _ C hc hs hH hS hL hl (zoc hz (zot (zot hst))) hR)
    rw [zcl_i hi]
    rfl
  · rename_i i a r
    obtain ⟨⟨hk2, hk3⟩, h⟩ := h
    rcases hscr with e0 | e0
    · rw [e0] at hk3; omega
    rw [e0] at h hk3
    have hi : zI i := zoh hst
    have hg := hk _ _ _ _ h p l e R s m args below meth c _ _ cells slots Qf E _ C hc hs hH hS hL hl (zoc (zI_of _) (zot (zot hst))) hR
    refine va_sld hx hb hOn.2.2.2.2.2.1.1 ?_ hOn.2.2.2.2.2.1.2.2 hS (zin_i hi hk2 (n := zEl E) (by omega)) hd ?_
    · obtain ⟨scr, hscr, -⟩ := hOn.2.2.2.2.2.1.1
      exact (Array.getElem?_eq_some_iff.mp hscr).1
    · rw [zcl_i hi]
      rw [List.map_cons, show zv E (0, (zEx E i.toNat).toInt) = .int (Int32.ofInt (zEx E i.toNat).toInt) from rfl, Int32.ofInt_toInt] at hg
      exact hg
  · exact h.elim
theorem zs_baload (hd : decode (zKb (zMk M)) pc = .ok (.baload, 1)) (hk : ∀ pc ls st mem, k pc ls st mem → zG d M pc ls st mem Q) (h : match st with
    | (0, i) :: (2, a) :: r => ((zkd a.toNat = 101 ∨ zkd a.toNat = 102) ∧ 0 ≤ i ∧ i < zln a.toNat) ∧ k (pc + 1) ls ((0, mem a.toNat i.toNat) :: r) mem
    | _ => False) : zG d M pc ls st mem Q := by
  intro p l e R s m args below meth c H locs cells slots Qf E lj C hc hs hH hS hL hl hst hR
  obtain ⟨hx, hb, hml, hown, hts, hfr, hlo, hOn, hscr⟩ := id C
  split at h
  · rename_i i a r
    obtain ⟨⟨hk1 | hk1, hk2, hk3⟩, h⟩ := h
    · have he := zws_at E mem (zkd_lt (k := a.toNat) (by omega))
      rw [zel_i E _ (by omega) (by omega), hk1] at he
      have hi : zI i := zoh hst
      have hg := hk _ _ _ _ h p l e R s m args below meth c _ _ cells slots Qf E _ C hc hs hH hS hL hl (zoc (show zI _ from (hH.1 _ _).2 (by omega)) (zot (zot hst))) hR
      refine va_bald hx hb hOn.1 hH.2 a.toNat 1 he rfl (zin_i hi hk2 hk3) hd ?_
      rw [zcl_i hi]
      exact hg
    · have he := zws_at E mem (zkd_lt (k := a.toNat) (by omega))
      rw [zel_i E _ (by omega) (by omega), hk1] at he
      have hi : zI i := zoh hst
      have hg := hk _ _ _ _ h p l e R s m args below meth c _ _ cells slots Qf E _ C hc hs hH hS hL hl (zoc (show zI _ from (hH.1 _ _).2 (by omega)) (zot (zot hst))) hR
      refine va_zald hx hb hOn.1 hH.2 a.toNat 2 he rfl (zin_i hi hk2 hk3) hd ?_
      rw [zcl_i hi]
      exact hg
  · exact h.elim
theorem zs_laload (hd : decode (zKb (zMk M)) pc = .ok (.laload, 1)) (hk : ∀ pc ls st mem, k pc ls st mem → zG d M pc ls st mem Q) (h : match st with
    | (0, i) :: (2, a) :: r => (zkd a.toNat = 103 ∧ 0 ≤ i ∧ i < zln a.toNat) ∧ k (pc + 1) ls ((1, mem a.toNat i.toNat) :: r) mem
    | _ => False) : zG d M pc ls st mem Q := by
  intro p l e R s m args below meth c H locs cells slots Qf E lj C hc hs hH hS hL hl hst hR
  obtain ⟨hx, hb, hml, hown, hts, hfr, hlo, hOn, hscr⟩ := id C
  split at h
  · rename_i i a r
    obtain ⟨⟨hk1, hk2, hk3⟩, h⟩ := h
    have he := zws_at E mem (zkd_lt (k := a.toNat) (by omega))
    rw [zel_l E _ hk1] at he
    have hi : zI i := zoh hst
    have hg := hk _ _ _ _ h p l e R s m args below meth c _ _ cells slots Qf E _ C hc hs hH hS hL hl (zoc (show zJ _ from (hH.1 _ _).1 hk1) (zot (zot hst))) hR
    refine va_lald hx hb hOn.1 hH.2 a.toNat 3 he rfl (zin_i hi hk2 hk3) hd ?_
    rw [zcl_i hi]
    exact hg
  · exact h.elim
theorem zs_aaload (hd : decode (zKb (zMk M)) pc = .ok (.aaload, 1)) (hk : ∀ pc ls st mem, k pc ls st mem → zG d M pc ls st mem Q) (h : match st with
    | (0, i) :: (2, a) :: r => (110 ≤ zkd a.toNat ∧ zkd a.toNat ≤ 113 ∧ 0 ≤ i ∧ i < zln a.toNat) ∧ k (pc + 1) ls ((2, Int.ofNat (zrt a.toNat i.toNat)) :: r) mem
    | _ => False) : zG d M pc ls st mem Q := by
  intro p l e R s m args below meth c H locs cells slots Qf E lj C hc hs hH hS hL hl hst hR
  obtain ⟨hx, hb, hml, hown, hts, hfr, hlo, hOn, hscr⟩ := id C
  split at h
  · rename_i i a r
    obtain ⟨⟨hk0, hk1, hk2, hk3⟩, h⟩ := h
    have he := zws_at E mem (zkd_lt (k := a.toNat) (by omega))
    rw [zel_r E _ hk0] at he
    have hi : zI i := zoh hst
    have hin := zin_i hi hk2 hk3
    have hlt : (Int32.ofInt i).toNatClampNeg < zln a.toNat := Nat.not_le.mp fun q => hin (Or.inr q)
    have hg := hk _ _ _ _ h p l e R s m args below meth c _ _ cells slots Qf E _ C hc hs hH hS hL hl (zoc (show zok (2, _) from trivial) (zot (zot hst))) hR
    have key : ∀ (t0 : Nat) (ty : FieldType), (ztys E)[t0]? = some (zEc E (zkd a.toNat), ty) → ty.isReference = true → W p l e R s m args below meth c H locs cells slots Qf (F0 m pc lj ((((0, i) :: (2, a) :: r) : List zV).map (zv E))) := by
      intro t0 ty ht hty
      refine W.aald (v := .ref (zEb E + zrt a.toNat i.toNat)) (ty := ty) (g := F0 m pc lj (.int (Int32.ofInt i) :: .ref (zEb E + a.toNat) :: r.map (zv E))) hx hb (hH.2 _ _ he) ((hOn.1.2 t0 _ ht).1 (zln a.toNat) (fun j => va_rf (some (zEb E + zrt a.toNat j)))) hty (fun q => by cases q) ?_ ?_ rfl rfl hd hg
      · show ¬ (_ ∨ (arrV _ _ _).slots.size ≤ _)
        rw [arrV_size]
        exact hin
      · show (arrV _ _ _).slots[_]? = _
        rw [arrV_read _ _ hlt, zcl_i hi]
        rfl
    rcases (show zkd a.toNat = 110 ∨ zkd a.toNat = 111 ∨ zkd a.toNat = 112 ∨ zkd a.toNat = 113 by omega) with q | q | q | q
    · exact key 4 _ (by rw [q]; rfl) rfl
    · exact key 5 _ (by rw [q]; rfl) rfl
    · exact key 6 _ (by rw [q]; rfl) rfl
    · exact key 7 _ (by rw [q]; rfl) rfl
  · exact h.elim
theorem zupd_i (mem : zMem) (k j : Nat) (x : Int) : upd (fun j => Int32.ofInt (mem k j)) j (Int32.ofInt x) = fun i => Int32.ofInt (zup mem k j x k i) := by
  funext i
  unfold upd
  by_cases h : i = j
  · subst h
    rw [zup_s]
    simp
  · rw [zup_n _ _ _ _ h]
    simp [h]
theorem zupd_l (mem : zMem) (k j : Nat) (x : Int) : vp_updL (fun j => Int64.ofInt (mem k j)) j (Int64.ofInt x) = fun i => Int64.ofInt (zup mem k j x k i) := by
  funext i
  unfold vp_updL
  by_cases h : i = j
  · subst h
    rw [zup_s]
    simp
  · rw [zup_n _ _ _ _ h]
    simp [h]
theorem znar_b {x : Int} (h : -128 ≤ x ∧ x < 128) : vp_nar .byte (Int32.ofInt x) = Int32.ofInt x := by
  rw [vp_nar_byte, ← Int32.toInt_inj, Int8.toInt_toInt32, Int32.toInt_toInt8, zI_to (by unfold zI; omega), Int.bmod_def]
  split <;> omega
theorem znar_z {x : Int} (h : x = 0 ∨ x = 1) : vp_nar .boolean (Int32.ofInt x) = Int32.ofInt x := by
  unfold vp_nar
  rw [(zbool h).1]
theorem zs_iastore (hd : decode (zKb (zMk M)) pc = .ok (.iastore, 1)) (hk : ∀ pc ls st mem, k pc ls st mem → zG d M pc ls st mem Q) (h : match st with
    | (0, x) :: (0, i) :: (2, a) :: r => (zkd a.toNat = 100 ∧ 0 ≤ i ∧ i < zln a.toNat) ∧ ∀ mem' : zMem, mem' = zup mem a.toNat i.toNat x → k (pc + 1) ls r mem'
    | _ => False) : zG d M pc ls st mem Q := by
  intro p l e R s m args below meth c H locs cells slots Qf E lj C hc hs hH hS hL hl hst hR
  obtain ⟨hx, hb, hml, hown, hts, hfr, hlo, hOn, hscr⟩ := id C
  split at h
  · rename_i x i a r
    obtain ⟨⟨hk1, hk2, hk3⟩, h⟩ := h
    have he := zws_at E mem (zkd_lt (k := a.toNat) (by omega))
    rw [zel_i E _ (by omega) (by omega), hk1] at he
    have hi : zI i := zoh (zot hst)
    refine va_iast hx hb hOn.1 hH.2 (zws_D E mem) hS a.toNat 0 he rfl (zin_i hi hk2 hk3) hd (fun H1 locs1 hP1 _ hS1 => ?_)
    have h := h _ rfl
    refine hk _ _ _ _ h p l e R s m args below meth c _ _ cells slots Qf E _ C hc hs (zHp_set (zkd_lt (by omega)) (zup_rg hH.1 (fun q => by omega) (fun _ => zoh hst)) (zup_o _ _ _ _) ?_ hP1) hS1 hL hl (zot (zot (zot hst))) hR
    rw [zel_i E _ (by omega) (by omega), hk1, zcl_i hi, zupd_i]
  · exact h.elim
theorem zs_bastore (hd : decode (zKb (zMk M)) pc = .ok (.bastore, 1)) (hk : ∀ pc ls st mem, k pc ls st mem → zG d M pc ls st mem Q) (h : match st with
    | (0, x) :: (0, i) :: (2, a) :: r => ((zkd a.toNat = 101 ∧ -128 ≤ x ∧ x < 128 ∨ zkd a.toNat = 102 ∧ (x = 0 ∨ x = 1)) ∧ 0 ≤ i ∧ i < zln a.toNat) ∧ ∀ mem' : zMem, mem' = zup mem a.toNat i.toNat x → k (pc + 1) ls r mem'
    | _ => False) : zG d M pc ls st mem Q := by
  intro p l e R s m args below meth c H locs cells slots Qf E lj C hc hs hH hS hL hl hst hR
  obtain ⟨hx, hb, hml, hown, hts, hfr, hlo, hOn, hscr⟩ := id C
  split at h
  · rename_i x i a r
    obtain ⟨⟨⟨hk1, hb8⟩ | ⟨hk1, hb8⟩, hk2, hk3⟩, h⟩ := h
    · have he := zws_at E mem (zkd_lt (k := a.toNat) (by omega))
      rw [zel_i E _ (by omega) (by omega), hk1] at he
      have hi : zI i := zoh (zot hst)
      refine va_bast hx hb hOn.1 hH.2 (zws_D E mem) hS a.toNat 1 he rfl (zin_i hi hk2 hk3) hd (fun H1 locs1 hP1 _ hS1 => ?_)
      have h := h _ rfl
      refine hk _ _ _ _ h p l e R s m args below meth c _ _ cells slots Qf E _ C hc hs (zHp_set (zkd_lt (by omega)) (zup_rg hH.1 (fun q => by omega) (fun _ => zoh hst)) (zup_o _ _ _ _) ?_ hP1) hS1 hL hl (zot (zot (zot hst))) hR
      rw [zel_i E _ (by omega) (by omega), hk1, znar_b hb8, zcl_i hi, zupd_i]
    · have he := zws_at E mem (zkd_lt (k := a.toNat) (by omega))
      rw [zel_i E _ (by omega) (by omega), hk1] at he
      have hi : zI i := zoh (zot hst)
      refine va_zast hx hb hOn.1 hH.2 (zws_D E mem) hS a.toNat 2 he rfl (zin_i hi hk2 hk3) hd (fun H1 locs1 hP1 _ hS1 => ?_)
      have h := h _ rfl
      refine hk _ _ _ _ h p l e R s m args below meth c _ _ cells slots Qf E _ C hc hs (zHp_set (zkd_lt (by omega)) (zup_rg hH.1 (fun q => by omega) (fun _ => zoh hst)) (zup_o _ _ _ _) ?_ hP1) hS1 hL hl (zot (zot (zot hst))) hR
      rw [zel_i E _ (by omega) (by omega), hk1, znar_z hb8, zcl_i hi, zupd_i]
  · exact h.elim
theorem zs_lastore (hd : decode (zKb (zMk M)) pc = .ok (.lastore, 1)) (hk : ∀ pc ls st mem, k pc ls st mem → zG d M pc ls st mem Q) (h : match st with
    | (1, x) :: (0, i) :: (2, a) :: r => (zkd a.toNat = 103 ∧ 0 ≤ i ∧ i < zln a.toNat) ∧ ∀ mem' : zMem, mem' = zup mem a.toNat i.toNat x → k (pc + 1) ls r mem'
    | _ => False) : zG d M pc ls st mem Q := by
  intro p l e R s m args below meth c H locs cells slots Qf E lj C hc hs hH hS hL hl hst hR
  obtain ⟨hx, hb, hml, hown, hts, hfr, hlo, hOn, hscr⟩ := id C
  split at h
  · rename_i x i a r
    obtain ⟨⟨hk1, hk2, hk3⟩, h⟩ := h
    have he := zws_at E mem (zkd_lt (k := a.toNat) (by omega))
    rw [zel_l E _ hk1] at he
    have hi : zI i := zoh (zot hst)
    refine va_last hx hb hOn.1 hH.2 (zws_D E mem) hS a.toNat 3 he rfl (zin_i hi hk2 hk3) hd (fun H1 locs1 hP1 _ hS1 => ?_)
    have h := h _ rfl
    refine hk _ _ _ _ h p l e R s m args below meth c _ _ cells slots Qf E _ C hc hs (zHp_set (zkd_lt (by omega)) (zup_rg hH.1 (fun _ => zoh hst) (fun q => absurd hk1 q)) (zup_o _ _ _ _) ?_ hP1) hS1 hL hl (zot (zot (zot hst))) hR
    rw [zel_l E _ hk1, zcl_i hi, zupd_l]
  · exact h.elim
theorem zofN (n : Nat) : Int32.ofNat n = Int32.ofInt (n : Int) := Int32.ofInt_eq_ofNat.symm
theorem zln_lt : ∀ k, k < zNC → zln k < 2147483648 := by decide +kernel
theorem zs_arraylength (hd : decode (zKb (zMk M)) pc = .ok (.arraylength, 1)) (hk : ∀ pc ls st mem, k pc ls st mem → zG d M pc ls st mem Q) (h : match st with
    | (2, a) :: r => (100 ≤ zkd a.toNat ∧ zkd a.toNat ≤ 103) ∧ k (pc + 1) ls ((0, (zln a.toNat : Int)) :: r) mem
    | (5, _) :: r => (zMx M).1 ≠ 0 ∧ k (pc + 1) ls ((0, ((zMx M).1 : Int) - 1) :: r) mem
    | _ => False) : zG d M pc ls st mem Q := by
  intro p l e R s m args below meth c H locs cells slots Qf E lj C hc hs hH hS hL hl hst hR
  obtain ⟨hx, hb, hml, hown, hts, hfr, hlo, hOn, hscr⟩ := id C
  split at h
  · rename_i a r
    obtain ⟨⟨hk0, hk1⟩, h⟩ := h
    have hlt := zln_lt a.toNat (zkd_lt (by omega))
    have he := zws_at E mem (zkd_lt (k := a.toNat) (by omega))
    have hg := hk _ _ _ _ h p l e R s m args below meth c _ _ cells slots Qf E _ C hc hs hH hS hL hl (zoc (show zI _ by unfold zI; omega) (zot hst)) hR
    have e32 : Int32.ofNat (zln a.toNat) = Int32.ofInt (zln a.toNat : Int) := zofN _
    rcases (show zkd a.toNat = 103 ∨ zkd a.toNat < 103 by omega) with q | q
    · rw [zel_l E _ q] at he
      exact va_alen hx hb hOn.1 hH.2 a.toNat 3 he rfl e32 hd hg
    · rw [zel_i E _ hk0 q] at he
      rcases (show zkd a.toNat = 100 ∨ zkd a.toNat = 101 ∨ zkd a.toNat = 102 by omega) with q | q | q <;> rw [q] at he
      · exact va_alen hx hb hOn.1 hH.2 a.toNat 0 he rfl e32 hd hg
      · exact va_alen hx hb hOn.1 hH.2 a.toNat 1 he rfl e32 hd hg
      · exact va_alen hx hb hOn.1 hH.2 a.toNat 2 he rfl e32 hd hg
  · rename_i a r
    obtain ⟨hk0, h⟩ := h
    rcases hscr with e0 | e0
    · exact absurd e0 hk0
    rw [e0] at h
    have e1 : (((zEl E + 1, fun j => (zEx E j).toInt) : Nat × (Nat → Int)).1 : Int) - 1 = (zEl E : Int) := by show ((zEl E + 1 : Nat) : Int) - 1 = _; omega
    rw [e1] at h
    have hL3 : zEl E ≤ 3072 := hOn.2.2.2.2.2.1.2.1
    have hg := hk _ _ _ _ h p l e R s m args below meth c _ _ cells slots Qf E _ C hc hs hH hS hL hl (zoc (show zI _ by unfold zI; omega) (zot hst)) hR
    refine va_slen hx hb hOn.2.2.2.2.2.1.1 ?_ hOn.2.2.2.2.2.1.2.2 hS hd (by rw [zofN]; exact hg)
    obtain ⟨scr, hscr, -⟩ := hOn.2.2.2.2.2.1.1
    exact (Array.getElem?_eq_some_iff.mp hscr).1
  · exact h.elim
end
end
section
section
variable {d : Nat} {M : zMt} {Q : Int → zMem → Prop} {pc : Nat} {ls st : List zV} {mem : zMem} {k : Nat → List zV → List zV → zMem → Prop}
/-- a constant's row -/
def zNf (own : String) (c : Nat × Nat × Int × Nat) : Prop := match c with
  | (i, 0, v, _) => Cond.constant own i (Int32.ofInt v) ∈ zgood ∧ zI v
  | (i, 1, v, _) => Cond.constantLong own i (Int64.ofInt v) ∈ zgood ∧ zJ v
  | (i, 3, v, _) => own = "OtherDoor$Tape" ∧ v.toNat < 8 ∧ zSi.getD v.toNat 0 = i
  | (i, 4, _, _) => Cond.fieldLink own i "OtherDoor$Rounds" "HAVING" "[I" ∈ zgood
  | _ => False
theorem zs_ldc_w {idx : Nat} (hd : decode (zKb (zMk M)) pc = .ok (.ldc_w idx, 3)) (hN : ∀ c ∈ zMn M, zNf (zMo M) c) (hk : ∀ pc ls st mem, k pc ls st mem → zG d M pc ls st mem Q) (h : match zat (zMn M) idx with
    | some (0, v, _) => k (pc + 3) ls ((0, v) :: st) mem
    | _ => False) : zG d M pc ls st mem Q := by
  intro p l e R s m args below meth c H locs cells slots Qf E lj C hc hs hH hS hL hl hst hR
  obtain ⟨hx, hb, hml, hown, hts, hfr, hlo, hOn, hscr⟩ := id C
  split at h
  · rename_i v pl hat
    obtain ⟨h1, h2⟩ := hN _ (zat_mem hat)
    exact lv_ldcw hx hb hown (hts _ h1) hd (hk _ _ _ _ h p l e R s m args below meth c _ _ cells slots Qf E _ C hc hs hH hS hL hl (zoc h2 hst) hR)
  · exact h.elim
theorem zs_ldc2_w {idx : Nat} (hd : decode (zKb (zMk M)) pc = .ok (.ldc2_w idx, 3)) (hN : ∀ c ∈ zMn M, zNf (zMo M) c) (hk : ∀ pc ls st mem, k pc ls st mem → zG d M pc ls st mem Q) (h : match zat (zMn M) idx with
    | some (1, v, _) => k (pc + 3) ls ((1, v) :: st) mem
    | _ => False) : zG d M pc ls st mem Q := by
  intro p l e R s m args below meth c H locs cells slots Qf E lj C hc hs hH hS hL hl hst hR
  obtain ⟨hx, hb, hml, hown, hts, hfr, hlo, hOn, hscr⟩ := id C
  split at h
  · rename_i v pl hat
    obtain ⟨h1, h2⟩ := hN _ (zat_mem hat)
    exact lv_ldc2 hx hb hown (hts _ h1) hd (hk _ _ _ _ h p l e R s m args below meth c _ _ cells slots Qf E _ C hc hs hH hS hL hl (zoc h2 hst) hR)
  · exact h.elim
theorem zs_ldc {idx : Nat} (hd : decode (zKb (zMk M)) pc = .ok (.ldc idx, 2)) (hN : ∀ c ∈ zMn M, zNf (zMo M) c) (hk : ∀ pc ls st mem, k pc ls st mem → zG d M pc ls st mem Q) (h : match zat (zMn M) idx with
    | some (3, v, _) => k (pc + 2) ls ((3, v) :: st) mem
    | _ => False) : zG d M pc ls st mem Q := by
  intro p l e R s m args below meth c H locs cells slots Qf E lj C hc hs hH hS hL hl hst hR
  obtain ⟨hx, hb, hml, hown, hts, hfr, hlo, hOn, hscr⟩ := id C
  split at h
  · rename_i v pl hat
    obtain ⟨h1, h2, h3⟩ := hN _ (zat_mem hat)
    have hr := hOn.2.2.1 _ h2
    rw [h3, ← h1] at hr
    exact va_ldcS hx hb hown hr hd (hk _ _ _ _ h p l e R s m args below meth c _ _ cells slots Qf E _ C hc hs hH hS hL hl (zoc (show zok (3, _) from trivial) hst) hR)
  · exact h.elim
theorem zs_getstatic {idx : Nat} (hd : decode (zKb (zMk M)) pc = .ok (.getstatic idx, 3)) (hN : ∀ c ∈ zMn M, zNf (zMo M) c) (hk : ∀ pc ls st mem, k pc ls st mem → zG d M pc ls st mem Q) (h : match zat (zMn M) idx with
    | some (4, _, _) => k (pc + 3) ls ((4, 0) :: st) mem
    | _ => False) : zG d M pc ls st mem Q := by
  intro p l e R s m args below meth c H locs cells slots Qf E lj C hc hs hH hS hL hl hst hR
  obtain ⟨hx, hb, hml, hown, hts, hfr, hlo, hOn, hscr⟩ := id C
  split at h
  · rename_i v pl hat
    have h1 := hN _ (zat_mem hat)
    exact va_gets hx hb hOn.2.2.2.1 hS hown (hts _ h1) (fun _ h => h) hd (hk _ _ _ _ h p l e R s m args below meth c _ _ cells slots Qf E _ C hc hs hH hS hL hl (zoc (show zok (4, _) from trivial) hst) hR)
  · exact h.elim
theorem zXt.kept {E : zEnv} {U : State} {H H1 : Heap} (h : zXt E U H) (hq : ∀ a : Nat, a < H.size → ¬ zA E a → H1[a]? = H[a]?) : zXt E U H1 := by
  obtain ⟨h1, h2, h3, h4, ⟨h5, h6, h7⟩, h8, h9⟩ := h
  refine ⟨h1.kept hq, h2, h3.kept hq, h4.kept hq, ⟨h5.kept ?_, h6, h7⟩, h8.kept hq, h9.kept hq⟩
  obtain ⟨scr, hs, -⟩ := h5
  exact hq _ (Array.getElem?_eq_some_iff.mp hs).1 h7
theorem zXt.warm {E : zEnv} {s U : State} {H : Heap} (hW : s.WarmedH U.vm) (h : zXt E s H) : zXt E U H := by
  obtain ⟨h1, h2, h3, h4, ⟨h5, h6, h7⟩, h8, h9⟩ := h
  exact ⟨h1.moved hW.alike, fun i hi => (h2 i hi).warm hW, h3.moved hW.alike, h4.moved hW.alike, ⟨h5.moved hW.alike, h6, h7⟩, h8.moved hW.alike, h9.moved hW.alike⟩
theorem zXt.same {E : zEnv} {s U : State} {H : Heap} (hv : U.vm = s.vm) (h : zXt E s H) : zXt E U H := by
  obtain ⟨h1, h2, h3, h4, ⟨h5, h6, h7⟩, h8, h9⟩ := h
  have ha : s.vm.Alike U.vm := by rw [hv]; exact Vm.Alike.refl _
  exact ⟨h1.moved ha, fun i hi => (h2 i hi).same hv, h3.moved ha, h4.moved ha, ⟨h5.moved ha, h6, h7⟩, h8.moved ha, h9.moved ha⟩
theorem zPc_blind (E : zEnv) (av : List zV) (mem : zMem) : FrameBlind (zPc E av mem) := by
  intro a U g mk h
  obtain ⟨h1, h2, ⟨h3, h4⟩, h5⟩ := h
  exact ⟨h1, h2, ⟨va_K.moved (u := U) (U := U.calling g mk a) (Vm.Alike.refl U.vm) h3, zXt.same (s := U) (U := U.calling g mk a) rfl h4⟩, h5⟩
theorem zPc_at {E : zEnv} {av : List zV} {mem : zMem} {s U : State} {H : Heap} {locs : List Loc} (hav : ∀ x ∈ av, zok x) (hOn : zOn E s) (hH : zHp E mem H) (hS : va_S (zA E) s.heap H locs) (hU : U.heap = H) (hW : s.WarmedH U.vm) : zPc E av mem (av.map (zv E)).toArray U :=
  ⟨rfl, hav, ⟨va_K.moved hW.alike hOn.1, by rw [hU]; exact (hOn.2.kept hS.2.1).warm hW⟩, by rw [hU]; exact hH⟩
theorem zcall {p : Program} {l : Launch} {e : Env} {R : Room} {s : State} {m : MethodId} {args : Array Value} {below : List Frame} {meth : Method} {c : Code} {H : Heap} {locs : List Loc} {cells slots : Nat} {Qf : State → Prop} {E : zEnv} {r : Option FieldType} {Q' : Int → zMem → Prop} {a : Array Value} {lj : Array Slot} {stJ rest : List Value}
    (hr : va_Run p l e R s m args below meth c H locs cells slots 0 0 (F0 m pc lj stJ) rest (zQc E r Q' a) (zA E)) (hS : va_S (zA E) s.heap H locs)
    (kk : ∀ (x : Int) (mem' : zMem) (H1 : Heap) (locs1 : List Loc), zok (zrtag r, x) → Q' x mem' → zHp E mem' H1 → va_S (zA E) s.heap H1 locs1 → W p l e R s m args below meth c H1 locs1 cells slots Qf (F0 m (pc + 3) lj ((zret E r x).toList ++ rest))) : W p l e R s m args below meth c H locs cells slots Qf (F0 m pc lj stJ) := by
  intro T hT X
  obtain ⟨v, st₀, t, T', L, h0, X', hL, e1, e2, ⟨⟨x, mem', hv, hok, hq, hh⟩, hz, hk⟩, st⟩ := hr T hT X
  cases hv
  rw [h0] at hz hk
  obtain ⟨t2, a1, b1⟩ := kk x mem' T'.heap (locs ++ L) hok hq (by rw [e1]; exact hh)
    ⟨Nat.le_trans hS.1 (by rw [e1]; exact hz), fun q h1 h2 => by rw [e1, hk q (Nat.lt_of_lt_of_le h1 hS.1) h2]; exact hS.2.1 q h1 h2, fun q hq => by
      rcases List.mem_append.mp hq with h | h
      · exact hS.2.2 q h
      · exact hL q h⟩ T' rfl X'
  exact ⟨t2, st t2 a1, b1⟩
theorem ztk_spec : ∀ {n : Nat} {st acc av r : List zV}, ztk n st acc = some (av, r) → ∃ u, u.length = n ∧ st = u ++ r ∧ av = u.reverse ++ acc
  | 0, st, acc, av, r, h => by
    unfold ztk at h
    cases h
    exact ⟨[], rfl, rfl, rfl⟩
  | n + 1, [], acc, av, r, h => by unfold ztk at h; cases h
  | n + 1, v :: st, acc, av, r, h => by
    unfold ztk at h
    obtain ⟨u, h1, h2, h3⟩ := ztk_spec h
    exact ⟨v :: u, by simp [h1], by rw [h2]; rfl, by rw [h3]; simp⟩
theorem zrm_spec {r : List zV} {P : Prop} (h : zrm r P) : zsm r ≤ 8 ∧ P := by
  unfold zrm at h
  split at h
  · rename_i hb
    exact ⟨Nat.le_of_ble_eq_true hb, h⟩
  · exact h.elim
theorem zsm_eq (E : zEnv) : ∀ r : List zV, ((r.map (zv E)).map fun v => v.category).sum = zsm r
  | [] => rfl
  | v :: r => by
    obtain ⟨t, x⟩ := v
    rw [List.map_cons, List.map_cons, List.sum_cons, zsm_eq E r, zv_cat]
    rfl
theorem zpsh_eq (E : zEnv) (r : Option FieldType) (x : Int) (rest : List zV) : (zpsh (zrtag r) x rest).map (zv E) = (zret E r x).toList ++ rest.map (zv E) := by
  cases r with
  | none => rfl
  | some t => cases t <;> rfl
theorem zpsh_ok {r : Option FieldType} {x : Int} {rest : List zV} (h : zok (zrtag r, x)) (hr : ∀ v ∈ rest, zok v) : ∀ v ∈ zpsh (zrtag r) x rest, zok v := by
  cases r with
  | none => exact hr
  | some t => cases t <;> exact zoc h hr
/-- a call's row: kind, words -/
def zMf1 (own : String) (c : Nat × zKey × Nat × Nat × List Nat) : Prop :=
  (c.2.2.1 ≠ 101 → (Cond.code (zKy c.2.1) (zKb c.2.1) (zKl c.2.1) (zKr c.2.1) ∈ zgood ∧ Cond.methodLink own c.1 (zKy c.2.1) ∈ zgood ∧ Cond.initialized (zKy c.2.1).cls ∈ zgood ∧ (zKy c.2.1).cls ≠ "java/lang/invoke/MethodHandle" ∧ (zKy c.2.1).cls ≠ "java/lang/invoke/VarHandle" ∧ (parseMethodDescriptor (zKy c.2.1).desc).map (fun d => d.parameters.length) = some c.2.2.2.1 ∧ zKl c.2.1 ≤ 81)) ∧
  (c.2.2.1 < 100 → (∃ q, vwCl[c.2.2.1]? = some q ∧ q.1 = (zKy c.2.1).cls) ∧ Cond.instanceMethod (zKy c.2.1) ∈ zgood ∧ Cond.selects (zKy c.2.1).cls (zKy c.2.1) (zKy c.2.1) ∈ zgood) ∧
  (c.2.2.1 = 102 → (zKy c.2.1).cls = "java/lang/String" ∧ Cond.instanceMethod (zKy c.2.1) ∈ zgood ∧ Cond.selects (zKy c.2.1).cls (zKy c.2.1) (zKy c.2.1) ∈ zgood) ∧
  (c.2.2.1 = 100 → Cond.static (zKy c.2.1) ∈ zgood) ∧
  (c.2.2.1 = 101 → Cond.methodLink own c.1 arraycopyName ∈ zgood ∧ Cond.native arraycopyName ∈ zgood ∧ Cond.static arraycopyName ∈ zgood ∧ Cond.initialized "java/lang/System" ∈ zgood)
theorem zgoodW {own : String} {idx : Nat} {K : zKey} (h1 : Cond.code (zKy K) (zKb K) (zKl K) (zKr K) ∈ zgood) (h2 : Cond.methodLink own idx (zKy K) ∈ zgood) (h3 : Cond.instanceMethod (zKy K) ∈ zgood) (h4 : Cond.selects (zKy K).cls (zKy K) (zKy K) ∈ zgood) (h5 : Cond.initialized (zKy K).cls ∈ zgood) : GoodIn zgood (wsV own idx (zKy K).cls (zKy K) (zW K)) := by
  intro w hw
  have : w ∈ zgood := by
    unfold wsV zW at hw
    simp only [List.mem_append, List.mem_cons, List.not_mem_nil, or_false] at hw
    rcases hw with (rfl | rfl | rfl | rfl) | rfl | hw <;> assumption
  exact ⟨this, zgood_in this⟩
theorem zgoodS {own : String} {idx : Nat} {K : zKey} (h1 : Cond.code (zKy K) (zKb K) (zKl K) (zKr K) ∈ zgood) (h2 : Cond.methodLink own idx (zKy K) ∈ zgood) (h3 : Cond.static (zKy K) ∈ zgood) (h5 : Cond.initialized (zKy K).cls ∈ zgood) : GoodIn zgood (va_wsS own idx (zKy K) (zW K)) := by
  intro w hw
  have : w ∈ zgood := by
    unfold va_wsS zW at hw
    simp only [List.mem_append, List.mem_cons, List.not_mem_nil, or_false] at hw
    rcases hw with (rfl | rfl | rfl) | rfl | hw <;> assumption
  exact ⟨this, zgood_in this⟩
theorem zroom {R : Room} {e ml : Nat} (h1 : e + 1 ≤ R.frames) (h2 : 100 * (e + 1) ≤ R.locals) (h3 : ml ≤ 81) : (zRm e).frames + 1 ≤ R.frames ∧ 8 + (ml + 11) + (zRm e).locals ≤ R.locals := by
  refine ⟨h1, ?_⟩
  show 8 + (ml + 11) + 100 * e ≤ R.locals
  omega
theorem zs_invokevirtual {idx : Nat} (hd : decode (zKb (zMk M)) pc = .ok (.invokevirtual idx, 3)) (hF : ∀ c ∈ zMm M, zMf1 (zMo M) c) (hk : ∀ pc ls st mem, k pc ls st mem → zG d M pc ls st mem Q) (h : match zat (zMm M) idx with
    | some (K, kd, n, _) => match ztk (n + 1) st [] with
      | some ((2, h) :: as, r) => match Nat.blt kd 100 with
        | true => zkd h.toNat = kd ∧ zrm r (zCk d K ((2, h) :: as) mem (fun x mem' => k (pc + 3) ls (zpsh (zrtag (zKr K)) x r) mem'))
        | false => False
      | some ((3, h) :: as, r) => (kd = 102 ∧ 0 ≤ h ∧ h < 8) ∧ zrm r (zCk d K ((3, h) :: as) mem (fun x mem' => k (pc + 3) ls (zpsh (zrtag (zKr K)) x r) mem'))
      | _ => False
    | none => False) : zG d M pc ls st mem Q := by
  intro p l e R s m args below meth c H locs cells slots Qf E lj C hc hs hH hS hL hl hst hR
  obtain ⟨hx, hb, hml, hown, hts, hfr, hlo, hOn, hscr⟩ := id C
  split at h
  · rename_i K kd n pl hat
    obtain ⟨hA, hV, hT, -, -⟩ := hF _ (zat_mem hat)
    dsimp only at hA hV hT
    split at h
    · rename_i q as r htk
      split at h
      rotate_left
      · exact h.elim
      rename_i hbl
      have hk0 : kd < 100 := Nat.le_of_ble_eq_true hbl
      obtain ⟨hkd, h⟩ := h
      replace hA := hA (by omega)
      obtain ⟨⟨⟨C1, T1, N1⟩, hV0, hV1⟩, hV2, hV3⟩ := hV hk0
      have hrecv : ∃ cellB : Cell, H[zEb E + q.toNat]? = some cellB ∧ cellB.vm.isStatics = false ∧ s.vm.findClass (zKy K).cls = some cellB.cls := by
        have he := zws_at E mem (zkd_lt (k := q.toNat) (by omega))
        rw [zel_o E _ (by omega)] at he
        have hcl : vwCl[zkd q.toNat]? = some (C1, T1, N1) := by rw [hkd]; exact hV0
        obtain ⟨cell, g1, g2, g3⟩ := va_recv hOn.1 hH.2 (ci := zkd q.toNat) (q0 := q.toNat) hcl he
        exact ⟨cell, g1, g2, by rw [← hV1]; exact g3⟩
      obtain ⟨hsm, h⟩ := zrm_spec h
      match d, h, hfr, hlo, hk, C with
      | 0, h, _, _, _, _ => exact h.elim
      | e0 + 1, h, hfr, hlo, hk, C =>
        have hM := h l E e0 (Nat.le_refl _)
        obtain ⟨u, hu1, hu2, hu3⟩ := ztk_spec htk
        rw [List.append_nil] at hu3
        have hu4 : u = as.reverse ++ [(2, q)] := by rw [← List.reverse_reverse (as := u), ← hu3]; simp
        have hlen : as.length = n := by
          rw [hu4] at hu1
          simpa using hu1
        have hav : ∀ v ∈ (((2, q) :: as) : List zV), zok v := fun v hv => hst v (by rw [hu2, hu4]; simp only [List.mem_append, List.mem_reverse, List.mem_cons, List.not_mem_nil, or_false] at hv ⊢; rcases hv with rfl | hv <;> simp [*])
        have hor : ∀ v ∈ r, zok v := fun v hv => hst v (by rw [hu2]; exact List.mem_append_right _ hv)
        refine zcall (va_runV (C := (zKy K).cls) (As := as.map (zv E)) (rest := r.map (zv E)) ⟨hx, hb, hml, hown, hts⟩ hM (cwV n hts (zgoodW hA.1 hA.2.1 hV2 hV3 hA.2.2.1) rfl rfl rfl ⟨rfl, hA.2.2.2.1, hA.2.2.2.2.1, hA.2.2.2.2.2.1⟩ (zroom hfr hlo hA.2.2.2.2.2.2)) ⟨zPc_blind _ _ _, hrecv, fun U hU hW => zPc_at hav hOn hH hS hU hW⟩ rfl (by rw [List.length_map]; exact hlen) hL.1 ?_ (lv_room (by rw [zsm_eq]; exact hsm)) hd ⟨hc, hs⟩) hS (fun x mem' H1 locs1 hok hq hH1 hS1 => ?_)
        · show (st.map (zv E)) = _
          rw [hu2, hu4]
          simp [zv]
        · have hg := hk _ _ _ _ hq p l e R s m args below meth c _ _ cells slots Qf E _ C hc hs hH1 hS1 hL hl (zpsh_ok hok hor) hR
          rw [zpsh_eq] at hg
          exact hg
    · rename_i q as r htk
      obtain ⟨⟨hk0, hq0, hq8⟩, h⟩ := h
      replace hA := hA (by omega)
      obtain ⟨hV1, hV2, hV3⟩ := hT hk0
      have hrecv : ∃ cellB : Cell, H[zEk E q.toNat]? = some cellB ∧ cellB.vm.isStatics = false ∧ s.vm.findClass (zKy K).cls = some cellB.cls := by
        rw [hV1]
        exact vk_recv hOn.2.1 (by omega) hS
      obtain ⟨hsm, h⟩ := zrm_spec h
      match d, h, hfr, hlo, hk, C with
      | 0, h, _, _, _, _ => exact h.elim
      | e0 + 1, h, hfr, hlo, hk, C =>
        have hM := h l E e0 (Nat.le_refl _)
        obtain ⟨u, hu1, hu2, hu3⟩ := ztk_spec htk
        rw [List.append_nil] at hu3
        have hu4 : u = as.reverse ++ [(3, q)] := by rw [← List.reverse_reverse (as := u), ← hu3]; simp
        have hlen : as.length = n := by
          rw [hu4] at hu1
          simpa using hu1
        have hav : ∀ v ∈ (((3, q) :: as) : List zV), zok v := fun v hv => hst v (by rw [hu2, hu4]; simp only [List.mem_append, List.mem_reverse, List.mem_cons, List.not_mem_nil, or_false] at hv ⊢; rcases hv with rfl | hv <;> simp [*])
        have hor : ∀ v ∈ r, zok v := fun v hv => hst v (by rw [hu2]; exact List.mem_append_right _ hv)
        refine zcall (va_runV (C := (zKy K).cls) (As := as.map (zv E)) (rest := r.map (zv E)) ⟨hx, hb, hml, hown, hts⟩ hM (cwV n hts (zgoodW hA.1 hA.2.1 hV2 hV3 hA.2.2.1) rfl rfl rfl ⟨rfl, hA.2.2.2.1, hA.2.2.2.2.1, hA.2.2.2.2.2.1⟩ (zroom hfr hlo hA.2.2.2.2.2.2)) ⟨zPc_blind _ _ _, hrecv, fun U hU hW => zPc_at hav hOn hH hS hU hW⟩ rfl (by rw [List.length_map]; exact hlen) hL.1 ?_ (lv_room (by rw [zsm_eq]; exact hsm)) hd ⟨hc, hs⟩) hS (fun x mem' H1 locs1 hok hq hH1 hS1 => ?_)
        · show (st.map (zv E)) = _
          rw [hu2, hu4]
          simp [zv]
        · have hg := hk _ _ _ _ hq p l e R s m args below meth c _ _ cells slots Qf E _ C hc hs hH1 hS1 hL hl (zpsh_ok hok hor) hR
          rw [zpsh_eq] at hg
          exact hg
    · exact h.elim
  · exact h.elim
theorem zs_invokestatic {idx : Nat} (hd : decode (zKb (zMk M)) pc = .ok (.invokestatic idx, 3)) (hF : ∀ c ∈ zMm M, zMf1 (zMo M) c) (hk : ∀ pc ls st mem, k pc ls st mem → zG d M pc ls st mem Q) (h : match zat (zMm M) idx with
    | some (K, 100, n, _) => match ztk n st [] with
      | some (as, r) => zrm r (zCk d K as mem (fun x mem' => k (pc + 3) ls (zpsh (zrtag (zKr K)) x r) mem'))
      | none => False
    | some (_, 101, _, _) => match st with
      | (0, n) :: (0, dp) :: (2, t) :: (0, sp) :: (2, a) :: r => (zkd a.toNat = 100 ∧ zkd t.toNat = 100 ∧ 0 ≤ sp ∧ 0 ≤ dp ∧ 0 ≤ n ∧ sp + n ≤ zln a.toNat ∧ dp + n ≤ zln t.toNat) ∧ zrm r (d ≠ 0 ∧ ∀ mem' : zMem, mem' = zcp mem a.toNat sp.toNat t.toNat dp.toNat n.toNat → k (pc + 3) ls r mem')
      | _ => False
    | _ => False) : zG d M pc ls st mem Q := by
  intro p l e R s m args below meth c H locs cells slots Qf E lj C hc hs hH hS hL hl hst hR
  obtain ⟨hx, hb, hml, hown, hts, hfr, hlo, hOn, hscr⟩ := id C
  split at h
  · rename_i K n pl hat
    obtain ⟨hA, -, -, hT, -⟩ := hF _ (zat_mem hat)
    dsimp only at hA hT
    replace hA := hA (by decide)
    replace hT := hT rfl
    split at h
    · rename_i as r htk
      obtain ⟨hsm, h⟩ := zrm_spec h
      match d, h, hfr, hlo, hk, C with
      | 0, h, _, _, _, _ => exact h.elim
      | e0 + 1, h, hfr, hlo, hk, C =>
        have hM := h l E e0 (Nat.le_refl _)
        obtain ⟨u, hu1, hu2, hu3⟩ := ztk_spec htk
        rw [List.append_nil] at hu3
        have hu4 : u = as.reverse := by rw [← List.reverse_reverse (as := u), ← hu3]
        have hlen : as.length = n := by
          rw [hu4] at hu1
          simpa using hu1
        have hav : ∀ v ∈ as, zok v := fun v hv => hst v (by rw [hu2, hu4]; exact List.mem_append_left _ (List.mem_reverse.mpr hv))
        have hor : ∀ v ∈ r, zok v := fun v hv => hst v (by rw [hu2]; exact List.mem_append_right _ hv)
        refine zcall (va_runS (As := as.map (zv E)) (rest := r.map (zv E)) ⟨hx, hb, hml, hown, hts⟩ hM (va_cwS n hts (zgoodS hA.1 hA.2.1 hT hA.2.2.1) rfl rfl rfl ⟨hA.2.2.2.1, hA.2.2.2.2.1, hA.2.2.2.2.2.1⟩ (zroom hfr hlo hA.2.2.2.2.2.2)) ⟨zPc_blind _ _ _, fun U hU hW => zPc_at hav hOn hH hS hU hW⟩ rfl (by rw [List.length_map]; exact hlen) hL.1 ?_ (lv_room (by rw [zsm_eq]; exact hsm)) hd ⟨hc, hs⟩) hS (fun x mem' H1 locs1 hok hq hH1 hS1 => ?_)
        · show (st.map (zv E)) = _
          rw [hu2, hu4]
          simp
        · have hg := hk _ _ _ _ hq p l e R s m args below meth c _ _ cells slots Qf E _ C hc hs hH1 hS1 hL hl (zpsh_ok hok hor) hR
          rw [zpsh_eq] at hg
          exact hg
    · exact h.elim
  · rename_i K n pl hat
    obtain ⟨-, -, -, -, hT⟩ := hF _ (zat_mem hat)
    dsimp only at hT
    obtain ⟨hT1, hT2, hT3, hT4⟩ := hT rfl
    split at h
    · rename_i n dp t sp a r
      obtain ⟨⟨hk1, hk2, hk3, hk4, hk5, hk6, hk7⟩, h⟩ := h
      obtain ⟨hsm, hd0, h⟩ := zrm_spec h
      have hn : zI n := zoh hst
      have hdp : zI dp := zoh (zot hst)
      have hsp : zI sp := zoh (zot (zot (zot hst)))
      have ha := zws_at E mem (zkd_lt (k := a.toNat) (by omega))
      rw [zel_i E _ (by omega) (by omega), hk1] at ha
      have ht := zws_at E mem (zkd_lt (k := t.toNat) (by omega))
      rw [zel_i E _ (by omega) (by omega), hk2] at ht
      have neg : ∀ {x : Int}, zI x → 0 ≤ x → ¬ Int32.ofInt x < 0 := fun hx h0 => by rw [z0_i, zlt_i hx (by unfold zI; omega)]; omega
      refine va_copyi hx hb (hml.trans hL.1.symm) hown (hts _ hT1) (hts _ hT2) (hts _ hT3) (hts _ hT4) hOn.1 hH.2 (zws_D E mem) hS a.toNat t.toNat 0 0 ha ht rfl rfl rfl (neg hsp hk3) (neg hdp hk4) (neg hn hk5) (by rw [zcl_i hsp, zcl_i hn]; omega) (by rw [zcl_i hdp, zcl_i hn]; omega) (fun _ _ => rfl) (by omega) ?_ hd (fun H1 locs1 hP1 _ hS1 => ?_)
      · rw [zsm_eq]
        show zsm r + (5 + 2 + 11) ≤ _
        omega
      · have h := h _ rfl
        refine hk _ _ _ _ h p l e R s m args below meth c _ _ cells slots Qf E _ C hc hs (zHp_set (zkd_lt (by omega)) (zcp_rg hH.1 (by omega)) (zcp_o _ _ _ _ _ _) ?_ hP1) hS1 hL hl (zot (zot (zot (zot (zot hst))))) hR
        rw [zel_i E _ (by omega) (by omega), hk2, zcl_i hsp, zcl_i hdp, zcl_i hn]
        congr 4
        funext i
        unfold va_cpy zcp
        by_cases hq : dp.toNat ≤ i ∧ i < dp.toNat + n.toNat
        · rw [if_pos hq, if_pos ⟨rfl, hq⟩]
        · rw [if_neg hq, if_neg (fun z => hq z.2)]
    · exact h.elim
  · exact h.elim
theorem zs_ireturn (hd : decode (zKb (zMk M)) pc = .ok (.ireturn, 1)) (h : match st with
    | [(0, x)] => match zKr (zMk M) with
      | some .int => Q x mem
      | some .boolean => (x = 0 ∨ x = 1) ∧ Q x mem
      | _ => False
    | _ => False) : zG d M pc ls st mem Q := by
  intro p l e R s m args below meth c H locs cells slots Qf E lj C hc hs hH hS hL hl hst hR
  obtain ⟨hx, hb, hml, hown, hts, hfr, hlo, hOn, hscr⟩ := id C
  split at h
  · rename_i x
    split at h
    · rename_i hr
      have g := hR x mem H locs pc lj .ireturn h (by rw [hr]; exact zoh hst) (fun q => by rw [hr] at q; cases q) hH hS hd (Or.inr (Or.inr ⟨Or.inl hr, rfl⟩))
      rw [hr] at g
      exact g
    · rename_i hr
      have g := hR x mem H locs pc lj .ireturn h.2 (by rw [hr]; exact zoh hst) (fun q => h.1) hH hS hd (Or.inr (Or.inr ⟨Or.inr hr, rfl⟩))
      rw [hr] at g
      exact g
    · exact h.elim
  · exact h.elim
theorem zs_lreturn (hd : decode (zKb (zMk M)) pc = .ok (.lreturn, 1)) (h : match st with
    | [(1, x)] => match zKr (zMk M) with
      | some .long => Q x mem
      | _ => False
    | _ => False) : zG d M pc ls st mem Q := by
  intro p l e R s m args below meth c H locs cells slots Qf E lj C hc hs hH hS hL hl hst hR
  obtain ⟨hx, hb, hml, hown, hts, hfr, hlo, hOn, hscr⟩ := id C
  split at h
  · rename_i x
    split at h
    · rename_i hr
      have g := hR x mem H locs pc lj .lreturn h (by rw [hr]; exact zoh hst) (fun q => by rw [hr] at q; cases q) hH hS hd (Or.inr (Or.inl ⟨hr, rfl⟩))
      rw [hr] at g
      exact g
    · exact h.elim
  · exact h.elim
theorem zs_return (hd : decode (zKb (zMk M)) pc = .ok (.return_, 1)) (h : match st with
    | [] => match zKr (zMk M) with
      | none => Q 0 mem
      | _ => False
    | _ => False) : zG d M pc ls st mem Q := by
  intro p l e R s m args below meth c H locs cells slots Qf E lj C hc hs hH hS hL hl hst hR
  obtain ⟨hx, hb, hml, hown, hts, hfr, hlo, hOn, hscr⟩ := id C
  split at h
  · split at h
    · rename_i hr
      have g := hR 0 mem H locs pc lj .return_ h (by rw [hr]; trivial) (fun q => by rw [hr] at q; cases q) hH hS hd (Or.inl ⟨hr, rfl⟩)
      rw [hr] at g
      exact g
    · exact h.elim
  · exact h.elim
end
end
section
section
variable {d : Nat} {M : zMt} {Q : Int → zMem → Prop} {pc : Nat} {ls st : List zV} {mem : zMem}
/-- what must hold of an instruction's numbers and length -/
def zlq (pc : Nat) (i : Instr) (len : Nat) : Bool := match i with
  | .iconst n => Nat.beq len 1 && decide (-2147483648 ≤ n) && decide (n < 2147483648)
  | .bipush n => Nat.beq len 2 && decide (-128 ≤ n) && decide (n < 128)
  | .sipush n => Nat.beq len 3 && decide (-32768 ≤ n) && decide (n < 32768)
  | .goto o => Nat.beq len 3 && decide (0 ≤ (pc : Int) + o)
  | .ifCond _ o => Nat.beq len 3 && decide (0 ≤ (pc : Int) + o)
  | .if_icmp _ o => Nat.beq len 3 && decide (0 ≤ (pc : Int) + o)
  | .tableswitch df lo hi os => decide (0 ≤ (pc : Int) + df) && os.toList.all (fun o => decide (0 ≤ (pc : Int) + o)) && decide ((os.size : Int) = hi - lo + 1)
  | .iload _ | .lload _ | .aload _ | .istore _ | .astore _ | .lstore _ | .ldc _ => Nat.beq len 2
  | .iinc _ _ | .getfield _ | .putfield _ | .ldc_w _ | .ldc2_w _ | .getstatic _ | .invokevirtual _ | .invokestatic _ => Nat.beq len 3
  | _ => Nat.beq len 1
/-- a method's tables are right -/
def zOK (M : zMt) : Prop := (∀ c ∈ zMc M, decode (zKb (zMk M)) c.1 = .ok (c.2.1, c.2.2) ∧ zlq c.1 c.2.1 c.2.2 = true) ∧ (∀ f ∈ zMf M, zFf (zMo M) f) ∧ (∀ c ∈ zMm M, zMf1 (zMo M) c) ∧ (∀ c ∈ zMn M, zNf (zMo M) c) ∧ (zKy (zMk M)).cls = zMo M
theorem zone_ok (hM : zOK M) {i : Instr} {len : Nat} (hat : zat (zMc M) pc = some (i, len)) {k : Nat → List zV → List zV → zMem → Prop} (hk : ∀ pc ls st mem, k pc ls st mem → zG d M pc ls st mem Q) (h : zone d M Q i pc ls st mem k) : zG d M pc ls st mem Q := by
  obtain ⟨hd, hq⟩ := hM.1 _ (zat_mem hat)
  dsimp only at hd hq
  cases i
  case lconst =>
    have e := Nat.eq_of_beq_eq_true hq
    subst e
    exact zs_lconst hd hk h
  case iload_n =>
    have e := Nat.eq_of_beq_eq_true hq
    subst e
    exact zs_iload_n hd hk h
  case iload =>
    have e := Nat.eq_of_beq_eq_true hq
    subst e
    exact zs_iload hd hk h
  case lload_n =>
    have e := Nat.eq_of_beq_eq_true hq
    subst e
    exact zs_lload_n hd hk h
  case lload =>
    have e := Nat.eq_of_beq_eq_true hq
    subst e
    exact zs_lload hd hk h
  case aload_n =>
    have e := Nat.eq_of_beq_eq_true hq
    subst e
    exact zs_aload_n hd hk h
  case aload =>
    have e := Nat.eq_of_beq_eq_true hq
    subst e
    exact zs_aload hd hk h
  case istore_n =>
    have e := Nat.eq_of_beq_eq_true hq
    subst e
    exact zs_istore_n hd hk h
  case istore =>
    have e := Nat.eq_of_beq_eq_true hq
    subst e
    exact zs_istore hd hk h
  case astore_n =>
    have e := Nat.eq_of_beq_eq_true hq
    subst e
    exact zs_astore_n hd hk h
  case astore =>
    have e := Nat.eq_of_beq_eq_true hq
    subst e
    exact zs_astore hd hk h
  case lstore_n =>
    have e := Nat.eq_of_beq_eq_true hq
    subst e
    exact zs_lstore_n hd hk h
  case lstore =>
    have e := Nat.eq_of_beq_eq_true hq
    subst e
    exact zs_lstore hd hk h
  case iinc =>
    have e := Nat.eq_of_beq_eq_true hq
    subst e
    exact zs_iinc hd hk h
  case iadd =>
    have e := Nat.eq_of_beq_eq_true hq
    subst e
    exact zs_iadd hd hk h
  case isub =>
    have e := Nat.eq_of_beq_eq_true hq
    subst e
    exact zs_isub hd hk h
  case imul =>
    have e := Nat.eq_of_beq_eq_true hq
    subst e
    exact zs_imul hd hk h
  case iand =>
    have e := Nat.eq_of_beq_eq_true hq
    subst e
    exact zs_iand hd hk h
  case ior =>
    have e := Nat.eq_of_beq_eq_true hq
    subst e
    exact zs_ior hd hk h
  case ixor =>
    have e := Nat.eq_of_beq_eq_true hq
    subst e
    exact zs_ixor hd hk h
  case ishl =>
    have e := Nat.eq_of_beq_eq_true hq
    subst e
    exact zs_ishl hd hk h
  case ishr =>
    have e := Nat.eq_of_beq_eq_true hq
    subst e
    exact zs_ishr hd hk h
  case iushr =>
    have e := Nat.eq_of_beq_eq_true hq
    subst e
    exact zs_iushr hd hk h
  case idiv =>
    have e := Nat.eq_of_beq_eq_true hq
    subst e
    exact zs_idiv hd hk h
  case irem =>
    have e := Nat.eq_of_beq_eq_true hq
    subst e
    exact zs_irem hd hk h
  case ineg =>
    have e := Nat.eq_of_beq_eq_true hq
    subst e
    exact zs_ineg hd hk h
  case i2b =>
    have e := Nat.eq_of_beq_eq_true hq
    subst e
    exact zs_i2b hd hk h
  case i2s =>
    have e := Nat.eq_of_beq_eq_true hq
    subst e
    exact zs_i2s hd hk h
  case i2c =>
    have e := Nat.eq_of_beq_eq_true hq
    subst e
    exact zs_i2c hd hk h
  case i2l =>
    have e := Nat.eq_of_beq_eq_true hq
    subst e
    exact zs_i2l hd hk h
  case l2i =>
    have e := Nat.eq_of_beq_eq_true hq
    subst e
    exact zs_l2i hd hk h
  case ladd =>
    have e := Nat.eq_of_beq_eq_true hq
    subst e
    exact zs_ladd hd hk h
  case lmul =>
    have e := Nat.eq_of_beq_eq_true hq
    subst e
    exact zs_lmul hd hk h
  case land =>
    have e := Nat.eq_of_beq_eq_true hq
    subst e
    exact zs_land hd hk h
  case lor =>
    have e := Nat.eq_of_beq_eq_true hq
    subst e
    exact zs_lor hd hk h
  case lshl =>
    have e := Nat.eq_of_beq_eq_true hq
    subst e
    exact zs_lshl hd hk h
  case lshr =>
    have e := Nat.eq_of_beq_eq_true hq
    subst e
    exact zs_lshr hd hk h
  case lushr =>
    have e := Nat.eq_of_beq_eq_true hq
    subst e
    exact zs_lushr hd hk h
  case lcmp =>
    have e := Nat.eq_of_beq_eq_true hq
    subst e
    exact zs_lcmp hd hk h
  case dup =>
    have e := Nat.eq_of_beq_eq_true hq
    subst e
    exact zs_dup hd hk h
  case dup2 =>
    have e := Nat.eq_of_beq_eq_true hq
    subst e
    exact zs_dup2 hd hk h
  case pop =>
    have e := Nat.eq_of_beq_eq_true hq
    subst e
    exact zs_pop hd hk h
  case iaload =>
    have e := Nat.eq_of_beq_eq_true hq
    subst e
    exact zs_iaload hd hk h
  case baload =>
    have e := Nat.eq_of_beq_eq_true hq
    subst e
    exact zs_baload hd hk h
  case laload =>
    have e := Nat.eq_of_beq_eq_true hq
    subst e
    exact zs_laload hd hk h
  case aaload =>
    have e := Nat.eq_of_beq_eq_true hq
    subst e
    exact zs_aaload hd hk h
  case iastore =>
    have e := Nat.eq_of_beq_eq_true hq
    subst e
    exact zs_iastore hd hk h
  case bastore =>
    have e := Nat.eq_of_beq_eq_true hq
    subst e
    exact zs_bastore hd hk h
  case lastore =>
    have e := Nat.eq_of_beq_eq_true hq
    subst e
    exact zs_lastore hd hk h
  case arraylength =>
    have e := Nat.eq_of_beq_eq_true hq
    subst e
    exact zs_arraylength hd hk h
  case iconst n =>
    unfold zlq at hq
    simp only [Bool.and_eq_true, decide_eq_true_eq] at hq
    obtain ⟨⟨e, h1⟩, h2⟩ := hq
    have e := Nat.eq_of_beq_eq_true e
    subst e
    exact zs_iconst hd ⟨h1, h2⟩ hk h
  case bipush n =>
    unfold zlq at hq
    simp only [Bool.and_eq_true, decide_eq_true_eq] at hq
    obtain ⟨⟨e, h1⟩, h2⟩ := hq
    have e := Nat.eq_of_beq_eq_true e
    subst e
    exact zs_bipush hd ⟨h1, h2⟩ hk h
  case sipush n =>
    unfold zlq at hq
    simp only [Bool.and_eq_true, decide_eq_true_eq] at hq
    obtain ⟨⟨e, h1⟩, h2⟩ := hq
    have e := Nat.eq_of_beq_eq_true e
    subst e
    exact zs_sipush hd ⟨h1, h2⟩ hk h
  case goto o =>
    unfold zlq at hq
    simp only [Bool.and_eq_true, decide_eq_true_eq] at hq
    obtain ⟨e, h1⟩ := hq
    have e := Nat.eq_of_beq_eq_true e
    subst e
    exact zs_goto hd h1 hk h
  case ifCond c o =>
    unfold zlq at hq
    simp only [Bool.and_eq_true, decide_eq_true_eq] at hq
    obtain ⟨e, h1⟩ := hq
    have e := Nat.eq_of_beq_eq_true e
    subst e
    exact zs_if hd h1 hk h
  case if_icmp c o =>
    unfold zlq at hq
    simp only [Bool.and_eq_true, decide_eq_true_eq] at hq
    obtain ⟨e, h1⟩ := hq
    have e := Nat.eq_of_beq_eq_true e
    subst e
    exact zs_icmp hd h1 hk h
  case tableswitch df lo hi os =>
    unfold zlq at hq
    simp only [Bool.and_eq_true, decide_eq_true_eq, List.all_eq_true] at hq
    obtain ⟨⟨h1, h2⟩, h3⟩ := hq
    exact zs_switch hd h1 (fun o ho => h2 o (by simpa using ho)) h3 hk h
  case getfield =>
    have e := Nat.eq_of_beq_eq_true hq
    subst e
    exact zs_getfield hd hM.2.1 hk h
  case putfield =>
    have e := Nat.eq_of_beq_eq_true hq
    subst e
    exact zs_putfield hd hM.2.1 hk h
  case invokevirtual =>
    have e := Nat.eq_of_beq_eq_true hq
    subst e
    exact zs_invokevirtual hd hM.2.2.1 hk h
  case invokestatic =>
    have e := Nat.eq_of_beq_eq_true hq
    subst e
    exact zs_invokestatic hd hM.2.2.1 hk h
  case ldc_w =>
    have e := Nat.eq_of_beq_eq_true hq
    subst e
    exact zs_ldc_w hd hM.2.2.2.1 hk h
  case ldc2_w =>
    have e := Nat.eq_of_beq_eq_true hq
    subst e
    exact zs_ldc2_w hd hM.2.2.2.1 hk h
  case ldc =>
    have e := Nat.eq_of_beq_eq_true hq
    subst e
    exact zs_ldc hd hM.2.2.2.1 hk h
  case getstatic =>
    have e := Nat.eq_of_beq_eq_true hq
    subst e
    exact zs_getstatic hd hM.2.2.2.1 hk h
  case ireturn =>
    have e := Nat.eq_of_beq_eq_true hq
    subst e
    exact zs_ireturn hd h
  case lreturn =>
    have e := Nat.eq_of_beq_eq_true hq
    subst e
    exact zs_lreturn hd h
  case return_ =>
    have e := Nat.eq_of_beq_eq_true hq
    subst e
    exact zs_return hd h
  all_goals exact False.elim h
theorem zseg_ok (hM : zOK M) {cuts : List Nat} : ∀ (f pc : Nat) (ls st : List zV) (mem : zMem), zseg d M Q cuts f pc ls st mem → zG d M pc ls st mem Q
  | 0, _, _, _, _, h => h
  | f + 1, pc, ls, st, mem, h => by
    unfold zseg at h
    split at h
    · exact h
    · split at h
      · rename_i i len hat
        exact zone_ok hM hat (zseg_ok hM f) h
      · exact h.elim
theorem zent_ok (hM : zOK M) {cuts : List Nat} {f pc : Nat} {ls st : List zV} {mem : zMem} (h : zent d M Q cuts f pc ls st mem) : zG d M pc ls st mem Q := by
  unfold zent at h
  split at h
  · rename_i i len hat
    exact zone_ok hM hat (zseg_ok hM f) h
  · exact h.elim
/-- the locals with which a method begins -/
def zla : List zV → List zV
  | [] => []
  | (1, x) :: r => (1, x) :: (9, 0) :: zla r
  | (t, x) :: r => (t, x) :: zla r
def zl0 (n : Nat) (av : List zV) : List zV := zla av ++ List.replicate (n - (zla av).length) (9, 0)
theorem zla_mem (E : zEnv) : ∀ (av : List zV) (i o : Nat) (v : zV), (zla av)[i]? = some v → v.1 < 9 → (o + i, zv E v) ∈ lv_args o (av.map (zv E))
  | [], i, o, v, h, _ => by simp [zla] at h
  | (t, x) :: r, i, o, v, h, hv => by
    rw [List.map_cons]
    unfold lv_args
    rw [zv_cat]
    by_cases ht : t = 1
    · subst ht
      rw [zla] at h
      match i, h with
      | 0, h =>
        cases (show (1, x) = v by simpa using h)
        exact List.mem_cons_self
      | 1, h =>
        cases (show ((9 : Nat), (0 : Int)) = v by simpa using h)
        exact absurd hv (by decide)
      | i + 2, h =>
        have := zla_mem E r i (o + 2) v (by simpa using h) hv
        refine List.mem_cons_of_mem _ ?_
        rw [show o + (i + 2) = o + 2 + i by omega]
        exact this
    · have hz : zla ((t, x) :: r) = (t, x) :: zla r := by
        rw [zla]
        intro e
        exact ht e
      rw [hz] at h
      have hc : zcat t = 1 := by
        unfold zcat
        split
        · exact absurd rfl ht
        · rfl
      match i, h with
      | 0, h =>
        cases (show (t, x) = v by simpa using h)
        exact List.mem_cons_self
      | i + 1, h =>
        have := zla_mem E r i (o + 1) v (by simpa using h) hv
        refine List.mem_cons_of_mem _ ?_
        show _ ∈ lv_args (if zcat t = 2 then o + 2 else o + 1) _
        rw [hc, if_neg (by decide), show o + (i + 1) = o + 1 + i by omega]
        exact this
theorem zla_ok : ∀ {av : List zV}, (∀ v ∈ av, zok v) → ∀ v ∈ zla av, zok v
  | [], _, v, h => by cases h
  | (t, x) :: r, ha, v, h => by
    by_cases ht : t = 1
    · subst ht
      rw [zla] at h
      rcases List.mem_cons.mp h with rfl | h
      · exact zoh ha
      · rcases List.mem_cons.mp h with rfl | h
        · trivial
        · exact zla_ok (zot ha) v h
    · have hz : zla ((t, x) :: r) = (t, x) :: zla r := by
        rw [zla]
        intro e
        exact ht e
      rw [hz] at h
      rcases List.mem_cons.mp h with rfl | h
      · exact zoh ha
      · exact zla_ok (zot ha) v h
theorem zla_len (E : zEnv) : ∀ av : List zV, (lg_sl (av.map (zv E))).length = (zla av).length
  | [] => rfl
  | (t, x) :: r => by
    have ih := zla_len E r
    unfold lg_sl at ih ⊢
    rw [List.map_cons, List.flatMap_cons, List.length_append, ih, zv_cat]
    by_cases ht : t = 1
    · subst ht
      rw [zla]
      simp [zcat]
      omega
    · have hz : zla ((t, x) :: r) = (t, x) :: zla r := by
        rw [zla]
        intro e
        exact ht e
      have hc : zcat t = 1 := by
        unfold zcat
        split
        · exact absurd rfl ht
        · rfl
      rw [hz]
      simp [hc]
      omega
/-- A METHOD's CONTRACT, from the rest of it at its entry -/
theorem zC_of (hM : zOK M) {av : List zV} (hpl : plainName (zMo M) = true) (hn : (zla av).length ≤ zKl (zMk M)) (hscr : (zMx M).1 = 0) (hr : zKr (zMk M) = none ∨ zKr (zMk M) = some .int ∨ zKr (zMk M) = some .boolean ∨ zKr (zMk M) = some .long) (h : zG d M 0 (zl0 (zKl (zMk M)) av) [] mem Q) : zC d (zMk M) av mem Q := by
  intro l E d' hd'
  refine Met.ofW (cc := zKb (zMk M)) (maxL := zKl (zMk M)) (ret := zKr (zMk M)) (by rw [hM.2.2.2.2]; exact hpl) rfl ?_
  intro p e s m args below meth c s₁ B hml hv
  obtain ⟨rfl, hav, hOn, hH⟩ := hv
  have hx := B.exec
  have hb := B.bytes
  have hret := B.returns
  have hts := atoms_spec (ws := zW (zMk M)) B.pre
  have hown : s.vm.findClass (zKy (zMk M)).cls = some m.cls := findClass_of_methodNamed B.named
  have hlocks := B.notSynchronized
  rw [hM.2.2.2.2] at hown
  have hl := lv_entry (av.map (zv E)) (n := zKl (zMk M)) (by rw [zla_len]; exact hn)
  rw [lg_entry_eq]
  generalize (lg_sl (av.map (zv E)) ++ List.replicate (zKl (zMk M) - (lg_sl (av.map (zv E))).length) Slot.unset).toArray = lj at hl ⊢
  refine h p l e _ s m _ below meth c _ [] 0 0 _ E lj ⟨hx, hb, hml, hown, fun w hw => hts w (List.mem_cons_of_mem _ hw), hd', ?_, hOn, Or.inl hscr⟩ (Nat.zero_le _) (Nat.zero_le _) hH va_S.rf ?_ ?_ (fun v hv => by cases hv) ?_
  · show 100 * d ≤ 100 * d'
    omega
  · refine ⟨hl.1, ?_, hl.2.1, fun i v hi hv => ?_⟩
    · unfold zl0
      rw [List.length_append, List.length_replicate]
      omega
    · unfold zl0 at hi
      by_cases hlt : i < (zla av).length
      · rw [List.getElem?_append_left hlt] at hi
        have := zla_mem E av i 0 v hi hv
        rw [Nat.zero_add] at this
        exact hl.2.2 _ this
      · rw [List.getElem?_append_right (by omega)] at hi
        have := List.eq_of_mem_replicate (List.mem_of_getElem? hi)
        subst this
        exact absurd hv (by decide)
  · intro v hv
    unfold zl0 at hv
    rcases List.mem_append.mp hv with hv | hv
    · exact zla_ok hav v hv
    · have := List.eq_of_mem_replicate hv
      subst this
      trivial
  · intro x mem' H' locs' pc lj i hQ hok hbo hH' hS' hdec hi
    rcases hi with ⟨h1, rfl⟩ | ⟨h1, rfl⟩ | ⟨h1 | h1, rfl⟩
    · rw [h1] at hret hok ⊢
      exact W.vret hx hb hret (fun t ht _ => ⟨⟨x, mem', rfl, hok, hQ, by rw [ht]; exact hH'⟩, hS'.F ht⟩) hS'.2.2 hdec
    · rw [h1] at hret hok ⊢
      exact W.lret hx hb hret (fun t ht _ => ⟨⟨x, mem', rfl, hok, hQ, by rw [ht]; exact hH'⟩, hS'.F ht⟩) hS'.2.2 hdec
    · rw [h1] at hret hok ⊢
      exact W.iret hx hb hret (fun t ht _ => ⟨⟨x, mem', rfl, hok, hQ, by rw [ht]; exact hH'⟩, hS'.F ht⟩) hS'.2.2 hdec
    · have hb01 := hbo h1
      rw [h1] at hret hok ⊢
      exact W.zret hx hb hret (zbool hb01).1 (fun t ht _ => ⟨⟨x, mem', rfl, hok, hQ, by rw [ht]; exact hH'⟩, hS'.F ht⟩) hS'.2.2 hdec
theorem zC.mono {d d' : Nat} {K : zKey} {av : List zV} (h : zC d K av mem Q) (hd : d ≤ d') : zC d' K av mem Q := fun l E e he => h l E e (Nat.le_trans hd he)
/-- what is in range may be used -/
theorem zG.rg (h : (∀ v ∈ ls, zok v) → (∀ v ∈ st, zok v) → zrg mem → zG d M pc ls st mem Q) : zG d M pc ls st mem Q :=
  fun p l e R s m args below meth c H locs cells slots Qf E lj C hc hs hH hS hL hl hst hR => h hl hst hH.1 p l e R s m args below meth c H locs cells slots Qf E lj C hc hs hH hS hL hl hst hR
theorem zG.post {Q' : Int → zMem → Prop} (h : zG d M pc ls st mem Q') (hq : ∀ x m', Q' x m' → Q x m') : zG d M pc ls st mem Q :=
  fun p l e R s m args below meth c H locs cells slots Qf E lj C hc hs hH hS hL hl hst hR => h p l e R s m args below meth c H locs cells slots Qf E lj C hc hs hH hS hL hl hst (fun x mem' H' locs' pc lj i a => hR x mem' H' locs' pc lj i (hq _ _ a))
end
end
section
section
theorem zC.post {d : Nat} {K : zKey} {av : List zV} {mem : zMem} {Q Q' : Int → zMem → Prop} (h : zC d K av mem Q') (hq : ∀ x m', Q' x m' → Q x m') : zC d K av mem Q := by
  intro l E d' hd p e ha hc hk s m args below hf hs hp hK
  obtain ⟨n, o, h1, h2, h3, ⟨⟨x, mem', e1, e2, e3, e4⟩, e5⟩, e6⟩ := h l E d' hd p e ha hc hk s m args below hf hs hp hK
  exact ⟨n, o, h1, h2, h3, ⟨⟨x, mem', e1, e2, hq _ _ e3, e4⟩, e5⟩, e6⟩
theorem zall {α : Type} {F : α → Prop} {x : α} (h : F x) : ∀ z, z = x → F z := fun z hz => by subst hz; exact h
theorem zne {x y : Int} {A B : Prop} (h1 : x ≠ y → A) (h2 : x = y → B) : (zcmp .ne x y → A) ∧ (¬ zcmp .ne x y → B) := ⟨h1, fun q => h2 (Decidable.of_not_not q)⟩
theorem zeq {x y : Int} {A B : Prop} (h1 : x = y → A) (h2 : x ≠ y → B) : (zcmp .eq x y → A) ∧ (¬ zcmp .eq x y → B) := ⟨h1, h2⟩
theorem zlt {x y : Int} {A B : Prop} (h1 : x < y → A) (h2 : y ≤ x → B) : (zcmp .lt x y → A) ∧ (¬ zcmp .lt x y → B) := ⟨h1, fun q => h2 (Int.not_lt.mp q)⟩
theorem zge {x y : Int} {A B : Prop} (h1 : y ≤ x → A) (h2 : x < y → B) : (zcmp .ge x y → A) ∧ (¬ zcmp .ge x y → B) := ⟨h1, fun q => h2 (Int.not_le.mp q)⟩
theorem zgt {x y : Int} {A B : Prop} (h1 : y < x → A) (h2 : x ≤ y → B) : (zcmp .gt x y → A) ∧ (¬ zcmp .gt x y → B) := ⟨h1, fun q => h2 (Int.not_lt.mp q)⟩
theorem zle {x y : Int} {A B : Prop} (h1 : x ≤ y → A) (h2 : y < x → B) : (zcmp .le x y → A) ∧ (¬ zcmp .le x y → B) := ⟨h1, fun q => h2 (Int.not_le.mp q)⟩
def zch : Nat → List Cond
  | 0 => k2_sels lw_privs
  | 1 => tables_1_1
  | 2 => tables_1_2
  | 3 => tables_1_3
  | 4 => tables_1_4
  | 5 => tables_1_5
  | 6 => tables_1_6
  | _ => tables_1_7
theorem zch_in {c : Nat} {w : Cond} (h : w ∈ zch c) : w ∈ lw_tbl := by
  unfold lw_tbl tables_1
  simp only [List.mem_append]
  unfold zch at h
  split at h <;> simp [h]
def zwb (p : Nat) (w : Cond) : Bool := decide ((zch (p / 1000))[p % 1000]? = some w) && goodWord w
theorem zwb_of {p : Nat} {w : Cond} (h : zwb p w = true) : w ∈ zgood := by
  unfold zwb at h
  simp only [Bool.and_eq_true, decide_eq_true_eq] at h
  exact zgood_of (zch_in (List.mem_of_getElem? h.1)) h.2
def zfb (own : String) (f : Nat × Nat × Nat × Nat) : Bool := match vwCl[f.2.1]? with
  | some q => Nat.blt f.2.2.1 q.2.2 && Nat.blt f.2.1 13 && zwb f.2.2.2 (.fieldLink own f.1 (q.2.1 f.2.2.1).1 (q.2.1 f.2.2.1).2.1 (q.2.1 f.2.2.1).2.2.1)
  | none => false
def zmb (own : String) (c : Nat × zKey × Nat × Nat × List Nat) : Bool := match c with
  | (i, K, kd, n, ps) => match kd with
    | 101 => zwb (ps.getD 0 0) (.methodLink own i arraycopyName) && zwb (ps.getD 1 0) (.native arraycopyName) && zwb (ps.getD 2 0) (.static arraycopyName) && zwb (ps.getD 3 0) (.initialized "java/lang/System")
    | kd => zwb (ps.getD 0 0) (.methodLink own i (zKy K)) && zwb (ps.getD 1 0) (.code (zKy K) (zKb K) (zKl K) (zKr K)) && zwb (ps.getD 2 0) (.initialized (zKy K).cls) &&
      decide ((zKy K).cls ≠ "java/lang/invoke/MethodHandle") && decide ((zKy K).cls ≠ "java/lang/invoke/VarHandle") && decide ((parseMethodDescriptor (zKy K).desc).map (fun d => d.parameters.length) = some n) && Nat.ble (zKl K) 81 &&
      (match kd with
      | 100 => zwb (ps.getD 3 0) (.static (zKy K))
      | kd => zwb (ps.getD 3 0) (.instanceMethod (zKy K)) && zwb (ps.getD 4 0) (.selects (zKy K).cls (zKy K) (zKy K)) && (match kd with
        | 102 => decide ((zKy K).cls = "java/lang/String")
        | kd => match vwCl[kd]? with
          | some q => decide (q.1 = (zKy K).cls)
          | none => false))
def znb (own : String) (c : Nat × Nat × Int × Nat) : Bool := match c with
  | (i, 0, v, p) => zwb p (.constant own i (Int32.ofInt v)) && decide (-2147483648 ≤ v) && decide (v < 2147483648)
  | (i, 1, v, p) => zwb p (.constantLong own i (Int64.ofInt v)) && decide (-9223372036854775808 ≤ v) && decide (v < 9223372036854775808)
  | (i, 3, v, _) => decide (own = "OtherDoor$Tape") && Nat.blt v.toNat 8 && Nat.beq (zSi.getD v.toNat 0) i
  | (i, 4, _, p) => zwb p (.fieldLink own i "OtherDoor$Rounds" "HAVING" "[I")
  | _ => false
def zcb (M : zMt) : Bool := (zMc M).all (fun c => decide (decode (zKb (zMk M)) c.1 = .ok (c.2.1, c.2.2)) && zlq c.1 c.2.1 c.2.2)
def zob (M : zMt) : Bool := (zMf M).all (zfb (zMo M)) && (zMm M).all (zmb (zMo M)) && (zMn M).all (znb (zMo M)) && decide ((zKy (zMk M)).cls = zMo M)
theorem zCF_0 : zCF 0 (RX0, TX0, 4) tyX0 := by
  refine ⟨fun w hw => ?_, tyX0_ok, nmX0, by decide +kernel, by decide +kernel⟩
  have h : ∀ k, k < 4 → zwb (([2117, 2119, 2121, 2123] : List Nat).getD k 0) (u_lay RX0 TX0 k) = true := by decide +kernel
  obtain ⟨k, hk, rfl⟩ := List.mem_map.mp hw
  exact zwb_of (h k (List.mem_range.mp hk))
theorem zCF_1 : zCF 1 (RX1, TX1, 9) tyX1 := by
  refine ⟨fun w hw => ?_, tyX1_ok, nmX1, by decide +kernel, by decide +kernel⟩
  have h : ∀ k, k < 9 → zwb (([1080, 1082, 1084, 1086, 1088, 1090, 1092, 1094, 1096] : List Nat).getD k 0) (u_lay RX1 TX1 k) = true := by decide +kernel
  obtain ⟨k, hk, rfl⟩ := List.mem_map.mp hw
  exact zwb_of (h k (List.mem_range.mp hk))
theorem zCF_2 : zCF 2 (RX2, TX2, 5) tyX2 := by
  refine ⟨fun w hw => ?_, tyX2_ok, nmX2, by decide +kernel, by decide +kernel⟩
  have h : ∀ k, k < 5 → zwb (([1142, 1144, 1146, 1148, 1150] : List Nat).getD k 0) (u_lay RX2 TX2 k) = true := by decide +kernel
  obtain ⟨k, hk, rfl⟩ := List.mem_map.mp hw
  exact zwb_of (h k (List.mem_range.mp hk))
theorem zCF_3 : zCF 3 (RX3, TX3, 7) tyX3 := by
  refine ⟨fun w hw => ?_, tyX3_ok, nmX3, by decide +kernel, by decide +kernel⟩
  have h : ∀ k, k < 7 → zwb (([2036, 2038, 2040, 2042, 2044, 2046, 2048] : List Nat).getD k 0) (u_lay RX3 TX3 k) = true := by decide +kernel
  obtain ⟨k, hk, rfl⟩ := List.mem_map.mp hw
  exact zwb_of (h k (List.mem_range.mp hk))
theorem zCF_4 : zCF 4 (RX4, TX4, 3) tyX4 := by
  refine ⟨fun w hw => ?_, tyX4_ok, nmX4, by decide +kernel, by decide +kernel⟩
  have h : ∀ k, k < 3 → zwb (([1167, 1169, 1171] : List Nat).getD k 0) (u_lay RX4 TX4 k) = true := by decide +kernel
  obtain ⟨k, hk, rfl⟩ := List.mem_map.mp hw
  exact zwb_of (h k (List.mem_range.mp hk))
theorem zCF_5 : zCF 5 (RX5, TX5, 13) tyX5 := by
  refine ⟨fun w hw => ?_, tyX5_ok, nmX5, by decide +kernel, by decide +kernel⟩
  have h : ∀ k, k < 13 → zwb (([1200, 1202, 1204, 1206, 1208, 1210, 1212, 1214, 1216, 1218, 1220, 1222, 1224] : List Nat).getD k 0) (u_lay RX5 TX5 k) = true := by decide +kernel
  obtain ⟨k, hk, rfl⟩ := List.mem_map.mp hw
  exact zwb_of (h k (List.mem_range.mp hk))
theorem zCF_6 : zCF 6 (RX6, TX6, 4) tyX6 := by
  refine ⟨fun w hw => ?_, tyX6_ok, nmX6, by decide +kernel, by decide +kernel⟩
  have h : ∀ k, k < 4 → zwb (([2061, 2063, 2065, 2067] : List Nat).getD k 0) (u_lay RX6 TX6 k) = true := by decide +kernel
  obtain ⟨k, hk, rfl⟩ := List.mem_map.mp hw
  exact zwb_of (h k (List.mem_range.mp hk))
theorem zCF_7 : zCF 7 (RX7, TX7, 6) tyX7 := by
  refine ⟨fun w hw => ?_, tyX7_ok, nmX7, by decide +kernel, by decide +kernel⟩
  have h : ∀ k, k < 6 → zwb (([2141, 2143, 2145, 2147, 2149, 2151] : List Nat).getD k 0) (u_lay RX7 TX7 k) = true := by decide +kernel
  obtain ⟨k, hk, rfl⟩ := List.mem_map.mp hw
  exact zwb_of (h k (List.mem_range.mp hk))
theorem zCF_8 : zCF 8 (RX8, TX8, 9) tyX8 := by
  refine ⟨fun w hw => ?_, tyX8_ok, nmX8, by decide +kernel, by decide +kernel⟩
  have h : ∀ k, k < 9 → zwb (([2086, 2088, 2090, 2092, 2094, 2096, 2098, 2100, 2102] : List Nat).getD k 0) (u_lay RX8 TX8 k) = true := by decide +kernel
  obtain ⟨k, hk, rfl⟩ := List.mem_map.mp hw
  exact zwb_of (h k (List.mem_range.mp hk))
theorem zCF_9 : zCF 9 (RX9, TX9, 3) tyX9 := by
  refine ⟨fun w hw => ?_, tyX9_ok, nmX9, by decide +kernel, by decide +kernel⟩
  have h : ∀ k, k < 3 → zwb (([1122, 1124, 1126] : List Nat).getD k 0) (u_lay RX9 TX9 k) = true := by decide +kernel
  obtain ⟨k, hk, rfl⟩ := List.mem_map.mp hw
  exact zwb_of (h k (List.mem_range.mp hk))
theorem zCF_10 : zCF 10 (RX10, TX10, 8) tyX10 := by
  refine ⟨fun w hw => ?_, tyX10_ok, nmX10, by decide +kernel, by decide +kernel⟩
  have h : ∀ k, k < 8 → zwb (([2004, 2006, 2008, 2010, 2012, 2014, 2016, 2018] : List Nat).getD k 0) (u_lay RX10 TX10 k) = true := by decide +kernel
  obtain ⟨k, hk, rfl⟩ := List.mem_map.mp hw
  exact zwb_of (h k (List.mem_range.mp hk))
theorem zCF_11 : zCF 11 (RX11, TX11, 13) tyX11 := by
  refine ⟨fun w hw => ?_, tyX11_ok, nmX11, by decide +kernel, by decide +kernel⟩
  have h : ∀ k, k < 13 → zwb (([2167, 2169, 2171, 2173, 2175, 2177, 2179, 2181, 2183, 2185, 2187, 2189, 2191] : List Nat).getD k 0) (u_lay RX11 TX11 k) = true := by decide +kernel
  obtain ⟨k, hk, rfl⟩ := List.mem_map.mp hw
  exact zwb_of (h k (List.mem_range.mp hk))
theorem zCF_12 : zCF 12 (RX12, TX12, 44) tyX12 := by
  refine ⟨fun w hw => ?_, tyX12_ok, nmX12, by decide +kernel, by decide +kernel⟩
  have h : ∀ k, k < 44 → zwb (([5181, 5183, 5185, 5187, 5189, 5191, 5193, 5195, 5197, 5199, 5201, 5203, 5205, 5207, 5209, 5211, 5213, 5215, 5217, 5219, 5221, 5223, 5225, 5227, 5229, 5231, 5233, 5235, 5237, 5239, 6001, 6003, 6005, 6007, 6009, 6011, 6013, 6015, 6017, 6019, 6021, 6023, 6025, 6027] : List Nat).getD k 0) (u_lay RX12 TX12 k) = true := by decide +kernel
  obtain ⟨k, hk, rfl⟩ := List.mem_map.mp hw
  exact zwb_of (h k (List.mem_range.mp hk))
theorem zCF_all : ∀ (ci : Nat) (q : vw_C), vwCl[ci]? = some q → ∃ ty, zCF ci q ty
  | 0, q, h => by cases h; exact ⟨_, zCF_0⟩
  | 1, q, h => by cases h; exact ⟨_, zCF_1⟩
  | 2, q, h => by cases h; exact ⟨_, zCF_2⟩
  | 3, q, h => by cases h; exact ⟨_, zCF_3⟩
  | 4, q, h => by cases h; exact ⟨_, zCF_4⟩
  | 5, q, h => by cases h; exact ⟨_, zCF_5⟩
  | 6, q, h => by cases h; exact ⟨_, zCF_6⟩
  | 7, q, h => by cases h; exact ⟨_, zCF_7⟩
  | 8, q, h => by cases h; exact ⟨_, zCF_8⟩
  | 9, q, h => by cases h; exact ⟨_, zCF_9⟩
  | 10, q, h => by cases h; exact ⟨_, zCF_10⟩
  | 11, q, h => by cases h; exact ⟨_, zCF_11⟩
  | 12, q, h => by cases h; exact ⟨_, zCF_12⟩
  | n + 13, q, h => by simp [vwCl] at h
theorem zfb_of {own : String} {f : Nat × Nat × Nat × Nat} (h : zfb own f = true) : zFf own f := by
  unfold zfb at h
  split at h
  · rename_i q hq
    simp only [Bool.and_eq_true] at h
    obtain ⟨⟨h1, h0⟩, h2⟩ := h
    obtain ⟨ty, hty⟩ := zCF_all _ _ hq
    have h0 : f.2.1 < 13 := Nat.le_of_ble_eq_true h0
    exact ⟨q, ty, hq, by omega, Nat.le_of_ble_eq_true h1, hty, zwb_of h2⟩
  · cases h
theorem znb_of {own : String} {c : Nat × Nat × Int × Nat} (h : znb own c = true) : zNf own c := by
  unfold znb at h
  split at h
  · simp only [Bool.and_eq_true, decide_eq_true_eq] at h
    exact ⟨zwb_of h.1.1, h.1.2, h.2⟩
  · simp only [Bool.and_eq_true, decide_eq_true_eq] at h
    exact ⟨zwb_of h.1.1, h.1.2, h.2⟩
  · simp only [Bool.and_eq_true, decide_eq_true_eq] at h
    exact ⟨h.1.1, Nat.le_of_ble_eq_true h.1.2, Nat.eq_of_beq_eq_true h.2⟩
  · exact zwb_of h
  · cases h
theorem zmb_of {own : String} {c : Nat × zKey × Nat × Nat × List Nat} (h : zmb own c = true) : zMf1 own c := by
  obtain ⟨i, K, kd, n, ps⟩ := c
  unfold zmb at h
  dsimp only at h
  split at h
  · simp only [Bool.and_eq_true] at h
    obtain ⟨⟨⟨h1, h2⟩, h3⟩, h4⟩ := h
    exact ⟨fun q => absurd rfl q, fun q => absurd (show (101 : Nat) < 100 from q) (by decide), fun q => absurd (show (101 : Nat) = 102 from q) (by decide), fun q => absurd (show (101 : Nat) = 100 from q) (by decide), fun _ => ⟨zwb_of h1, zwb_of h2, zwb_of h3, zwb_of h4⟩⟩
  · rename_i h101
    simp only [Bool.and_eq_true, decide_eq_true_eq] at h
    obtain ⟨⟨⟨⟨⟨⟨⟨h1, h2⟩, h3⟩, h4⟩, h5⟩, h6⟩, h7⟩, h8⟩ := h
    refine ⟨fun _ => ⟨zwb_of h2, zwb_of h1, zwb_of h3, h4, h5, h6, Nat.le_of_ble_eq_true h7⟩, ?_⟩
    split at h8
    · exact ⟨fun q => absurd (show (100 : Nat) < 100 from q) (by decide), fun q => absurd (show (100 : Nat) = 102 from q) (by decide), fun _ => zwb_of h8, fun q => absurd (show (100 : Nat) = 101 from q) (by decide)⟩
    · rename_i h100
      simp only [Bool.and_eq_true] at h8
      obtain ⟨⟨h8, h9⟩, h10⟩ := h8
      split at h10
      · exact ⟨fun q => absurd (show (102 : Nat) < 100 from q) (by decide), fun _ => ⟨of_decide_eq_true h10, zwb_of h8, zwb_of h9⟩, fun q => absurd (show (102 : Nat) = 100 from q) (by decide), fun q => absurd (show (102 : Nat) = 101 from q) (by decide)⟩
      · rename_i h102
        split at h10
        · rename_i q hq
          exact ⟨fun _ => ⟨⟨q, hq, of_decide_eq_true h10⟩, zwb_of h8, zwb_of h9⟩, fun q => absurd q h102, fun q => absurd q h100, fun q => absurd q h101⟩
        · cases h10
theorem zOK_of {M : zMt} (h1 : zcb M = true) (h2 : zob M = true) : zOK M := by
  unfold zcb at h1
  unfold zob at h2
  simp only [Bool.and_eq_true, List.all_eq_true, decide_eq_true_eq] at h1 h2
  exact ⟨h1, fun f hf => zfb_of (h2.1.1.1 f hf), fun c hc => zmb_of (h2.1.1.2 c hc), fun c hc => znb_of (h2.1.2 c hc), h2.2⟩
end
end
section
section
def K_Od_feed : zKey := (yX11_feed, cX11_feed, 3, some .int)
def K_Ta_append : zKey := (yX5_append, cX5_append, 4, some .boolean)
def K_Od_end : zKey := (yX11_end, cX11_end, 3, some .int)
def K_Od_palace : zKey := (yX11_palace, cX11_palace, 2, some .int)
def K_Ta_understand : zKey := (yX5_understand, cX5_understand, 2, some .boolean)
def K_Pa_clear : zKey := (yX2_clear, cX2_clear, 1, none)
def K_Ho_clear : zKey := (yX1_clear, cX1_clear, 1, none)
def K_Jd_fill : zKey := (yJ7_fill_53178, cJ7_fill_53178, 4, none)
def K_Ta_nextToken : zKey := (yX5_nextToken, cX5_nextToken, 2, none)
def K_Ta_behind : zKey := (yX5_behind, cX5_behind, 4, some .int)
def K_Ta_takeFigures : zKey := (yX5_takeFigures, cX5_takeFigures, 2, none)
def K_Ta_refuse : zKey := (yX5_refuse, cX5_refuse, 3, some .boolean)
def K_Ta_takeLine : zKey := (yX5_takeLine, cX5_takeLine, 1, some .boolean)
def K_Ta_isWord : zKey := (yX5_isWord, cX5_isWord, 3, some .boolean)
def K_Js_length : zKey := (yJ0_length_8abf5, cJ0_length_8abf5, 1, some .int)
def K_Js_coder : zKey := (yJ0_coder_7d493, cJ0_coder_7d493, 1, some .byte)
def K_Js_charAt : zKey := (yJ0_charAt_5068e, cJ0_charAt_5068e, 2, some .char)
def K_Js_isLatin1 : zKey := (yJ0_isLatin1_aae02, cJ0_isLatin1_aae02, 1, some .boolean)
def K_Jl_charAt : zKey := (yJ1_charAt_3b067, cJ1_charAt_3b067, 2, some .char)
def K_Js_checkIndex : zKey := (yJ0_checkIndex_df160, cJ0_checkIndex_df160, 2, none)
def K_Jp_checkIndex : zKey := (yJ3_checkIndex_8e157, cJ3_checkIndex_8e157, 3, some .int)
def K_Ju_charAt : zKey := (yJ2_charAt_3b067, cJ2_charAt_3b067, 2, some .char)
def K_Ju_checkIndex : zKey := (yJ2_checkIndex_2214a, cJ2_checkIndex_2214a, 2, none)
def K_Ju_length : zKey := (yJ2_length_9d52b, cJ2_length_9d52b, 1, some .int)
def K_Ju_getChar : zKey := (yJ2_getChar_3b067, cJ2_getChar_3b067, 2, some .char)
def K_Ta_takeRooms : zKey := (yX5_takeRooms, cX5_takeRooms, 1, some .boolean)
def K_Ta_takeNumber : zKey := (yX5_takeNumber, cX5_takeNumber, 3, some .boolean)
def K_Ta_takeSign : zKey := (yX5_takeSign, cX5_takeSign, 1, some .boolean)
def K_Ta_isSign : zKey := (yX5_isSign, cX5_isSign, 1, some .boolean)
def K_Ta_takeLaw : zKey := (yX5_takeLaw, cX5_takeLaw, 1, some .boolean)
def K_Ta_takeDoor : zKey := (yX5_takeDoor, cX5_takeDoor, 4, some .boolean)
def K_Ta_colourTold : zKey := (yX5_colourTold, cX5_colourTold, 1, some .int)
def K_Ho_add : zKey := (yX1_add, cX1_add, 4, some .boolean)
def K_Ta_takeOne : zKey := (yX5_takeOne, cX5_takeOne, 1, some .boolean)
def K_Wa_standNew : zKey := (yX9_standNew, cX9_standNew, 2, none)
def K_Ta_takeWalled : zKey := (yX5_takeWalled, cX5_takeWalled, 1, some .boolean)
def K_Ta_closeText : zKey := (yX5_closeText, cX5_closeText, 4, some .boolean)
def K_Ho_hasRoom : zKey := (yX1_hasRoom, cX1_hasRoom, 2, some .boolean)
def K_Ho_setWalled : zKey := (yX1_setWalled, cX1_setWalled, 4, none)
def K_Pa_take : zKey := (yX2_take, cX2_take, 3, none)
def K_Ho_take : zKey := (yX1_take, cX1_take, 2, none)
def K_Wa_take : zKey := (yX9_take, cX9_take, 2, none)
def K_Od_fault : zKey := (yX11_fault, cX11_fault, 1, some .int)
def K_Od_rule : zKey := (yX11_rule, cX11_rule, 2, some .int)
def K_Od_door : zKey := (yX11_door, cX11_door, 3, some .int)
def K_Ho_hasDoor : zKey := (yX1_hasDoor, cX1_hasDoor, 2, some .boolean)
def K_Ho_isWalled : zKey := (yX1_isWalled, cX1_isWalled, 2, some .boolean)
def K_Od_one : zKey := (yX11_one, cX11_one, 4, some .int)
def K_Pa_hasOne : zKey := (yX2_hasOne, cX2_hasOne, 2, some .boolean)
def K_Od_orNone : zKey := (yX11_orNone, cX11_orNone, 1, some .int)
def K_Wa_choices : zKey := (yX9_choices, cX9_choices, 2, some .int)
def K_Ho_choices : zKey := (yX1_choices, cX1_choices, 5, some .int)
def K_Od_doors : zKey := (yX11_doors, cX11_doors, 2, some .int)
def K_Od_law : zKey := (yX11_law, cX11_law, 3, some .int)
def K_Od_build : zKey := (yX11_build, cX11_build, 4, some .int)
def K_Od_wall : zKey := (yX11_wall, cX11_wall, 4, some .int)
def K_Od_stand : zKey := (yX11_stand, cX11_stand, 4, some .int)
def K_Od_go : zKey := (yX11_go, cX11_go, 3, some .int)
def K_Wa_step : zKey := (yX9_step, cX9_step, 3, some .boolean)
def K_Ho_beyond : zKey := (yX1_beyond, cX1_beyond, 3, some .int)
def K_Od_far : zKey := (yX11_far, cX11_far, 3, some .int)
def K_Wy_leastTo : zKey := (yX10_leastTo, cX10_leastTo, 5, some .int)
def K_Wy_begin : zKey := (yX10_begin, cX10_begin, 3, none)
def K_Ho_sideAt : zKey := (yX1_sideAt, cX1_sideAt, 3, some .int)
def K_Wy_spread : zKey := (yX10_spread, cX10_spread, 8, none)
def K_Ho_sideBeyond : zKey := (yX1_sideBeyond, cX1_sideBeyond, 3, some .int)
def K_Od_way : zKey := (yX11_way, cX11_way, 5, some .int)
def K_Wy_stepOf : zKey := (yX10_stepOf, cX10_stepOf, 4, some .int)
def K_Od_can : zKey := (yX11_can, cX11_can, 2, some .int)
def K_Wy_roomsOf : zKey := (yX10_roomsOf, cX10_roomsOf, 5, some .int)
def K_Od_path : zKey := (yX11_path, cX11_path, 3, some .int)
def K_Od_pairs : zKey := (yX11_pairs, cX11_pairs, 1, some .int)
def K_Bu_pairsOf : zKey := (yX0_pairsOf, cX0_pairsOf, 4, some .int)
def K_Bu_spreadNew : zKey := (yX0_spreadNew, cX0_spreadNew, 5, none)
def K_Bu_enterBy : zKey := (yX0_enterBy, cX0_enterBy, 7, some .boolean)
def K_Bu_comersTo : zKey := (yX0_comersTo, cX0_comersTo, 5, some .int)
def K_Jd_bitCount : zKey := (yJ6_bitCount_0f7a4, cJ6_bitCount_0f7a4, 1, some .int)
def K_Od_life : zKey := (yX11_life, cX11_life, 3, some .int)
def K_Ho_isForLife : zKey := (yX1_isForLife, cX1_isForLife, 3, some .boolean)
def K_Od_trap : zKey := (yX11_trap, cX11_trap, 3, some .int)
def K_Ho_isOf : zKey := (yX1_isOf, cX1_isOf, 3, some .boolean)
def K_Od_secret : zKey := (yX11_secret, cX11_secret, 3, some .int)
def K_Od_safe : zKey := (yX11_safe, cX11_safe, 1, some .int)
def K_Ho_losing : zKey := (yX1_losing, cX1_losing, 3, some .int)
def K_Ho_losesBySecond : zKey := (yX1_losesBySecond, cX1_losesBySecond, 3, some .boolean)
def K_Ho_losesBehind : zKey := (yX1_losesBehind, cX1_losesBehind, 5, some .boolean)
def K_Od_round : zKey := (yX11_round, cX11_round, 3, some .int)
def K_Ro_least : zKey := (yX3_least, cX3_least, 8, some .int)
def K_Ro_begin : zKey := (yX3_begin, cX3_begin, 6, none)
def K_Ro_put : zKey := (yX3_put, cX3_put, 5, none)
def K_Ro_spreadLevel : zKey := (yX3_spreadLevel, cX3_spreadLevel, 8, some .boolean)
def K_Ro_spread : zKey := (yX3_spread, cX3_spread, 16, some .boolean)
def K_Ho_roomOfSide : zKey := (yX1_roomOfSide, cX1_roomOfSide, 2, some .int)
def K_Ro_withRoom : zKey := (yX3_withRoom, cX3_withRoom, 5, some .int)
def K_Od_tour : zKey := (yX11_tour, cX11_tour, 4, some .int)
def K_Ho_openDoors : zKey := (yX1_openDoors, cX1_openDoors, 1, some .int)
def K_To_prepare : zKey := (yX6_prepare, cX6_prepare, 5, none)
def K_To_fill : zKey := (yX6_fill, cX6_fill, 7, none)
def K_To_roomBehind : zKey := (yX6_roomBehind, cX6_roomBehind, 5, some .int)
def K_To_through : zKey := (yX6_through, cX6_through, 7, some .int)
def K_To_stepOf : zKey := (yX6_stepOf, cX6_stepOf, 9, some .int)
def K_To_all : zKey := (yX6_all, cX6_all, 1, some .int)
def K_Od_talk : zKey := (yX11_talk, cX11_talk, 4, some .int)
def K_Tw_prepare : zKey := (yX8_prepare, cX8_prepare, 5, none)
def K_Tw_addSpot : zKey := (yX8_addSpot, cX8_addSpot, 8, none)
def K_Tw_untilTalked : zKey := (yX8_untilTalked, cX8_untilTalked, 4, some .int)
def K_Tw_together : zKey := (yX8_together, cX8_together, 1, some .boolean)
def K_Tw_put : zKey := (yX8_put, cX8_put, 5, none)
def K_Tw_turnMinute : zKey := (yX8_turnMinute, cX8_turnMinute, 2, none)
def K_Tw_talkMinute : zKey := (yX8_talkMinute, cX8_talkMinute, 4, some .boolean)
def K_Tw_talkStep : zKey := (yX8_talkStep, cX8_talkStep, 7, some .boolean)
def K_Tw_nextOf : zKey := (yX8_nextOf, cX8_nextOf, 4, some .int)
def K_Od_cup : zKey := (yX11_cup, cX11_cup, 4, some .int)
def K_Tw_untilCupIn : zKey := (yX8_untilCupIn, cX8_untilCupIn, 3, some .int)
def K_Tw_cupMinute : zKey := (yX8_cupMinute, cX8_cupMinute, 4, some .boolean)
def K_Tw_cupStep : zKey := (yX8_cupStep, cX8_cupStep, 6, some .boolean)
def K_Od_more : zKey := (yX11_more, cX11_more, 2, some .int)
def K_Bu_seekMore : zKey := (yX0_seekMore, cX0_seekMore, 4, none)
def K_Bu_tryMore : zKey := (yX0_tryMore, cX0_tryMore, 5, none)
def K_Ho_dropLatest : zKey := (yX1_dropLatest, cX1_dropLatest, 2, none)
def K_Bu_answer : zKey := (yX0_answer, cX0_answer, 2, some .int)
def K_Od_worst : zKey := (yX11_worst, cX11_worst, 2, some .int)
def K_Bu_seekWorst : zKey := (yX0_seekWorst, cX0_seekWorst, 4, none)
def K_Od_mend : zKey := (yX11_mend, cX11_mend, 3, some .int)
def K_Bu_seekMend : zKey := (yX0_seekMend, cX0_seekMend, 3, some .int)
def K_Bu_mendByOne : zKey := (yX0_mendByOne, cX0_mendByOne, 7, some .boolean)
def K_Bu_isPair : zKey := (yX0_isPair, cX0_isPair, 2, some .boolean)
def K_Bu_roomsOf : zKey := (yX0_roomsOf, cX0_roomsOf, 1, some .int)
def K_Bu_mendByTwo : zKey := (yX0_mendByTwo, cX0_mendByTwo, 5, some .boolean)
def K_Od_tell : zKey := (yX11_tell, cX11_tell, 2, some .int)
def K_Od_forget : zKey := (yX11_forget, cX11_forget, 2, some .int)
def K_Od_judge : zKey := (yX11_judge, cX11_judge, 3, some .int)
def K_Od_ajar : zKey := (yX11_ajar, cX11_ajar, 6, some .int)
def K_Tr_seek : zKey := (yX7_seek, cX7_seek, 5, none)
def K_Tr_follow : zKey := (yX7_follow, cX7_follow, 7, none)
def K_Tr_note : zKey := (yX7_note, cX7_note, 2, none)
def K_Tr_branch : zKey := (yX7_branch, cX7_branch, 9, none)
def K_Od_keep : zKey := (yX11_keep, cX11_keep, 3, some .int)
def K_Od_back : zKey := (yX11_back, cX11_back, 2, some .int)
def K_Od_sheet : zKey := (yX11_sheet, cX11_sheet, 4, some .int)
def K_Od_isSheet : zKey := (yX11_isSheet, cX11_isSheet, 1, some .boolean)
def K_Od_isLane : zKey := (yX11_isLane, cX11_isLane, 1, some .boolean)
def K_Sh_renew : zKey := (yX4_renew, cX4_renew, 3, none)
def K_Od_lay : zKey := (yX11_lay, cX11_lay, 5, some .int)
def K_Sh_faultAt : zKey := (yX4_faultAt, cX4_faultAt, 3, some .int)
def K_Sh_put : zKey := (yX4_put, cX4_put, 3, none)
def K_Od_read : zKey := (yX11_read, cX11_read, 9, some .int)
def K_Od_torn : zKey := (yX11_torn, cX11_torn, 1, some .int)
def K_Od_count : zKey := (yX11_count, cX11_count, 2, some .int)
def K_Pa_lost : zKey := (yX2_lost, cX2_lost, 3, some .int)
def K_Mo_feed : zKey := (yX12_feed, cX12_feed, 4, some .int)
def K_Mo_end : zKey := (yX12_end, cX12_end, 3, some .int)
def K_Mo_in : zKey := (yX12_in, cX12_in, 6, some .boolean)
def K_Mo_palace : zKey := (yX12_palace, cX12_palace, 3, some .int)
def K_Mo_step : zKey := (yX12_step, cX12_step, 2, none)
def K_Mo_byteAt : zKey := (yX12_byteAt, cX12_byteAt, 2, some .int)
def K_Mo_fails : zKey := (yX12_fails, cX12_fails, 2, none)
def K_Mo_readLine : zKey := (yX12_readLine, cX12_readLine, 2, none)
def K_Mo_nameHere : zKey := (yX12_nameHere, cX12_nameHere, 4, some .int)
def K_Mo_readDoor : zKey := (yX12_readDoor, cX12_readDoor, 3, none)
def K_Mo_room : zKey := (yX12_room, cX12_room, 3, some .int)
def K_Mo_looks : zKey := (yX12_looks, cX12_looks, 3, none)
def K_Mo_number : zKey := (yX12_number, cX12_number, 4, some .int)
def K_Mo_readOne : zKey := (yX12_readOne, cX12_readOne, 2, none)
def K_Mo_readWalled : zKey := (yX12_readWalled, cX12_readWalled, 2, none)
def K_Mo_doorMany : zKey := (yX12_doorMany, cX12_doorMany, 1, some .int)
def K_Mo_fault : zKey := (yX12_fault, cX12_fault, 1, some .int)
def K_Mo_rule : zKey := (yX12_rule, cX12_rule, 2, some .int)
def K_Mo_ones : zKey := (yX12_ones, cX12_ones, 1, some .int)
def K_Mo_door : zKey := (yX12_door, cX12_door, 3, some .int)
def K_Mo_isDoor : zKey := (yX12_isDoor, cX12_isDoor, 2, some .boolean)
def K_Mo_one : zKey := (yX12_one, cX12_one, 3, some .int)
def K_Mo_isOne : zKey := (yX12_isOne, cX12_isOne, 2, some .boolean)
def K_Mo_placeOfOne : zKey := (yX12_placeOfOne, cX12_placeOfOne, 5, some .int)
def K_Mo_placeOf : zKey := (yX12_placeOf, cX12_placeOf, 4, some .int)
def K_Mo_mayTake : zKey := (yX12_mayTake, cX12_mayTake, 4, some .int)
def K_Mo_stepped : zKey := (yX12_stepped, cX12_stepped, 10, some .int)
def K_Mo_roomAt : zKey := (yX12_roomAt, cX12_roomAt, 3, some .int)
def K_Mo_lastAt : zKey := (yX12_lastAt, cX12_lastAt, 1, some .int)
def K_Mo_doors : zKey := (yX12_doors, cX12_doors, 2, some .int)
def K_Mo_isRoom : zKey := (yX12_isRoom, cX12_isRoom, 2, some .boolean)
def K_Mo_doorsOf : zKey := (yX12_doorsOf, cX12_doorsOf, 4, some .int)
def K_Mo_law : zKey := (yX12_law, cX12_law, 3, some .int)
def K_Mo_build : zKey := (yX12_build, cX12_build, 4, some .int)
def K_Mo_addDoor : zKey := (yX12_addDoor, cX12_addDoor, 5, none)
def K_Mo_wall : zKey := (yX12_wall, cX12_wall, 4, some .int)
def K_Mo_stand : zKey := (yX12_stand, cX12_stand, 4, some .int)
def K_Mo_go : zKey := (yX12_go, cX12_go, 3, some .int)
def K_Mo_goes : zKey := (yX12_goes, cX12_goes, 4, some .int)
def K_Mo_far : zKey := (yX12_far, cX12_far, 4, some .int)
def K_Mo_laysFrom : zKey := (yX12_laysFrom, cX12_laysFrom, 2, none)
def K_Mo_begins : zKey := (yX12_begins, cX12_begins, 2, none)
def K_Mo_finds : zKey := (yX12_finds, cX12_finds, 5, none)
def K_Mo_spreads : zKey := (yX12_spreads, cX12_spreads, 5, none)
def K_Mo_foundIn : zKey := (yX12_foundIn, cX12_foundIn, 3, some .int)
def K_Mo_way : zKey := (yX12_way, cX12_way, 5, some .int)
def K_Mo_can : zKey := (yX12_can, cX12_can, 2, some .int)
def K_Mo_foundRooms : zKey := (yX12_foundRooms, cX12_foundRooms, 3, some .int)
def K_Mo_path : zKey := (yX12_path, cX12_path, 4, some .int)
def K_Mo_newIn : zKey := (yX12_newIn, cX12_newIn, 1, some .int)
def K_Mo_pairs : zKey := (yX12_pairs, cX12_pairs, 1, some .int)
def K_Mo_pairsNow : zKey := (yX12_pairsNow, cX12_pairsNow, 3, some .int)
def K_Mo_bitsOf : zKey := (yX12_bitsOf, cX12_bitsOf, 3, some .int)
def K_Mo_life : zKey := (yX12_life, cX12_life, 3, some .int)
def K_Mo_isTrap : zKey := (yX12_isTrap, cX12_isTrap, 3, some .boolean)
def K_Mo_isLost : zKey := (yX12_isLost, cX12_isLost, 2, some .boolean)
def K_Mo_trap : zKey := (yX12_trap, cX12_trap, 3, some .int)
def K_Mo_secret : zKey := (yX12_secret, cX12_secret, 3, some .int)
def K_Mo_safe : zKey := (yX12_safe, cX12_safe, 1, some .int)
def K_Mo_isSafe : zKey := (yX12_isSafe, cX12_isSafe, 2, some .boolean)
def K_Mo_round : zKey := (yX12_round, cX12_round, 8, some .int)
def K_Mo_askedBit : zKey := (yX12_askedBit, cX12_askedBit, 4, some .int)
def K_Mo_isRound : zKey := (yX12_isRound, cX12_isRound, 5, some .boolean)
def K_Mo_goesRound : zKey := (yX12_goesRound, cX12_goesRound, 7, some .boolean)
def K_Mo_withRoom : zKey := (yX12_withRoom, cX12_withRoom, 4, some .int)
def K_Mo_tour : zKey := (yX12_tour, cX12_tour, 9, some .int)
def K_Mo_layOpens : zKey := (yX12_layOpens, cX12_layOpens, 2, none)
def K_Mo_layTours : zKey := (yX12_layTours, cX12_layTours, 3, none)
def K_Mo_onward : zKey := (yX12_onward, cX12_onward, 6, some .int)
def K_Mo_talk : zKey := (yX12_talk, cX12_talk, 8, some .int)
def K_Mo_beginsTwo : zKey := (yX12_beginsTwo, cX12_beginsTwo, 2, none)
def K_Mo_findsTwo : zKey := (yX12_findsTwo, cX12_findsTwo, 3, none)
def K_Mo_layTalk : zKey := (yX12_layTalk, cX12_layTalk, 10, none)
def K_Mo_stays : zKey := (yX12_stays, cX12_stays, 2, some .int)
def K_Mo_doneBy : zKey := (yX12_doneBy, cX12_doneBy, 3, some .int)
def K_Mo_doing : zKey := (yX12_doing, cX12_doing, 4, some .int)
def K_Mo_cup : zKey := (yX12_cup, cX12_cup, 12, some .int)
def K_Mo_findsCup : zKey := (yX12_findsCup, cX12_findsCup, 6, none)
def K_Mo_more : zKey := (yX12_more, cX12_more, 7, some .int)
def K_Mo_worst : zKey := (yX12_worst, cX12_worst, 6, some .int)
def K_Mo_mend : zKey := (yX12_mend, cX12_mend, 3, some .int)
def K_Mo_layMend : zKey := (yX12_layMend, cX12_layMend, 3, some .int)
def K_Mo_mendsOne : zKey := (yX12_mendsOne, cX12_mendsOne, 4, some .boolean)
def K_Mo_tell : zKey := (yX12_tell, cX12_tell, 2, some .int)
def K_Mo_forget : zKey := (yX12_forget, cX12_forget, 2, some .int)
def K_Mo_judge : zKey := (yX12_judge, cX12_judge, 4, some .int)
def K_Mo_ajar : zKey := (yX12_ajar, cX12_ajar, 11, some .int)
def K_Mo_layWays : zKey := (yX12_layWays, cX12_layWays, 8, some .long)
def K_Mo_addWays : zKey := (yX12_addWays, cX12_addWays, 9, none)
def K_Mo_keep : zKey := (yX12_keep, cX12_keep, 3, some .int)
def K_Mo_copies : zKey := (yX12_copies, cX12_copies, 4, none)
def K_Mo_back : zKey := (yX12_back, cX12_back, 2, some .int)
def K_Mo_sheet : zKey := (yX12_sheet, cX12_sheet, 5, some .int)
def K_Mo_lay : zKey := (yX12_lay, cX12_lay, 4, some .int)
def K_Mo_read : zKey := (yX12_read, cX12_read, 12, some .int)
def K_Mo_torn : zKey := (yX12_torn, cX12_torn, 1, some .int)
def K_Mo_count : zKey := (yX12_count, cX12_count, 4, some .int)
def K_Law_law : zKey := (yL_law, cL_law, 4, some .boolean)
end
end
section
section
def M_Ta_append : zMt := (K_Ta_append, RX5, [(0, .aload_n 0, 1), (1, .getfield 22, 3), (4, .bipush 8, 2), (6, .iadd, 1), (7, .sipush 320, 3), (10, .if_icmp .le 5, 3), (13, .iconst 0, 1), (14, .ireturn, 1), (15, .bipush 56, 2), (17, .istore_n 3, 1), (18, .iload_n 3, 1), (19, .ifCond .lt 33, 3), (22, .aload_n 0, 1), (23, .getfield 9, 3), (26, .aload_n 0, 1), (27, .getfield 22, 3), (30, .lload_n 1, 1), (31, .iload_n 3, 1), (32, .lushr, 1), (33, .l2i, 1), (34, .i2b, 1), (35, .bastore, 1), (36, .aload_n 0, 1), (37, .dup, 1), (38, .getfield 22, 3), (41, .iconst 1, 1), (42, .iadd, 1), (43, .putfield 22, 3), (46, .iinc 3 (-8), 3), (49, .goto (-31), 3), (52, .iconst 1, 1), (53, .ireturn, 1)], [(9, 5, 0, 1182), (22, 5, 2, 1185)], [], [], 0, fun _ => 0)
theorem ok_Ta_append : zOK M_Ta_append := zOK_of (by decide +kernel) (by decide +kernel)
def M_Ta_understand : zMt := (K_Ta_understand, RX5, [(0, .aload_n 0, 1), (1, .getfield 18, 3), (4, .invokevirtual 57, 3), (7, .aload_n 0, 1), (8, .iconst 0, 1), (9, .putfield 26, 3), (12, .aload_n 0, 1), (13, .iconst 0, 1), (14, .putfield 29, 3), (17, .aload_n 0, 1), (18, .iconst 0, 1), (19, .putfield 32, 3), (22, .aload_n 0, 1), (23, .iconst 0, 1), (24, .putfield 35, 3), (27, .aload_n 0, 1), (28, .iconst 0, 1), (29, .putfield 47, 3), (32, .aload_n 0, 1), (33, .iconst 0, 1), (34, .putfield 51, 3), (37, .aload_n 0, 1), (38, .iconst 0, 1), (39, .putfield 54, 3), (42, .aload_n 0, 1), (43, .invokevirtual 60, 3), (46, .iconst 0, 1), (47, .istore_n 1, 1), (48, .iload_n 1, 1), (49, .aload_n 0, 1), (50, .getfield 22, 3), (53, .if_icmp .ge 40, 3), (56, .aload_n 0, 1), (57, .getfield 41, 3), (60, .iconst 1, 1), (61, .if_icmp .eq 32, 3), (64, .aload_n 0, 1), (65, .invokevirtual 63, 3), (68, .ifCond .ne 5, 3), (71, .iconst 0, 1), (72, .ireturn, 1), (73, .aload_n 0, 1), (74, .dup, 1), (75, .getfield 26, 3), (78, .iconst 1, 1), (79, .iadd, 1), (80, .putfield 26, 3), (83, .aload_n 0, 1), (84, .invokevirtual 60, 3), (87, .iinc 1 1, 3), (90, .goto (-42), 3), (93, .aload_n 0, 1), (94, .invokevirtual 67, 3), (97, .ireturn, 1)], [(18, 5, 1, 1183), (22, 5, 2, 1185), (26, 5, 3, 1187), (29, 5, 4, 1189), (32, 5, 5, 1191), (35, 5, 6, 1193), (41, 5, 8, 1195), (47, 5, 10, 1197), (51, 5, 11, 1198), (54, 5, 12, 1199)], [(57, K_Pa_clear, 2, 0, [2214, 2217, 1002, 2215, 2216]), (60, K_Ta_nextToken, 5, 0, [2225, 2228, 1006, 2227, 0]), (63, K_Ta_takeLine, 5, 0, [3001, 3004, 1006, 3003, 4]), (67, K_Ta_closeText, 5, 0, [3109, 3112, 1006, 3111, 15])], [], 0, fun _ => 0)
theorem ok_Ta_understand : zOK M_Ta_understand := zOK_of (by decide +kernel) (by decide +kernel)
def M_Pa_clear : zMt := (K_Pa_clear, RX2, [(0, .aload_n 0, 1), (1, .getfield 12, 3), (4, .invokevirtual 36, 3), (7, .aload_n 0, 1), (8, .iconst 0, 1), (9, .putfield 25, 3), (12, .aload_n 0, 1), (13, .iconst 0, 1), (14, .putfield 33, 3), (17, .return_, 1)], [(12, 2, 0, 1129), (25, 2, 2, 1135), (33, 2, 4, 1140)], [(36, K_Ho_clear, 1, 0, [2218, 2221, 1003, 2219, 2220])], [], 0, fun _ => 0)
theorem ok_Pa_clear : zOK M_Pa_clear := zOK_of (by decide +kernel) (by decide +kernel)
def M_Ho_clear : zMt := (K_Ho_clear, RX1, [(0, .aload_n 0, 1), (1, .iconst 4, 1), (2, .putfield 9, 3), (5, .aload_n 0, 1), (6, .iconst 0, 1), (7, .putfield 15, 3), (10, .aload_n 0, 1), (11, .iconst 0, 1), (12, .putfield 18, 3), (15, .aload_n 0, 1), (16, .iconst 0, 1), (17, .putfield 21, 3), (20, .aload_n 0, 1), (21, .getfield 34, 3), (24, .iconst 0, 1), (25, .invokestatic 40, 3), (28, .aload_n 0, 1), (29, .getfield 37, 3), (32, .iconst 0, 1), (33, .invokestatic 40, 3), (36, .return_, 1)], [(9, 1, 0, 1041), (15, 1, 1, 1046), (18, 1, 2, 1053), (21, 1, 3, 1062), (34, 1, 7, 1077), (37, 1, 8, 1079)], [(40, K_Jd_fill, 100, 2, [2222, 2224, 1014, 2223])], [], 0, fun _ => 0)
theorem ok_Ho_clear : zOK M_Ho_clear := zOK_of (by decide +kernel) (by decide +kernel)
def M_Jd_fill : zMt := (K_Jd_fill, RJ7, [(0, .iconst 0, 1), (1, .istore_n 2, 1), (2, .aload_n 0, 1), (3, .arraylength, 1), (4, .istore_n 3, 1), (5, .iload_n 2, 1), (6, .iload_n 3, 1), (7, .if_icmp .ge 13, 3), (10, .aload_n 0, 1), (11, .iload_n 2, 1), (12, .iload_n 1, 1), (13, .iastore, 1), (14, .iinc 2 1, 3), (17, .goto (-12), 3), (20, .return_, 1)], [], [], [], 0, fun _ => 0)
theorem ok_Jd_fill : zOK M_Jd_fill := zOK_of (by decide +kernel) (by decide +kernel)
def M_Ta_nextToken : zMt := (K_Ta_nextToken, RX5, [(0, .aload_n 0, 1), (1, .aload_n 0, 1), (2, .bipush 32, 2), (4, .bipush 32, 2), (6, .invokevirtual 70, 3), (9, .putfield 35, 3), (12, .aload_n 0, 1), (13, .aload_n 0, 1), (14, .getfield 35, 3), (17, .putfield 38, 3), (20, .aload_n 0, 1), (21, .getfield 35, 3), (24, .aload_n 0, 1), (25, .getfield 22, 3), (28, .if_icmp .lt 9, 3), (31, .aload_n 0, 1), (32, .iconst 1, 1), (33, .putfield 41, 3), (36, .return_, 1), (37, .aload_n 0, 1), (38, .getfield 9, 3), (41, .aload_n 0, 1), (42, .getfield 35, 3), (45, .baload, 1), (46, .istore_n 1, 1), (47, .iload_n 1, 1), (48, .bipush 97, 2), (50, .if_icmp .lt 29, 3), (53, .iload_n 1, 1), (54, .bipush 122, 2), (56, .if_icmp .gt 23, 3), (59, .aload_n 0, 1), (60, .iconst 2, 1), (61, .putfield 41, 3), (64, .aload_n 0, 1), (65, .aload_n 0, 1), (66, .bipush 97, 2), (68, .bipush 122, 2), (70, .invokevirtual 70, 3), (73, .putfield 35, 3), (76, .goto 73, 3), (79, .iload_n 1, 1), (80, .bipush 48, 2), (82, .if_icmp .lt 28, 3), (85, .iload_n 1, 1), (86, .bipush 57, 2), (88, .if_icmp .gt 22, 3), (91, .aload_n 0, 1), (92, .aload_n 0, 1), (93, .bipush 48, 2), (95, .bipush 57, 2), (97, .invokevirtual 70, 3), (100, .putfield 35, 3), (103, .aload_n 0, 1), (104, .invokevirtual 74, 3), (107, .goto 42, 3), (110, .iload_n 1, 1), (111, .bipush 59, 2), (113, .if_icmp .ne 21, 3), (116, .aload_n 0, 1), (117, .iconst 4, 1), (118, .putfield 41, 3), (121, .aload_n 0, 1), (122, .dup, 1), (123, .getfield 35, 3), (126, .iconst 1, 1), (127, .iadd, 1), (128, .putfield 35, 3), (131, .goto 18, 3), (134, .aload_n 0, 1), (135, .iconst 0, 1), (136, .putfield 41, 3), (139, .aload_n 0, 1), (140, .iconst 1, 1), (141, .aload_n 0, 1), (142, .getfield 38, 3), (145, .invokevirtual 77, 3), (148, .pop, 1), (149, .return_, 1)], [(9, 5, 0, 1182), (22, 5, 2, 1185), (35, 5, 6, 1193), (38, 5, 7, 1194), (41, 5, 8, 1195)], [(70, K_Ta_behind, 5, 2, [2229, 2232, 1006, 2231, 1]), (74, K_Ta_takeFigures, 5, 0, [2233, 2236, 1006, 2235, 2]), (77, K_Ta_refuse, 5, 2, [2237, 3000, 1006, 2239, 3])], [], 0, fun _ => 0)
theorem ok_Ta_nextToken : zOK M_Ta_nextToken := zOK_of (by decide +kernel) (by decide +kernel)
def M_Ta_behind : zMt := (K_Ta_behind, RX5, [(0, .aload_n 0, 1), (1, .getfield 35, 3), (4, .istore_n 3, 1), (5, .iload_n 3, 1), (6, .aload_n 0, 1), (7, .getfield 22, 3), (10, .if_icmp .ge 29, 3), (13, .aload_n 0, 1), (14, .getfield 9, 3), (17, .iload_n 3, 1), (18, .baload, 1), (19, .iload_n 1, 1), (20, .if_icmp .lt 19, 3), (23, .aload_n 0, 1), (24, .getfield 9, 3), (27, .iload_n 3, 1), (28, .baload, 1), (29, .iload_n 2, 1), (30, .if_icmp .gt 9, 3), (33, .iinc 3 1, 3), (36, .goto (-31), 3), (39, .iload_n 3, 1), (40, .ireturn, 1)], [(9, 5, 0, 1182), (22, 5, 2, 1185), (35, 5, 6, 1193)], [], [], 0, fun _ => 0)
theorem ok_Ta_behind : zOK M_Ta_behind := zOK_of (by decide +kernel) (by decide +kernel)
def M_Ta_takeFigures : zMt := (K_Ta_takeFigures, RX5, [(0, .aload_n 0, 1), (1, .getfield 35, 3), (4, .aload_n 0, 1), (5, .getfield 38, 3), (8, .isub, 1), (9, .iconst 2, 1), (10, .if_icmp .le 19, 3), (13, .aload_n 0, 1), (14, .iconst 0, 1), (15, .putfield 41, 3), (18, .aload_n 0, 1), (19, .iconst 1, 1), (20, .aload_n 0, 1), (21, .getfield 38, 3), (24, .invokevirtual 77, 3), (27, .pop, 1), (28, .return_, 1), (29, .aload_n 0, 1), (30, .iconst 3, 1), (31, .putfield 41, 3), (34, .aload_n 0, 1), (35, .iconst 0, 1), (36, .putfield 44, 3), (39, .aload_n 0, 1), (40, .getfield 38, 3), (43, .istore_n 1, 1), (44, .iload_n 1, 1), (45, .aload_n 0, 1), (46, .getfield 35, 3), (49, .if_icmp .ge 30, 3), (52, .aload_n 0, 1), (53, .bipush 10, 2), (55, .aload_n 0, 1), (56, .getfield 44, 3), (59, .imul, 1), (60, .aload_n 0, 1), (61, .getfield 9, 3), (64, .iload_n 1, 1), (65, .baload, 1), (66, .iadd, 1), (67, .bipush 48, 2), (69, .isub, 1), (70, .putfield 44, 3), (73, .iinc 1 1, 3), (76, .goto (-32), 3), (79, .return_, 1)], [(9, 5, 0, 1182), (35, 5, 6, 1193), (38, 5, 7, 1194), (41, 5, 8, 1195), (44, 5, 9, 1196)], [(77, K_Ta_refuse, 5, 2, [2237, 3000, 1006, 2239, 3])], [], 0, fun _ => 0)
theorem ok_Ta_takeFigures : zOK M_Ta_takeFigures := zOK_of (by decide +kernel) (by decide +kernel)
def M_Ta_refuse : zMt := (K_Ta_refuse, RX5, [(0, .aload_n 0, 1), (1, .getfield 29, 3), (4, .ifCond .ne 13, 3), (7, .aload_n 0, 1), (8, .iload_n 1, 1), (9, .putfield 29, 3), (12, .aload_n 0, 1), (13, .iload_n 2, 1), (14, .putfield 32, 3), (17, .iconst 0, 1), (18, .ireturn, 1)], [(29, 5, 4, 1189), (32, 5, 5, 1191)], [], [], 0, fun _ => 0)
theorem ok_Ta_refuse : zOK M_Ta_refuse := zOK_of (by decide +kernel) (by decide +kernel)
def M_Ta_takeLine : zMt := (K_Ta_takeLine, RX5, [(0, .aload_n 0, 1), (1, .ldc 90, 2), (3, .invokevirtual 92, 3), (6, .ifCond .eq 8, 3), (9, .aload_n 0, 1), (10, .invokevirtual 96, 3), (13, .ireturn, 1), (14, .aload_n 0, 1), (15, .ldc 99, 2), (17, .invokevirtual 92, 3), (20, .ifCond .eq 8, 3), (23, .aload_n 0, 1), (24, .invokevirtual 101, 3), (27, .ireturn, 1), (28, .aload_n 0, 1), (29, .ldc 104, 2), (31, .invokevirtual 92, 3), (34, .ifCond .eq 8, 3), (37, .aload_n 0, 1), (38, .invokevirtual 106, 3), (41, .ireturn, 1), (42, .aload_n 0, 1), (43, .ldc 109, 2), (45, .invokevirtual 92, 3), (48, .ifCond .eq 8, 3), (51, .aload_n 0, 1), (52, .invokevirtual 111, 3), (55, .ireturn, 1), (56, .aload_n 0, 1), (57, .ldc 114, 2), (59, .invokevirtual 92, 3), (62, .ifCond .eq 10, 3), (65, .aload_n 0, 1), (66, .invokevirtual 116, 3), (69, .goto 12, 3), (72, .aload_n 0, 1), (73, .iconst 2, 1), (74, .aload_n 0, 1), (75, .getfield 38, 3), (78, .invokevirtual 77, 3), (81, .ireturn, 1)], [(38, 5, 7, 1194)], [(77, K_Ta_refuse, 5, 2, [2237, 3000, 1006, 2239, 3]), (92, K_Ta_isWord, 5, 1, [3006, 3009, 1006, 3008, 5]), (96, K_Ta_takeRooms, 5, 0, [3058, 3061, 1006, 3060, 6]), (101, K_Ta_takeLaw, 5, 0, [3075, 3078, 1006, 3077, 10]), (106, K_Ta_takeDoor, 5, 0, [3080, 3083, 1006, 3082, 11]), (111, K_Ta_takeOne, 5, 0, [3096, 3099, 1006, 3098, 13]), (116, K_Ta_takeWalled, 5, 0, [3105, 3108, 1006, 3107, 14])], [(90, 3, 0, 3005), (99, 3, 1, 3074), (104, 3, 2, 3079), (109, 3, 3, 3095), (114, 3, 4, 3104)], 0, fun _ => 0)
theorem ok_Ta_takeLine : zOK M_Ta_takeLine := zOK_of (by decide +kernel) (by decide +kernel)
def M_Ta_isWord : zMt := (K_Ta_isWord, RX5, [(0, .aload_n 0, 1), (1, .getfield 41, 3), (4, .iconst 2, 1), (5, .if_icmp .ne 19, 3), (8, .aload_n 0, 1), (9, .getfield 35, 3), (12, .aload_n 0, 1), (13, .getfield 38, 3), (16, .isub, 1), (17, .aload_n 1, 1), (18, .invokevirtual 81, 3), (21, .if_icmp .eq 5, 3), (24, .iconst 0, 1), (25, .ireturn, 1), (26, .iconst 0, 1), (27, .istore_n 2, 1), (28, .iload_n 2, 1), (29, .aload_n 1, 1), (30, .invokevirtual 81, 3), (33, .if_icmp .ge 30, 3), (36, .aload_n 0, 1), (37, .getfield 9, 3), (40, .aload_n 0, 1), (41, .getfield 38, 3), (44, .iload_n 2, 1), (45, .iadd, 1), (46, .baload, 1), (47, .aload_n 1, 1), (48, .iload_n 2, 1), (49, .invokevirtual 86, 3), (52, .if_icmp .eq 5, 3), (55, .iconst 0, 1), (56, .ireturn, 1), (57, .iinc 2 1, 3), (60, .goto (-32), 3), (63, .iconst 1, 1), (64, .ireturn, 1)], [(9, 5, 0, 1182), (35, 5, 6, 1193), (38, 5, 7, 1194), (41, 5, 8, 1195)], [(81, K_Js_length, 102, 0, [3010, 3013, 1015, 3011, 3012]), (86, K_Js_charAt, 102, 1, [3020, 3023, 1015, 3021, 3022])], [], 0, fun _ => 0)
theorem ok_Ta_isWord : zOK M_Ta_isWord := zOK_of (by decide +kernel) (by decide +kernel)
def M_Ta_takeRooms : zMt := (K_Ta_takeRooms, RX5, [(0, .aload_n 0, 1), (1, .getfield 47, 3), (4, .ifCond .eq 13, 3), (7, .aload_n 0, 1), (8, .iconst 4, 1), (9, .aload_n 0, 1), (10, .getfield 38, 3), (13, .invokevirtual 77, 3), (16, .ireturn, 1), (17, .aload_n 0, 1), (18, .iconst 1, 1), (19, .putfield 47, 3), (22, .aload_n 0, 1), (23, .iconst 2, 1), (24, .bipush 10, 2), (26, .invokevirtual 122, 3), (29, .ifCond .ne 5, 3), (32, .iconst 0, 1), (33, .ireturn, 1), (34, .aload_n 0, 1), (35, .getfield 18, 3), (38, .getfield 125, 3), (41, .aload_n 0, 1), (42, .getfield 44, 3), (45, .putfield 129, 3), (48, .aload_n 0, 1), (49, .invokevirtual 133, 3), (52, .ireturn, 1)], [(18, 5, 1, 1183), (38, 5, 7, 1194), (44, 5, 9, 1196), (47, 5, 10, 1197), (125, 2, 0, 1131), (129, 1, 0, 1045)], [(77, K_Ta_refuse, 5, 2, [2237, 3000, 1006, 2239, 3]), (122, K_Ta_takeNumber, 5, 2, [3062, 3065, 1006, 3064, 7]), (133, K_Ta_takeSign, 5, 0, [3066, 3069, 1006, 3068, 8])], [], 0, fun _ => 0)
theorem ok_Ta_takeRooms : zOK M_Ta_takeRooms := zOK_of (by decide +kernel) (by decide +kernel)
def M_Ta_takeNumber : zMt := (K_Ta_takeNumber, RX5, [(0, .aload_n 0, 1), (1, .invokevirtual 60, 3), (4, .aload_n 0, 1), (5, .getfield 41, 3), (8, .iconst 3, 1), (9, .if_icmp .eq 13, 3), (12, .aload_n 0, 1), (13, .iconst 2, 1), (14, .aload_n 0, 1), (15, .getfield 38, 3), (18, .invokevirtual 77, 3), (21, .ireturn, 1), (22, .aload_n 0, 1), (23, .getfield 44, 3), (26, .iload_n 1, 1), (27, .if_icmp .lt 11, 3), (30, .aload_n 0, 1), (31, .getfield 44, 3), (34, .iload_n 2, 1), (35, .if_icmp .le 15, 3), (38, .aload_n 0, 1), (39, .iconst 3, 1), (40, .aload_n 0, 1), (41, .getfield 38, 3), (44, .invokevirtual 77, 3), (47, .ifCond .eq 7, 3), (50, .iconst 1, 1), (51, .goto 4, 3), (54, .iconst 0, 1), (55, .ireturn, 1)], [(38, 5, 7, 1194), (41, 5, 8, 1195), (44, 5, 9, 1196)], [(60, K_Ta_nextToken, 5, 0, [2225, 2228, 1006, 2227, 0]), (77, K_Ta_refuse, 5, 2, [2237, 3000, 1006, 2239, 3])], [], 0, fun _ => 0)
theorem ok_Ta_takeNumber : zOK M_Ta_takeNumber := zOK_of (by decide +kernel) (by decide +kernel)
def M_Ta_takeSign : zMt := (K_Ta_takeSign, RX5, [(0, .aload_n 0, 1), (1, .invokevirtual 60, 3), (4, .aload_n 0, 1), (5, .invokevirtual 119, 3), (8, .ireturn, 1)], [], [(60, K_Ta_nextToken, 5, 0, [2225, 2228, 1006, 2227, 0]), (119, K_Ta_isSign, 5, 0, [3070, 3073, 1006, 3072, 9])], [], 0, fun _ => 0)
theorem ok_Ta_takeSign : zOK M_Ta_takeSign := zOK_of (by decide +kernel) (by decide +kernel)
def M_Ta_isSign : zMt := (K_Ta_isSign, RX5, [(0, .aload_n 0, 1), (1, .getfield 41, 3), (4, .iconst 4, 1), (5, .if_icmp .eq 15, 3), (8, .aload_n 0, 1), (9, .iconst 2, 1), (10, .aload_n 0, 1), (11, .getfield 38, 3), (14, .invokevirtual 77, 3), (17, .ifCond .eq 7, 3), (20, .iconst 1, 1), (21, .goto 4, 3), (24, .iconst 0, 1), (25, .ireturn, 1)], [(38, 5, 7, 1194), (41, 5, 8, 1195)], [(77, K_Ta_refuse, 5, 2, [2237, 3000, 1006, 2239, 3])], [], 0, fun _ => 0)
theorem ok_Ta_isSign : zOK M_Ta_isSign := zOK_of (by decide +kernel) (by decide +kernel)
def M_Ta_takeLaw : zMt := (K_Ta_takeLaw, RX5, [(0, .aload_n 0, 1), (1, .getfield 51, 3), (4, .ifCond .eq 13, 3), (7, .aload_n 0, 1), (8, .iconst 4, 1), (9, .aload_n 0, 1), (10, .getfield 38, 3), (13, .invokevirtual 77, 3), (16, .ireturn, 1), (17, .aload_n 0, 1), (18, .iconst 1, 1), (19, .putfield 51, 3), (22, .aload_n 0, 1), (23, .iconst 0, 1), (24, .iconst 3, 1), (25, .invokevirtual 122, 3), (28, .ifCond .ne 5, 3), (31, .iconst 0, 1), (32, .ireturn, 1), (33, .aload_n 0, 1), (34, .getfield 18, 3), (37, .getfield 125, 3), (40, .aload_n 0, 1), (41, .getfield 44, 3), (44, .putfield 136, 3), (47, .aload_n 0, 1), (48, .invokevirtual 133, 3), (51, .ireturn, 1)], [(18, 5, 1, 1183), (38, 5, 7, 1194), (44, 5, 9, 1196), (51, 5, 11, 1198), (125, 2, 0, 1131), (136, 1, 1, 1052)], [(77, K_Ta_refuse, 5, 2, [2237, 3000, 1006, 2239, 3]), (122, K_Ta_takeNumber, 5, 2, [3062, 3065, 1006, 3064, 7]), (133, K_Ta_takeSign, 5, 0, [3066, 3069, 1006, 3068, 8])], [], 0, fun _ => 0)
theorem ok_Ta_takeLaw : zOK M_Ta_takeLaw := zOK_of (by decide +kernel) (by decide +kernel)
def M_Ta_takeDoor : zMt := (K_Ta_takeDoor, RX5, [(0, .aload_n 0, 1), (1, .getfield 18, 3), (4, .getfield 125, 3), (7, .getfield 138, 3), (10, .bipush 14, 2), (12, .if_icmp .lt 13, 3), (15, .aload_n 0, 1), (16, .iconst 5, 1), (17, .aload_n 0, 1), (18, .getfield 38, 3), (21, .invokevirtual 77, 3), (24, .ireturn, 1), (25, .aload_n 0, 1), (26, .iconst 0, 1), (27, .bipush 9, 2), (29, .invokevirtual 122, 3), (32, .ifCond .ne 5, 3), (35, .iconst 0, 1), (36, .ireturn, 1), (37, .aload_n 0, 1), (38, .getfield 44, 3), (41, .istore_n 1, 1), (42, .aload_n 0, 1), (43, .iconst 0, 1), (44, .bipush 9, 2), (46, .invokevirtual 122, 3), (49, .ifCond .ne 5, 3), (52, .iconst 0, 1), (53, .ireturn, 1), (54, .aload_n 0, 1), (55, .getfield 44, 3), (58, .istore_n 2, 1), (59, .iload_n 1, 1), (60, .iload_n 2, 1), (61, .if_icmp .ne 13, 3), (64, .aload_n 0, 1), (65, .iconst 4, 1), (66, .aload_n 0, 1), (67, .getfield 38, 3), (70, .invokevirtual 77, 3), (73, .ireturn, 1), (74, .aload_n 0, 1), (75, .invokevirtual 60, 3), (78, .iconst 0, 1), (79, .istore_n 3, 1), (80, .aload_n 0, 1), (81, .getfield 41, 3), (84, .iconst 2, 1), (85, .if_icmp .ne 26, 3), (88, .aload_n 0, 1), (89, .invokevirtual 141, 3), (92, .istore_n 3, 1), (93, .iload_n 3, 1), (94, .ifCond .ne 13, 3), (97, .aload_n 0, 1), (98, .iconst 2, 1), (99, .aload_n 0, 1), (100, .getfield 38, 3), (103, .invokevirtual 77, 3), (106, .ireturn, 1), (107, .aload_n 0, 1), (108, .invokevirtual 60, 3), (111, .aload_n 0, 1), (112, .invokevirtual 119, 3), (115, .ifCond .eq 23, 3), (118, .aload_n 0, 1), (119, .getfield 18, 3), (122, .getfield 125, 3), (125, .iload_n 1, 1), (126, .iload_n 2, 1), (127, .iload_n 3, 1), (128, .invokevirtual 144, 3), (131, .ifCond .eq 7, 3), (134, .iconst 1, 1), (135, .goto 4, 3), (138, .iconst 0, 1), (139, .ireturn, 1)], [(18, 5, 1, 1183), (38, 5, 7, 1194), (41, 5, 8, 1195), (44, 5, 9, 1196), (125, 2, 0, 1131), (138, 1, 2, 1061)], [(60, K_Ta_nextToken, 5, 0, [2225, 2228, 1006, 2227, 0]), (77, K_Ta_refuse, 5, 2, [2237, 3000, 1006, 2239, 3]), (119, K_Ta_isSign, 5, 0, [3070, 3073, 1006, 3072, 9]), (122, K_Ta_takeNumber, 5, 2, [3062, 3065, 1006, 3064, 7]), (141, K_Ta_colourTold, 5, 0, [3084, 3087, 1006, 3086, 12]), (144, K_Ho_add, 1, 3, [3091, 3094, 1003, 3092, 3093])], [], 0, fun _ => 0)
theorem ok_Ta_takeDoor : zOK M_Ta_takeDoor := zOK_of (by decide +kernel) (by decide +kernel)
def M_Ta_colourTold : zMt := (K_Ta_colourTold, RX5, [(0, .aload_n 0, 1), (1, .ldc 148, 2), (3, .invokevirtual 92, 3), (6, .ifCond .eq 5, 3), (9, .iconst 1, 1), (10, .ireturn, 1), (11, .aload_n 0, 1), (12, .ldc 150, 2), (14, .invokevirtual 92, 3), (17, .ifCond .eq 5, 3), (20, .iconst 2, 1), (21, .ireturn, 1), (22, .aload_n 0, 1), (23, .ldc 152, 2), (25, .invokevirtual 92, 3), (28, .ifCond .eq 7, 3), (31, .iconst 3, 1), (32, .goto 4, 3), (35, .iconst 0, 1), (36, .ireturn, 1)], [], [(92, K_Ta_isWord, 5, 1, [3006, 3009, 1006, 3008, 5])], [(148, 3, 5, 3088), (150, 3, 6, 3089), (152, 3, 7, 3090)], 0, fun _ => 0)
theorem ok_Ta_colourTold : zOK M_Ta_colourTold := zOK_of (by decide +kernel) (by decide +kernel)
def M_Ho_add : zMt := (K_Ho_add, RX1, [(0, .aload_n 0, 1), (1, .getfield 18, 3), (4, .bipush 14, 2), (6, .if_icmp .lt 5, 3), (9, .iconst 0, 1), (10, .ireturn, 1), (11, .aload_n 0, 1), (12, .getfield 24, 3), (15, .aload_n 0, 1), (16, .getfield 18, 3), (19, .iload_n 1, 1), (20, .iastore, 1), (21, .aload_n 0, 1), (22, .getfield 28, 3), (25, .aload_n 0, 1), (26, .getfield 18, 3), (29, .iload_n 2, 1), (30, .iastore, 1), (31, .aload_n 0, 1), (32, .getfield 31, 3), (35, .aload_n 0, 1), (36, .getfield 18, 3), (39, .iload_n 3, 1), (40, .iastore, 1), (41, .aload_n 0, 1), (42, .getfield 34, 3), (45, .iload_n 1, 1), (46, .dup2, 1), (47, .iaload, 1), (48, .iconst 1, 1), (49, .aload_n 0, 1), (50, .getfield 18, 3), (53, .ishl, 1), (54, .ior, 1), (55, .iastore, 1), (56, .aload_n 0, 1), (57, .getfield 34, 3), (60, .iload_n 2, 1), (61, .dup2, 1), (62, .iaload, 1), (63, .iconst 1, 1), (64, .aload_n 0, 1), (65, .getfield 18, 3), (68, .ishl, 1), (69, .ior, 1), (70, .iastore, 1), (71, .aload_n 0, 1), (72, .getfield 37, 3), (75, .iload_n 3, 1), (76, .dup2, 1), (77, .iaload, 1), (78, .iconst 1, 1), (79, .aload_n 0, 1), (80, .getfield 18, 3), (83, .ishl, 1), (84, .ior, 1), (85, .iastore, 1), (86, .aload_n 0, 1), (87, .dup, 1), (88, .getfield 18, 3), (91, .iconst 1, 1), (92, .iadd, 1), (93, .putfield 18, 3), (96, .iconst 1, 1), (97, .ireturn, 1)], [(18, 1, 2, 1053), (24, 1, 4, 1063), (28, 1, 5, 1068), (31, 1, 6, 1073), (34, 1, 7, 1077), (37, 1, 8, 1079)], [], [], 0, fun _ => 0)
theorem ok_Ho_add : zOK M_Ho_add := zOK_of (by decide +kernel) (by decide +kernel)
def M_Ta_takeOne : zMt := (K_Ta_takeOne, RX5, [(0, .aload_n 0, 1), (1, .getfield 18, 3), (4, .getfield 154, 3), (7, .iconst 5, 1), (8, .if_icmp .lt 13, 3), (11, .aload_n 0, 1), (12, .iconst 5, 1), (13, .aload_n 0, 1), (14, .getfield 38, 3), (17, .invokevirtual 77, 3), (20, .ireturn, 1), (21, .aload_n 0, 1), (22, .iconst 0, 1), (23, .bipush 9, 2), (25, .invokevirtual 122, 3), (28, .ifCond .ne 5, 3), (31, .iconst 0, 1), (32, .ireturn, 1), (33, .aload_n 0, 1), (34, .getfield 18, 3), (37, .getfield 157, 3), (40, .aload_n 0, 1), (41, .getfield 18, 3), (44, .getfield 154, 3), (47, .aaload, 1), (48, .aload_n 0, 1), (49, .getfield 44, 3), (52, .invokevirtual 161, 3), (55, .aload_n 0, 1), (56, .getfield 18, 3), (59, .dup, 1), (60, .getfield 154, 3), (63, .iconst 1, 1), (64, .iadd, 1), (65, .putfield 154, 3), (68, .aload_n 0, 1), (69, .invokevirtual 133, 3), (72, .ireturn, 1)], [(18, 5, 1, 1183), (38, 5, 7, 1194), (44, 5, 9, 1196), (154, 2, 2, 1137), (157, 2, 1, 1134)], [(77, K_Ta_refuse, 5, 2, [2237, 3000, 1006, 2239, 3]), (122, K_Ta_takeNumber, 5, 2, [3062, 3065, 1006, 3064, 7]), (133, K_Ta_takeSign, 5, 0, [3066, 3069, 1006, 3068, 8]), (161, K_Wa_standNew, 9, 1, [3100, 3103, 1004, 3101, 3102])], [], 0, fun _ => 0)
theorem ok_Ta_takeOne : zOK M_Ta_takeOne := zOK_of (by decide +kernel) (by decide +kernel)
def M_Wa_standNew : zMt := (K_Wa_standNew, RX9, [(0, .aload_n 0, 1), (1, .iload_n 1, 1), (2, .putfield 9, 3), (5, .aload_n 0, 1), (6, .iconst (-1), 1), (7, .putfield 15, 3), (10, .aload_n 0, 1), (11, .iconst (-1), 1), (12, .putfield 18, 3), (15, .return_, 1)], [(9, 9, 0, 1107), (15, 9, 1, 1113), (18, 9, 2, 1118)], [], [], 0, fun _ => 0)
theorem ok_Wa_standNew : zOK M_Wa_standNew := zOK_of (by decide +kernel) (by decide +kernel)
def M_Ta_takeWalled : zMt := (K_Ta_takeWalled, RX5, [(0, .aload_n 0, 1), (1, .iconst 0, 1), (2, .bipush 13, 2), (4, .invokevirtual 122, 3), (7, .ifCond .ne 5, 3), (10, .iconst 0, 1), (11, .ireturn, 1), (12, .aload_n 0, 1), (13, .getfield 54, 3), (16, .aload_n 0, 1), (17, .getfield 44, 3), (20, .ishr, 1), (21, .iconst 1, 1), (22, .iand, 1), (23, .ifCond .eq 13, 3), (26, .aload_n 0, 1), (27, .iconst 4, 1), (28, .aload_n 0, 1), (29, .getfield 38, 3), (32, .invokevirtual 77, 3), (35, .ireturn, 1), (36, .aload_n 0, 1), (37, .dup, 1), (38, .getfield 54, 3), (41, .iconst 1, 1), (42, .aload_n 0, 1), (43, .getfield 44, 3), (46, .ishl, 1), (47, .ior, 1), (48, .putfield 54, 3), (51, .aload_n 0, 1), (52, .invokevirtual 133, 3), (55, .ireturn, 1)], [(38, 5, 7, 1194), (44, 5, 9, 1196), (54, 5, 12, 1199)], [(77, K_Ta_refuse, 5, 2, [2237, 3000, 1006, 2239, 3]), (122, K_Ta_takeNumber, 5, 2, [3062, 3065, 1006, 3064, 7]), (133, K_Ta_takeSign, 5, 0, [3066, 3069, 1006, 3068, 8])], [], 0, fun _ => 0)
theorem ok_Ta_takeWalled : zOK M_Ta_takeWalled := zOK_of (by decide +kernel) (by decide +kernel)
def M_Ta_closeText : zMt := (K_Ta_closeText, RX5, [(0, .aload_n 0, 1), (1, .getfield 18, 3), (4, .getfield 125, 3), (7, .astore_n 1, 1), (8, .aload_n 0, 1), (9, .getfield 54, 3), (12, .iconst 1, 1), (13, .aload_n 1, 1), (14, .getfield 138, 3), (17, .ishl, 1), (18, .if_icmp .ge 7, 3), (21, .iconst 1, 1), (22, .goto 4, 3), (25, .iconst 0, 1), (26, .istore_n 2, 1), (27, .iconst 0, 1), (28, .istore_n 3, 1), (29, .iload_n 3, 1), (30, .aload_n 1, 1), (31, .getfield 138, 3), (34, .if_icmp .ge 43, 3), (37, .iload_n 2, 1), (38, .aload_n 1, 1), (39, .aload_n 1, 1), (40, .getfield 167, 3), (43, .iload_n 3, 1), (44, .iaload, 1), (45, .invokevirtual 171, 3), (48, .ifCond .eq 20, 3), (51, .aload_n 1, 1), (52, .aload_n 1, 1), (53, .getfield 175, 3), (56, .iload_n 3, 1), (57, .iaload, 1), (58, .invokevirtual 171, 3), (61, .ifCond .eq 7, 3), (64, .iconst 1, 1), (65, .goto 4, 3), (68, .iconst 0, 1), (69, .iand, 1), (70, .istore_n 2, 1), (71, .iinc 3 1, 3), (74, .goto (-45), 3), (77, .iconst 0, 1), (78, .istore_n 3, 1), (79, .iload_n 3, 1), (80, .aload_n 0, 1), (81, .getfield 18, 3), (84, .getfield 154, 3), (87, .if_icmp .ge 28, 3), (90, .iload_n 2, 1), (91, .aload_n 1, 1), (92, .aload_n 0, 1), (93, .getfield 18, 3), (96, .getfield 157, 3), (99, .iload_n 3, 1), (100, .aaload, 1), (101, .getfield 178, 3), (104, .invokevirtual 171, 3), (107, .iand, 1), (108, .istore_n 2, 1), (109, .iinc 3 1, 3), (112, .goto (-33), 3), (115, .iload_n 2, 1), (116, .ifCond .ne 14, 3), (119, .aload_n 0, 1), (120, .bipush 6, 2), (122, .aload_n 0, 1), (123, .getfield 22, 3), (126, .invokevirtual 77, 3), (129, .ireturn, 1), (130, .iconst 0, 1), (131, .istore_n 3, 1), (132, .iload_n 3, 1), (133, .aload_n 1, 1), (134, .getfield 138, 3), (137, .if_icmp .ge 26, 3), (140, .aload_n 0, 1), (141, .getfield 54, 3), (144, .iload_n 3, 1), (145, .ishr, 1), (146, .iconst 1, 1), (147, .iand, 1), (148, .ifCond .eq 9, 3), (151, .aload_n 1, 1), (152, .iload_n 3, 1), (153, .iconst 1, 1), (154, .invokevirtual 181, 3), (157, .iinc 3 1, 3), (160, .goto (-28), 3), (163, .iconst 1, 1), (164, .ireturn, 1)], [(18, 5, 1, 1183), (22, 5, 2, 1185), (54, 5, 12, 1199), (125, 2, 0, 1131), (138, 1, 2, 1061), (154, 2, 2, 1137), (157, 2, 1, 1134), (167, 1, 4, 1067), (175, 1, 5, 1072), (178, 9, 0, 1112)], [(77, K_Ta_refuse, 5, 2, [2237, 3000, 1006, 2239, 3]), (171, K_Ho_hasRoom, 1, 1, [3113, 3116, 1003, 3114, 3115]), (181, K_Ho_setWalled, 1, 2, [3117, 3120, 1003, 3118, 3119])], [], 0, fun _ => 0)
theorem ok_Ta_closeText : zOK M_Ta_closeText := zOK_of (by decide +kernel) (by decide +kernel)
def M_Ho_hasRoom : zMt := (K_Ho_hasRoom, RX1, [(0, .iload_n 1, 1), (1, .ifCond .lt 15, 3), (4, .iload_n 1, 1), (5, .aload_n 0, 1), (6, .getfield 9, 3), (9, .if_icmp .ge 7, 3), (12, .iconst 1, 1), (13, .goto 4, 3), (16, .iconst 0, 1), (17, .ireturn, 1)], [(9, 1, 0, 1041)], [], [], 0, fun _ => 0)
theorem ok_Ho_hasRoom : zOK M_Ho_hasRoom := zOK_of (by decide +kernel) (by decide +kernel)
def M_Ho_setWalled : zMt := (K_Ho_setWalled, RX1, [(0, .iconst 1, 1), (1, .iload_n 1, 1), (2, .ishl, 1), (3, .istore_n 3, 1), (4, .iload_n 2, 1), (5, .ifCond .eq 50, 3), (8, .aload_n 0, 1), (9, .dup, 1), (10, .getfield 21, 3), (13, .iload_n 3, 1), (14, .ior, 1), (15, .putfield 21, 3), (18, .aload_n 0, 1), (19, .getfield 34, 3), (22, .aload_n 0, 1), (23, .getfield 24, 3), (26, .iload_n 1, 1), (27, .iaload, 1), (28, .dup2, 1), (29, .iaload, 1), (30, .iload_n 3, 1), (31, .iconst (-1), 1), (32, .ixor, 1), (33, .iand, 1), (34, .iastore, 1), (35, .aload_n 0, 1), (36, .getfield 34, 3), (39, .aload_n 0, 1), (40, .getfield 28, 3), (43, .iload_n 1, 1), (44, .iaload, 1), (45, .dup2, 1), (46, .iaload, 1), (47, .iload_n 3, 1), (48, .iconst (-1), 1), (49, .ixor, 1), (50, .iand, 1), (51, .iastore, 1), (52, .goto 45, 3), (55, .aload_n 0, 1), (56, .dup, 1), (57, .getfield 21, 3), (60, .iload_n 3, 1), (61, .iconst (-1), 1), (62, .ixor, 1), (63, .iand, 1), (64, .putfield 21, 3), (67, .aload_n 0, 1), (68, .getfield 34, 3), (71, .aload_n 0, 1), (72, .getfield 24, 3), (75, .iload_n 1, 1), (76, .iaload, 1), (77, .dup2, 1), (78, .iaload, 1), (79, .iload_n 3, 1), (80, .ior, 1), (81, .iastore, 1), (82, .aload_n 0, 1), (83, .getfield 34, 3), (86, .aload_n 0, 1), (87, .getfield 28, 3), (90, .iload_n 1, 1), (91, .iaload, 1), (92, .dup2, 1), (93, .iaload, 1), (94, .iload_n 3, 1), (95, .ior, 1), (96, .iastore, 1), (97, .return_, 1)], [(21, 1, 3, 1062), (24, 1, 4, 1063), (28, 1, 5, 1068), (34, 1, 7, 1077)], [], [], 0, fun _ => 0)
theorem ok_Ho_setWalled : zOK M_Ho_setWalled := zOK_of (by decide +kernel) (by decide +kernel)
def M_Pa_take : zMt := (K_Pa_take, RX2, [(0, .aload_n 0, 1), (1, .getfield 12, 3), (4, .aload_n 1, 1), (5, .getfield 12, 3), (8, .invokevirtual 39, 3), (11, .aload_n 0, 1), (12, .aload_n 1, 1), (13, .getfield 25, 3), (16, .putfield 25, 3), (19, .iconst 0, 1), (20, .istore_n 2, 1), (21, .iload_n 2, 1), (22, .iconst 5, 1), (23, .if_icmp .ge 24, 3), (26, .aload_n 0, 1), (27, .getfield 21, 3), (30, .iload_n 2, 1), (31, .aaload, 1), (32, .aload_n 1, 1), (33, .getfield 21, 3), (36, .iload_n 2, 1), (37, .aaload, 1), (38, .invokevirtual 43, 3), (41, .iinc 2 1, 3), (44, .goto (-23), 3), (47, .aload_n 1, 1), (48, .getfield 29, 3), (51, .iconst 0, 1), (52, .aload_n 0, 1), (53, .getfield 29, 3), (56, .iconst 0, 1), (57, .bipush 12, 2), (59, .invokestatic 46, 3), (62, .aload_n 0, 1), (63, .aload_n 1, 1), (64, .getfield 33, 3), (67, .putfield 33, 3), (70, .return_, 1)], [(12, 2, 0, 1129), (21, 2, 1, 1132), (25, 2, 2, 1135), (29, 2, 3, 1138), (33, 2, 4, 1140)], [(39, K_Ho_take, 1, 1, [3125, 3128, 1003, 3126, 3127]), (43, K_Wa_take, 9, 1, [3132, 3135, 1004, 3133, 3134]), (46, K_Jd_fill, 101, 5, [3136, 3131, 3130, 1019])], [], 0, fun _ => 0)
theorem ok_Pa_take : zOK M_Pa_take := zOK_of (by decide +kernel) (by decide +kernel)
def M_Ho_take : zMt := (K_Ho_take, RX1, [(0, .aload_n 0, 1), (1, .aload_n 1, 1), (2, .getfield 9, 3), (5, .putfield 9, 3), (8, .aload_n 0, 1), (9, .aload_n 1, 1), (10, .getfield 15, 3), (13, .putfield 15, 3), (16, .aload_n 0, 1), (17, .aload_n 1, 1), (18, .getfield 18, 3), (21, .putfield 18, 3), (24, .aload_n 0, 1), (25, .aload_n 1, 1), (26, .getfield 21, 3), (29, .putfield 21, 3), (32, .aload_n 1, 1), (33, .getfield 24, 3), (36, .iconst 0, 1), (37, .aload_n 0, 1), (38, .getfield 24, 3), (41, .iconst 0, 1), (42, .bipush 14, 2), (44, .invokestatic 46, 3), (47, .aload_n 1, 1), (48, .getfield 28, 3), (51, .iconst 0, 1), (52, .aload_n 0, 1), (53, .getfield 28, 3), (56, .iconst 0, 1), (57, .bipush 14, 2), (59, .invokestatic 46, 3), (62, .aload_n 1, 1), (63, .getfield 31, 3), (66, .iconst 0, 1), (67, .aload_n 0, 1), (68, .getfield 31, 3), (71, .iconst 0, 1), (72, .bipush 14, 2), (74, .invokestatic 46, 3), (77, .aload_n 1, 1), (78, .getfield 34, 3), (81, .iconst 0, 1), (82, .aload_n 0, 1), (83, .getfield 34, 3), (86, .iconst 0, 1), (87, .bipush 10, 2), (89, .invokestatic 46, 3), (92, .aload_n 1, 1), (93, .getfield 37, 3), (96, .iconst 0, 1), (97, .aload_n 0, 1), (98, .getfield 37, 3), (101, .iconst 0, 1), (102, .iconst 4, 1), (103, .invokestatic 46, 3), (106, .return_, 1)], [(9, 1, 0, 1041), (15, 1, 1, 1046), (18, 1, 2, 1053), (21, 1, 3, 1062), (24, 1, 4, 1063), (28, 1, 5, 1068), (31, 1, 6, 1073), (34, 1, 7, 1077), (37, 1, 8, 1079)], [(46, K_Jd_fill, 101, 5, [3129, 3131, 3130, 1019])], [], 0, fun _ => 0)
theorem ok_Ho_take : zOK M_Ho_take := zOK_of (by decide +kernel) (by decide +kernel)
def M_Wa_take : zMt := (K_Wa_take, RX9, [(0, .aload_n 0, 1), (1, .aload_n 1, 1), (2, .getfield 9, 3), (5, .putfield 9, 3), (8, .aload_n 0, 1), (9, .aload_n 1, 1), (10, .getfield 15, 3), (13, .putfield 15, 3), (16, .aload_n 0, 1), (17, .aload_n 1, 1), (18, .getfield 18, 3), (21, .putfield 18, 3), (24, .return_, 1)], [(9, 9, 0, 1107), (15, 9, 1, 1113), (18, 9, 2, 1118)], [], [], 0, fun _ => 0)
theorem ok_Wa_take : zOK M_Wa_take := zOK_of (by decide +kernel) (by decide +kernel)
def M_Ho_hasDoor : zMt := (K_Ho_hasDoor, RX1, [(0, .iload_n 1, 1), (1, .ifCond .lt 15, 3), (4, .iload_n 1, 1), (5, .aload_n 0, 1), (6, .getfield 18, 3), (9, .if_icmp .ge 7, 3), (12, .iconst 1, 1), (13, .goto 4, 3), (16, .iconst 0, 1), (17, .ireturn, 1)], [(18, 1, 2, 1053)], [], [], 0, fun _ => 0)
theorem ok_Ho_hasDoor : zOK M_Ho_hasDoor := zOK_of (by decide +kernel) (by decide +kernel)
def M_Ho_isWalled : zMt := (K_Ho_isWalled, RX1, [(0, .aload_n 0, 1), (1, .getfield 21, 3), (4, .iload_n 1, 1), (5, .ishr, 1), (6, .iconst 1, 1), (7, .iand, 1), (8, .ifCond .eq 7, 3), (11, .iconst 1, 1), (12, .goto 4, 3), (15, .iconst 0, 1), (16, .ireturn, 1)], [(21, 1, 3, 1062)], [], [], 0, fun _ => 0)
theorem ok_Ho_isWalled : zOK M_Ho_isWalled := zOK_of (by decide +kernel) (by decide +kernel)
def M_Pa_hasOne : zMt := (K_Pa_hasOne, RX2, [(0, .iload_n 1, 1), (1, .ifCond .lt 15, 3), (4, .iload_n 1, 1), (5, .aload_n 0, 1), (6, .getfield 25, 3), (9, .if_icmp .ge 7, 3), (12, .iconst 1, 1), (13, .goto 4, 3), (16, .iconst 0, 1), (17, .ireturn, 1)], [(25, 2, 2, 1135)], [], [], 0, fun _ => 0)
theorem ok_Pa_hasOne : zOK M_Pa_hasOne := zOK_of (by decide +kernel) (by decide +kernel)
def M_Wa_choices : zMt := (K_Wa_choices, RX9, [(0, .aload_n 1, 1), (1, .aload_n 0, 1), (2, .getfield 9, 3), (5, .aload_n 0, 1), (6, .getfield 15, 3), (9, .aload_n 0, 1), (10, .getfield 18, 3), (13, .invokevirtual 21, 3), (16, .ireturn, 1)], [(9, 9, 0, 1107), (15, 9, 1, 1113), (18, 9, 2, 1118)], [(21, K_Ho_choices, 1, 3, [3172, 3175, 1003, 3173, 3174])], [], 0, fun _ => 0)
theorem ok_Wa_choices : zOK M_Wa_choices := zOK_of (by decide +kernel) (by decide +kernel)
def M_Ho_choices : zMt := (K_Ho_choices, RX1, [(0, .aload_n 0, 1), (1, .getfield 34, 3), (4, .iload_n 1, 1), (5, .iaload, 1), (6, .istore 4, 2), (8, .iload_n 2, 1), (9, .iconst (-1), 1), (10, .if_icmp .eq 11, 3), (13, .aload_n 0, 1), (14, .getfield 15, 3), (17, .iconst 3, 1), (18, .if_icmp .ne 6, 3), (21, .iload 4, 2), (23, .ireturn, 1), (24, .aload_n 0, 1), (25, .getfield 15, 3), (28, .iconst 2, 1), (29, .if_icmp .ne 20, 3), (32, .iload 4, 2), (34, .aload_n 0, 1), (35, .getfield 37, 3), (38, .aload_n 0, 1), (39, .getfield 31, 3), (42, .iload_n 2, 1), (43, .iaload, 1), (44, .iaload, 1), (45, .iconst (-1), 1), (46, .ixor, 1), (47, .iand, 1), (48, .ireturn, 1), (49, .iload 4, 2), (51, .iconst 1, 1), (52, .iload_n 2, 1), (53, .ishl, 1), (54, .iconst (-1), 1), (55, .ixor, 1), (56, .iand, 1), (57, .istore 4, 2), (59, .aload_n 0, 1), (60, .getfield 15, 3), (63, .iconst 1, 1), (64, .if_icmp .ne 19, 3), (67, .iload_n 3, 1), (68, .iconst (-1), 1), (69, .if_icmp .eq 14, 3), (72, .iload 4, 2), (74, .iconst 1, 1), (75, .iload_n 3, 1), (76, .ishl, 1), (77, .iconst (-1), 1), (78, .ixor, 1), (79, .iand, 1), (80, .goto 5, 3), (83, .iload 4, 2), (85, .ireturn, 1)], [(15, 1, 1, 1046), (31, 1, 6, 1073), (34, 1, 7, 1077), (37, 1, 8, 1079)], [], [], 0, fun _ => 0)
theorem ok_Ho_choices : zOK M_Ho_choices := zOK_of (by decide +kernel) (by decide +kernel)
def M_Wa_step : zMt := (K_Wa_step, RX9, [(0, .aload_n 1, 1), (1, .iload_n 2, 1), (2, .invokevirtual 27, 3), (5, .ifCond .eq 15, 3), (8, .aload_n 0, 1), (9, .aload_n 1, 1), (10, .invokevirtual 31, 3), (13, .iload_n 2, 1), (14, .ishr, 1), (15, .iconst 1, 1), (16, .iand, 1), (17, .ifCond .ne 5, 3), (20, .iconst 0, 1), (21, .ireturn, 1), (22, .aload_n 0, 1), (23, .aload_n 1, 1), (24, .iload_n 2, 1), (25, .aload_n 0, 1), (26, .getfield 9, 3), (29, .invokevirtual 34, 3), (32, .putfield 9, 3), (35, .aload_n 0, 1), (36, .aload_n 0, 1), (37, .getfield 15, 3), (40, .putfield 18, 3), (43, .aload_n 0, 1), (44, .iload_n 2, 1), (45, .putfield 15, 3), (48, .iconst 1, 1), (49, .ireturn, 1)], [(9, 9, 0, 1107), (15, 9, 1, 1113), (18, 9, 2, 1118)], [(27, K_Ho_hasDoor, 1, 1, [3208, 3152, 1003, 3150, 3151]), (31, K_Wa_choices, 9, 1, [3209, 3171, 1004, 3169, 3170]), (34, K_Ho_beyond, 1, 2, [3210, 3213, 1003, 3211, 3212])], [], 0, fun _ => 0)
theorem ok_Wa_step : zOK M_Wa_step := zOK_of (by decide +kernel) (by decide +kernel)
def M_Ho_beyond : zMt := (K_Ho_beyond, RX1, [(0, .aload_n 0, 1), (1, .getfield 24, 3), (4, .iload_n 1, 1), (5, .iaload, 1), (6, .iload_n 2, 1), (7, .if_icmp .ne 12, 3), (10, .aload_n 0, 1), (11, .getfield 28, 3), (14, .iload_n 1, 1), (15, .iaload, 1), (16, .goto 9, 3), (19, .aload_n 0, 1), (20, .getfield 24, 3), (23, .iload_n 1, 1), (24, .iaload, 1), (25, .ireturn, 1)], [(24, 1, 4, 1063), (28, 1, 5, 1068)], [], [], 0, fun _ => 0)
theorem ok_Ho_beyond : zOK M_Ho_beyond := zOK_of (by decide +kernel) (by decide +kernel)
def M_Wy_leastTo : zMt := (K_Wy_leastTo, RX10, [(0, .aload_n 0, 1), (1, .aload_n 1, 1), (2, .aload_n 2, 1), (3, .invokevirtual 37, 3), (6, .iconst 0, 1), (7, .istore 4, 2), (9, .iload 4, 2), (11, .aload_n 0, 1), (12, .getfield 30, 3), (15, .if_icmp .ge 41, 3), (18, .aload_n 0, 1), (19, .getfield 11, 3), (22, .iload 4, 2), (24, .iaload, 1), (25, .iload_n 3, 1), (26, .if_icmp .ne 17, 3), (29, .aload_n 0, 1), (30, .iload 4, 2), (32, .putfield 34, 3), (35, .aload_n 0, 1), (36, .getfield 24, 3), (39, .iload 4, 2), (41, .iaload, 1), (42, .ireturn, 1), (43, .aload_n 0, 1), (44, .aload_n 1, 1), (45, .iload 4, 2), (47, .invokevirtual 41, 3), (50, .iinc 4 1, 3), (53, .goto (-44), 3), (56, .bipush (-4), 2), (58, .ireturn, 1)], [(11, 10, 0, 1236), (24, 10, 4, 2000), (30, 10, 6, 2002), (34, 10, 7, 2003)], [(37, K_Wy_begin, 10, 2, [3222, 3225, 1007, 3224, 16]), (41, K_Wy_spread, 10, 2, [3231, 3234, 1007, 3233, 17])], [], 0, fun _ => 0)
theorem ok_Wy_leastTo : zOK M_Wy_leastTo := zOK_of (by decide +kernel) (by decide +kernel)
def M_Wy_begin : zMt := (K_Wy_begin, RX10, [(0, .aload_n 0, 1), (1, .getfield 27, 3), (4, .iconst 0, 1), (5, .invokestatic 45, 3), (8, .aload_n 0, 1), (9, .iconst 1, 1), (10, .putfield 30, 3), (13, .aload_n 0, 1), (14, .getfield 11, 3), (17, .iconst 0, 1), (18, .aload_n 2, 1), (19, .getfield 51, 3), (22, .iastore, 1), (23, .aload_n 0, 1), (24, .getfield 15, 3), (27, .iconst 0, 1), (28, .aload_n 2, 1), (29, .getfield 55, 3), (32, .iastore, 1), (33, .aload_n 0, 1), (34, .getfield 18, 3), (37, .iconst 0, 1), (38, .aload_n 1, 1), (39, .getfield 57, 3), (42, .iconst 1, 1), (43, .if_icmp .ne 10, 3), (46, .aload_n 2, 1), (47, .getfield 62, 3), (50, .goto 4, 3), (53, .iconst (-1), 1), (54, .iastore, 1), (55, .aload_n 0, 1), (56, .getfield 21, 3), (59, .iconst 0, 1), (60, .iconst 0, 1), (61, .iastore, 1), (62, .aload_n 0, 1), (63, .getfield 24, 3), (66, .iconst 0, 1), (67, .iconst 0, 1), (68, .iastore, 1), (69, .aload_n 2, 1), (70, .getfield 55, 3), (73, .iconst (-1), 1), (74, .if_icmp .eq 33, 3), (77, .aload_n 0, 1), (78, .getfield 27, 3), (81, .aload_n 1, 1), (82, .aload_n 2, 1), (83, .getfield 55, 3), (86, .aload_n 2, 1), (87, .getfield 51, 3), (90, .invokevirtual 64, 3), (93, .dup2, 1), (94, .iaload, 1), (95, .iconst 1, 1), (96, .aload_n 0, 1), (97, .getfield 18, 3), (100, .iconst 0, 1), (101, .iaload, 1), (102, .iconst 1, 1), (103, .iadd, 1), (104, .ishl, 1), (105, .ior, 1), (106, .iastore, 1), (107, .return_, 1)], [(11, 10, 0, 1236), (15, 10, 1, 1237), (18, 10, 2, 1238), (21, 10, 3, 1239), (24, 10, 4, 2000), (27, 10, 5, 2001), (30, 10, 6, 2002), (51, 9, 0, 1110), (55, 9, 1, 1116), (57, 1, 1, 1049), (62, 9, 2, 1120)], [(45, K_Jd_fill, 100, 2, [3226, 2224, 1014, 2223]), (64, K_Ho_sideAt, 1, 2, [3227, 3230, 1003, 3228, 3229])], [], 0, fun _ => 0)
theorem ok_Wy_begin : zOK M_Wy_begin := zOK_of (by decide +kernel) (by decide +kernel)
def M_Ho_sideAt : zMt := (K_Ho_sideAt, RX1, [(0, .aload_n 0, 1), (1, .getfield 24, 3), (4, .iload_n 1, 1), (5, .iaload, 1), (6, .iload_n 2, 1), (7, .if_icmp .ne 9, 3), (10, .iconst 2, 1), (11, .iload_n 1, 1), (12, .imul, 1), (13, .goto 8, 3), (16, .iconst 2, 1), (17, .iload_n 1, 1), (18, .imul, 1), (19, .iconst 1, 1), (20, .iadd, 1), (21, .ireturn, 1)], [(24, 1, 4, 1063)], [], [], 0, fun _ => 0)
theorem ok_Ho_sideAt : zOK M_Ho_sideAt := zOK_of (by decide +kernel) (by decide +kernel)
def M_Wy_spread : zMt := (K_Wy_spread, RX10, [(0, .aload_n 1, 1), (1, .aload_n 0, 1), (2, .getfield 11, 3), (5, .iload_n 2, 1), (6, .iaload, 1), (7, .aload_n 0, 1), (8, .getfield 15, 3), (11, .iload_n 2, 1), (12, .iaload, 1), (13, .aload_n 0, 1), (14, .getfield 18, 3), (17, .iload_n 2, 1), (18, .iaload, 1), (19, .invokevirtual 68, 3), (22, .istore_n 3, 1), (23, .aload_n 1, 1), (24, .getfield 57, 3), (27, .iconst 1, 1), (28, .if_icmp .ne 12, 3), (31, .aload_n 0, 1), (32, .getfield 15, 3), (35, .iload_n 2, 1), (36, .iaload, 1), (37, .goto 4, 3), (40, .iconst (-1), 1), (41, .istore 4, 2), (43, .iconst 1, 1), (44, .iload 4, 2), (46, .iconst 1, 1), (47, .iadd, 1), (48, .ishl, 1), (49, .istore 5, 2), (51, .iconst 0, 1), (52, .istore 6, 2), (54, .iload 6, 2), (56, .aload_n 1, 1), (57, .getfield 72, 3), (60, .if_icmp .ge 150, 3), (63, .iload_n 3, 1), (64, .iload 6, 2), (66, .ishr, 1), (67, .iconst 1, 1), (68, .iand, 1), (69, .ifCond .ne 6, 3), (72, .goto 132, 3), (75, .aload_n 1, 1), (76, .iload 6, 2), (78, .aload_n 0, 1), (79, .getfield 11, 3), (82, .iload_n 2, 1), (83, .iaload, 1), (84, .invokevirtual 73, 3), (87, .istore 7, 2), (89, .aload_n 0, 1), (90, .getfield 27, 3), (93, .iload 7, 2), (95, .iaload, 1), (96, .iload 5, 2), (98, .iand, 1), (99, .ifCond .ne 105, 3), (102, .aload_n 0, 1), (103, .getfield 30, 3), (106, .sipush 421, 3), (109, .if_icmp .ge 95, 3), (112, .aload_n 0, 1), (113, .getfield 27, 3), (116, .iload 7, 2), (118, .dup2, 1), (119, .iaload, 1), (120, .iload 5, 2), (122, .ior, 1), (123, .iastore, 1), (124, .aload_n 0, 1), (125, .getfield 11, 3), (128, .aload_n 0, 1), (129, .getfield 30, 3), (132, .aload_n 1, 1), (133, .iload 6, 2), (135, .aload_n 0, 1), (136, .getfield 11, 3), (139, .iload_n 2, 1), (140, .iaload, 1), (141, .invokevirtual 76, 3), (144, .iastore, 1), (145, .aload_n 0, 1), (146, .getfield 15, 3), (149, .aload_n 0, 1), (150, .getfield 30, 3), (153, .iload 6, 2), (155, .iastore, 1), (156, .aload_n 0, 1), (157, .getfield 18, 3), (160, .aload_n 0, 1), (161, .getfield 30, 3), (164, .iload 4, 2), (166, .iastore, 1), (167, .aload_n 0, 1), (168, .getfield 21, 3), (171, .aload_n 0, 1), (172, .getfield 30, 3), (175, .iload_n 2, 1), (176, .iastore, 1), (177, .aload_n 0, 1), (178, .getfield 24, 3), (181, .aload_n 0, 1), (182, .getfield 30, 3), (185, .aload_n 0, 1), (186, .getfield 24, 3), (189, .iload_n 2, 1), (190, .iaload, 1), (191, .iconst 1, 1), (192, .iadd, 1), (193, .iastore, 1), (194, .aload_n 0, 1), (195, .dup, 1), (196, .getfield 30, 3), (199, .iconst 1, 1), (200, .iadd, 1), (201, .putfield 30, 3), (204, .iinc 6 1, 3), (207, .goto (-153), 3), (210, .return_, 1)], [(11, 10, 0, 1236), (15, 10, 1, 1237), (18, 10, 2, 1238), (21, 10, 3, 1239), (24, 10, 4, 2000), (27, 10, 5, 2001), (30, 10, 6, 2002), (57, 1, 1, 1049), (72, 1, 2, 1058)], [(68, K_Ho_choices, 1, 3, [3235, 3175, 1003, 3173, 3174]), (73, K_Ho_sideBeyond, 1, 2, [3236, 3239, 1003, 3237, 3238]), (76, K_Ho_beyond, 1, 2, [4000, 3213, 1003, 3211, 3212])], [], 0, fun _ => 0)
theorem ok_Wy_spread : zOK M_Wy_spread := zOK_of (by decide +kernel) (by decide +kernel)
def M_Ho_sideBeyond : zMt := (K_Ho_sideBeyond, RX1, [(0, .aload_n 0, 1), (1, .getfield 24, 3), (4, .iload_n 1, 1), (5, .iaload, 1), (6, .iload_n 2, 1), (7, .if_icmp .ne 11, 3), (10, .iconst 2, 1), (11, .iload_n 1, 1), (12, .imul, 1), (13, .iconst 1, 1), (14, .iadd, 1), (15, .goto 6, 3), (18, .iconst 2, 1), (19, .iload_n 1, 1), (20, .imul, 1), (21, .ireturn, 1)], [(24, 1, 4, 1063)], [], [], 0, fun _ => 0)
theorem ok_Ho_sideBeyond : zOK M_Ho_sideBeyond := zOK_of (by decide +kernel) (by decide +kernel)
def M_Wy_stepOf : zMt := (K_Wy_stepOf, RX10, [(0, .aload_n 0, 1), (1, .getfield 34, 3), (4, .istore_n 2, 1), (5, .aload_n 0, 1), (6, .getfield 24, 3), (9, .aload_n 0, 1), (10, .getfield 34, 3), (13, .iaload, 1), (14, .iconst 1, 1), (15, .isub, 1), (16, .iload_n 1, 1), (17, .isub, 1), (18, .istore_n 3, 1), (19, .iload_n 3, 1), (20, .ifCond .le 16, 3), (23, .aload_n 0, 1), (24, .getfield 21, 3), (27, .iload_n 2, 1), (28, .iaload, 1), (29, .istore_n 2, 1), (30, .iinc 3 (-1), 3), (33, .goto (-14), 3), (36, .aload_n 0, 1), (37, .getfield 15, 3), (40, .iload_n 2, 1), (41, .iaload, 1), (42, .ireturn, 1)], [(15, 10, 1, 1237), (21, 10, 3, 1239), (24, 10, 4, 2000), (34, 10, 7, 2003)], [], [], 0, fun _ => 0)
theorem ok_Wy_stepOf : zOK M_Wy_stepOf := zOK_of (by decide +kernel) (by decide +kernel)
def M_Wy_roomsOf : zMt := (K_Wy_roomsOf, RX10, [(0, .iconst 0, 1), (1, .istore_n 3, 1), (2, .aload_n 0, 1), (3, .aload_n 1, 1), (4, .aload_n 2, 1), (5, .invokevirtual 37, 3), (8, .iconst 0, 1), (9, .istore 4, 2), (11, .iload 4, 2), (13, .aload_n 0, 1), (14, .getfield 30, 3), (17, .if_icmp .ge 28, 3), (20, .iload_n 3, 1), (21, .iconst 1, 1), (22, .aload_n 0, 1), (23, .getfield 11, 3), (26, .iload 4, 2), (28, .iaload, 1), (29, .ishl, 1), (30, .ior, 1), (31, .istore_n 3, 1), (32, .aload_n 0, 1), (33, .aload_n 1, 1), (34, .iload 4, 2), (36, .invokevirtual 41, 3), (39, .iinc 4 1, 3), (42, .goto (-31), 3), (45, .iload_n 3, 1), (46, .ireturn, 1)], [(11, 10, 0, 1236), (30, 10, 6, 2002)], [(37, K_Wy_begin, 10, 2, [3222, 3225, 1007, 3224, 16]), (41, K_Wy_spread, 10, 2, [3231, 3234, 1007, 3233, 17])], [], 0, fun _ => 0)
theorem ok_Wy_roomsOf : zOK M_Wy_roomsOf := zOK_of (by decide +kernel) (by decide +kernel)
def M_Bu_pairsOf : zMt := (K_Bu_pairsOf, RX0, [(0, .aload_n 0, 1), (1, .aload_n 1, 1), (2, .invokevirtual 27, 3), (5, .iconst 0, 1), (6, .istore_n 2, 1), (7, .iconst 0, 1), (8, .istore_n 3, 1), (9, .iload_n 3, 1), (10, .aload_n 1, 1), (11, .getfield 31, 3), (14, .if_icmp .ge 24, 3), (17, .iload_n 2, 1), (18, .aload_n 0, 1), (19, .iload_n 3, 1), (20, .bipush (-4), 2), (22, .invokevirtual 36, 3), (25, .invokestatic 40, 3), (28, .iconst 1, 1), (29, .isub, 1), (30, .iadd, 1), (31, .istore_n 2, 1), (32, .iinc 3 1, 3), (35, .goto (-26), 3), (38, .iload_n 2, 1), (39, .ireturn, 1)], [(31, 1, 0, 1042)], [(27, K_Bu_spreadNew, 0, 1, [4029, 4032, 1011, 4031, 18]), (36, K_Bu_comersTo, 0, 2, [4039, 4042, 1011, 4041, 20]), (40, K_Jd_bitCount, 100, 1, [4043, 4045, 1020, 4044])], [], 0, fun _ => 0)
theorem ok_Bu_pairsOf : zOK M_Bu_pairsOf := zOK_of (by decide +kernel) (by decide +kernel)
def M_Bu_spreadNew : zMt := (K_Bu_spreadNew, RX0, [(0, .iconst 0, 1), (1, .istore_n 2, 1), (2, .iload_n 2, 1), (3, .iconst 4, 1), (4, .if_icmp .ge 19, 3), (7, .aload_n 0, 1), (8, .getfield 11, 3), (11, .iload_n 2, 1), (12, .aaload, 1), (13, .iconst 0, 1), (14, .invokestatic 46, 3), (17, .iinc 2 1, 3), (20, .goto (-18), 3), (23, .iconst 1, 1), (24, .istore_n 2, 1), (25, .iconst 0, 1), (26, .istore_n 3, 1), (27, .iload_n 3, 1), (28, .sipush 400, 3), (31, .if_icmp .gt 90, 3), (34, .iload_n 2, 1), (35, .ifCond .eq 86, 3), (38, .iconst 0, 1), (39, .istore_n 2, 1), (40, .iconst 0, 1), (41, .istore 4, 2), (43, .iload 4, 2), (45, .aload_n 1, 1), (46, .getfield 52, 3), (49, .if_icmp .ge 66, 3), (52, .aload_n 1, 1), (53, .iload 4, 2), (55, .invokevirtual 55, 3), (58, .ifCond .ne 51, 3), (61, .iload_n 2, 1), (62, .aload_n 0, 1), (63, .aload_n 1, 1), (64, .iload 4, 2), (66, .aload_n 1, 1), (67, .getfield 59, 3), (70, .iload 4, 2), (72, .iaload, 1), (73, .aload_n 1, 1), (74, .getfield 62, 3), (77, .iload 4, 2), (79, .iaload, 1), (80, .invokevirtual 65, 3), (83, .ior, 1), (84, .istore_n 2, 1), (85, .iload_n 2, 1), (86, .aload_n 0, 1), (87, .aload_n 1, 1), (88, .iload 4, 2), (90, .aload_n 1, 1), (91, .getfield 62, 3), (94, .iload 4, 2), (96, .iaload, 1), (97, .aload_n 1, 1), (98, .getfield 59, 3), (101, .iload 4, 2), (103, .iaload, 1), (104, .invokevirtual 65, 3), (107, .ior, 1), (108, .istore_n 2, 1), (109, .iinc 4 1, 3), (112, .goto (-69), 3), (115, .iinc 3 1, 3), (118, .goto (-91), 3), (121, .return_, 1)], [(11, 0, 0, 2112), (52, 1, 2, 1057), (59, 1, 4, 1064), (62, 1, 5, 1069)], [(46, K_Jd_fill, 100, 2, [4033, 2224, 1014, 2223]), (55, K_Ho_isWalled, 1, 1, [4034, 3156, 1003, 3154, 3155]), (65, K_Bu_enterBy, 0, 4, [4035, 4038, 1011, 4037, 19])], [], 0, fun _ => 0)
theorem ok_Bu_spreadNew : zOK M_Bu_spreadNew := zOK_of (by decide +kernel) (by decide +kernel)
def M_Bu_enterBy : zMt := (K_Bu_enterBy, RX0, [(0, .aload_n 1, 1), (1, .getfield 69, 3), (4, .iload_n 2, 1), (5, .iaload, 1), (6, .istore 5, 2), (8, .aload_n 0, 1), (9, .iload_n 3, 1), (10, .aload_n 1, 1), (11, .getfield 72, 3), (14, .iconst 2, 1), (15, .if_icmp .ne 8, 3), (18, .iload 5, 2), (20, .goto 5, 3), (23, .bipush (-4), 2), (25, .invokevirtual 36, 3), (28, .aload_n 0, 1), (29, .getfield 11, 3), (32, .iload 5, 2), (34, .aaload, 1), (35, .iload 4, 2), (37, .iaload, 1), (38, .iconst (-1), 1), (39, .ixor, 1), (40, .iand, 1), (41, .istore 6, 2), (43, .aload_n 0, 1), (44, .getfield 11, 3), (47, .iload 5, 2), (49, .aaload, 1), (50, .iload 4, 2), (52, .dup2, 1), (53, .iaload, 1), (54, .iload 6, 2), (56, .ior, 1), (57, .iastore, 1), (58, .iload 6, 2), (60, .ifCond .eq 7, 3), (63, .iconst 1, 1), (64, .goto 4, 3), (67, .iconst 0, 1), (68, .ireturn, 1)], [(11, 0, 0, 2112), (69, 1, 6, 1075), (72, 1, 1, 1048)], [(36, K_Bu_comersTo, 0, 2, [4039, 4042, 1011, 4041, 20])], [], 0, fun _ => 0)
theorem ok_Bu_enterBy : zOK M_Bu_enterBy := zOK_of (by decide +kernel) (by decide +kernel)
def M_Bu_comersTo : zMt := (K_Bu_comersTo, RX0, [(0, .iconst 1, 1), (1, .iload_n 1, 1), (2, .ishl, 1), (3, .istore_n 3, 1), (4, .iconst 0, 1), (5, .istore 4, 2), (7, .iload 4, 2), (9, .iconst 4, 1), (10, .if_icmp .ge 31, 3), (13, .iload_n 3, 1), (14, .iload 4, 2), (16, .iload_n 2, 1), (17, .if_icmp .ne 7, 3), (20, .iconst 0, 1), (21, .goto 12, 3), (24, .aload_n 0, 1), (25, .getfield 11, 3), (28, .iload 4, 2), (30, .aaload, 1), (31, .iload_n 1, 1), (32, .iaload, 1), (33, .ior, 1), (34, .istore_n 3, 1), (35, .iinc 4 1, 3), (38, .goto (-31), 3), (41, .iload_n 3, 1), (42, .ireturn, 1)], [(11, 0, 0, 2112)], [], [], 0, fun _ => 0)
theorem ok_Bu_comersTo : zOK M_Bu_comersTo := zOK_of (by decide +kernel) (by decide +kernel)
def M_Jd_bitCount : zMt := (K_Jd_bitCount, RJ6, [(0, .iload_n 0, 1), (1, .iload_n 0, 1), (2, .iconst 1, 1), (3, .iushr, 1), (4, .ldc_w 265, 3), (7, .iand, 1), (8, .isub, 1), (9, .istore_n 0, 1), (10, .iload_n 0, 1), (11, .ldc_w 266, 3), (14, .iand, 1), (15, .iload_n 0, 1), (16, .iconst 2, 1), (17, .iushr, 1), (18, .ldc_w 266, 3), (21, .iand, 1), (22, .iadd, 1), (23, .istore_n 0, 1), (24, .iload_n 0, 1), (25, .iload_n 0, 1), (26, .iconst 4, 1), (27, .iushr, 1), (28, .iadd, 1), (29, .ldc_w 267, 3), (32, .iand, 1), (33, .istore_n 0, 1), (34, .iload_n 0, 1), (35, .iload_n 0, 1), (36, .bipush 8, 2), (38, .iushr, 1), (39, .iadd, 1), (40, .istore_n 0, 1), (41, .iload_n 0, 1), (42, .iload_n 0, 1), (43, .bipush 16, 2), (45, .iushr, 1), (46, .iadd, 1), (47, .istore_n 0, 1), (48, .iload_n 0, 1), (49, .bipush 63, 2), (51, .iand, 1), (52, .ireturn, 1)], [], [], [(265, 0, 1431655765, 4046), (266, 0, 858993459, 4047), (267, 0, 252645135, 4048)], 0, fun _ => 0)
theorem ok_Jd_bitCount : zOK M_Jd_bitCount := zOK_of (by decide +kernel) (by decide +kernel)
def M_Ho_isForLife : zMt := (K_Ho_isForLife, RX1, [(0, .iconst 0, 1), (1, .istore_n 2, 1), (2, .iload_n 2, 1), (3, .aload_n 0, 1), (4, .getfield 18, 3), (7, .if_icmp .ge 34, 3), (10, .aload_n 0, 1), (11, .getfield 34, 3), (14, .iload_n 1, 1), (15, .iaload, 1), (16, .iload_n 2, 1), (17, .ishr, 1), (18, .iconst 1, 1), (19, .iand, 1), (20, .ifCond .eq 15, 3), (23, .aload_n 0, 1), (24, .iload_n 1, 1), (25, .iload_n 2, 1), (26, .iconst (-1), 1), (27, .invokevirtual 58, 3), (30, .ifCond .ne 5, 3), (33, .iconst 1, 1), (34, .ireturn, 1), (35, .iinc 2 1, 3), (38, .goto (-36), 3), (41, .iconst 0, 1), (42, .ireturn, 1)], [(18, 1, 2, 1053), (34, 1, 7, 1077)], [(58, K_Ho_choices, 1, 3, [4057, 3175, 1003, 3173, 3174])], [], 0, fun _ => 0)
theorem ok_Ho_isForLife : zOK M_Ho_isForLife := zOK_of (by decide +kernel) (by decide +kernel)
def M_Ho_isOf : zMt := (K_Ho_isOf, RX1, [(0, .aload_n 0, 1), (1, .getfield 24, 3), (4, .iload_n 1, 1), (5, .iaload, 1), (6, .iload_n 2, 1), (7, .if_icmp .eq 13, 3), (10, .aload_n 0, 1), (11, .getfield 28, 3), (14, .iload_n 1, 1), (15, .iaload, 1), (16, .iload_n 2, 1), (17, .if_icmp .ne 7, 3), (20, .iconst 1, 1), (21, .goto 4, 3), (24, .iconst 0, 1), (25, .ireturn, 1)], [(24, 1, 4, 1063), (28, 1, 5, 1068)], [], [], 0, fun _ => 0)
theorem ok_Ho_isOf : zOK M_Ho_isOf := zOK_of (by decide +kernel) (by decide +kernel)
def M_Ho_losing : zMt := (K_Ho_losing, RX1, [(0, .iconst 0, 1), (1, .istore_n 1, 1), (2, .iconst 0, 1), (3, .istore_n 2, 1), (4, .iload_n 2, 1), (5, .aload_n 0, 1), (6, .getfield 9, 3), (9, .if_icmp .ge 39, 3), (12, .aload_n 0, 1), (13, .iload_n 2, 1), (14, .invokevirtual 62, 3), (17, .ifCond .ne 19, 3), (20, .aload_n 0, 1), (21, .getfield 15, 3), (24, .iconst 1, 1), (25, .if_icmp .ne 17, 3), (28, .aload_n 0, 1), (29, .iload_n 2, 1), (30, .invokevirtual 66, 3), (33, .ifCond .eq 9, 3), (36, .iload_n 1, 1), (37, .iconst 1, 1), (38, .iload_n 2, 1), (39, .ishl, 1), (40, .ior, 1), (41, .istore_n 1, 1), (42, .iinc 2 1, 3), (45, .goto (-41), 3), (48, .iload_n 1, 1), (49, .ireturn, 1)], [(9, 1, 0, 1041), (15, 1, 1, 1046)], [(62, K_Ho_isForLife, 1, 1, [4079, 4056, 1003, 4054, 4055]), (66, K_Ho_losesBySecond, 1, 1, [4080, 4083, 1003, 4082, 21])], [], 0, fun _ => 0)
theorem ok_Ho_losing : zOK M_Ho_losing := zOK_of (by decide +kernel) (by decide +kernel)
def M_Ho_losesBySecond : zMt := (K_Ho_losesBySecond, RX1, [(0, .iconst 0, 1), (1, .istore_n 2, 1), (2, .iload_n 2, 1), (3, .aload_n 0, 1), (4, .getfield 18, 3), (7, .if_icmp .ge 33, 3), (10, .aload_n 0, 1), (11, .getfield 34, 3), (14, .iload_n 1, 1), (15, .iaload, 1), (16, .iload_n 2, 1), (17, .ishr, 1), (18, .iconst 1, 1), (19, .iand, 1), (20, .ifCond .eq 14, 3), (23, .aload_n 0, 1), (24, .iload_n 1, 1), (25, .iload_n 2, 1), (26, .invokevirtual 69, 3), (29, .ifCond .eq 5, 3), (32, .iconst 1, 1), (33, .ireturn, 1), (34, .iinc 2 1, 3), (37, .goto (-35), 3), (40, .iconst 0, 1), (41, .ireturn, 1)], [(18, 1, 2, 1053), (34, 1, 7, 1077)], [(69, K_Ho_losesBehind, 1, 2, [4084, 4087, 1003, 4086, 22])], [], 0, fun _ => 0)
theorem ok_Ho_losesBySecond : zOK M_Ho_losesBySecond := zOK_of (by decide +kernel) (by decide +kernel)
def M_Ho_losesBehind : zMt := (K_Ho_losesBehind, RX1, [(0, .aload_n 0, 1), (1, .getfield 34, 3), (4, .aload_n 0, 1), (5, .iload_n 2, 1), (6, .iload_n 1, 1), (7, .invokevirtual 73, 3), (10, .iaload, 1), (11, .iconst 1, 1), (12, .iload_n 2, 1), (13, .ishl, 1), (14, .iconst (-1), 1), (15, .ixor, 1), (16, .iand, 1), (17, .istore_n 3, 1), (18, .iconst 0, 1), (19, .istore 4, 2), (21, .iload 4, 2), (23, .aload_n 0, 1), (24, .getfield 18, 3), (27, .if_icmp .ge 31, 3), (30, .iload_n 3, 1), (31, .iload 4, 2), (33, .ishr, 1), (34, .iconst 1, 1), (35, .iand, 1), (36, .ifCond .eq 16, 3), (39, .aload_n 0, 1), (40, .iload_n 1, 1), (41, .iload_n 2, 1), (42, .iload 4, 2), (44, .invokevirtual 58, 3), (47, .ifCond .ne 5, 3), (50, .iconst 1, 1), (51, .ireturn, 1), (52, .iinc 4 1, 3), (55, .goto (-34), 3), (58, .iconst 0, 1), (59, .ireturn, 1)], [(18, 1, 2, 1053), (34, 1, 7, 1077)], [(58, K_Ho_choices, 1, 3, [4057, 3175, 1003, 3173, 3174]), (73, K_Ho_beyond, 1, 2, [4088, 3213, 1003, 3211, 3212])], [], 0, fun _ => 0)
theorem ok_Ho_losesBehind : zOK M_Ho_losesBehind := zOK_of (by decide +kernel) (by decide +kernel)
def M_Ro_least : zMt := (K_Ro_least, RX3, [(0, .aload_n 0, 1), (1, .aload_n 2, 1), (2, .getfield 36, 3), (5, .iload_n 3, 1), (6, .invokevirtual 41, 3), (9, .aload_n 0, 1), (10, .getfield 9, 3), (13, .aload_n 0, 1), (14, .getfield 29, 3), (17, .iaload, 1), (18, .ifCond .ge 7, 3), (21, .iconst 0, 1), (22, .goto 14, 3), (25, .iconst 1, 1), (26, .aload_n 0, 1), (27, .getfield 9, 3), (30, .aload_n 0, 1), (31, .getfield 29, 3), (34, .iaload, 1), (35, .ishl, 1), (36, .istore 4, 2), (38, .iload 4, 2), (40, .aload_n 0, 1), (41, .getfield 33, 3), (44, .if_icmp .ne 5, 3), (47, .iconst 0, 1), (48, .ireturn, 1), (49, .aload_n 1, 1), (50, .getfield 45, 3), (53, .iconst 1, 1), (54, .if_icmp .ne 10, 3), (57, .aload_n 2, 1), (58, .getfield 50, 3), (61, .goto 4, 3), (64, .iconst (-1), 1), (65, .istore 5, 2), (67, .aload_n 2, 1), (68, .getfield 53, 3), (71, .iconst (-1), 1), (72, .if_icmp .ne 9, 3), (75, .sipush 420, 3), (78, .goto 23, 3), (81, .aload_n 1, 1), (82, .aload_n 2, 1), (83, .getfield 53, 3), (86, .aload_n 0, 1), (87, .getfield 29, 3), (90, .invokevirtual 56, 3), (93, .bipush 15, 2), (95, .imul, 1), (96, .iload 5, 2), (98, .iadd, 1), (99, .iconst 1, 1), (100, .iadd, 1), (101, .istore 6, 2), (103, .aload_n 0, 1), (104, .iconst 0, 1), (105, .iload 6, 2), (107, .iconst 1, 1), (108, .iload 4, 2), (110, .ishl, 1), (111, .invokevirtual 60, 3), (114, .iconst 1, 1), (115, .istore 7, 2), (117, .iload 7, 2), (119, .sipush 13472, 3), (122, .if_icmp .gt 38, 3), (125, .aload_n 0, 1), (126, .getfield 26, 3), (129, .iload 7, 2), (131, .iconst 1, 1), (132, .isub, 1), (133, .iconst 1, 1), (134, .iand, 1), (135, .iaload, 1), (136, .ifCond .le 24, 3), (139, .aload_n 0, 1), (140, .aload_n 1, 1), (141, .iload 7, 2), (143, .iconst 1, 1), (144, .iand, 1), (145, .invokevirtual 64, 3), (148, .ifCond .eq 6, 3), (151, .iload 7, 2), (153, .ireturn, 1), (154, .iinc 7 1, 3), (157, .goto (-40), 3), (160, .bipush (-4), 2), (162, .ireturn, 1)], [(9, 3, 0, 2029), (26, 3, 4, 2033), (29, 3, 5, 2034), (33, 3, 6, 2035), (36, 9, 0, 1108), (45, 1, 1, 1047), (50, 9, 2, 1119), (53, 9, 1, 1114)], [(41, K_Ro_begin, 3, 2, [4098, 4101, 1008, 4100, 23]), (56, K_Ho_sideAt, 1, 2, [4103, 3230, 1003, 3228, 3229]), (60, K_Ro_put, 3, 3, [4104, 4107, 1008, 4106, 24]), (64, K_Ro_spreadLevel, 3, 2, [4108, 4111, 1008, 4110, 25])], [], 0, fun _ => 0)
theorem ok_Ro_least : zOK M_Ro_least := zOK_of (by decide +kernel) (by decide +kernel)
def M_Ro_begin : zMt := (K_Ro_begin, RX3, [(0, .aload_n 0, 1), (1, .iload_n 1, 1), (2, .putfield 29, 3), (5, .iconst 0, 1), (6, .istore_n 3, 1), (7, .iconst 0, 1), (8, .istore 4, 2), (10, .iload 4, 2), (12, .bipush 10, 2), (14, .if_icmp .ge 61, 3), (17, .iload_n 2, 1), (18, .iload 4, 2), (20, .ishr, 1), (21, .iconst 1, 1), (22, .iand, 1), (23, .ifCond .eq 12, 3), (26, .iload_n 3, 1), (27, .iconst 5, 1), (28, .if_icmp .ge 7, 3), (31, .iconst 1, 1), (32, .goto 4, 3), (35, .iconst 0, 1), (36, .istore 5, 2), (38, .aload_n 0, 1), (39, .getfield 9, 3), (42, .iload 4, 2), (44, .iload 5, 2), (46, .ifCond .eq 7, 3), (49, .iload_n 3, 1), (50, .goto 5, 3), (53, .bipush (-4), 2), (55, .iastore, 1), (56, .iload_n 3, 1), (57, .iload 5, 2), (59, .ifCond .eq 7, 3), (62, .iconst 1, 1), (63, .goto 4, 3), (66, .iconst 0, 1), (67, .iadd, 1), (68, .istore_n 3, 1), (69, .iinc 4 1, 3), (72, .goto (-62), 3), (75, .aload_n 0, 1), (76, .iconst 1, 1), (77, .iload_n 3, 1), (78, .ishl, 1), (79, .iconst 1, 1), (80, .isub, 1), (81, .putfield 33, 3), (84, .aload_n 0, 1), (85, .getfield 15, 3), (88, .iconst 0, 1), (89, .invokestatic 68, 3), (92, .aload_n 0, 1), (93, .getfield 20, 3), (96, .iconst 0, 1), (97, .aaload, 1), (98, .iconst 0, 1), (99, .invokestatic 68, 3), (102, .aload_n 0, 1), (103, .getfield 20, 3), (106, .iconst 1, 1), (107, .aaload, 1), (108, .iconst 0, 1), (109, .invokestatic 68, 3), (112, .aload_n 0, 1), (113, .getfield 26, 3), (116, .iconst 0, 1), (117, .iconst 0, 1), (118, .iastore, 1), (119, .aload_n 0, 1), (120, .getfield 26, 3), (123, .iconst 1, 1), (124, .iconst 0, 1), (125, .iastore, 1), (126, .return_, 1)], [(9, 3, 0, 2029), (15, 3, 1, 2030), (20, 3, 2, 2031), (26, 3, 4, 2033), (29, 3, 5, 2034), (33, 3, 6, 2035)], [(68, K_Jd_fill, 100, 2, [4102, 2224, 1014, 2223])], [], 0, fun _ => 0)
theorem ok_Ro_begin : zOK M_Ro_begin := zOK_of (by decide +kernel) (by decide +kernel)
def M_Ro_put : zMt := (K_Ro_put, RX3, [(0, .iload_n 3, 1), (1, .aload_n 0, 1), (2, .getfield 15, 3), (5, .iload_n 2, 1), (6, .iaload, 1), (7, .iconst (-1), 1), (8, .ixor, 1), (9, .iand, 1), (10, .istore 4, 2), (12, .iload 4, 2), (14, .ifCond .ne 4, 3), (17, .return_, 1), (18, .aload_n 0, 1), (19, .getfield 20, 3), (22, .iload_n 1, 1), (23, .aaload, 1), (24, .iload_n 2, 1), (25, .iaload, 1), (26, .ifCond .ne 27, 3), (29, .aload_n 0, 1), (30, .getfield 23, 3), (33, .iload_n 1, 1), (34, .aaload, 1), (35, .aload_n 0, 1), (36, .getfield 26, 3), (39, .iload_n 1, 1), (40, .iaload, 1), (41, .iload_n 2, 1), (42, .iastore, 1), (43, .aload_n 0, 1), (44, .getfield 26, 3), (47, .iload_n 1, 1), (48, .dup2, 1), (49, .iaload, 1), (50, .iconst 1, 1), (51, .iadd, 1), (52, .iastore, 1), (53, .aload_n 0, 1), (54, .getfield 20, 3), (57, .iload_n 1, 1), (58, .aaload, 1), (59, .iload_n 2, 1), (60, .dup2, 1), (61, .iaload, 1), (62, .iload 4, 2), (64, .ior, 1), (65, .iastore, 1), (66, .aload_n 0, 1), (67, .getfield 15, 3), (70, .iload_n 2, 1), (71, .dup2, 1), (72, .iaload, 1), (73, .iload 4, 2), (75, .ior, 1), (76, .iastore, 1), (77, .return_, 1)], [(15, 3, 1, 2030), (20, 3, 2, 2031), (23, 3, 3, 2032), (26, 3, 4, 2033)], [], [], 0, fun _ => 0)
theorem ok_Ro_put : zOK M_Ro_put := zOK_of (by decide +kernel) (by decide +kernel)
def M_Ro_spreadLevel : zMt := (K_Ro_spreadLevel, RX3, [(0, .iconst 1, 1), (1, .iload_n 2, 1), (2, .isub, 1), (3, .istore_n 3, 1), (4, .aload_n 0, 1), (5, .getfield 26, 3), (8, .iload_n 2, 1), (9, .iconst 0, 1), (10, .iastore, 1), (11, .iconst 0, 1), (12, .istore 4, 2), (14, .iconst 0, 1), (15, .istore 5, 2), (17, .iload 5, 2), (19, .aload_n 0, 1), (20, .getfield 26, 3), (23, .iload_n 3, 1), (24, .iaload, 1), (25, .if_icmp .ge 56, 3), (28, .aload_n 0, 1), (29, .getfield 23, 3), (32, .iload_n 3, 1), (33, .aaload, 1), (34, .iload 5, 2), (36, .iaload, 1), (37, .istore 6, 2), (39, .aload_n 0, 1), (40, .getfield 20, 3), (43, .iload_n 3, 1), (44, .aaload, 1), (45, .iload 6, 2), (47, .iaload, 1), (48, .istore 7, 2), (50, .aload_n 0, 1), (51, .getfield 20, 3), (54, .iload_n 3, 1), (55, .aaload, 1), (56, .iload 6, 2), (58, .iconst 0, 1), (59, .iastore, 1), (60, .iload 4, 2), (62, .aload_n 0, 1), (63, .aload_n 1, 1), (64, .iload_n 2, 1), (65, .iload 6, 2), (67, .iload 7, 2), (69, .invokevirtual 74, 3), (72, .ior, 1), (73, .istore 4, 2), (75, .iinc 5 1, 3), (78, .goto (-61), 3), (81, .iload 4, 2), (83, .ireturn, 1)], [(20, 3, 2, 2031), (23, 3, 3, 2032), (26, 3, 4, 2033)], [(74, K_Ro_spread, 3, 4, [4112, 4115, 1008, 4114, 26])], [], 0, fun _ => 0)
theorem ok_Ro_spreadLevel : zOK M_Ro_spreadLevel := zOK_of (by decide +kernel) (by decide +kernel)
def M_Ro_spread : zMt := (K_Ro_spread, RX3, [(0, .iload_n 3, 1), (1, .sipush 420, 3), (4, .if_icmp .ne 7, 3), (7, .iconst 1, 1), (8, .goto 4, 3), (11, .iconst 0, 1), (12, .istore 5, 2), (14, .iload_n 3, 1), (15, .bipush 15, 2), (17, .idiv, 1), (18, .istore 6, 2), (20, .iload 5, 2), (22, .ifCond .eq 10, 3), (25, .aload_n 0, 1), (26, .getfield 29, 3), (29, .goto 9, 3), (32, .aload_n 1, 1), (33, .iload 6, 2), (35, .invokevirtual 78, 3), (38, .istore 7, 2), (40, .iload 5, 2), (42, .ifCond .eq 7, 3), (45, .iconst (-1), 1), (46, .goto 7, 3), (49, .iload 6, 2), (51, .iconst 1, 1), (52, .ishr, 1), (53, .istore 8, 2), (55, .iload 5, 2), (57, .ifCond .eq 7, 3), (60, .iconst (-1), 1), (61, .goto 9, 3), (64, .iload_n 3, 1), (65, .bipush 15, 2), (67, .irem, 1), (68, .iconst 1, 1), (69, .isub, 1), (70, .istore 9, 2), (72, .aload_n 1, 1), (73, .iload 7, 2), (75, .iload 8, 2), (77, .iload 9, 2), (79, .invokevirtual 82, 3), (82, .istore 10, 2), (84, .aload_n 1, 1), (85, .getfield 45, 3), (88, .iconst 1, 1), (89, .if_icmp .ne 8, 3), (92, .iload 8, 2), (94, .goto 4, 3), (97, .iconst (-1), 1), (98, .istore 11, 2), (100, .iconst 0, 1), (101, .istore 12, 2), (103, .iconst 0, 1), (104, .istore 13, 2), (106, .iload 13, 2), (108, .aload_n 1, 1), (109, .getfield 86, 3), (112, .if_icmp .ge 96, 3), (115, .iload 10, 2), (117, .iload 13, 2), (119, .ishr, 1), (120, .iconst 1, 1), (121, .iand, 1), (122, .ifCond .ne 6, 3), (125, .goto 77, 3), (128, .aload_n 1, 1), (129, .iload 13, 2), (131, .iload 7, 2), (133, .invokevirtual 89, 3), (136, .istore 14, 2), (138, .aload_n 0, 1), (139, .iload 4, 2), (141, .iload 14, 2), (143, .invokevirtual 92, 3), (146, .istore 15, 2), (148, .aload_n 0, 1), (149, .iload_n 2, 1), (150, .aload_n 1, 1), (151, .iload 13, 2), (153, .iload 7, 2), (155, .invokevirtual 95, 3), (158, .bipush 15, 2), (160, .imul, 1), (161, .iload 11, 2), (163, .iadd, 1), (164, .iconst 1, 1), (165, .iadd, 1), (166, .iload 15, 2), (168, .invokevirtual 60, 3), (171, .iload 12, 2), (173, .iload 14, 2), (175, .aload_n 0, 1), (176, .getfield 29, 3), (179, .if_icmp .ne 19, 3), (182, .iload 15, 2), (184, .aload_n 0, 1), (185, .getfield 33, 3), (188, .ishr, 1), (189, .iconst 1, 1), (190, .iand, 1), (191, .ifCond .eq 7, 3), (194, .iconst 1, 1), (195, .goto 4, 3), (198, .iconst 0, 1), (199, .ior, 1), (200, .istore 12, 2), (202, .iinc 13 1, 3), (205, .goto (-99), 3), (208, .iload 12, 2), (210, .ireturn, 1)], [(29, 3, 5, 2034), (33, 3, 6, 2035), (45, 1, 1, 1047), (86, 1, 2, 1060)], [(60, K_Ro_put, 3, 3, [4104, 4107, 1008, 4106, 24]), (78, K_Ho_roomOfSide, 1, 1, [4116, 4119, 1003, 4117, 4118]), (82, K_Ho_choices, 1, 3, [4120, 3175, 1003, 3173, 3174]), (89, K_Ho_beyond, 1, 2, [4121, 3213, 1003, 3211, 3212]), (92, K_Ro_withRoom, 3, 2, [4122, 4125, 1008, 4124, 27]), (95, K_Ho_sideBeyond, 1, 2, [4128, 3239, 1003, 3237, 3238])], [], 0, fun _ => 0)
theorem ok_Ro_spread : zOK M_Ro_spread := zOK_of (by decide +kernel) (by decide +kernel)
def M_Ho_roomOfSide : zMt := (K_Ho_roomOfSide, RX1, [(0, .iload_n 1, 1), (1, .iconst 1, 1), (2, .iand, 1), (3, .ifCond .ne 14, 3), (6, .aload_n 0, 1), (7, .getfield 24, 3), (10, .iload_n 1, 1), (11, .iconst 1, 1), (12, .ishr, 1), (13, .iaload, 1), (14, .goto 11, 3), (17, .aload_n 0, 1), (18, .getfield 28, 3), (21, .iload_n 1, 1), (22, .iconst 1, 1), (23, .ishr, 1), (24, .iaload, 1), (25, .ireturn, 1)], [(24, 1, 4, 1063), (28, 1, 5, 1068)], [], [], 0, fun _ => 0)
theorem ok_Ho_roomOfSide : zOK M_Ho_roomOfSide := zOK_of (by decide +kernel) (by decide +kernel)
def M_Ro_withRoom : zMt := (K_Ro_withRoom, RX3, [(0, .aload_n 0, 1), (1, .getfield 9, 3), (4, .iload_n 2, 1), (5, .iaload, 1), (6, .istore_n 3, 1), (7, .iload_n 3, 1), (8, .ifCond .ge 5, 3), (11, .iload_n 1, 1), (12, .ireturn, 1), (13, .getstatic 98, 3), (16, .iload_n 3, 1), (17, .iaload, 1), (18, .istore 4, 2), (20, .iload_n 1, 1), (21, .iload 4, 2), (23, .iand, 1), (24, .iload_n 1, 1), (25, .iload 4, 2), (27, .iconst (-1), 1), (28, .ixor, 1), (29, .iand, 1), (30, .iconst 1, 1), (31, .iload_n 3, 1), (32, .ishl, 1), (33, .ishl, 1), (34, .ior, 1), (35, .ireturn, 1)], [(9, 3, 0, 2029)], [], [(98, 4, 0, 4126)], 0, fun _ => 0)
theorem ok_Ro_withRoom : zOK M_Ro_withRoom := zOK_of (by decide +kernel) (by decide +kernel)
def M_Ho_openDoors : zMt := (K_Ho_openDoors, RX1, [(0, .aload_n 0, 1), (1, .getfield 18, 3), (4, .aload_n 0, 1), (5, .getfield 21, 3), (8, .invokestatic 52, 3), (11, .isub, 1), (12, .ireturn, 1)], [(18, 1, 2, 1053), (21, 1, 3, 1062)], [(52, K_Jd_bitCount, 100, 1, [4137, 4045, 1020, 4044])], [], 0, fun _ => 0)
theorem ok_Ho_openDoors : zOK M_Ho_openDoors := zOK_of (by decide +kernel) (by decide +kernel)
def M_To_prepare : zMt := (K_To_prepare, RX6, [(0, .aload_n 0, 1), (1, .iload_n 2, 1), (2, .putfield 22, 3), (5, .aload_n 0, 1), (6, .iconst 0, 1), (7, .putfield 18, 3), (10, .iconst 0, 1), (11, .istore_n 3, 1), (12, .iload_n 3, 1), (13, .aload_n 1, 1), (14, .getfield 25, 3), (17, .if_icmp .ge 46, 3), (20, .aload_n 1, 1), (21, .iload_n 3, 1), (22, .invokevirtual 28, 3), (25, .ifCond .ne 32, 3), (28, .aload_n 0, 1), (29, .getfield 18, 3), (32, .bipush 8, 2), (34, .if_icmp .ge 23, 3), (37, .aload_n 0, 1), (38, .getfield 9, 3), (41, .aload_n 0, 1), (42, .getfield 18, 3), (45, .iload_n 3, 1), (46, .iastore, 1), (47, .aload_n 0, 1), (48, .dup, 1), (49, .getfield 18, 3), (52, .iconst 1, 1), (53, .iadd, 1), (54, .putfield 18, 3), (57, .iinc 3 1, 3), (60, .goto (-48), 3), (63, .iconst 1, 1), (64, .aload_n 0, 1), (65, .getfield 18, 3), (68, .ishl, 1), (69, .iconst 1, 1), (70, .isub, 1), (71, .istore_n 3, 1), (72, .iconst 0, 1), (73, .istore 4, 2), (75, .iload 4, 2), (77, .iconst 5, 1), (78, .if_icmp .ge 21, 3), (81, .aload_n 0, 1), (82, .getfield 15, 3), (85, .iload_n 3, 1), (86, .iconst 5, 1), (87, .imul, 1), (88, .iload 4, 2), (90, .iadd, 1), (91, .iconst 1, 1), (92, .iastore, 1), (93, .iinc 4 1, 3), (96, .goto (-21), 3), (99, .iload_n 3, 1), (100, .iconst 1, 1), (101, .isub, 1), (102, .istore 4, 2), (104, .iload 4, 2), (106, .ifCond .lt 16, 3), (109, .aload_n 0, 1), (110, .aload_n 1, 1), (111, .iload 4, 2), (113, .invokevirtual 32, 3), (116, .iinc 4 (-1), 3), (119, .goto (-15), 3), (122, .return_, 1)], [(9, 6, 0, 2057), (15, 6, 1, 2058), (18, 6, 2, 2059), (22, 6, 3, 2060), (25, 1, 2, 1054)], [(28, K_Ho_isWalled, 1, 1, [4142, 3156, 1003, 3154, 3155]), (32, K_To_fill, 6, 2, [4143, 4146, 1009, 4145, 28])], [], 0, fun _ => 0)
theorem ok_To_prepare : zOK M_To_prepare := zOK_of (by decide +kernel) (by decide +kernel)
def M_To_fill : zMt := (K_To_fill, RX6, [(0, .aload_n 0, 1), (1, .aload_n 1, 1), (2, .iload_n 2, 1), (3, .invokevirtual 40, 3), (6, .istore_n 3, 1), (7, .iconst 0, 1), (8, .istore 4, 2), (10, .iload 4, 2), (12, .iconst 5, 1), (13, .if_icmp .ge 59, 3), (16, .iconst 0, 1), (17, .istore 5, 2), (19, .iconst 0, 1), (20, .istore 6, 2), (22, .iload 6, 2), (24, .aload_n 0, 1), (25, .getfield 18, 3), (28, .if_icmp .ge 25, 3), (31, .iload 5, 2), (33, .aload_n 0, 1), (34, .aload_n 1, 1), (35, .iload_n 2, 1), (36, .iload_n 3, 1), (37, .iload 4, 2), (39, .iload 6, 2), (41, .invokevirtual 44, 3), (44, .iadd, 1), (45, .istore 5, 2), (47, .iinc 6 1, 3), (50, .goto (-28), 3), (53, .aload_n 0, 1), (54, .getfield 15, 3), (57, .iload_n 2, 1), (58, .iconst 5, 1), (59, .imul, 1), (60, .iload 4, 2), (62, .iadd, 1), (63, .iload 5, 2), (65, .iastore, 1), (66, .iinc 4 1, 3), (69, .goto (-59), 3), (72, .return_, 1)], [(15, 6, 1, 2058), (18, 6, 2, 2059)], [(40, K_To_roomBehind, 6, 2, [4147, 4150, 1009, 4149, 29]), (44, K_To_through, 6, 5, [4151, 4154, 1009, 4153, 30])], [], 0, fun _ => 0)
theorem ok_To_fill : zOK M_To_fill := zOK_of (by decide +kernel) (by decide +kernel)
def M_To_roomBehind : zMt := (K_To_roomBehind, RX6, [(0, .iconst 1, 1), (1, .aload_n 0, 1), (2, .getfield 22, 3), (5, .ishl, 1), (6, .istore_n 3, 1), (7, .iconst 0, 1), (8, .istore 4, 2), (10, .iload 4, 2), (12, .aload_n 0, 1), (13, .getfield 18, 3), (16, .if_icmp .ge 50, 3), (19, .iload_n 2, 1), (20, .iload 4, 2), (22, .ishr, 1), (23, .iconst 1, 1), (24, .iand, 1), (25, .ifCond .eq 35, 3), (28, .iload_n 3, 1), (29, .iconst 1, 1), (30, .aload_n 1, 1), (31, .getfield 58, 3), (34, .aload_n 0, 1), (35, .getfield 9, 3), (38, .iload 4, 2), (40, .iaload, 1), (41, .iaload, 1), (42, .ishl, 1), (43, .iconst 1, 1), (44, .aload_n 1, 1), (45, .getfield 61, 3), (48, .aload_n 0, 1), (49, .getfield 9, 3), (52, .iload 4, 2), (54, .iaload, 1), (55, .iaload, 1), (56, .ishl, 1), (57, .ixor, 1), (58, .ixor, 1), (59, .istore_n 3, 1), (60, .iinc 4 1, 3), (63, .goto (-53), 3), (66, .iconst 0, 1), (67, .istore 4, 2), (69, .iload 4, 2), (71, .aload_n 1, 1), (72, .getfield 64, 3), (75, .if_icmp .ge 20, 3), (78, .iload_n 3, 1), (79, .iconst 1, 1), (80, .iload 4, 2), (82, .ishl, 1), (83, .if_icmp .ne 6, 3), (86, .iload 4, 2), (88, .ireturn, 1), (89, .iinc 4 1, 3), (92, .goto (-23), 3), (95, .bipush (-4), 2), (97, .ireturn, 1)], [(9, 6, 0, 2057), (18, 6, 2, 2059), (22, 6, 3, 2060), (58, 1, 4, 1065), (61, 1, 5, 1070), (64, 1, 0, 1044)], [], [], 0, fun _ => 0)
theorem ok_To_roomBehind : zOK M_To_roomBehind := zOK_of (by decide +kernel) (by decide +kernel)
def M_To_through : zMt := (K_To_through, RX6, [(0, .aload_n 0, 1), (1, .getfield 9, 3), (4, .iload 5, 2), (6, .iaload, 1), (7, .istore 6, 2), (9, .iload_n 2, 1), (10, .iload 5, 2), (12, .ishr, 1), (13, .iconst 1, 1), (14, .iand, 1), (15, .ifCond .ne 13, 3), (18, .aload_n 1, 1), (19, .iload 6, 2), (21, .iload_n 3, 1), (22, .invokevirtual 51, 3), (25, .ifCond .ne 5, 3), (28, .iconst 0, 1), (29, .ireturn, 1), (30, .aload_n 1, 1), (31, .getfield 55, 3), (34, .iconst 2, 1), (35, .if_icmp .ne 17, 3), (38, .aload_n 1, 1), (39, .getfield 48, 3), (42, .iload 6, 2), (44, .iaload, 1), (45, .iload 4, 2), (47, .if_icmp .ne 5, 3), (50, .iconst 0, 1), (51, .ireturn, 1), (52, .aload_n 0, 1), (53, .getfield 15, 3), (56, .iload_n 2, 1), (57, .iconst 1, 1), (58, .iload 5, 2), (60, .ishl, 1), (61, .ior, 1), (62, .iconst 5, 1), (63, .imul, 1), (64, .aload_n 1, 1), (65, .getfield 48, 3), (68, .iload 6, 2), (70, .iaload, 1), (71, .iadd, 1), (72, .iaload, 1), (73, .ireturn, 1)], [(9, 6, 0, 2057), (15, 6, 1, 2058), (48, 1, 6, 1074), (55, 1, 1, 1050)], [(51, K_Ho_isOf, 1, 2, [4155, 4065, 1003, 4063, 4064])], [], 0, fun _ => 0)
theorem ok_To_through : zOK M_To_through := zOK_of (by decide +kernel) (by decide +kernel)
def M_To_stepOf : zMt := (K_To_stepOf, RX6, [(0, .iload_n 2, 1), (1, .aload_n 0, 1), (2, .getfield 18, 3), (5, .if_icmp .ge 10, 3), (8, .aload_n 0, 1), (9, .invokevirtual 36, 3), (12, .ifCond .ne 6, 3), (15, .bipush (-4), 2), (17, .ireturn, 1), (18, .iconst 0, 1), (19, .istore_n 3, 1), (20, .iconst 4, 1), (21, .istore 4, 2), (23, .bipush (-4), 2), (25, .istore 5, 2), (27, .iconst 0, 1), (28, .istore 6, 2), (30, .iload 6, 2), (32, .iload_n 2, 1), (33, .if_icmp .gt 78, 3), (36, .aload_n 0, 1), (37, .aload_n 1, 1), (38, .iload_n 3, 1), (39, .invokevirtual 40, 3), (42, .istore 7, 2), (44, .iconst 0, 1), (45, .istore 8, 2), (47, .iload 8, 2), (49, .aload_n 0, 1), (50, .getfield 18, 3), (53, .if_icmp .ge 52, 3), (56, .aload_n 0, 1), (57, .aload_n 1, 1), (58, .iload_n 3, 1), (59, .iload 7, 2), (61, .iload 4, 2), (63, .iload 8, 2), (65, .invokevirtual 44, 3), (68, .ifCond .le 31, 3), (71, .aload_n 0, 1), (72, .getfield 9, 3), (75, .iload 8, 2), (77, .iaload, 1), (78, .istore 5, 2), (80, .aload_n 1, 1), (81, .getfield 48, 3), (84, .iload 5, 2), (86, .iaload, 1), (87, .istore 4, 2), (89, .iload_n 3, 1), (90, .iconst 1, 1), (91, .iload 8, 2), (93, .ishl, 1), (94, .ior, 1), (95, .istore_n 3, 1), (96, .goto 9, 3), (99, .iinc 8 1, 3), (102, .goto (-55), 3), (105, .iinc 6 1, 3), (108, .goto (-78), 3), (111, .iload 5, 2), (113, .ireturn, 1)], [(9, 6, 0, 2057), (18, 6, 2, 2059), (48, 1, 6, 1074)], [(36, K_To_all, 6, 0, [4160, 4163, 1009, 4161, 4162]), (40, K_To_roomBehind, 6, 2, [4147, 4150, 1009, 4149, 29]), (44, K_To_through, 6, 5, [4151, 4154, 1009, 4153, 30])], [], 0, fun _ => 0)
theorem ok_To_stepOf : zOK M_To_stepOf := zOK_of (by decide +kernel) (by decide +kernel)
def M_To_all : zMt := (K_To_all, RX6, [(0, .aload_n 0, 1), (1, .getfield 15, 3), (4, .iconst 4, 1), (5, .iaload, 1), (6, .ireturn, 1)], [(15, 6, 1, 2058)], [], [], 0, fun _ => 0)
theorem ok_To_all : zOK M_To_all := zOK_of (by decide +kernel) (by decide +kernel)
def M_Tw_prepare : zMt := (K_Tw_prepare, RX8, [(0, .aload_n 0, 1), (1, .getfield 18, 3), (4, .iconst 0, 1), (5, .invokestatic 43, 3), (8, .iconst 0, 1), (9, .istore 4, 2), (11, .iload 4, 2), (13, .iconst 5, 1), (14, .if_icmp .ge 31, 3), (17, .aload_n 0, 1), (18, .getfield 23, 3), (21, .iload 4, 2), (23, .aaload, 1), (24, .iconst 0, 1), (25, .invokestatic 43, 3), (28, .aload_n 0, 1), (29, .getfield 29, 3), (32, .iload 4, 2), (34, .aaload, 1), (35, .iconst 0, 1), (36, .invokestatic 43, 3), (39, .iinc 4 1, 3), (42, .goto (-31), 3), (45, .iconst 0, 1), (46, .istore 4, 2), (48, .iload 4, 2), (50, .iconst 2, 1), (51, .aload_n 1, 1), (52, .getfield 49, 3), (55, .imul, 1), (56, .if_icmp .ge 26, 3), (59, .aload_n 0, 1), (60, .aload_n 1, 1), (61, .iload 4, 2), (63, .aload_n 1, 1), (64, .iload 4, 2), (66, .invokevirtual 54, 3), (69, .iload 4, 2), (71, .iconst 1, 1), (72, .ishr, 1), (73, .invokevirtual 58, 3), (76, .iinc 4 1, 3), (79, .goto (-31), 3), (82, .aload_n 0, 1), (83, .aload_n 1, 1), (84, .bipush 28, 2), (86, .aload_n 2, 1), (87, .getfield 62, 3), (90, .iconst (-1), 1), (91, .invokevirtual 58, 3), (94, .aload_n 0, 1), (95, .aload_n 1, 1), (96, .bipush 29, 2), (98, .aload_n 3, 1), (99, .getfield 62, 3), (102, .iconst (-1), 1), (103, .invokevirtual 58, 3), (106, .aload_n 0, 1), (107, .aload_n 2, 1), (108, .getfield 67, 3), (111, .iconst (-1), 1), (112, .if_icmp .ne 8, 3), (115, .bipush 28, 2), (117, .goto 15, 3), (120, .aload_n 1, 1), (121, .aload_n 2, 1), (122, .getfield 67, 3), (125, .aload_n 2, 1), (126, .getfield 62, 3), (129, .invokevirtual 70, 3), (132, .putfield 32, 3), (135, .aload_n 0, 1), (136, .aload_n 3, 1), (137, .getfield 67, 3), (140, .iconst (-1), 1), (141, .if_icmp .ne 8, 3), (144, .bipush 29, 2), (146, .goto 15, 3), (149, .aload_n 1, 1), (150, .aload_n 3, 1), (151, .getfield 67, 3), (154, .aload_n 3, 1), (155, .getfield 62, 3), (158, .invokevirtual 70, 3), (161, .putfield 36, 3), (164, .return_, 1)], [(18, 8, 2, 2079), (23, 8, 3, 2080), (29, 8, 5, 2082), (32, 8, 6, 2083), (36, 8, 7, 2084), (49, 1, 2, 1055), (62, 9, 0, 1109), (67, 9, 1, 1115)], [(43, K_Jd_fill, 100, 2, [4173, 2224, 1014, 2223]), (54, K_Ho_roomOfSide, 1, 1, [4174, 4119, 1003, 4117, 4118]), (58, K_Tw_addSpot, 8, 4, [4175, 4178, 1010, 4177, 31]), (70, K_Ho_sideAt, 1, 2, [4181, 3230, 1003, 3228, 3229])], [], 0, fun _ => 0)
theorem ok_Tw_prepare : zOK M_Tw_prepare := zOK_of (by decide +kernel) (by decide +kernel)
def M_Tw_addSpot : zMt := (K_Tw_addSpot, RX8, [(0, .aload_n 0, 1), (1, .getfield 11, 3), (4, .iload_n 2, 1), (5, .iload_n 3, 1), (6, .iastore, 1), (7, .aload_n 0, 1), (8, .getfield 18, 3), (11, .iload_n 3, 1), (12, .dup2, 1), (13, .iaload, 1), (14, .iconst 1, 1), (15, .iload_n 2, 1), (16, .ishl, 1), (17, .ior, 1), (18, .iastore, 1), (19, .aload_n 1, 1), (20, .iload_n 3, 1), (21, .iload 4, 2), (23, .iconst (-1), 1), (24, .invokevirtual 74, 3), (27, .istore 5, 2), (29, .iconst 0, 1), (30, .istore 6, 2), (32, .iconst 0, 1), (33, .istore 7, 2), (35, .iload 7, 2), (37, .aload_n 1, 1), (38, .getfield 49, 3), (41, .if_icmp .ge 33, 3), (44, .iload 5, 2), (46, .iload 7, 2), (48, .ishr, 1), (49, .iconst 1, 1), (50, .iand, 1), (51, .ifCond .eq 17, 3), (54, .iload 6, 2), (56, .iconst 1, 1), (57, .aload_n 1, 1), (58, .iload 7, 2), (60, .iload_n 3, 1), (61, .invokevirtual 78, 3), (64, .ishl, 1), (65, .ior, 1), (66, .istore 6, 2), (68, .iinc 7 1, 3), (71, .goto (-36), 3), (74, .aload_n 0, 1), (75, .getfield 15, 3), (78, .iload_n 2, 1), (79, .iload 6, 2), (81, .ifCond .ne 9, 3), (84, .iconst 1, 1), (85, .iload_n 2, 1), (86, .ishl, 1), (87, .goto 5, 3), (90, .iload 6, 2), (92, .iastore, 1), (93, .return_, 1)], [(11, 8, 0, 2077), (15, 8, 1, 2078), (18, 8, 2, 2079), (49, 1, 2, 1055)], [(74, K_Ho_choices, 1, 3, [4179, 3175, 1003, 3173, 3174]), (78, K_Ho_sideBeyond, 1, 2, [4180, 3239, 1003, 3237, 3238])], [], 0, fun _ => 0)
theorem ok_Tw_addSpot : zOK M_Tw_addSpot := zOK_of (by decide +kernel) (by decide +kernel)
def M_Tw_untilTalked : zMt := (K_Tw_untilTalked, RX8, [(0, .aload_n 0, 1), (1, .invokevirtual 81, 3), (4, .ifCond .eq 7, 3), (7, .iconst 1, 1), (8, .goto 4, 3), (11, .iconst 0, 1), (12, .istore_n 2, 1), (13, .iload_n 2, 1), (14, .iload_n 1, 1), (15, .if_icmp .lt 5, 3), (18, .iconst 0, 1), (19, .ireturn, 1), (20, .aload_n 0, 1), (21, .iload_n 2, 1), (22, .aload_n 0, 1), (23, .getfield 32, 3), (26, .iconst 1, 1), (27, .aload_n 0, 1), (28, .getfield 36, 3), (31, .ishl, 1), (32, .invokevirtual 85, 3), (35, .iconst 1, 1), (36, .istore_n 3, 1), (37, .iload_n 3, 1), (38, .sipush 4500, 3), (41, .if_icmp .gt 30, 3), (44, .aload_n 0, 1), (45, .getfield 39, 3), (48, .ifCond .eq 23, 3), (51, .aload_n 0, 1), (52, .invokevirtual 89, 3), (55, .aload_n 0, 1), (56, .iload_n 1, 1), (57, .invokevirtual 92, 3), (60, .ifCond .eq 5, 3), (63, .iload_n 3, 1), (64, .ireturn, 1), (65, .iinc 3 1, 3), (68, .goto (-31), 3), (71, .bipush (-4), 2), (73, .ireturn, 1)], [(32, 8, 6, 2083), (36, 8, 7, 2084), (39, 8, 8, 2085)], [(81, K_Tw_together, 8, 0, [4186, 4189, 1010, 4188, 32]), (85, K_Tw_put, 8, 3, [4190, 4193, 1010, 4192, 33]), (89, K_Tw_turnMinute, 8, 0, [4194, 4197, 1010, 4196, 34]), (92, K_Tw_talkMinute, 8, 1, [4199, 4202, 1010, 4201, 35])], [], 0, fun _ => 0)
theorem ok_Tw_untilTalked : zOK M_Tw_untilTalked := zOK_of (by decide +kernel) (by decide +kernel)
def M_Tw_together : zMt := (K_Tw_together, RX8, [(0, .aload_n 0, 1), (1, .getfield 11, 3), (4, .aload_n 0, 1), (5, .getfield 32, 3), (8, .iaload, 1), (9, .aload_n 0, 1), (10, .getfield 11, 3), (13, .aload_n 0, 1), (14, .getfield 36, 3), (17, .iaload, 1), (18, .if_icmp .ne 7, 3), (21, .iconst 1, 1), (22, .goto 4, 3), (25, .iconst 0, 1), (26, .ireturn, 1)], [(11, 8, 0, 2077), (32, 8, 6, 2083), (36, 8, 7, 2084)], [], [], 0, fun _ => 0)
theorem ok_Tw_together : zOK M_Tw_together := zOK_of (by decide +kernel) (by decide +kernel)
def M_Tw_put : zMt := (K_Tw_put, RX8, [(0, .iload_n 1, 1), (1, .iconst 5, 1), (2, .if_icmp .ge 18, 3), (5, .iload_n 3, 1), (6, .aload_n 0, 1), (7, .getfield 23, 3), (10, .iload_n 1, 1), (11, .aaload, 1), (12, .iload_n 2, 1), (13, .iaload, 1), (14, .iconst (-1), 1), (15, .ixor, 1), (16, .iand, 1), (17, .goto 4, 3), (20, .iconst 0, 1), (21, .istore 4, 2), (23, .iload 4, 2), (25, .ifCond .eq 34, 3), (28, .aload_n 0, 1), (29, .getfield 23, 3), (32, .iload_n 1, 1), (33, .aaload, 1), (34, .iload_n 2, 1), (35, .dup2, 1), (36, .iaload, 1), (37, .iload 4, 2), (39, .ior, 1), (40, .iastore, 1), (41, .aload_n 0, 1), (42, .getfield 29, 3), (45, .iload_n 1, 1), (46, .aaload, 1), (47, .iload_n 2, 1), (48, .dup2, 1), (49, .iaload, 1), (50, .iload 4, 2), (52, .ior, 1), (53, .iastore, 1), (54, .aload_n 0, 1), (55, .iconst 1, 1), (56, .putfield 39, 3), (59, .return_, 1)], [(23, 8, 3, 2080), (29, 8, 5, 2082), (39, 8, 8, 2085)], [], [], 0, fun _ => 0)
theorem ok_Tw_put : zOK M_Tw_put := zOK_of (by decide +kernel) (by decide +kernel)
def M_Tw_turnMinute : zMt := (K_Tw_turnMinute, RX8, [(0, .iconst 0, 1), (1, .istore_n 1, 1), (2, .iload_n 1, 1), (3, .iconst 5, 1), (4, .if_icmp .ge 38, 3), (7, .aload_n 0, 1), (8, .getfield 29, 3), (11, .iload_n 1, 1), (12, .aaload, 1), (13, .iconst 0, 1), (14, .aload_n 0, 1), (15, .getfield 26, 3), (18, .iload_n 1, 1), (19, .aaload, 1), (20, .iconst 0, 1), (21, .bipush 30, 2), (23, .invokestatic 109, 3), (26, .aload_n 0, 1), (27, .getfield 29, 3), (30, .iload_n 1, 1), (31, .aaload, 1), (32, .iconst 0, 1), (33, .invokestatic 43, 3), (36, .iinc 1 1, 3), (39, .goto (-37), 3), (42, .aload_n 0, 1), (43, .iconst 0, 1), (44, .putfield 39, 3), (47, .return_, 1)], [(26, 8, 4, 2081), (29, 8, 5, 2082), (39, 8, 8, 2085)], [(43, K_Jd_fill, 100, 2, [4173, 2224, 1014, 2223]), (109, K_Jd_fill, 101, 5, [4198, 3131, 3130, 1019])], [], 0, fun _ => 0)
theorem ok_Tw_turnMinute : zOK M_Tw_turnMinute := zOK_of (by decide +kernel) (by decide +kernel)
def M_Tw_talkMinute : zMt := (K_Tw_talkMinute, RX8, [(0, .iconst 0, 1), (1, .istore_n 2, 1), (2, .iload_n 2, 1), (3, .iload_n 1, 1), (4, .if_icmp .ge 46, 3), (7, .iconst 0, 1), (8, .istore_n 3, 1), (9, .iload_n 3, 1), (10, .bipush 30, 2), (12, .if_icmp .ge 32, 3), (15, .aload_n 0, 1), (16, .getfield 26, 3), (19, .iload_n 2, 1), (20, .aaload, 1), (21, .iload_n 3, 1), (22, .iaload, 1), (23, .ifCond .eq 15, 3), (26, .aload_n 0, 1), (27, .iload_n 1, 1), (28, .iload_n 2, 1), (29, .iload_n 3, 1), (30, .invokevirtual 96, 3), (33, .ifCond .eq 5, 3), (36, .iconst 1, 1), (37, .ireturn, 1), (38, .iinc 3 1, 3), (41, .goto (-32), 3), (44, .iinc 2 1, 3), (47, .goto (-45), 3), (50, .iconst 0, 1), (51, .ireturn, 1)], [(26, 8, 4, 2081)], [(96, K_Tw_talkStep, 8, 3, [4203, 4206, 1010, 4205, 36])], [], 0, fun _ => 0)
theorem ok_Tw_talkMinute : zOK M_Tw_talkMinute := zOK_of (by decide +kernel) (by decide +kernel)
def M_Tw_talkStep : zMt := (K_Tw_talkStep, RX8, [(0, .aload_n 0, 1), (1, .aload_n 0, 1), (2, .getfield 26, 3), (5, .iload_n 2, 1), (6, .aaload, 1), (7, .iload_n 3, 1), (8, .iaload, 1), (9, .invokevirtual 100, 3), (12, .istore 4, 2), (14, .iconst 0, 1), (15, .istore 5, 2), (17, .iload 5, 2), (19, .bipush 30, 2), (21, .if_icmp .ge 82, 3), (24, .aload_n 0, 1), (25, .getfield 15, 3), (28, .iload_n 3, 1), (29, .iaload, 1), (30, .iload 5, 2), (32, .ishr, 1), (33, .iconst 1, 1), (34, .iand, 1), (35, .ifCond .ne 6, 3), (38, .goto 59, 3), (41, .iload 4, 2), (43, .aload_n 0, 1), (44, .getfield 18, 3), (47, .aload_n 0, 1), (48, .getfield 11, 3), (51, .iload 5, 2), (53, .iaload, 1), (54, .iaload, 1), (55, .iand, 1), (56, .istore 6, 2), (58, .iload 6, 2), (60, .ifCond .eq 12, 3), (63, .iload_n 2, 1), (64, .iconst 1, 1), (65, .iadd, 1), (66, .iload_n 1, 1), (67, .if_icmp .lt 5, 3), (70, .iconst 1, 1), (71, .ireturn, 1), (72, .aload_n 0, 1), (73, .iload_n 2, 1), (74, .iconst 1, 1), (75, .iadd, 1), (76, .iload 5, 2), (78, .iload 6, 2), (80, .invokevirtual 85, 3), (83, .aload_n 0, 1), (84, .iconst 0, 1), (85, .iload 5, 2), (87, .iload 4, 2), (89, .iload 6, 2), (91, .iconst (-1), 1), (92, .ixor, 1), (93, .iand, 1), (94, .invokevirtual 85, 3), (97, .iinc 5 1, 3), (100, .goto (-83), 3), (103, .iconst 0, 1), (104, .ireturn, 1)], [(11, 8, 0, 2077), (15, 8, 1, 2078), (18, 8, 2, 2079), (26, 8, 4, 2081)], [(85, K_Tw_put, 8, 3, [4190, 4193, 1010, 4192, 33]), (100, K_Tw_nextOf, 8, 1, [4207, 4210, 1010, 4209, 37])], [], 0, fun _ => 0)
theorem ok_Tw_talkStep : zOK M_Tw_talkStep := zOK_of (by decide +kernel) (by decide +kernel)
def M_Tw_nextOf : zMt := (K_Tw_nextOf, RX8, [(0, .iconst 0, 1), (1, .istore_n 2, 1), (2, .iconst 0, 1), (3, .istore_n 3, 1), (4, .iload_n 3, 1), (5, .bipush 30, 2), (7, .if_icmp .ge 26, 3), (10, .iload_n 1, 1), (11, .iload_n 3, 1), (12, .ishr, 1), (13, .iconst 1, 1), (14, .iand, 1), (15, .ifCond .eq 12, 3), (18, .iload_n 2, 1), (19, .aload_n 0, 1), (20, .getfield 15, 3), (23, .iload_n 3, 1), (24, .iaload, 1), (25, .ior, 1), (26, .istore_n 2, 1), (27, .iinc 3 1, 3), (30, .goto (-26), 3), (33, .iload_n 2, 1), (34, .ireturn, 1)], [(15, 8, 1, 2078)], [], [], 0, fun _ => 0)
theorem ok_Tw_nextOf : zOK M_Tw_nextOf := zOK_of (by decide +kernel) (by decide +kernel)
def M_Tw_untilCupIn : zMt := (K_Tw_untilCupIn, RX8, [(0, .aload_n 0, 1), (1, .getfield 11, 3), (4, .aload_n 0, 1), (5, .getfield 32, 3), (8, .iaload, 1), (9, .iload_n 1, 1), (10, .if_icmp .ne 5, 3), (13, .iconst 0, 1), (14, .ireturn, 1), (15, .aload_n 0, 1), (16, .iconst 0, 1), (17, .aload_n 0, 1), (18, .getfield 32, 3), (21, .iconst 1, 1), (22, .aload_n 0, 1), (23, .getfield 36, 3), (26, .ishl, 1), (27, .invokevirtual 85, 3), (30, .aload_n 0, 1), (31, .iconst 1, 1), (32, .aload_n 0, 1), (33, .getfield 32, 3), (36, .aload_n 0, 1), (37, .invokevirtual 81, 3), (40, .ifCond .eq 12, 3), (43, .iconst 1, 1), (44, .aload_n 0, 1), (45, .getfield 36, 3), (48, .ishl, 1), (49, .goto 4, 3), (52, .iconst 0, 1), (53, .invokevirtual 85, 3), (56, .iconst 1, 1), (57, .istore_n 2, 1), (58, .iload_n 2, 1), (59, .sipush 4500, 3), (62, .if_icmp .gt 30, 3), (65, .aload_n 0, 1), (66, .getfield 39, 3), (69, .ifCond .eq 23, 3), (72, .aload_n 0, 1), (73, .invokevirtual 89, 3), (76, .aload_n 0, 1), (77, .iload_n 1, 1), (78, .invokevirtual 103, 3), (81, .ifCond .eq 5, 3), (84, .iload_n 2, 1), (85, .ireturn, 1), (86, .iinc 2 1, 3), (89, .goto (-31), 3), (92, .bipush (-4), 2), (94, .ireturn, 1)], [(11, 8, 0, 2077), (32, 8, 6, 2083), (36, 8, 7, 2084), (39, 8, 8, 2085)], [(81, K_Tw_together, 8, 0, [4186, 4189, 1010, 4188, 32]), (85, K_Tw_put, 8, 3, [4190, 4193, 1010, 4192, 33]), (89, K_Tw_turnMinute, 8, 0, [4194, 4197, 1010, 4196, 34]), (103, K_Tw_cupMinute, 8, 1, [4219, 4222, 1010, 4221, 38])], [], 0, fun _ => 0)
theorem ok_Tw_untilCupIn : zOK M_Tw_untilCupIn := zOK_of (by decide +kernel) (by decide +kernel)
def M_Tw_cupMinute : zMt := (K_Tw_cupMinute, RX8, [(0, .iconst 0, 1), (1, .istore_n 2, 1), (2, .iload_n 2, 1), (3, .iconst 2, 1), (4, .if_icmp .ge 46, 3), (7, .iconst 0, 1), (8, .istore_n 3, 1), (9, .iload_n 3, 1), (10, .bipush 30, 2), (12, .if_icmp .ge 32, 3), (15, .aload_n 0, 1), (16, .getfield 26, 3), (19, .iload_n 2, 1), (20, .aaload, 1), (21, .iload_n 3, 1), (22, .iaload, 1), (23, .ifCond .eq 15, 3), (26, .aload_n 0, 1), (27, .iload_n 1, 1), (28, .iload_n 2, 1), (29, .iload_n 3, 1), (30, .invokevirtual 106, 3), (33, .ifCond .eq 5, 3), (36, .iconst 1, 1), (37, .ireturn, 1), (38, .iinc 3 1, 3), (41, .goto (-32), 3), (44, .iinc 2 1, 3), (47, .goto (-45), 3), (50, .iconst 0, 1), (51, .ireturn, 1)], [(26, 8, 4, 2081)], [(106, K_Tw_cupStep, 8, 3, [4223, 4226, 1010, 4225, 39])], [], 0, fun _ => 0)
theorem ok_Tw_cupMinute : zOK M_Tw_cupMinute := zOK_of (by decide +kernel) (by decide +kernel)
def M_Tw_cupStep : zMt := (K_Tw_cupStep, RX8, [(0, .aload_n 0, 1), (1, .aload_n 0, 1), (2, .getfield 26, 3), (5, .iload_n 2, 1), (6, .aaload, 1), (7, .iload_n 3, 1), (8, .iaload, 1), (9, .invokevirtual 100, 3), (12, .istore 4, 2), (14, .iconst 0, 1), (15, .istore 5, 2), (17, .iload 5, 2), (19, .bipush 30, 2), (21, .if_icmp .ge 91, 3), (24, .aload_n 0, 1), (25, .getfield 15, 3), (28, .iload_n 3, 1), (29, .iaload, 1), (30, .iload 5, 2), (32, .ishr, 1), (33, .iconst 1, 1), (34, .iand, 1), (35, .ifCond .ne 6, 3), (38, .goto 68, 3), (41, .iload_n 2, 1), (42, .ifCond .ne 17, 3), (45, .aload_n 0, 1), (46, .getfield 11, 3), (49, .iload 5, 2), (51, .iaload, 1), (52, .iload_n 1, 1), (53, .if_icmp .ne 20, 3), (56, .goto 15, 3), (59, .iload 4, 2), (61, .aload_n 0, 1), (62, .getfield 18, 3), (65, .iload_n 1, 1), (66, .iaload, 1), (67, .iand, 1), (68, .ifCond .eq 5, 3), (71, .iconst 1, 1), (72, .ireturn, 1), (73, .aload_n 0, 1), (74, .iload_n 2, 1), (75, .iload 5, 2), (77, .iload 4, 2), (79, .invokevirtual 85, 3), (82, .aload_n 0, 1), (83, .iconst 1, 1), (84, .iload_n 2, 1), (85, .isub, 1), (86, .iload 5, 2), (88, .iload 4, 2), (90, .aload_n 0, 1), (91, .getfield 18, 3), (94, .aload_n 0, 1), (95, .getfield 11, 3), (98, .iload 5, 2), (100, .iaload, 1), (101, .iaload, 1), (102, .iand, 1), (103, .invokevirtual 85, 3), (106, .iinc 5 1, 3), (109, .goto (-92), 3), (112, .iconst 0, 1), (113, .ireturn, 1)], [(11, 8, 0, 2077), (15, 8, 1, 2078), (18, 8, 2, 2079), (26, 8, 4, 2081)], [(85, K_Tw_put, 8, 3, [4190, 4193, 1010, 4192, 33]), (100, K_Tw_nextOf, 8, 1, [4207, 4210, 1010, 4209, 37])], [], 0, fun _ => 0)
theorem ok_Tw_cupStep : zOK M_Tw_cupStep := zOK_of (by decide +kernel) (by decide +kernel)
def M_Bu_seekMore : zMt := (K_Bu_seekMore, RX0, [(0, .aload_n 0, 1), (1, .bipush (-4), 2), (3, .putfield 20, 3), (6, .aload_n 0, 1), (7, .aload_n 0, 1), (8, .aload_n 1, 1), (9, .invokevirtual 75, 3), (12, .putfield 24, 3), (15, .iconst 0, 1), (16, .istore_n 2, 1), (17, .iload_n 2, 1), (18, .aload_n 1, 1), (19, .getfield 31, 3), (22, .if_icmp .ge 34, 3), (25, .iload_n 2, 1), (26, .iconst 1, 1), (27, .iadd, 1), (28, .istore_n 3, 1), (29, .iload_n 3, 1), (30, .aload_n 1, 1), (31, .getfield 31, 3), (34, .if_icmp .ge 16, 3), (37, .aload_n 0, 1), (38, .aload_n 1, 1), (39, .iload_n 2, 1), (40, .iload_n 3, 1), (41, .invokevirtual 79, 3), (44, .iinc 3 1, 3), (47, .goto (-18), 3), (50, .iinc 2 1, 3), (53, .goto (-36), 3), (56, .return_, 1)], [(20, 0, 2, 2115), (24, 0, 3, 2116), (31, 1, 0, 1042)], [(75, K_Bu_pairsOf, 0, 1, [4235, 4028, 1011, 4026, 4027]), (79, K_Bu_tryMore, 0, 3, [4236, 4239, 1011, 4238, 40])], [], 0, fun _ => 0)
theorem ok_Bu_seekMore : zOK M_Bu_seekMore := zOK_of (by decide +kernel) (by decide +kernel)
def M_Bu_tryMore : zMt := (K_Bu_tryMore, RX0, [(0, .aload_n 1, 1), (1, .iload_n 2, 1), (2, .iload_n 3, 1), (3, .iconst 0, 1), (4, .invokevirtual 83, 3), (7, .ifCond .ne 4, 3), (10, .return_, 1), (11, .aload_n 0, 1), (12, .aload_n 1, 1), (13, .invokevirtual 75, 3), (16, .istore 4, 2), (18, .aload_n 1, 1), (19, .invokevirtual 87, 3), (22, .iload 4, 2), (24, .aload_n 0, 1), (25, .getfield 24, 3), (28, .if_icmp .le 19, 3), (31, .aload_n 0, 1), (32, .iload 4, 2), (34, .putfield 24, 3), (37, .aload_n 0, 1), (38, .bipush 10, 2), (40, .iload_n 2, 1), (41, .imul, 1), (42, .iload_n 3, 1), (43, .iadd, 1), (44, .putfield 20, 3), (47, .return_, 1)], [(20, 0, 2, 2115), (24, 0, 3, 2116)], [(75, K_Bu_pairsOf, 0, 1, [4235, 4028, 1011, 4026, 4027]), (83, K_Ho_add, 1, 3, [5000, 3094, 1003, 3092, 3093]), (87, K_Ho_dropLatest, 1, 0, [5001, 5004, 1003, 5002, 5003])], [], 0, fun _ => 0)
theorem ok_Bu_tryMore : zOK M_Bu_tryMore := zOK_of (by decide +kernel) (by decide +kernel)
def M_Ho_dropLatest : zMt := (K_Ho_dropLatest, RX1, [(0, .aload_n 0, 1), (1, .getfield 18, 3), (4, .ifCond .gt 4, 3), (7, .return_, 1), (8, .aload_n 0, 1), (9, .dup, 1), (10, .getfield 18, 3), (13, .iconst 1, 1), (14, .isub, 1), (15, .putfield 18, 3), (18, .iconst 1, 1), (19, .aload_n 0, 1), (20, .getfield 18, 3), (23, .ishl, 1), (24, .iconst (-1), 1), (25, .ixor, 1), (26, .istore_n 1, 1), (27, .aload_n 0, 1), (28, .getfield 34, 3), (31, .aload_n 0, 1), (32, .getfield 24, 3), (35, .aload_n 0, 1), (36, .getfield 18, 3), (39, .iaload, 1), (40, .dup2, 1), (41, .iaload, 1), (42, .iload_n 1, 1), (43, .iand, 1), (44, .iastore, 1), (45, .aload_n 0, 1), (46, .getfield 34, 3), (49, .aload_n 0, 1), (50, .getfield 28, 3), (53, .aload_n 0, 1), (54, .getfield 18, 3), (57, .iaload, 1), (58, .dup2, 1), (59, .iaload, 1), (60, .iload_n 1, 1), (61, .iand, 1), (62, .iastore, 1), (63, .aload_n 0, 1), (64, .getfield 37, 3), (67, .aload_n 0, 1), (68, .getfield 31, 3), (71, .aload_n 0, 1), (72, .getfield 18, 3), (75, .iaload, 1), (76, .dup2, 1), (77, .iaload, 1), (78, .iload_n 1, 1), (79, .iand, 1), (80, .iastore, 1), (81, .return_, 1)], [(18, 1, 2, 1053), (24, 1, 4, 1063), (28, 1, 5, 1068), (31, 1, 6, 1073), (34, 1, 7, 1077), (37, 1, 8, 1079)], [], [], 0, fun _ => 0)
theorem ok_Ho_dropLatest : zOK M_Ho_dropLatest := zOK_of (by decide +kernel) (by decide +kernel)
def M_Bu_answer : zMt := (K_Bu_answer, RX0, [(0, .aload_n 0, 1), (1, .getfield 20, 3), (4, .bipush (-4), 2), (6, .if_icmp .ne 6, 3), (9, .bipush (-4), 2), (11, .ireturn, 1), (12, .iload_n 1, 1), (13, .ifCond .ne 10, 3), (16, .aload_n 0, 1), (17, .getfield 20, 3), (20, .goto 7, 3), (23, .aload_n 0, 1), (24, .getfield 24, 3), (27, .ireturn, 1)], [(20, 0, 2, 2115), (24, 0, 3, 2116)], [], [], 0, fun _ => 0)
theorem ok_Bu_answer : zOK M_Bu_answer := zOK_of (by decide +kernel) (by decide +kernel)
def M_Bu_seekWorst : zMt := (K_Bu_seekWorst, RX0, [(0, .aload_n 0, 1), (1, .bipush (-4), 2), (3, .putfield 20, 3), (6, .iconst 0, 1), (7, .istore_n 2, 1), (8, .iload_n 2, 1), (9, .aload_n 1, 1), (10, .getfield 52, 3), (13, .if_icmp .ge 65, 3), (16, .aload_n 1, 1), (17, .iload_n 2, 1), (18, .invokevirtual 55, 3), (21, .ifCond .eq 6, 3), (24, .goto 48, 3), (27, .aload_n 1, 1), (28, .iload_n 2, 1), (29, .iconst 1, 1), (30, .invokevirtual 90, 3), (33, .aload_n 0, 1), (34, .aload_n 1, 1), (35, .invokevirtual 75, 3), (38, .istore_n 3, 1), (39, .aload_n 1, 1), (40, .iload_n 2, 1), (41, .iconst 0, 1), (42, .invokevirtual 90, 3), (45, .aload_n 0, 1), (46, .getfield 20, 3), (49, .bipush (-4), 2), (51, .if_icmp .eq 11, 3), (54, .iload_n 3, 1), (55, .aload_n 0, 1), (56, .getfield 24, 3), (59, .if_icmp .ge 13, 3), (62, .aload_n 0, 1), (63, .iload_n 3, 1), (64, .putfield 24, 3), (67, .aload_n 0, 1), (68, .iload_n 2, 1), (69, .putfield 20, 3), (72, .iinc 2 1, 3), (75, .goto (-67), 3), (78, .return_, 1)], [(20, 0, 2, 2115), (24, 0, 3, 2116), (52, 1, 2, 1057)], [(55, K_Ho_isWalled, 1, 1, [4034, 3156, 1003, 3154, 3155]), (75, K_Bu_pairsOf, 0, 1, [4235, 4028, 1011, 4026, 4027]), (90, K_Ho_setWalled, 1, 2, [5017, 3120, 1003, 3118, 3119])], [], 0, fun _ => 0)
theorem ok_Bu_seekWorst : zOK M_Bu_seekWorst := zOK_of (by decide +kernel) (by decide +kernel)
def M_Bu_seekMend : zMt := (K_Bu_seekMend, RX0, [(0, .aload_n 1, 1), (1, .invokevirtual 94, 3), (4, .istore_n 2, 1), (5, .iload_n 2, 1), (6, .ifCond .ne 5, 3), (9, .iconst 0, 1), (10, .ireturn, 1), (11, .aload_n 1, 1), (12, .getfield 52, 3), (15, .iconst 1, 1), (16, .iadd, 1), (17, .bipush 14, 2), (19, .if_icmp .gt 16, 3), (22, .aload_n 0, 1), (23, .aload_n 1, 1), (24, .iconst 0, 1), (25, .iload_n 2, 1), (26, .iconst 0, 1), (27, .invokevirtual 98, 3), (30, .ifCond .eq 5, 3), (33, .iconst 1, 1), (34, .ireturn, 1), (35, .aload_n 1, 1), (36, .getfield 52, 3), (39, .iconst 2, 1), (40, .iadd, 1), (41, .bipush 14, 2), (43, .if_icmp .gt 16, 3), (46, .aload_n 0, 1), (47, .aload_n 1, 1), (48, .iload_n 2, 1), (49, .invokevirtual 101, 3), (52, .ifCond .eq 7, 3), (55, .iconst 2, 1), (56, .goto 5, 3), (59, .bipush (-4), 2), (61, .ireturn, 1)], [(52, 1, 2, 1057)], [(94, K_Ho_losing, 1, 0, [5026, 4078, 1003, 4076, 4077]), (98, K_Bu_mendByOne, 0, 4, [5027, 5030, 1011, 5029, 41]), (101, K_Bu_mendByTwo, 0, 2, [5038, 5041, 1011, 5040, 42])], [], 0, fun _ => 0)
theorem ok_Bu_seekMend : zOK M_Bu_seekMend := zOK_of (by decide +kernel) (by decide +kernel)
def M_Bu_mendByOne : zMt := (K_Bu_mendByOne, RX0, [(0, .iload_n 2, 1), (1, .istore 5, 2), (3, .iload 5, 2), (5, .bipush 100, 2), (7, .if_icmp .ge 83, 3), (10, .aload_n 1, 1), (11, .iload 5, 2), (13, .invokestatic 105, 3), (16, .ifCond .eq 68, 3), (19, .iload_n 3, 1), (20, .iload 5, 2), (22, .invokestatic 108, 3), (25, .iconst (-1), 1), (26, .ixor, 1), (27, .iand, 1), (28, .ifCond .eq 6, 3), (31, .goto 53, 3), (34, .aload_n 1, 1), (35, .iload 5, 2), (37, .bipush 10, 2), (39, .idiv, 1), (40, .iload 5, 2), (42, .bipush 10, 2), (44, .irem, 1), (45, .iconst 0, 1), (46, .invokevirtual 83, 3), (49, .pop, 1), (50, .aload_n 1, 1), (51, .invokevirtual 94, 3), (54, .ifCond .ne 7, 3), (57, .iconst 1, 1), (58, .goto 4, 3), (61, .iconst 0, 1), (62, .istore 6, 2), (64, .aload_n 1, 1), (65, .invokevirtual 87, 3), (68, .iload 6, 2), (70, .ifCond .eq 14, 3), (73, .aload_n 0, 1), (74, .getfield 16, 3), (77, .iload 4, 2), (79, .iload 5, 2), (81, .iastore, 1), (82, .iconst 1, 1), (83, .ireturn, 1), (84, .iinc 5 1, 3), (87, .goto (-84), 3), (90, .iconst 0, 1), (91, .ireturn, 1)], [(16, 0, 1, 2113)], [(83, K_Ho_add, 1, 3, [5000, 3094, 1003, 3092, 3093]), (87, K_Ho_dropLatest, 1, 0, [5001, 5004, 1003, 5002, 5003]), (94, K_Ho_losing, 1, 0, [5026, 4078, 1003, 4076, 4077]), (105, K_Bu_isPair, 100, 2, [5031, 5033, 1011, 5032]), (108, K_Bu_roomsOf, 100, 1, [5035, 5037, 1011, 5036])], [], 0, fun _ => 0)
theorem ok_Bu_mendByOne : zOK M_Bu_mendByOne := zOK_of (by decide +kernel) (by decide +kernel)
def M_Bu_isPair : zMt := (K_Bu_isPair, RX0, [(0, .iload_n 1, 1), (1, .bipush 10, 2), (3, .idiv, 1), (4, .iload_n 1, 1), (5, .bipush 10, 2), (7, .irem, 1), (8, .if_icmp .ge 18, 3), (11, .aload_n 0, 1), (12, .iload_n 1, 1), (13, .bipush 10, 2), (15, .irem, 1), (16, .invokevirtual 111, 3), (19, .ifCond .eq 7, 3), (22, .iconst 1, 1), (23, .goto 4, 3), (26, .iconst 0, 1), (27, .ireturn, 1)], [], [(111, K_Ho_hasRoom, 1, 1, [5034, 3116, 1003, 3114, 3115])], [], 0, fun _ => 0)
theorem ok_Bu_isPair : zOK M_Bu_isPair := zOK_of (by decide +kernel) (by decide +kernel)
def M_Bu_roomsOf : zMt := (K_Bu_roomsOf, RX0, [(0, .iconst 1, 1), (1, .iload_n 0, 1), (2, .bipush 10, 2), (4, .idiv, 1), (5, .ishl, 1), (6, .iconst 1, 1), (7, .iload_n 0, 1), (8, .bipush 10, 2), (10, .irem, 1), (11, .ishl, 1), (12, .ior, 1), (13, .ireturn, 1)], [], [], [], 0, fun _ => 0)
theorem ok_Bu_roomsOf : zOK M_Bu_roomsOf := zOK_of (by decide +kernel) (by decide +kernel)
def M_Bu_mendByTwo : zMt := (K_Bu_mendByTwo, RX0, [(0, .iconst 0, 1), (1, .istore_n 3, 1), (2, .iload_n 3, 1), (3, .bipush 100, 2), (5, .if_icmp .ge 69, 3), (8, .aload_n 1, 1), (9, .iload_n 3, 1), (10, .invokestatic 105, 3), (13, .ifCond .ne 6, 3), (16, .goto 52, 3), (19, .aload_n 1, 1), (20, .iload_n 3, 1), (21, .bipush 10, 2), (23, .idiv, 1), (24, .iload_n 3, 1), (25, .bipush 10, 2), (27, .irem, 1), (28, .iconst 0, 1), (29, .invokevirtual 83, 3), (32, .pop, 1), (33, .aload_n 0, 1), (34, .aload_n 1, 1), (35, .iload_n 3, 1), (36, .iload_n 2, 1), (37, .iload_n 3, 1), (38, .invokestatic 108, 3), (41, .iconst (-1), 1), (42, .ixor, 1), (43, .iand, 1), (44, .iconst 1, 1), (45, .invokevirtual 98, 3), (48, .istore 4, 2), (50, .aload_n 1, 1), (51, .invokevirtual 87, 3), (54, .iload 4, 2), (56, .ifCond .eq 12, 3), (59, .aload_n 0, 1), (60, .getfield 16, 3), (63, .iconst 0, 1), (64, .iload_n 3, 1), (65, .iastore, 1), (66, .iconst 1, 1), (67, .ireturn, 1), (68, .iinc 3 1, 3), (71, .goto (-69), 3), (74, .iconst 0, 1), (75, .ireturn, 1)], [(16, 0, 1, 2113)], [(83, K_Ho_add, 1, 3, [5000, 3094, 1003, 3092, 3093]), (87, K_Ho_dropLatest, 1, 0, [5001, 5004, 1003, 5002, 5003]), (98, K_Bu_mendByOne, 0, 4, [5027, 5030, 1011, 5029, 41]), (105, K_Bu_isPair, 100, 2, [5031, 5033, 1011, 5032]), (108, K_Bu_roomsOf, 100, 1, [5035, 5037, 1011, 5036])], [], 0, fun _ => 0)
theorem ok_Bu_mendByTwo : zOK M_Bu_mendByTwo := zOK_of (by decide +kernel) (by decide +kernel)
def M_Tr_seek : zMt := (K_Tr_seek, RX7, [(0, .aload_n 0, 1), (1, .iload_n 3, 1), (2, .putfield 28, 3), (5, .aload_n 0, 1), (6, .iload 4, 2), (8, .putfield 25, 3), (11, .aload_n 0, 1), (12, .iconst 0, 1), (13, .putfield 18, 3), (16, .aload_n 0, 1), (17, .iconst 0, 1), (18, .putfield 22, 3), (21, .aload_n 0, 1), (22, .aload_n 1, 1), (23, .iconst 0, 1), (24, .iload_n 2, 1), (25, .iconst (-1), 1), (26, .iconst (-1), 1), (27, .iload 4, 2), (29, .invokevirtual 31, 3), (32, .return_, 1)], [(18, 7, 2, 2135), (22, 7, 3, 2137), (25, 7, 4, 2139), (28, 7, 5, 2140)], [(31, K_Tr_follow, 7, 6, [5062, 5065, 1012, 5064, 43])], [], 0, fun _ => 0)
theorem ok_Tr_seek : zOK M_Tr_seek := zOK_of (by decide +kernel) (by decide +kernel)
def M_Tr_follow : zMt := (K_Tr_follow, RX7, [(0, .iload 6, 2), (2, .invokestatic 35, 3), (5, .aload_n 0, 1), (6, .getfield 28, 3), (9, .iload_n 2, 1), (10, .isub, 1), (11, .if_icmp .le 4, 3), (14, .return_, 1), (15, .iload_n 2, 1), (16, .aload_n 0, 1), (17, .getfield 28, 3), (20, .if_icmp .ge 9, 3), (23, .iload_n 2, 1), (24, .bipush 6, 2), (26, .if_icmp .lt 11, 3), (29, .aload_n 0, 1), (30, .iload_n 3, 1), (31, .invokevirtual 41, 3), (34, .goto 16, 3), (37, .aload_n 0, 1), (38, .aload_n 1, 1), (39, .iload_n 2, 1), (40, .iload_n 3, 1), (41, .iload 4, 2), (43, .iload 5, 2), (45, .iload 6, 2), (47, .invokevirtual 45, 3), (50, .return_, 1)], [(28, 7, 5, 2140)], [(35, K_Jd_bitCount, 100, 1, [5066, 4045, 1020, 4044]), (41, K_Tr_note, 7, 1, [5067, 5070, 1012, 5069, 44]), (45, K_Tr_branch, 7, 6, [5072, 5075, 1012, 5074, 45])], [], 0, fun _ => 0)
theorem ok_Tr_follow : zOK M_Tr_follow := zOK_of (by decide +kernel) (by decide +kernel)
def M_Tr_note : zMt := (K_Tr_note, RX7, [(0, .aload_n 0, 1), (1, .getfield 18, 3), (4, .ifCond .ne 18, 3), (7, .aload_n 0, 1), (8, .getfield 15, 3), (11, .iconst 0, 1), (12, .aload_n 0, 1), (13, .getfield 9, 3), (16, .iconst 0, 1), (17, .bipush 6, 2), (19, .invokestatic 61, 3), (22, .aload_n 0, 1), (23, .dup, 1), (24, .getfield 18, 3), (27, .iconst 1, 1), (28, .iadd, 1), (29, .putfield 18, 3), (32, .aload_n 0, 1), (33, .dup, 1), (34, .getfield 22, 3), (37, .iconst 1, 1), (38, .iload_n 1, 1), (39, .ishl, 1), (40, .ior, 1), (41, .putfield 22, 3), (44, .return_, 1)], [(9, 7, 0, 2132), (15, 7, 1, 2134), (18, 7, 2, 2135), (22, 7, 3, 2137)], [(61, K_Jd_fill, 101, 5, [5071, 3131, 3130, 1019])], [], 0, fun _ => 0)
theorem ok_Tr_note : zOK M_Tr_note := zOK_of (by decide +kernel) (by decide +kernel)
def M_Tr_branch : zMt := (K_Tr_branch, RX7, [(0, .aload_n 1, 1), (1, .iload_n 3, 1), (2, .iload 4, 2), (4, .iload 5, 2), (6, .invokevirtual 48, 3), (9, .aload_n 0, 1), (10, .getfield 25, 3), (13, .iand, 1), (14, .istore 7, 2), (16, .iconst 0, 1), (17, .istore 8, 2), (19, .iload 8, 2), (21, .aload_n 1, 1), (22, .getfield 54, 3), (25, .if_icmp .ge 55, 3), (28, .iload 7, 2), (30, .iload 8, 2), (32, .ishr, 1), (33, .iconst 1, 1), (34, .iand, 1), (35, .ifCond .eq 39, 3), (38, .aload_n 0, 1), (39, .getfield 15, 3), (42, .iload_n 2, 1), (43, .iload 8, 2), (45, .iastore, 1), (46, .aload_n 0, 1), (47, .aload_n 1, 1), (48, .iload_n 2, 1), (49, .iconst 1, 1), (50, .iadd, 1), (51, .aload_n 1, 1), (52, .iload 8, 2), (54, .iload_n 3, 1), (55, .invokevirtual 57, 3), (58, .iload 8, 2), (60, .iload 4, 2), (62, .iload 6, 2), (64, .iconst 1, 1), (65, .iload 8, 2), (67, .ishl, 1), (68, .iconst (-1), 1), (69, .ixor, 1), (70, .iand, 1), (71, .invokevirtual 31, 3), (74, .iinc 8 1, 3), (77, .goto (-58), 3), (80, .return_, 1)], [(15, 7, 1, 2134), (25, 7, 4, 2139), (54, 1, 2, 1056)], [(31, K_Tr_follow, 7, 6, [5062, 5065, 1012, 5064, 43]), (48, K_Ho_choices, 1, 3, [5076, 3175, 1003, 3173, 3174]), (57, K_Ho_beyond, 1, 2, [5077, 3213, 1003, 3211, 3212])], [], 0, fun _ => 0)
theorem ok_Tr_branch : zOK M_Tr_branch := zOK_of (by decide +kernel) (by decide +kernel)
def M_Sh_renew : zMt := (K_Sh_renew, RX4, [(0, .aload_n 0, 1), (1, .iload_n 1, 1), (2, .putfield 15, 3), (5, .aload_n 0, 1), (6, .iload_n 2, 1), (7, .putfield 19, 3), (10, .aload_n 0, 1), (11, .getfield 9, 3), (14, .iconst 0, 1), (15, .invokestatic 22, 3), (18, .return_, 1)], [(9, 4, 0, 1161), (15, 4, 1, 1163), (19, 4, 2, 1165)], [(22, K_Jd_fill, 100, 2, [5100, 2224, 1014, 2223])], [], 0, fun _ => 0)
theorem ok_Sh_renew : zOK M_Sh_renew := zOK_of (by decide +kernel) (by decide +kernel)
def M_Sh_faultAt : zMt := (K_Sh_faultAt, RX4, [(0, .aload_n 0, 1), (1, .getfield 15, 3), (4, .iconst (-1), 1), (5, .if_icmp .ne 5, 3), (8, .iconst 1, 1), (9, .ireturn, 1), (10, .aload_n 0, 1), (11, .getfield 15, 3), (14, .iload_n 1, 1), (15, .if_icmp .eq 5, 3), (18, .iconst 3, 1), (19, .ireturn, 1), (20, .iload_n 2, 1), (21, .ifCond .lt 11, 3), (24, .iload_n 2, 1), (25, .aload_n 0, 1), (26, .getfield 19, 3), (29, .if_icmp .lt 7, 3), (32, .iconst 2, 1), (33, .goto 4, 3), (36, .iconst 0, 1), (37, .ireturn, 1)], [(15, 4, 1, 1163), (19, 4, 2, 1165)], [], [], 0, fun _ => 0)
theorem ok_Sh_faultAt : zOK M_Sh_faultAt := zOK_of (by decide +kernel) (by decide +kernel)
def M_Sh_put : zMt := (K_Sh_put, RX4, [(0, .aload_n 0, 1), (1, .getfield 15, 3), (4, .ifCond .ne 14, 3), (7, .aload_n 0, 1), (8, .getfield 9, 3), (11, .iload_n 1, 1), (12, .iload_n 2, 1), (13, .i2b, 1), (14, .iastore, 1), (15, .goto 29, 3), (18, .aload_n 0, 1), (19, .getfield 15, 3), (22, .iconst 1, 1), (23, .if_icmp .ne 14, 3), (26, .aload_n 0, 1), (27, .getfield 9, 3), (30, .iload_n 1, 1), (31, .iload_n 2, 1), (32, .i2s, 1), (33, .iastore, 1), (34, .goto 10, 3), (37, .aload_n 0, 1), (38, .getfield 9, 3), (41, .iload_n 1, 1), (42, .iload_n 2, 1), (43, .iastore, 1), (44, .return_, 1)], [(9, 4, 0, 1161), (15, 4, 1, 1163)], [], [], 0, fun _ => 0)
theorem ok_Sh_put : zOK M_Sh_put := zOK_of (by decide +kernel) (by decide +kernel)
def M_Pa_lost : zMt := (K_Pa_lost, RX2, [(0, .iconst 0, 1), (1, .istore_n 1, 1), (2, .iconst 0, 1), (3, .istore_n 2, 1), (4, .iload_n 2, 1), (5, .aload_n 0, 1), (6, .getfield 25, 3), (9, .if_icmp .ge 28, 3), (12, .aload_n 0, 1), (13, .getfield 21, 3), (16, .iload_n 2, 1), (17, .aaload, 1), (18, .aload_n 0, 1), (19, .getfield 12, 3), (22, .invokevirtual 52, 3), (25, .ifCond .ne 6, 3), (28, .iinc 1 1, 3), (31, .iinc 2 1, 3), (34, .goto (-30), 3), (37, .iload_n 1, 1), (38, .ireturn, 1)], [(12, 2, 0, 1129), (21, 2, 1, 1132), (25, 2, 2, 1135)], [(52, K_Wa_choices, 9, 1, [5130, 3171, 1004, 3169, 3170])], [], 0, fun _ => 0)
theorem ok_Pa_lost : zOK M_Pa_lost := zOK_of (by decide +kernel) (by decide +kernel)
end
end
section
section
def M_Od_feed : zMt := (K_Od_feed, RX11, [(0, .aload_n 0, 1), (1, .getfield 30, 3), (4, .lload_n 1, 1), (5, .invokevirtual 90, 3), (8, .ifCond .eq 13, 3), (11, .aload_n 0, 1), (12, .getfield 30, 3), (15, .getfield 94, 3), (18, .goto 5, 3), (21, .bipush (-3), 2), (23, .ireturn, 1)], [(30, 11, 3, 2157), (94, 5, 2, 1186)], [(90, K_Ta_append, 5, 1, [2198, 2201, 1006, 2199, 2200])], [], 0, fun _ => 0)
theorem ok_Od_feed : zOK M_Od_feed := zOK_of (by decide +kernel) (by decide +kernel)
def M_Od_end : zMt := (K_Od_end, RX11, [(0, .iload_n 1, 1), (1, .ifCond .lt 14, 3), (4, .iload_n 1, 1), (5, .aload_n 0, 1), (6, .getfield 30, 3), (9, .getfield 94, 3), (12, .if_icmp .le 5, 3), (15, .iconst (-1), 1), (16, .ireturn, 1), (17, .aload_n 0, 1), (18, .getfield 30, 3), (21, .getfield 94, 3), (24, .istore_n 2, 1), (25, .aload_n 0, 1), (26, .getfield 30, 3), (29, .iload_n 1, 1), (30, .putfield 94, 3), (33, .iload_n 2, 1), (34, .ireturn, 1)], [(30, 11, 3, 2157), (94, 5, 2, 1186)], [], [], 0, fun _ => 0)
theorem ok_Od_end : zOK M_Od_end := zOK_of (by decide +kernel) (by decide +kernel)
def M_Od_palace : zMt := (K_Od_palace, RX11, [(0, .aload_n 0, 1), (1, .getfield 30, 3), (4, .invokevirtual 97, 3), (7, .istore_n 1, 1), (8, .aload_n 0, 1), (9, .getfield 30, 3), (12, .iconst 0, 1), (13, .putfield 94, 3), (16, .iload_n 1, 1), (17, .ifCond .ne 14, 3), (20, .bipush (-10), 2), (22, .aload_n 0, 1), (23, .getfield 30, 3), (26, .getfield 101, 3), (29, .isub, 1), (30, .ireturn, 1), (31, .aload_n 0, 1), (32, .getfield 12, 3), (35, .aload_n 0, 1), (36, .getfield 30, 3), (39, .getfield 104, 3), (42, .invokevirtual 107, 3), (45, .aload_n 0, 1), (46, .iconst 0, 1), (47, .putfield 83, 3), (50, .aload_n 0, 1), (51, .getfield 30, 3), (54, .getfield 111, 3), (57, .ireturn, 1)], [(12, 11, 0, 2154), (30, 11, 3, 2157), (83, 11, 11, 2165), (94, 5, 2, 1186), (101, 5, 5, 1192), (104, 5, 1, 1184), (111, 5, 3, 1188)], [(97, K_Ta_understand, 5, 0, [2210, 2213, 1006, 2211, 2212]), (107, K_Pa_take, 2, 1, [3121, 3124, 1002, 3122, 3123])], [], 0, fun _ => 0)
theorem ok_Od_palace : zOK M_Od_palace := zOK_of (by decide +kernel) (by decide +kernel)
def M_Od_fault : zMt := (K_Od_fault, RX11, [(0, .aload_n 0, 1), (1, .getfield 30, 3), (4, .getfield 114, 3), (7, .ireturn, 1)], [(30, 11, 3, 2157), (114, 5, 4, 1190)], [], [], 0, fun _ => 0)
theorem ok_Od_fault : zOK M_Od_fault := zOK_of (by decide +kernel) (by decide +kernel)
def M_Od_rule : zMt := (K_Od_rule, RX11, [(0, .iload_n 1, 1), (1, .tableswitch 72 0 3 #[31, 42, 53, 64], 31), (32, .aload_n 0, 1), (33, .getfield 12, 3), (36, .getfield 117, 3), (39, .getfield 121, 3), (42, .ireturn, 1), (43, .aload_n 0, 1), (44, .getfield 12, 3), (47, .getfield 117, 3), (50, .getfield 126, 3), (53, .ireturn, 1), (54, .aload_n 0, 1), (55, .getfield 12, 3), (58, .getfield 117, 3), (61, .getfield 129, 3), (64, .ireturn, 1), (65, .aload_n 0, 1), (66, .getfield 12, 3), (69, .getfield 132, 3), (72, .ireturn, 1), (73, .iconst (-1), 1), (74, .ireturn, 1)], [(12, 11, 0, 2154), (117, 2, 0, 1130), (121, 1, 0, 1043), (126, 1, 1, 1051), (129, 1, 2, 1059), (132, 2, 2, 1136)], [], [], 0, fun _ => 0)
theorem ok_Od_rule : zOK M_Od_rule := zOK_of (by decide +kernel) (by decide +kernel)
def M_Od_door : zMt := (K_Od_door, RX11, [(0, .aload_n 0, 1), (1, .getfield 12, 3), (4, .getfield 117, 3), (7, .iload_n 1, 1), (8, .invokevirtual 135, 3), (11, .ifCond .ne 5, 3), (14, .iconst (-1), 1), (15, .ireturn, 1), (16, .iload_n 2, 1), (17, .tableswitch 90 0 3 #[31, 44, 57, 70], 31), (48, .aload_n 0, 1), (49, .getfield 12, 3), (52, .getfield 117, 3), (55, .getfield 139, 3), (58, .iload_n 1, 1), (59, .iaload, 1), (60, .ireturn, 1), (61, .aload_n 0, 1), (62, .getfield 12, 3), (65, .getfield 117, 3), (68, .getfield 143, 3), (71, .iload_n 1, 1), (72, .iaload, 1), (73, .ireturn, 1), (74, .aload_n 0, 1), (75, .getfield 12, 3), (78, .getfield 117, 3), (81, .getfield 146, 3), (84, .iload_n 1, 1), (85, .iaload, 1), (86, .ireturn, 1), (87, .aload_n 0, 1), (88, .getfield 12, 3), (91, .getfield 117, 3), (94, .iload_n 1, 1), (95, .invokevirtual 149, 3), (98, .ifCond .eq 7, 3), (101, .iconst 1, 1), (102, .goto 4, 3), (105, .iconst 0, 1), (106, .ireturn, 1), (107, .iconst (-1), 1), (108, .ireturn, 1)], [(12, 11, 0, 2154), (117, 2, 0, 1130), (139, 1, 4, 1066), (143, 1, 5, 1071), (146, 1, 6, 1076)], [(135, K_Ho_hasDoor, 1, 1, [3149, 3152, 1003, 3150, 3151]), (149, K_Ho_isWalled, 1, 1, [3153, 3156, 1003, 3154, 3155])], [], 0, fun _ => 0)
theorem ok_Od_door : zOK M_Od_door := zOK_of (by decide +kernel) (by decide +kernel)
def M_Od_one : zMt := (K_Od_one, RX11, [(0, .aload_n 0, 1), (1, .getfield 12, 3), (4, .iload_n 1, 1), (5, .invokevirtual 152, 3), (8, .ifCond .ne 5, 3), (11, .iconst (-1), 1), (12, .ireturn, 1), (13, .aload_n 0, 1), (14, .getfield 12, 3), (17, .getfield 155, 3), (20, .iload_n 1, 1), (21, .aaload, 1), (22, .astore_n 3, 1), (23, .iload_n 2, 1), (24, .tableswitch 65 0 3 #[32, 37, 45, 53], 32), (56, .aload_n 3, 1), (57, .getfield 159, 3), (60, .ireturn, 1), (61, .aload_n 3, 1), (62, .getfield 162, 3), (65, .invokestatic 165, 3), (68, .ireturn, 1), (69, .aload_n 3, 1), (70, .getfield 169, 3), (73, .invokestatic 165, 3), (76, .ireturn, 1), (77, .aload_n 3, 1), (78, .aload_n 0, 1), (79, .getfield 12, 3), (82, .getfield 117, 3), (85, .invokevirtual 172, 3), (88, .ireturn, 1), (89, .iconst (-1), 1), (90, .ireturn, 1)], [(12, 11, 0, 2154), (117, 2, 0, 1130), (155, 2, 1, 1133), (159, 9, 0, 1111), (162, 9, 1, 1117), (169, 9, 2, 1121)], [(152, K_Pa_hasOne, 2, 1, [3161, 3164, 1002, 3162, 3163]), (165, K_Od_orNone, 100, 1, [3165, 3167, 1001, 3166]), (172, K_Wa_choices, 9, 1, [3168, 3171, 1004, 3169, 3170])], [], 0, fun _ => 0)
theorem ok_Od_one : zOK M_Od_one := zOK_of (by decide +kernel) (by decide +kernel)
def M_Od_orNone : zMt := (K_Od_orNone, RX11, [(0, .iload_n 0, 1), (1, .iconst (-1), 1), (2, .if_icmp .ne 8, 3), (5, .bipush (-4), 2), (7, .goto 4, 3), (10, .iload_n 0, 1), (11, .ireturn, 1)], [], [], [], 0, fun _ => 0)
theorem ok_Od_orNone : zOK M_Od_orNone := zOK_of (by decide +kernel) (by decide +kernel)
def M_Od_doors : zMt := (K_Od_doors, RX11, [(0, .aload_n 0, 1), (1, .getfield 12, 3), (4, .getfield 117, 3), (7, .iload_n 1, 1), (8, .invokevirtual 176, 3), (11, .ifCond .eq 18, 3), (14, .aload_n 0, 1), (15, .getfield 12, 3), (18, .getfield 117, 3), (21, .getfield 179, 3), (24, .iload_n 1, 1), (25, .iaload, 1), (26, .goto 4, 3), (29, .iconst (-1), 1), (30, .ireturn, 1)], [(12, 11, 0, 2154), (117, 2, 0, 1130), (179, 1, 7, 1078)], [(176, K_Ho_hasRoom, 1, 1, [3180, 3116, 1003, 3114, 3115])], [], 0, fun _ => 0)
theorem ok_Od_doors : zOK M_Od_doors := zOK_of (by decide +kernel) (by decide +kernel)
def M_Od_law : zMt := (K_Od_law, RX11, [(0, .iload_n 1, 1), (1, .ifCond .lt 8, 3), (4, .iload_n 1, 1), (5, .iconst 4, 1), (6, .if_icmp .lt 5, 3), (9, .iconst (-1), 1), (10, .ireturn, 1), (11, .aload_n 0, 1), (12, .getfield 12, 3), (15, .getfield 117, 3), (18, .getfield 126, 3), (21, .istore_n 2, 1), (22, .aload_n 0, 1), (23, .getfield 12, 3), (26, .getfield 117, 3), (29, .iload_n 1, 1), (30, .putfield 126, 3), (33, .iload_n 2, 1), (34, .ireturn, 1)], [(12, 11, 0, 2154), (117, 2, 0, 1130), (126, 1, 1, 1051)], [], [], 0, fun _ => 0)
theorem ok_Od_law : zOK M_Od_law := zOK_of (by decide +kernel) (by decide +kernel)
def M_Od_build : zMt := (K_Od_build, RX11, [(0, .aload_n 0, 1), (1, .getfield 12, 3), (4, .getfield 117, 3), (7, .iload_n 1, 1), (8, .invokevirtual 176, 3), (11, .ifCond .eq 31, 3), (14, .aload_n 0, 1), (15, .getfield 12, 3), (18, .getfield 117, 3), (21, .iload_n 2, 1), (22, .invokevirtual 176, 3), (25, .ifCond .eq 17, 3), (28, .iload_n 1, 1), (29, .iload_n 2, 1), (30, .if_icmp .eq 12, 3), (33, .iload_n 3, 1), (34, .ifCond .lt 8, 3), (37, .iload_n 3, 1), (38, .iconst 4, 1), (39, .if_icmp .lt 5, 3), (42, .iconst (-1), 1), (43, .ireturn, 1), (44, .aload_n 0, 1), (45, .getfield 12, 3), (48, .getfield 117, 3), (51, .iload_n 1, 1), (52, .iload_n 2, 1), (53, .iload_n 3, 1), (54, .invokevirtual 182, 3), (57, .ifCond .eq 18, 3), (60, .aload_n 0, 1), (61, .getfield 12, 3), (64, .getfield 117, 3), (67, .getfield 129, 3), (70, .iconst 1, 1), (71, .isub, 1), (72, .goto 5, 3), (75, .bipush (-3), 2), (77, .ireturn, 1)], [(12, 11, 0, 2154), (117, 2, 0, 1130), (129, 1, 2, 1059)], [(176, K_Ho_hasRoom, 1, 1, [3180, 3116, 1003, 3114, 3115]), (182, K_Ho_add, 1, 3, [3189, 3094, 1003, 3092, 3093])], [], 0, fun _ => 0)
theorem ok_Od_build : zOK M_Od_build := zOK_of (by decide +kernel) (by decide +kernel)
def M_Od_wall : zMt := (K_Od_wall, RX11, [(0, .aload_n 0, 1), (1, .getfield 12, 3), (4, .getfield 117, 3), (7, .iload_n 1, 1), (8, .invokevirtual 135, 3), (11, .ifCond .ne 5, 3), (14, .iconst (-1), 1), (15, .ireturn, 1), (16, .aload_n 0, 1), (17, .getfield 12, 3), (20, .getfield 117, 3), (23, .iload_n 1, 1), (24, .invokevirtual 149, 3), (27, .ifCond .eq 7, 3), (30, .iconst 1, 1), (31, .goto 4, 3), (34, .iconst 0, 1), (35, .istore_n 3, 1), (36, .aload_n 0, 1), (37, .getfield 12, 3), (40, .getfield 117, 3), (43, .iload_n 1, 1), (44, .iload_n 2, 1), (45, .invokevirtual 186, 3), (48, .iload_n 3, 1), (49, .ireturn, 1)], [(12, 11, 0, 2154), (117, 2, 0, 1130)], [(135, K_Ho_hasDoor, 1, 1, [3149, 3152, 1003, 3150, 3151]), (149, K_Ho_isWalled, 1, 1, [3153, 3156, 1003, 3154, 3155]), (186, K_Ho_setWalled, 1, 2, [3194, 3120, 1003, 3118, 3119])], [], 0, fun _ => 0)
theorem ok_Od_wall : zOK M_Od_wall := zOK_of (by decide +kernel) (by decide +kernel)
def M_Od_stand : zMt := (K_Od_stand, RX11, [(0, .aload_n 0, 1), (1, .getfield 12, 3), (4, .iload_n 1, 1), (5, .invokevirtual 152, 3), (8, .ifCond .eq 17, 3), (11, .aload_n 0, 1), (12, .getfield 12, 3), (15, .getfield 117, 3), (18, .iload_n 2, 1), (19, .invokevirtual 176, 3), (22, .ifCond .ne 5, 3), (25, .iconst (-1), 1), (26, .ireturn, 1), (27, .aload_n 0, 1), (28, .getfield 12, 3), (31, .getfield 155, 3), (34, .iload_n 1, 1), (35, .aaload, 1), (36, .getfield 159, 3), (39, .istore_n 3, 1), (40, .aload_n 0, 1), (41, .getfield 12, 3), (44, .getfield 155, 3), (47, .iload_n 1, 1), (48, .aaload, 1), (49, .iload_n 2, 1), (50, .invokevirtual 190, 3), (53, .iload_n 3, 1), (54, .ireturn, 1)], [(12, 11, 0, 2154), (117, 2, 0, 1130), (155, 2, 1, 1133), (159, 9, 0, 1111)], [(152, K_Pa_hasOne, 2, 1, [3161, 3164, 1002, 3162, 3163]), (176, K_Ho_hasRoom, 1, 1, [3180, 3116, 1003, 3114, 3115]), (190, K_Wa_standNew, 9, 1, [3199, 3103, 1004, 3101, 3102])], [], 0, fun _ => 0)
theorem ok_Od_stand : zOK M_Od_stand := zOK_of (by decide +kernel) (by decide +kernel)
def M_Od_go : zMt := (K_Od_go, RX11, [(0, .aload_n 0, 1), (1, .getfield 12, 3), (4, .iload_n 1, 1), (5, .invokevirtual 152, 3), (8, .ifCond .eq 17, 3), (11, .aload_n 0, 1), (12, .getfield 12, 3), (15, .getfield 117, 3), (18, .iload_n 2, 1), (19, .invokevirtual 135, 3), (22, .ifCond .ne 5, 3), (25, .iconst (-1), 1), (26, .ireturn, 1), (27, .aload_n 0, 1), (28, .getfield 12, 3), (31, .getfield 155, 3), (34, .iload_n 1, 1), (35, .aaload, 1), (36, .aload_n 0, 1), (37, .getfield 12, 3), (40, .getfield 117, 3), (43, .iload_n 2, 1), (44, .invokevirtual 194, 3), (47, .ifCond .eq 18, 3), (50, .aload_n 0, 1), (51, .getfield 12, 3), (54, .getfield 155, 3), (57, .iload_n 1, 1), (58, .aaload, 1), (59, .getfield 159, 3), (62, .goto 5, 3), (65, .bipush (-4), 2), (67, .ireturn, 1)], [(12, 11, 0, 2154), (117, 2, 0, 1130), (155, 2, 1, 1133), (159, 9, 0, 1111)], [(135, K_Ho_hasDoor, 1, 1, [3149, 3152, 1003, 3150, 3151]), (152, K_Pa_hasOne, 2, 1, [3161, 3164, 1002, 3162, 3163]), (194, K_Wa_step, 9, 2, [3204, 3207, 1004, 3205, 3206])], [], 0, fun _ => 0)
theorem ok_Od_go : zOK M_Od_go := zOK_of (by decide +kernel) (by decide +kernel)
def M_Od_far : zMt := (K_Od_far, RX11, [(0, .aload_n 0, 1), (1, .getfield 12, 3), (4, .iload_n 1, 1), (5, .invokevirtual 152, 3), (8, .ifCond .eq 17, 3), (11, .aload_n 0, 1), (12, .getfield 12, 3), (15, .getfield 117, 3), (18, .iload_n 2, 1), (19, .invokevirtual 176, 3), (22, .ifCond .ne 5, 3), (25, .iconst (-1), 1), (26, .ireturn, 1), (27, .aload_n 0, 1), (28, .getfield 44, 3), (31, .aload_n 0, 1), (32, .getfield 12, 3), (35, .getfield 117, 3), (38, .aload_n 0, 1), (39, .getfield 12, 3), (42, .getfield 155, 3), (45, .iload_n 1, 1), (46, .aaload, 1), (47, .iload_n 2, 1), (48, .invokevirtual 198, 3), (51, .ireturn, 1)], [(12, 11, 0, 2154), (44, 11, 5, 2159), (117, 2, 0, 1130), (155, 2, 1, 1133)], [(152, K_Pa_hasOne, 2, 1, [3161, 3164, 1002, 3162, 3163]), (176, K_Ho_hasRoom, 1, 1, [3180, 3116, 1003, 3114, 3115]), (198, K_Wy_leastTo, 10, 3, [3218, 3221, 1007, 3219, 3220])], [], 0, fun _ => 0)
theorem ok_Od_far : zOK M_Od_far := zOK_of (by decide +kernel) (by decide +kernel)
def M_Od_way : zMt := (K_Od_way, RX11, [(0, .aload_n 0, 1), (1, .getfield 12, 3), (4, .iload_n 1, 1), (5, .invokevirtual 152, 3), (8, .ifCond .eq 21, 3), (11, .aload_n 0, 1), (12, .getfield 12, 3), (15, .getfield 117, 3), (18, .iload_n 2, 1), (19, .invokevirtual 176, 3), (22, .ifCond .eq 7, 3), (25, .iload_n 3, 1), (26, .ifCond .ge 5, 3), (29, .iconst (-1), 1), (30, .ireturn, 1), (31, .aload_n 0, 1), (32, .getfield 44, 3), (35, .aload_n 0, 1), (36, .getfield 12, 3), (39, .getfield 117, 3), (42, .aload_n 0, 1), (43, .getfield 12, 3), (46, .getfield 155, 3), (49, .iload_n 1, 1), (50, .aaload, 1), (51, .iload_n 2, 1), (52, .invokevirtual 198, 3), (55, .istore 4, 2), (57, .iload_n 3, 1), (58, .iload 4, 2), (60, .if_icmp .ge 14, 3), (63, .aload_n 0, 1), (64, .getfield 44, 3), (67, .iload_n 3, 1), (68, .invokevirtual 202, 3), (71, .goto 5, 3), (74, .bipush (-4), 2), (76, .ireturn, 1)], [(12, 11, 0, 2154), (44, 11, 5, 2159), (117, 2, 0, 1130), (155, 2, 1, 1133)], [(152, K_Pa_hasOne, 2, 1, [3161, 3164, 1002, 3162, 3163]), (176, K_Ho_hasRoom, 1, 1, [3180, 3116, 1003, 3114, 3115]), (198, K_Wy_leastTo, 10, 3, [3218, 3221, 1007, 3219, 3220]), (202, K_Wy_stepOf, 10, 1, [4005, 4008, 1007, 4006, 4007])], [], 0, fun _ => 0)
theorem ok_Od_way : zOK M_Od_way := zOK_of (by decide +kernel) (by decide +kernel)
def M_Od_can : zMt := (K_Od_can, RX11, [(0, .aload_n 0, 1), (1, .getfield 12, 3), (4, .iload_n 1, 1), (5, .invokevirtual 152, 3), (8, .ifCond .eq 29, 3), (11, .aload_n 0, 1), (12, .getfield 44, 3), (15, .aload_n 0, 1), (16, .getfield 12, 3), (19, .getfield 117, 3), (22, .aload_n 0, 1), (23, .getfield 12, 3), (26, .getfield 155, 3), (29, .iload_n 1, 1), (30, .aaload, 1), (31, .invokevirtual 205, 3), (34, .goto 4, 3), (37, .iconst (-1), 1), (38, .ireturn, 1)], [(12, 11, 0, 2154), (44, 11, 5, 2159), (117, 2, 0, 1130), (155, 2, 1, 1133)], [(152, K_Pa_hasOne, 2, 1, [3161, 3164, 1002, 3162, 3163]), (205, K_Wy_roomsOf, 10, 2, [4013, 4016, 1007, 4014, 4015])], [], 0, fun _ => 0)
theorem ok_Od_can : zOK M_Od_can := zOK_of (by decide +kernel) (by decide +kernel)
def M_Od_path : zMt := (K_Od_path, RX11, [(0, .aload_n 0, 1), (1, .getfield 12, 3), (4, .getfield 117, 3), (7, .iload_n 1, 1), (8, .invokevirtual 176, 3), (11, .ifCond .eq 17, 3), (14, .aload_n 0, 1), (15, .getfield 12, 3), (18, .getfield 117, 3), (21, .iload_n 2, 1), (22, .invokevirtual 176, 3), (25, .ifCond .ne 5, 3), (28, .iconst (-1), 1), (29, .ireturn, 1), (30, .aload_n 0, 1), (31, .getfield 37, 3), (34, .iload_n 1, 1), (35, .invokevirtual 190, 3), (38, .aload_n 0, 1), (39, .getfield 44, 3), (42, .aload_n 0, 1), (43, .getfield 12, 3), (46, .getfield 117, 3), (49, .aload_n 0, 1), (50, .getfield 37, 3), (53, .iload_n 2, 1), (54, .invokevirtual 198, 3), (57, .ireturn, 1)], [(12, 11, 0, 2154), (37, 11, 4, 2158), (44, 11, 5, 2159), (117, 2, 0, 1130)], [(176, K_Ho_hasRoom, 1, 1, [3180, 3116, 1003, 3114, 3115]), (190, K_Wa_standNew, 9, 1, [3199, 3103, 1004, 3101, 3102]), (198, K_Wy_leastTo, 10, 3, [3218, 3221, 1007, 3219, 3220])], [], 0, fun _ => 0)
theorem ok_Od_path : zOK M_Od_path := zOK_of (by decide +kernel) (by decide +kernel)
def M_Od_pairs : zMt := (K_Od_pairs, RX11, [(0, .aload_n 0, 1), (1, .getfield 72, 3), (4, .aload_n 0, 1), (5, .getfield 12, 3), (8, .getfield 117, 3), (11, .invokevirtual 209, 3), (14, .ireturn, 1)], [(12, 11, 0, 2154), (72, 11, 9, 2163), (117, 2, 0, 1130)], [(209, K_Bu_pairsOf, 0, 1, [4025, 4028, 1011, 4026, 4027])], [], 0, fun _ => 0)
theorem ok_Od_pairs : zOK M_Od_pairs := zOK_of (by decide +kernel) (by decide +kernel)
def M_Od_life : zMt := (K_Od_life, RX11, [(0, .iconst 0, 1), (1, .istore_n 1, 1), (2, .iconst 0, 1), (3, .istore_n 2, 1), (4, .iload_n 2, 1), (5, .aload_n 0, 1), (6, .getfield 12, 3), (9, .getfield 117, 3), (12, .getfield 121, 3), (15, .if_icmp .ge 29, 3), (18, .aload_n 0, 1), (19, .getfield 12, 3), (22, .getfield 117, 3), (25, .iload_n 2, 1), (26, .invokevirtual 212, 3), (29, .ifCond .eq 9, 3), (32, .iload_n 1, 1), (33, .iconst 1, 1), (34, .iload_n 2, 1), (35, .ishl, 1), (36, .ior, 1), (37, .istore_n 1, 1), (38, .iinc 2 1, 3), (41, .goto (-37), 3), (44, .iload_n 1, 1), (45, .ireturn, 1)], [(12, 11, 0, 2154), (117, 2, 0, 1130), (121, 1, 0, 1043)], [(212, K_Ho_isForLife, 1, 1, [4053, 4056, 1003, 4054, 4055])], [], 0, fun _ => 0)
theorem ok_Od_life : zOK M_Od_life := zOK_of (by decide +kernel) (by decide +kernel)
def M_Od_trap : zMt := (K_Od_trap, RX11, [(0, .aload_n 0, 1), (1, .getfield 12, 3), (4, .getfield 117, 3), (7, .iload_n 1, 1), (8, .invokevirtual 176, 3), (11, .ifCond .eq 32, 3), (14, .aload_n 0, 1), (15, .getfield 12, 3), (18, .getfield 117, 3), (21, .iload_n 2, 1), (22, .invokevirtual 135, 3), (25, .ifCond .eq 18, 3), (28, .aload_n 0, 1), (29, .getfield 12, 3), (32, .getfield 117, 3), (35, .iload_n 2, 1), (36, .iload_n 1, 1), (37, .invokevirtual 215, 3), (40, .ifCond .ne 5, 3), (43, .iconst (-1), 1), (44, .ireturn, 1), (45, .aload_n 0, 1), (46, .getfield 12, 3), (49, .getfield 117, 3), (52, .iload_n 2, 1), (53, .invokevirtual 149, 3), (56, .ifCond .eq 6, 3), (59, .bipush (-2), 2), (61, .ireturn, 1), (62, .aload_n 0, 1), (63, .getfield 12, 3), (66, .getfield 117, 3), (69, .iload_n 1, 1), (70, .iload_n 2, 1), (71, .iconst (-1), 1), (72, .invokevirtual 219, 3), (75, .ifCond .ne 7, 3), (78, .iconst 1, 1), (79, .goto 4, 3), (82, .iconst 0, 1), (83, .ireturn, 1)], [(12, 11, 0, 2154), (117, 2, 0, 1130)], [(135, K_Ho_hasDoor, 1, 1, [3149, 3152, 1003, 3150, 3151]), (149, K_Ho_isWalled, 1, 1, [3153, 3156, 1003, 3154, 3155]), (176, K_Ho_hasRoom, 1, 1, [3180, 3116, 1003, 3114, 3115]), (215, K_Ho_isOf, 1, 2, [4062, 4065, 1003, 4063, 4064]), (219, K_Ho_choices, 1, 3, [4066, 3175, 1003, 3173, 3174])], [], 0, fun _ => 0)
theorem ok_Od_trap : zOK M_Od_trap := zOK_of (by decide +kernel) (by decide +kernel)
def M_Od_secret : zMt := (K_Od_secret, RX11, [(0, .iconst 0, 1), (1, .istore_n 1, 1), (2, .iconst 0, 1), (3, .istore_n 2, 1), (4, .iload_n 2, 1), (5, .aload_n 0, 1), (6, .getfield 12, 3), (9, .getfield 117, 3), (12, .getfield 121, 3), (15, .if_icmp .ge 30, 3), (18, .aload_n 0, 1), (19, .getfield 12, 3), (22, .getfield 117, 3), (25, .getfield 179, 3), (28, .iload_n 2, 1), (29, .iaload, 1), (30, .ifCond .ne 9, 3), (33, .iload_n 1, 1), (34, .iconst 1, 1), (35, .iload_n 2, 1), (36, .ishl, 1), (37, .ior, 1), (38, .istore_n 1, 1), (39, .iinc 2 1, 3), (42, .goto (-38), 3), (45, .iload_n 1, 1), (46, .ireturn, 1)], [(12, 11, 0, 2154), (117, 2, 0, 1130), (121, 1, 0, 1043), (179, 1, 7, 1078)], [], [], 0, fun _ => 0)
theorem ok_Od_secret : zOK M_Od_secret := zOK_of (by decide +kernel) (by decide +kernel)
def M_Od_safe : zMt := (K_Od_safe, RX11, [(0, .aload_n 0, 1), (1, .getfield 12, 3), (4, .getfield 117, 3), (7, .invokevirtual 222, 3), (10, .ifCond .ne 7, 3), (13, .iconst 1, 1), (14, .goto 4, 3), (17, .iconst 0, 1), (18, .ireturn, 1)], [(12, 11, 0, 2154), (117, 2, 0, 1130)], [(222, K_Ho_losing, 1, 0, [4075, 4078, 1003, 4076, 4077])], [], 0, fun _ => 0)
theorem ok_Od_safe : zOK M_Od_safe := zOK_of (by decide +kernel) (by decide +kernel)
def M_Od_round : zMt := (K_Od_round, RX11, [(0, .aload_n 0, 1), (1, .getfield 12, 3), (4, .iload_n 1, 1), (5, .invokevirtual 152, 3), (8, .ifCond .eq 31, 3), (11, .iload_n 2, 1), (12, .ifCond .lt 27, 3), (15, .iload_n 2, 1), (16, .iconst 1, 1), (17, .aload_n 0, 1), (18, .getfield 12, 3), (21, .getfield 117, 3), (24, .getfield 121, 3), (27, .ishl, 1), (28, .if_icmp .ge 11, 3), (31, .iload_n 2, 1), (32, .invokestatic 226, 3), (35, .iconst 5, 1), (36, .if_icmp .le 5, 3), (39, .iconst (-1), 1), (40, .ireturn, 1), (41, .aload_n 0, 1), (42, .getfield 51, 3), (45, .aload_n 0, 1), (46, .getfield 12, 3), (49, .getfield 117, 3), (52, .aload_n 0, 1), (53, .getfield 12, 3), (56, .getfield 155, 3), (59, .iload_n 1, 1), (60, .aaload, 1), (61, .iload_n 2, 1), (62, .invokevirtual 231, 3), (65, .ireturn, 1)], [(12, 11, 0, 2154), (51, 11, 6, 2160), (117, 2, 0, 1130), (121, 1, 0, 1043), (155, 2, 1, 1133)], [(152, K_Pa_hasOne, 2, 1, [3161, 3164, 1002, 3162, 3163]), (226, K_Jd_bitCount, 100, 1, [4093, 4045, 1020, 4044]), (231, K_Ro_least, 3, 3, [4094, 4097, 1008, 4095, 4096])], [], 0, fun _ => 0)
theorem ok_Od_round : zOK M_Od_round := zOK_of (by decide +kernel) (by decide +kernel)
def M_Od_tour : zMt := (K_Od_tour, RX11, [(0, .iload_n 2, 1), (1, .bipush 10, 2), (3, .if_icmp .lt 13, 3), (6, .iload_n 2, 1), (7, .bipush 18, 2), (9, .if_icmp .ge 7, 3), (12, .iconst 1, 1), (13, .goto 4, 3), (16, .iconst 0, 1), (17, .istore_n 3, 1), (18, .aload_n 0, 1), (19, .getfield 12, 3), (22, .getfield 117, 3), (25, .iload_n 1, 1), (26, .invokevirtual 176, 3), (29, .ifCond .eq 11, 3), (32, .iload_n 2, 1), (33, .ifCond .eq 9, 3), (36, .iload_n 3, 1), (37, .ifCond .ne 5, 3), (40, .iconst (-1), 1), (41, .ireturn, 1), (42, .aload_n 0, 1), (43, .getfield 12, 3), (46, .getfield 117, 3), (49, .invokevirtual 234, 3), (52, .bipush 8, 2), (54, .if_icmp .le 6, 3), (57, .bipush (-2), 2), (59, .ireturn, 1), (60, .aload_n 0, 1), (61, .getfield 58, 3), (64, .aload_n 0, 1), (65, .getfield 12, 3), (68, .getfield 117, 3), (71, .iload_n 1, 1), (72, .invokevirtual 237, 3), (75, .iload_n 3, 1), (76, .ifCond .eq 24, 3), (79, .aload_n 0, 1), (80, .getfield 58, 3), (83, .aload_n 0, 1), (84, .getfield 12, 3), (87, .getfield 117, 3), (90, .iload_n 2, 1), (91, .bipush 10, 2), (93, .isub, 1), (94, .invokevirtual 241, 3), (97, .goto 10, 3), (100, .aload_n 0, 1), (101, .getfield 58, 3), (104, .invokevirtual 244, 3), (107, .ireturn, 1)], [(12, 11, 0, 2154), (58, 11, 7, 2161), (117, 2, 0, 1130)], [(176, K_Ho_hasRoom, 1, 1, [3180, 3116, 1003, 3114, 3115]), (234, K_Ho_openDoors, 1, 0, [4133, 4136, 1003, 4134, 4135]), (237, K_To_prepare, 6, 2, [4138, 4141, 1009, 4139, 4140]), (241, K_To_stepOf, 6, 2, [4156, 4159, 1009, 4157, 4158]), (244, K_To_all, 6, 0, [4164, 4163, 1009, 4161, 4162])], [], 0, fun _ => 0)
theorem ok_Od_tour : zOK M_Od_tour := zOK_of (by decide +kernel) (by decide +kernel)
def M_Od_talk : zMt := (K_Od_talk, RX11, [(0, .aload_n 0, 1), (1, .getfield 12, 3), (4, .iload_n 1, 1), (5, .invokevirtual 152, 3), (8, .ifCond .eq 29, 3), (11, .aload_n 0, 1), (12, .getfield 12, 3), (15, .iload_n 2, 1), (16, .invokevirtual 152, 3), (19, .ifCond .eq 18, 3), (22, .iload_n 1, 1), (23, .iload_n 2, 1), (24, .if_icmp .eq 13, 3), (27, .iload_n 3, 1), (28, .iconst 1, 1), (29, .if_icmp .lt 8, 3), (32, .iload_n 3, 1), (33, .iconst 5, 1), (34, .if_icmp .le 5, 3), (37, .iconst (-1), 1), (38, .ireturn, 1), (39, .aload_n 0, 1), (40, .getfield 12, 3), (43, .getfield 117, 3), (46, .getfield 126, 3), (49, .iconst 1, 1), (50, .if_icmp .ne 6, 3), (53, .bipush (-2), 2), (55, .ireturn, 1), (56, .aload_n 0, 1), (57, .getfield 65, 3), (60, .aload_n 0, 1), (61, .getfield 12, 3), (64, .getfield 117, 3), (67, .aload_n 0, 1), (68, .getfield 12, 3), (71, .getfield 155, 3), (74, .iload_n 1, 1), (75, .aaload, 1), (76, .aload_n 0, 1), (77, .getfield 12, 3), (80, .getfield 155, 3), (83, .iload_n 2, 1), (84, .aaload, 1), (85, .invokevirtual 247, 3), (88, .aload_n 0, 1), (89, .getfield 65, 3), (92, .iload_n 3, 1), (93, .invokevirtual 250, 3), (96, .ireturn, 1)], [(12, 11, 0, 2154), (65, 11, 8, 2162), (117, 2, 0, 1130), (126, 1, 1, 1051), (155, 2, 1, 1133)], [(152, K_Pa_hasOne, 2, 1, [3161, 3164, 1002, 3162, 3163]), (247, K_Tw_prepare, 8, 3, [4169, 4172, 1010, 4170, 4171]), (250, K_Tw_untilTalked, 8, 1, [4182, 4185, 1010, 4183, 4184])], [], 0, fun _ => 0)
theorem ok_Od_talk : zOK M_Od_talk := zOK_of (by decide +kernel) (by decide +kernel)
def M_Od_cup : zMt := (K_Od_cup, RX11, [(0, .aload_n 0, 1), (1, .getfield 12, 3), (4, .iload_n 1, 1), (5, .invokevirtual 152, 3), (8, .ifCond .eq 33, 3), (11, .aload_n 0, 1), (12, .getfield 12, 3), (15, .iload_n 2, 1), (16, .invokevirtual 152, 3), (19, .ifCond .eq 22, 3), (22, .iload_n 1, 1), (23, .iload_n 2, 1), (24, .if_icmp .eq 17, 3), (27, .aload_n 0, 1), (28, .getfield 12, 3), (31, .getfield 117, 3), (34, .iload_n 3, 1), (35, .invokevirtual 176, 3), (38, .ifCond .ne 5, 3), (41, .iconst (-1), 1), (42, .ireturn, 1), (43, .aload_n 0, 1), (44, .getfield 12, 3), (47, .getfield 117, 3), (50, .getfield 126, 3), (53, .iconst 1, 1), (54, .if_icmp .ne 6, 3), (57, .bipush (-2), 2), (59, .ireturn, 1), (60, .aload_n 0, 1), (61, .getfield 65, 3), (64, .aload_n 0, 1), (65, .getfield 12, 3), (68, .getfield 117, 3), (71, .aload_n 0, 1), (72, .getfield 12, 3), (75, .getfield 155, 3), (78, .iload_n 1, 1), (79, .aaload, 1), (80, .aload_n 0, 1), (81, .getfield 12, 3), (84, .getfield 155, 3), (87, .iload_n 2, 1), (88, .aaload, 1), (89, .invokevirtual 247, 3), (92, .aload_n 0, 1), (93, .getfield 65, 3), (96, .iload_n 3, 1), (97, .invokevirtual 253, 3), (100, .ireturn, 1)], [(12, 11, 0, 2154), (65, 11, 8, 2162), (117, 2, 0, 1130), (126, 1, 1, 1051), (155, 2, 1, 1133)], [(152, K_Pa_hasOne, 2, 1, [3161, 3164, 1002, 3162, 3163]), (176, K_Ho_hasRoom, 1, 1, [3180, 3116, 1003, 3114, 3115]), (247, K_Tw_prepare, 8, 3, [4169, 4172, 1010, 4170, 4171]), (253, K_Tw_untilCupIn, 8, 1, [4215, 4218, 1010, 4216, 4217])], [], 0, fun _ => 0)
theorem ok_Od_cup : zOK M_Od_cup := zOK_of (by decide +kernel) (by decide +kernel)
def M_Od_more : zMt := (K_Od_more, RX11, [(0, .iload_n 1, 1), (1, .ifCond .lt 8, 3), (4, .iload_n 1, 1), (5, .iconst 1, 1), (6, .if_icmp .le 5, 3), (9, .iconst (-1), 1), (10, .ireturn, 1), (11, .aload_n 0, 1), (12, .getfield 12, 3), (15, .getfield 117, 3), (18, .getfield 129, 3), (21, .bipush 14, 2), (23, .if_icmp .lt 6, 3), (26, .bipush (-2), 2), (28, .ireturn, 1), (29, .aload_n 0, 1), (30, .getfield 72, 3), (33, .aload_n 0, 1), (34, .getfield 12, 3), (37, .getfield 117, 3), (40, .invokevirtual 256, 3), (43, .aload_n 0, 1), (44, .getfield 72, 3), (47, .iload_n 1, 1), (48, .invokevirtual 260, 3), (51, .ireturn, 1)], [(12, 11, 0, 2154), (72, 11, 9, 2163), (117, 2, 0, 1130), (129, 1, 2, 1059)], [(256, K_Bu_seekMore, 0, 1, [4231, 4234, 1011, 4232, 4233]), (260, K_Bu_answer, 0, 1, [5005, 5008, 1011, 5006, 5007])], [], 0, fun _ => 0)
theorem ok_Od_more : zOK M_Od_more := zOK_of (by decide +kernel) (by decide +kernel)
def M_Od_worst : zMt := (K_Od_worst, RX11, [(0, .iload_n 1, 1), (1, .ifCond .lt 8, 3), (4, .iload_n 1, 1), (5, .iconst 1, 1), (6, .if_icmp .le 5, 3), (9, .iconst (-1), 1), (10, .ireturn, 1), (11, .aload_n 0, 1), (12, .getfield 72, 3), (15, .aload_n 0, 1), (16, .getfield 12, 3), (19, .getfield 117, 3), (22, .invokevirtual 263, 3), (25, .aload_n 0, 1), (26, .getfield 72, 3), (29, .iload_n 1, 1), (30, .invokevirtual 260, 3), (33, .ireturn, 1)], [(12, 11, 0, 2154), (72, 11, 9, 2163), (117, 2, 0, 1130)], [(260, K_Bu_answer, 0, 1, [5005, 5008, 1011, 5006, 5007]), (263, K_Bu_seekWorst, 0, 1, [5013, 5016, 1011, 5014, 5015])], [], 0, fun _ => 0)
theorem ok_Od_worst : zOK M_Od_worst := zOK_of (by decide +kernel) (by decide +kernel)
def M_Od_mend : zMt := (K_Od_mend, RX11, [(0, .iload_n 1, 1), (1, .ifCond .lt 8, 3), (4, .iload_n 1, 1), (5, .iconst 2, 1), (6, .if_icmp .le 5, 3), (9, .iconst (-1), 1), (10, .ireturn, 1), (11, .aload_n 0, 1), (12, .getfield 72, 3), (15, .aload_n 0, 1), (16, .getfield 12, 3), (19, .getfield 117, 3), (22, .invokevirtual 266, 3), (25, .istore_n 2, 1), (26, .iload_n 1, 1), (27, .ifCond .ne 5, 3), (30, .iload_n 2, 1), (31, .ireturn, 1), (32, .iload_n 1, 1), (33, .iload_n 2, 1), (34, .if_icmp .gt 17, 3), (37, .aload_n 0, 1), (38, .getfield 72, 3), (41, .getfield 269, 3), (44, .iload_n 1, 1), (45, .iconst 1, 1), (46, .isub, 1), (47, .iaload, 1), (48, .goto 5, 3), (51, .bipush (-4), 2), (53, .ireturn, 1)], [(12, 11, 0, 2154), (72, 11, 9, 2163), (117, 2, 0, 1130), (269, 0, 1, 2114)], [(266, K_Bu_seekMend, 0, 1, [5022, 5025, 1011, 5023, 5024])], [], 0, fun _ => 0)
theorem ok_Od_mend : zOK M_Od_mend := zOK_of (by decide +kernel) (by decide +kernel)
def M_Od_tell : zMt := (K_Od_tell, RX11, [(0, .aload_n 0, 1), (1, .getfield 12, 3), (4, .getfield 117, 3), (7, .iload_n 1, 1), (8, .invokevirtual 135, 3), (11, .ifCond .ne 5, 3), (14, .iconst (-1), 1), (15, .ireturn, 1), (16, .aload_n 0, 1), (17, .getfield 12, 3), (20, .getfield 272, 3), (23, .bipush 12, 2), (25, .if_icmp .lt 6, 3), (28, .bipush (-3), 2), (30, .ireturn, 1), (31, .aload_n 0, 1), (32, .getfield 12, 3), (35, .getfield 275, 3), (38, .aload_n 0, 1), (39, .getfield 12, 3), (42, .getfield 272, 3), (45, .iload_n 1, 1), (46, .iastore, 1), (47, .aload_n 0, 1), (48, .getfield 12, 3), (51, .dup, 1), (52, .getfield 272, 3), (55, .iconst 1, 1), (56, .iadd, 1), (57, .putfield 272, 3), (60, .aload_n 0, 1), (61, .getfield 12, 3), (64, .getfield 272, 3), (67, .ireturn, 1)], [(12, 11, 0, 2154), (117, 2, 0, 1130), (272, 2, 4, 1141), (275, 2, 3, 1139)], [(135, K_Ho_hasDoor, 1, 1, [3149, 3152, 1003, 3150, 3151])], [], 0, fun _ => 0)
theorem ok_Od_tell : zOK M_Od_tell := zOK_of (by decide +kernel) (by decide +kernel)
def M_Od_forget : zMt := (K_Od_forget, RX11, [(0, .aload_n 0, 1), (1, .getfield 12, 3), (4, .getfield 272, 3), (7, .istore_n 1, 1), (8, .aload_n 0, 1), (9, .getfield 12, 3), (12, .iconst 0, 1), (13, .putfield 272, 3), (16, .iload_n 1, 1), (17, .ireturn, 1)], [(12, 11, 0, 2154), (272, 2, 4, 1141)], [], [], 0, fun _ => 0)
theorem ok_Od_forget : zOK M_Od_forget := zOK_of (by decide +kernel) (by decide +kernel)
def M_Od_judge : zMt := (K_Od_judge, RX11, [(0, .aload_n 0, 1), (1, .getfield 12, 3), (4, .getfield 117, 3), (7, .iload_n 1, 1), (8, .invokevirtual 176, 3), (11, .ifCond .ne 5, 3), (14, .iconst (-1), 1), (15, .ireturn, 1), (16, .aload_n 0, 1), (17, .getfield 37, 3), (20, .iload_n 1, 1), (21, .invokevirtual 190, 3), (24, .iconst 0, 1), (25, .istore_n 2, 1), (26, .iload_n 2, 1), (27, .aload_n 0, 1), (28, .getfield 12, 3), (31, .getfield 272, 3), (34, .if_icmp .ge 37, 3), (37, .aload_n 0, 1), (38, .getfield 37, 3), (41, .aload_n 0, 1), (42, .getfield 12, 3), (45, .getfield 117, 3), (48, .aload_n 0, 1), (49, .getfield 12, 3), (52, .getfield 275, 3), (55, .iload_n 2, 1), (56, .iaload, 1), (57, .invokevirtual 194, 3), (60, .ifCond .ne 5, 3), (63, .iload_n 2, 1), (64, .ireturn, 1), (65, .iinc 2 1, 3), (68, .goto (-42), 3), (71, .bipush (-4), 2), (73, .ireturn, 1)], [(12, 11, 0, 2154), (37, 11, 4, 2158), (117, 2, 0, 1130), (272, 2, 4, 1141), (275, 2, 3, 1139)], [(176, K_Ho_hasRoom, 1, 1, [3180, 3116, 1003, 3114, 3115]), (190, K_Wa_standNew, 9, 1, [3199, 3103, 1004, 3101, 3102]), (194, K_Wa_step, 9, 2, [3204, 3207, 1004, 3205, 3206])], [], 0, fun _ => 0)
theorem ok_Od_judge : zOK M_Od_judge := zOK_of (by decide +kernel) (by decide +kernel)
def M_Od_ajar : zMt := (K_Od_ajar, RX11, [(0, .iload 4, 2), (2, .bipush 10, 2), (4, .if_icmp .lt 14, 3), (7, .iload 4, 2), (9, .bipush 16, 2), (11, .if_icmp .ge 7, 3), (14, .iconst 1, 1), (15, .goto 4, 3), (18, .iconst 0, 1), (19, .istore 5, 2), (21, .aload_n 0, 1), (22, .getfield 12, 3), (25, .getfield 117, 3), (28, .iload_n 1, 1), (29, .invokevirtual 176, 3), (32, .ifCond .eq 29, 3), (35, .iload_n 2, 1), (36, .ifCond .lt 25, 3), (39, .iload_n 2, 1), (40, .bipush 6, 2), (42, .if_icmp .gt 19, 3), (45, .iload 4, 2), (47, .ifCond .eq 16, 3), (50, .iload 4, 2), (52, .iconst 1, 1), (53, .if_icmp .eq 10, 3), (56, .iload 5, 2), (58, .ifCond .ne 5, 3), (61, .iconst (-1), 1), (62, .ireturn, 1), (63, .iload_n 3, 1), (64, .ifCond .lt 19, 3), (67, .iload_n 3, 1), (68, .iconst 1, 1), (69, .aload_n 0, 1), (70, .getfield 12, 3), (73, .getfield 117, 3), (76, .getfield 129, 3), (79, .ishl, 1), (80, .if_icmp .lt 5, 3), (83, .iconst (-1), 1), (84, .ireturn, 1), (85, .aload_n 0, 1), (86, .getfield 79, 3), (89, .aload_n 0, 1), (90, .getfield 12, 3), (93, .getfield 117, 3), (96, .iload_n 1, 1), (97, .iload_n 2, 1), (98, .iload_n 3, 1), (99, .invokevirtual 278, 3), (102, .iload 5, 2), (104, .ifCond .eq 41, 3), (107, .aload_n 0, 1), (108, .getfield 79, 3), (111, .getfield 282, 3), (114, .ifCond .le 28, 3), (117, .iload 4, 2), (119, .bipush 10, 2), (121, .isub, 1), (122, .iload_n 2, 1), (123, .if_icmp .ge 19, 3), (126, .aload_n 0, 1), (127, .getfield 79, 3), (130, .getfield 285, 3), (133, .iload 4, 2), (135, .bipush 10, 2), (137, .isub, 1), (138, .iaload, 1), (139, .goto 5, 3), (142, .bipush (-4), 2), (144, .ireturn, 1), (145, .iload 4, 2), (147, .ifCond .ne 13, 3), (150, .aload_n 0, 1), (151, .getfield 79, 3), (154, .getfield 282, 3), (157, .goto 10, 3), (160, .aload_n 0, 1), (161, .getfield 79, 3), (164, .getfield 286, 3), (167, .ireturn, 1)], [(12, 11, 0, 2154), (79, 11, 10, 2164), (117, 2, 0, 1130), (129, 1, 2, 1059), (282, 7, 2, 2136), (285, 7, 0, 2133), (286, 7, 3, 2138)], [(176, K_Ho_hasRoom, 1, 1, [3180, 3116, 1003, 3114, 3115]), (278, K_Tr_seek, 7, 4, [5058, 5061, 1012, 5059, 5060])], [], 0, fun _ => 0)
theorem ok_Od_ajar : zOK M_Od_ajar := zOK_of (by decide +kernel) (by decide +kernel)
def M_Od_keep : zMt := (K_Od_keep, RX11, [(0, .iload_n 1, 1), (1, .ifCond .lt 8, 3), (4, .iload_n 1, 1), (5, .iconst 2, 1), (6, .if_icmp .lt 5, 3), (9, .iconst (-1), 1), (10, .ireturn, 1), (11, .aload_n 0, 1), (12, .getfield 83, 3), (15, .iload_n 1, 1), (16, .ishr, 1), (17, .iconst 1, 1), (18, .iand, 1), (19, .istore_n 2, 1), (20, .aload_n 0, 1), (21, .getfield 16, 3), (24, .iload_n 1, 1), (25, .aaload, 1), (26, .aload_n 0, 1), (27, .getfield 12, 3), (30, .invokevirtual 107, 3), (33, .aload_n 0, 1), (34, .dup, 1), (35, .getfield 83, 3), (38, .iconst 1, 1), (39, .iload_n 1, 1), (40, .ishl, 1), (41, .ior, 1), (42, .putfield 83, 3), (45, .iload_n 2, 1), (46, .ireturn, 1)], [(12, 11, 0, 2154), (16, 11, 1, 2155), (83, 11, 11, 2165)], [(107, K_Pa_take, 2, 1, [3121, 3124, 1002, 3122, 3123])], [], 0, fun _ => 0)
theorem ok_Od_keep : zOK M_Od_keep := zOK_of (by decide +kernel) (by decide +kernel)
def M_Od_back : zMt := (K_Od_back, RX11, [(0, .iload_n 1, 1), (1, .ifCond .lt 8, 3), (4, .iload_n 1, 1), (5, .iconst 2, 1), (6, .if_icmp .lt 5, 3), (9, .iconst (-1), 1), (10, .ireturn, 1), (11, .aload_n 0, 1), (12, .getfield 83, 3), (15, .iload_n 1, 1), (16, .ishr, 1), (17, .iconst 1, 1), (18, .iand, 1), (19, .ifCond .ne 6, 3), (22, .bipush (-2), 2), (24, .ireturn, 1), (25, .aload_n 0, 1), (26, .getfield 12, 3), (29, .aload_n 0, 1), (30, .getfield 16, 3), (33, .iload_n 1, 1), (34, .aaload, 1), (35, .invokevirtual 107, 3), (38, .aload_n 0, 1), (39, .getfield 12, 3), (42, .getfield 117, 3), (45, .getfield 129, 3), (48, .ireturn, 1)], [(12, 11, 0, 2154), (16, 11, 1, 2155), (83, 11, 11, 2165), (117, 2, 0, 1130), (129, 1, 2, 1059)], [(107, K_Pa_take, 2, 1, [3121, 3124, 1002, 3122, 3123])], [], 0, fun _ => 0)
theorem ok_Od_back : zOK M_Od_back := zOK_of (by decide +kernel) (by decide +kernel)
def M_Od_sheet : zMt := (K_Od_sheet, RX11, [(0, .iload_n 1, 1), (1, .invokestatic 289, 3), (4, .ifCond .eq 16, 3), (7, .iload_n 2, 1), (8, .invokestatic 292, 3), (11, .ifCond .eq 9, 3), (14, .iload_n 3, 1), (15, .bipush 40, 2), (17, .if_icmp .le 5, 3), (20, .iconst (-1), 1), (21, .ireturn, 1), (22, .iload_n 3, 1), (23, .ifCond .ge 6, 3), (26, .bipush (-14), 2), (28, .ireturn, 1), (29, .aload_n 0, 1), (30, .getfield 23, 3), (33, .iload_n 1, 1), (34, .aaload, 1), (35, .iload_n 2, 1), (36, .iload_n 3, 1), (37, .invokevirtual 295, 3), (40, .iconst 1, 1), (41, .ireturn, 1)], [(23, 11, 2, 2156)], [(289, K_Od_isSheet, 100, 1, [5090, 5092, 1001, 5091]), (292, K_Od_isLane, 100, 1, [5093, 5095, 1001, 5094]), (295, K_Sh_renew, 4, 2, [5096, 5099, 1005, 5097, 5098])], [], 0, fun _ => 0)
theorem ok_Od_sheet : zOK M_Od_sheet := zOK_of (by decide +kernel) (by decide +kernel)
def M_Od_isSheet : zMt := (K_Od_isSheet, RX11, [(0, .iload_n 0, 1), (1, .ifCond .lt 12, 3), (4, .iload_n 0, 1), (5, .iconst 4, 1), (6, .if_icmp .ge 7, 3), (9, .iconst 1, 1), (10, .goto 4, 3), (13, .iconst 0, 1), (14, .ireturn, 1)], [], [], [], 0, fun _ => 0)
theorem ok_Od_isSheet : zOK M_Od_isSheet := zOK_of (by decide +kernel) (by decide +kernel)
def M_Od_isLane : zMt := (K_Od_isLane, RX11, [(0, .iload_n 0, 1), (1, .ifCond .lt 12, 3), (4, .iload_n 0, 1), (5, .iconst 3, 1), (6, .if_icmp .ge 7, 3), (9, .iconst 1, 1), (10, .goto 4, 3), (13, .iconst 0, 1), (14, .ireturn, 1)], [], [], [], 0, fun _ => 0)
theorem ok_Od_isLane : zOK M_Od_isLane := zOK_of (by decide +kernel) (by decide +kernel)
def M_Od_lay : zMt := (K_Od_lay, RX11, [(0, .iload_n 1, 1), (1, .invokestatic 289, 3), (4, .ifCond .ne 5, 3), (7, .iconst (-1), 1), (8, .ireturn, 1), (9, .aload_n 0, 1), (10, .getfield 23, 3), (13, .iload_n 1, 1), (14, .aaload, 1), (15, .aload_n 0, 1), (16, .getfield 23, 3), (19, .iload_n 1, 1), (20, .aaload, 1), (21, .getfield 299, 3), (24, .iload_n 2, 1), (25, .invokevirtual 302, 3), (28, .istore 4, 2), (30, .iload 4, 2), (32, .ifCond .eq 9, 3), (35, .bipush (-10), 2), (37, .iload 4, 2), (39, .isub, 1), (40, .ireturn, 1), (41, .aload_n 0, 1), (42, .getfield 23, 3), (45, .iload_n 1, 1), (46, .aaload, 1), (47, .iload_n 2, 1), (48, .iload_n 3, 1), (49, .invokevirtual 306, 3), (52, .iconst 1, 1), (53, .ireturn, 1)], [(23, 11, 2, 2156), (299, 4, 1, 1164)], [(289, K_Od_isSheet, 100, 1, [5090, 5092, 1001, 5091]), (302, K_Sh_faultAt, 4, 2, [5105, 5108, 1005, 5106, 5107]), (306, K_Sh_put, 4, 2, [5109, 5112, 1005, 5110, 5111])], [], 0, fun _ => 0)
theorem ok_Od_lay : zOK M_Od_lay := zOK_of (by decide +kernel) (by decide +kernel)
def M_Od_read : zMt := (K_Od_read, RX11, [(0, .iload_n 1, 1), (1, .invokestatic 289, 3), (4, .ifCond .eq 33, 3), (7, .iload_n 2, 1), (8, .invokestatic 292, 3), (11, .ifCond .eq 26, 3), (14, .iload 5, 2), (16, .ifCond .lt 21, 3), (19, .iload 5, 2), (21, .bipush 12, 2), (23, .if_icmp .gt 14, 3), (26, .aload_n 0, 1), (27, .getfield 12, 3), (30, .iload_n 3, 1), (31, .invokevirtual 152, 3), (34, .ifCond .ne 5, 3), (37, .iconst (-1), 1), (38, .ireturn, 1), (39, .aload_n 0, 1), (40, .getfield 12, 3), (43, .getfield 155, 3), (46, .iload_n 3, 1), (47, .aaload, 1), (48, .astore 6, 2), (50, .aload_n 0, 1), (51, .getfield 37, 3), (54, .aload 6, 2), (56, .invokevirtual 309, 3), (59, .iconst 0, 1), (60, .istore 7, 2), (62, .iload 7, 2), (64, .iload 5, 2), (66, .if_icmp .ge 85, 3), (69, .aload_n 0, 1), (70, .getfield 23, 3), (73, .iload_n 1, 1), (74, .aaload, 1), (75, .iload_n 2, 1), (76, .iload 4, 2), (78, .iload 7, 2), (80, .iadd, 1), (81, .invokevirtual 302, 3), (84, .istore 8, 2), (86, .iload 8, 2), (88, .ifCond .eq 12, 3), (91, .aload_n 0, 1), (92, .iload 8, 2), (94, .putfield 87, 3), (97, .iload 7, 2), (99, .ireturn, 1), (100, .aload 6, 2), (102, .aload_n 0, 1), (103, .getfield 12, 3), (106, .getfield 117, 3), (109, .aload_n 0, 1), (110, .getfield 23, 3), (113, .iload_n 1, 1), (114, .aaload, 1), (115, .getfield 312, 3), (118, .iload 4, 2), (120, .iload 7, 2), (122, .iadd, 1), (123, .iaload, 1), (124, .invokevirtual 194, 3), (127, .ifCond .ne 18, 3), (130, .aload 6, 2), (132, .aload_n 0, 1), (133, .getfield 37, 3), (136, .invokevirtual 309, 3), (139, .bipush (-20), 2), (141, .iload 7, 2), (143, .isub, 1), (144, .ireturn, 1), (145, .iinc 7 1, 3), (148, .goto (-86), 3), (151, .aload_n 0, 1), (152, .iconst 0, 1), (153, .putfield 87, 3), (156, .iload 5, 2), (158, .ireturn, 1)], [(12, 11, 0, 2154), (23, 11, 2, 2156), (37, 11, 4, 2158), (87, 11, 12, 2166), (117, 2, 0, 1130), (155, 2, 1, 1133), (312, 4, 0, 1162)], [(152, K_Pa_hasOne, 2, 1, [3161, 3164, 1002, 3162, 3163]), (194, K_Wa_step, 9, 2, [3204, 3207, 1004, 3205, 3206]), (289, K_Od_isSheet, 100, 1, [5090, 5092, 1001, 5091]), (292, K_Od_isLane, 100, 1, [5093, 5095, 1001, 5094]), (302, K_Sh_faultAt, 4, 2, [5105, 5108, 1005, 5106, 5107]), (309, K_Wa_take, 9, 1, [5117, 3135, 1004, 3133, 3134])], [], 0, fun _ => 0)
theorem ok_Od_read : zOK M_Od_read := zOK_of (by decide +kernel) (by decide +kernel)
def M_Od_torn : zMt := (K_Od_torn, RX11, [(0, .aload_n 0, 1), (1, .getfield 87, 3), (4, .ireturn, 1)], [(87, 11, 12, 2166)], [], [], 0, fun _ => 0)
theorem ok_Od_torn : zOK M_Od_torn := zOK_of (by decide +kernel) (by decide +kernel)
def M_Od_count : zMt := (K_Od_count, RX11, [(0, .iload_n 1, 1), (1, .tableswitch 110 0 5 #[39, 50, 58, 66, 74, 82], 39), (40, .aload_n 0, 1), (41, .getfield 12, 3), (44, .getfield 117, 3), (47, .invokevirtual 234, 3), (50, .ireturn, 1), (51, .aload_n 0, 1), (52, .getfield 12, 3), (55, .invokevirtual 315, 3), (58, .ireturn, 1), (59, .aload_n 0, 1), (60, .getfield 12, 3), (63, .getfield 272, 3), (66, .ireturn, 1), (67, .aload_n 0, 1), (68, .getfield 83, 3), (71, .invokestatic 226, 3), (74, .ireturn, 1), (75, .aload_n 0, 1), (76, .getfield 30, 3), (79, .getfield 94, 3), (82, .ireturn, 1), (83, .aload_n 0, 1), (84, .getfield 23, 3), (87, .iconst 0, 1), (88, .aaload, 1), (89, .getfield 299, 3), (92, .iconst (-1), 1), (93, .if_icmp .ne 8, 3), (96, .bipush (-4), 2), (98, .goto 12, 3), (101, .aload_n 0, 1), (102, .getfield 23, 3), (105, .iconst 0, 1), (106, .aaload, 1), (107, .getfield 318, 3), (110, .ireturn, 1), (111, .iconst (-1), 1), (112, .ireturn, 1)], [(12, 11, 0, 2154), (23, 11, 2, 2156), (30, 11, 3, 2157), (83, 11, 11, 2165), (94, 5, 2, 1186), (117, 2, 0, 1130), (272, 2, 4, 1141), (299, 4, 1, 1164), (318, 4, 2, 1166)], [(226, K_Jd_bitCount, 100, 1, [4093, 4045, 1020, 4044]), (234, K_Ho_openDoors, 1, 0, [4133, 4136, 1003, 4134, 4135]), (315, K_Pa_lost, 2, 0, [5126, 5129, 1002, 5127, 5128])], [], 0, fun _ => 0)
theorem ok_Od_count : zOK M_Od_count := zOK_of (by decide +kernel) (by decide +kernel)
end
end
section
section
def M_Mo_feed : zMt := (K_Mo_feed, RX12, [(0, .aload_n 0, 1), (1, .getfield 85, 3), (4, .bipush 8, 2), (6, .iadd, 1), (7, .sipush 320, 3), (10, .if_icmp .le 6, 3), (13, .bipush (-3), 2), (15, .ireturn, 1), (16, .bipush 56, 2), (18, .istore_n 3, 1), (19, .iload_n 3, 1), (20, .ifCond .lt 36, 3), (23, .aload_n 0, 1), (24, .getfield 20, 3), (27, .aload_n 0, 1), (28, .getfield 85, 3), (31, .lload_n 1, 1), (32, .iload_n 3, 1), (33, .lshr, 1), (34, .l2i, 1), (35, .sipush 255, 3), (38, .iand, 1), (39, .iastore, 1), (40, .aload_n 0, 1), (41, .dup, 1), (42, .getfield 85, 3), (45, .iconst 1, 1), (46, .iadd, 1), (47, .putfield 85, 3), (50, .iinc 3 (-8), 3), (53, .goto (-34), 3), (56, .aload_n 0, 1), (57, .getfield 85, 3), (60, .ireturn, 1)], [(20, 12, 9, 5146), (85, 12, 10, 5147)], [], [], 0, fun _ => 0)
theorem ok_Mo_feed : zOK M_Mo_feed := zOK_of (by decide +kernel) (by decide +kernel)
def M_Mo_end : zMt := (K_Mo_end, RX12, [(0, .iload_n 1, 1), (1, .i2l, 1), (2, .lconst 0, 1), (3, .aload_n 0, 1), (4, .getfield 85, 3), (7, .i2l, 1), (8, .invokestatic 88, 3), (11, .ifCond .ne 5, 3), (14, .iconst (-1), 1), (15, .ireturn, 1), (16, .aload_n 0, 1), (17, .getfield 85, 3), (20, .istore_n 2, 1), (21, .aload_n 0, 1), (22, .iload_n 1, 1), (23, .putfield 85, 3), (26, .iload_n 2, 1), (27, .ireturn, 1)], [(85, 12, 10, 5147)], [(88, K_Mo_in, 100, 3, [6040, 6042, 1013, 6041])], [], 0, fun _ => 0)
theorem ok_Mo_end : zOK M_Mo_end := zOK_of (by decide +kernel) (by decide +kernel)
def M_Mo_in : zMt := (K_Mo_in, RX12, [(0, .lload_n 0, 1), (1, .lload_n 2, 1), (2, .lcmp, 1), (3, .ifCond .lt 14, 3), (6, .lload_n 0, 1), (7, .lload 4, 2), (9, .lcmp, 1), (10, .ifCond .gt 7, 3), (13, .iconst 1, 1), (14, .goto 4, 3), (17, .iconst 0, 1), (18, .ireturn, 1)], [], [], [], 0, fun _ => 0)
theorem ok_Mo_in : zOK M_Mo_in := zOK_of (by decide +kernel) (by decide +kernel)
def M_Mo_palace : zMt := (K_Mo_palace, RX12, [(0, .aload_n 0, 1), (1, .iconst 0, 1), (2, .putfield 92, 3), (5, .aload_n 0, 1), (6, .iconst 0, 1), (7, .putfield 104, 3), (10, .aload_n 0, 1), (11, .iconst 4, 1), (12, .putfield 168, 3), (15, .aload_n 0, 1), (16, .iconst 0, 1), (17, .putfield 164, 3), (20, .aload_n 0, 1), (21, .iconst 0, 1), (22, .putfield 171, 3), (25, .aload_n 0, 1), (26, .iconst 0, 1), (27, .putfield 147, 3), (30, .aload_n 0, 1), (31, .iconst (-1), 1), (32, .putfield 137, 3), (35, .aload_n 0, 1), (36, .iconst (-1), 1), (37, .putfield 150, 3), (40, .iconst 0, 1), (41, .istore_n 1, 1), (42, .iconst 0, 1), (43, .istore_n 2, 1), (44, .iload_n 2, 1), (45, .bipush 88, 2), (47, .if_icmp .ge 16, 3), (50, .aload_n 0, 1), (51, .getfield 17, 3), (54, .iload_n 2, 1), (55, .iconst 0, 1), (56, .iastore, 1), (57, .iinc 2 1, 3), (60, .goto (-16), 3), (63, .aload_n 0, 1), (64, .invokevirtual 130, 3), (67, .aload_n 0, 1), (68, .getfield 92, 3), (71, .ifCond .ne 20, 3), (74, .aload_n 0, 1), (75, .getfield 101, 3), (78, .ifCond .eq 13, 3), (81, .aload_n 0, 1), (82, .invokevirtual 174, 3), (85, .iinc 1 1, 3), (88, .goto (-21), 3), (91, .aload_n 0, 1), (92, .getfield 92, 3), (95, .ifCond .ne 34, 3), (98, .aload_n 0, 1), (99, .getfield 137, 3), (102, .aload_n 0, 1), (103, .getfield 168, 3), (106, .if_icmp .ge 17, 3), (109, .aload_n 0, 1), (110, .getfield 150, 3), (113, .aload_n 0, 1), (114, .getfield 17, 3), (117, .bipush 56, 2), (119, .iaload, 1), (120, .if_icmp .lt 9, 3), (123, .aload_n 0, 1), (124, .bipush 6, 2), (126, .invokevirtual 122, 3), (129, .aload_n 0, 1), (130, .iconst 0, 1), (131, .putfield 85, 3), (134, .aload_n 0, 1), (135, .aload_n 0, 1), (136, .getfield 92, 3), (139, .putfield 177, 3), (142, .aload_n 0, 1), (143, .getfield 92, 3), (146, .ifCond .le 11, 3), (149, .bipush (-10), 2), (151, .aload_n 0, 1), (152, .getfield 98, 3), (155, .isub, 1), (156, .ireturn, 1), (157, .iconst 0, 1), (158, .istore_n 2, 1), (159, .iload_n 2, 1), (160, .bipush 88, 2), (162, .if_icmp .ge 21, 3), (165, .aload_n 0, 1), (166, .getfield 7, 3), (169, .iload_n 2, 1), (170, .aload_n 0, 1), (171, .getfield 17, 3), (174, .iload_n 2, 1), (175, .iaload, 1), (176, .iastore, 1), (177, .iinc 2 1, 3), (180, .goto (-21), 3), (183, .iconst 0, 1), (184, .istore_n 2, 1), (185, .iload_n 2, 1), (186, .aload_n 0, 1), (187, .invokevirtual 180, 3), (190, .if_icmp .ge 27, 3), (193, .aload_n 0, 1), (194, .getfield 7, 3), (197, .iconst 4, 1), (198, .iload_n 2, 1), (199, .imul, 1), (200, .iconst 3, 1), (201, .iadd, 1), (202, .aload_n 0, 1), (203, .getfield 147, 3), (206, .iload_n 2, 1), (207, .ishr, 1), (208, .iconst 1, 1), (209, .iand, 1), (210, .iastore, 1), (211, .iinc 2 1, 3), (214, .goto (-29), 3), (217, .aload_n 0, 1), (218, .aload_n 0, 1), (219, .getfield 168, 3), (222, .putfield 13, 3), (225, .aload_n 0, 1), (226, .getfield 72, 3), (229, .iconst 0, 1), (230, .iconst 0, 1), (231, .bastore, 1), (232, .aload_n 0, 1), (233, .getfield 72, 3), (236, .iconst 1, 1), (237, .iconst 0, 1), (238, .bastore, 1), (239, .iload_n 1, 1), (240, .ireturn, 1)], [(7, 12, 0, 5137), (13, 12, 1, 5138), (17, 12, 2, 5139), (72, 12, 39, 5176), (85, 12, 10, 5147), (92, 12, 12, 5149), (98, 12, 13, 5150), (101, 12, 16, 5153), (104, 12, 14, 5151), (137, 12, 7, 5144), (147, 12, 6, 5143), (150, 12, 8, 5145), (164, 12, 4, 5141), (168, 12, 3, 5140), (171, 12, 5, 5142), (177, 12, 11, 5148)], [(122, K_Mo_fails, 12, 1, [6059, 6062, 1013, 6061, 48]), (130, K_Mo_step, 12, 0, [6047, 6050, 1013, 6049, 46]), (174, K_Mo_readLine, 12, 0, [6063, 6066, 1013, 6065, 49]), (180, K_Mo_doorMany, 12, 0, [6096, 6099, 1013, 6098, 57])], [], 0, fun _ => 0)
theorem ok_Mo_palace : zOK M_Mo_palace := zOK_of (by decide +kernel) (by decide +kernel)
def M_Mo_step : zMt := (K_Mo_step, RX12, [(0, .aload_n 0, 1), (1, .getfield 92, 3), (4, .ifCond .le 4, 3), (7, .return_, 1), (8, .aload_n 0, 1), (9, .aload_n 0, 1), (10, .getfield 104, 3), (13, .invokevirtual 107, 3), (16, .bipush 32, 2), (18, .if_icmp .ne 16, 3), (21, .aload_n 0, 1), (22, .dup, 1), (23, .getfield 104, 3), (26, .iconst 1, 1), (27, .iadd, 1), (28, .putfield 104, 3), (31, .goto (-23), 3), (34, .aload_n 0, 1), (35, .aload_n 0, 1), (36, .getfield 104, 3), (39, .putfield 95, 3), (42, .aload_n 0, 1), (43, .aload_n 0, 1), (44, .getfield 104, 3), (47, .invokevirtual 107, 3), (50, .istore_n 1, 1), (51, .aload_n 0, 1), (52, .iconst 0, 1), (53, .putfield 111, 3), (56, .iload_n 1, 1), (57, .bipush (-4), 2), (59, .if_icmp .ne 11, 3), (62, .aload_n 0, 1), (63, .iconst 0, 1), (64, .putfield 101, 3), (67, .goto 202, 3), (70, .iload_n 1, 1), (71, .i2l, 1), (72, .ldc2_w 114, 3), (75, .ldc2_w 116, 3), (78, .invokestatic 88, 3), (81, .ifCond .eq 45, 3), (84, .aload_n 0, 1), (85, .aload_n 0, 1), (86, .getfield 104, 3), (89, .invokevirtual 107, 3), (92, .i2l, 1), (93, .ldc2_w 114, 3), (96, .ldc2_w 116, 3), (99, .invokestatic 88, 3), (102, .ifCond .eq 16, 3), (105, .aload_n 0, 1), (106, .dup, 1), (107, .getfield 104, 3), (110, .iconst 1, 1), (111, .iadd, 1), (112, .putfield 104, 3), (115, .goto (-31), 3), (118, .aload_n 0, 1), (119, .iconst 1, 1), (120, .putfield 101, 3), (123, .goto 146, 3), (126, .iload_n 1, 1), (127, .i2l, 1), (128, .ldc2_w 118, 3), (131, .ldc2_w 120, 3), (134, .invokestatic 88, 3), (137, .ifCond .eq 106, 3), (140, .aload_n 0, 1), (141, .aload_n 0, 1), (142, .getfield 104, 3), (145, .invokevirtual 107, 3), (148, .i2l, 1), (149, .ldc2_w 118, 3), (152, .ldc2_w 120, 3), (155, .invokestatic 88, 3), (158, .ifCond .eq 59, 3), (161, .aload_n 0, 1), (162, .aload_n 0, 1), (163, .getfield 104, 3), (166, .aload_n 0, 1), (167, .getfield 95, 3), (170, .isub, 1), (171, .iconst 2, 1), (172, .if_icmp .ge 25, 3), (175, .bipush 10, 2), (177, .aload_n 0, 1), (178, .getfield 111, 3), (181, .imul, 1), (182, .aload_n 0, 1), (183, .aload_n 0, 1), (184, .getfield 104, 3), (187, .invokevirtual 107, 3), (190, .iadd, 1), (191, .bipush 48, 2), (193, .isub, 1), (194, .goto 7, 3), (197, .aload_n 0, 1), (198, .getfield 111, 3), (201, .putfield 111, 3), (204, .aload_n 0, 1), (205, .dup, 1), (206, .getfield 104, 3), (209, .iconst 1, 1), (210, .iadd, 1), (211, .putfield 104, 3), (214, .goto (-74), 3), (217, .aload_n 0, 1), (218, .iconst 2, 1), (219, .putfield 101, 3), (222, .aload_n 0, 1), (223, .getfield 104, 3), (226, .aload_n 0, 1), (227, .getfield 95, 3), (230, .isub, 1), (231, .iconst 2, 1), (232, .if_icmp .le 37, 3), (235, .aload_n 0, 1), (236, .iconst 1, 1), (237, .invokevirtual 122, 3), (240, .goto 29, 3), (243, .aload_n 0, 1), (244, .iconst 3, 1), (245, .putfield 101, 3), (248, .aload_n 0, 1), (249, .dup, 1), (250, .getfield 104, 3), (253, .iconst 1, 1), (254, .iadd, 1), (255, .putfield 104, 3), (258, .iload_n 1, 1), (259, .bipush 59, 2), (261, .if_icmp .eq 8, 3), (264, .aload_n 0, 1), (265, .iconst 1, 1), (266, .invokevirtual 122, 3), (269, .return_, 1)], [(92, 12, 12, 5149), (95, 12, 15, 5152), (101, 12, 16, 5153), (104, 12, 14, 5151), (111, 12, 17, 5154)], [(88, K_Mo_in, 100, 3, [6040, 6042, 1013, 6041]), (107, K_Mo_byteAt, 12, 1, [6051, 6054, 1013, 6053, 47]), (122, K_Mo_fails, 12, 1, [6059, 6062, 1013, 6061, 48])], [(114, 1, 97, 6055), (116, 1, 122, 6056), (118, 1, 48, 6057), (120, 1, 57, 6058)], 0, fun _ => 0)
theorem ok_Mo_step : zOK M_Mo_step := zOK_of (by decide +kernel) (by decide +kernel)
def M_Mo_byteAt : zMt := (K_Mo_byteAt, RX12, [(0, .iload_n 1, 1), (1, .aload_n 0, 1), (2, .getfield 85, 3), (5, .if_icmp .ge 12, 3), (8, .aload_n 0, 1), (9, .getfield 20, 3), (12, .iload_n 1, 1), (13, .iaload, 1), (14, .goto 5, 3), (17, .bipush (-4), 2), (19, .ireturn, 1)], [(20, 12, 9, 5146), (85, 12, 10, 5147)], [], [], 0, fun _ => 0)
theorem ok_Mo_byteAt : zOK M_Mo_byteAt := zOK_of (by decide +kernel) (by decide +kernel)
def M_Mo_fails : zMt := (K_Mo_fails, RX12, [(0, .aload_n 0, 1), (1, .getfield 92, 3), (4, .ifCond .ne 16, 3), (7, .aload_n 0, 1), (8, .iload_n 1, 1), (9, .putfield 92, 3), (12, .aload_n 0, 1), (13, .aload_n 0, 1), (14, .getfield 95, 3), (17, .putfield 98, 3), (20, .return_, 1)], [(92, 12, 12, 5149), (95, 12, 15, 5152), (98, 12, 13, 5150)], [], [], 0, fun _ => 0)
theorem ok_Mo_fails : zOK M_Mo_fails := zOK_of (by decide +kernel) (by decide +kernel)
def M_Mo_readLine : zMt := (K_Mo_readLine, RX12, [(0, .aload_n 0, 1), (1, .invokevirtual 143, 3), (4, .istore_n 1, 1), (5, .iload_n 1, 1), (6, .i2l, 1), (7, .lconst 0, 1), (8, .ldc2_w 153, 3), (11, .invokestatic 88, 3), (14, .ifCond .ne 9, 3), (17, .aload_n 0, 1), (18, .iconst 2, 1), (19, .invokevirtual 122, 3), (22, .return_, 1), (23, .iload_n 1, 1), (24, .iconst 2, 1), (25, .if_icmp .ne 10, 3), (28, .aload_n 0, 1), (29, .invokevirtual 155, 3), (32, .goto 100, 3), (35, .iload_n 1, 1), (36, .iconst 3, 1), (37, .if_icmp .ne 10, 3), (40, .aload_n 0, 1), (41, .invokevirtual 158, 3), (44, .goto 88, 3), (47, .iload_n 1, 1), (48, .iconst 4, 1), (49, .if_icmp .ne 10, 3), (52, .aload_n 0, 1), (53, .invokevirtual 161, 3), (56, .goto 76, 3), (59, .iload_n 1, 1), (60, .ifCond .ne 38, 3), (63, .aload_n 0, 1), (64, .getfield 164, 3), (67, .ifCond .eq 8, 3), (70, .aload_n 0, 1), (71, .iconst 4, 1), (72, .invokevirtual 122, 3), (75, .aload_n 0, 1), (76, .iconst 1, 1), (77, .putfield 164, 3), (80, .aload_n 0, 1), (81, .invokevirtual 130, 3), (84, .aload_n 0, 1), (85, .aload_n 0, 1), (86, .iconst 2, 1), (87, .bipush 10, 2), (89, .invokevirtual 133, 3), (92, .putfield 168, 3), (95, .goto 37, 3), (98, .aload_n 0, 1), (99, .getfield 171, 3), (102, .ifCond .eq 8, 3), (105, .aload_n 0, 1), (106, .iconst 4, 1), (107, .invokevirtual 122, 3), (110, .aload_n 0, 1), (111, .iconst 1, 1), (112, .putfield 171, 3), (115, .aload_n 0, 1), (116, .invokevirtual 130, 3), (119, .aload_n 0, 1), (120, .getfield 17, 3), (123, .bipush 73, 2), (125, .aload_n 0, 1), (126, .iconst 0, 1), (127, .iconst 3, 1), (128, .invokevirtual 133, 3), (131, .iastore, 1), (132, .aload_n 0, 1), (133, .getfield 92, 3), (136, .ifCond .ne 16, 3), (139, .aload_n 0, 1), (140, .getfield 101, 3), (143, .iconst 3, 1), (144, .if_icmp .eq 8, 3), (147, .aload_n 0, 1), (148, .iconst 2, 1), (149, .invokevirtual 122, 3), (152, .aload_n 0, 1), (153, .invokevirtual 130, 3), (156, .return_, 1)], [(17, 12, 2, 5139), (92, 12, 12, 5149), (101, 12, 16, 5153), (164, 12, 4, 5141), (168, 12, 3, 5140), (171, 12, 5, 5142)], [(88, K_Mo_in, 100, 3, [6040, 6042, 1013, 6041]), (122, K_Mo_fails, 12, 1, [6059, 6062, 1013, 6061, 48]), (130, K_Mo_step, 12, 0, [6047, 6050, 1013, 6049, 46]), (133, K_Mo_number, 12, 2, [6084, 6087, 1013, 6086, 54]), (143, K_Mo_nameHere, 12, 0, [6067, 6070, 1013, 6069, 50]), (155, K_Mo_readDoor, 12, 0, [6072, 6075, 1013, 6074, 51]), (158, K_Mo_readOne, 12, 0, [6088, 6091, 1013, 6090, 55]), (161, K_Mo_readWalled, 12, 0, [6092, 6095, 1013, 6094, 56])], [(153, 1, 4, 6071)], 0, fun _ => 0)
theorem ok_Mo_readLine : zOK M_Mo_readLine := zOK_of (by decide +kernel) (by decide +kernel)
def M_Mo_nameHere : zMt := (K_Mo_nameHere, RX12, [(0, .iconst 0, 1), (1, .istore_n 1, 1), (2, .iload_n 1, 1), (3, .bipush 8, 2), (5, .if_icmp .ge 113, 3), (8, .aload_n 0, 1), (9, .getfield 101, 3), (12, .iconst 1, 1), (13, .if_icmp .ne 105, 3), (16, .aload_n 0, 1), (17, .getfield 104, 3), (20, .aload_n 0, 1), (21, .getfield 95, 3), (24, .isub, 1), (25, .aload_n 0, 1), (26, .getfield 23, 3), (29, .iload_n 1, 1), (30, .iconst 1, 1), (31, .iadd, 1), (32, .iaload, 1), (33, .aload_n 0, 1), (34, .getfield 23, 3), (37, .iload_n 1, 1), (38, .iaload, 1), (39, .isub, 1), (40, .if_icmp .ne 7, 3), (43, .iconst 1, 1), (44, .goto 4, 3), (47, .iconst 0, 1), (48, .istore_n 2, 1), (49, .iconst 0, 1), (50, .istore_n 3, 1), (51, .iload_n 2, 1), (52, .ifCond .eq 54, 3), (55, .iload_n 3, 1), (56, .aload_n 0, 1), (57, .getfield 104, 3), (60, .aload_n 0, 1), (61, .getfield 95, 3), (64, .isub, 1), (65, .if_icmp .ge 41, 3), (68, .aload_n 0, 1), (69, .aload_n 0, 1), (70, .getfield 95, 3), (73, .iload_n 3, 1), (74, .iadd, 1), (75, .invokevirtual 107, 3), (78, .aload_n 0, 1), (79, .getfield 26, 3), (82, .aload_n 0, 1), (83, .getfield 23, 3), (86, .iload_n 1, 1), (87, .iaload, 1), (88, .iload_n 3, 1), (89, .iadd, 1), (90, .iaload, 1), (91, .if_icmp .ne 7, 3), (94, .iconst 1, 1), (95, .goto 4, 3), (98, .iconst 0, 1), (99, .istore_n 2, 1), (100, .iinc 3 1, 3), (103, .goto (-52), 3), (106, .iload_n 2, 1), (107, .ifCond .eq 5, 3), (110, .iload_n 1, 1), (111, .ireturn, 1), (112, .iinc 1 1, 3), (115, .goto (-113), 3), (118, .bipush (-4), 2), (120, .ireturn, 1)], [(23, 12, 18, 5155), (26, 12, 19, 5156), (95, 12, 15, 5152), (101, 12, 16, 5153), (104, 12, 14, 5151)], [(107, K_Mo_byteAt, 12, 1, [6051, 6054, 1013, 6053, 47])], [], 0, fun _ => 0)
theorem ok_Mo_nameHere : zOK M_Mo_nameHere := zOK_of (by decide +kernel) (by decide +kernel)
def M_Mo_readDoor : zMt := (K_Mo_readDoor, RX12, [(0, .aload_n 0, 1), (1, .getfield 17, 3), (4, .bipush 56, 2), (6, .iaload, 1), (7, .istore_n 1, 1), (8, .iload_n 1, 1), (9, .bipush 14, 2), (11, .if_icmp .ne 9, 3), (14, .aload_n 0, 1), (15, .iconst 5, 1), (16, .invokevirtual 122, 3), (19, .return_, 1), (20, .aload_n 0, 1), (21, .invokevirtual 130, 3), (24, .aload_n 0, 1), (25, .getfield 17, 3), (28, .iconst 4, 1), (29, .iload_n 1, 1), (30, .imul, 1), (31, .aload_n 0, 1), (32, .bipush (-4), 2), (34, .invokevirtual 140, 3), (37, .iastore, 1), (38, .aload_n 0, 1), (39, .getfield 17, 3), (42, .iconst 4, 1), (43, .iload_n 1, 1), (44, .imul, 1), (45, .iconst 1, 1), (46, .iadd, 1), (47, .aload_n 0, 1), (48, .aload_n 0, 1), (49, .getfield 17, 3), (52, .iconst 4, 1), (53, .iload_n 1, 1), (54, .imul, 1), (55, .iaload, 1), (56, .invokevirtual 140, 3), (59, .iastore, 1), (60, .aload_n 0, 1), (61, .getfield 92, 3), (64, .ifCond .ne 44, 3), (67, .aload_n 0, 1), (68, .getfield 101, 3), (71, .iconst 1, 1), (72, .if_icmp .ne 36, 3), (75, .aload_n 0, 1), (76, .invokevirtual 143, 3), (79, .iconst 5, 1), (80, .isub, 1), (81, .istore_n 2, 1), (82, .iload_n 2, 1), (83, .ifCond .ge 8, 3), (86, .aload_n 0, 1), (87, .iconst 2, 1), (88, .invokevirtual 122, 3), (91, .aload_n 0, 1), (92, .getfield 17, 3), (95, .iconst 4, 1), (96, .iload_n 1, 1), (97, .imul, 1), (98, .iconst 2, 1), (99, .iadd, 1), (100, .iload_n 2, 1), (101, .iconst 1, 1), (102, .iadd, 1), (103, .iastore, 1), (104, .aload_n 0, 1), (105, .invokevirtual 130, 3), (108, .aload_n 0, 1), (109, .getfield 17, 3), (112, .bipush 56, 2), (114, .dup2, 1), (115, .iaload, 1), (116, .iconst 1, 1), (117, .iadd, 1), (118, .iastore, 1), (119, .return_, 1)], [(17, 12, 2, 5139), (92, 12, 12, 5149), (101, 12, 16, 5153)], [(122, K_Mo_fails, 12, 1, [6059, 6062, 1013, 6061, 48]), (130, K_Mo_step, 12, 0, [6047, 6050, 1013, 6049, 46]), (140, K_Mo_room, 12, 1, [6076, 6079, 1013, 6078, 52]), (143, K_Mo_nameHere, 12, 0, [6067, 6070, 1013, 6069, 50])], [], 0, fun _ => 0)
theorem ok_Mo_readDoor : zOK M_Mo_readDoor := zOK_of (by decide +kernel) (by decide +kernel)
def M_Mo_room : zMt := (K_Mo_room, RX12, [(0, .aload_n 0, 1), (1, .iconst 0, 1), (2, .bipush 9, 2), (4, .invokevirtual 126, 3), (7, .aload_n 0, 1), (8, .getfield 92, 3), (11, .ifCond .ne 16, 3), (14, .aload_n 0, 1), (15, .getfield 111, 3), (18, .iload_n 1, 1), (19, .if_icmp .ne 8, 3), (22, .aload_n 0, 1), (23, .iconst 4, 1), (24, .invokevirtual 122, 3), (27, .aload_n 0, 1), (28, .iconst 0, 1), (29, .bipush 9, 2), (31, .invokevirtual 133, 3), (34, .istore_n 2, 1), (35, .aload_n 0, 1), (36, .iload_n 2, 1), (37, .aload_n 0, 1), (38, .getfield 137, 3), (41, .if_icmp .le 7, 3), (44, .iload_n 2, 1), (45, .goto 7, 3), (48, .aload_n 0, 1), (49, .getfield 137, 3), (52, .putfield 137, 3), (55, .iload_n 2, 1), (56, .ireturn, 1)], [(92, 12, 12, 5149), (111, 12, 17, 5154), (137, 12, 7, 5144)], [(122, K_Mo_fails, 12, 1, [6059, 6062, 1013, 6061, 48]), (126, K_Mo_looks, 12, 2, [6080, 6083, 1013, 6082, 53]), (133, K_Mo_number, 12, 2, [6084, 6087, 1013, 6086, 54])], [], 0, fun _ => 0)
theorem ok_Mo_room : zOK M_Mo_room := zOK_of (by decide +kernel) (by decide +kernel)
def M_Mo_looks : zMt := (K_Mo_looks, RX12, [(0, .aload_n 0, 1), (1, .getfield 92, 3), (4, .ifCond .ne 16, 3), (7, .aload_n 0, 1), (8, .getfield 101, 3), (11, .iconst 2, 1), (12, .if_icmp .eq 8, 3), (15, .aload_n 0, 1), (16, .iconst 2, 1), (17, .invokevirtual 122, 3), (20, .aload_n 0, 1), (21, .getfield 92, 3), (24, .ifCond .ne 23, 3), (27, .aload_n 0, 1), (28, .getfield 111, 3), (31, .i2l, 1), (32, .iload_n 1, 1), (33, .i2l, 1), (34, .iload_n 2, 1), (35, .i2l, 1), (36, .invokestatic 88, 3), (39, .ifCond .ne 8, 3), (42, .aload_n 0, 1), (43, .iconst 3, 1), (44, .invokevirtual 122, 3), (47, .return_, 1)], [(92, 12, 12, 5149), (101, 12, 16, 5153), (111, 12, 17, 5154)], [(88, K_Mo_in, 100, 3, [6040, 6042, 1013, 6041]), (122, K_Mo_fails, 12, 1, [6059, 6062, 1013, 6061, 48])], [], 0, fun _ => 0)
theorem ok_Mo_looks : zOK M_Mo_looks := zOK_of (by decide +kernel) (by decide +kernel)
def M_Mo_number : zMt := (K_Mo_number, RX12, [(0, .aload_n 0, 1), (1, .iload_n 1, 1), (2, .iload_n 2, 1), (3, .invokevirtual 126, 3), (6, .aload_n 0, 1), (7, .getfield 92, 3), (10, .ifCond .ne 10, 3), (13, .aload_n 0, 1), (14, .getfield 111, 3), (17, .goto 4, 3), (20, .iload_n 1, 1), (21, .istore_n 3, 1), (22, .aload_n 0, 1), (23, .invokevirtual 130, 3), (26, .iload_n 3, 1), (27, .ireturn, 1)], [(92, 12, 12, 5149), (111, 12, 17, 5154)], [(126, K_Mo_looks, 12, 2, [6080, 6083, 1013, 6082, 53]), (130, K_Mo_step, 12, 0, [6047, 6050, 1013, 6049, 46])], [], 0, fun _ => 0)
theorem ok_Mo_number : zOK M_Mo_number := zOK_of (by decide +kernel) (by decide +kernel)
def M_Mo_readOne : zMt := (K_Mo_readOne, RX12, [(0, .aload_n 0, 1), (1, .getfield 17, 3), (4, .bipush 72, 2), (6, .iaload, 1), (7, .istore_n 1, 1), (8, .iload_n 1, 1), (9, .iconst 5, 1), (10, .if_icmp .ne 9, 3), (13, .aload_n 0, 1), (14, .iconst 5, 1), (15, .invokevirtual 122, 3), (18, .return_, 1), (19, .aload_n 0, 1), (20, .invokevirtual 130, 3), (23, .aload_n 0, 1), (24, .getfield 17, 3), (27, .bipush 57, 2), (29, .iconst 3, 1), (30, .iload_n 1, 1), (31, .imul, 1), (32, .iadd, 1), (33, .aload_n 0, 1), (34, .bipush (-4), 2), (36, .invokevirtual 140, 3), (39, .iastore, 1), (40, .aload_n 0, 1), (41, .getfield 17, 3), (44, .bipush 57, 2), (46, .iconst 3, 1), (47, .iload_n 1, 1), (48, .imul, 1), (49, .iadd, 1), (50, .iconst 1, 1), (51, .iadd, 1), (52, .bipush (-4), 2), (54, .iastore, 1), (55, .aload_n 0, 1), (56, .getfield 17, 3), (59, .bipush 57, 2), (61, .iconst 3, 1), (62, .iload_n 1, 1), (63, .imul, 1), (64, .iadd, 1), (65, .iconst 2, 1), (66, .iadd, 1), (67, .bipush (-4), 2), (69, .iastore, 1), (70, .aload_n 0, 1), (71, .getfield 17, 3), (74, .bipush 72, 2), (76, .dup2, 1), (77, .iaload, 1), (78, .iconst 1, 1), (79, .iadd, 1), (80, .iastore, 1), (81, .return_, 1)], [(17, 12, 2, 5139)], [(122, K_Mo_fails, 12, 1, [6059, 6062, 1013, 6061, 48]), (130, K_Mo_step, 12, 0, [6047, 6050, 1013, 6049, 46]), (140, K_Mo_room, 12, 1, [6076, 6079, 1013, 6078, 52])], [], 0, fun _ => 0)
theorem ok_Mo_readOne : zOK M_Mo_readOne := zOK_of (by decide +kernel) (by decide +kernel)
def M_Mo_readWalled : zMt := (K_Mo_readWalled, RX12, [(0, .aload_n 0, 1), (1, .invokevirtual 130, 3), (4, .aload_n 0, 1), (5, .iconst 0, 1), (6, .bipush 13, 2), (8, .invokevirtual 126, 3), (11, .aload_n 0, 1), (12, .getfield 92, 3), (15, .ifCond .ne 10, 3), (18, .aload_n 0, 1), (19, .getfield 111, 3), (22, .goto 4, 3), (25, .iconst 0, 1), (26, .istore_n 1, 1), (27, .aload_n 0, 1), (28, .getfield 92, 3), (31, .ifCond .ne 20, 3), (34, .aload_n 0, 1), (35, .getfield 147, 3), (38, .iload_n 1, 1), (39, .ishr, 1), (40, .iconst 1, 1), (41, .iand, 1), (42, .iconst 1, 1), (43, .if_icmp .ne 8, 3), (46, .aload_n 0, 1), (47, .iconst 4, 1), (48, .invokevirtual 122, 3), (51, .aload_n 0, 1), (52, .dup, 1), (53, .getfield 147, 3), (56, .iconst 1, 1), (57, .iload_n 1, 1), (58, .ishl, 1), (59, .ior, 1), (60, .putfield 147, 3), (63, .aload_n 0, 1), (64, .aload_n 0, 1), (65, .getfield 92, 3), (68, .ifCond .ne 15, 3), (71, .iload_n 1, 1), (72, .aload_n 0, 1), (73, .getfield 150, 3), (76, .if_icmp .le 7, 3), (79, .iload_n 1, 1), (80, .goto 7, 3), (83, .aload_n 0, 1), (84, .getfield 150, 3), (87, .putfield 150, 3), (90, .aload_n 0, 1), (91, .invokevirtual 130, 3), (94, .return_, 1)], [(92, 12, 12, 5149), (111, 12, 17, 5154), (147, 12, 6, 5143), (150, 12, 8, 5145)], [(122, K_Mo_fails, 12, 1, [6059, 6062, 1013, 6061, 48]), (126, K_Mo_looks, 12, 2, [6080, 6083, 1013, 6082, 53]), (130, K_Mo_step, 12, 0, [6047, 6050, 1013, 6049, 46])], [], 0, fun _ => 0)
theorem ok_Mo_readWalled : zOK M_Mo_readWalled := zOK_of (by decide +kernel) (by decide +kernel)
def M_Mo_doorMany : zMt := (K_Mo_doorMany, RX12, [(0, .aload_n 0, 1), (1, .getfield 7, 3), (4, .bipush 56, 2), (6, .iaload, 1), (7, .ireturn, 1)], [(7, 12, 0, 5137)], [], [], 0, fun _ => 0)
theorem ok_Mo_doorMany : zOK M_Mo_doorMany := zOK_of (by decide +kernel) (by decide +kernel)
def M_Mo_fault : zMt := (K_Mo_fault, RX12, [(0, .aload_n 0, 1), (1, .getfield 177, 3), (4, .ireturn, 1)], [(177, 12, 11, 5148)], [], [], 0, fun _ => 0)
theorem ok_Mo_fault : zOK M_Mo_fault := zOK_of (by decide +kernel) (by decide +kernel)
def M_Mo_rule : zMt := (K_Mo_rule, RX12, [(0, .iload_n 1, 1), (1, .ifCond .ne 10, 3), (4, .aload_n 0, 1), (5, .getfield 13, 3), (8, .goto 43, 3), (11, .iload_n 1, 1), (12, .iconst 1, 1), (13, .if_icmp .ne 13, 3), (16, .aload_n 0, 1), (17, .getfield 7, 3), (20, .bipush 73, 2), (22, .iaload, 1), (23, .goto 28, 3), (26, .iload_n 1, 1), (27, .iconst 2, 1), (28, .if_icmp .ne 10, 3), (31, .aload_n 0, 1), (32, .invokevirtual 180, 3), (35, .goto 16, 3), (38, .iload_n 1, 1), (39, .iconst 3, 1), (40, .if_icmp .ne 10, 3), (43, .aload_n 0, 1), (44, .invokevirtual 183, 3), (47, .goto 4, 3), (50, .iconst (-1), 1), (51, .ireturn, 1)], [(7, 12, 0, 5137), (13, 12, 1, 5138)], [(180, K_Mo_doorMany, 12, 0, [6096, 6099, 1013, 6098, 57]), (183, K_Mo_ones, 12, 0, [6108, 6111, 1013, 6110, 58])], [], 0, fun _ => 0)
theorem ok_Mo_rule : zOK M_Mo_rule := zOK_of (by decide +kernel) (by decide +kernel)
def M_Mo_ones : zMt := (K_Mo_ones, RX12, [(0, .aload_n 0, 1), (1, .getfield 7, 3), (4, .bipush 72, 2), (6, .iaload, 1), (7, .ireturn, 1)], [(7, 12, 0, 5137)], [], [], 0, fun _ => 0)
theorem ok_Mo_ones : zOK M_Mo_ones := zOK_of (by decide +kernel) (by decide +kernel)
def M_Mo_door : zMt := (K_Mo_door, RX12, [(0, .aload_n 0, 1), (1, .iload_n 1, 1), (2, .invokevirtual 186, 3), (5, .ifCond .eq 28, 3), (8, .iload_n 2, 1), (9, .i2l, 1), (10, .lconst 0, 1), (11, .ldc2_w 190, 3), (14, .invokestatic 88, 3), (17, .ifCond .eq 16, 3), (20, .aload_n 0, 1), (21, .getfield 7, 3), (24, .iconst 4, 1), (25, .iload_n 1, 1), (26, .imul, 1), (27, .iload_n 2, 1), (28, .iadd, 1), (29, .iaload, 1), (30, .goto 4, 3), (33, .iconst (-1), 1), (34, .ireturn, 1)], [(7, 12, 0, 5137)], [(88, K_Mo_in, 100, 3, [6040, 6042, 1013, 6041]), (186, K_Mo_isDoor, 12, 1, [6116, 6119, 1013, 6118, 59])], [(190, 1, 3, 6120)], 0, fun _ => 0)
theorem ok_Mo_door : zOK M_Mo_door := zOK_of (by decide +kernel) (by decide +kernel)
def M_Mo_isDoor : zMt := (K_Mo_isDoor, RX12, [(0, .iload_n 1, 1), (1, .i2l, 1), (2, .lconst 0, 1), (3, .aload_n 0, 1), (4, .invokevirtual 180, 3), (7, .iconst 1, 1), (8, .isub, 1), (9, .i2l, 1), (10, .invokestatic 88, 3), (13, .ireturn, 1)], [], [(88, K_Mo_in, 100, 3, [6040, 6042, 1013, 6041]), (180, K_Mo_doorMany, 12, 0, [6096, 6099, 1013, 6098, 57])], [], 0, fun _ => 0)
theorem ok_Mo_isDoor : zOK M_Mo_isDoor := zOK_of (by decide +kernel) (by decide +kernel)
def M_Mo_one : zMt := (K_Mo_one, RX12, [(0, .aload_n 0, 1), (1, .iload_n 1, 1), (2, .invokevirtual 208, 3), (5, .ifCond .eq 15, 3), (8, .iload_n 2, 1), (9, .i2l, 1), (10, .lconst 0, 1), (11, .ldc2_w 190, 3), (14, .invokestatic 88, 3), (17, .ifCond .ne 5, 3), (20, .iconst (-1), 1), (21, .ireturn, 1), (22, .iload_n 2, 1), (23, .iconst 3, 1), (24, .if_icmp .ne 15, 3), (27, .aload_n 0, 1), (28, .aload_n 0, 1), (29, .iload_n 1, 1), (30, .invokevirtual 211, 3), (33, .invokevirtual 205, 3), (36, .goto 16, 3), (39, .aload_n 0, 1), (40, .getfield 7, 3), (43, .bipush 57, 2), (45, .iconst 3, 1), (46, .iload_n 1, 1), (47, .imul, 1), (48, .iadd, 1), (49, .iload_n 2, 1), (50, .iadd, 1), (51, .iaload, 1), (52, .ireturn, 1)], [(7, 12, 0, 5137)], [(88, K_Mo_in, 100, 3, [6040, 6042, 1013, 6041]), (205, K_Mo_mayTake, 12, 1, [6136, 6139, 1013, 6138, 62]), (208, K_Mo_isOne, 12, 1, [6125, 6128, 1013, 6127, 60]), (211, K_Mo_placeOfOne, 12, 1, [6129, 6132, 1013, 6131, 61])], [(190, 1, 3, 6120)], 0, fun _ => 0)
theorem ok_Mo_one : zOK M_Mo_one := zOK_of (by decide +kernel) (by decide +kernel)
def M_Mo_isOne : zMt := (K_Mo_isOne, RX12, [(0, .iload_n 1, 1), (1, .i2l, 1), (2, .lconst 0, 1), (3, .aload_n 0, 1), (4, .invokevirtual 183, 3), (7, .iconst 1, 1), (8, .isub, 1), (9, .i2l, 1), (10, .invokestatic 88, 3), (13, .ireturn, 1)], [], [(88, K_Mo_in, 100, 3, [6040, 6042, 1013, 6041]), (183, K_Mo_ones, 12, 0, [6108, 6111, 1013, 6110, 58])], [], 0, fun _ => 0)
theorem ok_Mo_isOne : zOK M_Mo_isOne := zOK_of (by decide +kernel) (by decide +kernel)
def M_Mo_placeOfOne : zMt := (K_Mo_placeOfOne, RX12, [(0, .aload_n 0, 1), (1, .getfield 7, 3), (4, .bipush 57, 2), (6, .iconst 3, 1), (7, .iload_n 1, 1), (8, .imul, 1), (9, .iadd, 1), (10, .iaload, 1), (11, .istore_n 2, 1), (12, .aload_n 0, 1), (13, .getfield 7, 3), (16, .bipush 57, 2), (18, .iconst 3, 1), (19, .iload_n 1, 1), (20, .imul, 1), (21, .iadd, 1), (22, .iconst 1, 1), (23, .iadd, 1), (24, .iaload, 1), (25, .istore_n 3, 1), (26, .iload_n 3, 1), (27, .bipush (-4), 2), (29, .if_icmp .eq 21, 3), (32, .aload_n 0, 1), (33, .getfield 7, 3), (36, .iconst 4, 1), (37, .iload_n 3, 1), (38, .imul, 1), (39, .iconst 1, 1), (40, .iadd, 1), (41, .iaload, 1), (42, .iload_n 2, 1), (43, .if_icmp .ne 7, 3), (46, .iconst 1, 1), (47, .goto 4, 3), (50, .iconst 0, 1), (51, .istore 4, 2), (53, .iload_n 2, 1), (54, .iload_n 3, 1), (55, .aload_n 0, 1), (56, .getfield 7, 3), (59, .bipush 73, 2), (61, .iaload, 1), (62, .iconst 1, 1), (63, .if_icmp .ne 19, 3), (66, .aload_n 0, 1), (67, .getfield 7, 3), (70, .bipush 57, 2), (72, .iconst 3, 1), (73, .iload_n 1, 1), (74, .imul, 1), (75, .iadd, 1), (76, .iconst 2, 1), (77, .iadd, 1), (78, .iaload, 1), (79, .goto 5, 3), (82, .bipush (-4), 2), (84, .iload 4, 2), (86, .invokestatic 192, 3), (89, .ireturn, 1)], [(7, 12, 0, 5137)], [(192, K_Mo_placeOf, 100, 4, [6133, 6135, 1013, 6134])], [], 0, fun _ => 0)
theorem ok_Mo_placeOfOne : zOK M_Mo_placeOfOne := zOK_of (by decide +kernel) (by decide +kernel)
def M_Mo_placeOf : zMt := (K_Mo_placeOf, RX12, [(0, .bipush 15, 2), (2, .iload_n 1, 1), (3, .bipush (-4), 2), (5, .if_icmp .ne 10, 3), (8, .bipush 28, 2), (10, .iload_n 0, 1), (11, .iadd, 1), (12, .goto 8, 3), (15, .iconst 2, 1), (16, .iload_n 1, 1), (17, .imul, 1), (18, .iload_n 3, 1), (19, .iadd, 1), (20, .imul, 1), (21, .iload_n 2, 1), (22, .bipush (-4), 2), (24, .if_icmp .ne 7, 3), (27, .iconst 0, 1), (28, .goto 6, 3), (31, .iload_n 2, 1), (32, .iconst 1, 1), (33, .iadd, 1), (34, .iadd, 1), (35, .ireturn, 1)], [], [], [], 0, fun _ => 0)
theorem ok_Mo_placeOf : zOK M_Mo_placeOf := zOK_of (by decide +kernel) (by decide +kernel)
def M_Mo_mayTake : zMt := (K_Mo_mayTake, RX12, [(0, .iconst 0, 1), (1, .istore_n 2, 1), (2, .iconst 0, 1), (3, .istore_n 3, 1), (4, .iload_n 3, 1), (5, .aload_n 0, 1), (6, .invokevirtual 180, 3), (9, .if_icmp .ge 30, 3), (12, .iload_n 2, 1), (13, .aload_n 0, 1), (14, .iload_n 1, 1), (15, .iload_n 3, 1), (16, .invokevirtual 202, 3), (19, .bipush (-4), 2), (21, .if_icmp .ne 7, 3), (24, .iconst 0, 1), (25, .goto 6, 3), (28, .iconst 1, 1), (29, .iload_n 3, 1), (30, .ishl, 1), (31, .ior, 1), (32, .istore_n 2, 1), (33, .iinc 3 1, 3), (36, .goto (-32), 3), (39, .iload_n 2, 1), (40, .ireturn, 1)], [], [(180, K_Mo_doorMany, 12, 0, [6096, 6099, 1013, 6098, 57]), (202, K_Mo_stepped, 12, 2, [6140, 6143, 1013, 6142, 63])], [], 0, fun _ => 0)
theorem ok_Mo_mayTake : zOK M_Mo_mayTake := zOK_of (by decide +kernel) (by decide +kernel)
def M_Mo_stepped : zMt := (K_Mo_stepped, RX12, [(0, .aload_n 0, 1), (1, .iload_n 1, 1), (2, .invokevirtual 196, 3), (5, .istore_n 3, 1), (6, .iload_n 1, 1), (7, .invokestatic 199, 3), (10, .istore 4, 2), (12, .iload_n 1, 1), (13, .bipush 15, 2), (15, .irem, 1), (16, .iconst 1, 1), (17, .isub, 1), (18, .istore 5, 2), (20, .aload_n 0, 1), (21, .getfield 7, 3), (24, .bipush 73, 2), (26, .iaload, 1), (27, .istore 6, 2), (29, .aload_n 0, 1), (30, .getfield 7, 3), (33, .iconst 4, 1), (34, .iload_n 2, 1), (35, .imul, 1), (36, .iaload, 1), (37, .iload_n 3, 1), (38, .if_icmp .eq 17, 3), (41, .aload_n 0, 1), (42, .getfield 7, 3), (45, .iconst 4, 1), (46, .iload_n 2, 1), (47, .imul, 1), (48, .iconst 1, 1), (49, .iadd, 1), (50, .iaload, 1), (51, .iload_n 3, 1), (52, .if_icmp .ne 7, 3), (55, .iconst 1, 1), (56, .goto 4, 3), (59, .iconst 0, 1), (60, .istore 7, 2), (62, .iload 6, 2), (64, .ifCond .ne 9, 3), (67, .iload_n 2, 1), (68, .iload 4, 2), (70, .if_icmp .eq 58, 3), (73, .iload 6, 2), (75, .iconst 1, 1), (76, .if_icmp .ne 15, 3), (79, .iload_n 2, 1), (80, .iload 4, 2), (82, .if_icmp .eq 46, 3), (85, .iload_n 2, 1), (86, .iload 5, 2), (88, .if_icmp .eq 40, 3), (91, .iload 6, 2), (93, .iconst 2, 1), (94, .if_icmp .ne 38, 3), (97, .iload 4, 2), (99, .bipush (-4), 2), (101, .if_icmp .eq 31, 3), (104, .aload_n 0, 1), (105, .getfield 7, 3), (108, .iconst 4, 1), (109, .iload_n 2, 1), (110, .imul, 1), (111, .iconst 2, 1), (112, .iadd, 1), (113, .iaload, 1), (114, .aload_n 0, 1), (115, .getfield 7, 3), (118, .iconst 4, 1), (119, .iload 4, 2), (121, .imul, 1), (122, .iconst 2, 1), (123, .iadd, 1), (124, .iaload, 1), (125, .if_icmp .ne 7, 3), (128, .iconst 1, 1), (129, .goto 4, 3), (132, .iconst 0, 1), (133, .istore 8, 2), (135, .iload 7, 2), (137, .ifCond .eq 22, 3), (140, .aload_n 0, 1), (141, .getfield 7, 3), (144, .iconst 4, 1), (145, .iload_n 2, 1), (146, .imul, 1), (147, .iconst 3, 1), (148, .iadd, 1), (149, .iaload, 1), (150, .iconst 1, 1), (151, .if_icmp .eq 8, 3), (154, .iload 8, 2), (156, .ifCond .eq 6, 3), (159, .bipush (-4), 2), (161, .ireturn, 1), (162, .aload_n 0, 1), (163, .getfield 7, 3), (166, .iconst 4, 1), (167, .iload_n 2, 1), (168, .imul, 1), (169, .iaload, 1), (170, .iload_n 3, 1), (171, .if_icmp .ne 7, 3), (174, .iconst 1, 1), (175, .goto 4, 3), (178, .iconst 0, 1), (179, .istore 9, 2), (181, .iconst 0, 1), (182, .iload_n 2, 1), (183, .iload 6, 2), (185, .iconst 1, 1), (186, .if_icmp .ne 8, 3), (189, .iload 4, 2), (191, .goto 5, 3), (194, .bipush (-4), 2), (196, .iload 9, 2), (198, .invokestatic 192, 3), (201, .ireturn, 1)], [(7, 12, 0, 5137)], [(192, K_Mo_placeOf, 100, 4, [6133, 6135, 1013, 6134]), (196, K_Mo_roomAt, 12, 1, [6144, 6147, 1013, 6146, 64]), (199, K_Mo_lastAt, 100, 1, [6148, 6150, 1013, 6149])], [], 0, fun _ => 0)
theorem ok_Mo_stepped : zOK M_Mo_stepped := zOK_of (by decide +kernel) (by decide +kernel)
def M_Mo_roomAt : zMt := (K_Mo_roomAt, RX12, [(0, .iload_n 1, 1), (1, .bipush 15, 2), (3, .idiv, 1), (4, .istore_n 2, 1), (5, .iload_n 2, 1), (6, .bipush 28, 2), (8, .if_icmp .lt 10, 3), (11, .iload_n 2, 1), (12, .bipush 28, 2), (14, .isub, 1), (15, .goto 17, 3), (18, .aload_n 0, 1), (19, .getfield 7, 3), (22, .iconst 4, 1), (23, .iload_n 2, 1), (24, .iconst 2, 1), (25, .idiv, 1), (26, .imul, 1), (27, .iload_n 2, 1), (28, .iconst 2, 1), (29, .irem, 1), (30, .iadd, 1), (31, .iaload, 1), (32, .ireturn, 1)], [(7, 12, 0, 5137)], [], [], 0, fun _ => 0)
theorem ok_Mo_roomAt : zOK M_Mo_roomAt := zOK_of (by decide +kernel) (by decide +kernel)
def M_Mo_lastAt : zMt := (K_Mo_lastAt, RX12, [(0, .iload_n 0, 1), (1, .bipush 15, 2), (3, .idiv, 1), (4, .bipush 28, 2), (6, .if_icmp .lt 8, 3), (9, .bipush (-4), 2), (11, .goto 7, 3), (14, .iload_n 0, 1), (15, .bipush 30, 2), (17, .idiv, 1), (18, .ireturn, 1)], [], [], [], 0, fun _ => 0)
theorem ok_Mo_lastAt : zOK M_Mo_lastAt := zOK_of (by decide +kernel) (by decide +kernel)
def M_Mo_doors : zMt := (K_Mo_doors, RX12, [(0, .aload_n 0, 1), (1, .iload_n 1, 1), (2, .invokevirtual 214, 3), (5, .ifCond .eq 11, 3), (8, .aload_n 0, 1), (9, .iload_n 1, 1), (10, .invokevirtual 217, 3), (13, .goto 4, 3), (16, .iconst (-1), 1), (17, .ireturn, 1)], [], [(214, K_Mo_isRoom, 12, 1, [6155, 6158, 1013, 6157, 65]), (217, K_Mo_doorsOf, 12, 1, [6159, 6162, 1013, 6161, 66])], [], 0, fun _ => 0)
theorem ok_Mo_doors : zOK M_Mo_doors := zOK_of (by decide +kernel) (by decide +kernel)
def M_Mo_isRoom : zMt := (K_Mo_isRoom, RX12, [(0, .iload_n 1, 1), (1, .i2l, 1), (2, .lconst 0, 1), (3, .aload_n 0, 1), (4, .getfield 13, 3), (7, .iconst 1, 1), (8, .isub, 1), (9, .i2l, 1), (10, .invokestatic 88, 3), (13, .ireturn, 1)], [(13, 12, 1, 5138)], [(88, K_Mo_in, 100, 3, [6040, 6042, 1013, 6041])], [], 0, fun _ => 0)
theorem ok_Mo_isRoom : zOK M_Mo_isRoom := zOK_of (by decide +kernel) (by decide +kernel)
def M_Mo_doorsOf : zMt := (K_Mo_doorsOf, RX12, [(0, .iconst 0, 1), (1, .istore_n 2, 1), (2, .iconst 0, 1), (3, .istore_n 3, 1), (4, .iload_n 3, 1), (5, .aload_n 0, 1), (6, .invokevirtual 180, 3), (9, .if_icmp .ge 58, 3), (12, .iload_n 2, 1), (13, .aload_n 0, 1), (14, .getfield 7, 3), (17, .iconst 4, 1), (18, .iload_n 3, 1), (19, .imul, 1), (20, .iconst 3, 1), (21, .iadd, 1), (22, .iaload, 1), (23, .ifCond .ne 35, 3), (26, .aload_n 0, 1), (27, .getfield 7, 3), (30, .iconst 4, 1), (31, .iload_n 3, 1), (32, .imul, 1), (33, .iaload, 1), (34, .iload_n 1, 1), (35, .if_icmp .eq 17, 3), (38, .aload_n 0, 1), (39, .getfield 7, 3), (42, .iconst 4, 1), (43, .iload_n 3, 1), (44, .imul, 1), (45, .iconst 1, 1), (46, .iadd, 1), (47, .iaload, 1), (48, .iload_n 1, 1), (49, .if_icmp .ne 9, 3), (52, .iconst 1, 1), (53, .iload_n 3, 1), (54, .ishl, 1), (55, .goto 4, 3), (58, .iconst 0, 1), (59, .ior, 1), (60, .istore_n 2, 1), (61, .iinc 3 1, 3), (64, .goto (-60), 3), (67, .iload_n 2, 1), (68, .ireturn, 1)], [(7, 12, 0, 5137)], [(180, K_Mo_doorMany, 12, 0, [6096, 6099, 1013, 6098, 57])], [], 0, fun _ => 0)
theorem ok_Mo_doorsOf : zOK M_Mo_doorsOf := zOK_of (by decide +kernel) (by decide +kernel)
def M_Mo_law : zMt := (K_Mo_law, RX12, [(0, .iload_n 1, 1), (1, .i2l, 1), (2, .lconst 0, 1), (3, .ldc2_w 190, 3), (6, .invokestatic 88, 3), (9, .ifCond .ne 5, 3), (12, .iconst (-1), 1), (13, .ireturn, 1), (14, .aload_n 0, 1), (15, .getfield 7, 3), (18, .bipush 73, 2), (20, .iaload, 1), (21, .istore_n 2, 1), (22, .aload_n 0, 1), (23, .getfield 7, 3), (26, .bipush 73, 2), (28, .iload_n 1, 1), (29, .iastore, 1), (30, .iload_n 2, 1), (31, .ireturn, 1)], [(7, 12, 0, 5137)], [(88, K_Mo_in, 100, 3, [6040, 6042, 1013, 6041])], [(190, 1, 3, 6120)], 0, fun _ => 0)
theorem ok_Mo_law : zOK M_Mo_law := zOK_of (by decide +kernel) (by decide +kernel)
def M_Mo_build : zMt := (K_Mo_build, RX12, [(0, .aload_n 0, 1), (1, .iload_n 1, 1), (2, .invokevirtual 214, 3), (5, .ifCond .eq 28, 3), (8, .aload_n 0, 1), (9, .iload_n 2, 1), (10, .invokevirtual 214, 3), (13, .ifCond .eq 20, 3), (16, .iload_n 1, 1), (17, .iload_n 2, 1), (18, .if_icmp .eq 15, 3), (21, .iload_n 3, 1), (22, .i2l, 1), (23, .lconst 0, 1), (24, .ldc2_w 190, 3), (27, .invokestatic 88, 3), (30, .ifCond .ne 5, 3), (33, .iconst (-1), 1), (34, .ireturn, 1), (35, .aload_n 0, 1), (36, .invokevirtual 180, 3), (39, .bipush 14, 2), (41, .if_icmp .ne 6, 3), (44, .bipush (-3), 2), (46, .ireturn, 1), (47, .aload_n 0, 1), (48, .iload_n 1, 1), (49, .iload_n 2, 1), (50, .iload_n 3, 1), (51, .invokevirtual 220, 3), (54, .aload_n 0, 1), (55, .invokevirtual 180, 3), (58, .iconst 1, 1), (59, .isub, 1), (60, .ireturn, 1)], [], [(88, K_Mo_in, 100, 3, [6040, 6042, 1013, 6041]), (180, K_Mo_doorMany, 12, 0, [6096, 6099, 1013, 6098, 57]), (214, K_Mo_isRoom, 12, 1, [6155, 6158, 1013, 6157, 65]), (220, K_Mo_addDoor, 12, 3, [6171, 6174, 1013, 6173, 67])], [(190, 1, 3, 6120)], 0, fun _ => 0)
theorem ok_Mo_build : zOK M_Mo_build := zOK_of (by decide +kernel) (by decide +kernel)
def M_Mo_addDoor : zMt := (K_Mo_addDoor, RX12, [(0, .aload_n 0, 1), (1, .invokevirtual 180, 3), (4, .istore 4, 2), (6, .aload_n 0, 1), (7, .getfield 7, 3), (10, .iconst 4, 1), (11, .iload 4, 2), (13, .imul, 1), (14, .iload_n 1, 1), (15, .iastore, 1), (16, .aload_n 0, 1), (17, .getfield 7, 3), (20, .iconst 4, 1), (21, .iload 4, 2), (23, .imul, 1), (24, .iconst 1, 1), (25, .iadd, 1), (26, .iload_n 2, 1), (27, .iastore, 1), (28, .aload_n 0, 1), (29, .getfield 7, 3), (32, .iconst 4, 1), (33, .iload 4, 2), (35, .imul, 1), (36, .iconst 2, 1), (37, .iadd, 1), (38, .iload_n 3, 1), (39, .iastore, 1), (40, .aload_n 0, 1), (41, .getfield 7, 3), (44, .iconst 4, 1), (45, .iload 4, 2), (47, .imul, 1), (48, .iconst 3, 1), (49, .iadd, 1), (50, .iconst 0, 1), (51, .iastore, 1), (52, .aload_n 0, 1), (53, .getfield 7, 3), (56, .bipush 56, 2), (58, .dup2, 1), (59, .iaload, 1), (60, .iconst 1, 1), (61, .iadd, 1), (62, .iastore, 1), (63, .return_, 1)], [(7, 12, 0, 5137)], [(180, K_Mo_doorMany, 12, 0, [6096, 6099, 1013, 6098, 57])], [], 0, fun _ => 0)
theorem ok_Mo_addDoor : zOK M_Mo_addDoor := zOK_of (by decide +kernel) (by decide +kernel)
def M_Mo_wall : zMt := (K_Mo_wall, RX12, [(0, .aload_n 0, 1), (1, .iload_n 1, 1), (2, .invokevirtual 186, 3), (5, .ifCond .ne 5, 3), (8, .iconst (-1), 1), (9, .ireturn, 1), (10, .aload_n 0, 1), (11, .getfield 7, 3), (14, .iconst 4, 1), (15, .iload_n 1, 1), (16, .imul, 1), (17, .iconst 3, 1), (18, .iadd, 1), (19, .iaload, 1), (20, .istore_n 3, 1), (21, .aload_n 0, 1), (22, .getfield 7, 3), (25, .iconst 4, 1), (26, .iload_n 1, 1), (27, .imul, 1), (28, .iconst 3, 1), (29, .iadd, 1), (30, .iload_n 2, 1), (31, .ifCond .eq 7, 3), (34, .iconst 1, 1), (35, .goto 4, 3), (38, .iconst 0, 1), (39, .iastore, 1), (40, .iload_n 3, 1), (41, .ireturn, 1)], [(7, 12, 0, 5137)], [(186, K_Mo_isDoor, 12, 1, [6116, 6119, 1013, 6118, 59])], [], 0, fun _ => 0)
theorem ok_Mo_wall : zOK M_Mo_wall := zOK_of (by decide +kernel) (by decide +kernel)
def M_Mo_stand : zMt := (K_Mo_stand, RX12, [(0, .aload_n 0, 1), (1, .iload_n 1, 1), (2, .invokevirtual 208, 3), (5, .ifCond .eq 11, 3), (8, .aload_n 0, 1), (9, .iload_n 2, 1), (10, .invokevirtual 214, 3), (13, .ifCond .ne 5, 3), (16, .iconst (-1), 1), (17, .ireturn, 1), (18, .aload_n 0, 1), (19, .getfield 7, 3), (22, .bipush 57, 2), (24, .iconst 3, 1), (25, .iload_n 1, 1), (26, .imul, 1), (27, .iadd, 1), (28, .iaload, 1), (29, .istore_n 3, 1), (30, .aload_n 0, 1), (31, .getfield 7, 3), (34, .bipush 57, 2), (36, .iconst 3, 1), (37, .iload_n 1, 1), (38, .imul, 1), (39, .iadd, 1), (40, .iload_n 2, 1), (41, .iastore, 1), (42, .aload_n 0, 1), (43, .getfield 7, 3), (46, .bipush 57, 2), (48, .iconst 3, 1), (49, .iload_n 1, 1), (50, .imul, 1), (51, .iadd, 1), (52, .iconst 1, 1), (53, .iadd, 1), (54, .bipush (-4), 2), (56, .iastore, 1), (57, .aload_n 0, 1), (58, .getfield 7, 3), (61, .bipush 57, 2), (63, .iconst 3, 1), (64, .iload_n 1, 1), (65, .imul, 1), (66, .iadd, 1), (67, .iconst 2, 1), (68, .iadd, 1), (69, .bipush (-4), 2), (71, .iastore, 1), (72, .iload_n 3, 1), (73, .ireturn, 1)], [(7, 12, 0, 5137)], [(208, K_Mo_isOne, 12, 1, [6125, 6128, 1013, 6127, 60]), (214, K_Mo_isRoom, 12, 1, [6155, 6158, 1013, 6157, 65])], [], 0, fun _ => 0)
theorem ok_Mo_stand : zOK M_Mo_stand := zOK_of (by decide +kernel) (by decide +kernel)
def M_Mo_go : zMt := (K_Mo_go, RX12, [(0, .aload_n 0, 1), (1, .iload_n 1, 1), (2, .iload_n 2, 1), (3, .invokevirtual 224, 3), (6, .ireturn, 1)], [], [(224, K_Mo_goes, 12, 2, [6187, 6190, 1013, 6189, 68])], [], 0, fun _ => 0)
theorem ok_Mo_go : zOK M_Mo_go := zOK_of (by decide +kernel) (by decide +kernel)
def M_Mo_goes : zMt := (K_Mo_goes, RX12, [(0, .aload_n 0, 1), (1, .iload_n 1, 1), (2, .invokevirtual 208, 3), (5, .ifCond .eq 11, 3), (8, .aload_n 0, 1), (9, .iload_n 2, 1), (10, .invokevirtual 186, 3), (13, .ifCond .ne 5, 3), (16, .iconst (-1), 1), (17, .ireturn, 1), (18, .aload_n 0, 1), (19, .aload_n 0, 1), (20, .iload_n 1, 1), (21, .invokevirtual 211, 3), (24, .iload_n 2, 1), (25, .invokevirtual 202, 3), (28, .istore_n 3, 1), (29, .iload_n 3, 1), (30, .bipush (-4), 2), (32, .if_icmp .ne 6, 3), (35, .bipush (-4), 2), (37, .ireturn, 1), (38, .aload_n 0, 1), (39, .getfield 7, 3), (42, .bipush 57, 2), (44, .iconst 3, 1), (45, .iload_n 1, 1), (46, .imul, 1), (47, .iadd, 1), (48, .aload_n 0, 1), (49, .iload_n 3, 1), (50, .invokevirtual 196, 3), (53, .iastore, 1), (54, .aload_n 0, 1), (55, .getfield 7, 3), (58, .bipush 57, 2), (60, .iconst 3, 1), (61, .iload_n 1, 1), (62, .imul, 1), (63, .iadd, 1), (64, .iconst 2, 1), (65, .iadd, 1), (66, .aload_n 0, 1), (67, .getfield 7, 3), (70, .bipush 57, 2), (72, .iconst 3, 1), (73, .iload_n 1, 1), (74, .imul, 1), (75, .iadd, 1), (76, .iconst 1, 1), (77, .iadd, 1), (78, .iaload, 1), (79, .iastore, 1), (80, .aload_n 0, 1), (81, .getfield 7, 3), (84, .bipush 57, 2), (86, .iconst 3, 1), (87, .iload_n 1, 1), (88, .imul, 1), (89, .iadd, 1), (90, .iconst 1, 1), (91, .iadd, 1), (92, .iload_n 2, 1), (93, .iastore, 1), (94, .aload_n 0, 1), (95, .iload_n 3, 1), (96, .invokevirtual 196, 3), (99, .ireturn, 1)], [(7, 12, 0, 5137)], [(186, K_Mo_isDoor, 12, 1, [6116, 6119, 1013, 6118, 59]), (196, K_Mo_roomAt, 12, 1, [6144, 6147, 1013, 6146, 64]), (202, K_Mo_stepped, 12, 2, [6140, 6143, 1013, 6142, 63]), (208, K_Mo_isOne, 12, 1, [6125, 6128, 1013, 6127, 60]), (211, K_Mo_placeOfOne, 12, 1, [6129, 6132, 1013, 6131, 61])], [], 0, fun _ => 0)
theorem ok_Mo_goes : zOK M_Mo_goes := zOK_of (by decide +kernel) (by decide +kernel)
def M_Mo_far : zMt := (K_Mo_far, RX12, [(0, .aload_n 0, 1), (1, .iload_n 1, 1), (2, .invokevirtual 208, 3), (5, .ifCond .eq 11, 3), (8, .aload_n 0, 1), (9, .iload_n 2, 1), (10, .invokevirtual 214, 3), (13, .ifCond .ne 5, 3), (16, .iconst (-1), 1), (17, .ireturn, 1), (18, .aload_n 0, 1), (19, .aload_n 0, 1), (20, .iload_n 1, 1), (21, .invokevirtual 211, 3), (24, .invokevirtual 240, 3), (27, .aload_n 0, 1), (28, .iload_n 2, 1), (29, .invokevirtual 243, 3), (32, .istore_n 3, 1), (33, .iload_n 3, 1), (34, .bipush (-4), 2), (36, .if_icmp .ne 8, 3), (39, .bipush (-4), 2), (41, .goto 9, 3), (44, .aload_n 0, 1), (45, .getfield 29, 3), (48, .iload_n 3, 1), (49, .iaload, 1), (50, .ireturn, 1)], [(29, 12, 20, 5157)], [(208, K_Mo_isOne, 12, 1, [6125, 6128, 1013, 6127, 60]), (211, K_Mo_placeOfOne, 12, 1, [6129, 6132, 1013, 6131, 61]), (214, K_Mo_isRoom, 12, 1, [6155, 6158, 1013, 6157, 65]), (240, K_Mo_laysFrom, 12, 1, [6195, 6198, 1013, 6197, 69]), (243, K_Mo_foundIn, 12, 1, [6211, 6214, 1013, 6213, 73])], [], 0, fun _ => 0)
theorem ok_Mo_far : zOK M_Mo_far := zOK_of (by decide +kernel) (by decide +kernel)
def M_Mo_laysFrom : zMt := (K_Mo_laysFrom, RX12, [(0, .aload_n 0, 1), (1, .invokevirtual 234, 3), (4, .aload_n 0, 1), (5, .iload_n 1, 1), (6, .iconst 0, 1), (7, .bipush (-4), 2), (9, .bipush (-4), 2), (11, .invokevirtual 230, 3), (14, .aload_n 0, 1), (15, .invokevirtual 237, 3), (18, .return_, 1)], [], [(230, K_Mo_finds, 12, 4, [6203, 6206, 1013, 6205, 71]), (234, K_Mo_begins, 12, 0, [6199, 6202, 1013, 6201, 70]), (237, K_Mo_spreads, 12, 0, [6207, 6210, 1013, 6209, 72])], [], 0, fun _ => 0)
theorem ok_Mo_laysFrom : zOK M_Mo_laysFrom := zOK_of (by decide +kernel) (by decide +kernel)
def M_Mo_begins : zMt := (K_Mo_begins, RX12, [(0, .aload_n 0, 1), (1, .iconst 0, 1), (2, .putfield 227, 3), (5, .iconst 0, 1), (6, .istore_n 1, 1), (7, .iload_n 1, 1), (8, .sipush 570, 3), (11, .if_icmp .ge 17, 3), (14, .aload_n 0, 1), (15, .getfield 29, 3), (18, .iload_n 1, 1), (19, .bipush (-4), 2), (21, .iastore, 1), (22, .iinc 1 1, 3), (25, .goto (-18), 3), (28, .return_, 1)], [(29, 12, 20, 5157), (227, 12, 24, 5161)], [], [], 0, fun _ => 0)
theorem ok_Mo_begins : zOK M_Mo_begins := zOK_of (by decide +kernel) (by decide +kernel)
def M_Mo_finds : zMt := (K_Mo_finds, RX12, [(0, .aload_n 0, 1), (1, .getfield 29, 3), (4, .iload_n 1, 1), (5, .iaload, 1), (6, .bipush (-4), 2), (8, .if_icmp .ne 45, 3), (11, .aload_n 0, 1), (12, .getfield 29, 3), (15, .iload_n 1, 1), (16, .iload_n 2, 1), (17, .iastore, 1), (18, .aload_n 0, 1), (19, .getfield 32, 3), (22, .iload_n 1, 1), (23, .iload_n 3, 1), (24, .iastore, 1), (25, .aload_n 0, 1), (26, .getfield 35, 3), (29, .iload_n 1, 1), (30, .iload 4, 2), (32, .iastore, 1), (33, .aload_n 0, 1), (34, .getfield 38, 3), (37, .aload_n 0, 1), (38, .getfield 227, 3), (41, .iload_n 1, 1), (42, .iastore, 1), (43, .aload_n 0, 1), (44, .dup, 1), (45, .getfield 227, 3), (48, .iconst 1, 1), (49, .iadd, 1), (50, .putfield 227, 3), (53, .return_, 1)], [(29, 12, 20, 5157), (32, 12, 21, 5158), (35, 12, 22, 5159), (38, 12, 23, 5160), (227, 12, 24, 5161)], [], [], 0, fun _ => 0)
theorem ok_Mo_finds : zOK M_Mo_finds := zOK_of (by decide +kernel) (by decide +kernel)
def M_Mo_spreads : zMt := (K_Mo_spreads, RX12, [(0, .iconst 0, 1), (1, .istore_n 1, 1), (2, .iload_n 1, 1), (3, .aload_n 0, 1), (4, .getfield 227, 3), (7, .if_icmp .ge 63, 3), (10, .aload_n 0, 1), (11, .getfield 38, 3), (14, .iload_n 1, 1), (15, .iaload, 1), (16, .istore_n 2, 1), (17, .iconst 0, 1), (18, .istore_n 3, 1), (19, .iload_n 3, 1), (20, .aload_n 0, 1), (21, .invokevirtual 180, 3), (24, .if_icmp .ge 40, 3), (27, .aload_n 0, 1), (28, .iload_n 2, 1), (29, .iload_n 3, 1), (30, .invokevirtual 202, 3), (33, .istore 4, 2), (35, .iload 4, 2), (37, .bipush (-4), 2), (39, .if_icmp .eq 19, 3), (42, .aload_n 0, 1), (43, .iload 4, 2), (45, .aload_n 0, 1), (46, .getfield 29, 3), (49, .iload_n 2, 1), (50, .iaload, 1), (51, .iconst 1, 1), (52, .iadd, 1), (53, .iload_n 2, 1), (54, .iload_n 3, 1), (55, .invokevirtual 230, 3), (58, .iinc 3 1, 3), (61, .goto (-42), 3), (64, .iinc 1 1, 3), (67, .goto (-65), 3), (70, .return_, 1)], [(29, 12, 20, 5157), (38, 12, 23, 5160), (227, 12, 24, 5161)], [(180, K_Mo_doorMany, 12, 0, [6096, 6099, 1013, 6098, 57]), (202, K_Mo_stepped, 12, 2, [6140, 6143, 1013, 6142, 63]), (230, K_Mo_finds, 12, 4, [6203, 6206, 1013, 6205, 71])], [], 0, fun _ => 0)
theorem ok_Mo_spreads : zOK M_Mo_spreads := zOK_of (by decide +kernel) (by decide +kernel)
def M_Mo_foundIn : zMt := (K_Mo_foundIn, RX12, [(0, .iconst 0, 1), (1, .istore_n 2, 1), (2, .iload_n 2, 1), (3, .aload_n 0, 1), (4, .getfield 227, 3), (7, .if_icmp .ge 30, 3), (10, .aload_n 0, 1), (11, .aload_n 0, 1), (12, .getfield 38, 3), (15, .iload_n 2, 1), (16, .iaload, 1), (17, .invokevirtual 196, 3), (20, .iload_n 1, 1), (21, .if_icmp .ne 10, 3), (24, .aload_n 0, 1), (25, .getfield 38, 3), (28, .iload_n 2, 1), (29, .iaload, 1), (30, .ireturn, 1), (31, .iinc 2 1, 3), (34, .goto (-32), 3), (37, .bipush (-4), 2), (39, .ireturn, 1)], [(38, 12, 23, 5160), (227, 12, 24, 5161)], [(196, K_Mo_roomAt, 12, 1, [6144, 6147, 1013, 6146, 64])], [], 0, fun _ => 0)
theorem ok_Mo_foundIn : zOK M_Mo_foundIn := zOK_of (by decide +kernel) (by decide +kernel)
def M_Mo_way : zMt := (K_Mo_way, RX12, [(0, .aload_n 0, 1), (1, .iload_n 1, 1), (2, .invokevirtual 208, 3), (5, .ifCond .eq 15, 3), (8, .aload_n 0, 1), (9, .iload_n 2, 1), (10, .invokevirtual 214, 3), (13, .ifCond .eq 7, 3), (16, .iload_n 3, 1), (17, .ifCond .ge 5, 3), (20, .iconst (-1), 1), (21, .ireturn, 1), (22, .aload_n 0, 1), (23, .aload_n 0, 1), (24, .iload_n 1, 1), (25, .invokevirtual 211, 3), (28, .invokevirtual 240, 3), (31, .aload_n 0, 1), (32, .iload_n 2, 1), (33, .invokevirtual 243, 3), (36, .istore 4, 2), (38, .iload 4, 2), (40, .bipush (-4), 2), (42, .if_icmp .eq 14, 3), (45, .iload_n 3, 1), (46, .aload_n 0, 1), (47, .getfield 29, 3), (50, .iload 4, 2), (52, .iaload, 1), (53, .if_icmp .lt 6, 3), (56, .bipush (-4), 2), (58, .ireturn, 1), (59, .aload_n 0, 1), (60, .getfield 29, 3), (63, .iload 4, 2), (65, .iaload, 1), (66, .iload_n 3, 1), (67, .iconst 1, 1), (68, .iadd, 1), (69, .if_icmp .le 15, 3), (72, .aload_n 0, 1), (73, .getfield 32, 3), (76, .iload 4, 2), (78, .iaload, 1), (79, .istore 4, 2), (81, .goto (-22), 3), (84, .aload_n 0, 1), (85, .getfield 35, 3), (88, .iload 4, 2), (90, .iaload, 1), (91, .ireturn, 1)], [(29, 12, 20, 5157), (32, 12, 21, 5158), (35, 12, 22, 5159)], [(208, K_Mo_isOne, 12, 1, [6125, 6128, 1013, 6127, 60]), (211, K_Mo_placeOfOne, 12, 1, [6129, 6132, 1013, 6131, 61]), (214, K_Mo_isRoom, 12, 1, [6155, 6158, 1013, 6157, 65]), (240, K_Mo_laysFrom, 12, 1, [6195, 6198, 1013, 6197, 69]), (243, K_Mo_foundIn, 12, 1, [6211, 6214, 1013, 6213, 73])], [], 0, fun _ => 0)
theorem ok_Mo_way : zOK M_Mo_way := zOK_of (by decide +kernel) (by decide +kernel)
def M_Mo_can : zMt := (K_Mo_can, RX12, [(0, .aload_n 0, 1), (1, .iload_n 1, 1), (2, .invokevirtual 208, 3), (5, .ifCond .ne 5, 3), (8, .iconst (-1), 1), (9, .ireturn, 1), (10, .aload_n 0, 1), (11, .aload_n 0, 1), (12, .iload_n 1, 1), (13, .invokevirtual 211, 3), (16, .invokevirtual 240, 3), (19, .aload_n 0, 1), (20, .invokevirtual 246, 3), (23, .ireturn, 1)], [], [(208, K_Mo_isOne, 12, 1, [6125, 6128, 1013, 6127, 60]), (211, K_Mo_placeOfOne, 12, 1, [6129, 6132, 1013, 6131, 61]), (240, K_Mo_laysFrom, 12, 1, [6195, 6198, 1013, 6197, 69]), (246, K_Mo_foundRooms, 12, 0, [6223, 6226, 1013, 6225, 74])], [], 0, fun _ => 0)
theorem ok_Mo_can : zOK M_Mo_can := zOK_of (by decide +kernel) (by decide +kernel)
def M_Mo_foundRooms : zMt := (K_Mo_foundRooms, RX12, [(0, .iconst 0, 1), (1, .istore_n 1, 1), (2, .iconst 0, 1), (3, .istore_n 2, 1), (4, .iload_n 2, 1), (5, .aload_n 0, 1), (6, .getfield 227, 3), (9, .if_icmp .ge 24, 3), (12, .iload_n 1, 1), (13, .iconst 1, 1), (14, .aload_n 0, 1), (15, .aload_n 0, 1), (16, .getfield 38, 3), (19, .iload_n 2, 1), (20, .iaload, 1), (21, .invokevirtual 196, 3), (24, .ishl, 1), (25, .ior, 1), (26, .istore_n 1, 1), (27, .iinc 2 1, 3), (30, .goto (-26), 3), (33, .iload_n 1, 1), (34, .ireturn, 1)], [(38, 12, 23, 5160), (227, 12, 24, 5161)], [(196, K_Mo_roomAt, 12, 1, [6144, 6147, 1013, 6146, 64])], [], 0, fun _ => 0)
theorem ok_Mo_foundRooms : zOK M_Mo_foundRooms := zOK_of (by decide +kernel) (by decide +kernel)
end
end
section
section
def M_Mo_path : zMt := (K_Mo_path, RX12, [(0, .aload_n 0, 1), (1, .iload_n 1, 1), (2, .invokevirtual 214, 3), (5, .ifCond .eq 11, 3), (8, .aload_n 0, 1), (9, .iload_n 2, 1), (10, .invokevirtual 214, 3), (13, .ifCond .ne 5, 3), (16, .iconst (-1), 1), (17, .ireturn, 1), (18, .aload_n 0, 1), (19, .iload_n 1, 1), (20, .invokestatic 249, 3), (23, .invokevirtual 240, 3), (26, .aload_n 0, 1), (27, .iload_n 2, 1), (28, .invokevirtual 243, 3), (31, .istore_n 3, 1), (32, .iload_n 3, 1), (33, .bipush (-4), 2), (35, .if_icmp .ne 8, 3), (38, .bipush (-4), 2), (40, .goto 9, 3), (43, .aload_n 0, 1), (44, .getfield 29, 3), (47, .iload_n 3, 1), (48, .iaload, 1), (49, .ireturn, 1)], [(29, 12, 20, 5157)], [(214, K_Mo_isRoom, 12, 1, [6155, 6158, 1013, 6157, 65]), (240, K_Mo_laysFrom, 12, 1, [6195, 6198, 1013, 6197, 69]), (243, K_Mo_foundIn, 12, 1, [6211, 6214, 1013, 6213, 73]), (249, K_Mo_newIn, 100, 1, [6231, 6233, 1013, 6232])], [], 0, fun _ => 0)
theorem ok_Mo_path : zOK M_Mo_path := zOK_of (by decide +kernel) (by decide +kernel)
def M_Mo_newIn : zMt := (K_Mo_newIn, RX12, [(0, .iload_n 0, 1), (1, .bipush (-4), 2), (3, .bipush (-4), 2), (5, .iconst 0, 1), (6, .invokestatic 192, 3), (9, .ireturn, 1)], [], [(192, K_Mo_placeOf, 100, 4, [6133, 6135, 1013, 6134])], [], 0, fun _ => 0)
theorem ok_Mo_newIn : zOK M_Mo_newIn := zOK_of (by decide +kernel) (by decide +kernel)
def M_Mo_pairs : zMt := (K_Mo_pairs, RX12, [(0, .aload_n 0, 1), (1, .invokevirtual 255, 3), (4, .ireturn, 1)], [], [(255, K_Mo_pairsNow, 12, 0, [6238, 7001, 1013, 7000, 75])], [], 0, fun _ => 0)
theorem ok_Mo_pairs : zOK M_Mo_pairs := zOK_of (by decide +kernel) (by decide +kernel)
def M_Mo_pairsNow : zMt := (K_Mo_pairsNow, RX12, [(0, .iconst 0, 1), (1, .istore_n 1, 1), (2, .iconst 0, 1), (3, .istore_n 2, 1), (4, .iload_n 2, 1), (5, .aload_n 0, 1), (6, .getfield 13, 3), (9, .if_icmp .ge 29, 3), (12, .aload_n 0, 1), (13, .iload_n 2, 1), (14, .invokestatic 249, 3), (17, .invokevirtual 240, 3), (20, .iload_n 1, 1), (21, .aload_n 0, 1), (22, .invokevirtual 246, 3), (25, .invokestatic 252, 3), (28, .iconst 1, 1), (29, .isub, 1), (30, .iadd, 1), (31, .istore_n 1, 1), (32, .iinc 2 1, 3), (35, .goto (-31), 3), (38, .iload_n 1, 1), (39, .ireturn, 1)], [(13, 12, 1, 5138)], [(240, K_Mo_laysFrom, 12, 1, [6195, 6198, 1013, 6197, 69]), (246, K_Mo_foundRooms, 12, 0, [6223, 6226, 1013, 6225, 74]), (249, K_Mo_newIn, 100, 1, [6231, 6233, 1013, 6232]), (252, K_Mo_bitsOf, 100, 1, [7002, 7004, 1013, 7003])], [], 0, fun _ => 0)
theorem ok_Mo_pairsNow : zOK M_Mo_pairsNow := zOK_of (by decide +kernel) (by decide +kernel)
def M_Mo_bitsOf : zMt := (K_Mo_bitsOf, RX12, [(0, .iconst 0, 1), (1, .istore_n 1, 1), (2, .iconst 0, 1), (3, .istore_n 2, 1), (4, .iload_n 2, 1), (5, .bipush 14, 2), (7, .if_icmp .ge 17, 3), (10, .iload_n 1, 1), (11, .iload_n 0, 1), (12, .iload_n 2, 1), (13, .ishr, 1), (14, .iconst 1, 1), (15, .iand, 1), (16, .iadd, 1), (17, .istore_n 1, 1), (18, .iinc 2 1, 3), (21, .goto (-17), 3), (24, .iload_n 1, 1), (25, .ireturn, 1)], [], [], [], 0, fun _ => 0)
theorem ok_Mo_bitsOf : zOK M_Mo_bitsOf := zOK_of (by decide +kernel) (by decide +kernel)
def M_Mo_life : zMt := (K_Mo_life, RX12, [(0, .iconst 0, 1), (1, .istore_n 1, 1), (2, .iconst 0, 1), (3, .istore_n 2, 1), (4, .iload_n 2, 1), (5, .iconst 2, 1), (6, .aload_n 0, 1), (7, .invokevirtual 180, 3), (10, .imul, 1), (11, .if_icmp .ge 60, 3), (14, .iload_n 1, 1), (15, .aload_n 0, 1), (16, .getfield 7, 3), (19, .iconst 4, 1), (20, .iload_n 2, 1), (21, .iconst 2, 1), (22, .idiv, 1), (23, .imul, 1), (24, .iconst 3, 1), (25, .iadd, 1), (26, .iaload, 1), (27, .ifCond .ne 35, 3), (30, .aload_n 0, 1), (31, .iload_n 2, 1), (32, .iconst 2, 1), (33, .idiv, 1), (34, .iload_n 2, 1), (35, .iconst 2, 1), (36, .irem, 1), (37, .invokevirtual 261, 3), (40, .ifCond .eq 22, 3), (43, .iconst 1, 1), (44, .aload_n 0, 1), (45, .getfield 7, 3), (48, .iconst 4, 1), (49, .iload_n 2, 1), (50, .iconst 2, 1), (51, .idiv, 1), (52, .imul, 1), (53, .iload_n 2, 1), (54, .iconst 2, 1), (55, .irem, 1), (56, .iadd, 1), (57, .iaload, 1), (58, .ishl, 1), (59, .goto 4, 3), (62, .iconst 0, 1), (63, .ior, 1), (64, .istore_n 1, 1), (65, .iinc 2 1, 3), (68, .goto (-64), 3), (71, .iload_n 1, 1), (72, .ireturn, 1)], [(7, 12, 0, 5137)], [(180, K_Mo_doorMany, 12, 0, [6096, 6099, 1013, 6098, 57]), (261, K_Mo_isTrap, 12, 2, [7009, 7012, 1013, 7011, 76])], [], 0, fun _ => 0)
theorem ok_Mo_life : zOK M_Mo_life := zOK_of (by decide +kernel) (by decide +kernel)
def M_Mo_isTrap : zMt := (K_Mo_isTrap, RX12, [(0, .aload_n 0, 1), (1, .iconst 0, 1), (2, .iload_n 1, 1), (3, .bipush (-4), 2), (5, .iload_n 2, 1), (6, .invokestatic 192, 3), (9, .invokevirtual 258, 3), (12, .ireturn, 1)], [], [(192, K_Mo_placeOf, 100, 4, [6133, 6135, 1013, 6134]), (258, K_Mo_isLost, 12, 1, [7013, 7016, 1013, 7015, 77])], [], 0, fun _ => 0)
theorem ok_Mo_isTrap : zOK M_Mo_isTrap := zOK_of (by decide +kernel) (by decide +kernel)
def M_Mo_isLost : zMt := (K_Mo_isLost, RX12, [(0, .aload_n 0, 1), (1, .iload_n 1, 1), (2, .invokevirtual 205, 3), (5, .ifCond .ne 7, 3), (8, .iconst 1, 1), (9, .goto 4, 3), (12, .iconst 0, 1), (13, .ireturn, 1)], [], [(205, K_Mo_mayTake, 12, 1, [6136, 6139, 1013, 6138, 62])], [], 0, fun _ => 0)
theorem ok_Mo_isLost : zOK M_Mo_isLost := zOK_of (by decide +kernel) (by decide +kernel)
def M_Mo_trap : zMt := (K_Mo_trap, RX12, [(0, .aload_n 0, 1), (1, .iload_n 1, 1), (2, .invokevirtual 214, 3), (5, .ifCond .eq 37, 3), (8, .aload_n 0, 1), (9, .iload_n 2, 1), (10, .invokevirtual 186, 3), (13, .ifCond .eq 29, 3), (16, .aload_n 0, 1), (17, .getfield 7, 3), (20, .iconst 4, 1), (21, .iload_n 2, 1), (22, .imul, 1), (23, .iaload, 1), (24, .iload_n 1, 1), (25, .if_icmp .eq 19, 3), (28, .aload_n 0, 1), (29, .getfield 7, 3), (32, .iconst 4, 1), (33, .iload_n 2, 1), (34, .imul, 1), (35, .iconst 1, 1), (36, .iadd, 1), (37, .iaload, 1), (38, .iload_n 1, 1), (39, .if_icmp .eq 5, 3), (42, .iconst (-1), 1), (43, .ireturn, 1), (44, .aload_n 0, 1), (45, .getfield 7, 3), (48, .iconst 4, 1), (49, .iload_n 2, 1), (50, .imul, 1), (51, .iconst 3, 1), (52, .iadd, 1), (53, .iaload, 1), (54, .iconst 1, 1), (55, .if_icmp .ne 6, 3), (58, .bipush (-2), 2), (60, .ireturn, 1), (61, .aload_n 0, 1), (62, .iload_n 2, 1), (63, .aload_n 0, 1), (64, .getfield 7, 3), (67, .iconst 4, 1), (68, .iload_n 2, 1), (69, .imul, 1), (70, .iconst 1, 1), (71, .iadd, 1), (72, .iaload, 1), (73, .iload_n 1, 1), (74, .if_icmp .ne 7, 3), (77, .iconst 1, 1), (78, .goto 4, 3), (81, .iconst 0, 1), (82, .invokevirtual 261, 3), (85, .ifCond .eq 7, 3), (88, .iconst 1, 1), (89, .goto 4, 3), (92, .iconst 0, 1), (93, .ireturn, 1)], [(7, 12, 0, 5137)], [(186, K_Mo_isDoor, 12, 1, [6116, 6119, 1013, 6118, 59]), (214, K_Mo_isRoom, 12, 1, [6155, 6158, 1013, 6157, 65]), (261, K_Mo_isTrap, 12, 2, [7009, 7012, 1013, 7011, 76])], [], 0, fun _ => 0)
theorem ok_Mo_trap : zOK M_Mo_trap := zOK_of (by decide +kernel) (by decide +kernel)
def M_Mo_secret : zMt := (K_Mo_secret, RX12, [(0, .iconst 0, 1), (1, .istore_n 1, 1), (2, .iconst 0, 1), (3, .istore_n 2, 1), (4, .iload_n 2, 1), (5, .aload_n 0, 1), (6, .getfield 13, 3), (9, .if_icmp .ge 30, 3), (12, .aload_n 0, 1), (13, .iload_n 2, 1), (14, .invokestatic 249, 3), (17, .invokevirtual 240, 3), (20, .iload_n 1, 1), (21, .aload_n 0, 1), (22, .invokevirtual 246, 3), (25, .iconst 1, 1), (26, .iload_n 2, 1), (27, .ishl, 1), (28, .iconst (-1), 1), (29, .ixor, 1), (30, .iand, 1), (31, .ior, 1), (32, .istore_n 1, 1), (33, .iinc 2 1, 3), (36, .goto (-32), 3), (39, .iconst 1, 1), (40, .aload_n 0, 1), (41, .getfield 13, 3), (44, .ishl, 1), (45, .iconst 1, 1), (46, .isub, 1), (47, .iload_n 1, 1), (48, .iconst (-1), 1), (49, .ixor, 1), (50, .iand, 1), (51, .ireturn, 1)], [(13, 12, 1, 5138)], [(240, K_Mo_laysFrom, 12, 1, [6195, 6198, 1013, 6197, 69]), (246, K_Mo_foundRooms, 12, 0, [6223, 6226, 1013, 6225, 74]), (249, K_Mo_newIn, 100, 1, [6231, 6233, 1013, 6232])], [], 0, fun _ => 0)
theorem ok_Mo_secret : zOK M_Mo_secret := zOK_of (by decide +kernel) (by decide +kernel)
def M_Mo_safe : zMt := (K_Mo_safe, RX12, [(0, .aload_n 0, 1), (1, .invokevirtual 265, 3), (4, .ifCond .eq 7, 3), (7, .iconst 1, 1), (8, .goto 4, 3), (11, .iconst 0, 1), (12, .ireturn, 1)], [], [(265, K_Mo_isSafe, 12, 0, [7029, 7032, 1013, 7031, 78])], [], 0, fun _ => 0)
theorem ok_Mo_safe : zOK M_Mo_safe := zOK_of (by decide +kernel) (by decide +kernel)
def M_Mo_isSafe : zMt := (K_Mo_isSafe, RX12, [(0, .aload_n 0, 1), (1, .invokevirtual 234, 3), (4, .iconst 0, 1), (5, .istore_n 1, 1), (6, .iload_n 1, 1), (7, .iconst 2, 1), (8, .aload_n 0, 1), (9, .invokevirtual 180, 3), (12, .imul, 1), (13, .if_icmp .ge 45, 3), (16, .aload_n 0, 1), (17, .getfield 7, 3), (20, .iconst 4, 1), (21, .iload_n 1, 1), (22, .iconst 2, 1), (23, .idiv, 1), (24, .imul, 1), (25, .iconst 3, 1), (26, .iadd, 1), (27, .iaload, 1), (28, .ifCond .ne 24, 3), (31, .aload_n 0, 1), (32, .iconst 0, 1), (33, .iload_n 1, 1), (34, .iconst 2, 1), (35, .idiv, 1), (36, .bipush (-4), 2), (38, .iload_n 1, 1), (39, .iconst 2, 1), (40, .irem, 1), (41, .invokestatic 192, 3), (44, .iconst 0, 1), (45, .bipush (-4), 2), (47, .bipush (-4), 2), (49, .invokevirtual 230, 3), (52, .iinc 1 1, 3), (55, .goto (-49), 3), (58, .aload_n 0, 1), (59, .invokevirtual 237, 3), (62, .iconst 0, 1), (63, .istore_n 1, 1), (64, .iload_n 1, 1), (65, .aload_n 0, 1), (66, .getfield 227, 3), (69, .if_icmp .ge 24, 3), (72, .aload_n 0, 1), (73, .aload_n 0, 1), (74, .getfield 38, 3), (77, .iload_n 1, 1), (78, .iaload, 1), (79, .invokevirtual 258, 3), (82, .ifCond .eq 5, 3), (85, .iconst 0, 1), (86, .ireturn, 1), (87, .iinc 1 1, 3), (90, .goto (-26), 3), (93, .iconst 1, 1), (94, .ireturn, 1)], [(7, 12, 0, 5137), (38, 12, 23, 5160), (227, 12, 24, 5161)], [(180, K_Mo_doorMany, 12, 0, [6096, 6099, 1013, 6098, 57]), (192, K_Mo_placeOf, 100, 4, [6133, 6135, 1013, 6134]), (230, K_Mo_finds, 12, 4, [6203, 6206, 1013, 6205, 71]), (234, K_Mo_begins, 12, 0, [6199, 6202, 1013, 6201, 70]), (237, K_Mo_spreads, 12, 0, [6207, 6210, 1013, 6209, 72]), (258, K_Mo_isLost, 12, 1, [7013, 7016, 1013, 7015, 77])], [], 0, fun _ => 0)
theorem ok_Mo_isSafe : zOK M_Mo_isSafe := zOK_of (by decide +kernel) (by decide +kernel)
def M_Mo_round : zMt := (K_Mo_round, RX12, [(0, .aload_n 0, 1), (1, .iload_n 1, 1), (2, .invokevirtual 208, 3), (5, .ifCond .eq 29, 3), (8, .iload_n 2, 1), (9, .i2l, 1), (10, .lconst 0, 1), (11, .iconst 1, 1), (12, .aload_n 0, 1), (13, .getfield 13, 3), (16, .ishl, 1), (17, .iconst 1, 1), (18, .isub, 1), (19, .i2l, 1), (20, .invokestatic 88, 3), (23, .ifCond .eq 11, 3), (26, .iload_n 2, 1), (27, .invokestatic 252, 3), (30, .iconst 5, 1), (31, .if_icmp .le 5, 3), (34, .iconst (-1), 1), (35, .ireturn, 1), (36, .iconst 0, 1), (37, .istore_n 3, 1), (38, .iload_n 3, 1), (39, .sipush 570, 3), (42, .if_icmp .ge 23, 3), (45, .aload_n 0, 1), (46, .getfield 41, 3), (49, .iload_n 3, 1), (50, .iconst 0, 1), (51, .iastore, 1), (52, .aload_n 0, 1), (53, .getfield 44, 3), (56, .iload_n 3, 1), (57, .iconst 0, 1), (58, .iastore, 1), (59, .iinc 3 1, 3), (62, .goto (-24), 3), (65, .aload_n 0, 1), (66, .iload_n 1, 1), (67, .invokevirtual 211, 3), (70, .istore_n 3, 1), (71, .aload_n 0, 1), (72, .getfield 7, 3), (75, .bipush 57, 2), (77, .iconst 3, 1), (78, .iload_n 1, 1), (79, .imul, 1), (80, .iadd, 1), (81, .iaload, 1), (82, .istore 4, 2), (84, .iconst 1, 1), (85, .iload_n 2, 1), (86, .invokestatic 252, 3), (89, .ishl, 1), (90, .iconst 1, 1), (91, .isub, 1), (92, .istore 5, 2), (94, .aload_n 0, 1), (95, .getfield 44, 3), (98, .iload_n 3, 1), (99, .iconst 1, 1), (100, .iload 4, 2), (102, .iload_n 2, 1), (103, .invokestatic 269, 3), (106, .ishl, 1), (107, .iastore, 1), (108, .aload_n 0, 1), (109, .getfield 41, 3), (112, .iload_n 3, 1), (113, .aload_n 0, 1), (114, .getfield 44, 3), (117, .iload_n 3, 1), (118, .iaload, 1), (119, .iastore, 1), (120, .iconst 0, 1), (121, .istore 6, 2), (123, .iconst 1, 1), (124, .istore 7, 2), (126, .iload 7, 2), (128, .ifCond .eq 30, 3), (131, .aload_n 0, 1), (132, .iload 4, 2), (134, .iload 5, 2), (136, .invokevirtual 275, 3), (139, .ifCond .eq 6, 3), (142, .iload 6, 2), (144, .ireturn, 1), (145, .aload_n 0, 1), (146, .iload_n 2, 1), (147, .invokevirtual 278, 3), (150, .istore 7, 2), (152, .iinc 6 1, 3), (155, .goto (-29), 3), (158, .bipush (-4), 2), (160, .ireturn, 1)], [(7, 12, 0, 5137), (13, 12, 1, 5138), (41, 12, 25, 5162), (44, 12, 26, 5163)], [(88, K_Mo_in, 100, 3, [6040, 6042, 1013, 6041]), (208, K_Mo_isOne, 12, 1, [6125, 6128, 1013, 6127, 60]), (211, K_Mo_placeOfOne, 12, 1, [6129, 6132, 1013, 6131, 61]), (252, K_Mo_bitsOf, 100, 1, [7002, 7004, 1013, 7003]), (269, K_Mo_askedBit, 100, 2, [7037, 7039, 1013, 7038]), (275, K_Mo_isRound, 12, 2, [7040, 7043, 1013, 7042, 79]), (278, K_Mo_goesRound, 12, 1, [7044, 7047, 1013, 7046, 80])], [], 0, fun _ => 0)
theorem ok_Mo_round : zOK M_Mo_round := zOK_of (by decide +kernel) (by decide +kernel)
def M_Mo_askedBit : zMt := (K_Mo_askedBit, RX12, [(0, .iconst 1, 1), (1, .istore_n 2, 1), (2, .iconst 0, 1), (3, .istore_n 3, 1), (4, .iload_n 3, 1), (5, .iload_n 0, 1), (6, .if_icmp .ge 26, 3), (9, .iload_n 1, 1), (10, .iload_n 3, 1), (11, .ishr, 1), (12, .iconst 1, 1), (13, .iand, 1), (14, .iconst 1, 1), (15, .if_icmp .ne 9, 3), (18, .iconst 2, 1), (19, .iload_n 2, 1), (20, .imul, 1), (21, .goto 4, 3), (24, .iload_n 2, 1), (25, .istore_n 2, 1), (26, .iinc 3 1, 3), (29, .goto (-25), 3), (32, .iload_n 1, 1), (33, .iload_n 0, 1), (34, .ishr, 1), (35, .iconst 1, 1), (36, .iand, 1), (37, .iconst 1, 1), (38, .if_icmp .ne 7, 3), (41, .iload_n 2, 1), (42, .goto 4, 3), (45, .iconst 0, 1), (46, .ireturn, 1)], [], [], [], 0, fun _ => 0)
theorem ok_Mo_askedBit : zOK M_Mo_askedBit := zOK_of (by decide +kernel) (by decide +kernel)
def M_Mo_isRound : zMt := (K_Mo_isRound, RX12, [(0, .iconst 0, 1), (1, .istore_n 3, 1), (2, .iconst 0, 1), (3, .istore 4, 2), (5, .iload 4, 2), (7, .sipush 570, 3), (10, .if_icmp .ge 44, 3), (13, .iload_n 3, 1), (14, .ifCond .ne 28, 3), (17, .aload_n 0, 1), (18, .getfield 44, 3), (21, .iload 4, 2), (23, .iaload, 1), (24, .iload_n 2, 1), (25, .ishr, 1), (26, .iconst 1, 1), (27, .iand, 1), (28, .iconst 1, 1), (29, .if_icmp .ne 17, 3), (32, .aload_n 0, 1), (33, .iload 4, 2), (35, .invokevirtual 196, 3), (38, .iload_n 1, 1), (39, .if_icmp .ne 7, 3), (42, .iconst 1, 1), (43, .goto 4, 3), (46, .iconst 0, 1), (47, .istore_n 3, 1), (48, .iinc 4 1, 3), (51, .goto (-46), 3), (54, .iload_n 3, 1), (55, .ireturn, 1)], [(44, 12, 26, 5163)], [(196, K_Mo_roomAt, 12, 1, [6144, 6147, 1013, 6146, 64])], [], 0, fun _ => 0)
theorem ok_Mo_isRound : zOK M_Mo_isRound := zOK_of (by decide +kernel) (by decide +kernel)
def M_Mo_goesRound : zMt := (K_Mo_goesRound, RX12, [(0, .iconst 0, 1), (1, .istore_n 2, 1), (2, .iconst 0, 1), (3, .istore_n 3, 1), (4, .iload_n 3, 1), (5, .sipush 570, 3), (8, .if_icmp .ge 16, 3), (11, .aload_n 0, 1), (12, .getfield 47, 3), (15, .iload_n 3, 1), (16, .iconst 0, 1), (17, .iastore, 1), (18, .iinc 3 1, 3), (21, .goto (-17), 3), (24, .iconst 0, 1), (25, .istore_n 3, 1), (26, .iload_n 3, 1), (27, .sipush 570, 3), (30, .if_icmp .ge 122, 3), (33, .iconst 0, 1), (34, .istore 4, 2), (36, .iload 4, 2), (38, .aload_n 0, 1), (39, .invokevirtual 180, 3), (42, .if_icmp .ge 104, 3), (45, .aload_n 0, 1), (46, .getfield 44, 3), (49, .iload_n 3, 1), (50, .iaload, 1), (51, .ifCond .eq 95, 3), (54, .aload_n 0, 1), (55, .iload_n 3, 1), (56, .iload 4, 2), (58, .invokevirtual 202, 3), (61, .istore 5, 2), (63, .iload 5, 2), (65, .bipush (-4), 2), (67, .if_icmp .eq 73, 3), (70, .aload_n 0, 1), (71, .getfield 44, 3), (74, .iload_n 3, 1), (75, .iaload, 1), (76, .aload_n 0, 1), (77, .iload 5, 2), (79, .invokevirtual 196, 3), (82, .iload_n 1, 1), (83, .invokestatic 269, 3), (86, .invokestatic 272, 3), (89, .aload_n 0, 1), (90, .getfield 41, 3), (93, .iload 5, 2), (95, .iaload, 1), (96, .iconst (-1), 1), (97, .ixor, 1), (98, .iand, 1), (99, .istore 6, 2), (101, .aload_n 0, 1), (102, .getfield 41, 3), (105, .iload 5, 2), (107, .dup2, 1), (108, .iaload, 1), (109, .iload 6, 2), (111, .ior, 1), (112, .iastore, 1), (113, .aload_n 0, 1), (114, .getfield 47, 3), (117, .iload 5, 2), (119, .dup2, 1), (120, .iaload, 1), (121, .iload 6, 2), (123, .ior, 1), (124, .iastore, 1), (125, .iload_n 2, 1), (126, .ifCond .ne 8, 3), (129, .iload 6, 2), (131, .ifCond .eq 7, 3), (134, .iconst 1, 1), (135, .goto 4, 3), (138, .iconst 0, 1), (139, .istore_n 2, 1), (140, .iinc 4 1, 3), (143, .goto (-107), 3), (146, .iinc 3 1, 3), (149, .goto (-123), 3), (152, .iconst 0, 1), (153, .istore_n 3, 1), (154, .iload_n 3, 1), (155, .sipush 570, 3), (158, .if_icmp .ge 21, 3), (161, .aload_n 0, 1), (162, .getfield 44, 3), (165, .iload_n 3, 1), (166, .aload_n 0, 1), (167, .getfield 47, 3), (170, .iload_n 3, 1), (171, .iaload, 1), (172, .iastore, 1), (173, .iinc 3 1, 3), (176, .goto (-22), 3), (179, .iload_n 2, 1), (180, .ireturn, 1)], [(41, 12, 25, 5162), (44, 12, 26, 5163), (47, 12, 27, 5164)], [(180, K_Mo_doorMany, 12, 0, [6096, 6099, 1013, 6098, 57]), (196, K_Mo_roomAt, 12, 1, [6144, 6147, 1013, 6146, 64]), (202, K_Mo_stepped, 12, 2, [6140, 6143, 1013, 6142, 63]), (269, K_Mo_askedBit, 100, 2, [7037, 7039, 1013, 7038]), (272, K_Mo_withRoom, 100, 2, [7048, 7050, 1013, 7049])], [], 0, fun _ => 0)
theorem ok_Mo_goesRound : zOK M_Mo_goesRound := zOK_of (by decide +kernel) (by decide +kernel)
def M_Mo_withRoom : zMt := (K_Mo_withRoom, RX12, [(0, .iconst 0, 1), (1, .istore_n 2, 1), (2, .iconst 0, 1), (3, .istore_n 3, 1), (4, .iload_n 3, 1), (5, .bipush 32, 2), (7, .if_icmp .ge 30, 3), (10, .iload_n 2, 1), (11, .iload_n 0, 1), (12, .iload_n 3, 1), (13, .ishr, 1), (14, .iconst 1, 1), (15, .iand, 1), (16, .iconst 1, 1), (17, .if_icmp .ne 11, 3), (20, .iconst 1, 1), (21, .iload_n 3, 1), (22, .iload_n 1, 1), (23, .ior, 1), (24, .ishl, 1), (25, .goto 4, 3), (28, .iconst 0, 1), (29, .ior, 1), (30, .istore_n 2, 1), (31, .iinc 3 1, 3), (34, .goto (-30), 3), (37, .iload_n 2, 1), (38, .ireturn, 1)], [], [], [], 0, fun _ => 0)
theorem ok_Mo_withRoom : zOK M_Mo_withRoom := zOK_of (by decide +kernel) (by decide +kernel)
def M_Mo_tour : zMt := (K_Mo_tour, RX12, [(0, .aload_n 0, 1), (1, .iload_n 1, 1), (2, .invokevirtual 214, 3), (5, .ifCond .eq 21, 3), (8, .iload_n 2, 1), (9, .ifCond .eq 19, 3), (12, .iload_n 2, 1), (13, .i2l, 1), (14, .ldc2_w 287, 3), (17, .ldc2_w 289, 3), (20, .invokestatic 88, 3), (23, .ifCond .ne 5, 3), (26, .iconst (-1), 1), (27, .ireturn, 1), (28, .aload_n 0, 1), (29, .invokevirtual 291, 3), (32, .aload_n 0, 1), (33, .getfield 281, 3), (36, .bipush 8, 2), (38, .if_icmp .le 6, 3), (41, .bipush (-2), 2), (43, .ireturn, 1), (44, .aload_n 0, 1), (45, .invokevirtual 294, 3), (48, .iload_n 1, 1), (49, .invokestatic 249, 3), (52, .istore_n 3, 1), (53, .iconst 0, 1), (54, .istore 4, 2), (56, .aload_n 0, 1), (57, .iload_n 3, 1), (58, .iconst 0, 1), (59, .invokevirtual 284, 3), (62, .istore 5, 2), (64, .iload_n 2, 1), (65, .ifCond .ne 6, 3), (68, .iload 5, 2), (70, .ireturn, 1), (71, .iload 5, 2), (73, .ifCond .eq 14, 3), (76, .iload_n 2, 1), (77, .bipush 10, 2), (79, .isub, 1), (80, .aload_n 0, 1), (81, .getfield 281, 3), (84, .if_icmp .lt 6, 3), (87, .bipush (-4), 2), (89, .ireturn, 1), (90, .bipush (-4), 2), (92, .istore 6, 2), (94, .iconst 0, 1), (95, .istore 7, 2), (97, .iload 7, 2), (99, .iload_n 2, 1), (100, .bipush 10, 2), (102, .isub, 1), (103, .if_icmp .gt 113, 3), (106, .iconst 0, 1), (107, .istore 8, 2), (109, .iload 4, 2), (111, .iload 8, 2), (113, .ishr, 1), (114, .iconst 1, 1), (115, .iand, 1), (116, .iconst 1, 1), (117, .if_icmp .eq 61, 3), (120, .aload_n 0, 1), (121, .iload_n 3, 1), (122, .aload_n 0, 1), (123, .getfield 50, 3), (126, .iload 8, 2), (128, .iaload, 1), (129, .invokevirtual 202, 3), (132, .bipush (-4), 2), (134, .if_icmp .eq 44, 3), (137, .aload_n 0, 1), (138, .getfield 53, 3), (141, .bipush 30, 2), (143, .iload 4, 2), (145, .iconst 1, 1), (146, .iload 8, 2), (148, .ishl, 1), (149, .ior, 1), (150, .imul, 1), (151, .iconst 2, 1), (152, .iload 8, 2), (154, .imul, 1), (155, .iadd, 1), (156, .aload_n 0, 1), (157, .iload_n 3, 1), (158, .aload_n 0, 1), (159, .getfield 50, 3), (162, .iload 8, 2), (164, .iaload, 1), (165, .invokevirtual 202, 3), (168, .bipush 15, 2), (170, .idiv, 1), (171, .iconst 2, 1), (172, .irem, 1), (173, .iadd, 1), (174, .iaload, 1), (175, .ifCond .ne 9, 3), (178, .iinc 8 1, 3), (181, .goto (-72), 3), (184, .aload_n 0, 1), (185, .getfield 50, 3), (188, .iload 8, 2), (190, .iaload, 1), (191, .istore 6, 2), (193, .aload_n 0, 1), (194, .iload_n 3, 1), (195, .iload 6, 2), (197, .invokevirtual 202, 3), (200, .istore_n 3, 1), (201, .iload 4, 2), (203, .iconst 1, 1), (204, .iload 8, 2), (206, .ishl, 1), (207, .ior, 1), (208, .istore 4, 2), (210, .iinc 7 1, 3), (213, .goto (-116), 3), (216, .iload 6, 2), (218, .ireturn, 1)], [(50, 12, 28, 5165), (53, 12, 30, 5167), (281, 12, 29, 5166)], [(88, K_Mo_in, 100, 3, [6040, 6042, 1013, 6041]), (202, K_Mo_stepped, 12, 2, [6140, 6143, 1013, 6142, 63]), (214, K_Mo_isRoom, 12, 1, [6155, 6158, 1013, 6157, 65]), (249, K_Mo_newIn, 100, 1, [6231, 6233, 1013, 6232]), (284, K_Mo_onward, 12, 2, [7065, 7068, 1013, 7067, 83]), (291, K_Mo_layOpens, 12, 0, [7057, 7060, 1013, 7059, 81]), (294, K_Mo_layTours, 12, 0, [7061, 7064, 1013, 7063, 82])], [(287, 1, 10, 7055), (289, 1, 17, 7056)], 0, fun _ => 0)
theorem ok_Mo_tour : zOK M_Mo_tour := zOK_of (by decide +kernel) (by decide +kernel)
def M_Mo_layOpens : zMt := (K_Mo_layOpens, RX12, [(0, .aload_n 0, 1), (1, .iconst 0, 1), (2, .putfield 281, 3), (5, .iconst 0, 1), (6, .istore_n 1, 1), (7, .iload_n 1, 1), (8, .aload_n 0, 1), (9, .invokevirtual 180, 3), (12, .if_icmp .ge 42, 3), (15, .aload_n 0, 1), (16, .getfield 7, 3), (19, .iconst 4, 1), (20, .iload_n 1, 1), (21, .imul, 1), (22, .iconst 3, 1), (23, .iadd, 1), (24, .iaload, 1), (25, .ifCond .ne 23, 3), (28, .aload_n 0, 1), (29, .getfield 50, 3), (32, .aload_n 0, 1), (33, .getfield 281, 3), (36, .iload_n 1, 1), (37, .iastore, 1), (38, .aload_n 0, 1), (39, .dup, 1), (40, .getfield 281, 3), (43, .iconst 1, 1), (44, .iadd, 1), (45, .putfield 281, 3), (48, .iinc 1 1, 3), (51, .goto (-44), 3), (54, .return_, 1)], [(7, 12, 0, 5137), (50, 12, 28, 5165), (281, 12, 29, 5166)], [(180, K_Mo_doorMany, 12, 0, [6096, 6099, 1013, 6098, 57])], [], 0, fun _ => 0)
theorem ok_Mo_layOpens : zOK M_Mo_layOpens := zOK_of (by decide +kernel) (by decide +kernel)
def M_Mo_layTours : zMt := (K_Mo_layTours, RX12, [(0, .iconst 1, 1), (1, .aload_n 0, 1), (2, .getfield 281, 3), (5, .ishl, 1), (6, .iconst 1, 1), (7, .isub, 1), (8, .istore_n 1, 1), (9, .iload_n 1, 1), (10, .ifCond .le 75, 3), (13, .iconst 0, 1), (14, .istore_n 2, 1), (15, .iload_n 2, 1), (16, .iconst 2, 1), (17, .aload_n 0, 1), (18, .getfield 281, 3), (21, .imul, 1), (22, .if_icmp .ge 57, 3), (25, .aload_n 0, 1), (26, .getfield 53, 3), (29, .bipush 30, 2), (31, .iload_n 1, 1), (32, .imul, 1), (33, .iload_n 2, 1), (34, .iadd, 1), (35, .iload_n 1, 1), (36, .iload_n 2, 1), (37, .iconst 2, 1), (38, .idiv, 1), (39, .ishr, 1), (40, .iconst 1, 1), (41, .iand, 1), (42, .iconst 1, 1), (43, .if_icmp .ne 28, 3), (46, .aload_n 0, 1), (47, .iconst 0, 1), (48, .aload_n 0, 1), (49, .getfield 50, 3), (52, .iload_n 2, 1), (53, .iconst 2, 1), (54, .idiv, 1), (55, .iaload, 1), (56, .bipush (-4), 2), (58, .iload_n 2, 1), (59, .iconst 2, 1), (60, .irem, 1), (61, .invokestatic 192, 3), (64, .iload_n 1, 1), (65, .invokevirtual 284, 3), (68, .goto 4, 3), (71, .iconst 0, 1), (72, .iastore, 1), (73, .iinc 2 1, 3), (76, .goto (-61), 3), (79, .iinc 1 (-1), 3), (82, .goto (-73), 3), (85, .return_, 1)], [(50, 12, 28, 5165), (53, 12, 30, 5167), (281, 12, 29, 5166)], [(192, K_Mo_placeOf, 100, 4, [6133, 6135, 1013, 6134]), (284, K_Mo_onward, 12, 2, [7065, 7068, 1013, 7067, 83])], [], 0, fun _ => 0)
theorem ok_Mo_layTours : zOK M_Mo_layTours := zOK_of (by decide +kernel) (by decide +kernel)
def M_Mo_onward : zMt := (K_Mo_onward, RX12, [(0, .iload_n 2, 1), (1, .iconst 1, 1), (2, .aload_n 0, 1), (3, .getfield 281, 3), (6, .ishl, 1), (7, .iconst 1, 1), (8, .isub, 1), (9, .if_icmp .ne 5, 3), (12, .iconst 1, 1), (13, .ireturn, 1), (14, .iconst 0, 1), (15, .istore_n 3, 1), (16, .iconst 0, 1), (17, .istore 4, 2), (19, .iload 4, 2), (21, .aload_n 0, 1), (22, .getfield 281, 3), (25, .if_icmp .ge 79, 3), (28, .iload_n 2, 1), (29, .iload 4, 2), (31, .ishr, 1), (32, .iconst 1, 1), (33, .iand, 1), (34, .iconst 1, 1), (35, .if_icmp .ne 8, 3), (38, .bipush (-4), 2), (40, .goto 15, 3), (43, .aload_n 0, 1), (44, .iload_n 1, 1), (45, .aload_n 0, 1), (46, .getfield 50, 3), (49, .iload 4, 2), (51, .iaload, 1), (52, .invokevirtual 202, 3), (55, .istore 5, 2), (57, .iload_n 3, 1), (58, .iload 5, 2), (60, .bipush (-4), 2), (62, .if_icmp .ne 7, 3), (65, .iconst 0, 1), (66, .goto 30, 3), (69, .aload_n 0, 1), (70, .getfield 53, 3), (73, .bipush 30, 2), (75, .iload_n 2, 1), (76, .iconst 1, 1), (77, .iload 4, 2), (79, .ishl, 1), (80, .ior, 1), (81, .imul, 1), (82, .iconst 2, 1), (83, .iload 4, 2), (85, .imul, 1), (86, .iadd, 1), (87, .iload 5, 2), (89, .bipush 15, 2), (91, .idiv, 1), (92, .iconst 2, 1), (93, .irem, 1), (94, .iadd, 1), (95, .iaload, 1), (96, .iadd, 1), (97, .istore_n 3, 1), (98, .iinc 4 1, 3), (101, .goto (-82), 3), (104, .iload_n 3, 1), (105, .ireturn, 1)], [(50, 12, 28, 5165), (53, 12, 30, 5167), (281, 12, 29, 5166)], [(202, K_Mo_stepped, 12, 2, [6140, 6143, 1013, 6142, 63])], [], 0, fun _ => 0)
theorem ok_Mo_onward : zOK M_Mo_onward := zOK_of (by decide +kernel) (by decide +kernel)
def M_Mo_talk : zMt := (K_Mo_talk, RX12, [(0, .aload_n 0, 1), (1, .iload_n 1, 1), (2, .invokevirtual 208, 3), (5, .ifCond .eq 28, 3), (8, .aload_n 0, 1), (9, .iload_n 2, 1), (10, .invokevirtual 208, 3), (13, .ifCond .eq 20, 3), (16, .iload_n 1, 1), (17, .iload_n 2, 1), (18, .if_icmp .eq 15, 3), (21, .iload_n 3, 1), (22, .i2l, 1), (23, .lconst 1, 1), (24, .ldc2_w 300, 3), (27, .invokestatic 88, 3), (30, .ifCond .ne 5, 3), (33, .iconst (-1), 1), (34, .ireturn, 1), (35, .aload_n 0, 1), (36, .getfield 7, 3), (39, .bipush 73, 2), (41, .iaload, 1), (42, .iconst 1, 1), (43, .if_icmp .ne 6, 3), (46, .bipush (-2), 2), (48, .ireturn, 1), (49, .aload_n 0, 1), (50, .invokevirtual 302, 3), (53, .aload_n 0, 1), (54, .iload_n 1, 1), (55, .invokevirtual 211, 3), (58, .bipush 15, 2), (60, .idiv, 1), (61, .istore 4, 2), (63, .aload_n 0, 1), (64, .iload_n 2, 1), (65, .invokevirtual 211, 3), (68, .bipush 15, 2), (70, .idiv, 1), (71, .istore 5, 2), (73, .aload_n 0, 1), (74, .bipush 6, 2), (76, .bipush 38, 2), (78, .iload 4, 2), (80, .imul, 1), (81, .iload 5, 2), (83, .iadd, 1), (84, .imul, 1), (85, .aload_n 0, 1), (86, .bipush 15, 2), (88, .iload 4, 2), (90, .imul, 1), (91, .invokevirtual 196, 3), (94, .aload_n 0, 1), (95, .bipush 15, 2), (97, .iload 5, 2), (99, .imul, 1), (100, .invokevirtual 196, 3), (103, .if_icmp .ne 7, 3), (106, .iconst 1, 1), (107, .goto 4, 3), (110, .iconst 0, 1), (111, .iadd, 1), (112, .iconst 0, 1), (113, .invokevirtual 305, 3), (116, .iconst 0, 1), (117, .istore 6, 2), (119, .iload 6, 2), (121, .aload_n 0, 1), (122, .getfield 297, 3), (125, .if_icmp .ge 42, 3), (128, .aload_n 0, 1), (129, .getfield 59, 3), (132, .iload 6, 2), (134, .iaload, 1), (135, .istore 7, 2), (137, .iload 7, 2), (139, .bipush 6, 2), (141, .irem, 1), (142, .iload_n 3, 1), (143, .if_icmp .ne 11, 3), (146, .aload_n 0, 1), (147, .getfield 56, 3), (150, .iload 7, 2), (152, .iaload, 1), (153, .ireturn, 1), (154, .aload_n 0, 1), (155, .iload 7, 2), (157, .iload_n 3, 1), (158, .invokevirtual 308, 3), (161, .iinc 6 1, 3), (164, .goto (-45), 3), (167, .bipush (-4), 2), (169, .ireturn, 1)], [(7, 12, 0, 5137), (56, 12, 31, 5168), (59, 12, 32, 5169), (297, 12, 33, 5170)], [(88, K_Mo_in, 100, 3, [6040, 6042, 1013, 6041]), (196, K_Mo_roomAt, 12, 1, [6144, 6147, 1013, 6146, 64]), (208, K_Mo_isOne, 12, 1, [6125, 6128, 1013, 6127, 60]), (211, K_Mo_placeOfOne, 12, 1, [6129, 6132, 1013, 6131, 61]), (302, K_Mo_beginsTwo, 12, 0, [7074, 7077, 1013, 7076, 84]), (305, K_Mo_findsTwo, 12, 2, [7078, 7081, 1013, 7080, 85]), (308, K_Mo_layTalk, 12, 2, [7082, 7085, 1013, 7084, 86])], [(300, 1, 5, 7073)], 0, fun _ => 0)
theorem ok_Mo_talk : zOK M_Mo_talk := zOK_of (by decide +kernel) (by decide +kernel)
def M_Mo_beginsTwo : zMt := (K_Mo_beginsTwo, RX12, [(0, .aload_n 0, 1), (1, .iconst 0, 1), (2, .putfield 297, 3), (5, .iconst 0, 1), (6, .istore_n 1, 1), (7, .iload_n 1, 1), (8, .sipush 8664, 3), (11, .if_icmp .ge 17, 3), (14, .aload_n 0, 1), (15, .getfield 56, 3), (18, .iload_n 1, 1), (19, .bipush (-4), 2), (21, .iastore, 1), (22, .iinc 1 1, 3), (25, .goto (-18), 3), (28, .return_, 1)], [(56, 12, 31, 5168), (297, 12, 33, 5170)], [], [], 0, fun _ => 0)
theorem ok_Mo_beginsTwo : zOK M_Mo_beginsTwo := zOK_of (by decide +kernel) (by decide +kernel)
def M_Mo_findsTwo : zMt := (K_Mo_findsTwo, RX12, [(0, .aload_n 0, 1), (1, .getfield 56, 3), (4, .iload_n 1, 1), (5, .iaload, 1), (6, .bipush (-4), 2), (8, .if_icmp .ne 30, 3), (11, .aload_n 0, 1), (12, .getfield 56, 3), (15, .iload_n 1, 1), (16, .iload_n 2, 1), (17, .iastore, 1), (18, .aload_n 0, 1), (19, .getfield 59, 3), (22, .aload_n 0, 1), (23, .getfield 297, 3), (26, .iload_n 1, 1), (27, .iastore, 1), (28, .aload_n 0, 1), (29, .dup, 1), (30, .getfield 297, 3), (33, .iconst 1, 1), (34, .iadd, 1), (35, .putfield 297, 3), (38, .return_, 1)], [(56, 12, 31, 5168), (59, 12, 32, 5169), (297, 12, 33, 5170)], [], [], 0, fun _ => 0)
theorem ok_Mo_findsTwo : zOK M_Mo_findsTwo := zOK_of (by decide +kernel) (by decide +kernel)
def M_Mo_layTalk : zMt := (K_Mo_layTalk, RX12, [(0, .bipush 15, 2), (2, .iload_n 1, 1), (3, .bipush 6, 2), (5, .idiv, 1), (6, .bipush 38, 2), (8, .idiv, 1), (9, .imul, 1), (10, .istore_n 3, 1), (11, .bipush 15, 2), (13, .iload_n 1, 1), (14, .bipush 6, 2), (16, .idiv, 1), (17, .bipush 38, 2), (19, .irem, 1), (20, .imul, 1), (21, .istore 4, 2), (23, .iconst 0, 1), (24, .istore 5, 2), (26, .iload 5, 2), (28, .aload_n 0, 1), (29, .iload_n 3, 1), (30, .invokevirtual 314, 3), (33, .if_icmp .ge 131, 3), (36, .aload_n 0, 1), (37, .iload_n 3, 1), (38, .iload 5, 2), (40, .invokevirtual 317, 3), (43, .istore 6, 2), (45, .iconst 0, 1), (46, .istore 7, 2), (48, .iload 7, 2), (50, .aload_n 0, 1), (51, .iload 4, 2), (53, .invokevirtual 314, 3), (56, .if_icmp .ge 102, 3), (59, .iload 6, 2), (61, .bipush (-4), 2), (63, .if_icmp .eq 95, 3), (66, .aload_n 0, 1), (67, .iload 4, 2), (69, .iload 7, 2), (71, .invokevirtual 317, 3), (74, .istore 8, 2), (76, .iload 8, 2), (78, .bipush (-4), 2), (80, .if_icmp .eq 72, 3), (83, .aload_n 0, 1), (84, .iload 6, 2), (86, .invokevirtual 196, 3), (89, .aload_n 0, 1), (90, .iload 8, 2), (92, .invokevirtual 196, 3), (95, .if_icmp .ne 12, 3), (98, .iload_n 1, 1), (99, .bipush 6, 2), (101, .irem, 1), (102, .iconst 1, 1), (103, .iadd, 1), (104, .goto 4, 3), (107, .iconst 0, 1), (108, .istore 9, 2), (110, .aload_n 0, 1), (111, .bipush 6, 2), (113, .bipush 38, 2), (115, .iload 6, 2), (117, .bipush 15, 2), (119, .idiv, 1), (120, .imul, 1), (121, .iload 8, 2), (123, .bipush 15, 2), (125, .idiv, 1), (126, .iadd, 1), (127, .imul, 1), (128, .iload 9, 2), (130, .iload_n 2, 1), (131, .if_icmp .le 7, 3), (134, .iload_n 2, 1), (135, .goto 5, 3), (138, .iload 9, 2), (140, .iadd, 1), (141, .aload_n 0, 1), (142, .getfield 56, 3), (145, .iload_n 1, 1), (146, .iaload, 1), (147, .iconst 1, 1), (148, .iadd, 1), (149, .invokevirtual 305, 3), (152, .iinc 7 1, 3), (155, .goto (-107), 3), (158, .iinc 5 1, 3), (161, .goto (-135), 3), (164, .return_, 1)], [(56, 12, 31, 5168)], [(196, K_Mo_roomAt, 12, 1, [6144, 6147, 1013, 6146, 64]), (305, K_Mo_findsTwo, 12, 2, [7078, 7081, 1013, 7080, 85]), (314, K_Mo_stays, 12, 1, [7086, 7089, 1013, 7088, 87]), (317, K_Mo_doneBy, 12, 2, [7090, 7093, 1013, 7092, 88])], [], 0, fun _ => 0)
theorem ok_Mo_layTalk : zOK M_Mo_layTalk := zOK_of (by decide +kernel) (by decide +kernel)
def M_Mo_stays : zMt := (K_Mo_stays, RX12, [(0, .aload_n 0, 1), (1, .invokevirtual 180, 3), (4, .ifCond .ne 7, 3), (7, .iconst 1, 1), (8, .goto 7, 3), (11, .aload_n 0, 1), (12, .invokevirtual 180, 3), (15, .ireturn, 1)], [], [(180, K_Mo_doorMany, 12, 0, [6096, 6099, 1013, 6098, 57])], [], 0, fun _ => 0)
theorem ok_Mo_stays : zOK M_Mo_stays := zOK_of (by decide +kernel) (by decide +kernel)
def M_Mo_doneBy : zMt := (K_Mo_doneBy, RX12, [(0, .aload_n 0, 1), (1, .invokevirtual 180, 3), (4, .ifCond .ne 7, 3), (7, .iload_n 1, 1), (8, .goto 9, 3), (11, .aload_n 0, 1), (12, .iload_n 1, 1), (13, .iload_n 2, 1), (14, .invokevirtual 311, 3), (17, .ireturn, 1)], [], [(180, K_Mo_doorMany, 12, 0, [6096, 6099, 1013, 6098, 57]), (311, K_Mo_doing, 12, 2, [7094, 7097, 1013, 7096, 89])], [], 0, fun _ => 0)
theorem ok_Mo_doneBy : zOK M_Mo_doneBy := zOK_of (by decide +kernel) (by decide +kernel)
def M_Mo_doing : zMt := (K_Mo_doing, RX12, [(0, .aload_n 0, 1), (1, .iload_n 1, 1), (2, .iload_n 2, 1), (3, .invokevirtual 202, 3), (6, .istore_n 3, 1), (7, .iload_n 3, 1), (8, .bipush (-4), 2), (10, .if_icmp .ne 19, 3), (13, .iload_n 2, 1), (14, .ifCond .ne 15, 3), (17, .aload_n 0, 1), (18, .iload_n 1, 1), (19, .invokevirtual 258, 3), (22, .ifCond .eq 7, 3), (25, .iload_n 1, 1), (26, .goto 4, 3), (29, .iload_n 3, 1), (30, .ireturn, 1)], [], [(202, K_Mo_stepped, 12, 2, [6140, 6143, 1013, 6142, 63]), (258, K_Mo_isLost, 12, 1, [7013, 7016, 1013, 7015, 77])], [], 0, fun _ => 0)
theorem ok_Mo_doing : zOK M_Mo_doing := zOK_of (by decide +kernel) (by decide +kernel)
def M_Mo_cup : zMt := (K_Mo_cup, RX12, [(0, .aload_n 0, 1), (1, .iload_n 1, 1), (2, .invokevirtual 208, 3), (5, .ifCond .eq 24, 3), (8, .aload_n 0, 1), (9, .iload_n 2, 1), (10, .invokevirtual 208, 3), (13, .ifCond .eq 16, 3), (16, .iload_n 1, 1), (17, .iload_n 2, 1), (18, .if_icmp .eq 11, 3), (21, .aload_n 0, 1), (22, .iload_n 3, 1), (23, .invokevirtual 214, 3), (26, .ifCond .ne 5, 3), (29, .iconst (-1), 1), (30, .ireturn, 1), (31, .aload_n 0, 1), (32, .getfield 7, 3), (35, .bipush 73, 2), (37, .iaload, 1), (38, .iconst 1, 1), (39, .if_icmp .ne 6, 3), (42, .bipush (-2), 2), (44, .ireturn, 1), (45, .aload_n 0, 1), (46, .invokevirtual 302, 3), (49, .aload_n 0, 1), (50, .aload_n 0, 1), (51, .iload_n 1, 1), (52, .invokevirtual 211, 3), (55, .aload_n 0, 1), (56, .iload_n 2, 1), (57, .invokevirtual 211, 3), (60, .iconst 0, 1), (61, .iconst 0, 1), (62, .invokevirtual 320, 3), (65, .iconst 0, 1), (66, .istore 4, 2), (68, .iload 4, 2), (70, .aload_n 0, 1), (71, .getfield 297, 3), (74, .if_icmp .ge 171, 3), (77, .aload_n 0, 1), (78, .getfield 59, 3), (81, .iload 4, 2), (83, .iaload, 1), (84, .istore 5, 2), (86, .bipush 15, 2), (88, .iload 5, 2), (90, .bipush 6, 2), (92, .idiv, 1), (93, .bipush 38, 2), (95, .idiv, 1), (96, .imul, 1), (97, .istore 6, 2), (99, .bipush 15, 2), (101, .iload 5, 2), (103, .bipush 6, 2), (105, .idiv, 1), (106, .bipush 38, 2), (108, .irem, 1), (109, .imul, 1), (110, .istore 7, 2), (112, .aload_n 0, 1), (113, .iload 5, 2), (115, .bipush 6, 2), (117, .irem, 1), (118, .ifCond .ne 8, 3), (121, .iload 6, 2), (123, .goto 5, 3), (126, .iload 7, 2), (128, .invokevirtual 196, 3), (131, .iload_n 3, 1), (132, .if_icmp .ne 11, 3), (135, .aload_n 0, 1), (136, .getfield 56, 3), (139, .iload 5, 2), (141, .iaload, 1), (142, .ireturn, 1), (143, .iconst 0, 1), (144, .istore 8, 2), (146, .iload 8, 2), (148, .aload_n 0, 1), (149, .iload 6, 2), (151, .invokevirtual 314, 3), (154, .if_icmp .ge 85, 3), (157, .aload_n 0, 1), (158, .iload 6, 2), (160, .iload 8, 2), (162, .invokevirtual 317, 3), (165, .istore 9, 2), (167, .iconst 0, 1), (168, .istore 10, 2), (170, .iload 10, 2), (172, .aload_n 0, 1), (173, .iload 7, 2), (175, .invokevirtual 314, 3), (178, .if_icmp .ge 55, 3), (181, .iload 9, 2), (183, .bipush (-4), 2), (185, .if_icmp .eq 48, 3), (188, .aload_n 0, 1), (189, .iload 7, 2), (191, .iload 10, 2), (193, .invokevirtual 317, 3), (196, .istore 11, 2), (198, .iload 11, 2), (200, .bipush (-4), 2), (202, .if_icmp .eq 25, 3), (205, .aload_n 0, 1), (206, .iload 9, 2), (208, .iload 11, 2), (210, .iload 5, 2), (212, .bipush 6, 2), (214, .irem, 1), (215, .aload_n 0, 1), (216, .getfield 56, 3), (219, .iload 5, 2), (221, .iaload, 1), (222, .iconst 1, 1), (223, .iadd, 1), (224, .invokevirtual 320, 3), (227, .iinc 10 1, 3), (230, .goto (-60), 3), (233, .iinc 8 1, 3), (236, .goto (-90), 3), (239, .iinc 4 1, 3), (242, .goto (-174), 3), (245, .bipush (-4), 2), (247, .ireturn, 1)], [(7, 12, 0, 5137), (56, 12, 31, 5168), (59, 12, 32, 5169), (297, 12, 33, 5170)], [(196, K_Mo_roomAt, 12, 1, [6144, 6147, 1013, 6146, 64]), (208, K_Mo_isOne, 12, 1, [6125, 6128, 1013, 6127, 60]), (211, K_Mo_placeOfOne, 12, 1, [6129, 6132, 1013, 6131, 61]), (214, K_Mo_isRoom, 12, 1, [6155, 6158, 1013, 6157, 65]), (302, K_Mo_beginsTwo, 12, 0, [7074, 7077, 1013, 7076, 84]), (314, K_Mo_stays, 12, 1, [7086, 7089, 1013, 7088, 87]), (317, K_Mo_doneBy, 12, 2, [7090, 7093, 1013, 7092, 88]), (320, K_Mo_findsCup, 12, 4, [7102, 7105, 1013, 7104, 90])], [], 0, fun _ => 0)
theorem ok_Mo_cup : zOK M_Mo_cup := zOK_of (by decide +kernel) (by decide +kernel)
def M_Mo_findsCup : zMt := (K_Mo_findsCup, RX12, [(0, .bipush 6, 2), (2, .bipush 38, 2), (4, .iload_n 1, 1), (5, .bipush 15, 2), (7, .idiv, 1), (8, .imul, 1), (9, .iload_n 2, 1), (10, .bipush 15, 2), (12, .idiv, 1), (13, .iadd, 1), (14, .imul, 1), (15, .istore 5, 2), (17, .aload_n 0, 1), (18, .iload 5, 2), (20, .iload_n 3, 1), (21, .iadd, 1), (22, .iload 4, 2), (24, .invokevirtual 305, 3), (27, .aload_n 0, 1), (28, .iload_n 1, 1), (29, .invokevirtual 196, 3), (32, .aload_n 0, 1), (33, .iload_n 2, 1), (34, .invokevirtual 196, 3), (37, .if_icmp .ne 15, 3), (40, .aload_n 0, 1), (41, .iload 5, 2), (43, .iconst 1, 1), (44, .iadd, 1), (45, .iload_n 3, 1), (46, .isub, 1), (47, .iload 4, 2), (49, .invokevirtual 305, 3), (52, .return_, 1)], [], [(196, K_Mo_roomAt, 12, 1, [6144, 6147, 1013, 6146, 64]), (305, K_Mo_findsTwo, 12, 2, [7078, 7081, 1013, 7080, 85])], [], 0, fun _ => 0)
theorem ok_Mo_findsCup : zOK M_Mo_findsCup := zOK_of (by decide +kernel) (by decide +kernel)
def M_Mo_more : zMt := (K_Mo_more, RX12, [(0, .iload_n 1, 1), (1, .i2l, 1), (2, .lconst 0, 1), (3, .lconst 1, 1), (4, .invokestatic 88, 3), (7, .ifCond .ne 5, 3), (10, .iconst (-1), 1), (11, .ireturn, 1), (12, .aload_n 0, 1), (13, .invokevirtual 180, 3), (16, .bipush 14, 2), (18, .if_icmp .ne 6, 3), (21, .bipush (-2), 2), (23, .ireturn, 1), (24, .aload_n 0, 1), (25, .invokevirtual 255, 3), (28, .istore_n 2, 1), (29, .bipush (-4), 2), (31, .istore_n 3, 1), (32, .iconst 0, 1), (33, .istore 4, 2), (35, .iload 4, 2), (37, .aload_n 0, 1), (38, .getfield 13, 3), (41, .if_icmp .ge 88, 3), (44, .iload 4, 2), (46, .iconst 1, 1), (47, .iadd, 1), (48, .istore 5, 2), (50, .iload 5, 2), (52, .aload_n 0, 1), (53, .getfield 13, 3), (56, .if_icmp .ge 67, 3), (59, .aload_n 0, 1), (60, .iload 4, 2), (62, .iload 5, 2), (64, .iconst 0, 1), (65, .invokevirtual 220, 3), (68, .aload_n 0, 1), (69, .invokevirtual 255, 3), (72, .istore 6, 2), (74, .aload_n 0, 1), (75, .getfield 7, 3), (78, .bipush 56, 2), (80, .dup2, 1), (81, .iaload, 1), (82, .iconst 1, 1), (83, .isub, 1), (84, .iastore, 1), (85, .iload 6, 2), (87, .iload_n 2, 1), (88, .if_icmp .le 14, 3), (91, .bipush 10, 2), (93, .iload 4, 2), (95, .imul, 1), (96, .iload 5, 2), (98, .iadd, 1), (99, .goto 4, 3), (102, .iload_n 3, 1), (103, .istore_n 3, 1), (104, .iload 6, 2), (106, .iload_n 2, 1), (107, .if_icmp .le 8, 3), (110, .iload 6, 2), (112, .goto 4, 3), (115, .iload_n 2, 1), (116, .istore_n 2, 1), (117, .iinc 5 1, 3), (120, .goto (-70), 3), (123, .iinc 4 1, 3), (126, .goto (-91), 3), (129, .iload_n 3, 1), (130, .bipush (-4), 2), (132, .if_icmp .eq 7, 3), (135, .iload_n 1, 1), (136, .ifCond .ne 7, 3), (139, .iload_n 3, 1), (140, .goto 4, 3), (143, .iload_n 2, 1), (144, .ireturn, 1)], [(7, 12, 0, 5137), (13, 12, 1, 5138)], [(88, K_Mo_in, 100, 3, [6040, 6042, 1013, 6041]), (180, K_Mo_doorMany, 12, 0, [6096, 6099, 1013, 6098, 57]), (220, K_Mo_addDoor, 12, 3, [6171, 6174, 1013, 6173, 67]), (255, K_Mo_pairsNow, 12, 0, [6238, 7001, 1013, 7000, 75])], [], 0, fun _ => 0)
theorem ok_Mo_more : zOK M_Mo_more := zOK_of (by decide +kernel) (by decide +kernel)
def M_Mo_worst : zMt := (K_Mo_worst, RX12, [(0, .iload_n 1, 1), (1, .i2l, 1), (2, .lconst 0, 1), (3, .lconst 1, 1), (4, .invokestatic 88, 3), (7, .ifCond .ne 5, 3), (10, .iconst (-1), 1), (11, .ireturn, 1), (12, .bipush (-4), 2), (14, .istore_n 2, 1), (15, .bipush (-4), 2), (17, .istore_n 3, 1), (18, .iconst 0, 1), (19, .istore 4, 2), (21, .iload 4, 2), (23, .aload_n 0, 1), (24, .invokevirtual 180, 3), (27, .if_icmp .ge 85, 3), (30, .aload_n 0, 1), (31, .getfield 7, 3), (34, .iconst 4, 1), (35, .iload 4, 2), (37, .imul, 1), (38, .iconst 3, 1), (39, .iadd, 1), (40, .iaload, 1), (41, .ifCond .ne 65, 3), (44, .aload_n 0, 1), (45, .getfield 7, 3), (48, .iconst 4, 1), (49, .iload 4, 2), (51, .imul, 1), (52, .iconst 3, 1), (53, .iadd, 1), (54, .iconst 1, 1), (55, .iastore, 1), (56, .aload_n 0, 1), (57, .invokevirtual 255, 3), (60, .istore 5, 2), (62, .aload_n 0, 1), (63, .getfield 7, 3), (66, .iconst 4, 1), (67, .iload 4, 2), (69, .imul, 1), (70, .iconst 3, 1), (71, .iadd, 1), (72, .iconst 0, 1), (73, .iastore, 1), (74, .iload_n 3, 1), (75, .bipush (-4), 2), (77, .if_icmp .eq 9, 3), (80, .iload 5, 2), (82, .iload_n 2, 1), (83, .if_icmp .ge 8, 3), (86, .iload 4, 2), (88, .goto 4, 3), (91, .iload_n 3, 1), (92, .istore_n 3, 1), (93, .iload_n 3, 1), (94, .iload 4, 2), (96, .if_icmp .ne 8, 3), (99, .iload 5, 2), (101, .goto 4, 3), (104, .iload_n 2, 1), (105, .istore_n 2, 1), (106, .iinc 4 1, 3), (109, .goto (-88), 3), (112, .iload_n 3, 1), (113, .bipush (-4), 2), (115, .if_icmp .eq 7, 3), (118, .iload_n 1, 1), (119, .ifCond .ne 7, 3), (122, .iload_n 3, 1), (123, .goto 4, 3), (126, .iload_n 2, 1), (127, .ireturn, 1)], [(7, 12, 0, 5137)], [(88, K_Mo_in, 100, 3, [6040, 6042, 1013, 6041]), (180, K_Mo_doorMany, 12, 0, [6096, 6099, 1013, 6098, 57]), (255, K_Mo_pairsNow, 12, 0, [6238, 7001, 1013, 7000, 75])], [], 0, fun _ => 0)
theorem ok_Mo_worst : zOK M_Mo_worst := zOK_of (by decide +kernel) (by decide +kernel)
def M_Mo_mend : zMt := (K_Mo_mend, RX12, [(0, .iload_n 1, 1), (1, .i2l, 1), (2, .lconst 0, 1), (3, .ldc2_w 333, 3), (6, .invokestatic 88, 3), (9, .ifCond .ne 5, 3), (12, .iconst (-1), 1), (13, .ireturn, 1), (14, .aload_n 0, 1), (15, .invokevirtual 335, 3), (18, .istore_n 2, 1), (19, .iload_n 1, 1), (20, .ifCond .ne 7, 3), (23, .iload_n 2, 1), (24, .goto 19, 3), (27, .iload_n 1, 1), (28, .iconst 1, 1), (29, .if_icmp .ne 10, 3), (32, .aload_n 0, 1), (33, .getfield 323, 3), (36, .goto 7, 3), (39, .aload_n 0, 1), (40, .getfield 326, 3), (43, .ireturn, 1)], [(323, 12, 34, 5171), (326, 12, 35, 5172)], [(88, K_Mo_in, 100, 3, [6040, 6042, 1013, 6041]), (335, K_Mo_layMend, 12, 0, [7119, 7122, 1013, 7121, 91])], [(333, 1, 2, 7118)], 0, fun _ => 0)
theorem ok_Mo_mend : zOK M_Mo_mend := zOK_of (by decide +kernel) (by decide +kernel)
def M_Mo_layMend : zMt := (K_Mo_layMend, RX12, [(0, .aload_n 0, 1), (1, .bipush (-4), 2), (3, .putfield 323, 3), (6, .aload_n 0, 1), (7, .bipush (-4), 2), (9, .putfield 326, 3), (12, .aload_n 0, 1), (13, .invokevirtual 265, 3), (16, .ifCond .eq 5, 3), (19, .iconst 0, 1), (20, .ireturn, 1), (21, .aload_n 0, 1), (22, .iconst 0, 1), (23, .invokevirtual 329, 3), (26, .ifCond .eq 5, 3), (29, .iconst 1, 1), (30, .ireturn, 1), (31, .iconst 0, 1), (32, .istore_n 1, 1), (33, .iload_n 1, 1), (34, .bipush 100, 2), (36, .if_icmp .ge 81, 3), (39, .aload_n 0, 1), (40, .invokevirtual 180, 3), (43, .bipush 14, 2), (45, .if_icmp .ge 72, 3), (48, .iload_n 1, 1), (49, .bipush 10, 2), (51, .idiv, 1), (52, .iload_n 1, 1), (53, .bipush 10, 2), (55, .irem, 1), (56, .if_icmp .ge 55, 3), (59, .iload_n 1, 1), (60, .bipush 10, 2), (62, .irem, 1), (63, .aload_n 0, 1), (64, .getfield 13, 3), (67, .if_icmp .ge 44, 3), (70, .aload_n 0, 1), (71, .iload_n 1, 1), (72, .bipush 10, 2), (74, .idiv, 1), (75, .iload_n 1, 1), (76, .bipush 10, 2), (78, .irem, 1), (79, .iconst 0, 1), (80, .invokevirtual 220, 3), (83, .aload_n 0, 1), (84, .iconst 1, 1), (85, .invokevirtual 329, 3), (88, .istore_n 2, 1), (89, .aload_n 0, 1), (90, .getfield 7, 3), (93, .bipush 56, 2), (95, .dup2, 1), (96, .iaload, 1), (97, .iconst 1, 1), (98, .isub, 1), (99, .iastore, 1), (100, .iload_n 2, 1), (101, .ifCond .eq 10, 3), (104, .aload_n 0, 1), (105, .iload_n 1, 1), (106, .putfield 323, 3), (109, .iconst 2, 1), (110, .ireturn, 1), (111, .iinc 1 1, 3), (114, .goto (-81), 3), (117, .bipush (-4), 2), (119, .ireturn, 1)], [(7, 12, 0, 5137), (13, 12, 1, 5138), (323, 12, 34, 5171), (326, 12, 35, 5172)], [(180, K_Mo_doorMany, 12, 0, [6096, 6099, 1013, 6098, 57]), (220, K_Mo_addDoor, 12, 3, [6171, 6174, 1013, 6173, 67]), (265, K_Mo_isSafe, 12, 0, [7029, 7032, 1013, 7031, 78]), (329, K_Mo_mendsOne, 12, 1, [7123, 7126, 1013, 7125, 92])], [], 0, fun _ => 0)
theorem ok_Mo_layMend : zOK M_Mo_layMend := zOK_of (by decide +kernel) (by decide +kernel)
def M_Mo_mendsOne : zMt := (K_Mo_mendsOne, RX12, [(0, .iconst 0, 1), (1, .istore_n 2, 1), (2, .iload_n 2, 1), (3, .bipush 100, 2), (5, .if_icmp .ge 105, 3), (8, .aload_n 0, 1), (9, .invokevirtual 180, 3), (12, .bipush 14, 2), (14, .if_icmp .ge 96, 3), (17, .iload_n 2, 1), (18, .bipush 10, 2), (20, .idiv, 1), (21, .iload_n 2, 1), (22, .bipush 10, 2), (24, .irem, 1), (25, .if_icmp .ge 79, 3), (28, .iload_n 2, 1), (29, .bipush 10, 2), (31, .irem, 1), (32, .aload_n 0, 1), (33, .getfield 13, 3), (36, .if_icmp .ge 68, 3), (39, .aload_n 0, 1), (40, .iload_n 2, 1), (41, .bipush 10, 2), (43, .idiv, 1), (44, .iload_n 2, 1), (45, .bipush 10, 2), (47, .irem, 1), (48, .iconst 0, 1), (49, .invokevirtual 220, 3), (52, .aload_n 0, 1), (53, .invokevirtual 265, 3), (56, .istore_n 3, 1), (57, .aload_n 0, 1), (58, .getfield 7, 3), (61, .bipush 56, 2), (63, .dup2, 1), (64, .iaload, 1), (65, .iconst 1, 1), (66, .isub, 1), (67, .iastore, 1), (68, .iload_n 3, 1), (69, .ifCond .eq 35, 3), (72, .aload_n 0, 1), (73, .iload_n 1, 1), (74, .ifCond .eq 10, 3), (77, .aload_n 0, 1), (78, .getfield 323, 3), (81, .goto 4, 3), (84, .iload_n 2, 1), (85, .putfield 323, 3), (88, .aload_n 0, 1), (89, .iload_n 1, 1), (90, .ifCond .eq 7, 3), (93, .iload_n 2, 1), (94, .goto 5, 3), (97, .bipush (-4), 2), (99, .putfield 326, 3), (102, .iconst 1, 1), (103, .ireturn, 1), (104, .iinc 2 1, 3), (107, .goto (-105), 3), (110, .iconst 0, 1), (111, .ireturn, 1)], [(7, 12, 0, 5137), (13, 12, 1, 5138), (323, 12, 34, 5171), (326, 12, 35, 5172)], [(180, K_Mo_doorMany, 12, 0, [6096, 6099, 1013, 6098, 57]), (220, K_Mo_addDoor, 12, 3, [6171, 6174, 1013, 6173, 67]), (265, K_Mo_isSafe, 12, 0, [7029, 7032, 1013, 7031, 78])], [], 0, fun _ => 0)
theorem ok_Mo_mendsOne : zOK M_Mo_mendsOne := zOK_of (by decide +kernel) (by decide +kernel)
def M_Mo_tell : zMt := (K_Mo_tell, RX12, [(0, .aload_n 0, 1), (1, .iload_n 1, 1), (2, .invokevirtual 186, 3), (5, .ifCond .ne 5, 3), (8, .iconst (-1), 1), (9, .ireturn, 1), (10, .aload_n 0, 1), (11, .getfield 7, 3), (14, .bipush 86, 2), (16, .iaload, 1), (17, .bipush 12, 2), (19, .if_icmp .ne 6, 3), (22, .bipush (-3), 2), (24, .ireturn, 1), (25, .aload_n 0, 1), (26, .getfield 7, 3), (29, .bipush 74, 2), (31, .aload_n 0, 1), (32, .getfield 7, 3), (35, .bipush 86, 2), (37, .iaload, 1), (38, .iadd, 1), (39, .iload_n 1, 1), (40, .iastore, 1), (41, .aload_n 0, 1), (42, .getfield 7, 3), (45, .bipush 86, 2), (47, .dup2, 1), (48, .iaload, 1), (49, .iconst 1, 1), (50, .iadd, 1), (51, .iastore, 1), (52, .aload_n 0, 1), (53, .getfield 7, 3), (56, .bipush 86, 2), (58, .iaload, 1), (59, .ireturn, 1)], [(7, 12, 0, 5137)], [(186, K_Mo_isDoor, 12, 1, [6116, 6119, 1013, 6118, 59])], [], 0, fun _ => 0)
theorem ok_Mo_tell : zOK M_Mo_tell := zOK_of (by decide +kernel) (by decide +kernel)
def M_Mo_forget : zMt := (K_Mo_forget, RX12, [(0, .aload_n 0, 1), (1, .getfield 7, 3), (4, .bipush 86, 2), (6, .iaload, 1), (7, .istore_n 1, 1), (8, .aload_n 0, 1), (9, .getfield 7, 3), (12, .bipush 86, 2), (14, .iconst 0, 1), (15, .iastore, 1), (16, .iload_n 1, 1), (17, .ireturn, 1)], [(7, 12, 0, 5137)], [], [], 0, fun _ => 0)
theorem ok_Mo_forget : zOK M_Mo_forget := zOK_of (by decide +kernel) (by decide +kernel)
def M_Mo_judge : zMt := (K_Mo_judge, RX12, [(0, .aload_n 0, 1), (1, .iload_n 1, 1), (2, .invokevirtual 214, 3), (5, .ifCond .ne 5, 3), (8, .iconst (-1), 1), (9, .ireturn, 1), (10, .iload_n 1, 1), (11, .invokestatic 249, 3), (14, .istore_n 2, 1), (15, .iconst 0, 1), (16, .istore_n 3, 1), (17, .iload_n 3, 1), (18, .aload_n 0, 1), (19, .getfield 7, 3), (22, .bipush 86, 2), (24, .iaload, 1), (25, .if_icmp .ge 53, 3), (28, .aload_n 0, 1), (29, .aload_n 0, 1), (30, .getfield 7, 3), (33, .bipush 74, 2), (35, .iload_n 3, 1), (36, .iadd, 1), (37, .iaload, 1), (38, .invokevirtual 186, 3), (41, .ifCond .eq 20, 3), (44, .aload_n 0, 1), (45, .iload_n 2, 1), (46, .aload_n 0, 1), (47, .getfield 7, 3), (50, .bipush 74, 2), (52, .iload_n 3, 1), (53, .iadd, 1), (54, .iaload, 1), (55, .invokevirtual 202, 3), (58, .goto 5, 3), (61, .bipush (-4), 2), (63, .istore_n 2, 1), (64, .iload_n 2, 1), (65, .bipush (-4), 2), (67, .if_icmp .ne 5, 3), (70, .iload_n 3, 1), (71, .ireturn, 1), (72, .iinc 3 1, 3), (75, .goto (-58), 3), (78, .bipush (-4), 2), (80, .ireturn, 1)], [(7, 12, 0, 5137)], [(186, K_Mo_isDoor, 12, 1, [6116, 6119, 1013, 6118, 59]), (202, K_Mo_stepped, 12, 2, [6140, 6143, 1013, 6142, 63]), (214, K_Mo_isRoom, 12, 1, [6155, 6158, 1013, 6157, 65]), (249, K_Mo_newIn, 100, 1, [6231, 6233, 1013, 6232])], [], 0, fun _ => 0)
theorem ok_Mo_judge : zOK M_Mo_judge := zOK_of (by decide +kernel) (by decide +kernel)
def M_Mo_ajar : zMt := (K_Mo_ajar, RX12, [(0, .aload_n 0, 1), (1, .iload_n 1, 1), (2, .invokevirtual 214, 3), (5, .ifCond .eq 59, 3), (8, .iload_n 2, 1), (9, .i2l, 1), (10, .lconst 0, 1), (11, .ldc2_w 341, 3), (14, .invokestatic 88, 3), (17, .ifCond .eq 47, 3), (20, .iload_n 3, 1), (21, .i2l, 1), (22, .lconst 0, 1), (23, .iconst 1, 1), (24, .aload_n 0, 1), (25, .invokevirtual 180, 3), (28, .ishl, 1), (29, .iconst 1, 1), (30, .isub, 1), (31, .i2l, 1), (32, .invokestatic 88, 3), (35, .ifCond .eq 29, 3), (38, .iload 4, 2), (40, .i2l, 1), (41, .lconst 0, 1), (42, .lconst 1, 1), (43, .invokestatic 88, 3), (46, .ifCond .ne 20, 3), (49, .iload 4, 2), (51, .i2l, 1), (52, .ldc2_w 287, 3), (55, .ldc2_w 343, 3), (58, .invokestatic 88, 3), (61, .ifCond .ne 5, 3), (64, .iconst (-1), 1), (65, .ireturn, 1), (66, .iload_n 1, 1), (67, .invokestatic 249, 3), (70, .istore 5, 2), (72, .aload_n 0, 1), (73, .iload 5, 2), (75, .iload_n 2, 1), (76, .iload_n 3, 1), (77, .iload_n 3, 1), (78, .invokevirtual 345, 3), (81, .lstore 6, 2), (83, .iload 4, 2), (85, .ifCond .ne 7, 3), (88, .lload 6, 2), (90, .l2i, 1), (91, .ireturn, 1), (92, .iload 4, 2), (94, .iconst 1, 1), (95, .if_icmp .ne 52, 3), (98, .iconst 0, 1), (99, .istore 8, 2), (101, .iconst 0, 1), (102, .istore 9, 2), (104, .iload 9, 2), (106, .aload_n 0, 1), (107, .getfield 13, 3), (110, .if_icmp .ge 34, 3), (113, .iload 8, 2), (115, .aload_n 0, 1), (116, .getfield 69, 3), (119, .iload 9, 2), (121, .laload, 1), (122, .lconst 0, 1), (123, .lcmp, 1), (124, .ifCond .le 10, 3), (127, .iconst 1, 1), (128, .iload 9, 2), (130, .ishl, 1), (131, .goto 4, 3), (134, .iconst 0, 1), (135, .ior, 1), (136, .istore 8, 2), (138, .iinc 9 1, 3), (141, .goto (-37), 3), (144, .iload 8, 2), (146, .ireturn, 1), (147, .lload 6, 2), (149, .lconst 0, 1), (150, .lcmp, 1), (151, .ifCond .eq 12, 3), (154, .iload 4, 2), (156, .bipush 10, 2), (158, .isub, 1), (159, .iload_n 2, 1), (160, .if_icmp .lt 6, 3), (163, .bipush (-4), 2), (165, .ireturn, 1), (166, .iload_n 3, 1), (167, .istore 8, 2), (169, .bipush (-4), 2), (171, .istore 9, 2), (173, .iconst 0, 1), (174, .istore 10, 2), (176, .iload 10, 2), (178, .iload 4, 2), (180, .bipush 10, 2), (182, .isub, 1), (183, .if_icmp .gt 94, 3), (186, .iconst 0, 1), (187, .istore 9, 2), (189, .iload_n 3, 1), (190, .iload 9, 2), (192, .ishr, 1), (193, .iconst 1, 1), (194, .iand, 1), (195, .ifCond .eq 49, 3), (198, .aload_n 0, 1), (199, .iload 5, 2), (201, .iload 9, 2), (203, .invokevirtual 202, 3), (206, .bipush (-4), 2), (208, .if_icmp .eq 36, 3), (211, .aload_n 0, 1), (212, .aload_n 0, 1), (213, .iload 5, 2), (215, .iload 9, 2), (217, .invokevirtual 202, 3), (220, .iload_n 2, 1), (221, .iload 10, 2), (223, .isub, 1), (224, .iconst 1, 1), (225, .isub, 1), (226, .iload_n 3, 1), (227, .iload 8, 2), (229, .iconst 1, 1), (230, .iload 9, 2), (232, .ishl, 1), (233, .iconst (-1), 1), (234, .ixor, 1), (235, .iand, 1), (236, .invokevirtual 345, 3), (239, .lconst 0, 1), (240, .lcmp, 1), (241, .ifCond .ne 9, 3), (244, .iinc 9 1, 3), (247, .goto (-58), 3), (250, .aload_n 0, 1), (251, .iload 5, 2), (253, .iload 9, 2), (255, .invokevirtual 202, 3), (258, .istore 5, 2), (260, .iload 8, 2), (262, .iconst 1, 1), (263, .iload 9, 2), (265, .ishl, 1), (266, .iconst (-1), 1), (267, .ixor, 1), (268, .iand, 1), (269, .istore 8, 2), (271, .iinc 10 1, 3), (274, .goto (-98), 3), (277, .iload 9, 2), (279, .ireturn, 1)], [(13, 12, 1, 5138), (69, 12, 38, 5175)], [(88, K_Mo_in, 100, 3, [6040, 6042, 1013, 6041]), (180, K_Mo_doorMany, 12, 0, [6096, 6099, 1013, 6098, 57]), (202, K_Mo_stepped, 12, 2, [6140, 6143, 1013, 6142, 63]), (214, K_Mo_isRoom, 12, 1, [6155, 6158, 1013, 6157, 65]), (249, K_Mo_newIn, 100, 1, [6231, 6233, 1013, 6232]), (345, K_Mo_layWays, 12, 4, [7145, 7148, 1013, 7147, 93])], [(287, 1, 10, 7055), (341, 1, 6, 7143), (343, 1, 15, 7144)], 0, fun _ => 0)
theorem ok_Mo_ajar : zOK M_Mo_ajar := zOK_of (by decide +kernel) (by decide +kernel)
def M_Mo_layWays : zMt := (K_Mo_layWays, RX12, [(0, .iconst 0, 1), (1, .istore 5, 2), (3, .iload 5, 2), (5, .bipush 10, 2), (7, .if_icmp .ge 17, 3), (10, .aload_n 0, 1), (11, .getfield 69, 3), (14, .iload 5, 2), (16, .lconst 0, 1), (17, .lastore, 1), (18, .iinc 5 1, 3), (21, .goto (-18), 3), (24, .iload 4, 2), (26, .invokestatic 252, 3), (29, .iload_n 2, 1), (30, .if_icmp .gt 66, 3), (33, .iload 4, 2), (35, .istore 5, 2), (37, .iconst 1, 1), (38, .istore 6, 2), (40, .iload 6, 2), (42, .ifCond .eq 54, 3), (45, .aload_n 0, 1), (46, .iload_n 1, 1), (47, .iload_n 2, 1), (48, .iload_n 3, 1), (49, .iload 5, 2), (51, .iconst (-1), 1), (52, .ixor, 1), (53, .iand, 1), (54, .iload 5, 2), (56, .invokestatic 252, 3), (59, .iconst 2, 1), (60, .irem, 1), (61, .ifCond .ne 7, 3), (64, .iconst 1, 1), (65, .goto 4, 3), (68, .iconst (-1), 1), (69, .invokevirtual 338, 3), (72, .iload 5, 2), (74, .ifCond .eq 7, 3), (77, .iconst 1, 1), (78, .goto 4, 3), (81, .iconst 0, 1), (82, .istore 6, 2), (84, .iload 5, 2), (86, .iconst 1, 1), (87, .isub, 1), (88, .iload 4, 2), (90, .iand, 1), (91, .istore 5, 2), (93, .goto (-53), 3), (96, .lconst 0, 1), (97, .lstore 5, 2), (99, .iconst 0, 1), (100, .istore 7, 2), (102, .iload 7, 2), (104, .bipush 10, 2), (106, .if_icmp .ge 21, 3), (109, .lload 5, 2), (111, .aload_n 0, 1), (112, .getfield 69, 3), (115, .iload 7, 2), (117, .laload, 1), (118, .ladd, 1), (119, .lstore 5, 2), (121, .iinc 7 1, 3), (124, .goto (-22), 3), (127, .lload 5, 2), (129, .lreturn, 1)], [(69, 12, 38, 5175)], [(252, K_Mo_bitsOf, 100, 1, [7002, 7004, 1013, 7003]), (338, K_Mo_addWays, 12, 4, [7149, 7152, 1013, 7151, 94])], [], 0, fun _ => 0)
theorem ok_Mo_layWays : zOK M_Mo_layWays := zOK_of (by decide +kernel) (by decide +kernel)
def M_Mo_addWays : zMt := (K_Mo_addWays, RX12, [(0, .iconst 0, 1), (1, .istore 5, 2), (3, .iload 5, 2), (5, .sipush 570, 3), (8, .if_icmp .ge 27, 3), (11, .aload_n 0, 1), (12, .getfield 62, 3), (15, .iload 5, 2), (17, .iload 5, 2), (19, .iload_n 1, 1), (20, .if_icmp .ne 7, 3), (23, .lconst 1, 1), (24, .goto 4, 3), (27, .lconst 0, 1), (28, .lastore, 1), (29, .iinc 5 1, 3), (32, .goto (-29), 3), (35, .iconst 0, 1), (36, .istore 5, 2), (38, .iload 5, 2), (40, .iload_n 2, 1), (41, .if_icmp .ge 161, 3), (44, .iconst 0, 1), (45, .istore 6, 2), (47, .iload 6, 2), (49, .sipush 570, 3), (52, .if_icmp .ge 17, 3), (55, .aload_n 0, 1), (56, .getfield 66, 3), (59, .iload 6, 2), (61, .lconst 0, 1), (62, .lastore, 1), (63, .iinc 6 1, 3), (66, .goto (-19), 3), (69, .iconst 0, 1), (70, .istore 6, 2), (72, .iload 6, 2), (74, .sipush 570, 3), (77, .if_icmp .ge 88, 3), (80, .iconst 0, 1), (81, .istore 7, 2), (83, .iload 7, 2), (85, .aload_n 0, 1), (86, .invokevirtual 180, 3), (89, .if_icmp .ge 70, 3), (92, .aload_n 0, 1), (93, .getfield 62, 3), (96, .iload 6, 2), (98, .laload, 1), (99, .lconst 0, 1), (100, .lcmp, 1), (101, .ifCond .le 58, 3), (104, .iload_n 3, 1), (105, .iload 7, 2), (107, .ishr, 1), (108, .iconst 1, 1), (109, .iand, 1), (110, .iconst 1, 1), (111, .if_icmp .ne 14, 3), (114, .aload_n 0, 1), (115, .iload 6, 2), (117, .iload 7, 2), (119, .invokevirtual 202, 3), (122, .goto 5, 3), (125, .bipush (-4), 2), (127, .istore 8, 2), (129, .iload 8, 2), (131, .bipush (-4), 2), (133, .if_icmp .eq 20, 3), (136, .aload_n 0, 1), (137, .getfield 66, 3), (140, .iload 8, 2), (142, .dup2, 1), (143, .laload, 1), (144, .aload_n 0, 1), (145, .getfield 62, 3), (148, .iload 6, 2), (150, .laload, 1), (151, .ladd, 1), (152, .lastore, 1), (153, .iinc 7 1, 3), (156, .goto (-73), 3), (159, .iinc 6 1, 3), (162, .goto (-90), 3), (165, .iconst 0, 1), (166, .istore 6, 2), (168, .iload 6, 2), (170, .sipush 570, 3), (173, .if_icmp .ge 23, 3), (176, .aload_n 0, 1), (177, .getfield 62, 3), (180, .iload 6, 2), (182, .aload_n 0, 1), (183, .getfield 66, 3), (186, .iload 6, 2), (188, .laload, 1), (189, .lastore, 1), (190, .iinc 6 1, 3), (193, .goto (-25), 3), (196, .iinc 5 1, 3), (199, .goto (-161), 3), (202, .iconst 0, 1), (203, .istore 5, 2), (205, .iload 5, 2), (207, .sipush 570, 3), (210, .if_icmp .ge 46, 3), (213, .aload_n 0, 1), (214, .getfield 62, 3), (217, .iload 5, 2), (219, .laload, 1), (220, .lconst 0, 1), (221, .lcmp, 1), (222, .ifCond .le 28, 3), (225, .aload_n 0, 1), (226, .getfield 69, 3), (229, .aload_n 0, 1), (230, .iload 5, 2), (232, .invokevirtual 196, 3), (235, .dup2, 1), (236, .laload, 1), (237, .iload 4, 2), (239, .i2l, 1), (240, .aload_n 0, 1), (241, .getfield 62, 3), (244, .iload 5, 2), (246, .laload, 1), (247, .lmul, 1), (248, .ladd, 1), (249, .lastore, 1), (250, .iinc 5 1, 3), (253, .goto (-48), 3), (256, .return_, 1)], [(62, 12, 36, 5173), (66, 12, 37, 5174), (69, 12, 38, 5175)], [(180, K_Mo_doorMany, 12, 0, [6096, 6099, 1013, 6098, 57]), (196, K_Mo_roomAt, 12, 1, [6144, 6147, 1013, 6146, 64]), (202, K_Mo_stepped, 12, 2, [6140, 6143, 1013, 6142, 63])], [], 0, fun _ => 0)
theorem ok_Mo_addWays : zOK M_Mo_addWays := zOK_of (by decide +kernel) (by decide +kernel)
def M_Mo_keep : zMt := (K_Mo_keep, RX12, [(0, .iload_n 1, 1), (1, .i2l, 1), (2, .lconst 0, 1), (3, .lconst 1, 1), (4, .invokestatic 88, 3), (7, .ifCond .ne 5, 3), (10, .iconst (-1), 1), (11, .ireturn, 1), (12, .aload_n 0, 1), (13, .iconst 0, 1), (14, .bipush 88, 2), (16, .iload_n 1, 1), (17, .iconst 1, 1), (18, .iadd, 1), (19, .imul, 1), (20, .invokevirtual 349, 3), (23, .aload_n 0, 1), (24, .getfield 72, 3), (27, .iload_n 1, 1), (28, .baload, 1), (29, .ifCond .eq 7, 3), (32, .iconst 1, 1), (33, .goto 4, 3), (36, .iconst 0, 1), (37, .istore_n 2, 1), (38, .aload_n 0, 1), (39, .getfield 72, 3), (42, .iload_n 1, 1), (43, .iconst 1, 1), (44, .bastore, 1), (45, .iload_n 2, 1), (46, .ireturn, 1)], [(72, 12, 39, 5176)], [(88, K_Mo_in, 100, 3, [6040, 6042, 1013, 6041]), (349, K_Mo_copies, 12, 2, [7157, 7160, 1013, 7159, 95])], [], 0, fun _ => 0)
theorem ok_Mo_keep : zOK M_Mo_keep := zOK_of (by decide +kernel) (by decide +kernel)
def M_Mo_copies : zMt := (K_Mo_copies, RX12, [(0, .iconst 0, 1), (1, .istore_n 3, 1), (2, .iload_n 3, 1), (3, .bipush 88, 2), (5, .if_icmp .ge 25, 3), (8, .aload_n 0, 1), (9, .getfield 7, 3), (12, .iload_n 2, 1), (13, .iload_n 3, 1), (14, .iadd, 1), (15, .aload_n 0, 1), (16, .getfield 7, 3), (19, .iload_n 1, 1), (20, .iload_n 3, 1), (21, .iadd, 1), (22, .iaload, 1), (23, .iastore, 1), (24, .iinc 3 1, 3), (27, .goto (-25), 3), (30, .return_, 1)], [(7, 12, 0, 5137)], [], [], 0, fun _ => 0)
theorem ok_Mo_copies : zOK M_Mo_copies := zOK_of (by decide +kernel) (by decide +kernel)
def M_Mo_back : zMt := (K_Mo_back, RX12, [(0, .iload_n 1, 1), (1, .i2l, 1), (2, .lconst 0, 1), (3, .lconst 1, 1), (4, .invokestatic 88, 3), (7, .ifCond .ne 5, 3), (10, .iconst (-1), 1), (11, .ireturn, 1), (12, .aload_n 0, 1), (13, .getfield 72, 3), (16, .iload_n 1, 1), (17, .baload, 1), (18, .ifCond .ne 6, 3), (21, .bipush (-2), 2), (23, .ireturn, 1), (24, .aload_n 0, 1), (25, .bipush 88, 2), (27, .iload_n 1, 1), (28, .iconst 1, 1), (29, .iadd, 1), (30, .imul, 1), (31, .iconst 0, 1), (32, .invokevirtual 349, 3), (35, .aload_n 0, 1), (36, .invokevirtual 180, 3), (39, .ireturn, 1)], [(72, 12, 39, 5176)], [(88, K_Mo_in, 100, 3, [6040, 6042, 1013, 6041]), (180, K_Mo_doorMany, 12, 0, [6096, 6099, 1013, 6098, 57]), (349, K_Mo_copies, 12, 2, [7157, 7160, 1013, 7159, 95])], [], 0, fun _ => 0)
theorem ok_Mo_back : zOK M_Mo_back := zOK_of (by decide +kernel) (by decide +kernel)
def M_Mo_sheet : zMt := (K_Mo_sheet, RX12, [(0, .iload_n 1, 1), (1, .i2l, 1), (2, .lconst 0, 1), (3, .ldc2_w 190, 3), (6, .invokestatic 88, 3), (9, .ifCond .eq 21, 3), (12, .iload_n 2, 1), (13, .i2l, 1), (14, .lconst 0, 1), (15, .ldc2_w 333, 3), (18, .invokestatic 88, 3), (21, .ifCond .eq 9, 3), (24, .iload_n 3, 1), (25, .bipush 40, 2), (27, .if_icmp .le 5, 3), (30, .iconst (-1), 1), (31, .ireturn, 1), (32, .iload_n 3, 1), (33, .ifCond .ge 6, 3), (36, .bipush (-14), 2), (38, .ireturn, 1), (39, .aload_n 0, 1), (40, .getfield 76, 3), (43, .iload_n 1, 1), (44, .iload_n 2, 1), (45, .iastore, 1), (46, .aload_n 0, 1), (47, .getfield 79, 3), (50, .iload_n 1, 1), (51, .iload_n 3, 1), (52, .iastore, 1), (53, .iconst 0, 1), (54, .istore 4, 2), (56, .iload 4, 2), (58, .bipush 40, 2), (60, .if_icmp .ge 22, 3), (63, .aload_n 0, 1), (64, .getfield 82, 3), (67, .bipush 40, 2), (69, .iload_n 1, 1), (70, .imul, 1), (71, .iload 4, 2), (73, .iadd, 1), (74, .iconst 0, 1), (75, .iastore, 1), (76, .iinc 4 1, 3), (79, .goto (-23), 3), (82, .iconst 1, 1), (83, .ireturn, 1)], [(76, 12, 40, 5177), (79, 12, 41, 5178), (82, 12, 42, 5179)], [(88, K_Mo_in, 100, 3, [6040, 6042, 1013, 6041])], [(190, 1, 3, 6120), (333, 1, 2, 7118)], 0, fun _ => 0)
theorem ok_Mo_sheet : zOK M_Mo_sheet := zOK_of (by decide +kernel) (by decide +kernel)
def M_Mo_lay : zMt := (K_Mo_lay, RX12, [(0, .iload_n 1, 1), (1, .i2l, 1), (2, .lconst 0, 1), (3, .ldc2_w 190, 3), (6, .invokestatic 88, 3), (9, .ifCond .ne 5, 3), (12, .iconst (-1), 1), (13, .ireturn, 1), (14, .aload_n 0, 1), (15, .getfield 76, 3), (18, .iload_n 1, 1), (19, .iaload, 1), (20, .bipush (-4), 2), (22, .if_icmp .ne 6, 3), (25, .bipush (-11), 2), (27, .ireturn, 1), (28, .iload_n 2, 1), (29, .i2l, 1), (30, .lconst 0, 1), (31, .aload_n 0, 1), (32, .getfield 79, 3), (35, .iload_n 1, 1), (36, .iaload, 1), (37, .iconst 1, 1), (38, .isub, 1), (39, .i2l, 1), (40, .invokestatic 88, 3), (43, .ifCond .ne 6, 3), (46, .bipush (-12), 2), (48, .ireturn, 1), (49, .aload_n 0, 1), (50, .getfield 82, 3), (53, .bipush 40, 2), (55, .iload_n 1, 1), (56, .imul, 1), (57, .iload_n 2, 1), (58, .iadd, 1), (59, .aload_n 0, 1), (60, .getfield 76, 3), (63, .iload_n 1, 1), (64, .iaload, 1), (65, .ifCond .ne 13, 3), (68, .iload_n 3, 1), (69, .bipush 24, 2), (71, .ishl, 1), (72, .bipush 24, 2), (74, .ishr, 1), (75, .goto 24, 3), (78, .aload_n 0, 1), (79, .getfield 76, 3), (82, .iload_n 1, 1), (83, .iaload, 1), (84, .iconst 1, 1), (85, .if_icmp .ne 13, 3), (88, .iload_n 3, 1), (89, .bipush 16, 2), (91, .ishl, 1), (92, .bipush 16, 2), (94, .ishr, 1), (95, .goto 4, 3), (98, .iload_n 3, 1), (99, .iastore, 1), (100, .iconst 1, 1), (101, .ireturn, 1)], [(76, 12, 40, 5177), (79, 12, 41, 5178), (82, 12, 42, 5179)], [(88, K_Mo_in, 100, 3, [6040, 6042, 1013, 6041])], [(190, 1, 3, 6120)], 0, fun _ => 0)
theorem ok_Mo_lay : zOK M_Mo_lay := zOK_of (by decide +kernel) (by decide +kernel)
def M_Mo_read : zMt := (K_Mo_read, RX12, [(0, .iload_n 1, 1), (1, .i2l, 1), (2, .lconst 0, 1), (3, .ldc2_w 190, 3), (6, .invokestatic 88, 3), (9, .ifCond .eq 36, 3), (12, .iload_n 2, 1), (13, .i2l, 1), (14, .lconst 0, 1), (15, .ldc2_w 333, 3), (18, .invokestatic 88, 3), (21, .ifCond .eq 24, 3), (24, .iload 5, 2), (26, .i2l, 1), (27, .lconst 0, 1), (28, .ldc2_w 352, 3), (31, .invokestatic 88, 3), (34, .ifCond .eq 11, 3), (37, .aload_n 0, 1), (38, .iload_n 3, 1), (39, .invokevirtual 208, 3), (42, .ifCond .ne 5, 3), (45, .iconst (-1), 1), (46, .ireturn, 1), (47, .bipush 57, 2), (49, .iconst 3, 1), (50, .iload_n 3, 1), (51, .imul, 1), (52, .iadd, 1), (53, .istore 6, 2), (55, .aload_n 0, 1), (56, .getfield 7, 3), (59, .iload 6, 2), (61, .iaload, 1), (62, .istore 7, 2), (64, .aload_n 0, 1), (65, .getfield 7, 3), (68, .iload 6, 2), (70, .iconst 1, 1), (71, .iadd, 1), (72, .iaload, 1), (73, .istore 8, 2), (75, .aload_n 0, 1), (76, .getfield 7, 3), (79, .iload 6, 2), (81, .iconst 2, 1), (82, .iadd, 1), (83, .iaload, 1), (84, .istore 9, 2), (86, .iconst 0, 1), (87, .istore 10, 2), (89, .iconst 0, 1), (90, .istore 11, 2), (92, .iload 11, 2), (94, .iload 5, 2), (96, .if_icmp .ge 138, 3), (99, .iload 10, 2), (101, .ifCond .ne 133, 3), (104, .aload_n 0, 1), (105, .getfield 76, 3), (108, .iload_n 1, 1), (109, .iaload, 1), (110, .bipush (-4), 2), (112, .if_icmp .ne 7, 3), (115, .iconst 1, 1), (116, .goto 45, 3), (119, .aload_n 0, 1), (120, .getfield 76, 3), (123, .iload_n 1, 1), (124, .iaload, 1), (125, .iload_n 2, 1), (126, .if_icmp .eq 7, 3), (129, .iconst 3, 1), (130, .goto 31, 3), (133, .iload 4, 2), (135, .i2l, 1), (136, .iload 11, 2), (138, .i2l, 1), (139, .ladd, 1), (140, .lconst 0, 1), (141, .aload_n 0, 1), (142, .getfield 79, 3), (145, .iload_n 1, 1), (146, .iaload, 1), (147, .iconst 1, 1), (148, .isub, 1), (149, .i2l, 1), (150, .invokestatic 88, 3), (153, .ifCond .ne 7, 3), (156, .iconst 2, 1), (157, .goto 4, 3), (160, .iconst 0, 1), (161, .istore 10, 2), (163, .iload 10, 2), (165, .ifCond .ne (-73), 3), (168, .aload_n 0, 1), (169, .iload_n 3, 1), (170, .aload_n 0, 1), (171, .getfield 82, 3), (174, .bipush 40, 2), (176, .iload_n 1, 1), (177, .imul, 1), (178, .iload 4, 2), (180, .iadd, 1), (181, .iload 11, 2), (183, .iadd, 1), (184, .iaload, 1), (185, .invokevirtual 224, 3), (188, .ifCond .ge 40, 3), (191, .aload_n 0, 1), (192, .getfield 7, 3), (195, .iload 6, 2), (197, .iload 7, 2), (199, .iastore, 1), (200, .aload_n 0, 1), (201, .getfield 7, 3), (204, .iload 6, 2), (206, .iconst 1, 1), (207, .iadd, 1), (208, .iload 8, 2), (210, .iastore, 1), (211, .aload_n 0, 1), (212, .getfield 7, 3), (215, .iload 6, 2), (217, .iconst 2, 1), (218, .iadd, 1), (219, .iload 9, 2), (221, .iastore, 1), (222, .bipush (-20), 2), (224, .iload 11, 2), (226, .isub, 1), (227, .ireturn, 1), (228, .iinc 11 1, 3), (231, .goto (-139), 3), (234, .aload_n 0, 1), (235, .iload 10, 2), (237, .putfield 354, 3), (240, .iload 11, 2), (242, .ireturn, 1)], [(7, 12, 0, 5137), (76, 12, 40, 5177), (79, 12, 41, 5178), (82, 12, 42, 5179), (354, 12, 43, 5180)], [(88, K_Mo_in, 100, 3, [6040, 6042, 1013, 6041]), (208, K_Mo_isOne, 12, 1, [6125, 6128, 1013, 6127, 60]), (224, K_Mo_goes, 12, 2, [6187, 6190, 1013, 6189, 68])], [(190, 1, 3, 6120), (333, 1, 2, 7118), (352, 1, 12, 7177)], 0, fun _ => 0)
theorem ok_Mo_read : zOK M_Mo_read := zOK_of (by decide +kernel) (by decide +kernel)
def M_Mo_torn : zMt := (K_Mo_torn, RX12, [(0, .aload_n 0, 1), (1, .getfield 354, 3), (4, .ireturn, 1)], [(354, 12, 43, 5180)], [], [], 0, fun _ => 0)
theorem ok_Mo_torn : zOK M_Mo_torn := zOK_of (by decide +kernel) (by decide +kernel)
def M_Mo_count : zMt := (K_Mo_count, RX12, [(0, .aload_n 0, 1), (1, .invokevirtual 291, 3), (4, .iconst 0, 1), (5, .istore_n 2, 1), (6, .iconst 0, 1), (7, .istore_n 3, 1), (8, .iload_n 3, 1), (9, .aload_n 0, 1), (10, .invokevirtual 183, 3), (13, .if_icmp .ge 29, 3), (16, .iload_n 2, 1), (17, .aload_n 0, 1), (18, .aload_n 0, 1), (19, .iload_n 3, 1), (20, .invokevirtual 211, 3), (23, .invokevirtual 258, 3), (26, .ifCond .eq 7, 3), (29, .iconst 1, 1), (30, .goto 4, 3), (33, .iconst 0, 1), (34, .iadd, 1), (35, .istore_n 2, 1), (36, .iinc 3 1, 3), (39, .goto (-31), 3), (42, .iload_n 1, 1), (43, .tableswitch 110 0 5 #[37, 42, 44, 52, 82, 87], 37), (80, .aload_n 0, 1), (81, .getfield 281, 3), (84, .ireturn, 1), (85, .iload_n 2, 1), (86, .ireturn, 1), (87, .aload_n 0, 1), (88, .getfield 7, 3), (91, .bipush 86, 2), (93, .iaload, 1), (94, .ireturn, 1), (95, .aload_n 0, 1), (96, .getfield 72, 3), (99, .iconst 0, 1), (100, .baload, 1), (101, .ifCond .eq 7, 3), (104, .iconst 1, 1), (105, .goto 4, 3), (108, .iconst 0, 1), (109, .aload_n 0, 1), (110, .getfield 72, 3), (113, .iconst 1, 1), (114, .baload, 1), (115, .ifCond .eq 7, 3), (118, .iconst 1, 1), (119, .goto 4, 3), (122, .iconst 0, 1), (123, .iadd, 1), (124, .ireturn, 1), (125, .aload_n 0, 1), (126, .getfield 85, 3), (129, .ireturn, 1), (130, .aload_n 0, 1), (131, .getfield 76, 3), (134, .iconst 0, 1), (135, .iaload, 1), (136, .bipush (-4), 2), (138, .if_icmp .ne 8, 3), (141, .bipush (-4), 2), (143, .goto 9, 3), (146, .aload_n 0, 1), (147, .getfield 79, 3), (150, .iconst 0, 1), (151, .iaload, 1), (152, .ireturn, 1), (153, .iconst (-1), 1), (154, .ireturn, 1)], [(7, 12, 0, 5137), (72, 12, 39, 5176), (76, 12, 40, 5177), (79, 12, 41, 5178), (85, 12, 10, 5147), (281, 12, 29, 5166)], [(183, K_Mo_ones, 12, 0, [6108, 6111, 1013, 6110, 58]), (211, K_Mo_placeOfOne, 12, 1, [6129, 6132, 1013, 6131, 61]), (258, K_Mo_isLost, 12, 1, [7013, 7016, 1013, 7015, 77]), (291, K_Mo_layOpens, 12, 0, [7057, 7060, 1013, 7059, 81])], [], 0, fun _ => 0)
theorem ok_Mo_count : zOK M_Mo_count := zOK_of (by decide +kernel) (by decide +kernel)
end
end
section
section
def zHo (h : Nat) : Prop := h = 2 ∨ h = 17 ∨ h = 31 ∨ h = 56
def zPa (p : Nat) : Prop := p = 1 ∨ p = 16 ∨ p = 30 ∨ p = 55
def zSe (t : Nat) : Prop := t = 45 ∨ t = 47 ∨ t = 49 ∨ t = 51
def zHH (h g : Nat) : Prop := (h = 2 ∧ g = 56) ∨ (h = 17 ∧ g = 2) ∨ (h = 31 ∧ g = 2) ∨ (h = 2 ∧ g = 17) ∨ (h = 2 ∧ g = 31)
def zPP (p q : Nat) : Prop := (p = 1 ∧ q = 55) ∨ (p = 16 ∧ q = 1) ∨ (p = 30 ∧ q = 1) ∨ (p = 1 ∧ q = 16) ∨ (p = 1 ∧ q = 30)
def zjk : List Bool → List zV → List zV
  | true :: b, v :: l => v :: zjk b l
  | false :: b, _ :: l => (9, 0) :: zjk b l
  | _, l => l
theorem zjk_at : ∀ (b : List Bool) (l : List zV) (i : Nat) (v : zV), (zjk b l)[i]? = some v → v.1 < 9 → l[i]? = some v
  | [], l, i, v, h, _ => by simpa [zjk] using h
  | true :: b, [], i, v, h, _ => by simp [zjk] at h
  | false :: b, [], i, v, h, _ => by simp [zjk] at h
  | true :: b, u :: l, 0, v, h, _ => by simpa [zjk] using h
  | true :: b, u :: l, i + 1, v, h, hv => by
    rw [zjk, List.getElem?_cons_succ] at h
    rw [List.getElem?_cons_succ]
    exact zjk_at b l i v h hv
  | false :: b, u :: l, 0, v, h, hv => by
    rw [zjk] at h
    cases (show ((9 : Nat), (0 : Int)) = v by simpa using h)
    exact absurd hv (by decide)
  | false :: b, u :: l, i + 1, v, h, hv => by
    rw [zjk, List.getElem?_cons_succ] at h
    rw [List.getElem?_cons_succ]
    exact zjk_at b l i v h hv
theorem zjk_len : ∀ (b : List Bool) (l : List zV), (zjk b l).length = l.length
  | [], l => by simp [zjk]
  | true :: b, [] => by simp [zjk]
  | false :: b, [] => by simp [zjk]
  | true :: b, u :: l => by simp [zjk, zjk_len b l]
  | false :: b, u :: l => by simp [zjk, zjk_len b l]
theorem zjk_ok {b : List Bool} {l : List zV} (h : ∀ v ∈ l, zok v) : ∀ v ∈ zjk b l, zok v := by
  intro v hv
  obtain ⟨i, hi⟩ := List.getElem?_of_mem hv
  by_cases hv9 : v.1 < 9
  · exact h v (List.mem_of_getElem? (zjk_at b l i v hi hv9))
  · obtain ⟨t, x⟩ := v
    match t, hv9 with
    | 0, q => exact absurd (show 0 < 9 by decide) q
    | 1, q => exact absurd (show 1 < 9 by decide) q
    | t + 2, _ => trivial
/-- what isn't known any more -/
theorem zG.mask {d : Nat} {M : zMt} {pc : Nat} {ls st : List zV} {mem : zMem} {Q : Int → zMem → Prop} (b : List Bool) (h : zG d M pc (zjk b ls) st mem Q) : zG d M pc ls st mem Q :=
  fun p l e R s m args below meth c H locs cells slots Qf E lj C hc hs hH hS hL hl hst hR => h p l e R s m args below meth c H locs cells slots Qf E lj C hc hs hH hS ⟨hL.1, by rw [zjk_len]; exact hL.2.1, hL.2.2.1, fun i v hi hv => hL.2.2.2 i v (zjk_at b ls i v hi hv) hv⟩ (zjk_ok hl) hst hR
theorem zbd {A : Prop} {a : Nat} {i n : Int} (hk : A) (hn : (zln a : Int) = n) (h : 0 ≤ i ∧ i < n) : A ∧ 0 ≤ i ∧ i < zln a := ⟨hk, h.1, by rw [hn]; exact h.2⟩
theorem zba {a : Nat} {i n : Int} (h1 : 110 ≤ zkd a) (h2 : zkd a ≤ 113) (hn : (zln a : Int) = n) (h : 0 ≤ i ∧ i < n) : 110 ≤ zkd a ∧ zkd a ≤ 113 ∧ 0 ≤ i ∧ i < zln a := ⟨h1, h2, h.1, by rw [hn]; exact h.2⟩
theorem zal {a : Nat} (h : zkd a = 100) : 100 ≤ zkd a ∧ zkd a ≤ 103 := by omega
theorem zrb {a : Nat} {i n : Int} (hn : (zln a : Int) = n) (h : i ≤ n) : i ≤ zln a := by rw [hn]; exact h
theorem zsb {L : Nat} {i : Int} (h : 0 ≤ i ∧ i < L) : 0 ≤ i ∧ i + 1 < ((L + 1 : Nat) : Int) := by omega
theorem zi5 {P : Int → Prop} {n : Nat} (hp : ∀ k : Nat, k < n → P k) {i : Int} (h : 0 ≤ i ∧ i < n) : P i := by
  have := hp i.toNat (by omega)
  rw [Int.toNat_of_nonneg h.1] at this
  exact this
theorem zkw {a : Nat} (ha : a = 8 ∨ a = 23 ∨ a = 37 ∨ a = 62) {i : Int} (h : 0 ≤ i ∧ i < 5) : zkd (zrt a i.toNat) = 9 := by
  have key : ∀ k : Nat, k < 5 → zkd (zrt a k) = 9 := by rcases ha with rfl | rfl | rfl | rfl <;> decide +kernel
  exact key i.toNat (by omega)
theorem zkpa {i : Int} (h : 0 ≤ i ∧ i < 2) : zkd (zrt 15 i.toNat) = 2 := (show ∀ k : Nat, k < 2 → zkd (zrt 15 k) = 2 by decide +kernel) _ (by omega)
theorem zks {i : Int} (h : 0 ≤ i ∧ i < 4) : zkd (zrt 44 i.toNat) = 4 := (show ∀ k : Nat, k < 4 → zkd (zrt 44 k) = 4 by decide +kernel) _ (by omega)
theorem zksc {s : Nat} (h : zkd s = 4) : zkd (zrt s 0) = 100 := (show ∀ k : Nat, k < zNC → zkd k = 4 → zkd (zrt k 0) = 100 by decide +kernel) s (zkd_lt (by omega)) h
theorem zlsc {s : Nat} (h : zkd s = 4) : (zln (zrt s 0) : Int) = 40 := by have := (show ∀ k : Nat, k < zNC → zkd k = 4 → zln (zrt k 0) = 40 by decide +kernel) s (zkd_lt (by omega)) h; omega
theorem zkr_80 {i : Int} (h : 0 ≤ i ∧ i < 2) : zkd (zrt 80 i.toNat) = 100 := (show ∀ k : Nat, k < 2 → zkd (zrt 80 k) = 100 by decide +kernel) _ (by omega)
theorem zlr_80 {i : Int} (h : 0 ≤ i ∧ i < 2) : (zln (zrt 80 i.toNat) : Int) = 421 := by have := (show ∀ k : Nat, k < 2 → zln (zrt 80 k) = 421 by decide +kernel) i.toNat (by omega); omega
theorem zkr_83 {i : Int} (h : 0 ≤ i ∧ i < 2) : zkd (zrt 83 i.toNat) = 100 := (show ∀ k : Nat, k < 2 → zkd (zrt 83 k) = 100 by decide +kernel) _ (by omega)
theorem zlr_83 {i : Int} (h : 0 ≤ i ∧ i < 2) : (zln (zrt 83 i.toNat) : Int) = 421 := by have := (show ∀ k : Nat, k < 2 → zln (zrt 83 k) = 421 by decide +kernel) i.toNat (by omega); omega
theorem zkr_94 {i : Int} (h : 0 ≤ i ∧ i < 5) : zkd (zrt 94 i.toNat) = 100 := (show ∀ k : Nat, k < 5 → zkd (zrt 94 k) = 100 by decide +kernel) _ (by omega)
theorem zlr_94 {i : Int} (h : 0 ≤ i ∧ i < 5) : (zln (zrt 94 i.toNat) : Int) = 30 := by have := (show ∀ k : Nat, k < 5 → zln (zrt 94 k) = 30 by decide +kernel) i.toNat (by omega); omega
theorem zkr_100 {i : Int} (h : 0 ≤ i ∧ i < 5) : zkd (zrt 100 i.toNat) = 100 := (show ∀ k : Nat, k < 5 → zkd (zrt 100 k) = 100 by decide +kernel) _ (by omega)
theorem zlr_100 {i : Int} (h : 0 ≤ i ∧ i < 5) : (zln (zrt 100 i.toNat) : Int) = 30 := by have := (show ∀ k : Nat, k < 5 → zln (zrt 100 k) = 30 by decide +kernel) i.toNat (by omega); omega
theorem zkr_106 {i : Int} (h : 0 ≤ i ∧ i < 5) : zkd (zrt 106 i.toNat) = 100 := (show ∀ k : Nat, k < 5 → zkd (zrt 106 k) = 100 by decide +kernel) _ (by omega)
theorem zlr_106 {i : Int} (h : 0 ≤ i ∧ i < 5) : (zln (zrt 106 i.toNat) : Int) = 30 := by have := (show ∀ k : Nat, k < 5 → zln (zrt 106 k) = 30 by decide +kernel) i.toNat (by omega); omega
theorem zkr_113 {i : Int} (h : 0 ≤ i ∧ i < 4) : zkd (zrt 113 i.toNat) = 100 := (show ∀ k : Nat, k < 4 → zkd (zrt 113 k) = 100 by decide +kernel) _ (by omega)
theorem zlr_113 {i : Int} (h : 0 ≤ i ∧ i < 4) : (zln (zrt 113 i.toNat) : Int) = 10 := by have := (show ∀ k : Nat, k < 4 → zln (zrt 113 k) = 10 by decide +kernel) i.toNat (by omega); omega
end
end
section
section
theorem v_Ta_append {d : Nat} {a1 : Int} {mem : zMem} {Q : Int → zMem → Prop}  (hS : ((zadd (mem 53 2) 8 ≤ 320 → zG (d + 1) M_Ta_append 18 [(2, Int.ofNat 53), (1, a1), (9, 0), (0, 56)] [] mem Q) ∧ (320 < zadd (mem 53 2) 8 → Q 0 mem))) : zC (d + 1) K_Ta_append [(2, Int.ofNat 53), (1, a1)] mem Q := by
  exact zC_of ok_Ta_append (by decide +kernel) (Nat.le_of_ble_eq_true rfl) rfl (Or.inr (Or.inr (Or.inl rfl))) (zent_ok ok_Ta_append (cuts := [18]) (f := 37) (And.intro rfl (zle (fun c1 => (zall (hS.1 c1))) (fun c1 => (And.intro (Or.inl rfl) (hS.2 c1))))))
theorem v_Ta_append_18 {d : Nat} {l1 l3 : Int} {mem : zMem} {Q : Int → zMem → Prop}  (hS : ((l3 < 0 → Q 1 mem) ∧ (0 ≤ l3 → ((-128 ≤ zi2b (zl2i (zlushr l1 l3)) ∧ zi2b (zl2i (zlushr l1 l3)) < 128) ∧ (0 ≤ mem 53 2 ∧ mem 53 2 < 320) ∧ ∀ m1 : zMem, m1 = zup mem 54 (mem 53 2).toNat (zi2b (zl2i (zlushr l1 l3))) → ∀ m2 : zMem, m2 = zup m1 53 2 (zadd (m1 53 2) 1) → ∀ x1 : Int, x1 = zadd l3 (-8) → zG (d + 1) M_Ta_append 18 [(2, Int.ofNat 53), (1, l1), (9, 0), (0, x1)] [] m2 Q)))) : zG (d + 1) M_Ta_append 18 [(2, Int.ofNat 53), (1, l1), (9, 0), (0, l3)] [] mem Q := by
  exact zent_ok ok_Ta_append (cuts := [18]) (f := 37) (zlt (fun c2 => (And.intro (Or.inr rfl) (hS.1 c2))) (fun c2 => (And.intro rfl (And.intro rfl (And.intro (zbd (Or.inl ⟨rfl, (hS.2 c2).1⟩) rfl (hS.2 c2).2.1) (fun m1 em1 => (And.intro rfl (And.intro rfl (fun m2 em2 => (fun x1 ex1 => ((((hS.2 c2).2.2 m1 em1) m2 em2) x1 ex1)))))))))))
theorem v_Ta_understand {d : Nat}  {mem : zMem} {Q : Int → zMem → Prop}  (hS : zC d K_Pa_clear [(2, Int.ofNat 55)] mem (fun r1 m1 => ∀ m2 : zMem, m2 = zup m1 53 3 0 → ∀ m3 : zMem, m3 = zup m2 53 4 0 → ∀ m4 : zMem, m4 = zup m3 53 5 0 → ∀ m5 : zMem, m5 = zup m4 53 6 0 → ∀ m6 : zMem, m6 = zup m5 53 10 0 → ∀ m7 : zMem, m7 = zup m6 53 11 0 → ∀ m8 : zMem, m8 = zup m7 53 12 0 → zC d K_Ta_nextToken [(2, Int.ofNat 53)] m8 (fun r2 m9 => zG (d + 1) M_Ta_understand 48 [(2, Int.ofNat 53), (0, 0)] [] m9 Q))) : zC (d + 1) K_Ta_understand [(2, Int.ofNat 53)] mem Q := by
  exact zC_of ok_Ta_understand (by decide +kernel) (Nat.le_of_ble_eq_true rfl) rfl (Or.inr (Or.inr (Or.inl rfl))) (zent_ok ok_Ta_understand (cuts := [48]) (f := 59) (And.intro rfl (And.intro rfl (zC.post hS (fun r1 m1 hr1 => (And.intro rfl (fun m2 em2 => (And.intro rfl (fun m3 em3 => (And.intro rfl (fun m4 em4 => (And.intro rfl (fun m5 em5 => (And.intro rfl (And.intro (Or.inl rfl) (fun m6 em6 => (And.intro rfl (And.intro (Or.inl rfl) (fun m7 em7 => (And.intro rfl (fun m8 em8 => (And.intro rfl (zC.post (((((((hr1 m2 em2) m3 em3) m4 em4) m5 em5) m6 em6) m7 em7) m8 em8) (fun r2 m9 hr2 => (zall hr2)))))))))))))))))))))))))
theorem v_Ta_understand_48 {d : Nat} {l1 : Int} {mem : zMem} {Q : Int → zMem → Prop}  (hS : ((mem 53 2 ≤ l1 → zC d K_Ta_closeText [(2, Int.ofNat 53)] mem (fun r1 m1 => ((r1 = 0 ∨ r1 = 1) ∧ Q r1 m1))) ∧ (l1 < mem 53 2 → ((mem 53 8 = 1 → zC d K_Ta_closeText [(2, Int.ofNat 53)] mem (fun r2 m2 => ((r2 = 0 ∨ r2 = 1) ∧ Q r2 m2))) ∧ (mem 53 8 ≠ 1 → zC d K_Ta_takeLine [(2, Int.ofNat 53)] mem (fun r3 m3 => ((r3 ≠ 0 → ∀ m4 : zMem, m4 = zup m3 53 3 (zadd (m3 53 3) 1) → zC d K_Ta_nextToken [(2, Int.ofNat 53)] m4 (fun r4 m5 => ∀ x5 : Int, x5 = zadd l1 1 → zG (d + 1) M_Ta_understand 48 [(2, Int.ofNat 53), (0, x5)] [] m5 Q)) ∧ (r3 = 0 → Q 0 m3)))))))) : zG (d + 1) M_Ta_understand 48 [(2, Int.ofNat 53), (0, l1)] [] mem Q := by
  exact zent_ok ok_Ta_understand (cuts := [48]) (f := 59) (And.intro rfl (zge (fun c8 => (And.intro rfl (zC.post (hS.1 c8) (fun r1 m1 hr1 => hr1)))) (fun c8 => (And.intro rfl (zeq (fun c7 => (And.intro rfl (zC.post ((hS.2 c8).1 c7) (fun r2 m2 hr2 => hr2)))) (fun c7 => (And.intro rfl (zC.post ((hS.2 c8).2 c7) (fun r3 m3 hr3 => (zne (fun c6 => (And.intro rfl (And.intro rfl (fun m4 em4 => (And.intro rfl (zC.post ((hr3.1 c6) m4 em4) (fun r4 m5 hr4 => (fun x5 ex5 => (hr4 x5 ex5))))))))) (fun c6 => (And.intro (Or.inl rfl) (hr3.2 c6)))))))))))))
theorem v_Pa_clear {d : Nat} {p : Nat} {mem : zMem} {Q : Int → zMem → Prop} (hp : zPa p) (hS : zC d K_Ho_clear [(2, Int.ofNat (p + 1))] mem (fun r1 m1 => ∀ m2 : zMem, m2 = zup m1 p 2 0 → ∀ m3 : zMem, m3 = zup m2 p 4 0 → Q 0 m3)) : zC (d + 1) K_Pa_clear [(2, Int.ofNat p)] mem Q := by
  rcases hp with rfl | rfl | rfl | rfl <;> exact zC_of ok_Pa_clear (by decide +kernel) (Nat.le_of_ble_eq_true rfl) rfl (Or.inl rfl) (zent_ok ok_Pa_clear (cuts := []) (f := 15) (And.intro rfl (And.intro rfl (zC.post hS (fun r1 m1 hr1 => (And.intro rfl (fun m2 em2 => (And.intro rfl (fun m3 em3 => ((hr1 m2 em2) m3 em3))))))))))
theorem v_Ho_clear {d : Nat} {h : Nat} {mem : zMem} {Q : Int → zMem → Prop} (hh : zHo h) (hS : ∀ m1 : zMem, m1 = zup mem h 0 4 → ∀ m2 : zMem, m2 = zup m1 h 1 0 → ∀ m3 : zMem, m3 = zup m2 h 2 0 → ∀ m4 : zMem, m4 = zup m3 h 3 0 → zC d K_Jd_fill [(2, Int.ofNat (h + 4)), (0, 0)] m4 (fun r1 m5 => zC d K_Jd_fill [(2, Int.ofNat (h + 5)), (0, 0)] m5 (fun r2 m6 => Q 0 m6))) : zC (d + 1) K_Ho_clear [(2, Int.ofNat h)] mem Q := by
  rcases hh with rfl | rfl | rfl | rfl <;> exact zC_of ok_Ho_clear (by decide +kernel) (Nat.le_of_ble_eq_true rfl) rfl (Or.inl rfl) (zent_ok ok_Ho_clear (cuts := []) (f := 26) (And.intro rfl (fun m1 em1 => (And.intro rfl (fun m2 em2 => (And.intro rfl (fun m3 em3 => (And.intro rfl (fun m4 em4 => (And.intro rfl (zC.post ((((hS m1 em1) m2 em2) m3 em3) m4 em4) (fun r1 m5 hr1 => (And.intro rfl (zC.post hr1 (fun r2 m6 hr2 => hr2)))))))))))))))
theorem v_Jd_fill {d : Nat} {b : Nat} {a1 : Int} {mem : zMem} {Q : Int → zMem → Prop} (ha : zkd b = 100) (hS : ∀ x1 : Int, x1 = ((zln b : Int) : Int) → zG (d + 1) M_Jd_fill 5 [(2, Int.ofNat b), (0, a1), (0, 0), (0, x1)] [] mem Q) : zC (d + 1) K_Jd_fill [(2, Int.ofNat b), (0, a1)] mem Q := by
  exact zC_of ok_Jd_fill (by decide +kernel) (Nat.le_of_ble_eq_true rfl) rfl (Or.inl rfl) (zent_ok ok_Jd_fill (cuts := [5]) (f := 20) (zall (And.intro (zal ha) (fun x1 ex1 => (hS x1 ex1)))))
theorem v_Jd_fill_5 {d : Nat} {b : Nat} {l1 l2 l3 : Int} {mem : zMem} {Q : Int → zMem → Prop} (ha : zkd b = 100) (hS : ((l3 ≤ l2 → Q 0 mem) ∧ (l2 < l3 → ((0 ≤ l2 ∧ l2 < (zln b : Int)) ∧ ∀ m1 : zMem, m1 = zup mem b l2.toNat l1 → ∀ x1 : Int, x1 = zadd l2 1 → zG (d + 1) M_Jd_fill 5 [(2, Int.ofNat b), (0, l1), (0, x1), (0, l3)] [] m1 Q)))) : zG (d + 1) M_Jd_fill 5 [(2, Int.ofNat b), (0, l1), (0, l2), (0, l3)] [] mem Q := by
  exact zent_ok ok_Jd_fill (cuts := [5]) (f := 20) (zge (fun c2 => (hS.1 c2)) (fun c2 => (And.intro (zbd ha rfl (hS.2 c2).1) (fun m1 em1 => (fun x1 ex1 => (((hS.2 c2).2 m1 em1) x1 ex1))))))
theorem v_Ta_nextToken {d : Nat}  {mem : zMem} {Q : Int → zMem → Prop}  (hS : zC d K_Ta_behind [(2, Int.ofNat 53), (0, 32), (0, 32)] mem (fun r1 m1 => ∀ m2 : zMem, m2 = zup m1 53 6 r1 → ∀ m3 : zMem, m3 = zup m2 53 7 (m2 53 6) → ((m3 53 6 < m3 53 2 → ((0 ≤ m3 53 6 ∧ m3 53 6 < 320) ∧ ∀ x2 : Int, x2 = m3 54 (m3 53 6).toNat → ((x2 < 97 → ((x2 < 48 → ((x2 ≠ 59 → ∀ m4 : zMem, m4 = zup m3 53 8 0 → zC d K_Ta_refuse [(2, Int.ofNat 53), (0, 1), (0, m4 53 7)] m4 (fun r3 m5 => zG (d + 1) M_Ta_nextToken 149 [(9, 0), (9, 0)] [] m5 Q)) ∧ (x2 = 59 → ∀ m6 : zMem, m6 = zup m3 53 8 4 → ∀ m7 : zMem, m7 = zup m6 53 6 (zadd (m6 53 6) 1) → zG (d + 1) M_Ta_nextToken 149 [(9, 0), (9, 0)] [] m7 Q))) ∧ (48 ≤ x2 → ((57 < x2 → ((x2 ≠ 59 → ∀ m8 : zMem, m8 = zup m3 53 8 0 → zC d K_Ta_refuse [(2, Int.ofNat 53), (0, 1), (0, m8 53 7)] m8 (fun r5 m9 => zG (d + 1) M_Ta_nextToken 149 [(9, 0), (9, 0)] [] m9 Q)) ∧ (x2 = 59 → ∀ m10 : zMem, m10 = zup m3 53 8 4 → ∀ m11 : zMem, m11 = zup m10 53 6 (zadd (m10 53 6) 1) → zG (d + 1) M_Ta_nextToken 149 [(9, 0), (9, 0)] [] m11 Q))) ∧ (x2 ≤ 57 → zC d K_Ta_behind [(2, Int.ofNat 53), (0, 48), (0, 57)] m3 (fun r7 m12 => ∀ m13 : zMem, m13 = zup m12 53 6 r7 → zC d K_Ta_takeFigures [(2, Int.ofNat 53)] m13 (fun r8 m14 => zG (d + 1) M_Ta_nextToken 149 [(9, 0), (9, 0)] [] m14 Q))))))) ∧ (97 ≤ x2 → ((122 < x2 → ((x2 < 48 → ((x2 ≠ 59 → ∀ m15 : zMem, m15 = zup m3 53 8 0 → zC d K_Ta_refuse [(2, Int.ofNat 53), (0, 1), (0, m15 53 7)] m15 (fun r11 m16 => zG (d + 1) M_Ta_nextToken 149 [(9, 0), (9, 0)] [] m16 Q)) ∧ (x2 = 59 → ∀ m17 : zMem, m17 = zup m3 53 8 4 → ∀ m18 : zMem, m18 = zup m17 53 6 (zadd (m17 53 6) 1) → zG (d + 1) M_Ta_nextToken 149 [(9, 0), (9, 0)] [] m18 Q))) ∧ (48 ≤ x2 → ((57 < x2 → ((x2 ≠ 59 → ∀ m19 : zMem, m19 = zup m3 53 8 0 → zC d K_Ta_refuse [(2, Int.ofNat 53), (0, 1), (0, m19 53 7)] m19 (fun r13 m20 => zG (d + 1) M_Ta_nextToken 149 [(9, 0), (9, 0)] [] m20 Q)) ∧ (x2 = 59 → ∀ m21 : zMem, m21 = zup m3 53 8 4 → ∀ m22 : zMem, m22 = zup m21 53 6 (zadd (m21 53 6) 1) → zG (d + 1) M_Ta_nextToken 149 [(9, 0), (9, 0)] [] m22 Q))) ∧ (x2 ≤ 57 → zC d K_Ta_behind [(2, Int.ofNat 53), (0, 48), (0, 57)] m3 (fun r15 m23 => ∀ m24 : zMem, m24 = zup m23 53 6 r15 → zC d K_Ta_takeFigures [(2, Int.ofNat 53)] m24 (fun r16 m25 => zG (d + 1) M_Ta_nextToken 149 [(9, 0), (9, 0)] [] m25 Q))))))) ∧ (x2 ≤ 122 → ∀ m26 : zMem, m26 = zup m3 53 8 2 → zC d K_Ta_behind [(2, Int.ofNat 53), (0, 97), (0, 122)] m26 (fun r19 m27 => ∀ m28 : zMem, m28 = zup m27 53 6 r19 → zG (d + 1) M_Ta_nextToken 149 [(9, 0), (9, 0)] [] m28 Q))))))) ∧ (m3 53 2 ≤ m3 53 6 → ∀ m29 : zMem, m29 = zup m3 53 8 1 → Q 0 m29)))) : zC (d + 1) K_Ta_nextToken [(2, Int.ofNat 53)] mem Q := by
  exact zC_of ok_Ta_nextToken (by decide +kernel) (Nat.le_of_ble_eq_true rfl) rfl (Or.inl rfl) (zent_ok ok_Ta_nextToken (cuts := [149]) (f := 84) (And.intro rfl (zC.post hS (fun r1 m1 hr1 => (And.intro rfl (fun m2 em2 => (And.intro rfl (And.intro rfl (fun m3 em3 => (And.intro rfl (And.intro rfl (zlt (fun c22 => (And.intro rfl (And.intro rfl (And.intro (zbd (Or.inl rfl) rfl (((hr1 m2 em2) m3 em3).1 c22).1) (fun x2 ex2 => (zlt (fun c21 => (zlt (fun c10 => (zne (fun c4 => (And.intro rfl (fun m4 em4 => (And.intro rfl (And.intro rfl (zC.post ((((((((hr1 m2 em2) m3 em3).1 c22).2 x2 ex2).1 c21).1 c10).1 c4) m4 em4) (fun r3 m5 hr3 => (zG.mask [false, false] hr3)))))))) (fun c4 => (And.intro rfl (fun m6 em6 => (And.intro rfl (And.intro rfl (fun m7 em7 => (zG.mask [false, false] (((((((((hr1 m2 em2) m3 em3).1 c22).2 x2 ex2).1 c21).1 c10).2 c4) m6 em6) m7 em7)))))))))) (fun c10 => (zgt (fun c9 => (zne (fun c6 => (And.intro rfl (fun m8 em8 => (And.intro rfl (And.intro rfl (zC.post (((((((((hr1 m2 em2) m3 em3).1 c22).2 x2 ex2).1 c21).2 c10).1 c9).1 c6) m8 em8) (fun r5 m9 hr5 => (zG.mask [false, false] hr5)))))))) (fun c6 => (And.intro rfl (fun m10 em10 => (And.intro rfl (And.intro rfl (fun m11 em11 => (zG.mask [false, false] ((((((((((hr1 m2 em2) m3 em3).1 c22).2 x2 ex2).1 c21).2 c10).1 c9).2 c6) m10 em10) m11 em11)))))))))) (fun c9 => (And.intro rfl (zC.post (((((((hr1 m2 em2) m3 em3).1 c22).2 x2 ex2).1 c21).2 c10).2 c9) (fun r7 m12 hr7 => (And.intro rfl (fun m13 em13 => (And.intro rfl (zC.post (hr7 m13 em13) (fun r8 m14 hr8 => (zG.mask [false, false] hr8)))))))))))))) (fun c21 => (zgt (fun c20 => (zlt (fun c18 => (zne (fun c12 => (And.intro rfl (fun m15 em15 => (And.intro rfl (And.intro rfl (zC.post (((((((((hr1 m2 em2) m3 em3).1 c22).2 x2 ex2).2 c21).1 c20).1 c18).1 c12) m15 em15) (fun r11 m16 hr11 => (zG.mask [false, false] hr11)))))))) (fun c12 => (And.intro rfl (fun m17 em17 => (And.intro rfl (And.intro rfl (fun m18 em18 => (zG.mask [false, false] ((((((((((hr1 m2 em2) m3 em3).1 c22).2 x2 ex2).2 c21).1 c20).1 c18).2 c12) m17 em17) m18 em18)))))))))) (fun c18 => (zgt (fun c17 => (zne (fun c14 => (And.intro rfl (fun m19 em19 => (And.intro rfl (And.intro rfl (zC.post ((((((((((hr1 m2 em2) m3 em3).1 c22).2 x2 ex2).2 c21).1 c20).2 c18).1 c17).1 c14) m19 em19) (fun r13 m20 hr13 => (zG.mask [false, false] hr13)))))))) (fun c14 => (And.intro rfl (fun m21 em21 => (And.intro rfl (And.intro rfl (fun m22 em22 => (zG.mask [false, false] (((((((((((hr1 m2 em2) m3 em3).1 c22).2 x2 ex2).2 c21).1 c20).2 c18).1 c17).2 c14) m21 em21) m22 em22)))))))))) (fun c17 => (And.intro rfl (zC.post ((((((((hr1 m2 em2) m3 em3).1 c22).2 x2 ex2).2 c21).1 c20).2 c18).2 c17) (fun r15 m23 hr15 => (And.intro rfl (fun m24 em24 => (And.intro rfl (zC.post (hr15 m24 em24) (fun r16 m25 hr16 => (zG.mask [false, false] hr16)))))))))))))) (fun c20 => (And.intro rfl (fun m26 em26 => (And.intro rfl (zC.post (((((((hr1 m2 em2) m3 em3).1 c22).2 x2 ex2).2 c21).2 c20) m26 em26) (fun r19 m27 hr19 => (And.intro rfl (fun m28 em28 => (zG.mask [false, false] (hr19 m28 em28)))))))))))))))))) (fun c22 => (And.intro rfl (fun m29 em29 => ((((hr1 m2 em2) m3 em3).2 c22) m29 em29))))))))))))))))
theorem v_Ta_nextToken_149 {d : Nat}  {mem : zMem} {Q : Int → zMem → Prop}  (hS : Q 0 mem) : zG (d + 1) M_Ta_nextToken 149 [(9, 0), (9, 0)] [] mem Q := by
  exact zent_ok ok_Ta_nextToken (cuts := [149]) (f := 84) hS
theorem v_Ta_behind {d : Nat} {a1 a2 : Int} {mem : zMem} {Q : Int → zMem → Prop}  (hS : ∀ x1 : Int, x1 = mem 53 6 → zG (d + 1) M_Ta_behind 5 [(2, Int.ofNat 53), (0, a1), (0, a2), (0, x1)] [] mem Q) : zC (d + 1) K_Ta_behind [(2, Int.ofNat 53), (0, a1), (0, a2)] mem Q := by
  exact zC_of ok_Ta_behind (by decide +kernel) (Nat.le_of_ble_eq_true rfl) rfl (Or.inr (Or.inl rfl)) (zent_ok ok_Ta_behind (cuts := [5]) (f := 28) (And.intro rfl (fun x1 ex1 => (hS x1 ex1))))
theorem v_Ta_behind_5 {d : Nat} {l1 l2 l3 : Int} {mem : zMem} {Q : Int → zMem → Prop}  (hS : ((mem 53 2 ≤ l3 → Q l3 mem) ∧ (l3 < mem 53 2 → ((0 ≤ l3 ∧ l3 < 320) ∧ ((mem 54 l3.toNat < l1 → Q l3 mem) ∧ (l1 ≤ mem 54 l3.toNat → ((0 ≤ l3 ∧ l3 < 320) ∧ ((l2 < mem 54 l3.toNat → Q l3 mem) ∧ (mem 54 l3.toNat ≤ l2 → ∀ x1 : Int, x1 = zadd l3 1 → zG (d + 1) M_Ta_behind 5 [(2, Int.ofNat 53), (0, l1), (0, l2), (0, x1)] [] mem Q))))))))) : zG (d + 1) M_Ta_behind 5 [(2, Int.ofNat 53), (0, l1), (0, l2), (0, l3)] [] mem Q := by
  exact zent_ok ok_Ta_behind (cuts := [5]) (f := 28) (And.intro rfl (zge (fun c4 => (hS.1 c4)) (fun c4 => (And.intro rfl (And.intro (zbd (Or.inl rfl) rfl (hS.2 c4).1) (zlt (fun c3 => ((hS.2 c4).2.1 c3)) (fun c3 => (And.intro rfl (And.intro (zbd (Or.inl rfl) rfl ((hS.2 c4).2.2 c3).1) (zgt (fun c2 => (((hS.2 c4).2.2 c3).2.1 c2)) (fun c2 => (fun x1 ex1 => ((((hS.2 c4).2.2 c3).2.2 c2) x1 ex1)))))))))))))
theorem v_Ta_takeFigures {d : Nat}  {mem : zMem} {Q : Int → zMem → Prop}  (hS : ((zsub (mem 53 6) (mem 53 7) ≤ 2 → ∀ m1 : zMem, m1 = zup mem 53 8 3 → ∀ m2 : zMem, m2 = zup m1 53 9 0 → ∀ x1 : Int, x1 = m2 53 7 → zG (d + 1) M_Ta_takeFigures 44 [(2, Int.ofNat 53), (0, x1)] [] m2 Q) ∧ (2 < zsub (mem 53 6) (mem 53 7) → ∀ m3 : zMem, m3 = zup mem 53 8 0 → zC d K_Ta_refuse [(2, Int.ofNat 53), (0, 1), (0, m3 53 7)] m3 (fun r2 m4 => Q 0 m4)))) : zC (d + 1) K_Ta_takeFigures [(2, Int.ofNat 53)] mem Q := by
  exact zC_of ok_Ta_takeFigures (by decide +kernel) (Nat.le_of_ble_eq_true rfl) rfl (Or.inl rfl) (zent_ok ok_Ta_takeFigures (cuts := [44]) (f := 51) (And.intro rfl (And.intro rfl (zle (fun c3 => (And.intro rfl (fun m1 em1 => (And.intro rfl (fun m2 em2 => (And.intro rfl (fun x1 ex1 => ((((hS.1 c3) m1 em1) m2 em2) x1 ex1)))))))) (fun c3 => (And.intro rfl (fun m3 em3 => (And.intro rfl (And.intro rfl (zC.post ((hS.2 c3) m3 em3) (fun r2 m4 hr2 => hr2)))))))))))
theorem v_Ta_takeFigures_44 {d : Nat} {l1 : Int} {mem : zMem} {Q : Int → zMem → Prop}  (hS : ((mem 53 6 ≤ l1 → Q 0 mem) ∧ (l1 < mem 53 6 → ((0 ≤ l1 ∧ l1 < 320) ∧ ∀ m1 : zMem, m1 = zup mem 53 9 (zsub (zadd (zmul 10 (mem 53 9)) (mem 54 l1.toNat)) 48) → ∀ x1 : Int, x1 = zadd l1 1 → zG (d + 1) M_Ta_takeFigures 44 [(2, Int.ofNat 53), (0, x1)] [] m1 Q)))) : zG (d + 1) M_Ta_takeFigures 44 [(2, Int.ofNat 53), (0, l1)] [] mem Q := by
  exact zent_ok ok_Ta_takeFigures (cuts := [44]) (f := 51) (And.intro rfl (zge (fun c2 => (hS.1 c2)) (fun c2 => (And.intro rfl (And.intro rfl (And.intro (zbd (Or.inl rfl) rfl (hS.2 c2).1) (And.intro rfl (fun m1 em1 => (fun x1 ex1 => (((hS.2 c2).2 m1 em1) x1 ex1))))))))))
theorem v_Ta_refuse {d : Nat} {a1 a2 : Int} {mem : zMem} {Q : Int → zMem → Prop}  (hS : ((mem 53 4 ≠ 0 → Q 0 mem) ∧ (mem 53 4 = 0 → ∀ m1 : zMem, m1 = zup mem 53 4 a1 → ∀ m2 : zMem, m2 = zup m1 53 5 a2 → Q 0 m2))) : zC (d + 1) K_Ta_refuse [(2, Int.ofNat 53), (0, a1), (0, a2)] mem Q := by
  exact zC_of ok_Ta_refuse (by decide +kernel) (Nat.le_of_ble_eq_true rfl) rfl (Or.inr (Or.inr (Or.inl rfl))) (zent_ok ok_Ta_refuse (cuts := []) (f := 16) (And.intro rfl (zne (fun c1 => (And.intro (Or.inl rfl) (hS.1 c1))) (fun c1 => (And.intro rfl (fun m1 em1 => (And.intro rfl (fun m2 em2 => (And.intro (Or.inl rfl) (((hS.2 c1) m1 em1) m2 em2))))))))))
theorem v_Ta_takeLine {d : Nat}  {mem : zMem} {Q : Int → zMem → Prop}  (hS : zC d K_Ta_isWord [(2, Int.ofNat 53), (3, 0)] mem (fun r1 m1 => ((r1 = 0 → zC d K_Ta_isWord [(2, Int.ofNat 53), (3, 1)] m1 (fun r2 m2 => ((r2 = 0 → zC d K_Ta_isWord [(2, Int.ofNat 53), (3, 2)] m2 (fun r3 m3 => ((r3 = 0 → zC d K_Ta_isWord [(2, Int.ofNat 53), (3, 3)] m3 (fun r4 m4 => ((r4 = 0 → zC d K_Ta_isWord [(2, Int.ofNat 53), (3, 4)] m4 (fun r5 m5 => ((r5 = 0 → zC d K_Ta_refuse [(2, Int.ofNat 53), (0, 2), (0, m5 53 7)] m5 (fun r6 m6 => ((r6 = 0 ∨ r6 = 1) ∧ Q r6 m6))) ∧ (r5 ≠ 0 → zC d K_Ta_takeWalled [(2, Int.ofNat 53)] m5 (fun r7 m7 => ((r7 = 0 ∨ r7 = 1) ∧ Q r7 m7)))))) ∧ (r4 ≠ 0 → zC d K_Ta_takeOne [(2, Int.ofNat 53)] m4 (fun r9 m8 => ((r9 = 0 ∨ r9 = 1) ∧ Q r9 m8)))))) ∧ (r3 ≠ 0 → zC d K_Ta_takeDoor [(2, Int.ofNat 53)] m3 (fun r11 m9 => ((r11 = 0 ∨ r11 = 1) ∧ Q r11 m9)))))) ∧ (r2 ≠ 0 → zC d K_Ta_takeLaw [(2, Int.ofNat 53)] m2 (fun r13 m10 => ((r13 = 0 ∨ r13 = 1) ∧ Q r13 m10)))))) ∧ (r1 ≠ 0 → zC d K_Ta_takeRooms [(2, Int.ofNat 53)] m1 (fun r15 m11 => ((r15 = 0 ∨ r15 = 1) ∧ Q r15 m11)))))) : zC (d + 1) K_Ta_takeLine [(2, Int.ofNat 53)] mem Q := by
  exact zC_of ok_Ta_takeLine (by decide +kernel) (Nat.le_of_ble_eq_true rfl) rfl (Or.inr (Or.inr (Or.inl rfl))) (zent_ok ok_Ta_takeLine (cuts := []) (f := 46) (And.intro rfl (zC.post hS (fun r1 m1 hr1 => (zeq (fun c16 => (And.intro rfl (zC.post (hr1.1 c16) (fun r2 m2 hr2 => (zeq (fun c14 => (And.intro rfl (zC.post (hr2.1 c14) (fun r3 m3 hr3 => (zeq (fun c12 => (And.intro rfl (zC.post (hr3.1 c12) (fun r4 m4 hr4 => (zeq (fun c10 => (And.intro rfl (zC.post (hr4.1 c10) (fun r5 m5 hr5 => (zeq (fun c8 => (And.intro rfl (And.intro rfl (zC.post (hr5.1 c8) (fun r6 m6 hr6 => hr6))))) (fun c8 => (And.intro rfl (zC.post (hr5.2 c8) (fun r7 m7 hr7 => hr7))))))))) (fun c10 => (And.intro rfl (zC.post (hr4.2 c10) (fun r9 m8 hr9 => hr9))))))))) (fun c12 => (And.intro rfl (zC.post (hr3.2 c12) (fun r11 m9 hr11 => hr11))))))))) (fun c14 => (And.intro rfl (zC.post (hr2.2 c14) (fun r13 m10 hr13 => hr13))))))))) (fun c16 => (And.intro rfl (zC.post (hr1.2 c16) (fun r15 m11 hr15 => hr15)))))))))
theorem v_Ta_isWord {d : Nat} {a1 : Int} {mem : zMem} {Q : Int → zMem → Prop} (hs : 0 ≤ a1 ∧ a1 < 8) (hS : ((mem 53 8 ≠ 2 → Q 0 mem) ∧ (mem 53 8 = 2 → zC d K_Js_length [(3, a1)] mem (fun r1 m1 => ((zsub (mem 53 6) (mem 53 7) = r1 → zG (d + 1) M_Ta_isWord 28 [(2, Int.ofNat 53), (3, a1), (0, 0)] [] m1 Q) ∧ (zsub (mem 53 6) (mem 53 7) ≠ r1 → Q 0 m1)))))) : zC (d + 1) K_Ta_isWord [(2, Int.ofNat 53), (3, a1)] mem Q := by
  exact zC_of ok_Ta_isWord (by decide +kernel) (Nat.le_of_ble_eq_true rfl) rfl (Or.inr (Or.inr (Or.inl rfl))) (zent_ok ok_Ta_isWord (cuts := [28]) (f := 42) (And.intro rfl (zne (fun c3 => (And.intro (Or.inl rfl) (hS.1 c3))) (fun c3 => (And.intro rfl (And.intro rfl (And.intro ⟨rfl, hs⟩ (zC.post (hS.2 c3) (fun r1 m1 hr1 => (zeq (fun c2 => (zall (hr1.1 c2))) (fun c2 => (And.intro (Or.inl rfl) (hr1.2 c2)))))))))))))
theorem v_Ta_isWord_28 {d : Nat} {a1 l2 : Int} {mem : zMem} {Q : Int → zMem → Prop} (hs : 0 ≤ a1 ∧ a1 < 8) (hS : zC d K_Js_length [(3, a1)] mem (fun r1 m1 => ((r1 ≤ l2 → Q 1 m1) ∧ (l2 < r1 → ((0 ≤ zadd (m1 53 7) l2 ∧ zadd (m1 53 7) l2 < 320) ∧ zC d K_Js_charAt [(3, a1), (0, l2)] m1 (fun r2 m2 => ((m1 54 (zadd (m1 53 7) l2).toNat = r2 → ∀ x3 : Int, x3 = zadd l2 1 → zG (d + 1) M_Ta_isWord 28 [(2, Int.ofNat 53), (3, a1), (0, x3)] [] m2 Q) ∧ (m1 54 (zadd (m1 53 7) l2).toNat ≠ r2 → Q 0 m2)))))))) : zG (d + 1) M_Ta_isWord 28 [(2, Int.ofNat 53), (3, a1), (0, l2)] [] mem Q := by
  exact zent_ok ok_Ta_isWord (cuts := [28]) (f := 42) (And.intro ⟨rfl, hs⟩ (zC.post hS (fun r1 m1 hr1 => (zge (fun c5 => (And.intro (Or.inr rfl) (hr1.1 c5))) (fun c5 => (And.intro rfl (And.intro rfl (And.intro (zbd (Or.inl rfl) rfl (hr1.2 c5).1) (And.intro ⟨rfl, hs⟩ (zC.post (hr1.2 c5).2 (fun r2 m2 hr2 => (zeq (fun c4 => (fun x3 ex3 => ((hr2.1 c4) x3 ex3))) (fun c4 => (And.intro (Or.inl rfl) (hr2.2 c4)))))))))))))))
theorem v_Ta_takeRooms {d : Nat}  {mem : zMem} {Q : Int → zMem → Prop}  (hS : ((mem 53 10 = 0 → ∀ m1 : zMem, m1 = zup mem 53 10 1 → zC d K_Ta_takeNumber [(2, Int.ofNat 53), (0, 2), (0, 10)] m1 (fun r1 m2 => ((r1 ≠ 0 → ∀ m3 : zMem, m3 = zup m2 56 0 (m2 53 9) → zC d K_Ta_takeSign [(2, Int.ofNat 53)] m3 (fun r2 m4 => ((r2 = 0 ∨ r2 = 1) ∧ Q r2 m4))) ∧ (r1 = 0 → Q 0 m2)))) ∧ (mem 53 10 ≠ 0 → zC d K_Ta_refuse [(2, Int.ofNat 53), (0, 4), (0, mem 53 7)] mem (fun r4 m5 => ((r4 = 0 ∨ r4 = 1) ∧ Q r4 m5))))) : zC (d + 1) K_Ta_takeRooms [(2, Int.ofNat 53)] mem Q := by
  exact zC_of ok_Ta_takeRooms (by decide +kernel) (Nat.le_of_ble_eq_true rfl) rfl (Or.inr (Or.inr (Or.inl rfl))) (zent_ok ok_Ta_takeRooms (cuts := []) (f := 33) (And.intro rfl (zeq (fun c5 => (And.intro rfl (And.intro (Or.inr rfl) (fun m1 em1 => (And.intro rfl (zC.post ((hS.1 c5) m1 em1) (fun r1 m2 hr1 => (zne (fun c3 => (And.intro rfl (And.intro rfl (And.intro rfl (And.intro rfl (fun m3 em3 => (And.intro rfl (zC.post ((hr1.1 c3) m3 em3) (fun r2 m4 hr2 => hr2))))))))) (fun c3 => (And.intro (Or.inl rfl) (hr1.2 c3))))))))))) (fun c5 => (And.intro rfl (And.intro rfl (zC.post (hS.2 c5) (fun r4 m5 hr4 => hr4))))))))
theorem v_Ta_takeNumber {d : Nat} {a1 a2 : Int} {mem : zMem} {Q : Int → zMem → Prop}  (hS : zC d K_Ta_nextToken [(2, Int.ofNat 53)] mem (fun r1 m1 => ((m1 53 8 = 3 → ((m1 53 9 < a1 → zC d K_Ta_refuse [(2, Int.ofNat 53), (0, 3), (0, m1 53 7)] m1 (fun r2 m2 => ((r2 = 0 → Q 0 m2) ∧ (r2 ≠ 0 → Q 1 m2)))) ∧ (a1 ≤ m1 53 9 → ((m1 53 9 ≤ a2 → Q 1 m1) ∧ (a2 < m1 53 9 → zC d K_Ta_refuse [(2, Int.ofNat 53), (0, 3), (0, m1 53 7)] m1 (fun r4 m3 => ((r4 = 0 → Q 0 m3) ∧ (r4 ≠ 0 → Q 1 m3)))))))) ∧ (m1 53 8 ≠ 3 → zC d K_Ta_refuse [(2, Int.ofNat 53), (0, 2), (0, m1 53 7)] m1 (fun r8 m4 => ((r8 = 0 ∨ r8 = 1) ∧ Q r8 m4)))))) : zC (d + 1) K_Ta_takeNumber [(2, Int.ofNat 53), (0, a1), (0, a2)] mem Q := by
  exact zC_of ok_Ta_takeNumber (by decide +kernel) (Nat.le_of_ble_eq_true rfl) rfl (Or.inr (Or.inr (Or.inl rfl))) (zent_ok ok_Ta_takeNumber (cuts := []) (f := 35) (And.intro rfl (zC.post hS (fun r1 m1 hr1 => (And.intro rfl (zeq (fun c9 => (And.intro rfl (zlt (fun c7 => (And.intro rfl (And.intro rfl (zC.post ((hr1.1 c9).1 c7) (fun r2 m2 hr2 => (zeq (fun c3 => (And.intro (Or.inl rfl) (hr2.1 c3))) (fun c3 => (And.intro (Or.inr rfl) (hr2.2 c3))))))))) (fun c7 => (And.intro rfl (zle (fun c6 => (And.intro (Or.inr rfl) (((hr1.1 c9).2 c7).1 c6))) (fun c6 => (And.intro rfl (And.intro rfl (zC.post (((hr1.1 c9).2 c7).2 c6) (fun r4 m3 hr4 => (zeq (fun c5 => (And.intro (Or.inl rfl) (hr4.1 c5))) (fun c5 => (And.intro (Or.inr rfl) (hr4.2 c5))))))))))))))) (fun c9 => (And.intro rfl (And.intro rfl (zC.post (hr1.2 c9) (fun r8 m4 hr8 => hr8)))))))))))
theorem v_Ta_takeSign {d : Nat}  {mem : zMem} {Q : Int → zMem → Prop}  (hS : zC d K_Ta_nextToken [(2, Int.ofNat 53)] mem (fun r1 m1 => zC d K_Ta_isSign [(2, Int.ofNat 53)] m1 (fun r2 m2 => ((r2 = 0 ∨ r2 = 1) ∧ Q r2 m2)))) : zC (d + 1) K_Ta_takeSign [(2, Int.ofNat 53)] mem Q := by
  exact zC_of ok_Ta_takeSign (by decide +kernel) (Nat.le_of_ble_eq_true rfl) rfl (Or.inr (Or.inr (Or.inl rfl))) (zent_ok ok_Ta_takeSign (cuts := []) (f := 10) (And.intro rfl (zC.post hS (fun r1 m1 hr1 => (And.intro rfl (zC.post hr1 (fun r2 m2 hr2 => hr2)))))))
theorem v_Ta_isSign {d : Nat}  {mem : zMem} {Q : Int → zMem → Prop}  (hS : ((mem 53 8 = 4 → Q 1 mem) ∧ (mem 53 8 ≠ 4 → zC d K_Ta_refuse [(2, Int.ofNat 53), (0, 2), (0, mem 53 7)] mem (fun r1 m1 => ((r1 = 0 → Q 0 m1) ∧ (r1 ≠ 0 → Q 1 m1)))))) : zC (d + 1) K_Ta_isSign [(2, Int.ofNat 53)] mem Q := by
  exact zC_of ok_Ta_isSign (by decide +kernel) (Nat.le_of_ble_eq_true rfl) rfl (Or.inr (Or.inr (Or.inl rfl))) (zent_ok ok_Ta_isSign (cuts := []) (f := 19) (And.intro rfl (zeq (fun c3 => (And.intro (Or.inr rfl) (hS.1 c3))) (fun c3 => (And.intro rfl (And.intro rfl (zC.post (hS.2 c3) (fun r1 m1 hr1 => (zeq (fun c2 => (And.intro (Or.inl rfl) (hr1.1 c2))) (fun c2 => (And.intro (Or.inr rfl) (hr1.2 c2))))))))))))
theorem v_Ta_takeLaw {d : Nat}  {mem : zMem} {Q : Int → zMem → Prop}  (hS : ((mem 53 11 = 0 → ∀ m1 : zMem, m1 = zup mem 53 11 1 → zC d K_Ta_takeNumber [(2, Int.ofNat 53), (0, 0), (0, 3)] m1 (fun r1 m2 => ((r1 ≠ 0 → ∀ m3 : zMem, m3 = zup m2 56 1 (m2 53 9) → zC d K_Ta_takeSign [(2, Int.ofNat 53)] m3 (fun r2 m4 => ((r2 = 0 ∨ r2 = 1) ∧ Q r2 m4))) ∧ (r1 = 0 → Q 0 m2)))) ∧ (mem 53 11 ≠ 0 → zC d K_Ta_refuse [(2, Int.ofNat 53), (0, 4), (0, mem 53 7)] mem (fun r4 m5 => ((r4 = 0 ∨ r4 = 1) ∧ Q r4 m5))))) : zC (d + 1) K_Ta_takeLaw [(2, Int.ofNat 53)] mem Q := by
  exact zC_of ok_Ta_takeLaw (by decide +kernel) (Nat.le_of_ble_eq_true rfl) rfl (Or.inr (Or.inr (Or.inl rfl))) (zent_ok ok_Ta_takeLaw (cuts := []) (f := 33) (And.intro rfl (zeq (fun c5 => (And.intro rfl (And.intro (Or.inr rfl) (fun m1 em1 => (And.intro rfl (zC.post ((hS.1 c5) m1 em1) (fun r1 m2 hr1 => (zne (fun c3 => (And.intro rfl (And.intro rfl (And.intro rfl (And.intro rfl (fun m3 em3 => (And.intro rfl (zC.post ((hr1.1 c3) m3 em3) (fun r2 m4 hr2 => hr2))))))))) (fun c3 => (And.intro (Or.inl rfl) (hr1.2 c3))))))))))) (fun c5 => (And.intro rfl (And.intro rfl (zC.post (hS.2 c5) (fun r4 m5 hr4 => hr4))))))))
theorem v_Ta_takeDoor {d : Nat}  {mem : zMem} {Q : Int → zMem → Prop}  (hS : ((mem 56 2 < 14 → zC d K_Ta_takeNumber [(2, Int.ofNat 53), (0, 0), (0, 9)] mem (fun r1 m1 => ((r1 ≠ 0 → ∀ x2 : Int, x2 = m1 53 9 → zC d K_Ta_takeNumber [(2, Int.ofNat 53), (0, 0), (0, 9)] m1 (fun r3 m2 => ((r3 ≠ 0 → ∀ x4 : Int, x4 = m2 53 9 → ((x2 ≠ x4 → zC d K_Ta_nextToken [(2, Int.ofNat 53)] m2 (fun r5 m3 => ((m3 53 8 ≠ 2 → zC d K_Ta_isSign [(2, Int.ofNat 53)] m3 (fun r6 m4 => ((r6 = 0 → Q 0 m4) ∧ (r6 ≠ 0 → zC d K_Ho_add [(2, Int.ofNat 56), (0, x2), (0, x4), (0, 0)] m4 (fun r7 m5 => ((r7 = 0 → Q 0 m5) ∧ (r7 ≠ 0 → Q 1 m5))))))) ∧ (m3 53 8 = 2 → zC d K_Ta_colourTold [(2, Int.ofNat 53)] m3 (fun r10 m6 => ((r10 ≠ 0 → zC d K_Ta_nextToken [(2, Int.ofNat 53)] m6 (fun r11 m7 => zC d K_Ta_isSign [(2, Int.ofNat 53)] m7 (fun r12 m8 => ((r12 = 0 → Q 0 m8) ∧ (r12 ≠ 0 → zC d K_Ho_add [(2, Int.ofNat 56), (0, x2), (0, x4), (0, r10)] m8 (fun r13 m9 => ((r13 = 0 → Q 0 m9) ∧ (r13 ≠ 0 → Q 1 m9)))))))) ∧ (r10 = 0 → zC d K_Ta_refuse [(2, Int.ofNat 53), (0, 2), (0, m6 53 7)] m6 (fun r16 m10 => ((r16 = 0 ∨ r16 = 1) ∧ Q r16 m10))))))))) ∧ (x2 = x4 → zC d K_Ta_refuse [(2, Int.ofNat 53), (0, 4), (0, m2 53 7)] m2 (fun r19 m11 => ((r19 = 0 ∨ r19 = 1) ∧ Q r19 m11))))) ∧ (r3 = 0 → Q 0 m2)))) ∧ (r1 = 0 → Q 0 m1)))) ∧ (14 ≤ mem 56 2 → zC d K_Ta_refuse [(2, Int.ofNat 53), (0, 5), (0, mem 53 7)] mem (fun r23 m12 => ((r23 = 0 ∨ r23 = 1) ∧ Q r23 m12))))) : zC (d + 1) K_Ta_takeDoor [(2, Int.ofNat 53)] mem Q := by
  exact zC_of ok_Ta_takeDoor (by decide +kernel) (Nat.le_of_ble_eq_true rfl) rfl (Or.inr (Or.inr (Or.inl rfl))) (zent_ok ok_Ta_takeDoor (cuts := []) (f := 82) (And.intro rfl (And.intro rfl (And.intro rfl (zlt (fun c24 => (And.intro rfl (zC.post (hS.1 c24) (fun r1 m1 hr1 => (zne (fun c22 => (And.intro rfl (fun x2 ex2 => (And.intro rfl (zC.post ((hr1.1 c22) x2 ex2) (fun r3 m2 hr3 => (zne (fun c21 => (And.intro rfl (fun x4 ex4 => (zne (fun c20 => (And.intro rfl (zC.post (((hr3.1 c21) x4 ex4).1 c20) (fun r5 m3 hr5 => (zall (And.intro rfl (zne (fun c18 => (And.intro rfl (zC.post (hr5.1 c18) (fun r6 m4 hr6 => (zeq (fun c9 => (And.intro (Or.inl rfl) (hr6.1 c9))) (fun c9 => (And.intro rfl (And.intro rfl (And.intro rfl (zC.post (hr6.2 c9) (fun r7 m5 hr7 => (zeq (fun c8 => (And.intro (Or.inl rfl) (hr7.1 c8))) (fun c8 => (And.intro (Or.inr rfl) (hr7.2 c8))))))))))))))) (fun c18 => (And.intro rfl (zC.post (hr5.2 c18) (fun r10 m6 hr10 => (zall (zne (fun c17 => (And.intro rfl (zC.post (hr10.1 c17) (fun r11 m7 hr11 => (And.intro rfl (zC.post hr11 (fun r12 m8 hr12 => (zeq (fun c15 => (And.intro (Or.inl rfl) (hr12.1 c15))) (fun c15 => (And.intro rfl (And.intro rfl (And.intro rfl (zC.post (hr12.2 c15) (fun r13 m9 hr13 => (zeq (fun c14 => (And.intro (Or.inl rfl) (hr13.1 c14))) (fun c14 => (And.intro (Or.inr rfl) (hr13.2 c14)))))))))))))))))) (fun c17 => (And.intro rfl (And.intro rfl (zC.post (hr10.2 c17) (fun r16 m10 hr16 => hr16)))))))))))))))))) (fun c20 => (And.intro rfl (And.intro rfl (zC.post (((hr3.1 c21) x4 ex4).2 c20) (fun r19 m11 hr19 => hr19))))))))) (fun c21 => (And.intro (Or.inl rfl) (hr3.2 c21)))))))))) (fun c22 => (And.intro (Or.inl rfl) (hr1.2 c22)))))))) (fun c24 => (And.intro rfl (And.intro rfl (zC.post (hS.2 c24) (fun r23 m12 hr23 => hr23))))))))))
theorem v_Ta_colourTold {d : Nat}  {mem : zMem} {Q : Int → zMem → Prop}  (hS : zC d K_Ta_isWord [(2, Int.ofNat 53), (3, 5)] mem (fun r1 m1 => ((r1 = 0 → zC d K_Ta_isWord [(2, Int.ofNat 53), (3, 6)] m1 (fun r2 m2 => ((r2 = 0 → zC d K_Ta_isWord [(2, Int.ofNat 53), (3, 7)] m2 (fun r3 m3 => ((r3 = 0 → Q 0 m3) ∧ (r3 ≠ 0 → Q 3 m3)))) ∧ (r2 ≠ 0 → Q 2 m2)))) ∧ (r1 ≠ 0 → Q 1 m1)))) : zC (d + 1) K_Ta_colourTold [(2, Int.ofNat 53)] mem Q := by
  exact zC_of ok_Ta_colourTold (by decide +kernel) (Nat.le_of_ble_eq_true rfl) rfl (Or.inr (Or.inl rfl)) (zent_ok ok_Ta_colourTold (cuts := []) (f := 25) (And.intro rfl (zC.post hS (fun r1 m1 hr1 => (zeq (fun c6 => (And.intro rfl (zC.post (hr1.1 c6) (fun r2 m2 hr2 => (zeq (fun c5 => (And.intro rfl (zC.post (hr2.1 c5) (fun r3 m3 hr3 => (zeq (fun c4 => (hr3.1 c4)) (fun c4 => (hr3.2 c4))))))) (fun c5 => (hr2.2 c5))))))) (fun c6 => (hr1.2 c6)))))))
theorem v_Ho_add {d : Nat} {h : Nat} {a1 a2 a3 : Int} {mem : zMem} {Q : Int → zMem → Prop} (hh : zHo h) (hS : ((mem h 2 < 14 → ((0 ≤ mem h 2 ∧ mem h 2 < 14) ∧ ∀ m1 : zMem, m1 = zup mem (h + 1) (mem h 2).toNat a1 → ((0 ≤ m1 h 2 ∧ m1 h 2 < 14) ∧ ∀ m2 : zMem, m2 = zup m1 (h + 2) (m1 h 2).toNat a2 → ((0 ≤ m2 h 2 ∧ m2 h 2 < 14) ∧ ∀ m3 : zMem, m3 = zup m2 (h + 3) (m2 h 2).toNat a3 → ((0 ≤ a1 ∧ a1 < 10) ∧ ((0 ≤ a1 ∧ a1 < 10) ∧ ∀ m4 : zMem, m4 = zup m3 (h + 4) a1.toNat (zor (m3 (h + 4) a1.toNat) (zshl 1 (m3 h 2))) → ((0 ≤ a2 ∧ a2 < 10) ∧ ((0 ≤ a2 ∧ a2 < 10) ∧ ∀ m5 : zMem, m5 = zup m4 (h + 4) a2.toNat (zor (m4 (h + 4) a2.toNat) (zshl 1 (m4 h 2))) → ((0 ≤ a3 ∧ a3 < 4) ∧ ((0 ≤ a3 ∧ a3 < 4) ∧ ∀ m6 : zMem, m6 = zup m5 (h + 5) a3.toNat (zor (m5 (h + 5) a3.toNat) (zshl 1 (m5 h 2))) → ∀ m7 : zMem, m7 = zup m6 h 2 (zadd (m6 h 2) 1) → Q 1 m7)))))))))) ∧ (14 ≤ mem h 2 → Q 0 mem))) : zC (d + 1) K_Ho_add [(2, Int.ofNat h), (0, a1), (0, a2), (0, a3)] mem Q := by
  rcases hh with rfl | rfl | rfl | rfl <;> exact zC_of ok_Ho_add (by decide +kernel) (Nat.le_of_ble_eq_true rfl) rfl (Or.inr (Or.inr (Or.inl rfl))) (zent_ok ok_Ho_add (cuts := []) (f := 70) (And.intro rfl (zlt (fun c1 => (And.intro rfl (And.intro rfl (And.intro (zbd rfl rfl (hS.1 c1).1) (fun m1 em1 => (And.intro rfl (And.intro rfl (And.intro (zbd rfl rfl ((hS.1 c1).2 m1 em1).1) (fun m2 em2 => (And.intro rfl (And.intro rfl (And.intro (zbd rfl rfl (((hS.1 c1).2 m1 em1).2 m2 em2).1) (fun m3 em3 => (And.intro rfl (And.intro (zbd rfl rfl ((((hS.1 c1).2 m1 em1).2 m2 em2).2 m3 em3).1) (And.intro rfl (And.intro (zbd rfl rfl ((((hS.1 c1).2 m1 em1).2 m2 em2).2 m3 em3).2.1) (fun m4 em4 => (And.intro rfl (And.intro (zbd rfl rfl (((((hS.1 c1).2 m1 em1).2 m2 em2).2 m3 em3).2.2 m4 em4).1) (And.intro rfl (And.intro (zbd rfl rfl (((((hS.1 c1).2 m1 em1).2 m2 em2).2 m3 em3).2.2 m4 em4).2.1) (fun m5 em5 => (And.intro rfl (And.intro (zbd rfl rfl ((((((hS.1 c1).2 m1 em1).2 m2 em2).2 m3 em3).2.2 m4 em4).2.2 m5 em5).1) (And.intro rfl (And.intro (zbd rfl rfl ((((((hS.1 c1).2 m1 em1).2 m2 em2).2 m3 em3).2.2 m4 em4).2.2 m5 em5).2.1) (fun m6 em6 => (And.intro rfl (And.intro rfl (fun m7 em7 => (And.intro (Or.inr rfl) ((((((((hS.1 c1).2 m1 em1).2 m2 em2).2 m3 em3).2.2 m4 em4).2.2 m5 em5).2.2 m6 em6) m7 em7))))))))))))))))))))))))))))))))) (fun c1 => (And.intro (Or.inl rfl) (hS.2 c1))))))
theorem v_Ta_takeOne {d : Nat}  {mem : zMem} {Q : Int → zMem → Prop}  (hS : ((mem 55 2 < 5 → zC d K_Ta_takeNumber [(2, Int.ofNat 53), (0, 0), (0, 9)] mem (fun r1 m1 => ((r1 ≠ 0 → ((0 ≤ m1 55 2 ∧ m1 55 2 < 5) ∧ zC d K_Wa_standNew [(2, Int.ofNat (zrt 62 (m1 55 2).toNat)), (0, m1 53 9)] m1 (fun r2 m2 => ∀ m3 : zMem, m3 = zup m2 55 2 (zadd (m2 55 2) 1) → zC d K_Ta_takeSign [(2, Int.ofNat 53)] m3 (fun r3 m4 => ((r3 = 0 ∨ r3 = 1) ∧ Q r3 m4))))) ∧ (r1 = 0 → Q 0 m1)))) ∧ (5 ≤ mem 55 2 → zC d K_Ta_refuse [(2, Int.ofNat 53), (0, 5), (0, mem 53 7)] mem (fun r5 m5 => ((r5 = 0 ∨ r5 = 1) ∧ Q r5 m5))))) : zC (d + 1) K_Ta_takeOne [(2, Int.ofNat 53)] mem Q := by
  exact zC_of ok_Ta_takeOne (by decide +kernel) (Nat.le_of_ble_eq_true rfl) rfl (Or.inr (Or.inr (Or.inl rfl))) (zent_ok ok_Ta_takeOne (cuts := []) (f := 43) (And.intro rfl (And.intro rfl (zlt (fun c6 => (And.intro rfl (zC.post (hS.1 c6) (fun r1 m1 hr1 => (zne (fun c4 => (And.intro rfl (And.intro rfl (And.intro rfl (And.intro rfl (And.intro (zba (by decide) (by decide) rfl (hr1.1 c4).1) (And.intro rfl (And.intro (zkw (by decide) (hr1.1 c4).1) (zC.post (hr1.1 c4).2 (fun r2 m2 hr2 => (And.intro rfl (And.intro rfl (And.intro rfl (fun m3 em3 => (And.intro rfl (zC.post (hr2 m3 em3) (fun r3 m4 hr3 => hr3))))))))))))))))) (fun c4 => (And.intro (Or.inl rfl) (hr1.2 c4)))))))) (fun c6 => (And.intro rfl (And.intro rfl (zC.post (hS.2 c6) (fun r5 m5 hr5 => hr5)))))))))
theorem v_Wa_standNew {d : Nat} {w : Nat} {a1 : Int} {mem : zMem} {Q : Int → zMem → Prop} (hw : zkd w = 9) (hS : ∀ m1 : zMem, m1 = zup mem w 0 a1 → ∀ m2 : zMem, m2 = zup m1 w 1 (-1) → ∀ m3 : zMem, m3 = zup m2 w 2 (-1) → Q 0 m3) : zC (d + 1) K_Wa_standNew [(2, Int.ofNat w), (0, a1)] mem Q := by
  exact zC_of ok_Wa_standNew (by decide +kernel) (Nat.le_of_ble_eq_true rfl) rfl (Or.inl rfl) (zent_ok ok_Wa_standNew (cuts := []) (f := 15) (And.intro hw (fun m1 em1 => (And.intro hw (fun m2 em2 => (And.intro hw (fun m3 em3 => (((hS m1 em1) m2 em2) m3 em3))))))))
theorem v_Ta_takeWalled {d : Nat}  {mem : zMem} {Q : Int → zMem → Prop}  (hS : zC d K_Ta_takeNumber [(2, Int.ofNat 53), (0, 0), (0, 13)] mem (fun r1 m1 => ((r1 ≠ 0 → ((zand (zshr (m1 53 12) (m1 53 9)) 1 = 0 → ∀ m2 : zMem, m2 = zup m1 53 12 (zor (m1 53 12) (zshl 1 (m1 53 9))) → zC d K_Ta_takeSign [(2, Int.ofNat 53)] m2 (fun r2 m3 => ((r2 = 0 ∨ r2 = 1) ∧ Q r2 m3))) ∧ (zand (zshr (m1 53 12) (m1 53 9)) 1 ≠ 0 → zC d K_Ta_refuse [(2, Int.ofNat 53), (0, 4), (0, m1 53 7)] m1 (fun r3 m4 => ((r3 = 0 ∨ r3 = 1) ∧ Q r3 m4))))) ∧ (r1 = 0 → Q 0 m1)))) : zC (d + 1) K_Ta_takeWalled [(2, Int.ofNat 53)] mem Q := by
  exact zC_of ok_Ta_takeWalled (by decide +kernel) (Nat.le_of_ble_eq_true rfl) rfl (Or.inr (Or.inr (Or.inl rfl))) (zent_ok ok_Ta_takeWalled (cuts := []) (f := 38) (And.intro rfl (zC.post hS (fun r1 m1 hr1 => (zne (fun c5 => (And.intro rfl (And.intro rfl (zeq (fun c4 => (And.intro rfl (And.intro rfl (And.intro rfl (fun m2 em2 => (And.intro rfl (zC.post (((hr1.1 c5).1 c4) m2 em2) (fun r2 m3 hr2 => hr2)))))))) (fun c4 => (And.intro rfl (And.intro rfl (zC.post ((hr1.1 c5).2 c4) (fun r3 m4 hr3 => hr3))))))))) (fun c5 => (And.intro (Or.inl rfl) (hr1.2 c5))))))))
theorem v_Ta_closeText {d : Nat}  {mem : zMem} {Q : Int → zMem → Prop}  (hS : ((zshl 1 (mem 56 2) ≤ mem 53 12 → zG (d + 1) M_Ta_closeText 29 [(2, Int.ofNat 53), (2, Int.ofNat 56), (0, 0), (0, 0)] [] mem Q) ∧ (mem 53 12 < zshl 1 (mem 56 2) → zG (d + 1) M_Ta_closeText 29 [(2, Int.ofNat 53), (2, Int.ofNat 56), (0, 1), (0, 0)] [] mem Q))) : zC (d + 1) K_Ta_closeText [(2, Int.ofNat 53)] mem Q := by
  exact zC_of ok_Ta_closeText (by decide +kernel) (Nat.le_of_ble_eq_true rfl) rfl (Or.inr (Or.inr (Or.inl rfl))) (zent_ok ok_Ta_closeText (cuts := [29, 79, 132]) (f := 97) (And.intro rfl (And.intro rfl (And.intro rfl (And.intro rfl (zge (fun c1 => (zall (zall (hS.1 c1)))) (fun c1 => (zall (zall (hS.2 c1))))))))))
theorem v_Ta_closeText_29 {d : Nat} {l2 l3 : Int} {mem : zMem} {Q : Int → zMem → Prop}  (hS : ((mem 56 2 ≤ l3 → zG (d + 1) M_Ta_closeText 79 [(2, Int.ofNat 53), (2, Int.ofNat 56), (0, l2), (0, 0)] [] mem Q) ∧ (l3 < mem 56 2 → ((0 ≤ l3 ∧ l3 < 14) ∧ zC d K_Ho_hasRoom [(2, Int.ofNat 56), (0, mem 57 l3.toNat)] mem (fun r1 m1 => ((r1 = 0 → ∀ x2 : Int, x2 = zand l2 0 → ∀ x3 : Int, x3 = zadd l3 1 → zG (d + 1) M_Ta_closeText 29 [(2, Int.ofNat 53), (2, Int.ofNat 56), (0, x2), (0, x3)] [] m1 Q) ∧ (r1 ≠ 0 → ((0 ≤ l3 ∧ l3 < 14) ∧ zC d K_Ho_hasRoom [(2, Int.ofNat 56), (0, m1 58 l3.toNat)] m1 (fun r4 m2 => ((r4 = 0 → ∀ x5 : Int, x5 = zand l2 0 → ∀ x6 : Int, x6 = zadd l3 1 → zG (d + 1) M_Ta_closeText 29 [(2, Int.ofNat 53), (2, Int.ofNat 56), (0, x5), (0, x6)] [] m2 Q) ∧ (r4 ≠ 0 → ∀ x7 : Int, x7 = zand l2 1 → ∀ x8 : Int, x8 = zadd l3 1 → zG (d + 1) M_Ta_closeText 29 [(2, Int.ofNat 53), (2, Int.ofNat 56), (0, x7), (0, x8)] [] m2 Q))))))))))) : zG (d + 1) M_Ta_closeText 29 [(2, Int.ofNat 53), (2, Int.ofNat 56), (0, l2), (0, l3)] [] mem Q := by
  exact zent_ok ok_Ta_closeText (cuts := [29, 79, 132]) (f := 97) (And.intro rfl (zge (fun c11 => (zall (hS.1 c11))) (fun c11 => (And.intro rfl (And.intro (zbd rfl rfl (hS.2 c11).1) (And.intro rfl (zC.post (hS.2 c11).2 (fun r1 m1 hr1 => (zeq (fun c10 => (fun x2 ex2 => (fun x3 ex3 => (((hr1.1 c10) x2 ex2) x3 ex3)))) (fun c10 => (And.intro rfl (And.intro (zbd rfl rfl (hr1.2 c10).1) (And.intro rfl (zC.post (hr1.2 c10).2 (fun r4 m2 hr4 => (zeq (fun c9 => (fun x5 ex5 => (fun x6 ex6 => (((hr4.1 c9) x5 ex5) x6 ex6)))) (fun c9 => (fun x7 ex7 => (fun x8 ex8 => (((hr4.2 c9) x7 ex7) x8 ex8))))))))))))))))))))
theorem v_Ta_closeText_79 {d : Nat} {l2 l3 : Int} {mem : zMem} {Q : Int → zMem → Prop}  (hS : ((mem 55 2 ≤ l3 → ((l2 ≠ 0 → zG (d + 1) M_Ta_closeText 132 [(2, Int.ofNat 53), (2, Int.ofNat 56), (9, 0), (0, 0)] [] mem Q) ∧ (l2 = 0 → zC d K_Ta_refuse [(2, Int.ofNat 53), (0, 6), (0, mem 53 2)] mem (fun r1 m1 => ((r1 = 0 ∨ r1 = 1) ∧ Q r1 m1))))) ∧ (l3 < mem 55 2 → ((0 ≤ l3 ∧ l3 < 5) ∧ zC d K_Ho_hasRoom [(2, Int.ofNat 56), (0, mem (zrt 62 l3.toNat) 0)] mem (fun r3 m2 => ∀ x4 : Int, x4 = zand l2 r3 → ∀ x5 : Int, x5 = zadd l3 1 → zG (d + 1) M_Ta_closeText 79 [(2, Int.ofNat 53), (2, Int.ofNat 56), (0, x4), (0, x5)] [] m2 Q))))) : zG (d + 1) M_Ta_closeText 79 [(2, Int.ofNat 53), (2, Int.ofNat 56), (0, l2), (0, l3)] [] mem Q := by
  exact zent_ok ok_Ta_closeText (cuts := [29, 79, 132]) (f := 97) (And.intro rfl (And.intro rfl (zge (fun c6 => (zne (fun c2 => (zall (zG.mask [true, true, false, true] ((hS.1 c6).1 c2)))) (fun c2 => (And.intro rfl (And.intro rfl (zC.post ((hS.1 c6).2 c2) (fun r1 m1 hr1 => hr1))))))) (fun c6 => (And.intro rfl (And.intro rfl (And.intro (zba (by decide) (by decide) rfl (hS.2 c6).1) (And.intro (zkw (by decide) (hS.2 c6).1) (And.intro rfl (zC.post (hS.2 c6).2 (fun r3 m2 hr3 => (fun x4 ex4 => (fun x5 ex5 => ((hr3 x4 ex4) x5 ex5))))))))))))))
theorem v_Ta_closeText_132 {d : Nat} {l3 : Int} {mem : zMem} {Q : Int → zMem → Prop}  (hS : ((mem 56 2 ≤ l3 → Q 1 mem) ∧ (l3 < mem 56 2 → ((zand (zshr (mem 53 12) l3) 1 = 0 → ∀ x1 : Int, x1 = zadd l3 1 → zG (d + 1) M_Ta_closeText 132 [(2, Int.ofNat 53), (2, Int.ofNat 56), (9, 0), (0, x1)] [] mem Q) ∧ (zand (zshr (mem 53 12) l3) 1 ≠ 0 → zC d K_Ho_setWalled [(2, Int.ofNat 56), (0, l3), (0, 1)] mem (fun r2 m1 => ∀ x3 : Int, x3 = zadd l3 1 → zG (d + 1) M_Ta_closeText 132 [(2, Int.ofNat 53), (2, Int.ofNat 56), (9, 0), (0, x3)] [] m1 Q)))))) : zG (d + 1) M_Ta_closeText 132 [(2, Int.ofNat 53), (2, Int.ofNat 56), (9, 0), (0, l3)] [] mem Q := by
  exact zent_ok ok_Ta_closeText (cuts := [29, 79, 132]) (f := 97) (And.intro rfl (zge (fun c5 => (And.intro (Or.inr rfl) (hS.1 c5))) (fun c5 => (And.intro rfl (zeq (fun c4 => (fun x1 ex1 => (((hS.2 c5).1 c4) x1 ex1))) (fun c4 => (And.intro rfl (zC.post ((hS.2 c5).2 c4) (fun r2 m1 hr2 => (fun x3 ex3 => (hr2 x3 ex3)))))))))))
theorem v_Ho_hasRoom {d : Nat} {h : Nat} {a1 : Int} {mem : zMem} {Q : Int → zMem → Prop} (hh : zHo h) (hS : ((a1 < 0 → Q 0 mem) ∧ (0 ≤ a1 → ((mem h 0 ≤ a1 → Q 0 mem) ∧ (a1 < mem h 0 → Q 1 mem))))) : zC (d + 1) K_Ho_hasRoom [(2, Int.ofNat h), (0, a1)] mem Q := by
  rcases hh with rfl | rfl | rfl | rfl <;> exact zC_of ok_Ho_hasRoom (by decide +kernel) (Nat.le_of_ble_eq_true rfl) rfl (Or.inr (Or.inr (Or.inl rfl))) (zent_ok ok_Ho_hasRoom (cuts := []) (f := 15) (zlt (fun c2 => (And.intro (Or.inl rfl) (hS.1 c2))) (fun c2 => (And.intro rfl (zge (fun c1 => (And.intro (Or.inl rfl) ((hS.2 c2).1 c1))) (fun c1 => (And.intro (Or.inr rfl) ((hS.2 c2).2 c1))))))))
theorem v_Ho_setWalled {d : Nat} {h : Nat} {a1 a2 : Int} {mem : zMem} {Q : Int → zMem → Prop} (hh : zHo h) (hS : ∀ x1 : Int, x1 = zshl 1 a1 → ((a2 = 0 → ∀ m1 : zMem, m1 = zup mem h 3 (zand (mem h 3) (zxor x1 (-1))) → ((0 ≤ a1 ∧ a1 < 14) ∧ ((0 ≤ m1 (h + 1) a1.toNat ∧ m1 (h + 1) a1.toNat < 10) ∧ ((0 ≤ m1 (h + 1) a1.toNat ∧ m1 (h + 1) a1.toNat < 10) ∧ ∀ m2 : zMem, m2 = zup m1 (h + 4) (m1 (h + 1) a1.toNat).toNat (zor (m1 (h + 4) (m1 (h + 1) a1.toNat).toNat) x1) → ((0 ≤ a1 ∧ a1 < 14) ∧ ((0 ≤ m2 (h + 2) a1.toNat ∧ m2 (h + 2) a1.toNat < 10) ∧ ((0 ≤ m2 (h + 2) a1.toNat ∧ m2 (h + 2) a1.toNat < 10) ∧ ∀ m3 : zMem, m3 = zup m2 (h + 4) (m2 (h + 2) a1.toNat).toNat (zor (m2 (h + 4) (m2 (h + 2) a1.toNat).toNat) x1) → Q 0 m3))))))) ∧ (a2 ≠ 0 → ∀ m4 : zMem, m4 = zup mem h 3 (zor (mem h 3) x1) → ((0 ≤ a1 ∧ a1 < 14) ∧ ((0 ≤ m4 (h + 1) a1.toNat ∧ m4 (h + 1) a1.toNat < 10) ∧ ((0 ≤ m4 (h + 1) a1.toNat ∧ m4 (h + 1) a1.toNat < 10) ∧ ∀ m5 : zMem, m5 = zup m4 (h + 4) (m4 (h + 1) a1.toNat).toNat (zand (m4 (h + 4) (m4 (h + 1) a1.toNat).toNat) (zxor x1 (-1))) → ((0 ≤ a1 ∧ a1 < 14) ∧ ((0 ≤ m5 (h + 2) a1.toNat ∧ m5 (h + 2) a1.toNat < 10) ∧ ((0 ≤ m5 (h + 2) a1.toNat ∧ m5 (h + 2) a1.toNat < 10) ∧ ∀ m6 : zMem, m6 = zup m5 (h + 4) (m5 (h + 2) a1.toNat).toNat (zand (m5 (h + 4) (m5 (h + 2) a1.toNat).toNat) (zxor x1 (-1))) → Q 0 m6))))))))) : zC (d + 1) K_Ho_setWalled [(2, Int.ofNat h), (0, a1), (0, a2)] mem Q := by
  rcases hh with rfl | rfl | rfl | rfl <;> exact zC_of ok_Ho_setWalled (by decide +kernel) (Nat.le_of_ble_eq_true rfl) rfl (Or.inl rfl) (zent_ok ok_Ho_setWalled (cuts := []) (f := 75) (fun x1 ex1 => (zeq (fun c2 => (And.intro rfl (And.intro rfl (fun m1 em1 => (And.intro rfl (And.intro rfl (And.intro (zbd rfl rfl (((hS x1 ex1).1 c2) m1 em1).1) (And.intro (zbd rfl rfl (((hS x1 ex1).1 c2) m1 em1).2.1) (And.intro (zbd rfl rfl (((hS x1 ex1).1 c2) m1 em1).2.2.1) (fun m2 em2 => (And.intro rfl (And.intro rfl (And.intro (zbd rfl rfl ((((hS x1 ex1).1 c2) m1 em1).2.2.2 m2 em2).1) (And.intro (zbd rfl rfl ((((hS x1 ex1).1 c2) m1 em1).2.2.2 m2 em2).2.1) (And.intro (zbd rfl rfl ((((hS x1 ex1).1 c2) m1 em1).2.2.2 m2 em2).2.2.1) (fun m3 em3 => (((((hS x1 ex1).1 c2) m1 em1).2.2.2 m2 em2).2.2.2 m3 em3))))))))))))))))) (fun c2 => (And.intro rfl (And.intro rfl (fun m4 em4 => (And.intro rfl (And.intro rfl (And.intro (zbd rfl rfl (((hS x1 ex1).2 c2) m4 em4).1) (And.intro (zbd rfl rfl (((hS x1 ex1).2 c2) m4 em4).2.1) (And.intro (zbd rfl rfl (((hS x1 ex1).2 c2) m4 em4).2.2.1) (fun m5 em5 => (And.intro rfl (And.intro rfl (And.intro (zbd rfl rfl ((((hS x1 ex1).2 c2) m4 em4).2.2.2 m5 em5).1) (And.intro (zbd rfl rfl ((((hS x1 ex1).2 c2) m4 em4).2.2.2 m5 em5).2.1) (And.intro (zbd rfl rfl ((((hS x1 ex1).2 c2) m4 em4).2.2.2 m5 em5).2.2.1) (fun m6 em6 => (((((hS x1 ex1).2 c2) m4 em4).2.2.2 m5 em5).2.2.2 m6 em6))))))))))))))))))))
theorem v_Pa_take {d : Nat} {p : Nat} {q : Nat} {mem : zMem} {Q : Int → zMem → Prop} (hpq : zPP p q) (hS : zC d K_Ho_take [(2, Int.ofNat (p + 1)), (2, Int.ofNat (q + 1))] mem (fun r1 m1 => ∀ m2 : zMem, m2 = zup m1 p 2 (m1 q 2) → zG (d + 1) M_Pa_take 21 [(2, Int.ofNat p), (2, Int.ofNat q), (0, 0)] [] m2 Q)) : zC (d + 1) K_Pa_take [(2, Int.ofNat p), (2, Int.ofNat q)] mem Q := by
  rcases hpq with ⟨rfl, rfl⟩ | ⟨rfl, rfl⟩ | ⟨rfl, rfl⟩ | ⟨rfl, rfl⟩ | ⟨rfl, rfl⟩ <;> exact zC_of ok_Pa_take (by decide +kernel) (Nat.le_of_ble_eq_true rfl) rfl (Or.inl rfl) (zent_ok ok_Pa_take (cuts := [21]) (f := 43) (And.intro rfl (And.intro rfl (And.intro rfl (zC.post hS (fun r1 m1 hr1 => (And.intro rfl (And.intro rfl (fun m2 em2 => (zall (hr1 m2 em2)))))))))))
theorem v_Pa_take_21 {d : Nat} {p : Nat} {q : Nat} {l2 : Int} {mem : zMem} {Q : Int → zMem → Prop} (hpq : zPP p q) (hS : ((5 ≤ l2 → ∀ m1 : zMem, m1 = zcp mem (q + 13) 0 (p + 13) 0 12 → ∀ m2 : zMem, m2 = zup m1 p 4 (m1 q 4) → Q 0 m2) ∧ (l2 < 5 → ((0 ≤ l2 ∧ l2 < 5) ∧ ((0 ≤ l2 ∧ l2 < 5) ∧ zC d K_Wa_take [(2, Int.ofNat (zrt (p + 7) l2.toNat)), (2, Int.ofNat (zrt (q + 7) l2.toNat))] mem (fun r1 m3 => ∀ x2 : Int, x2 = zadd l2 1 → zG (d + 1) M_Pa_take 21 [(2, Int.ofNat p), (2, Int.ofNat q), (0, x2)] [] m3 Q)))))) : zG (d + 1) M_Pa_take 21 [(2, Int.ofNat p), (2, Int.ofNat q), (0, l2)] [] mem Q := by
  rcases hpq with ⟨rfl, rfl⟩ | ⟨rfl, rfl⟩ | ⟨rfl, rfl⟩ | ⟨rfl, rfl⟩ | ⟨rfl, rfl⟩ <;> exact zent_ok ok_Pa_take (cuts := [21]) (f := 43) (zge (fun c3 => (And.intro rfl (And.intro rfl (And.intro ⟨rfl, rfl, by decide, by decide, by decide, zrb rfl (by decide), zrb rfl (by decide)⟩ (And.intro (Nat.succ_ne_zero _) (fun m1 em1 => (And.intro rfl (And.intro rfl (fun m2 em2 => (((hS.1 c3) m1 em1) m2 em2)))))))))) (fun c3 => (And.intro rfl (And.intro (zba (by decide) (by decide) rfl (hS.2 c3).1) (And.intro rfl (And.intro (zba (by decide) (by decide) rfl (hS.2 c3).2.1) (And.intro (zkw (by decide) (hS.2 c3).1) (zC.post (hS.2 c3).2.2 (fun r1 m3 hr1 => (fun x2 ex2 => (hr1 x2 ex2)))))))))))
theorem v_Ho_take {d : Nat} {h : Nat} {g : Nat} {mem : zMem} {Q : Int → zMem → Prop} (hhg : zHH h g) (hS : ∀ m1 : zMem, m1 = zup mem h 0 (mem g 0) → ∀ m2 : zMem, m2 = zup m1 h 1 (m1 g 1) → ∀ m3 : zMem, m3 = zup m2 h 2 (m2 g 2) → ∀ m4 : zMem, m4 = zup m3 h 3 (m3 g 3) → ∀ m5 : zMem, m5 = zcp m4 (g + 1) 0 (h + 1) 0 14 → ∀ m6 : zMem, m6 = zcp m5 (g + 2) 0 (h + 2) 0 14 → ∀ m7 : zMem, m7 = zcp m6 (g + 3) 0 (h + 3) 0 14 → ∀ m8 : zMem, m8 = zcp m7 (g + 4) 0 (h + 4) 0 10 → ∀ m9 : zMem, m9 = zcp m8 (g + 5) 0 (h + 5) 0 4 → Q 0 m9) : zC (d + 1) K_Ho_take [(2, Int.ofNat h), (2, Int.ofNat g)] mem Q := by
  rcases hhg with ⟨rfl, rfl⟩ | ⟨rfl, rfl⟩ | ⟨rfl, rfl⟩ | ⟨rfl, rfl⟩ | ⟨rfl, rfl⟩ <;> exact zC_of ok_Ho_take (by decide +kernel) (Nat.le_of_ble_eq_true rfl) rfl (Or.inl rfl) (zent_ok ok_Ho_take (cuts := []) (f := 62) (And.intro rfl (And.intro rfl (fun m1 em1 => (And.intro rfl (And.intro rfl (fun m2 em2 => (And.intro rfl (And.intro rfl (fun m3 em3 => (And.intro rfl (And.intro rfl (fun m4 em4 => (And.intro rfl (And.intro rfl (And.intro ⟨rfl, rfl, by decide, by decide, by decide, zrb rfl (by decide), zrb rfl (by decide)⟩ (And.intro (Nat.succ_ne_zero _) (fun m5 em5 => (And.intro rfl (And.intro rfl (And.intro ⟨rfl, rfl, by decide, by decide, by decide, zrb rfl (by decide), zrb rfl (by decide)⟩ (And.intro (Nat.succ_ne_zero _) (fun m6 em6 => (And.intro rfl (And.intro rfl (And.intro ⟨rfl, rfl, by decide, by decide, by decide, zrb rfl (by decide), zrb rfl (by decide)⟩ (And.intro (Nat.succ_ne_zero _) (fun m7 em7 => (And.intro rfl (And.intro rfl (And.intro ⟨rfl, rfl, by decide, by decide, by decide, zrb rfl (by decide), zrb rfl (by decide)⟩ (And.intro (Nat.succ_ne_zero _) (fun m8 em8 => (And.intro rfl (And.intro rfl (And.intro ⟨rfl, rfl, by decide, by decide, by decide, zrb rfl (by decide), zrb rfl (by decide)⟩ (And.intro (Nat.succ_ne_zero _) (fun m9 em9 => (((((((((hS m1 em1) m2 em2) m3 em3) m4 em4) m5 em5) m6 em6) m7 em7) m8 em8) m9 em9)))))))))))))))))))))))))))))))))))))))
theorem v_Wa_take {d : Nat} {w : Nat} {u : Nat} {mem : zMem} {Q : Int → zMem → Prop} (hw : zkd w = 9) (hu : zkd u = 9) (hS : ∀ m1 : zMem, m1 = zup mem w 0 (mem u 0) → ∀ m2 : zMem, m2 = zup m1 w 1 (m1 u 1) → ∀ m3 : zMem, m3 = zup m2 w 2 (m2 u 2) → Q 0 m3) : zC (d + 1) K_Wa_take [(2, Int.ofNat w), (2, Int.ofNat u)] mem Q := by
  exact zC_of ok_Wa_take (by decide +kernel) (Nat.le_of_ble_eq_true rfl) rfl (Or.inl rfl) (zent_ok ok_Wa_take (cuts := []) (f := 18) (And.intro hu (And.intro hw (fun m1 em1 => (And.intro hu (And.intro hw (fun m2 em2 => (And.intro hu (And.intro hw (fun m3 em3 => (((hS m1 em1) m2 em2) m3 em3)))))))))))
theorem v_Ho_hasDoor {d : Nat} {h : Nat} {a1 : Int} {mem : zMem} {Q : Int → zMem → Prop} (hh : zHo h) (hS : ((a1 < 0 → Q 0 mem) ∧ (0 ≤ a1 → ((mem h 2 ≤ a1 → Q 0 mem) ∧ (a1 < mem h 2 → Q 1 mem))))) : zC (d + 1) K_Ho_hasDoor [(2, Int.ofNat h), (0, a1)] mem Q := by
  rcases hh with rfl | rfl | rfl | rfl <;> exact zC_of ok_Ho_hasDoor (by decide +kernel) (Nat.le_of_ble_eq_true rfl) rfl (Or.inr (Or.inr (Or.inl rfl))) (zent_ok ok_Ho_hasDoor (cuts := []) (f := 15) (zlt (fun c2 => (And.intro (Or.inl rfl) (hS.1 c2))) (fun c2 => (And.intro rfl (zge (fun c1 => (And.intro (Or.inl rfl) ((hS.2 c2).1 c1))) (fun c1 => (And.intro (Or.inr rfl) ((hS.2 c2).2 c1))))))))
theorem v_Ho_isWalled {d : Nat} {h : Nat} {a1 : Int} {mem : zMem} {Q : Int → zMem → Prop} (hh : zHo h) (hS : ((zand (zshr (mem h 3) a1) 1 = 0 → Q 0 mem) ∧ (zand (zshr (mem h 3) a1) 1 ≠ 0 → Q 1 mem))) : zC (d + 1) K_Ho_isWalled [(2, Int.ofNat h), (0, a1)] mem Q := by
  rcases hh with rfl | rfl | rfl | rfl <;> exact zC_of ok_Ho_isWalled (by decide +kernel) (Nat.le_of_ble_eq_true rfl) rfl (Or.inr (Or.inr (Or.inl rfl))) (zent_ok ok_Ho_isWalled (cuts := []) (f := 16) (And.intro rfl (zeq (fun c1 => (And.intro (Or.inl rfl) (hS.1 c1))) (fun c1 => (And.intro (Or.inr rfl) (hS.2 c1))))))
theorem v_Pa_hasOne {d : Nat} {p : Nat} {a1 : Int} {mem : zMem} {Q : Int → zMem → Prop} (hp : zPa p) (hS : ((a1 < 0 → Q 0 mem) ∧ (0 ≤ a1 → ((mem p 2 ≤ a1 → Q 0 mem) ∧ (a1 < mem p 2 → Q 1 mem))))) : zC (d + 1) K_Pa_hasOne [(2, Int.ofNat p), (0, a1)] mem Q := by
  rcases hp with rfl | rfl | rfl | rfl <;> exact zC_of ok_Pa_hasOne (by decide +kernel) (Nat.le_of_ble_eq_true rfl) rfl (Or.inr (Or.inr (Or.inl rfl))) (zent_ok ok_Pa_hasOne (cuts := []) (f := 15) (zlt (fun c2 => (And.intro (Or.inl rfl) (hS.1 c2))) (fun c2 => (And.intro rfl (zge (fun c1 => (And.intro (Or.inl rfl) ((hS.2 c2).1 c1))) (fun c1 => (And.intro (Or.inr rfl) ((hS.2 c2).2 c1))))))))
theorem v_Wa_choices {d : Nat} {w : Nat} {mem : zMem} {Q : Int → zMem → Prop} (hw : zkd w = 9) (hS : zC d K_Ho_choices [(2, Int.ofNat 2), (0, mem w 0), (0, mem w 1), (0, mem w 2)] mem (fun r1 m1 => Q r1 m1)) : zC (d + 1) K_Wa_choices [(2, Int.ofNat w), (2, Int.ofNat 2)] mem Q := by
  exact zC_of ok_Wa_choices (by decide +kernel) (Nat.le_of_ble_eq_true rfl) rfl (Or.inr (Or.inl rfl)) (zent_ok ok_Wa_choices (cuts := []) (f := 14) (And.intro hw (And.intro hw (And.intro hw (And.intro rfl (zC.post hS (fun r1 m1 hr1 => hr1)))))))
theorem v_Ho_choices {d : Nat} {h : Nat} {a1 a2 a3 : Int} {mem : zMem} {Q : Int → zMem → Prop} (hh : zHo h) (hS : ((0 ≤ a1 ∧ a1 < 10) ∧ ∀ x1 : Int, x1 = mem (h + 4) a1.toNat → ((a2 = -1 → Q x1 mem) ∧ (a2 ≠ -1 → ((mem h 1 ≠ 3 → ((mem h 1 ≠ 2 → ∀ x2 : Int, x2 = zand x1 (zxor (zshl 1 a2) (-1)) → ((mem h 1 ≠ 1 → Q x2 mem) ∧ (mem h 1 = 1 → ((a3 = -1 → Q x2 mem) ∧ (a3 ≠ -1 → Q (zand x2 (zxor (zshl 1 a3) (-1))) mem))))) ∧ (mem h 1 = 2 → ((0 ≤ a2 ∧ a2 < 14) ∧ ((0 ≤ mem (h + 3) a2.toNat ∧ mem (h + 3) a2.toNat < 4) ∧ Q (zand x1 (zxor (mem (h + 5) (mem (h + 3) a2.toNat).toNat) (-1))) mem))))) ∧ (mem h 1 = 3 → Q x1 mem)))))) : zC (d + 1) K_Ho_choices [(2, Int.ofNat h), (0, a1), (0, a2), (0, a3)] mem Q := by
  rcases hh with rfl | rfl | rfl | rfl <;> exact zC_of ok_Ho_choices (by decide +kernel) (Nat.le_of_ble_eq_true rfl) rfl (Or.inr (Or.inl rfl)) (zent_ok ok_Ho_choices (cuts := []) (f := 60) (And.intro rfl (And.intro (zbd rfl rfl hS.1) (fun x1 ex1 => (zeq (fun c7 => ((hS.2 x1 ex1).1 c7)) (fun c7 => (And.intro rfl (zne (fun c6 => (And.intro rfl (zne (fun c5 => (fun x2 ex2 => (And.intro rfl (zne (fun c4 => ((((((hS.2 x1 ex1).2 c7).1 c6).1 c5) x2 ex2).1 c4)) (fun c4 => (zeq (fun c3 => (((((((hS.2 x1 ex1).2 c7).1 c6).1 c5) x2 ex2).2 c4).1 c3)) (fun c3 => (((((((hS.2 x1 ex1).2 c7).1 c6).1 c5) x2 ex2).2 c4).2 c3)))))))) (fun c5 => (And.intro rfl (And.intro rfl (And.intro (zbd rfl rfl ((((hS.2 x1 ex1).2 c7).1 c6).2 c5).1) (And.intro (zbd rfl rfl ((((hS.2 x1 ex1).2 c7).1 c6).2 c5).2.1) ((((hS.2 x1 ex1).2 c7).1 c6).2 c5).2.2)))))))) (fun c6 => (((hS.2 x1 ex1).2 c7).2 c6))))))))))
theorem v_Wa_step {d : Nat} {w : Nat} {a2 : Int} {mem : zMem} {Q : Int → zMem → Prop} (hw : zkd w = 9) (hS : zC d K_Ho_hasDoor [(2, Int.ofNat 2), (0, a2)] mem (fun r1 m1 => ((r1 = 0 → Q 0 m1) ∧ (r1 ≠ 0 → zC d K_Wa_choices [(2, Int.ofNat w), (2, Int.ofNat 2)] m1 (fun r2 m2 => ((zand (zshr r2 a2) 1 ≠ 0 → zC d K_Ho_beyond [(2, Int.ofNat 2), (0, a2), (0, m2 w 0)] m2 (fun r3 m3 => ∀ m4 : zMem, m4 = zup m3 w 0 r3 → ∀ m5 : zMem, m5 = zup m4 w 2 (m4 w 1) → ∀ m6 : zMem, m6 = zup m5 w 1 a2 → Q 1 m6)) ∧ (zand (zshr r2 a2) 1 = 0 → Q 0 m2))))))) : zC (d + 1) K_Wa_step [(2, Int.ofNat w), (2, Int.ofNat 2), (0, a2)] mem Q := by
  exact zC_of ok_Wa_step (by decide +kernel) (Nat.le_of_ble_eq_true rfl) rfl (Or.inr (Or.inr (Or.inl rfl))) (zent_ok ok_Wa_step (cuts := []) (f := 35) (And.intro rfl (zC.post hS (fun r1 m1 hr1 => (zeq (fun c5 => (And.intro (Or.inl rfl) (hr1.1 c5))) (fun c5 => (And.intro hw (zC.post (hr1.2 c5) (fun r2 m2 hr2 => (zne (fun c4 => (And.intro hw (And.intro rfl (zC.post (hr2.1 c4) (fun r3 m3 hr3 => (And.intro hw (fun m4 em4 => (And.intro hw (And.intro hw (fun m5 em5 => (And.intro hw (fun m6 em6 => (And.intro (Or.inr rfl) (((hr3 m4 em4) m5 em5) m6 em6)))))))))))))) (fun c4 => (And.intro (Or.inl rfl) (hr2.2 c4)))))))))))))
theorem v_Ho_beyond {d : Nat} {h : Nat} {a1 a2 : Int} {mem : zMem} {Q : Int → zMem → Prop} (hh : zHo h) (hS : ((0 ≤ a1 ∧ a1 < 14) ∧ ((mem (h + 1) a1.toNat ≠ a2 → ((0 ≤ a1 ∧ a1 < 14) ∧ Q (mem (h + 1) a1.toNat) mem)) ∧ (mem (h + 1) a1.toNat = a2 → ((0 ≤ a1 ∧ a1 < 14) ∧ Q (mem (h + 2) a1.toNat) mem))))) : zC (d + 1) K_Ho_beyond [(2, Int.ofNat h), (0, a1), (0, a2)] mem Q := by
  rcases hh with rfl | rfl | rfl | rfl <;> exact zC_of ok_Ho_beyond (by decide +kernel) (Nat.le_of_ble_eq_true rfl) rfl (Or.inr (Or.inl rfl)) (zent_ok ok_Ho_beyond (cuts := []) (f := 21) (And.intro rfl (And.intro (zbd rfl rfl hS.1) (zne (fun c1 => (And.intro rfl (And.intro (zbd rfl rfl (hS.2.1 c1).1) (hS.2.1 c1).2))) (fun c1 => (And.intro rfl (And.intro (zbd rfl rfl (hS.2.2 c1).1) (hS.2.2 c1).2)))))))
theorem v_Wy_leastTo {d : Nat} {w : Nat} {a3 : Int} {mem : zMem} {Q : Int → zMem → Prop} (hw : zkd w = 9) (hS : zC d K_Wy_begin [(2, Int.ofNat 70), (2, Int.ofNat 2), (2, Int.ofNat w)] mem (fun r1 m1 => zG (d + 1) M_Wy_leastTo 9 [(2, Int.ofNat 70), (2, Int.ofNat 2), (9, 0), (0, a3), (0, 0)] [] m1 Q)) : zC (d + 1) K_Wy_leastTo [(2, Int.ofNat 70), (2, Int.ofNat 2), (2, Int.ofNat w), (0, a3)] mem Q := by
  exact zC_of ok_Wy_leastTo (by decide +kernel) (Nat.le_of_ble_eq_true rfl) rfl (Or.inr (Or.inl rfl)) (zent_ok ok_Wy_leastTo (cuts := [9]) (f := 37) (And.intro rfl (zC.post hS (fun r1 m1 hr1 => (zall (zG.mask [true, true, false, true, true] hr1))))))
theorem v_Wy_leastTo_9 {d : Nat} {w : Nat} {l3 l4 : Int} {mem : zMem} {Q : Int → zMem → Prop} (hw : zkd w = 9) (hS : ((mem 70 6 ≤ l4 → Q (-4) mem) ∧ (l4 < mem 70 6 → ((0 ≤ l4 ∧ l4 < 421) ∧ ((mem 71 l4.toNat ≠ l3 → zC d K_Wy_spread [(2, Int.ofNat 70), (2, Int.ofNat 2), (0, l4)] mem (fun r1 m1 => ∀ x2 : Int, x2 = zadd l4 1 → zG (d + 1) M_Wy_leastTo 9 [(2, Int.ofNat 70), (2, Int.ofNat 2), (9, 0), (0, l3), (0, x2)] [] m1 Q)) ∧ (mem 71 l4.toNat = l3 → ∀ m2 : zMem, m2 = zup mem 70 7 l4 → ((0 ≤ l4 ∧ l4 < 421) ∧ Q (m2 75 l4.toNat) m2))))))) : zG (d + 1) M_Wy_leastTo 9 [(2, Int.ofNat 70), (2, Int.ofNat 2), (9, 0), (0, l3), (0, l4)] [] mem Q := by
  exact zent_ok ok_Wy_leastTo (cuts := [9]) (f := 37) (And.intro rfl (zge (fun c4 => (hS.1 c4)) (fun c4 => (And.intro rfl (And.intro (zbd rfl rfl (hS.2 c4).1) (zne (fun c3 => (And.intro rfl (zC.post ((hS.2 c4).2.1 c3) (fun r1 m1 hr1 => (fun x2 ex2 => (hr1 x2 ex2)))))) (fun c3 => (And.intro rfl (fun m2 em2 => (And.intro rfl (And.intro (zbd rfl rfl (((hS.2 c4).2.2 c3) m2 em2).1) (((hS.2 c4).2.2 c3) m2 em2).2)))))))))))
theorem v_Wy_begin {d : Nat} {w : Nat} {mem : zMem} {Q : Int → zMem → Prop} (hw : zkd w = 9) (hS : zC d K_Jd_fill [(2, Int.ofNat 76), (0, 0)] mem (fun r1 m1 => ∀ m2 : zMem, m2 = zup m1 70 6 1 → ∀ m3 : zMem, m3 = zup m2 71 0 (m2 w 0) → ∀ m4 : zMem, m4 = zup m3 72 0 (m3 w 1) → ((m4 2 1 ≠ 1 → ∀ m5 : zMem, m5 = zup m4 73 0 (-1) → ∀ m6 : zMem, m6 = zup m5 74 0 0 → ∀ m7 : zMem, m7 = zup m6 75 0 0 → ((m7 w 1 = -1 → Q 0 m7) ∧ (m7 w 1 ≠ -1 → zC d K_Ho_sideAt [(2, Int.ofNat 2), (0, m7 w 1), (0, m7 w 0)] m7 (fun r2 m8 => ((0 ≤ r2 ∧ r2 < 28) ∧ ((0 ≤ r2 ∧ r2 < 28) ∧ ∀ m9 : zMem, m9 = zup m8 76 r2.toNat (zor (m8 76 r2.toNat) (zshl 1 (zadd (m8 73 0) 1))) → Q 0 m9)))))) ∧ (m4 2 1 = 1 → ∀ m10 : zMem, m10 = zup m4 73 0 (m4 w 2) → ∀ m11 : zMem, m11 = zup m10 74 0 0 → ∀ m12 : zMem, m12 = zup m11 75 0 0 → ((m12 w 1 = -1 → Q 0 m12) ∧ (m12 w 1 ≠ -1 → zC d K_Ho_sideAt [(2, Int.ofNat 2), (0, m12 w 1), (0, m12 w 0)] m12 (fun r4 m13 => ((0 ≤ r4 ∧ r4 < 28) ∧ ((0 ≤ r4 ∧ r4 < 28) ∧ ∀ m14 : zMem, m14 = zup m13 76 r4.toNat (zor (m13 76 r4.toNat) (zshl 1 (zadd (m13 73 0) 1))) → Q 0 m14))))))))) : zC (d + 1) K_Wy_begin [(2, Int.ofNat 70), (2, Int.ofNat 2), (2, Int.ofNat w)] mem Q := by
  exact zC_of ok_Wy_begin (by decide +kernel) (Nat.le_of_ble_eq_true rfl) rfl (Or.inl rfl) (zent_ok ok_Wy_begin (cuts := []) (f := 71) (And.intro rfl (zC.post hS (fun r1 m1 hr1 => (And.intro rfl (fun m2 em2 => (And.intro rfl (And.intro hw (And.intro (zbd rfl rfl (by decide)) (fun m3 em3 => (And.intro rfl (And.intro hw (And.intro (zbd rfl rfl (by decide)) (fun m4 em4 => (And.intro rfl (And.intro rfl (zne (fun c6 => (And.intro (zbd rfl rfl (by decide)) (fun m5 em5 => (And.intro rfl (And.intro (zbd rfl rfl (by decide)) (fun m6 em6 => (And.intro rfl (And.intro (zbd rfl rfl (by decide)) (fun m7 em7 => (And.intro hw (zeq (fun c3 => ((((((((hr1 m2 em2) m3 em3) m4 em4).1 c6) m5 em5) m6 em6) m7 em7).1 c3)) (fun c3 => (And.intro rfl (And.intro hw (And.intro hw (And.intro rfl (zC.post ((((((((hr1 m2 em2) m3 em3) m4 em4).1 c6) m5 em5) m6 em6) m7 em7).2 c3) (fun r2 m8 hr2 => (And.intro (zbd rfl rfl hr2.1) (And.intro rfl (And.intro (zbd rfl rfl (by decide)) (And.intro (zbd rfl rfl hr2.2.1) (fun m9 em9 => (hr2.2.2 m9 em9)))))))))))))))))))))))) (fun c6 => (And.intro hw (And.intro (zbd rfl rfl (by decide)) (fun m10 em10 => (And.intro rfl (And.intro (zbd rfl rfl (by decide)) (fun m11 em11 => (And.intro rfl (And.intro (zbd rfl rfl (by decide)) (fun m12 em12 => (And.intro hw (zeq (fun c5 => ((((((((hr1 m2 em2) m3 em3) m4 em4).2 c6) m10 em10) m11 em11) m12 em12).1 c5)) (fun c5 => (And.intro rfl (And.intro hw (And.intro hw (And.intro rfl (zC.post ((((((((hr1 m2 em2) m3 em3) m4 em4).2 c6) m10 em10) m11 em11) m12 em12).2 c5) (fun r4 m13 hr4 => (And.intro (zbd rfl rfl hr4.1) (And.intro rfl (And.intro (zbd rfl rfl (by decide)) (And.intro (zbd rfl rfl hr4.2.1) (fun m14 em14 => (hr4.2.2 m14 em14))))))))))))))))))))))))))))))))))))))))))
theorem v_Ho_sideAt {d : Nat} {h : Nat} {a1 a2 : Int} {mem : zMem} {Q : Int → zMem → Prop} (hh : zHo h) (hS : ((0 ≤ a1 ∧ a1 < 14) ∧ ((mem (h + 1) a1.toNat ≠ a2 → Q (zadd (zmul 2 a1) 1) mem) ∧ (mem (h + 1) a1.toNat = a2 → Q (zmul 2 a1) mem)))) : zC (d + 1) K_Ho_sideAt [(2, Int.ofNat h), (0, a1), (0, a2)] mem Q := by
  rcases hh with rfl | rfl | rfl | rfl <;> exact zC_of ok_Ho_sideAt (by decide +kernel) (Nat.le_of_ble_eq_true rfl) rfl (Or.inr (Or.inl rfl)) (zent_ok ok_Ho_sideAt (cuts := []) (f := 21) (And.intro rfl (And.intro (zbd rfl rfl hS.1) (zne (fun c1 => (hS.2.1 c1)) (fun c1 => (hS.2.2 c1))))))
theorem v_Wy_spread {d : Nat} {a2 : Int} {mem : zMem} {Q : Int → zMem → Prop}  (hS : ((0 ≤ a2 ∧ a2 < 421) ∧ ((0 ≤ a2 ∧ a2 < 421) ∧ ((0 ≤ a2 ∧ a2 < 421) ∧ zC d K_Ho_choices [(2, Int.ofNat 2), (0, mem 71 a2.toNat), (0, mem 72 a2.toNat), (0, mem 73 a2.toNat)] mem (fun r1 m1 => ((m1 2 1 ≠ 1 → ∀ x2 : Int, x2 = zshl 1 (zadd (-1) 1) → zG (d + 1) M_Wy_spread 54 [(2, Int.ofNat 70), (2, Int.ofNat 2), (0, a2), (0, r1), (0, -1), (0, x2), (0, 0), (9, 0)] [] m1 Q) ∧ (m1 2 1 = 1 → ((0 ≤ a2 ∧ a2 < 421) ∧ ∀ x3 : Int, x3 = m1 72 a2.toNat → ∀ x4 : Int, x4 = zshl 1 (zadd x3 1) → zG (d + 1) M_Wy_spread 54 [(2, Int.ofNat 70), (2, Int.ofNat 2), (0, a2), (0, r1), (0, x3), (0, x4), (0, 0), (9, 0)] [] m1 Q)))))))) : zC (d + 1) K_Wy_spread [(2, Int.ofNat 70), (2, Int.ofNat 2), (0, a2)] mem Q := by
  exact zC_of ok_Wy_spread (by decide +kernel) (Nat.le_of_ble_eq_true rfl) rfl (Or.inl rfl) (zent_ok ok_Wy_spread (cuts := [54]) (f := 127) (And.intro rfl (And.intro (zbd rfl rfl hS.1) (And.intro rfl (And.intro (zbd rfl rfl hS.2.1) (And.intro rfl (And.intro (zbd rfl rfl hS.2.2.1) (And.intro rfl (zC.post hS.2.2.2 (fun r1 m1 hr1 => (zall (And.intro rfl (zne (fun c5 => (zall (fun x2 ex2 => (zall ((hr1.1 c5) x2 ex2))))) (fun c5 => (And.intro rfl (And.intro (zbd rfl rfl (hr1.2 c5).1) (fun x3 ex3 => (fun x4 ex4 => (zall (((hr1.2 c5).2 x3 ex3) x4 ex4))))))))))))))))))))
theorem v_Wy_spread_54 {d : Nat} {l2 l3 l4 l5 l6 : Int} {mem : zMem} {Q : Int → zMem → Prop}  (hS : ((mem 2 2 ≤ l6 → Q 0 mem) ∧ (l6 < mem 2 2 → ((zand (zshr l3 l6) 1 ≠ 0 → ((0 ≤ l2 ∧ l2 < 421) ∧ zC d K_Ho_sideBeyond [(2, Int.ofNat 2), (0, l6), (0, mem 71 l2.toNat)] mem (fun r1 m1 => ((0 ≤ r1 ∧ r1 < 28) ∧ ((zand (m1 76 r1.toNat) l5 ≠ 0 → ∀ x2 : Int, x2 = zadd l6 1 → zG (d + 1) M_Wy_spread 54 [(2, Int.ofNat 70), (2, Int.ofNat 2), (0, l2), (0, l3), (0, l4), (0, l5), (0, x2), (9, 0)] [] m1 Q) ∧ (zand (m1 76 r1.toNat) l5 = 0 → ((421 ≤ m1 70 6 → ∀ x3 : Int, x3 = zadd l6 1 → zG (d + 1) M_Wy_spread 54 [(2, Int.ofNat 70), (2, Int.ofNat 2), (0, l2), (0, l3), (0, l4), (0, l5), (0, x3), (9, 0)] [] m1 Q) ∧ (m1 70 6 < 421 → ((0 ≤ r1 ∧ r1 < 28) ∧ ((0 ≤ r1 ∧ r1 < 28) ∧ ∀ m2 : zMem, m2 = zup m1 76 r1.toNat (zor (m1 76 r1.toNat) l5) → ((0 ≤ l2 ∧ l2 < 421) ∧ zC d K_Ho_beyond [(2, Int.ofNat 2), (0, l6), (0, m2 71 l2.toNat)] m2 (fun r4 m3 => ((0 ≤ m2 70 6 ∧ m2 70 6 < 421) ∧ ∀ m4 : zMem, m4 = zup m3 71 (m2 70 6).toNat r4 → ((0 ≤ m4 70 6 ∧ m4 70 6 < 421) ∧ ∀ m5 : zMem, m5 = zup m4 72 (m4 70 6).toNat l6 → ((0 ≤ m5 70 6 ∧ m5 70 6 < 421) ∧ ∀ m6 : zMem, m6 = zup m5 73 (m5 70 6).toNat l4 → ((0 ≤ m6 70 6 ∧ m6 70 6 < 421) ∧ ∀ m7 : zMem, m7 = zup m6 74 (m6 70 6).toNat l2 → ((0 ≤ l2 ∧ l2 < 421) ∧ ((0 ≤ m7 70 6 ∧ m7 70 6 < 421) ∧ ∀ m8 : zMem, m8 = zup m7 75 (m7 70 6).toNat (zadd (m7 75 l2.toNat) 1) → ∀ m9 : zMem, m9 = zup m8 70 6 (zadd (m8 70 6) 1) → ∀ x5 : Int, x5 = zadd l6 1 → zG (d + 1) M_Wy_spread 54 [(2, Int.ofNat 70), (2, Int.ofNat 2), (0, l2), (0, l3), (0, l4), (0, l5), (0, x5), (9, 0)] [] m9 Q)))))))))))))))))) ∧ (zand (zshr l3 l6) 1 = 0 → ∀ x8 : Int, x8 = zadd l6 1 → zG (d + 1) M_Wy_spread 54 [(2, Int.ofNat 70), (2, Int.ofNat 2), (0, l2), (0, l3), (0, l4), (0, l5), (0, x8), (9, 0)] [] mem Q))))) : zG (d + 1) M_Wy_spread 54 [(2, Int.ofNat 70), (2, Int.ofNat 2), (0, l2), (0, l3), (0, l4), (0, l5), (0, l6), (9, 0)] [] mem Q := by
  exact zent_ok ok_Wy_spread (cuts := [54]) (f := 127) (And.intro rfl (zge (fun c10 => (hS.1 c10)) (fun c10 => (zne (fun c9 => (And.intro rfl (And.intro (zbd rfl rfl ((hS.2 c10).1 c9).1) (And.intro rfl (zC.post ((hS.2 c10).1 c9).2 (fun r1 m1 hr1 => (zall (And.intro rfl (And.intro (zbd rfl rfl hr1.1) (zne (fun c7 => (fun x2 ex2 => (zG.mask [true, true, true, true, true, true, true, false] ((hr1.2.1 c7) x2 ex2)))) (fun c7 => (And.intro rfl (zge (fun c6 => (fun x3 ex3 => (zG.mask [true, true, true, true, true, true, true, false] (((hr1.2.2 c7).1 c6) x3 ex3)))) (fun c6 => (And.intro rfl (And.intro (zbd rfl rfl ((hr1.2.2 c7).2 c6).1) (And.intro (zbd rfl rfl ((hr1.2.2 c7).2 c6).2.1) (fun m2 em2 => (And.intro rfl (And.intro rfl (And.intro rfl (And.intro (zbd rfl rfl (((hr1.2.2 c7).2 c6).2.2 m2 em2).1) (And.intro rfl (zC.post (((hr1.2.2 c7).2 c6).2.2 m2 em2).2 (fun r4 m3 hr4 => (And.intro (zbd rfl rfl hr4.1) (fun m4 em4 => (And.intro rfl (And.intro rfl (And.intro (zbd rfl rfl (hr4.2 m4 em4).1) (fun m5 em5 => (And.intro rfl (And.intro rfl (And.intro (zbd rfl rfl ((hr4.2 m4 em4).2 m5 em5).1) (fun m6 em6 => (And.intro rfl (And.intro rfl (And.intro (zbd rfl rfl (((hr4.2 m4 em4).2 m5 em5).2 m6 em6).1) (fun m7 em7 => (And.intro rfl (And.intro rfl (And.intro rfl (And.intro (zbd rfl rfl ((((hr4.2 m4 em4).2 m5 em5).2 m6 em6).2 m7 em7).1) (And.intro (zbd rfl rfl ((((hr4.2 m4 em4).2 m5 em5).2 m6 em6).2 m7 em7).2.1) (fun m8 em8 => (And.intro rfl (And.intro rfl (fun m9 em9 => (fun x5 ex5 => (zG.mask [true, true, true, true, true, true, true, false] (((((((hr4.2 m4 em4).2 m5 em5).2 m6 em6).2 m7 em7).2.2 m8 em8) m9 em9) x5 ex5))))))))))))))))))))))))))))))))))))))))))))))))))) (fun c9 => (fun x8 ex8 => (((hS.2 c10).2 c9) x8 ex8)))))))
theorem v_Ho_sideBeyond {d : Nat} {h : Nat} {a1 a2 : Int} {mem : zMem} {Q : Int → zMem → Prop} (hh : zHo h) (hS : ((0 ≤ a1 ∧ a1 < 14) ∧ ((mem (h + 1) a1.toNat ≠ a2 → Q (zmul 2 a1) mem) ∧ (mem (h + 1) a1.toNat = a2 → Q (zadd (zmul 2 a1) 1) mem)))) : zC (d + 1) K_Ho_sideBeyond [(2, Int.ofNat h), (0, a1), (0, a2)] mem Q := by
  rcases hh with rfl | rfl | rfl | rfl <;> exact zC_of ok_Ho_sideBeyond (by decide +kernel) (Nat.le_of_ble_eq_true rfl) rfl (Or.inr (Or.inl rfl)) (zent_ok ok_Ho_sideBeyond (cuts := []) (f := 21) (And.intro rfl (And.intro (zbd rfl rfl hS.1) (zne (fun c1 => (hS.2.1 c1)) (fun c1 => (hS.2.2 c1))))))
theorem v_Wy_stepOf {d : Nat} {a1 : Int} {mem : zMem} {Q : Int → zMem → Prop}  (hS : ∀ x1 : Int, x1 = mem 70 7 → ((0 ≤ mem 70 7 ∧ mem 70 7 < 421) ∧ ∀ x2 : Int, x2 = zsub (zsub (mem 75 (mem 70 7).toNat) 1) a1 → zG (d + 1) M_Wy_stepOf 19 [(2, Int.ofNat 70), (9, 0), (0, x1), (0, x2)] [] mem Q)) : zC (d + 1) K_Wy_stepOf [(2, Int.ofNat 70), (0, a1)] mem Q := by
  exact zC_of ok_Wy_stepOf (by decide +kernel) (Nat.le_of_ble_eq_true rfl) rfl (Or.inr (Or.inl rfl)) (zent_ok ok_Wy_stepOf (cuts := [19]) (f := 32) (And.intro rfl (fun x1 ex1 => (And.intro rfl (And.intro rfl (And.intro (zbd rfl rfl (hS x1 ex1).1) (fun x2 ex2 => (zG.mask [true, false, true, true] ((hS x1 ex1).2 x2 ex2)))))))))
theorem v_Wy_stepOf_19 {d : Nat} {l2 l3 : Int} {mem : zMem} {Q : Int → zMem → Prop}  (hS : ((l3 ≤ 0 → ((0 ≤ l2 ∧ l2 < 421) ∧ Q (mem 72 l2.toNat) mem)) ∧ (0 < l3 → ((0 ≤ l2 ∧ l2 < 421) ∧ ∀ x1 : Int, x1 = mem 74 l2.toNat → ∀ x2 : Int, x2 = zadd l3 (-1) → zG (d + 1) M_Wy_stepOf 19 [(2, Int.ofNat 70), (9, 0), (0, x1), (0, x2)] [] mem Q)))) : zG (d + 1) M_Wy_stepOf 19 [(2, Int.ofNat 70), (9, 0), (0, l2), (0, l3)] [] mem Q := by
  exact zent_ok ok_Wy_stepOf (cuts := [19]) (f := 32) (zle (fun c3 => (And.intro rfl (And.intro (zbd rfl rfl (hS.1 c3).1) (hS.1 c3).2))) (fun c3 => (And.intro rfl (And.intro (zbd rfl rfl (hS.2 c3).1) (fun x1 ex1 => (fun x2 ex2 => (((hS.2 c3).2 x1 ex1) x2 ex2)))))))
theorem v_Wy_roomsOf {d : Nat} {w : Nat} {mem : zMem} {Q : Int → zMem → Prop} (hw : zkd w = 9) (hS : zC d K_Wy_begin [(2, Int.ofNat 70), (2, Int.ofNat 2), (2, Int.ofNat w)] mem (fun r1 m1 => zG (d + 1) M_Wy_roomsOf 11 [(2, Int.ofNat 70), (2, Int.ofNat 2), (9, 0), (0, 0), (0, 0)] [] m1 Q)) : zC (d + 1) K_Wy_roomsOf [(2, Int.ofNat 70), (2, Int.ofNat 2), (2, Int.ofNat w)] mem Q := by
  exact zC_of ok_Wy_roomsOf (by decide +kernel) (Nat.le_of_ble_eq_true rfl) rfl (Or.inr (Or.inl rfl)) (zent_ok ok_Wy_roomsOf (cuts := [11]) (f := 34) (zall (And.intro rfl (zC.post hS (fun r1 m1 hr1 => (zall (zG.mask [true, true, false, true, true] hr1)))))))
theorem v_Wy_roomsOf_11 {d : Nat} {w : Nat} {l3 l4 : Int} {mem : zMem} {Q : Int → zMem → Prop} (hw : zkd w = 9) (hS : ((mem 70 6 ≤ l4 → Q l3 mem) ∧ (l4 < mem 70 6 → ((0 ≤ l4 ∧ l4 < 421) ∧ ∀ x1 : Int, x1 = zor l3 (zshl 1 (mem 71 l4.toNat)) → zC d K_Wy_spread [(2, Int.ofNat 70), (2, Int.ofNat 2), (0, l4)] mem (fun r2 m1 => ∀ x3 : Int, x3 = zadd l4 1 → zG (d + 1) M_Wy_roomsOf 11 [(2, Int.ofNat 70), (2, Int.ofNat 2), (9, 0), (0, x1), (0, x3)] [] m1 Q))))) : zG (d + 1) M_Wy_roomsOf 11 [(2, Int.ofNat 70), (2, Int.ofNat 2), (9, 0), (0, l3), (0, l4)] [] mem Q := by
  exact zent_ok ok_Wy_roomsOf (cuts := [11]) (f := 34) (And.intro rfl (zge (fun c4 => (hS.1 c4)) (fun c4 => (And.intro rfl (And.intro (zbd rfl rfl (hS.2 c4).1) (fun x1 ex1 => (And.intro rfl (zC.post ((hS.2 c4).2 x1 ex1) (fun r2 m1 hr2 => (fun x3 ex3 => (hr2 x3 ex3)))))))))))
theorem v_Bu_pairsOf {d : Nat}  {mem : zMem} {Q : Int → zMem → Prop}  (hS : zC d K_Bu_spreadNew [(2, Int.ofNat 112), (2, Int.ofNat 2)] mem (fun r1 m1 => zG (d + 1) M_Bu_pairsOf 9 [(2, Int.ofNat 112), (2, Int.ofNat 2), (0, 0), (0, 0)] [] m1 Q)) : zC (d + 1) K_Bu_pairsOf [(2, Int.ofNat 112), (2, Int.ofNat 2)] mem Q := by
  exact zC_of ok_Bu_pairsOf (by decide +kernel) (Nat.le_of_ble_eq_true rfl) rfl (Or.inr (Or.inl rfl)) (zent_ok ok_Bu_pairsOf (cuts := [9]) (f := 30) (And.intro rfl (zC.post hS (fun r1 m1 hr1 => (zall (zall hr1))))))
theorem v_Bu_pairsOf_9 {d : Nat} {l2 l3 : Int} {mem : zMem} {Q : Int → zMem → Prop}  (hS : ((mem 2 0 ≤ l3 → Q l2 mem) ∧ (l3 < mem 2 0 → zC d K_Bu_comersTo [(2, Int.ofNat 112), (0, l3), (0, -4)] mem (fun r1 m1 => zC d K_Jd_bitCount [(0, r1)] m1 (fun r2 m2 => ∀ x3 : Int, x3 = zadd l2 (zsub r2 1) → ∀ x4 : Int, x4 = zadd l3 1 → zG (d + 1) M_Bu_pairsOf 9 [(2, Int.ofNat 112), (2, Int.ofNat 2), (0, x3), (0, x4)] [] m2 Q))))) : zG (d + 1) M_Bu_pairsOf 9 [(2, Int.ofNat 112), (2, Int.ofNat 2), (0, l2), (0, l3)] [] mem Q := by
  exact zent_ok ok_Bu_pairsOf (cuts := [9]) (f := 30) (And.intro rfl (zge (fun c5 => (hS.1 c5)) (fun c5 => (And.intro rfl (zC.post (hS.2 c5) (fun r1 m1 hr1 => (zC.post hr1 (fun r2 m2 hr2 => (fun x3 ex3 => (fun x4 ex4 => ((hr2 x3 ex3) x4 ex4)))))))))))
theorem v_Bu_spreadNew {d : Nat}  {mem : zMem} {Q : Int → zMem → Prop}  (hS : zG (d + 1) M_Bu_spreadNew 2 [(2, Int.ofNat 112), (2, Int.ofNat 2), (0, 0), (9, 0), (9, 0)] [] mem Q) : zC (d + 1) K_Bu_spreadNew [(2, Int.ofNat 112), (2, Int.ofNat 2)] mem Q := by
  exact zC_of ok_Bu_spreadNew (by decide +kernel) (Nat.le_of_ble_eq_true rfl) rfl (Or.inl rfl) (zent_ok ok_Bu_spreadNew (cuts := [2, 27, 43]) (f := 74) (zall hS))
theorem v_Bu_spreadNew_2 {d : Nat} {l2 : Int} {mem : zMem} {Q : Int → zMem → Prop}  (hS : ((4 ≤ l2 → zG (d + 1) M_Bu_spreadNew 27 [(2, Int.ofNat 112), (2, Int.ofNat 2), (0, 1), (0, 0), (9, 0)] [] mem Q) ∧ (l2 < 4 → ((0 ≤ l2 ∧ l2 < 4) ∧ zC d K_Jd_fill [(2, Int.ofNat (zrt 113 l2.toNat)), (0, 0)] mem (fun r1 m1 => ∀ x2 : Int, x2 = zadd l2 1 → zG (d + 1) M_Bu_spreadNew 2 [(2, Int.ofNat 112), (2, Int.ofNat 2), (0, x2), (9, 0), (9, 0)] [] m1 Q))))) : zG (d + 1) M_Bu_spreadNew 2 [(2, Int.ofNat 112), (2, Int.ofNat 2), (0, l2), (9, 0), (9, 0)] [] mem Q := by
  exact zent_ok ok_Bu_spreadNew (cuts := [2, 27, 43]) (f := 74) (zge (fun c3 => (zall (zall (hS.1 c3)))) (fun c3 => (And.intro rfl (And.intro (zba (by decide) (by decide) rfl (hS.2 c3).1) (zC.post (hS.2 c3).2 (fun r1 m1 hr1 => (fun x2 ex2 => (hr1 x2 ex2))))))))
theorem v_Bu_spreadNew_27 {d : Nat} {l2 l3 : Int} {mem : zMem} {Q : Int → zMem → Prop}  (hS : ((400 < l3 → Q 0 mem) ∧ (l3 ≤ 400 → ((l2 = 0 → Q 0 mem) ∧ (l2 ≠ 0 → zG (d + 1) M_Bu_spreadNew 43 [(2, Int.ofNat 112), (2, Int.ofNat 2), (0, 0), (0, l3), (0, 0)] [] mem Q))))) : zG (d + 1) M_Bu_spreadNew 27 [(2, Int.ofNat 112), (2, Int.ofNat 2), (0, l2), (0, l3), (9, 0)] [] mem Q := by
  exact zent_ok ok_Bu_spreadNew (cuts := [2, 27, 43]) (f := 74) (zgt (fun c2 => (hS.1 c2)) (fun c2 => (zeq (fun c1 => ((hS.2 c2).1 c1)) (fun c1 => (zall (zall ((hS.2 c2).2 c1)))))))
theorem v_Bu_spreadNew_43 {d : Nat} {l2 l3 l4 : Int} {mem : zMem} {Q : Int → zMem → Prop}  (hS : ((mem 2 2 ≤ l4 → ∀ x1 : Int, x1 = zadd l3 1 → zG (d + 1) M_Bu_spreadNew 27 [(2, Int.ofNat 112), (2, Int.ofNat 2), (0, l2), (0, x1), (9, 0)] [] mem Q) ∧ (l4 < mem 2 2 → zC d K_Ho_isWalled [(2, Int.ofNat 2), (0, l4)] mem (fun r2 m1 => ((r2 ≠ 0 → ∀ x3 : Int, x3 = zadd l4 1 → zG (d + 1) M_Bu_spreadNew 43 [(2, Int.ofNat 112), (2, Int.ofNat 2), (0, l2), (0, l3), (0, x3)] [] m1 Q) ∧ (r2 = 0 → ((0 ≤ l4 ∧ l4 < 14) ∧ ((0 ≤ l4 ∧ l4 < 14) ∧ zC d K_Bu_enterBy [(2, Int.ofNat 112), (2, Int.ofNat 2), (0, l4), (0, m1 3 l4.toNat), (0, m1 4 l4.toNat)] m1 (fun r4 m2 => ∀ x5 : Int, x5 = zor l2 r4 → ((0 ≤ l4 ∧ l4 < 14) ∧ ((0 ≤ l4 ∧ l4 < 14) ∧ zC d K_Bu_enterBy [(2, Int.ofNat 112), (2, Int.ofNat 2), (0, l4), (0, m2 4 l4.toNat), (0, m2 3 l4.toNat)] m2 (fun r6 m3 => ∀ x7 : Int, x7 = zor x5 r6 → ∀ x8 : Int, x8 = zadd l4 1 → zG (d + 1) M_Bu_spreadNew 43 [(2, Int.ofNat 112), (2, Int.ofNat 2), (0, x7), (0, l3), (0, x8)] [] m3 Q)))))))))))) : zG (d + 1) M_Bu_spreadNew 43 [(2, Int.ofNat 112), (2, Int.ofNat 2), (0, l2), (0, l3), (0, l4)] [] mem Q := by
  exact zent_ok ok_Bu_spreadNew (cuts := [2, 27, 43]) (f := 74) (And.intro rfl (zge (fun c10 => (fun x1 ex1 => (zG.mask [true, true, true, true, false] ((hS.1 c10) x1 ex1)))) (fun c10 => (And.intro rfl (zC.post (hS.2 c10) (fun r2 m1 hr2 => (zne (fun c9 => (fun x3 ex3 => ((hr2.1 c9) x3 ex3))) (fun c9 => (And.intro rfl (And.intro (zbd rfl rfl (hr2.2 c9).1) (And.intro rfl (And.intro (zbd rfl rfl (hr2.2 c9).2.1) (And.intro rfl (zC.post (hr2.2 c9).2.2 (fun r4 m2 hr4 => (fun x5 ex5 => (And.intro rfl (And.intro (zbd rfl rfl (hr4 x5 ex5).1) (And.intro rfl (And.intro (zbd rfl rfl (hr4 x5 ex5).2.1) (And.intro rfl (zC.post (hr4 x5 ex5).2.2 (fun r6 m3 hr6 => (fun x7 ex7 => (fun x8 ex8 => ((hr6 x7 ex7) x8 ex8))))))))))))))))))))))))))
theorem v_Bu_enterBy {d : Nat} {a2 a3 a4 : Int} {mem : zMem} {Q : Int → zMem → Prop}  (hS : ((0 ≤ a2 ∧ a2 < 14) ∧ ∀ x1 : Int, x1 = mem 5 a2.toNat → ((mem 2 1 ≠ 2 → zC d K_Bu_comersTo [(2, Int.ofNat 112), (0, a3), (0, -4)] mem (fun r2 m1 => ((0 ≤ x1 ∧ x1 < 4) ∧ ((0 ≤ a4 ∧ a4 < 10) ∧ ∀ x3 : Int, x3 = zand r2 (zxor (m1 (zrt 113 x1.toNat) a4.toNat) (-1)) → ((0 ≤ x1 ∧ x1 < 4) ∧ ((0 ≤ a4 ∧ a4 < 10) ∧ ((0 ≤ a4 ∧ a4 < 10) ∧ ∀ m2 : zMem, m2 = zup m1 (zrt 113 x1.toNat) a4.toNat (zor (m1 (zrt 113 x1.toNat) a4.toNat) x3) → ((x3 = 0 → Q 0 m2) ∧ (x3 ≠ 0 → Q 1 m2))))))))) ∧ (mem 2 1 = 2 → zC d K_Bu_comersTo [(2, Int.ofNat 112), (0, a3), (0, x1)] mem (fun r5 m3 => ((0 ≤ x1 ∧ x1 < 4) ∧ ((0 ≤ a4 ∧ a4 < 10) ∧ ∀ x6 : Int, x6 = zand r5 (zxor (m3 (zrt 113 x1.toNat) a4.toNat) (-1)) → ((0 ≤ x1 ∧ x1 < 4) ∧ ((0 ≤ a4 ∧ a4 < 10) ∧ ((0 ≤ a4 ∧ a4 < 10) ∧ ∀ m4 : zMem, m4 = zup m3 (zrt 113 x1.toNat) a4.toNat (zor (m3 (zrt 113 x1.toNat) a4.toNat) x6) → ((x6 = 0 → Q 0 m4) ∧ (x6 ≠ 0 → Q 1 m4)))))))))))) : zC (d + 1) K_Bu_enterBy [(2, Int.ofNat 112), (2, Int.ofNat 2), (0, a2), (0, a3), (0, a4)] mem Q := by
  exact zC_of ok_Bu_enterBy (by decide +kernel) (Nat.le_of_ble_eq_true rfl) rfl (Or.inr (Or.inr (Or.inl rfl))) (zent_ok ok_Bu_enterBy (cuts := []) (f := 46) (And.intro rfl (And.intro (zbd rfl rfl hS.1) (fun x1 ex1 => (And.intro rfl (zne (fun c8 => (And.intro rfl (zC.post ((hS.2 x1 ex1).1 c8) (fun r2 m1 hr2 => (And.intro rfl (And.intro (zba (by decide) (by decide) rfl hr2.1) (And.intro (zbd (zkr_113 hr2.1) (zlr_113 hr2.1) hr2.2.1) (fun x3 ex3 => (And.intro rfl (And.intro (zba (by decide) (by decide) rfl (hr2.2.2 x3 ex3).1) (And.intro (zbd (zkr_113 (hr2.2.2 x3 ex3).1) (zlr_113 (hr2.2.2 x3 ex3).1) (hr2.2.2 x3 ex3).2.1) (And.intro (zbd (zkr_113 (hr2.2.2 x3 ex3).1) (zlr_113 (hr2.2.2 x3 ex3).1) (hr2.2.2 x3 ex3).2.2.1) (fun m2 em2 => (zeq (fun c4 => (And.intro (Or.inl rfl) (((hr2.2.2 x3 ex3).2.2.2 m2 em2).1 c4))) (fun c4 => (And.intro (Or.inr rfl) (((hr2.2.2 x3 ex3).2.2.2 m2 em2).2 c4))))))))))))))))) (fun c8 => (And.intro rfl (zC.post ((hS.2 x1 ex1).2 c8) (fun r5 m3 hr5 => (And.intro rfl (And.intro (zba (by decide) (by decide) rfl hr5.1) (And.intro (zbd (zkr_113 hr5.1) (zlr_113 hr5.1) hr5.2.1) (fun x6 ex6 => (And.intro rfl (And.intro (zba (by decide) (by decide) rfl (hr5.2.2 x6 ex6).1) (And.intro (zbd (zkr_113 (hr5.2.2 x6 ex6).1) (zlr_113 (hr5.2.2 x6 ex6).1) (hr5.2.2 x6 ex6).2.1) (And.intro (zbd (zkr_113 (hr5.2.2 x6 ex6).1) (zlr_113 (hr5.2.2 x6 ex6).1) (hr5.2.2 x6 ex6).2.2.1) (fun m4 em4 => (zeq (fun c7 => (And.intro (Or.inl rfl) (((hr5.2.2 x6 ex6).2.2.2 m4 em4).1 c7))) (fun c7 => (And.intro (Or.inr rfl) (((hr5.2.2 x6 ex6).2.2.2 m4 em4).2 c7)))))))))))))))))))))))
theorem v_Bu_comersTo {d : Nat} {a1 a2 : Int} {mem : zMem} {Q : Int → zMem → Prop}  (hS : ∀ x1 : Int, x1 = zshl 1 a1 → zG (d + 1) M_Bu_comersTo 7 [(2, Int.ofNat 112), (0, a1), (0, a2), (0, x1), (0, 0)] [] mem Q) : zC (d + 1) K_Bu_comersTo [(2, Int.ofNat 112), (0, a1), (0, a2)] mem Q := by
  exact zC_of ok_Bu_comersTo (by decide +kernel) (Nat.le_of_ble_eq_true rfl) rfl (Or.inr (Or.inl rfl)) (zent_ok ok_Bu_comersTo (cuts := [7]) (f := 32) (fun x1 ex1 => (zall (hS x1 ex1))))
theorem v_Bu_comersTo_7 {d : Nat} {l1 l2 l3 l4 : Int} {mem : zMem} {Q : Int → zMem → Prop}  (hS : ((4 ≤ l4 → Q l3 mem) ∧ (l4 < 4 → ((l4 ≠ l2 → ((0 ≤ l4 ∧ l4 < 4) ∧ ((0 ≤ l1 ∧ l1 < 10) ∧ ∀ x1 : Int, x1 = zor l3 (mem (zrt 113 l4.toNat) l1.toNat) → ∀ x2 : Int, x2 = zadd l4 1 → zG (d + 1) M_Bu_comersTo 7 [(2, Int.ofNat 112), (0, l1), (0, l2), (0, x1), (0, x2)] [] mem Q))) ∧ (l4 = l2 → ∀ x3 : Int, x3 = zor l3 0 → ∀ x4 : Int, x4 = zadd l4 1 → zG (d + 1) M_Bu_comersTo 7 [(2, Int.ofNat 112), (0, l1), (0, l2), (0, x3), (0, x4)] [] mem Q))))) : zG (d + 1) M_Bu_comersTo 7 [(2, Int.ofNat 112), (0, l1), (0, l2), (0, l3), (0, l4)] [] mem Q := by
  exact zent_ok ok_Bu_comersTo (cuts := [7]) (f := 32) (zge (fun c6 => (hS.1 c6)) (fun c6 => (zne (fun c5 => (And.intro rfl (And.intro (zba (by decide) (by decide) rfl ((hS.2 c6).1 c5).1) (And.intro (zbd (zkr_113 ((hS.2 c6).1 c5).1) (zlr_113 ((hS.2 c6).1 c5).1) ((hS.2 c6).1 c5).2.1) (fun x1 ex1 => (fun x2 ex2 => ((((hS.2 c6).1 c5).2.2 x1 ex1) x2 ex2))))))) (fun c5 => (fun x3 ex3 => (fun x4 ex4 => ((((hS.2 c6).2 c5) x3 ex3) x4 ex4)))))))
theorem v_Jd_bitCount {d : Nat} {a0 : Int} {mem : zMem} {Q : Int → zMem → Prop}  (hS : ∀ x1 : Int, x1 = zsub a0 (zand (zushr a0 1) 1431655765) → ∀ x2 : Int, x2 = zadd (zand x1 858993459) (zand (zushr x1 2) 858993459) → ∀ x3 : Int, x3 = zand (zadd x2 (zushr x2 4)) 252645135 → ∀ x4 : Int, x4 = zadd x3 (zushr x3 8) → ∀ x5 : Int, x5 = zadd x4 (zushr x4 16) → Q (zand x5 63) mem) : zC (d + 1) K_Jd_bitCount [(0, a0)] mem Q := by
  exact zC_of ok_Jd_bitCount (by decide +kernel) (Nat.le_of_ble_eq_true rfl) rfl (Or.inr (Or.inl rfl)) (zent_ok ok_Jd_bitCount (cuts := []) (f := 47) (fun x1 ex1 => (fun x2 ex2 => (fun x3 ex3 => (fun x4 ex4 => (fun x5 ex5 => (((((hS x1 ex1) x2 ex2) x3 ex3) x4 ex4) x5 ex5)))))))
theorem v_Ho_isForLife {d : Nat} {h : Nat} {a1 : Int} {mem : zMem} {Q : Int → zMem → Prop} (hh : zHo h) (hS : zG (d + 1) M_Ho_isForLife 2 [(2, Int.ofNat h), (0, a1), (0, 0)] [] mem Q) : zC (d + 1) K_Ho_isForLife [(2, Int.ofNat h), (0, a1)] mem Q := by
  rcases hh with rfl | rfl | rfl | rfl <;> exact zC_of ok_Ho_isForLife (by decide +kernel) (Nat.le_of_ble_eq_true rfl) rfl (Or.inr (Or.inr (Or.inl rfl))) (zent_ok ok_Ho_isForLife (cuts := [2]) (f := 32) (zall hS))
theorem v_Ho_isForLife_2 {d : Nat} {h : Nat} {l1 l2 : Int} {mem : zMem} {Q : Int → zMem → Prop} (hh : zHo h) (hS : ((mem h 2 ≤ l2 → Q 0 mem) ∧ (l2 < mem h 2 → ((0 ≤ l1 ∧ l1 < 10) ∧ ((zand (zshr (mem (h + 4) l1.toNat) l2) 1 = 0 → ∀ x1 : Int, x1 = zadd l2 1 → zG (d + 1) M_Ho_isForLife 2 [(2, Int.ofNat h), (0, l1), (0, x1)] [] mem Q) ∧ (zand (zshr (mem (h + 4) l1.toNat) l2) 1 ≠ 0 → zC d K_Ho_choices [(2, Int.ofNat h), (0, l1), (0, l2), (0, -1)] mem (fun r2 m1 => ((r2 ≠ 0 → ∀ x3 : Int, x3 = zadd l2 1 → zG (d + 1) M_Ho_isForLife 2 [(2, Int.ofNat h), (0, l1), (0, x3)] [] m1 Q) ∧ (r2 = 0 → Q 1 m1))))))))) : zG (d + 1) M_Ho_isForLife 2 [(2, Int.ofNat h), (0, l1), (0, l2)] [] mem Q := by
  rcases hh with rfl | rfl | rfl | rfl <;> exact zent_ok ok_Ho_isForLife (cuts := [2]) (f := 32) (And.intro rfl (zge (fun c6 => (And.intro (Or.inl rfl) (hS.1 c6))) (fun c6 => (And.intro rfl (And.intro (zbd rfl rfl (hS.2 c6).1) (zeq (fun c5 => (fun x1 ex1 => (((hS.2 c6).2.1 c5) x1 ex1))) (fun c5 => (And.intro rfl (zC.post ((hS.2 c6).2.2 c5) (fun r2 m1 hr2 => (zne (fun c4 => (fun x3 ex3 => ((hr2.1 c4) x3 ex3))) (fun c4 => (And.intro (Or.inr rfl) (hr2.2 c4))))))))))))))
theorem v_Ho_isOf {d : Nat} {h : Nat} {a1 a2 : Int} {mem : zMem} {Q : Int → zMem → Prop} (hh : zHo h) (hS : ((0 ≤ a1 ∧ a1 < 14) ∧ ((mem (h + 1) a1.toNat = a2 → Q 1 mem) ∧ (mem (h + 1) a1.toNat ≠ a2 → ((0 ≤ a1 ∧ a1 < 14) ∧ ((mem (h + 2) a1.toNat ≠ a2 → Q 0 mem) ∧ (mem (h + 2) a1.toNat = a2 → Q 1 mem))))))) : zC (d + 1) K_Ho_isOf [(2, Int.ofNat h), (0, a1), (0, a2)] mem Q := by
  rcases hh with rfl | rfl | rfl | rfl <;> exact zC_of ok_Ho_isOf (by decide +kernel) (Nat.le_of_ble_eq_true rfl) rfl (Or.inr (Or.inr (Or.inl rfl))) (zent_ok ok_Ho_isOf (cuts := []) (f := 21) (And.intro rfl (And.intro (zbd rfl rfl hS.1) (zeq (fun c2 => (And.intro (Or.inr rfl) (hS.2.1 c2))) (fun c2 => (And.intro rfl (And.intro (zbd rfl rfl (hS.2.2 c2).1) (zne (fun c1 => (And.intro (Or.inl rfl) ((hS.2.2 c2).2.1 c1))) (fun c1 => (And.intro (Or.inr rfl) ((hS.2.2 c2).2.2 c1)))))))))))
theorem v_Ho_losing {d : Nat} {h : Nat} {mem : zMem} {Q : Int → zMem → Prop} (hh : zHo h) (hS : zG (d + 1) M_Ho_losing 4 [(2, Int.ofNat h), (0, 0), (0, 0)] [] mem Q) : zC (d + 1) K_Ho_losing [(2, Int.ofNat h)] mem Q := by
  rcases hh with rfl | rfl | rfl | rfl <;> exact zC_of ok_Ho_losing (by decide +kernel) (Nat.le_of_ble_eq_true rfl) rfl (Or.inr (Or.inl rfl)) (zent_ok ok_Ho_losing (cuts := [4]) (f := 35) (zall (zall hS)))
theorem v_Ho_losing_4 {d : Nat} {h : Nat} {l1 l2 : Int} {mem : zMem} {Q : Int → zMem → Prop} (hh : zHo h) (hS : ((mem h 0 ≤ l2 → Q l1 mem) ∧ (l2 < mem h 0 → zC d K_Ho_isForLife [(2, Int.ofNat h), (0, l2)] mem (fun r1 m1 => ((r1 ≠ 0 → ∀ x2 : Int, x2 = zor l1 (zshl 1 l2) → ∀ x3 : Int, x3 = zadd l2 1 → zG (d + 1) M_Ho_losing 4 [(2, Int.ofNat h), (0, x2), (0, x3)] [] m1 Q) ∧ (r1 = 0 → ((m1 h 1 ≠ 1 → ∀ x4 : Int, x4 = zadd l2 1 → zG (d + 1) M_Ho_losing 4 [(2, Int.ofNat h), (0, l1), (0, x4)] [] m1 Q) ∧ (m1 h 1 = 1 → zC d K_Ho_losesBySecond [(2, Int.ofNat h), (0, l2)] m1 (fun r5 m2 => ((r5 = 0 → ∀ x6 : Int, x6 = zadd l2 1 → zG (d + 1) M_Ho_losing 4 [(2, Int.ofNat h), (0, l1), (0, x6)] [] m2 Q) ∧ (r5 ≠ 0 → ∀ x7 : Int, x7 = zor l1 (zshl 1 l2) → ∀ x8 : Int, x8 = zadd l2 1 → zG (d + 1) M_Ho_losing 4 [(2, Int.ofNat h), (0, x7), (0, x8)] [] m2 Q))))))))))) : zG (d + 1) M_Ho_losing 4 [(2, Int.ofNat h), (0, l1), (0, l2)] [] mem Q := by
  rcases hh with rfl | rfl | rfl | rfl <;> exact zent_ok ok_Ho_losing (cuts := [4]) (f := 35) (And.intro rfl (zge (fun c12 => (hS.1 c12)) (fun c12 => (And.intro rfl (zC.post (hS.2 c12) (fun r1 m1 hr1 => (zne (fun c11 => (fun x2 ex2 => (fun x3 ex3 => (((hr1.1 c11) x2 ex2) x3 ex3)))) (fun c11 => (And.intro rfl (zne (fun c10 => (fun x4 ex4 => (((hr1.2 c11).1 c10) x4 ex4))) (fun c10 => (And.intro rfl (zC.post ((hr1.2 c11).2 c10) (fun r5 m2 hr5 => (zeq (fun c9 => (fun x6 ex6 => ((hr5.1 c9) x6 ex6))) (fun c9 => (fun x7 ex7 => (fun x8 ex8 => (((hr5.2 c9) x7 ex7) x8 ex8)))))))))))))))))))
theorem v_Ho_losesBySecond {d : Nat} {h : Nat} {a1 : Int} {mem : zMem} {Q : Int → zMem → Prop} (hh : zHo h) (hS : zG (d + 1) M_Ho_losesBySecond 2 [(2, Int.ofNat h), (0, a1), (0, 0)] [] mem Q) : zC (d + 1) K_Ho_losesBySecond [(2, Int.ofNat h), (0, a1)] mem Q := by
  rcases hh with rfl | rfl | rfl | rfl <;> exact zC_of ok_Ho_losesBySecond (by decide +kernel) (Nat.le_of_ble_eq_true rfl) rfl (Or.inr (Or.inr (Or.inl rfl))) (zent_ok ok_Ho_losesBySecond (cuts := [2]) (f := 31) (zall hS))
theorem v_Ho_losesBySecond_2 {d : Nat} {h : Nat} {l1 l2 : Int} {mem : zMem} {Q : Int → zMem → Prop} (hh : zHo h) (hS : ((mem h 2 ≤ l2 → Q 0 mem) ∧ (l2 < mem h 2 → ((0 ≤ l1 ∧ l1 < 10) ∧ ((zand (zshr (mem (h + 4) l1.toNat) l2) 1 = 0 → ∀ x1 : Int, x1 = zadd l2 1 → zG (d + 1) M_Ho_losesBySecond 2 [(2, Int.ofNat h), (0, l1), (0, x1)] [] mem Q) ∧ (zand (zshr (mem (h + 4) l1.toNat) l2) 1 ≠ 0 → zC d K_Ho_losesBehind [(2, Int.ofNat h), (0, l1), (0, l2)] mem (fun r2 m1 => ((r2 = 0 → ∀ x3 : Int, x3 = zadd l2 1 → zG (d + 1) M_Ho_losesBySecond 2 [(2, Int.ofNat h), (0, l1), (0, x3)] [] m1 Q) ∧ (r2 ≠ 0 → Q 1 m1))))))))) : zG (d + 1) M_Ho_losesBySecond 2 [(2, Int.ofNat h), (0, l1), (0, l2)] [] mem Q := by
  rcases hh with rfl | rfl | rfl | rfl <;> exact zent_ok ok_Ho_losesBySecond (cuts := [2]) (f := 31) (And.intro rfl (zge (fun c6 => (And.intro (Or.inl rfl) (hS.1 c6))) (fun c6 => (And.intro rfl (And.intro (zbd rfl rfl (hS.2 c6).1) (zeq (fun c5 => (fun x1 ex1 => (((hS.2 c6).2.1 c5) x1 ex1))) (fun c5 => (And.intro rfl (zC.post ((hS.2 c6).2.2 c5) (fun r2 m1 hr2 => (zeq (fun c4 => (fun x3 ex3 => ((hr2.1 c4) x3 ex3))) (fun c4 => (And.intro (Or.inr rfl) (hr2.2 c4))))))))))))))
theorem v_Ho_losesBehind {d : Nat} {h : Nat} {a1 a2 : Int} {mem : zMem} {Q : Int → zMem → Prop} (hh : zHo h) (hS : zC d K_Ho_beyond [(2, Int.ofNat h), (0, a2), (0, a1)] mem (fun r1 m1 => ((0 ≤ r1 ∧ r1 < 10) ∧ ∀ x2 : Int, x2 = zand (m1 (h + 4) r1.toNat) (zxor (zshl 1 a2) (-1)) → zG (d + 1) M_Ho_losesBehind 21 [(2, Int.ofNat h), (0, a1), (0, a2), (0, x2), (0, 0)] [] m1 Q))) : zC (d + 1) K_Ho_losesBehind [(2, Int.ofNat h), (0, a1), (0, a2)] mem Q := by
  rcases hh with rfl | rfl | rfl | rfl <;> exact zC_of ok_Ho_losesBehind (by decide +kernel) (Nat.le_of_ble_eq_true rfl) rfl (Or.inr (Or.inr (Or.inl rfl))) (zent_ok ok_Ho_losesBehind (cuts := [21]) (f := 43) (And.intro rfl (And.intro rfl (zC.post hS (fun r1 m1 hr1 => (And.intro (zbd rfl rfl hr1.1) (fun x2 ex2 => (zall (hr1.2 x2 ex2)))))))))
theorem v_Ho_losesBehind_21 {d : Nat} {h : Nat} {l1 l2 l3 l4 : Int} {mem : zMem} {Q : Int → zMem → Prop} (hh : zHo h) (hS : ((mem h 2 ≤ l4 → Q 0 mem) ∧ (l4 < mem h 2 → ((zand (zshr l3 l4) 1 = 0 → ∀ x1 : Int, x1 = zadd l4 1 → zG (d + 1) M_Ho_losesBehind 21 [(2, Int.ofNat h), (0, l1), (0, l2), (0, l3), (0, x1)] [] mem Q) ∧ (zand (zshr l3 l4) 1 ≠ 0 → zC d K_Ho_choices [(2, Int.ofNat h), (0, l1), (0, l2), (0, l4)] mem (fun r2 m1 => ((r2 ≠ 0 → ∀ x3 : Int, x3 = zadd l4 1 → zG (d + 1) M_Ho_losesBehind 21 [(2, Int.ofNat h), (0, l1), (0, l2), (0, l3), (0, x3)] [] m1 Q) ∧ (r2 = 0 → Q 1 m1)))))))) : zG (d + 1) M_Ho_losesBehind 21 [(2, Int.ofNat h), (0, l1), (0, l2), (0, l3), (0, l4)] [] mem Q := by
  rcases hh with rfl | rfl | rfl | rfl <;> exact zent_ok ok_Ho_losesBehind (cuts := [21]) (f := 43) (And.intro rfl (zge (fun c6 => (And.intro (Or.inl rfl) (hS.1 c6))) (fun c6 => (zeq (fun c5 => (fun x1 ex1 => (((hS.2 c6).1 c5) x1 ex1))) (fun c5 => (And.intro rfl (zC.post ((hS.2 c6).2 c5) (fun r2 m1 hr2 => (zne (fun c4 => (fun x3 ex3 => ((hr2.1 c4) x3 ex3))) (fun c4 => (And.intro (Or.inr rfl) (hr2.2 c4))))))))))))
theorem v_Ro_least {d : Nat} {w : Nat} {a3 : Int} {mem : zMem} {Q : Int → zMem → Prop} (hw : zkd w = 9) (hS : zC d K_Ro_begin [(2, Int.ofNat 77), (0, mem w 0), (0, a3)] mem (fun r1 m1 => ((0 ≤ m1 77 5 ∧ m1 77 5 < 10) ∧ ((0 ≤ m1 78 (m1 77 5).toNat → ((0 ≤ m1 77 5 ∧ m1 77 5 < 10) ∧ ∀ x2 : Int, x2 = zshl 1 (m1 78 (m1 77 5).toNat) → ((x2 ≠ m1 77 6 → ((m1 2 1 ≠ 1 → ((m1 w 1 ≠ -1 → zC d K_Ho_sideAt [(2, Int.ofNat 2), (0, m1 w 1), (0, m1 77 5)] m1 (fun r3 m2 => zG (d + 1) M_Ro_least 101 [(2, Int.ofNat 77), (2, Int.ofNat 2), (9, 0), (9, 0), (0, x2), (9, 0), (9, 0), (9, 0)] [(0, zadd (zadd (zmul r3 15) (-1)) 1)] m2 Q)) ∧ (m1 w 1 = -1 → zG (d + 1) M_Ro_least 101 [(2, Int.ofNat 77), (2, Int.ofNat 2), (9, 0), (9, 0), (0, x2), (9, 0), (9, 0), (9, 0)] [(0, 420)] m1 Q))) ∧ (m1 2 1 = 1 → ∀ x5 : Int, x5 = m1 w 2 → ((m1 w 1 ≠ -1 → zC d K_Ho_sideAt [(2, Int.ofNat 2), (0, m1 w 1), (0, m1 77 5)] m1 (fun r6 m3 => zG (d + 1) M_Ro_least 101 [(2, Int.ofNat 77), (2, Int.ofNat 2), (9, 0), (9, 0), (0, x2), (9, 0), (9, 0), (9, 0)] [(0, zadd (zadd (zmul r6 15) x5) 1)] m3 Q)) ∧ (m1 w 1 = -1 → zG (d + 1) M_Ro_least 101 [(2, Int.ofNat 77), (2, Int.ofNat 2), (9, 0), (9, 0), (0, x2), (9, 0), (9, 0), (9, 0)] [(0, 420)] m1 Q))))) ∧ (x2 = m1 77 6 → Q 0 m1)))) ∧ (m1 78 (m1 77 5).toNat < 0 → ((0 ≠ m1 77 6 → ((m1 2 1 ≠ 1 → ((m1 w 1 ≠ -1 → zC d K_Ho_sideAt [(2, Int.ofNat 2), (0, m1 w 1), (0, m1 77 5)] m1 (fun r10 m4 => zG (d + 1) M_Ro_least 101 [(2, Int.ofNat 77), (2, Int.ofNat 2), (9, 0), (9, 0), (0, 0), (9, 0), (9, 0), (9, 0)] [(0, zadd (zadd (zmul r10 15) (-1)) 1)] m4 Q)) ∧ (m1 w 1 = -1 → zG (d + 1) M_Ro_least 101 [(2, Int.ofNat 77), (2, Int.ofNat 2), (9, 0), (9, 0), (0, 0), (9, 0), (9, 0), (9, 0)] [(0, 420)] m1 Q))) ∧ (m1 2 1 = 1 → ∀ x12 : Int, x12 = m1 w 2 → ((m1 w 1 ≠ -1 → zC d K_Ho_sideAt [(2, Int.ofNat 2), (0, m1 w 1), (0, m1 77 5)] m1 (fun r13 m5 => zG (d + 1) M_Ro_least 101 [(2, Int.ofNat 77), (2, Int.ofNat 2), (9, 0), (9, 0), (0, 0), (9, 0), (9, 0), (9, 0)] [(0, zadd (zadd (zmul r13 15) x12) 1)] m5 Q)) ∧ (m1 w 1 = -1 → zG (d + 1) M_Ro_least 101 [(2, Int.ofNat 77), (2, Int.ofNat 2), (9, 0), (9, 0), (0, 0), (9, 0), (9, 0), (9, 0)] [(0, 420)] m1 Q))))) ∧ (0 = m1 77 6 → Q 0 m1))))))) : zC (d + 1) K_Ro_least [(2, Int.ofNat 77), (2, Int.ofNat 2), (2, Int.ofNat w), (0, a3)] mem Q := by
  exact zC_of ok_Ro_least (by decide +kernel) (Nat.le_of_ble_eq_true rfl) rfl (Or.inr (Or.inl rfl)) (zent_ok ok_Ro_least (cuts := [101, 117]) (f := 94) (And.intro hw (And.intro rfl (zC.post hS (fun r1 m1 hr1 => (And.intro rfl (And.intro rfl (And.intro (zbd rfl rfl hr1.1) (zge (fun c17 => (And.intro rfl (And.intro rfl (And.intro (zbd rfl rfl (hr1.2.1 c17).1) (fun x2 ex2 => (And.intro rfl (zne (fun c9 => (And.intro rfl (zne (fun c8 => (zall (And.intro hw (zne (fun c4 => (And.intro hw (And.intro rfl (And.intro rfl (zC.post (((((hr1.2.1 c17).2 x2 ex2).1 c9).1 c8).1 c4) (fun r3 m2 hr3 => (zG.mask [true, true, false, false, true, false, false, false] hr3))))))) (fun c4 => (zG.mask [true, true, false, false, true, false, false, false] (((((hr1.2.1 c17).2 x2 ex2).1 c9).1 c8).2 c4))))))) (fun c8 => (And.intro hw (fun x5 ex5 => (And.intro hw (zne (fun c7 => (And.intro hw (And.intro rfl (And.intro rfl (zC.post ((((((hr1.2.1 c17).2 x2 ex2).1 c9).2 c8) x5 ex5).1 c7) (fun r6 m3 hr6 => (zG.mask [true, true, false, false, true, false, false, false] hr6))))))) (fun c7 => (zG.mask [true, true, false, false, true, false, false, false] ((((((hr1.2.1 c17).2 x2 ex2).1 c9).2 c8) x5 ex5).2 c7))))))))))) (fun c9 => (((hr1.2.1 c17).2 x2 ex2).2 c9))))))))) (fun c17 => (zall (And.intro rfl (zne (fun c16 => (And.intro rfl (zne (fun c15 => (zall (And.intro hw (zne (fun c11 => (And.intro hw (And.intro rfl (And.intro rfl (zC.post ((((hr1.2.2 c17).1 c16).1 c15).1 c11) (fun r10 m4 hr10 => (zG.mask [true, true, false, false, true, false, false, false] hr10))))))) (fun c11 => (zG.mask [true, true, false, false, true, false, false, false] ((((hr1.2.2 c17).1 c16).1 c15).2 c11))))))) (fun c15 => (And.intro hw (fun x12 ex12 => (And.intro hw (zne (fun c14 => (And.intro hw (And.intro rfl (And.intro rfl (zC.post (((((hr1.2.2 c17).1 c16).2 c15) x12 ex12).1 c14) (fun r13 m5 hr13 => (zG.mask [true, true, false, false, true, false, false, false] hr13))))))) (fun c14 => (zG.mask [true, true, false, false, true, false, false, false] (((((hr1.2.2 c17).1 c16).2 c15) x12 ex12).2 c14))))))))))) (fun c16 => ((hr1.2.2 c17).2 c16)))))))))))))))
theorem v_Ro_least_101 {d : Nat} {w : Nat} {l4 s0 : Int} {mem : zMem} {Q : Int → zMem → Prop} (hw : zkd w = 9) (hS : zC d K_Ro_put [(2, Int.ofNat 77), (0, 0), (0, s0), (0, zshl 1 l4)] mem (fun r1 m1 => zG (d + 1) M_Ro_least 117 [(2, Int.ofNat 77), (2, Int.ofNat 2), (9, 0), (9, 0), (9, 0), (9, 0), (9, 0), (0, 1)] [] m1 Q)) : zG (d + 1) M_Ro_least 101 [(2, Int.ofNat 77), (2, Int.ofNat 2), (9, 0), (9, 0), (0, l4), (9, 0), (9, 0), (9, 0)] [(0, s0)] mem Q := by
  exact zent_ok ok_Ro_least (cuts := [101, 117]) (f := 94) (zall (And.intro rfl (zC.post hS (fun r1 m1 hr1 => (zall (zG.mask [true, true, false, false, false, false, false, true] hr1))))))
theorem v_Ro_least_117 {d : Nat} {w : Nat} {l7 : Int} {mem : zMem} {Q : Int → zMem → Prop} (hw : zkd w = 9) (hS : ((13472 < l7 → Q (-4) mem) ∧ (l7 ≤ 13472 → ((0 ≤ zand (zsub l7 1) 1 ∧ zand (zsub l7 1) 1 < 2) ∧ ((mem 86 (zand (zsub l7 1) 1).toNat ≤ 0 → Q (-4) mem) ∧ (0 < mem 86 (zand (zsub l7 1) 1).toNat → zC d K_Ro_spreadLevel [(2, Int.ofNat 77), (2, Int.ofNat 2), (0, zand l7 1)] mem (fun r1 m1 => ((r1 = 0 → ∀ x2 : Int, x2 = zadd l7 1 → zG (d + 1) M_Ro_least 117 [(2, Int.ofNat 77), (2, Int.ofNat 2), (9, 0), (9, 0), (9, 0), (9, 0), (9, 0), (0, x2)] [] m1 Q) ∧ (r1 ≠ 0 → Q l7 m1))))))))) : zG (d + 1) M_Ro_least 117 [(2, Int.ofNat 77), (2, Int.ofNat 2), (9, 0), (9, 0), (9, 0), (9, 0), (9, 0), (0, l7)] [] mem Q := by
  exact zent_ok ok_Ro_least (cuts := [101, 117]) (f := 94) (zgt (fun c5 => (hS.1 c5)) (fun c5 => (And.intro rfl (And.intro (zbd rfl rfl (hS.2 c5).1) (zle (fun c4 => ((hS.2 c5).2.1 c4)) (fun c4 => (And.intro rfl (zC.post ((hS.2 c5).2.2 c4) (fun r1 m1 hr1 => (zeq (fun c3 => (fun x2 ex2 => ((hr1.1 c3) x2 ex2))) (fun c3 => (hr1.2 c3))))))))))))
theorem v_Ro_begin {d : Nat} {a1 a2 : Int} {mem : zMem} {Q : Int → zMem → Prop}  (hS : ∀ m1 : zMem, m1 = zup mem 77 5 a1 → zG (d + 1) M_Ro_begin 10 [(2, Int.ofNat 77), (9, 0), (0, a2), (0, 0), (0, 0), (9, 0)] [] m1 Q) : zC (d + 1) K_Ro_begin [(2, Int.ofNat 77), (0, a1), (0, a2)] mem Q := by
  exact zC_of ok_Ro_begin (by decide +kernel) (Nat.le_of_ble_eq_true rfl) rfl (Or.inl rfl) (zent_ok ok_Ro_begin (cuts := [10, 67]) (f := 81) (And.intro rfl (fun m1 em1 => (zall (zall (zG.mask [true, false, true, true, true, false] (hS m1 em1)))))))
theorem v_Ro_begin_10 {d : Nat} {l2 l3 l4 : Int} {mem : zMem} {Q : Int → zMem → Prop}  (hS : ((10 ≤ l4 → ∀ m1 : zMem, m1 = zup mem 77 6 (zsub (zshl 1 l3) 1) → zC d K_Jd_fill [(2, Int.ofNat 79), (0, 0)] m1 (fun r1 m2 => zC d K_Jd_fill [(2, Int.ofNat 81), (0, 0)] m2 (fun r2 m3 => zC d K_Jd_fill [(2, Int.ofNat 82), (0, 0)] m3 (fun r3 m4 => ∀ m5 : zMem, m5 = zup m4 86 0 0 → ∀ m6 : zMem, m6 = zup m5 86 1 0 → Q 0 m6)))) ∧ (l4 < 10 → ((zand (zshr l2 l4) 1 = 0 → ((0 ≤ l4 ∧ l4 < 10) ∧ ∀ m7 : zMem, m7 = zup mem 78 l4.toNat (-4) → zG (d + 1) M_Ro_begin 67 [(2, Int.ofNat 77), (9, 0), (0, l2), (9, 0), (0, l4), (9, 0)] [(0, 0), (0, l3)] m7 Q)) ∧ (zand (zshr l2 l4) 1 ≠ 0 → ((5 ≤ l3 → ((0 ≤ l4 ∧ l4 < 10) ∧ ∀ m8 : zMem, m8 = zup mem 78 l4.toNat (-4) → zG (d + 1) M_Ro_begin 67 [(2, Int.ofNat 77), (9, 0), (0, l2), (9, 0), (0, l4), (9, 0)] [(0, 0), (0, l3)] m8 Q)) ∧ (l3 < 5 → ((0 ≤ l4 ∧ l4 < 10) ∧ ∀ m9 : zMem, m9 = zup mem 78 l4.toNat l3 → zG (d + 1) M_Ro_begin 67 [(2, Int.ofNat 77), (9, 0), (0, l2), (9, 0), (0, l4), (9, 0)] [(0, 1), (0, l3)] m9 Q)))))))) : zG (d + 1) M_Ro_begin 10 [(2, Int.ofNat 77), (9, 0), (0, l2), (0, l3), (0, l4), (9, 0)] [] mem Q := by
  exact zent_ok ok_Ro_begin (cuts := [10, 67]) (f := 81) (zge (fun c6 => (And.intro rfl (fun m1 em1 => (And.intro rfl (zC.post ((hS.1 c6) m1 em1) (fun r1 m2 hr1 => (And.intro rfl (And.intro (zba (by decide) (by decide) rfl (by decide)) (zC.post hr1 (fun r2 m3 hr2 => (And.intro rfl (And.intro (zba (by decide) (by decide) rfl (by decide)) (zC.post hr2 (fun r3 m4 hr3 => (And.intro rfl (And.intro (zbd rfl rfl (by decide)) (fun m5 em5 => (And.intro rfl (And.intro (zbd rfl rfl (by decide)) (fun m6 em6 => ((hr3 m5 em5) m6 em6))))))))))))))))))))) (fun c6 => (zeq (fun c5 => (zall (And.intro rfl (zeq (fun _ => (And.intro (zbd rfl rfl ((hS.2 c6).1 c5).1) (fun m7 em7 => (zeq (fun _ => (zG.mask [true, false, true, false, true, false] (((hS.2 c6).1 c5).2 m7 em7))) (fun q => absurd q (by decide)))))) (fun q => absurd q (by decide)))))) (fun c5 => (zge (fun c4 => (zall (And.intro rfl (zeq (fun _ => (And.intro (zbd rfl rfl (((hS.2 c6).2 c5).1 c4).1) (fun m8 em8 => (zeq (fun _ => (zG.mask [true, false, true, false, true, false] ((((hS.2 c6).2 c5).1 c4).2 m8 em8))) (fun q => absurd q (by decide)))))) (fun q => absurd q (by decide)))))) (fun c4 => (zall (And.intro rfl (zeq (fun q => absurd q (by decide)) (fun _ => (And.intro (zbd rfl rfl (((hS.2 c6).2 c5).2 c4).1) (fun m9 em9 => (zeq (fun q => absurd q (by decide)) (fun _ => (zG.mask [true, false, true, false, true, false] ((((hS.2 c6).2 c5).2 c4).2 m9 em9))))))))))))))))
theorem v_Ro_begin_67 {d : Nat} {l2 l4 s0 s1 : Int} {mem : zMem} {Q : Int → zMem → Prop}  (hS : ∀ x1 : Int, x1 = zadd s1 s0 → ∀ x2 : Int, x2 = zadd l4 1 → zG (d + 1) M_Ro_begin 10 [(2, Int.ofNat 77), (9, 0), (0, l2), (0, x1), (0, x2), (9, 0)] [] mem Q) : zG (d + 1) M_Ro_begin 67 [(2, Int.ofNat 77), (9, 0), (0, l2), (9, 0), (0, l4), (9, 0)] [(0, s0), (0, s1)] mem Q := by
  exact zent_ok ok_Ro_begin (cuts := [10, 67]) (f := 81) (fun x1 ex1 => (fun x2 ex2 => ((hS x1 ex1) x2 ex2)))
theorem v_Ro_put {d : Nat} {a1 a2 a3 : Int} {mem : zMem} {Q : Int → zMem → Prop}  (hS : ((0 ≤ a2 ∧ a2 < 421) ∧ ∀ x1 : Int, x1 = zand a3 (zxor (mem 79 a2.toNat) (-1)) → ((x1 ≠ 0 → ((0 ≤ a1 ∧ a1 < 2) ∧ ((0 ≤ a2 ∧ a2 < 421) ∧ ((mem (zrt 80 a1.toNat) a2.toNat ≠ 0 → ((0 ≤ a1 ∧ a1 < 2) ∧ ((0 ≤ a2 ∧ a2 < 421) ∧ ((0 ≤ a2 ∧ a2 < 421) ∧ ∀ m1 : zMem, m1 = zup mem (zrt 80 a1.toNat) a2.toNat (zor (mem (zrt 80 a1.toNat) a2.toNat) x1) → ((0 ≤ a2 ∧ a2 < 421) ∧ ((0 ≤ a2 ∧ a2 < 421) ∧ ∀ m2 : zMem, m2 = zup m1 79 a2.toNat (zor (m1 79 a2.toNat) x1) → Q 0 m2)))))) ∧ (mem (zrt 80 a1.toNat) a2.toNat = 0 → ((0 ≤ a1 ∧ a1 < 2) ∧ ((0 ≤ a1 ∧ a1 < 2) ∧ ((0 ≤ mem 86 a1.toNat ∧ mem 86 a1.toNat < 421) ∧ ∀ m3 : zMem, m3 = zup mem (zrt 83 a1.toNat) (mem 86 a1.toNat).toNat a2 → ((0 ≤ a1 ∧ a1 < 2) ∧ ((0 ≤ a1 ∧ a1 < 2) ∧ ∀ m4 : zMem, m4 = zup m3 86 a1.toNat (zadd (m3 86 a1.toNat) 1) → ((0 ≤ a1 ∧ a1 < 2) ∧ ((0 ≤ a2 ∧ a2 < 421) ∧ ((0 ≤ a2 ∧ a2 < 421) ∧ ∀ m5 : zMem, m5 = zup m4 (zrt 80 a1.toNat) a2.toNat (zor (m4 (zrt 80 a1.toNat) a2.toNat) x1) → ((0 ≤ a2 ∧ a2 < 421) ∧ ((0 ≤ a2 ∧ a2 < 421) ∧ ∀ m6 : zMem, m6 = zup m5 79 a2.toNat (zor (m5 79 a2.toNat) x1) → Q 0 m6))))))))))))))) ∧ (x1 = 0 → Q 0 mem)))) : zC (d + 1) K_Ro_put [(2, Int.ofNat 77), (0, a1), (0, a2), (0, a3)] mem Q := by
  exact zC_of ok_Ro_put (by decide +kernel) (Nat.le_of_ble_eq_true rfl) rfl (Or.inl rfl) (zent_ok ok_Ro_put (cuts := []) (f := 61) (And.intro rfl (And.intro (zbd rfl rfl hS.1) (fun x1 ex1 => (zne (fun c3 => (And.intro rfl (And.intro (zba (by decide) (by decide) rfl ((hS.2 x1 ex1).1 c3).1) (And.intro (zbd (zkr_80 ((hS.2 x1 ex1).1 c3).1) (zlr_80 ((hS.2 x1 ex1).1 c3).1) ((hS.2 x1 ex1).1 c3).2.1) (zne (fun c2 => (And.intro rfl (And.intro (zba (by decide) (by decide) rfl (((hS.2 x1 ex1).1 c3).2.2.1 c2).1) (And.intro (zbd (zkr_80 (((hS.2 x1 ex1).1 c3).2.2.1 c2).1) (zlr_80 (((hS.2 x1 ex1).1 c3).2.2.1 c2).1) (((hS.2 x1 ex1).1 c3).2.2.1 c2).2.1) (And.intro (zbd (zkr_80 (((hS.2 x1 ex1).1 c3).2.2.1 c2).1) (zlr_80 (((hS.2 x1 ex1).1 c3).2.2.1 c2).1) (((hS.2 x1 ex1).1 c3).2.2.1 c2).2.2.1) (fun m1 em1 => (And.intro rfl (And.intro (zbd rfl rfl ((((hS.2 x1 ex1).1 c3).2.2.1 c2).2.2.2 m1 em1).1) (And.intro (zbd rfl rfl ((((hS.2 x1 ex1).1 c3).2.2.1 c2).2.2.2 m1 em1).2.1) (fun m2 em2 => (((((hS.2 x1 ex1).1 c3).2.2.1 c2).2.2.2 m1 em1).2.2 m2 em2))))))))))) (fun c2 => (And.intro rfl (And.intro (zba (by decide) (by decide) rfl (((hS.2 x1 ex1).1 c3).2.2.2 c2).1) (And.intro rfl (And.intro (zbd rfl rfl (((hS.2 x1 ex1).1 c3).2.2.2 c2).2.1) (And.intro (zbd (zkr_83 (((hS.2 x1 ex1).1 c3).2.2.2 c2).1) (zlr_83 (((hS.2 x1 ex1).1 c3).2.2.2 c2).1) (((hS.2 x1 ex1).1 c3).2.2.2 c2).2.2.1) (fun m3 em3 => (And.intro rfl (And.intro (zbd rfl rfl ((((hS.2 x1 ex1).1 c3).2.2.2 c2).2.2.2 m3 em3).1) (And.intro (zbd rfl rfl ((((hS.2 x1 ex1).1 c3).2.2.2 c2).2.2.2 m3 em3).2.1) (fun m4 em4 => (And.intro rfl (And.intro (zba (by decide) (by decide) rfl (((((hS.2 x1 ex1).1 c3).2.2.2 c2).2.2.2 m3 em3).2.2 m4 em4).1) (And.intro (zbd (zkr_80 (((((hS.2 x1 ex1).1 c3).2.2.2 c2).2.2.2 m3 em3).2.2 m4 em4).1) (zlr_80 (((((hS.2 x1 ex1).1 c3).2.2.2 c2).2.2.2 m3 em3).2.2 m4 em4).1) (((((hS.2 x1 ex1).1 c3).2.2.2 c2).2.2.2 m3 em3).2.2 m4 em4).2.1) (And.intro (zbd (zkr_80 (((((hS.2 x1 ex1).1 c3).2.2.2 c2).2.2.2 m3 em3).2.2 m4 em4).1) (zlr_80 (((((hS.2 x1 ex1).1 c3).2.2.2 c2).2.2.2 m3 em3).2.2 m4 em4).1) (((((hS.2 x1 ex1).1 c3).2.2.2 c2).2.2.2 m3 em3).2.2 m4 em4).2.2.1) (fun m5 em5 => (And.intro rfl (And.intro (zbd rfl rfl ((((((hS.2 x1 ex1).1 c3).2.2.2 c2).2.2.2 m3 em3).2.2 m4 em4).2.2.2 m5 em5).1) (And.intro (zbd rfl rfl ((((((hS.2 x1 ex1).1 c3).2.2.2 c2).2.2.2 m3 em3).2.2 m4 em4).2.2.2 m5 em5).2.1) (fun m6 em6 => (((((((hS.2 x1 ex1).1 c3).2.2.2 c2).2.2.2 m3 em3).2.2 m4 em4).2.2.2 m5 em5).2.2 m6 em6)))))))))))))))))))))))))) (fun c3 => ((hS.2 x1 ex1).2 c3)))))))
theorem v_Ro_spreadLevel {d : Nat} {a2 : Int} {mem : zMem} {Q : Int → zMem → Prop}  (hS : ∀ x1 : Int, x1 = zsub 1 a2 → ((0 ≤ a2 ∧ a2 < 2) ∧ ∀ m1 : zMem, m1 = zup mem 86 a2.toNat 0 → zG (d + 1) M_Ro_spreadLevel 17 [(2, Int.ofNat 77), (2, Int.ofNat 2), (0, a2), (0, x1), (0, 0), (0, 0), (9, 0), (9, 0)] [] m1 Q)) : zC (d + 1) K_Ro_spreadLevel [(2, Int.ofNat 77), (2, Int.ofNat 2), (0, a2)] mem Q := by
  exact zC_of ok_Ro_spreadLevel (by decide +kernel) (Nat.le_of_ble_eq_true rfl) rfl (Or.inr (Or.inr (Or.inl rfl))) (zent_ok ok_Ro_spreadLevel (cuts := [17]) (f := 58) (fun x1 ex1 => (And.intro rfl (And.intro (zbd rfl rfl (hS x1 ex1).1) (fun m1 em1 => (zall (zall ((hS x1 ex1).2 m1 em1))))))))
theorem v_Ro_spreadLevel_17 {d : Nat} {l2 l3 l4 l5 : Int} {mem : zMem} {Q : Int → zMem → Prop}  (hS : ((0 ≤ l3 ∧ l3 < 2) ∧ ((mem 86 l3.toNat ≤ l5 → ((l4 = 0 ∨ l4 = 1) ∧ Q l4 mem)) ∧ (l5 < mem 86 l3.toNat → ((0 ≤ l3 ∧ l3 < 2) ∧ ((0 ≤ l5 ∧ l5 < 421) ∧ ∀ x1 : Int, x1 = mem (zrt 83 l3.toNat) l5.toNat → ((0 ≤ l3 ∧ l3 < 2) ∧ ((0 ≤ x1 ∧ x1 < 421) ∧ ∀ x2 : Int, x2 = mem (zrt 80 l3.toNat) x1.toNat → ((0 ≤ l3 ∧ l3 < 2) ∧ ((0 ≤ x1 ∧ x1 < 421) ∧ ∀ m1 : zMem, m1 = zup mem (zrt 80 l3.toNat) x1.toNat 0 → zC d K_Ro_spread [(2, Int.ofNat 77), (2, Int.ofNat 2), (0, l2), (0, x1), (0, x2)] m1 (fun r3 m2 => ∀ x4 : Int, x4 = zor l4 r3 → ∀ x5 : Int, x5 = zadd l5 1 → zG (d + 1) M_Ro_spreadLevel 17 [(2, Int.ofNat 77), (2, Int.ofNat 2), (0, l2), (0, l3), (0, x4), (0, x5), (9, 0), (9, 0)] [] m2 Q))))))))))) : zG (d + 1) M_Ro_spreadLevel 17 [(2, Int.ofNat 77), (2, Int.ofNat 2), (0, l2), (0, l3), (0, l4), (0, l5), (9, 0), (9, 0)] [] mem Q := by
  exact zent_ok ok_Ro_spreadLevel (cuts := [17]) (f := 58) (And.intro rfl (And.intro (zbd rfl rfl hS.1) (zge (fun c6 => (hS.2.1 c6)) (fun c6 => (And.intro rfl (And.intro (zba (by decide) (by decide) rfl (hS.2.2 c6).1) (And.intro (zbd (zkr_83 (hS.2.2 c6).1) (zlr_83 (hS.2.2 c6).1) (hS.2.2 c6).2.1) (fun x1 ex1 => (And.intro rfl (And.intro (zba (by decide) (by decide) rfl ((hS.2.2 c6).2.2 x1 ex1).1) (And.intro (zbd (zkr_80 ((hS.2.2 c6).2.2 x1 ex1).1) (zlr_80 ((hS.2.2 c6).2.2 x1 ex1).1) ((hS.2.2 c6).2.2 x1 ex1).2.1) (fun x2 ex2 => (And.intro rfl (And.intro (zba (by decide) (by decide) rfl (((hS.2.2 c6).2.2 x1 ex1).2.2 x2 ex2).1) (And.intro (zbd (zkr_80 (((hS.2.2 c6).2.2 x1 ex1).2.2 x2 ex2).1) (zlr_80 (((hS.2.2 c6).2.2 x1 ex1).2.2 x2 ex2).1) (((hS.2.2 c6).2.2 x1 ex1).2.2 x2 ex2).2.1) (fun m1 em1 => (And.intro rfl (zC.post ((((hS.2.2 c6).2.2 x1 ex1).2.2 x2 ex2).2.2 m1 em1) (fun r3 m2 hr3 => (fun x4 ex4 => (fun x5 ex5 => (zG.mask [true, true, true, true, true, true, false, false] ((hr3 x4 ex4) x5 ex5)))))))))))))))))))))))
theorem v_Ro_spread {d : Nat} {a2 a3 a4 : Int} {mem : zMem} {Q : Int → zMem → Prop}  (hS : ((a3 ≠ 420 → ∀ x1 : Int, x1 = zdiv a3 15 → zC d K_Ho_roomOfSide [(2, Int.ofNat 2), (0, x1)] mem (fun r2 m1 => zG (d + 1) M_Ro_spread 53 [(2, Int.ofNat 77), (2, Int.ofNat 2), (0, a2), (0, a3), (0, a4), (0, 0), (9, 0), (0, r2), (9, 0), (9, 0), (9, 0), (9, 0), (9, 0), (9, 0), (9, 0), (9, 0)] [(0, zshr x1 1)] m1 Q)) ∧ (a3 = 420 → ∀ x3 : Int, x3 = zdiv a3 15 → ∀ x4 : Int, x4 = mem 77 5 → zG (d + 1) M_Ro_spread 53 [(2, Int.ofNat 77), (2, Int.ofNat 2), (0, a2), (0, a3), (0, a4), (0, 1), (9, 0), (0, x4), (9, 0), (9, 0), (9, 0), (9, 0), (9, 0), (9, 0), (9, 0), (9, 0)] [(0, -1)] mem Q))) : zC (d + 1) K_Ro_spread [(2, Int.ofNat 77), (2, Int.ofNat 2), (0, a2), (0, a3), (0, a4)] mem Q := by
  exact zC_of ok_Ro_spread (by decide +kernel) (Nat.le_of_ble_eq_true rfl) rfl (Or.inr (Or.inr (Or.inl rfl))) (zent_ok ok_Ro_spread (cuts := [53, 106]) (f := 117) (zne (fun c5 => (zall (And.intro (by decide) (fun x1 ex1 => (zeq (fun _ => (And.intro rfl (zC.post ((hS.1 c5) x1 ex1) (fun r2 m1 hr2 => (zall (zeq (fun _ => (zG.mask [true, true, true, true, true, true, false, true, false, false, false, false, false, false, false, false] hr2)) (fun q => absurd q (by decide)))))))) (fun q => absurd q (by decide))))))) (fun c5 => (zall (And.intro (by decide) (fun x3 ex3 => (zeq (fun q => absurd q (by decide)) (fun _ => (And.intro rfl (fun x4 ex4 => (zeq (fun q => absurd q (by decide)) (fun _ => (zG.mask [true, true, true, true, true, true, false, true, false, false, false, false, false, false, false, false] (((hS.2 c5) x3 ex3) x4 ex4))))))))))))))
theorem v_Ro_spread_53 {d : Nat} {l2 l3 l4 l5 l7 s0 : Int} {mem : zMem} {Q : Int → zMem → Prop}  (hS : ((l5 = 0 → ∀ x1 : Int, x1 = zsub (zrem l3 15) 1 → zC d K_Ho_choices [(2, Int.ofNat 2), (0, l7), (0, s0), (0, x1)] mem (fun r2 m1 => ((m1 2 1 ≠ 1 → zG (d + 1) M_Ro_spread 106 [(2, Int.ofNat 77), (2, Int.ofNat 2), (0, l2), (9, 0), (0, l4), (9, 0), (9, 0), (0, l7), (9, 0), (9, 0), (0, r2), (0, -1), (0, 0), (0, 0), (9, 0), (9, 0)] [] m1 Q) ∧ (m1 2 1 = 1 → zG (d + 1) M_Ro_spread 106 [(2, Int.ofNat 77), (2, Int.ofNat 2), (0, l2), (9, 0), (0, l4), (9, 0), (9, 0), (0, l7), (9, 0), (9, 0), (0, r2), (0, s0), (0, 0), (0, 0), (9, 0), (9, 0)] [] m1 Q)))) ∧ (l5 ≠ 0 → zC d K_Ho_choices [(2, Int.ofNat 2), (0, l7), (0, s0), (0, -1)] mem (fun r4 m2 => ((m2 2 1 ≠ 1 → zG (d + 1) M_Ro_spread 106 [(2, Int.ofNat 77), (2, Int.ofNat 2), (0, l2), (9, 0), (0, l4), (9, 0), (9, 0), (0, l7), (9, 0), (9, 0), (0, r4), (0, -1), (0, 0), (0, 0), (9, 0), (9, 0)] [] m2 Q) ∧ (m2 2 1 = 1 → zG (d + 1) M_Ro_spread 106 [(2, Int.ofNat 77), (2, Int.ofNat 2), (0, l2), (9, 0), (0, l4), (9, 0), (9, 0), (0, l7), (9, 0), (9, 0), (0, r4), (0, s0), (0, 0), (0, 0), (9, 0), (9, 0)] [] m2 Q)))))) : zG (d + 1) M_Ro_spread 53 [(2, Int.ofNat 77), (2, Int.ofNat 2), (0, l2), (0, l3), (0, l4), (0, l5), (9, 0), (0, l7), (9, 0), (9, 0), (9, 0), (9, 0), (9, 0), (9, 0), (9, 0), (9, 0)] [(0, s0)] mem Q := by
  exact zent_ok ok_Ro_spread (cuts := [53, 106]) (f := 117) (zall (zeq (fun c6 => (And.intro (by decide) (fun x1 ex1 => (And.intro rfl (zC.post ((hS.1 c6) x1 ex1) (fun r2 m1 hr2 => (zall (And.intro rfl (zne (fun c3 => (zall (zall (zall (zG.mask [true, true, true, false, true, false, false, true, false, false, true, true, true, true, false, false] (hr2.1 c3)))))) (fun c3 => (zall (zall (zall (zG.mask [true, true, true, false, true, false, false, true, false, false, true, true, true, true, false, false] (hr2.2 c3))))))))))))))) (fun c6 => (zall (And.intro rfl (zC.post (hS.2 c6) (fun r4 m2 hr4 => (zall (And.intro rfl (zne (fun c5 => (zall (zall (zall (zG.mask [true, true, true, false, true, false, false, true, false, false, true, true, true, true, false, false] (hr4.1 c5)))))) (fun c5 => (zall (zall (zall (zG.mask [true, true, true, false, true, false, false, true, false, false, true, true, true, true, false, false] (hr4.2 c5))))))))))))))))
theorem v_Ro_spread_106 {d : Nat} {l2 l4 l7 l10 l11 l12 l13 : Int} {mem : zMem} {Q : Int → zMem → Prop}  (hS : ((mem 2 2 ≤ l13 → ((l12 = 0 ∨ l12 = 1) ∧ Q l12 mem)) ∧ (l13 < mem 2 2 → ((zand (zshr l10 l13) 1 ≠ 0 → zC d K_Ho_beyond [(2, Int.ofNat 2), (0, l13), (0, l7)] mem (fun r1 m1 => zC d K_Ro_withRoom [(2, Int.ofNat 77), (0, l4), (0, r1)] m1 (fun r2 m2 => zC d K_Ho_sideBeyond [(2, Int.ofNat 2), (0, l13), (0, l7)] m2 (fun r3 m3 => zC d K_Ro_put [(2, Int.ofNat 77), (0, l2), (0, zadd (zadd (zmul r3 15) l11) 1), (0, r2)] m3 (fun r4 m4 => ((r1 ≠ m4 77 5 → ∀ x5 : Int, x5 = zor l12 0 → ∀ x6 : Int, x6 = zadd l13 1 → zG (d + 1) M_Ro_spread 106 [(2, Int.ofNat 77), (2, Int.ofNat 2), (0, l2), (9, 0), (0, l4), (9, 0), (9, 0), (0, l7), (9, 0), (9, 0), (0, l10), (0, l11), (0, x5), (0, x6), (9, 0), (9, 0)] [] m4 Q) ∧ (r1 = m4 77 5 → ((zand (zshr r2 (m4 77 6)) 1 = 0 → ∀ x7 : Int, x7 = zor l12 0 → ∀ x8 : Int, x8 = zadd l13 1 → zG (d + 1) M_Ro_spread 106 [(2, Int.ofNat 77), (2, Int.ofNat 2), (0, l2), (9, 0), (0, l4), (9, 0), (9, 0), (0, l7), (9, 0), (9, 0), (0, l10), (0, l11), (0, x7), (0, x8), (9, 0), (9, 0)] [] m4 Q) ∧ (zand (zshr r2 (m4 77 6)) 1 ≠ 0 → ∀ x9 : Int, x9 = zor l12 1 → ∀ x10 : Int, x10 = zadd l13 1 → zG (d + 1) M_Ro_spread 106 [(2, Int.ofNat 77), (2, Int.ofNat 2), (0, l2), (9, 0), (0, l4), (9, 0), (9, 0), (0, l7), (9, 0), (9, 0), (0, l10), (0, l11), (0, x9), (0, x10), (9, 0), (9, 0)] [] m4 Q))))))))) ∧ (zand (zshr l10 l13) 1 = 0 → ∀ x13 : Int, x13 = zadd l13 1 → zG (d + 1) M_Ro_spread 106 [(2, Int.ofNat 77), (2, Int.ofNat 2), (0, l2), (9, 0), (0, l4), (9, 0), (9, 0), (0, l7), (9, 0), (9, 0), (0, l10), (0, l11), (0, l12), (0, x13), (9, 0), (9, 0)] [] mem Q))))) : zG (d + 1) M_Ro_spread 106 [(2, Int.ofNat 77), (2, Int.ofNat 2), (0, l2), (9, 0), (0, l4), (9, 0), (9, 0), (0, l7), (9, 0), (9, 0), (0, l10), (0, l11), (0, l12), (0, l13), (9, 0), (9, 0)] [] mem Q := by
  exact zent_ok ok_Ro_spread (cuts := [53, 106]) (f := 117) (And.intro rfl (zge (fun c15 => (hS.1 c15)) (fun c15 => (zne (fun c14 => (And.intro rfl (zC.post ((hS.2 c15).1 c14) (fun r1 m1 hr1 => (zall (And.intro rfl (zC.post hr1 (fun r2 m2 hr2 => (zall (And.intro rfl (zC.post hr2 (fun r3 m3 hr3 => (And.intro rfl (zC.post hr3 (fun r4 m4 hr4 => (And.intro rfl (zne (fun c12 => (fun x5 ex5 => (fun x6 ex6 => (zG.mask [true, true, true, false, true, false, false, true, false, false, true, true, true, true, false, false] (((hr4.1 c12) x5 ex5) x6 ex6))))) (fun c12 => (And.intro rfl (zeq (fun c11 => (fun x7 ex7 => (fun x8 ex8 => (zG.mask [true, true, true, false, true, false, false, true, false, false, true, true, true, true, false, false] ((((hr4.2 c12).1 c11) x7 ex7) x8 ex8))))) (fun c11 => (fun x9 ex9 => (fun x10 ex10 => (zG.mask [true, true, true, false, true, false, false, true, false, false, true, true, true, true, false, false] ((((hr4.2 c12).2 c11) x9 ex9) x10 ex10))))))))))))))))))))))))) (fun c14 => (fun x13 ex13 => (((hS.2 c15).2 c14) x13 ex13)))))))
theorem v_Ho_roomOfSide {d : Nat} {h : Nat} {a1 : Int} {mem : zMem} {Q : Int → zMem → Prop} (hh : zHo h) (hS : ((zand a1 1 ≠ 0 → ((0 ≤ zshr a1 1 ∧ zshr a1 1 < 14) ∧ Q (mem (h + 2) (zshr a1 1).toNat) mem)) ∧ (zand a1 1 = 0 → ((0 ≤ zshr a1 1 ∧ zshr a1 1 < 14) ∧ Q (mem (h + 1) (zshr a1 1).toNat) mem)))) : zC (d + 1) K_Ho_roomOfSide [(2, Int.ofNat h), (0, a1)] mem Q := by
  rcases hh with rfl | rfl | rfl | rfl <;> exact zC_of ok_Ho_roomOfSide (by decide +kernel) (Nat.le_of_ble_eq_true rfl) rfl (Or.inr (Or.inl rfl)) (zent_ok ok_Ho_roomOfSide (cuts := []) (f := 23) (zne (fun c1 => (And.intro rfl (And.intro (zbd rfl rfl (hS.1 c1).1) (hS.1 c1).2))) (fun c1 => (And.intro rfl (And.intro (zbd rfl rfl (hS.2 c1).1) (hS.2 c1).2)))))
theorem v_Ro_withRoom {d : Nat} {a1 a2 : Int} {mem : zMem} {Q : Int → zMem → Prop}  (hS : ((0 ≤ a2 ∧ a2 < 10) ∧ ∀ x1 : Int, x1 = mem 78 a2.toNat → ((0 ≤ x1 → ((0 ≤ x1 ∧ x1 < 5) ∧ ∀ x2 : Int, x2 = zHV.getD x1.toNat 0 → Q (zor (zand a1 x2) (zshl (zand a1 (zxor x2 (-1))) (zshl 1 x1))) mem)) ∧ (x1 < 0 → Q a1 mem)))) : zC (d + 1) K_Ro_withRoom [(2, Int.ofNat 77), (0, a1), (0, a2)] mem Q := by
  exact zC_of ok_Ro_withRoom (by decide +kernel) (Nat.le_of_ble_eq_true rfl) rfl (Or.inr (Or.inl rfl)) (zent_ok ok_Ro_withRoom (cuts := []) (f := 32) (And.intro rfl (And.intro (zbd rfl rfl hS.1) (fun x1 ex1 => (zge (fun c3 => (And.intro ((hS.2 x1 ex1).1 c3).1 (fun x2 ex2 => (((hS.2 x1 ex1).1 c3).2 x2 ex2)))) (fun c3 => ((hS.2 x1 ex1).2 c3)))))))
theorem v_Ho_openDoors {d : Nat} {h : Nat} {mem : zMem} {Q : Int → zMem → Prop} (hh : zHo h) (hS : zC d K_Jd_bitCount [(0, mem h 3)] mem (fun r1 m1 => Q (zsub (mem h 2) r1) m1)) : zC (d + 1) K_Ho_openDoors [(2, Int.ofNat h)] mem Q := by
  rcases hh with rfl | rfl | rfl | rfl <;> exact zC_of ok_Ho_openDoors (by decide +kernel) (Nat.le_of_ble_eq_true rfl) rfl (Or.inr (Or.inl rfl)) (zent_ok ok_Ho_openDoors (cuts := []) (f := 12) (And.intro rfl (And.intro rfl (zC.post hS (fun r1 m1 hr1 => hr1)))))
theorem v_To_prepare {d : Nat} {a2 : Int} {mem : zMem} {Q : Int → zMem → Prop}  (hS : ∀ m1 : zMem, m1 = zup mem 87 3 a2 → ∀ m2 : zMem, m2 = zup m1 87 2 0 → zG (d + 1) M_To_prepare 12 [(2, Int.ofNat 87), (2, Int.ofNat 2), (9, 0), (0, 0), (9, 0)] [] m2 Q) : zC (d + 1) K_To_prepare [(2, Int.ofNat 87), (2, Int.ofNat 2), (0, a2)] mem Q := by
  exact zC_of ok_To_prepare (by decide +kernel) (Nat.le_of_ble_eq_true rfl) rfl (Or.inl rfl) (zent_ok ok_To_prepare (cuts := [12, 75, 104]) (f := 75) (And.intro rfl (fun m1 em1 => (And.intro rfl (fun m2 em2 => (zall (zG.mask [true, true, false, true, false] ((hS m1 em1) m2 em2))))))))
theorem v_To_prepare_12 {d : Nat} {l3 : Int} {mem : zMem} {Q : Int → zMem → Prop}  (hS : ((mem 2 2 ≤ l3 → ∀ x1 : Int, x1 = zsub (zshl 1 (mem 87 2)) 1 → zG (d + 1) M_To_prepare 75 [(2, Int.ofNat 87), (2, Int.ofNat 2), (9, 0), (0, x1), (0, 0)] [] mem Q) ∧ (l3 < mem 2 2 → zC d K_Ho_isWalled [(2, Int.ofNat 2), (0, l3)] mem (fun r2 m1 => ((r2 ≠ 0 → ∀ x3 : Int, x3 = zadd l3 1 → zG (d + 1) M_To_prepare 12 [(2, Int.ofNat 87), (2, Int.ofNat 2), (9, 0), (0, x3), (9, 0)] [] m1 Q) ∧ (r2 = 0 → ((8 ≤ m1 87 2 → ∀ x4 : Int, x4 = zadd l3 1 → zG (d + 1) M_To_prepare 12 [(2, Int.ofNat 87), (2, Int.ofNat 2), (9, 0), (0, x4), (9, 0)] [] m1 Q) ∧ (m1 87 2 < 8 → ((0 ≤ m1 87 2 ∧ m1 87 2 < 8) ∧ ∀ m2 : zMem, m2 = zup m1 88 (m1 87 2).toNat l3 → ∀ m3 : zMem, m3 = zup m2 87 2 (zadd (m2 87 2) 1) → ∀ x5 : Int, x5 = zadd l3 1 → zG (d + 1) M_To_prepare 12 [(2, Int.ofNat 87), (2, Int.ofNat 2), (9, 0), (0, x5), (9, 0)] [] m3 Q))))))))) : zG (d + 1) M_To_prepare 12 [(2, Int.ofNat 87), (2, Int.ofNat 2), (9, 0), (0, l3), (9, 0)] [] mem Q := by
  exact zent_ok ok_To_prepare (cuts := [12, 75, 104]) (f := 75) (And.intro rfl (zge (fun c8 => (And.intro rfl (fun x1 ex1 => (zall ((hS.1 c8) x1 ex1))))) (fun c8 => (And.intro rfl (zC.post (hS.2 c8) (fun r2 m1 hr2 => (zne (fun c7 => (fun x3 ex3 => ((hr2.1 c7) x3 ex3))) (fun c7 => (And.intro rfl (zge (fun c6 => (fun x4 ex4 => (((hr2.2 c7).1 c6) x4 ex4))) (fun c6 => (And.intro rfl (And.intro rfl (And.intro (zbd rfl rfl ((hr2.2 c7).2 c6).1) (fun m2 em2 => (And.intro rfl (And.intro rfl (fun m3 em3 => (fun x5 ex5 => (((((hr2.2 c7).2 c6).2 m2 em2) m3 em3) x5 ex5))))))))))))))))))))
theorem v_To_prepare_75 {d : Nat} {l3 l4 : Int} {mem : zMem} {Q : Int → zMem → Prop}  (hS : ((5 ≤ l4 → ∀ x1 : Int, x1 = zsub l3 1 → zG (d + 1) M_To_prepare 104 [(2, Int.ofNat 87), (2, Int.ofNat 2), (9, 0), (9, 0), (0, x1)] [] mem Q) ∧ (l4 < 5 → ((0 ≤ zadd (zmul l3 5) l4 ∧ zadd (zmul l3 5) l4 < 1280) ∧ ∀ m1 : zMem, m1 = zup mem 89 (zadd (zmul l3 5) l4).toNat 1 → ∀ x2 : Int, x2 = zadd l4 1 → zG (d + 1) M_To_prepare 75 [(2, Int.ofNat 87), (2, Int.ofNat 2), (9, 0), (0, l3), (0, x2)] [] m1 Q)))) : zG (d + 1) M_To_prepare 75 [(2, Int.ofNat 87), (2, Int.ofNat 2), (9, 0), (0, l3), (0, l4)] [] mem Q := by
  exact zent_ok ok_To_prepare (cuts := [12, 75, 104]) (f := 75) (zge (fun c3 => (fun x1 ex1 => (zG.mask [true, true, false, false, true] ((hS.1 c3) x1 ex1)))) (fun c3 => (And.intro rfl (And.intro (zbd rfl rfl (hS.2 c3).1) (fun m1 em1 => (fun x2 ex2 => (((hS.2 c3).2 m1 em1) x2 ex2)))))))
theorem v_To_prepare_104 {d : Nat} {l4 : Int} {mem : zMem} {Q : Int → zMem → Prop}  (hS : ((l4 < 0 → Q 0 mem) ∧ (0 ≤ l4 → zC d K_To_fill [(2, Int.ofNat 87), (2, Int.ofNat 2), (0, l4)] mem (fun r1 m1 => ∀ x2 : Int, x2 = zadd l4 (-1) → zG (d + 1) M_To_prepare 104 [(2, Int.ofNat 87), (2, Int.ofNat 2), (9, 0), (9, 0), (0, x2)] [] m1 Q)))) : zG (d + 1) M_To_prepare 104 [(2, Int.ofNat 87), (2, Int.ofNat 2), (9, 0), (9, 0), (0, l4)] [] mem Q := by
  exact zent_ok ok_To_prepare (cuts := [12, 75, 104]) (f := 75) (zlt (fun c3 => (hS.1 c3)) (fun c3 => (And.intro rfl (zC.post (hS.2 c3) (fun r1 m1 hr1 => (fun x2 ex2 => (hr1 x2 ex2)))))))
theorem v_To_fill {d : Nat} {a2 : Int} {mem : zMem} {Q : Int → zMem → Prop}  (hS : zC d K_To_roomBehind [(2, Int.ofNat 87), (2, Int.ofNat 2), (0, a2)] mem (fun r1 m1 => zG (d + 1) M_To_fill 10 [(2, Int.ofNat 87), (2, Int.ofNat 2), (0, a2), (0, r1), (0, 0), (9, 0), (9, 0)] [] m1 Q)) : zC (d + 1) K_To_fill [(2, Int.ofNat 87), (2, Int.ofNat 2), (0, a2)] mem Q := by
  exact zC_of ok_To_fill (by decide +kernel) (Nat.le_of_ble_eq_true rfl) rfl (Or.inl rfl) (zent_ok ok_To_fill (cuts := [10, 22]) (f := 47) (And.intro rfl (zC.post hS (fun r1 m1 hr1 => (zall (zall hr1))))))
theorem v_To_fill_10 {d : Nat} {l2 l3 l4 : Int} {mem : zMem} {Q : Int → zMem → Prop}  (hS : ((5 ≤ l4 → Q 0 mem) ∧ (l4 < 5 → zG (d + 1) M_To_fill 22 [(2, Int.ofNat 87), (2, Int.ofNat 2), (0, l2), (0, l3), (0, l4), (0, 0), (0, 0)] [] mem Q))) : zG (d + 1) M_To_fill 10 [(2, Int.ofNat 87), (2, Int.ofNat 2), (0, l2), (0, l3), (0, l4), (9, 0), (9, 0)] [] mem Q := by
  exact zent_ok ok_To_fill (cuts := [10, 22]) (f := 47) (zge (fun c1 => (hS.1 c1)) (fun c1 => (zall (zall (hS.2 c1)))))
theorem v_To_fill_22 {d : Nat} {l2 l3 l4 l5 l6 : Int} {mem : zMem} {Q : Int → zMem → Prop}  (hS : ((mem 87 2 ≤ l6 → ((0 ≤ zadd (zmul l2 5) l4 ∧ zadd (zmul l2 5) l4 < 1280) ∧ ∀ m1 : zMem, m1 = zup mem 89 (zadd (zmul l2 5) l4).toNat l5 → ∀ x1 : Int, x1 = zadd l4 1 → zG (d + 1) M_To_fill 10 [(2, Int.ofNat 87), (2, Int.ofNat 2), (0, l2), (0, l3), (0, x1), (9, 0), (9, 0)] [] m1 Q)) ∧ (l6 < mem 87 2 → zC d K_To_through [(2, Int.ofNat 87), (2, Int.ofNat 2), (0, l2), (0, l3), (0, l4), (0, l6)] mem (fun r2 m2 => ∀ x3 : Int, x3 = zadd l5 r2 → ∀ x4 : Int, x4 = zadd l6 1 → zG (d + 1) M_To_fill 22 [(2, Int.ofNat 87), (2, Int.ofNat 2), (0, l2), (0, l3), (0, l4), (0, x3), (0, x4)] [] m2 Q)))) : zG (d + 1) M_To_fill 22 [(2, Int.ofNat 87), (2, Int.ofNat 2), (0, l2), (0, l3), (0, l4), (0, l5), (0, l6)] [] mem Q := by
  exact zent_ok ok_To_fill (cuts := [10, 22]) (f := 47) (And.intro rfl (zge (fun c5 => (And.intro rfl (And.intro (zbd rfl rfl (hS.1 c5).1) (fun m1 em1 => (fun x1 ex1 => (zG.mask [true, true, true, true, true, false, false] (((hS.1 c5).2 m1 em1) x1 ex1))))))) (fun c5 => (And.intro rfl (zC.post (hS.2 c5) (fun r2 m2 hr2 => (fun x3 ex3 => (fun x4 ex4 => ((hr2 x3 ex3) x4 ex4)))))))))
theorem v_To_roomBehind {d : Nat} {a2 : Int} {mem : zMem} {Q : Int → zMem → Prop}  (hS : ∀ x1 : Int, x1 = zshl 1 (mem 87 3) → zG (d + 1) M_To_roomBehind 10 [(2, Int.ofNat 87), (2, Int.ofNat 2), (0, a2), (0, x1), (0, 0)] [] mem Q) : zC (d + 1) K_To_roomBehind [(2, Int.ofNat 87), (2, Int.ofNat 2), (0, a2)] mem Q := by
  exact zC_of ok_To_roomBehind (by decide +kernel) (Nat.le_of_ble_eq_true rfl) rfl (Or.inr (Or.inl rfl)) (zent_ok ok_To_roomBehind (cuts := [10, 69]) (f := 63) (And.intro rfl (fun x1 ex1 => (zall (hS x1 ex1)))))
theorem v_To_roomBehind_10 {d : Nat} {l2 l3 l4 : Int} {mem : zMem} {Q : Int → zMem → Prop}  (hS : ((mem 87 2 ≤ l4 → zG (d + 1) M_To_roomBehind 69 [(9, 0), (2, Int.ofNat 2), (9, 0), (0, l3), (0, 0)] [] mem Q) ∧ (l4 < mem 87 2 → ((zand (zshr l2 l4) 1 = 0 → ∀ x1 : Int, x1 = zadd l4 1 → zG (d + 1) M_To_roomBehind 10 [(2, Int.ofNat 87), (2, Int.ofNat 2), (0, l2), (0, l3), (0, x1)] [] mem Q) ∧ (zand (zshr l2 l4) 1 ≠ 0 → ((0 ≤ l4 ∧ l4 < 8) ∧ ((0 ≤ mem 88 l4.toNat ∧ mem 88 l4.toNat < 14) ∧ ((0 ≤ l4 ∧ l4 < 8) ∧ ((0 ≤ mem 88 l4.toNat ∧ mem 88 l4.toNat < 14) ∧ ∀ x2 : Int, x2 = zxor l3 (zxor (zshl 1 (mem 3 (mem 88 l4.toNat).toNat)) (zshl 1 (mem 4 (mem 88 l4.toNat).toNat))) → ∀ x3 : Int, x3 = zadd l4 1 → zG (d + 1) M_To_roomBehind 10 [(2, Int.ofNat 87), (2, Int.ofNat 2), (0, l2), (0, x2), (0, x3)] [] mem Q))))))))) : zG (d + 1) M_To_roomBehind 10 [(2, Int.ofNat 87), (2, Int.ofNat 2), (0, l2), (0, l3), (0, l4)] [] mem Q := by
  exact zent_ok ok_To_roomBehind (cuts := [10, 69]) (f := 63) (And.intro rfl (zge (fun c5 => (zall (zG.mask [false, true, false, true, true] (hS.1 c5)))) (fun c5 => (zeq (fun c4 => (fun x1 ex1 => (((hS.2 c5).1 c4) x1 ex1))) (fun c4 => (And.intro rfl (And.intro rfl (And.intro (zbd rfl rfl ((hS.2 c5).2 c4).1) (And.intro (zbd rfl rfl ((hS.2 c5).2 c4).2.1) (And.intro rfl (And.intro rfl (And.intro (zbd rfl rfl ((hS.2 c5).2 c4).2.2.1) (And.intro (zbd rfl rfl ((hS.2 c5).2 c4).2.2.2.1) (fun x2 ex2 => (fun x3 ex3 => ((((hS.2 c5).2 c4).2.2.2.2 x2 ex2) x3 ex3))))))))))))))))
theorem v_To_roomBehind_69 {d : Nat} {l3 l4 : Int} {mem : zMem} {Q : Int → zMem → Prop}  (hS : ((mem 2 0 ≤ l4 → Q (-4) mem) ∧ (l4 < mem 2 0 → ((l3 ≠ zshl 1 l4 → ∀ x1 : Int, x1 = zadd l4 1 → zG (d + 1) M_To_roomBehind 69 [(9, 0), (2, Int.ofNat 2), (9, 0), (0, l3), (0, x1)] [] mem Q) ∧ (l3 = zshl 1 l4 → Q l4 mem))))) : zG (d + 1) M_To_roomBehind 69 [(9, 0), (2, Int.ofNat 2), (9, 0), (0, l3), (0, l4)] [] mem Q := by
  exact zent_ok ok_To_roomBehind (cuts := [10, 69]) (f := 63) (And.intro rfl (zge (fun c3 => (hS.1 c3)) (fun c3 => (zne (fun c2 => (fun x1 ex1 => (((hS.2 c3).1 c2) x1 ex1))) (fun c2 => ((hS.2 c3).2 c2))))))
theorem v_To_through {d : Nat} {a2 a3 a4 a5 : Int} {mem : zMem} {Q : Int → zMem → Prop}  (hS : ((0 ≤ a5 ∧ a5 < 8) ∧ ∀ x1 : Int, x1 = mem 88 a5.toNat → ((zand (zshr a2 a5) 1 ≠ 0 → Q 0 mem) ∧ (zand (zshr a2 a5) 1 = 0 → zC d K_Ho_isOf [(2, Int.ofNat 2), (0, x1), (0, a3)] mem (fun r2 m1 => ((r2 ≠ 0 → ((m1 2 1 ≠ 2 → ((0 ≤ x1 ∧ x1 < 14) ∧ ((0 ≤ zadd (zmul (zor a2 (zshl 1 a5)) 5) (m1 5 x1.toNat) ∧ zadd (zmul (zor a2 (zshl 1 a5)) 5) (m1 5 x1.toNat) < 1280) ∧ Q (m1 89 (zadd (zmul (zor a2 (zshl 1 a5)) 5) (m1 5 x1.toNat)).toNat) m1))) ∧ (m1 2 1 = 2 → ((0 ≤ x1 ∧ x1 < 14) ∧ ((m1 5 x1.toNat ≠ a4 → ((0 ≤ x1 ∧ x1 < 14) ∧ ((0 ≤ zadd (zmul (zor a2 (zshl 1 a5)) 5) (m1 5 x1.toNat) ∧ zadd (zmul (zor a2 (zshl 1 a5)) 5) (m1 5 x1.toNat) < 1280) ∧ Q (m1 89 (zadd (zmul (zor a2 (zshl 1 a5)) 5) (m1 5 x1.toNat)).toNat) m1))) ∧ (m1 5 x1.toNat = a4 → Q 0 m1)))))) ∧ (r2 = 0 → Q 0 m1))))))) : zC (d + 1) K_To_through [(2, Int.ofNat 87), (2, Int.ofNat 2), (0, a2), (0, a3), (0, a4), (0, a5)] mem Q := by
  exact zC_of ok_To_through (by decide +kernel) (Nat.le_of_ble_eq_true rfl) rfl (Or.inr (Or.inl rfl)) (zent_ok ok_To_through (cuts := []) (f := 51) (And.intro rfl (And.intro (zbd rfl rfl hS.1) (fun x1 ex1 => (zne (fun c6 => ((hS.2 x1 ex1).1 c6)) (fun c6 => (And.intro rfl (zC.post ((hS.2 x1 ex1).2 c6) (fun r2 m1 hr2 => (zne (fun c5 => (And.intro rfl (zne (fun c4 => (And.intro rfl (And.intro rfl (And.intro (zbd rfl rfl ((hr2.1 c5).1 c4).1) (And.intro (zbd rfl rfl ((hr2.1 c5).1 c4).2.1) ((hr2.1 c5).1 c4).2.2))))) (fun c4 => (And.intro rfl (And.intro (zbd rfl rfl ((hr2.1 c5).2 c4).1) (zne (fun c3 => (And.intro rfl (And.intro rfl (And.intro (zbd rfl rfl (((hr2.1 c5).2 c4).2.1 c3).1) (And.intro (zbd rfl rfl (((hr2.1 c5).2 c4).2.1 c3).2.1) (((hr2.1 c5).2 c4).2.1 c3).2.2))))) (fun c3 => (((hr2.1 c5).2 c4).2.2 c3))))))))) (fun c5 => (hr2.2 c5))))))))))))
theorem v_To_stepOf {d : Nat} {a2 : Int} {mem : zMem} {Q : Int → zMem → Prop}  (hS : ((mem 87 2 ≤ a2 → Q (-4) mem) ∧ (a2 < mem 87 2 → zC d K_To_all [(2, Int.ofNat 87)] mem (fun r1 m1 => ((r1 ≠ 0 → zG (d + 1) M_To_stepOf 30 [(2, Int.ofNat 87), (2, Int.ofNat 2), (0, a2), (0, 0), (0, 4), (0, -4), (0, 0), (9, 0), (9, 0)] [] m1 Q) ∧ (r1 = 0 → Q (-4) m1)))))) : zC (d + 1) K_To_stepOf [(2, Int.ofNat 87), (2, Int.ofNat 2), (0, a2)] mem Q := by
  exact zC_of ok_To_stepOf (by decide +kernel) (Nat.le_of_ble_eq_true rfl) rfl (Or.inr (Or.inl rfl)) (zent_ok ok_To_stepOf (cuts := [30, 47]) (f := 67) (And.intro rfl (zge (fun c3 => (hS.1 c3)) (fun c3 => (And.intro rfl (zC.post (hS.2 c3) (fun r1 m1 hr1 => (zne (fun c2 => (zall (zall (zall (zall (hr1.1 c2)))))) (fun c2 => (hr1.2 c2))))))))))
theorem v_To_stepOf_30 {d : Nat} {l2 l3 l4 l5 l6 : Int} {mem : zMem} {Q : Int → zMem → Prop}  (hS : ((l2 < l6 → Q l5 mem) ∧ (l6 ≤ l2 → zC d K_To_roomBehind [(2, Int.ofNat 87), (2, Int.ofNat 2), (0, l3)] mem (fun r1 m1 => zG (d + 1) M_To_stepOf 47 [(2, Int.ofNat 87), (2, Int.ofNat 2), (0, l2), (0, l3), (0, l4), (0, l5), (0, l6), (0, r1), (0, 0)] [] m1 Q)))) : zG (d + 1) M_To_stepOf 30 [(2, Int.ofNat 87), (2, Int.ofNat 2), (0, l2), (0, l3), (0, l4), (0, l5), (0, l6), (9, 0), (9, 0)] [] mem Q := by
  exact zent_ok ok_To_stepOf (cuts := [30, 47]) (f := 67) (zgt (fun c2 => (hS.1 c2)) (fun c2 => (And.intro rfl (zC.post (hS.2 c2) (fun r1 m1 hr1 => (zall (zall hr1)))))))
theorem v_To_stepOf_47 {d : Nat} {l2 l3 l4 l5 l6 l7 l8 : Int} {mem : zMem} {Q : Int → zMem → Prop}  (hS : ((mem 87 2 ≤ l8 → ∀ x1 : Int, x1 = zadd l6 1 → zG (d + 1) M_To_stepOf 30 [(2, Int.ofNat 87), (2, Int.ofNat 2), (0, l2), (0, l3), (0, l4), (0, l5), (0, x1), (9, 0), (9, 0)] [] mem Q) ∧ (l8 < mem 87 2 → zC d K_To_through [(2, Int.ofNat 87), (2, Int.ofNat 2), (0, l3), (0, l7), (0, l4), (0, l8)] mem (fun r2 m1 => ((r2 ≤ 0 → ∀ x3 : Int, x3 = zadd l8 1 → zG (d + 1) M_To_stepOf 47 [(2, Int.ofNat 87), (2, Int.ofNat 2), (0, l2), (0, l3), (0, l4), (0, l5), (0, l6), (0, l7), (0, x3)] [] m1 Q) ∧ (0 < r2 → ((0 ≤ l8 ∧ l8 < 8) ∧ ∀ x4 : Int, x4 = m1 88 l8.toNat → ((0 ≤ x4 ∧ x4 < 14) ∧ ∀ x5 : Int, x5 = m1 5 x4.toNat → ∀ x6 : Int, x6 = zor l3 (zshl 1 l8) → ∀ x7 : Int, x7 = zadd l6 1 → zG (d + 1) M_To_stepOf 30 [(2, Int.ofNat 87), (2, Int.ofNat 2), (0, l2), (0, x6), (0, x5), (0, x4), (0, x7), (9, 0), (9, 0)] [] m1 Q)))))))) : zG (d + 1) M_To_stepOf 47 [(2, Int.ofNat 87), (2, Int.ofNat 2), (0, l2), (0, l3), (0, l4), (0, l5), (0, l6), (0, l7), (0, l8)] [] mem Q := by
  exact zent_ok ok_To_stepOf (cuts := [30, 47]) (f := 67) (And.intro rfl (zge (fun c9 => (fun x1 ex1 => (zG.mask [true, true, true, true, true, true, true, false, false] ((hS.1 c9) x1 ex1)))) (fun c9 => (And.intro rfl (zC.post (hS.2 c9) (fun r2 m1 hr2 => (zle (fun c8 => (fun x3 ex3 => ((hr2.1 c8) x3 ex3))) (fun c8 => (And.intro rfl (And.intro (zbd rfl rfl (hr2.2 c8).1) (fun x4 ex4 => (And.intro rfl (And.intro (zbd rfl rfl ((hr2.2 c8).2 x4 ex4).1) (fun x5 ex5 => (fun x6 ex6 => (fun x7 ex7 => (zG.mask [true, true, true, true, true, true, true, false, false] (((((hr2.2 c8).2 x4 ex4).2 x5 ex5) x6 ex6) x7 ex7))))))))))))))))))
theorem v_To_all {d : Nat}  {mem : zMem} {Q : Int → zMem → Prop}  (hS : Q (mem 89 4) mem) : zC (d + 1) K_To_all [(2, Int.ofNat 87)] mem Q := by
  exact zC_of ok_To_all (by decide +kernel) (Nat.le_of_ble_eq_true rfl) rfl (Or.inr (Or.inl rfl)) (zent_ok ok_To_all (cuts := []) (f := 10) (And.intro rfl (And.intro (zbd rfl rfl (by decide)) hS)))
theorem v_Tw_prepare {d : Nat} {w : Nat} {u : Nat} {mem : zMem} {Q : Int → zMem → Prop} (hw : zkd w = 9) (hu : zkd u = 9) (hS : zC d K_Jd_fill [(2, Int.ofNat 93), (0, 0)] mem (fun r1 m1 => zG (d + 1) M_Tw_prepare 11 [(2, Int.ofNat 90), (2, Int.ofNat 2), (2, Int.ofNat w), (2, Int.ofNat u), (0, 0)] [] m1 Q)) : zC (d + 1) K_Tw_prepare [(2, Int.ofNat 90), (2, Int.ofNat 2), (2, Int.ofNat w), (2, Int.ofNat u)] mem Q := by
  exact zC_of ok_Tw_prepare (by decide +kernel) (Nat.le_of_ble_eq_true rfl) rfl (Or.inl rfl) (zent_ok ok_Tw_prepare (cuts := [11, 48]) (f := 91) (And.intro rfl (zC.post hS (fun r1 m1 hr1 => (zall hr1)))))
theorem v_Tw_prepare_11 {d : Nat} {w : Nat} {u : Nat} {l4 : Int} {mem : zMem} {Q : Int → zMem → Prop} (hw : zkd w = 9) (hu : zkd u = 9) (hS : ((5 ≤ l4 → zG (d + 1) M_Tw_prepare 48 [(2, Int.ofNat 90), (2, Int.ofNat 2), (2, Int.ofNat w), (2, Int.ofNat u), (0, 0)] [] mem Q) ∧ (l4 < 5 → ((0 ≤ l4 ∧ l4 < 5) ∧ zC d K_Jd_fill [(2, Int.ofNat (zrt 94 l4.toNat)), (0, 0)] mem (fun r1 m1 => ((0 ≤ l4 ∧ l4 < 5) ∧ zC d K_Jd_fill [(2, Int.ofNat (zrt 106 l4.toNat)), (0, 0)] m1 (fun r2 m2 => ∀ x3 : Int, x3 = zadd l4 1 → zG (d + 1) M_Tw_prepare 11 [(2, Int.ofNat 90), (2, Int.ofNat 2), (2, Int.ofNat w), (2, Int.ofNat u), (0, x3)] [] m2 Q))))))) : zG (d + 1) M_Tw_prepare 11 [(2, Int.ofNat 90), (2, Int.ofNat 2), (2, Int.ofNat w), (2, Int.ofNat u), (0, l4)] [] mem Q := by
  exact zent_ok ok_Tw_prepare (cuts := [11, 48]) (f := 91) (zge (fun c4 => (zall (hS.1 c4))) (fun c4 => (And.intro rfl (And.intro (zba (by decide) (by decide) rfl (hS.2 c4).1) (zC.post (hS.2 c4).2 (fun r1 m1 hr1 => (And.intro rfl (And.intro (zba (by decide) (by decide) rfl hr1.1) (zC.post hr1.2 (fun r2 m2 hr2 => (fun x3 ex3 => (hr2 x3 ex3))))))))))))
theorem v_Tw_prepare_48 {d : Nat} {w : Nat} {u : Nat} {l4 : Int} {mem : zMem} {Q : Int → zMem → Prop} (hw : zkd w = 9) (hu : zkd u = 9) (hS : ((zmul 2 (mem 2 2) ≤ l4 → zC d K_Tw_addSpot [(2, Int.ofNat 90), (2, Int.ofNat 2), (0, 28), (0, mem w 0), (0, -1)] mem (fun r1 m1 => zC d K_Tw_addSpot [(2, Int.ofNat 90), (2, Int.ofNat 2), (0, 29), (0, m1 u 0), (0, -1)] m1 (fun r2 m2 => ((m2 w 1 ≠ -1 → zC d K_Ho_sideAt [(2, Int.ofNat 2), (0, m2 w 1), (0, m2 w 0)] m2 (fun r3 m3 => ∀ m4 : zMem, m4 = zup m3 90 6 r3 → ((m4 u 1 ≠ -1 → zC d K_Ho_sideAt [(2, Int.ofNat 2), (0, m4 u 1), (0, m4 u 0)] m4 (fun r4 m5 => ∀ m6 : zMem, m6 = zup m5 90 7 r4 → Q 0 m6)) ∧ (m4 u 1 = -1 → ∀ m7 : zMem, m7 = zup m4 90 7 29 → Q 0 m7)))) ∧ (m2 w 1 = -1 → ∀ m8 : zMem, m8 = zup m2 90 6 28 → ((m8 u 1 ≠ -1 → zC d K_Ho_sideAt [(2, Int.ofNat 2), (0, m8 u 1), (0, m8 u 0)] m8 (fun r6 m9 => ∀ m10 : zMem, m10 = zup m9 90 7 r6 → Q 0 m10)) ∧ (m8 u 1 = -1 → ∀ m11 : zMem, m11 = zup m8 90 7 29 → Q 0 m11))))))) ∧ (l4 < zmul 2 (mem 2 2) → zC d K_Ho_roomOfSide [(2, Int.ofNat 2), (0, l4)] mem (fun r9 m12 => zC d K_Tw_addSpot [(2, Int.ofNat 90), (2, Int.ofNat 2), (0, l4), (0, r9), (0, zshr l4 1)] m12 (fun r10 m13 => ∀ x11 : Int, x11 = zadd l4 1 → zG (d + 1) M_Tw_prepare 48 [(2, Int.ofNat 90), (2, Int.ofNat 2), (2, Int.ofNat w), (2, Int.ofNat u), (0, x11)] [] m13 Q))))) : zG (d + 1) M_Tw_prepare 48 [(2, Int.ofNat 90), (2, Int.ofNat 2), (2, Int.ofNat w), (2, Int.ofNat u), (0, l4)] [] mem Q := by
  exact zent_ok ok_Tw_prepare (cuts := [11, 48]) (f := 91) (And.intro rfl (zge (fun c12 => (And.intro hw (And.intro rfl (zC.post (hS.1 c12) (fun r1 m1 hr1 => (And.intro hu (And.intro rfl (zC.post hr1 (fun r2 m2 hr2 => (And.intro hw (zne (fun c8 => (And.intro hw (And.intro hw (And.intro rfl (zC.post (hr2.1 c8) (fun r3 m3 hr3 => (And.intro rfl (fun m4 em4 => (And.intro hu (zne (fun c5 => (And.intro hu (And.intro hu (And.intro rfl (zC.post ((hr3 m4 em4).1 c5) (fun r4 m5 hr4 => (And.intro rfl (fun m6 em6 => (hr4 m6 em6))))))))) (fun c5 => (And.intro rfl (fun m7 em7 => (((hr3 m4 em4).2 c5) m7 em7)))))))))))))) (fun c8 => (And.intro rfl (fun m8 em8 => (And.intro hu (zne (fun c7 => (And.intro hu (And.intro hu (And.intro rfl (zC.post (((hr2.2 c8) m8 em8).1 c7) (fun r6 m9 hr6 => (And.intro rfl (fun m10 em10 => (hr6 m10 em10))))))))) (fun c7 => (And.intro rfl (fun m11 em11 => ((((hr2.2 c8) m8 em8).2 c7) m11 em11)))))))))))))))))))) (fun c12 => (And.intro rfl (zC.post (hS.2 c12) (fun r9 m12 hr9 => (And.intro rfl (zC.post hr9 (fun r10 m13 hr10 => (fun x11 ex11 => (hr10 x11 ex11)))))))))))
theorem v_Tw_addSpot {d : Nat} {a2 a3 a4 : Int} {mem : zMem} {Q : Int → zMem → Prop}  (hS : ((0 ≤ a2 ∧ a2 < 30) ∧ ∀ m1 : zMem, m1 = zup mem 91 a2.toNat a3 → ((0 ≤ a3 ∧ a3 < 10) ∧ ((0 ≤ a3 ∧ a3 < 10) ∧ ∀ m2 : zMem, m2 = zup m1 93 a3.toNat (zor (m1 93 a3.toNat) (zshl 1 a2)) → zC d K_Ho_choices [(2, Int.ofNat 2), (0, a3), (0, a4), (0, -1)] m2 (fun r1 m3 => zG (d + 1) M_Tw_addSpot 35 [(2, Int.ofNat 90), (2, Int.ofNat 2), (0, a2), (0, a3), (9, 0), (0, r1), (0, 0), (0, 0)] [] m3 Q))))) : zC (d + 1) K_Tw_addSpot [(2, Int.ofNat 90), (2, Int.ofNat 2), (0, a2), (0, a3), (0, a4)] mem Q := by
  exact zC_of ok_Tw_addSpot (by decide +kernel) (Nat.le_of_ble_eq_true rfl) rfl (Or.inl rfl) (zent_ok ok_Tw_addSpot (cuts := [35]) (f := 63) (And.intro rfl (And.intro (zbd rfl rfl hS.1) (fun m1 em1 => (And.intro rfl (And.intro (zbd rfl rfl (hS.2 m1 em1).1) (And.intro (zbd rfl rfl (hS.2 m1 em1).2.1) (fun m2 em2 => (And.intro rfl (zC.post ((hS.2 m1 em1).2.2 m2 em2) (fun r1 m3 hr1 => (zall (zall (zall (zG.mask [true, true, true, true, false, true, true, true] hr1)))))))))))))))
theorem v_Tw_addSpot_35 {d : Nat} {l2 l3 l5 l6 l7 : Int} {mem : zMem} {Q : Int → zMem → Prop}  (hS : ((mem 2 2 ≤ l7 → ((l6 ≠ 0 → ((0 ≤ l2 ∧ l2 < 30) ∧ ∀ m1 : zMem, m1 = zup mem 92 l2.toNat l6 → Q 0 m1)) ∧ (l6 = 0 → ((0 ≤ l2 ∧ l2 < 30) ∧ ∀ m2 : zMem, m2 = zup mem 92 l2.toNat (zshl 1 l2) → Q 0 m2)))) ∧ (l7 < mem 2 2 → ((zand (zshr l5 l7) 1 = 0 → ∀ x2 : Int, x2 = zadd l7 1 → zG (d + 1) M_Tw_addSpot 35 [(2, Int.ofNat 90), (2, Int.ofNat 2), (0, l2), (0, l3), (9, 0), (0, l5), (0, l6), (0, x2)] [] mem Q) ∧ (zand (zshr l5 l7) 1 ≠ 0 → zC d K_Ho_sideBeyond [(2, Int.ofNat 2), (0, l7), (0, l3)] mem (fun r3 m3 => ∀ x4 : Int, x4 = zor l6 (zshl 1 r3) → ∀ x5 : Int, x5 = zadd l7 1 → zG (d + 1) M_Tw_addSpot 35 [(2, Int.ofNat 90), (2, Int.ofNat 2), (0, l2), (0, l3), (9, 0), (0, l5), (0, x4), (0, x5)] [] m3 Q)))))) : zG (d + 1) M_Tw_addSpot 35 [(2, Int.ofNat 90), (2, Int.ofNat 2), (0, l2), (0, l3), (9, 0), (0, l5), (0, l6), (0, l7)] [] mem Q := by
  exact zent_ok ok_Tw_addSpot (cuts := [35]) (f := 63) (And.intro rfl (zge (fun c7 => (And.intro rfl (zne (fun c1 => (And.intro (zbd rfl rfl ((hS.1 c7).1 c1).1) (fun m1 em1 => (((hS.1 c7).1 c1).2 m1 em1)))) (fun c1 => (And.intro (zbd rfl rfl ((hS.1 c7).2 c1).1) (fun m2 em2 => (((hS.1 c7).2 c1).2 m2 em2))))))) (fun c7 => (zeq (fun c6 => (fun x2 ex2 => (((hS.2 c7).1 c6) x2 ex2))) (fun c6 => (And.intro rfl (zC.post ((hS.2 c7).2 c6) (fun r3 m3 hr3 => (fun x4 ex4 => (fun x5 ex5 => ((hr3 x4 ex4) x5 ex5)))))))))))
theorem v_Tw_untilTalked {d : Nat} {a1 : Int} {mem : zMem} {Q : Int → zMem → Prop}  (hS : zC d K_Tw_together [(2, Int.ofNat 90)] mem (fun r1 m1 => ((r1 = 0 → ((0 < a1 → zC d K_Tw_put [(2, Int.ofNat 90), (0, 0), (0, m1 90 6), (0, zshl 1 (m1 90 7))] m1 (fun r2 m2 => zG (d + 1) M_Tw_untilTalked 37 [(2, Int.ofNat 90), (0, a1), (9, 0), (0, 1)] [] m2 Q)) ∧ (a1 ≤ 0 → Q 0 m1))) ∧ (r1 ≠ 0 → ((1 < a1 → zC d K_Tw_put [(2, Int.ofNat 90), (0, 1), (0, m1 90 6), (0, zshl 1 (m1 90 7))] m1 (fun r4 m3 => zG (d + 1) M_Tw_untilTalked 37 [(2, Int.ofNat 90), (0, a1), (9, 0), (0, 1)] [] m3 Q)) ∧ (a1 ≤ 1 → Q 0 m1)))))) : zC (d + 1) K_Tw_untilTalked [(2, Int.ofNat 90), (0, a1)] mem Q := by
  exact zC_of ok_Tw_untilTalked (by decide +kernel) (Nat.le_of_ble_eq_true rfl) rfl (Or.inr (Or.inl rfl)) (zent_ok ok_Tw_untilTalked (cuts := [37]) (f := 46) (And.intro rfl (zC.post hS (fun r1 m1 hr1 => (zeq (fun c6 => (zall (zlt (fun c3 => (And.intro rfl (And.intro rfl (And.intro rfl (zC.post ((hr1.1 c6).1 c3) (fun r2 m2 hr2 => (zall (zG.mask [true, true, false, true] hr2)))))))) (fun c3 => ((hr1.1 c6).2 c3))))) (fun c6 => (zall (zlt (fun c5 => (And.intro rfl (And.intro rfl (And.intro rfl (zC.post ((hr1.2 c6).1 c5) (fun r4 m3 hr4 => (zall (zG.mask [true, true, false, true] hr4)))))))) (fun c5 => ((hr1.2 c6).2 c5))))))))))
theorem v_Tw_untilTalked_37 {d : Nat} {l1 l3 : Int} {mem : zMem} {Q : Int → zMem → Prop}  (hS : ((4500 < l3 → Q (-4) mem) ∧ (l3 ≤ 4500 → ((mem 90 8 = 0 → Q (-4) mem) ∧ (mem 90 8 ≠ 0 → zC d K_Tw_turnMinute [(2, Int.ofNat 90)] mem (fun r1 m1 => zC d K_Tw_talkMinute [(2, Int.ofNat 90), (0, l1)] m1 (fun r2 m2 => ((r2 = 0 → ∀ x3 : Int, x3 = zadd l3 1 → zG (d + 1) M_Tw_untilTalked 37 [(2, Int.ofNat 90), (0, l1), (9, 0), (0, x3)] [] m2 Q) ∧ (r2 ≠ 0 → Q l3 m2))))))))) : zG (d + 1) M_Tw_untilTalked 37 [(2, Int.ofNat 90), (0, l1), (9, 0), (0, l3)] [] mem Q := by
  exact zent_ok ok_Tw_untilTalked (cuts := [37]) (f := 46) (zgt (fun c6 => (hS.1 c6)) (fun c6 => (And.intro rfl (zeq (fun c5 => ((hS.2 c6).1 c5)) (fun c5 => (And.intro rfl (zC.post ((hS.2 c6).2 c5) (fun r1 m1 hr1 => (And.intro rfl (zC.post hr1 (fun r2 m2 hr2 => (zeq (fun c4 => (fun x3 ex3 => ((hr2.1 c4) x3 ex3))) (fun c4 => (hr2.2 c4))))))))))))))
theorem v_Tw_together {d : Nat}  {mem : zMem} {Q : Int → zMem → Prop}  (hS : ((0 ≤ mem 90 6 ∧ mem 90 6 < 30) ∧ ((0 ≤ mem 90 7 ∧ mem 90 7 < 30) ∧ ((mem 91 (mem 90 6).toNat ≠ mem 91 (mem 90 7).toNat → Q 0 mem) ∧ (mem 91 (mem 90 6).toNat = mem 91 (mem 90 7).toNat → Q 1 mem))))) : zC (d + 1) K_Tw_together [(2, Int.ofNat 90)] mem Q := by
  exact zC_of ok_Tw_together (by decide +kernel) (Nat.le_of_ble_eq_true rfl) rfl (Or.inr (Or.inr (Or.inl rfl))) (zent_ok ok_Tw_together (cuts := []) (f := 20) (And.intro rfl (And.intro rfl (And.intro (zbd rfl rfl hS.1) (And.intro rfl (And.intro rfl (And.intro (zbd rfl rfl hS.2.1) (zne (fun c1 => (And.intro (Or.inl rfl) (hS.2.2.1 c1))) (fun c1 => (And.intro (Or.inr rfl) (hS.2.2.2 c1)))))))))))
theorem v_Tw_put {d : Nat} {a1 a2 a3 : Int} {mem : zMem} {Q : Int → zMem → Prop}  (hS : ((5 ≤ a1 → Q 0 mem) ∧ (a1 < 5 → ((0 ≤ a1 ∧ a1 < 5) ∧ ((0 ≤ a2 ∧ a2 < 30) ∧ ∀ x1 : Int, x1 = zand a3 (zxor (mem (zrt 94 a1.toNat) a2.toNat) (-1)) → ((x1 = 0 → Q 0 mem) ∧ (x1 ≠ 0 → ((0 ≤ a1 ∧ a1 < 5) ∧ ((0 ≤ a2 ∧ a2 < 30) ∧ ((0 ≤ a2 ∧ a2 < 30) ∧ ∀ m1 : zMem, m1 = zup mem (zrt 94 a1.toNat) a2.toNat (zor (mem (zrt 94 a1.toNat) a2.toNat) x1) → ((0 ≤ a1 ∧ a1 < 5) ∧ ((0 ≤ a2 ∧ a2 < 30) ∧ ((0 ≤ a2 ∧ a2 < 30) ∧ ∀ m2 : zMem, m2 = zup m1 (zrt 106 a1.toNat) a2.toNat (zor (m1 (zrt 106 a1.toNat) a2.toNat) x1) → ∀ m3 : zMem, m3 = zup m2 90 8 1 → Q 0 m3))))))))))))) : zC (d + 1) K_Tw_put [(2, Int.ofNat 90), (0, a1), (0, a2), (0, a3)] mem Q := by
  exact zC_of ok_Tw_put (by decide +kernel) (Nat.le_of_ble_eq_true rfl) rfl (Or.inl rfl) (zent_ok ok_Tw_put (cuts := []) (f := 47) (zge (fun c3 => (zall (zeq (fun _ => (hS.1 c3)) (fun q => absurd q (by decide))))) (fun c3 => (And.intro rfl (And.intro (zba (by decide) (by decide) rfl (hS.2 c3).1) (And.intro (zbd (zkr_94 (hS.2 c3).1) (zlr_94 (hS.2 c3).1) (hS.2 c3).2.1) (fun x1 ex1 => (zeq (fun c2 => (((hS.2 c3).2.2 x1 ex1).1 c2)) (fun c2 => (And.intro rfl (And.intro (zba (by decide) (by decide) rfl (((hS.2 c3).2.2 x1 ex1).2 c2).1) (And.intro (zbd (zkr_94 (((hS.2 c3).2.2 x1 ex1).2 c2).1) (zlr_94 (((hS.2 c3).2.2 x1 ex1).2 c2).1) (((hS.2 c3).2.2 x1 ex1).2 c2).2.1) (And.intro (zbd (zkr_94 (((hS.2 c3).2.2 x1 ex1).2 c2).1) (zlr_94 (((hS.2 c3).2.2 x1 ex1).2 c2).1) (((hS.2 c3).2.2 x1 ex1).2 c2).2.2.1) (fun m1 em1 => (And.intro rfl (And.intro (zba (by decide) (by decide) rfl ((((hS.2 c3).2.2 x1 ex1).2 c2).2.2.2 m1 em1).1) (And.intro (zbd (zkr_106 ((((hS.2 c3).2.2 x1 ex1).2 c2).2.2.2 m1 em1).1) (zlr_106 ((((hS.2 c3).2.2 x1 ex1).2 c2).2.2.2 m1 em1).1) ((((hS.2 c3).2.2 x1 ex1).2 c2).2.2.2 m1 em1).2.1) (And.intro (zbd (zkr_106 ((((hS.2 c3).2.2 x1 ex1).2 c2).2.2.2 m1 em1).1) (zlr_106 ((((hS.2 c3).2.2 x1 ex1).2 c2).2.2.2 m1 em1).1) ((((hS.2 c3).2.2 x1 ex1).2 c2).2.2.2 m1 em1).2.2.1) (fun m2 em2 => (And.intro rfl (And.intro (Or.inr rfl) (fun m3 em3 => ((((((hS.2 c3).2.2 x1 ex1).2 c2).2.2.2 m1 em1).2.2.2 m2 em2) m3 em3)))))))))))))))))))))))
theorem v_Tw_turnMinute {d : Nat}  {mem : zMem} {Q : Int → zMem → Prop}  (hS : zG (d + 1) M_Tw_turnMinute 2 [(2, Int.ofNat 90), (0, 0)] [] mem Q) : zC (d + 1) K_Tw_turnMinute [(2, Int.ofNat 90)] mem Q := by
  exact zC_of ok_Tw_turnMinute (by decide +kernel) (Nat.le_of_ble_eq_true rfl) rfl (Or.inl rfl) (zent_ok ok_Tw_turnMinute (cuts := [2]) (f := 34) (zall hS))
theorem v_Tw_turnMinute_2 {d : Nat} {l1 : Int} {mem : zMem} {Q : Int → zMem → Prop}  (hS : ((5 ≤ l1 → ∀ m1 : zMem, m1 = zup mem 90 8 0 → Q 0 m1) ∧ (l1 < 5 → ((0 ≤ l1 ∧ l1 < 5) ∧ ((0 ≤ l1 ∧ l1 < 5) ∧ ∀ m2 : zMem, m2 = zcp mem (zrt 106 l1.toNat) 0 (zrt 100 l1.toNat) 0 30 → ((0 ≤ l1 ∧ l1 < 5) ∧ zC d K_Jd_fill [(2, Int.ofNat (zrt 106 l1.toNat)), (0, 0)] m2 (fun r1 m3 => ∀ x2 : Int, x2 = zadd l1 1 → zG (d + 1) M_Tw_turnMinute 2 [(2, Int.ofNat 90), (0, x2)] [] m3 Q))))))) : zG (d + 1) M_Tw_turnMinute 2 [(2, Int.ofNat 90), (0, l1)] [] mem Q := by
  exact zent_ok ok_Tw_turnMinute (cuts := [2]) (f := 34) (zge (fun c3 => (And.intro rfl (And.intro (Or.inl rfl) (fun m1 em1 => ((hS.1 c3) m1 em1))))) (fun c3 => (And.intro rfl (And.intro (zba (by decide) (by decide) rfl (hS.2 c3).1) (And.intro rfl (And.intro (zba (by decide) (by decide) rfl (hS.2 c3).2.1) (And.intro ⟨(zkr_106 (hS.2 c3).1), (zkr_100 (hS.2 c3).2.1), by decide, by decide, by decide, zrb (zlr_106 (hS.2 c3).1) (by decide), zrb (zlr_100 (hS.2 c3).2.1) (by decide)⟩ (And.intro (Nat.succ_ne_zero _) (fun m2 em2 => (And.intro rfl (And.intro (zba (by decide) (by decide) rfl ((hS.2 c3).2.2 m2 em2).1) (zC.post ((hS.2 c3).2.2 m2 em2).2 (fun r1 m3 hr1 => (fun x2 ex2 => (hr1 x2 ex2)))))))))))))))
theorem v_Tw_talkMinute {d : Nat} {a1 : Int} {mem : zMem} {Q : Int → zMem → Prop}  (hS : zG (d + 1) M_Tw_talkMinute 2 [(2, Int.ofNat 90), (0, a1), (0, 0), (9, 0)] [] mem Q) : zC (d + 1) K_Tw_talkMinute [(2, Int.ofNat 90), (0, a1)] mem Q := by
  exact zC_of ok_Tw_talkMinute (by decide +kernel) (Nat.le_of_ble_eq_true rfl) rfl (Or.inr (Or.inr (Or.inl rfl))) (zent_ok ok_Tw_talkMinute (cuts := [2, 9]) (f := 36) (zall hS))
theorem v_Tw_talkMinute_2 {d : Nat} {l1 l2 : Int} {mem : zMem} {Q : Int → zMem → Prop}  (hS : ((l1 ≤ l2 → Q 0 mem) ∧ (l2 < l1 → zG (d + 1) M_Tw_talkMinute 9 [(2, Int.ofNat 90), (0, l1), (0, l2), (0, 0)] [] mem Q))) : zG (d + 1) M_Tw_talkMinute 2 [(2, Int.ofNat 90), (0, l1), (0, l2), (9, 0)] [] mem Q := by
  exact zent_ok ok_Tw_talkMinute (cuts := [2, 9]) (f := 36) (zge (fun c1 => (And.intro (Or.inl rfl) (hS.1 c1))) (fun c1 => (zall (hS.2 c1))))
theorem v_Tw_talkMinute_9 {d : Nat} {l1 l2 l3 : Int} {mem : zMem} {Q : Int → zMem → Prop}  (hS : ((30 ≤ l3 → ∀ x1 : Int, x1 = zadd l2 1 → zG (d + 1) M_Tw_talkMinute 2 [(2, Int.ofNat 90), (0, l1), (0, x1), (9, 0)] [] mem Q) ∧ (l3 < 30 → ((0 ≤ l2 ∧ l2 < 5) ∧ ((0 ≤ l3 ∧ l3 < 30) ∧ ((mem (zrt 100 l2.toNat) l3.toNat = 0 → ∀ x2 : Int, x2 = zadd l3 1 → zG (d + 1) M_Tw_talkMinute 9 [(2, Int.ofNat 90), (0, l1), (0, l2), (0, x2)] [] mem Q) ∧ (mem (zrt 100 l2.toNat) l3.toNat ≠ 0 → zC d K_Tw_talkStep [(2, Int.ofNat 90), (0, l1), (0, l2), (0, l3)] mem (fun r3 m1 => ((r3 = 0 → ∀ x4 : Int, x4 = zadd l3 1 → zG (d + 1) M_Tw_talkMinute 9 [(2, Int.ofNat 90), (0, l1), (0, l2), (0, x4)] [] m1 Q) ∧ (r3 ≠ 0 → Q 1 m1)))))))))) : zG (d + 1) M_Tw_talkMinute 9 [(2, Int.ofNat 90), (0, l1), (0, l2), (0, l3)] [] mem Q := by
  exact zent_ok ok_Tw_talkMinute (cuts := [2, 9]) (f := 36) (zge (fun c7 => (fun x1 ex1 => (zG.mask [true, true, true, false] ((hS.1 c7) x1 ex1)))) (fun c7 => (And.intro rfl (And.intro (zba (by decide) (by decide) rfl (hS.2 c7).1) (And.intro (zbd (zkr_100 (hS.2 c7).1) (zlr_100 (hS.2 c7).1) (hS.2 c7).2.1) (zeq (fun c6 => (fun x2 ex2 => (((hS.2 c7).2.2.1 c6) x2 ex2))) (fun c6 => (And.intro rfl (zC.post ((hS.2 c7).2.2.2 c6) (fun r3 m1 hr3 => (zeq (fun c5 => (fun x4 ex4 => ((hr3.1 c5) x4 ex4))) (fun c5 => (And.intro (Or.inr rfl) (hr3.2 c5))))))))))))))
theorem v_Tw_talkStep {d : Nat} {a1 a2 a3 : Int} {mem : zMem} {Q : Int → zMem → Prop}  (hS : ((0 ≤ a2 ∧ a2 < 5) ∧ ((0 ≤ a3 ∧ a3 < 30) ∧ zC d K_Tw_nextOf [(2, Int.ofNat 90), (0, mem (zrt 100 a2.toNat) a3.toNat)] mem (fun r1 m1 => zG (d + 1) M_Tw_talkStep 17 [(2, Int.ofNat 90), (0, a1), (0, a2), (0, a3), (0, r1), (0, 0), (9, 0)] [] m1 Q)))) : zC (d + 1) K_Tw_talkStep [(2, Int.ofNat 90), (0, a1), (0, a2), (0, a3)] mem Q := by
  exact zC_of ok_Tw_talkStep (by decide +kernel) (Nat.le_of_ble_eq_true rfl) rfl (Or.inr (Or.inr (Or.inl rfl))) (zent_ok ok_Tw_talkStep (cuts := [17]) (f := 68) (And.intro rfl (And.intro (zba (by decide) (by decide) rfl hS.1) (And.intro (zbd (zkr_100 hS.1) (zlr_100 hS.1) hS.2.1) (And.intro rfl (zC.post hS.2.2 (fun r1 m1 hr1 => (zall (zall hr1)))))))))
theorem v_Tw_talkStep_17 {d : Nat} {l1 l2 l3 l4 l5 : Int} {mem : zMem} {Q : Int → zMem → Prop}  (hS : ((30 ≤ l5 → Q 0 mem) ∧ (l5 < 30 → ((0 ≤ l3 ∧ l3 < 30) ∧ ((zand (zshr (mem 92 l3.toNat) l5) 1 ≠ 0 → ((0 ≤ l5 ∧ l5 < 30) ∧ ((0 ≤ mem 91 l5.toNat ∧ mem 91 l5.toNat < 10) ∧ ∀ x1 : Int, x1 = zand l4 (mem 93 (mem 91 l5.toNat).toNat) → ((x1 = 0 → zC d K_Tw_put [(2, Int.ofNat 90), (0, zadd l2 1), (0, l5), (0, x1)] mem (fun r2 m1 => zC d K_Tw_put [(2, Int.ofNat 90), (0, 0), (0, l5), (0, zand l4 (zxor x1 (-1)))] m1 (fun r3 m2 => ∀ x4 : Int, x4 = zadd l5 1 → zG (d + 1) M_Tw_talkStep 17 [(2, Int.ofNat 90), (0, l1), (0, l2), (0, l3), (0, l4), (0, x4), (9, 0)] [] m2 Q))) ∧ (x1 ≠ 0 → ((zadd l2 1 < l1 → zC d K_Tw_put [(2, Int.ofNat 90), (0, zadd l2 1), (0, l5), (0, x1)] mem (fun r5 m3 => zC d K_Tw_put [(2, Int.ofNat 90), (0, 0), (0, l5), (0, zand l4 (zxor x1 (-1)))] m3 (fun r6 m4 => ∀ x7 : Int, x7 = zadd l5 1 → zG (d + 1) M_Tw_talkStep 17 [(2, Int.ofNat 90), (0, l1), (0, l2), (0, l3), (0, l4), (0, x7), (9, 0)] [] m4 Q))) ∧ (l1 ≤ zadd l2 1 → Q 1 mem))))))) ∧ (zand (zshr (mem 92 l3.toNat) l5) 1 = 0 → ∀ x10 : Int, x10 = zadd l5 1 → zG (d + 1) M_Tw_talkStep 17 [(2, Int.ofNat 90), (0, l1), (0, l2), (0, l3), (0, l4), (0, x10), (9, 0)] [] mem Q)))))) : zG (d + 1) M_Tw_talkStep 17 [(2, Int.ofNat 90), (0, l1), (0, l2), (0, l3), (0, l4), (0, l5), (9, 0)] [] mem Q := by
  exact zent_ok ok_Tw_talkStep (cuts := [17]) (f := 68) (zge (fun c12 => (And.intro (Or.inl rfl) (hS.1 c12))) (fun c12 => (And.intro rfl (And.intro (zbd rfl rfl (hS.2 c12).1) (zne (fun c11 => (And.intro rfl (And.intro rfl (And.intro (zbd rfl rfl ((hS.2 c12).2.1 c11).1) (And.intro (zbd rfl rfl ((hS.2 c12).2.1 c11).2.1) (fun x1 ex1 => (zeq (fun c9 => (And.intro rfl (zC.post ((((hS.2 c12).2.1 c11).2.2 x1 ex1).1 c9) (fun r2 m1 hr2 => (And.intro rfl (zC.post hr2 (fun r3 m2 hr3 => (fun x4 ex4 => (zG.mask [true, true, true, true, true, true, false] (hr3 x4 ex4)))))))))) (fun c9 => (zlt (fun c8 => (And.intro rfl (zC.post (((((hS.2 c12).2.1 c11).2.2 x1 ex1).2 c9).1 c8) (fun r5 m3 hr5 => (And.intro rfl (zC.post hr5 (fun r6 m4 hr6 => (fun x7 ex7 => (zG.mask [true, true, true, true, true, true, false] (hr6 x7 ex7)))))))))) (fun c8 => (And.intro (Or.inr rfl) (((((hS.2 c12).2.1 c11).2.2 x1 ex1).2 c9).2 c8)))))))))))) (fun c11 => (fun x10 ex10 => (((hS.2 c12).2.2 c11) x10 ex10))))))))
theorem v_Tw_nextOf {d : Nat} {a1 : Int} {mem : zMem} {Q : Int → zMem → Prop}  (hS : zG (d + 1) M_Tw_nextOf 4 [(2, Int.ofNat 90), (0, a1), (0, 0), (0, 0)] [] mem Q) : zC (d + 1) K_Tw_nextOf [(2, Int.ofNat 90), (0, a1)] mem Q := by
  exact zC_of ok_Tw_nextOf (by decide +kernel) (Nat.le_of_ble_eq_true rfl) rfl (Or.inr (Or.inl rfl)) (zent_ok ok_Tw_nextOf (cuts := [4]) (f := 29) (zall (zall hS)))
theorem v_Tw_nextOf_4 {d : Nat} {l1 l2 l3 : Int} {mem : zMem} {Q : Int → zMem → Prop}  (hS : ((30 ≤ l3 → Q l2 mem) ∧ (l3 < 30 → ((zand (zshr l1 l3) 1 = 0 → ∀ x1 : Int, x1 = zadd l3 1 → zG (d + 1) M_Tw_nextOf 4 [(2, Int.ofNat 90), (0, l1), (0, l2), (0, x1)] [] mem Q) ∧ (zand (zshr l1 l3) 1 ≠ 0 → ((0 ≤ l3 ∧ l3 < 30) ∧ ∀ x2 : Int, x2 = zor l2 (mem 92 l3.toNat) → ∀ x3 : Int, x3 = zadd l3 1 → zG (d + 1) M_Tw_nextOf 4 [(2, Int.ofNat 90), (0, l1), (0, x2), (0, x3)] [] mem Q)))))) : zG (d + 1) M_Tw_nextOf 4 [(2, Int.ofNat 90), (0, l1), (0, l2), (0, l3)] [] mem Q := by
  exact zent_ok ok_Tw_nextOf (cuts := [4]) (f := 29) (zge (fun c5 => (hS.1 c5)) (fun c5 => (zeq (fun c4 => (fun x1 ex1 => (((hS.2 c5).1 c4) x1 ex1))) (fun c4 => (And.intro rfl (And.intro (zbd rfl rfl ((hS.2 c5).2 c4).1) (fun x2 ex2 => (fun x3 ex3 => ((((hS.2 c5).2 c4).2 x2 ex2) x3 ex3)))))))))
theorem v_Tw_untilCupIn {d : Nat} {a1 : Int} {mem : zMem} {Q : Int → zMem → Prop}  (hS : ((0 ≤ mem 90 6 ∧ mem 90 6 < 30) ∧ ((mem 91 (mem 90 6).toNat ≠ a1 → zC d K_Tw_put [(2, Int.ofNat 90), (0, 0), (0, mem 90 6), (0, zshl 1 (mem 90 7))] mem (fun r1 m1 => zC d K_Tw_together [(2, Int.ofNat 90)] m1 (fun r2 m2 => ((r2 = 0 → zC d K_Tw_put [(2, Int.ofNat 90), (0, 1), (0, m1 90 6), (0, 0)] m2 (fun r3 m3 => zG (d + 1) M_Tw_untilCupIn 58 [(2, Int.ofNat 90), (0, a1), (0, 1)] [] m3 Q)) ∧ (r2 ≠ 0 → zC d K_Tw_put [(2, Int.ofNat 90), (0, 1), (0, m1 90 6), (0, zshl 1 (m2 90 7))] m2 (fun r4 m4 => zG (d + 1) M_Tw_untilCupIn 58 [(2, Int.ofNat 90), (0, a1), (0, 1)] [] m4 Q)))))) ∧ (mem 91 (mem 90 6).toNat = a1 → Q 0 mem)))) : zC (d + 1) K_Tw_untilCupIn [(2, Int.ofNat 90), (0, a1)] mem Q := by
  exact zC_of ok_Tw_untilCupIn (by decide +kernel) (Nat.le_of_ble_eq_true rfl) rfl (Or.inr (Or.inl rfl)) (zent_ok ok_Tw_untilCupIn (cuts := [58]) (f := 57) (And.intro rfl (And.intro rfl (And.intro (zbd rfl rfl hS.1) (zne (fun c6 => (And.intro rfl (And.intro rfl (And.intro rfl (zC.post (hS.2.1 c6) (fun r1 m1 hr1 => (And.intro rfl (And.intro rfl (zC.post hr1 (fun r2 m2 hr2 => (zeq (fun c5 => (And.intro rfl (zC.post (hr2.1 c5) (fun r3 m3 hr3 => (zall hr3))))) (fun c5 => (And.intro rfl (And.intro rfl (zC.post (hr2.2 c5) (fun r4 m4 hr4 => (zall hr4))))))))))))))))) (fun c6 => (hS.2.2 c6)))))))
theorem v_Tw_untilCupIn_58 {d : Nat} {l1 l2 : Int} {mem : zMem} {Q : Int → zMem → Prop}  (hS : ((4500 < l2 → Q (-4) mem) ∧ (l2 ≤ 4500 → ((mem 90 8 = 0 → Q (-4) mem) ∧ (mem 90 8 ≠ 0 → zC d K_Tw_turnMinute [(2, Int.ofNat 90)] mem (fun r1 m1 => zC d K_Tw_cupMinute [(2, Int.ofNat 90), (0, l1)] m1 (fun r2 m2 => ((r2 = 0 → ∀ x3 : Int, x3 = zadd l2 1 → zG (d + 1) M_Tw_untilCupIn 58 [(2, Int.ofNat 90), (0, l1), (0, x3)] [] m2 Q) ∧ (r2 ≠ 0 → Q l2 m2))))))))) : zG (d + 1) M_Tw_untilCupIn 58 [(2, Int.ofNat 90), (0, l1), (0, l2)] [] mem Q := by
  exact zent_ok ok_Tw_untilCupIn (cuts := [58]) (f := 57) (zgt (fun c6 => (hS.1 c6)) (fun c6 => (And.intro rfl (zeq (fun c5 => ((hS.2 c6).1 c5)) (fun c5 => (And.intro rfl (zC.post ((hS.2 c6).2 c5) (fun r1 m1 hr1 => (And.intro rfl (zC.post hr1 (fun r2 m2 hr2 => (zeq (fun c4 => (fun x3 ex3 => ((hr2.1 c4) x3 ex3))) (fun c4 => (hr2.2 c4))))))))))))))
theorem v_Tw_cupMinute {d : Nat} {a1 : Int} {mem : zMem} {Q : Int → zMem → Prop}  (hS : zG (d + 1) M_Tw_cupMinute 2 [(2, Int.ofNat 90), (0, a1), (0, 0), (9, 0)] [] mem Q) : zC (d + 1) K_Tw_cupMinute [(2, Int.ofNat 90), (0, a1)] mem Q := by
  exact zC_of ok_Tw_cupMinute (by decide +kernel) (Nat.le_of_ble_eq_true rfl) rfl (Or.inr (Or.inr (Or.inl rfl))) (zent_ok ok_Tw_cupMinute (cuts := [2, 9]) (f := 36) (zall hS))
theorem v_Tw_cupMinute_2 {d : Nat} {l1 l2 : Int} {mem : zMem} {Q : Int → zMem → Prop}  (hS : ((2 ≤ l2 → Q 0 mem) ∧ (l2 < 2 → zG (d + 1) M_Tw_cupMinute 9 [(2, Int.ofNat 90), (0, l1), (0, l2), (0, 0)] [] mem Q))) : zG (d + 1) M_Tw_cupMinute 2 [(2, Int.ofNat 90), (0, l1), (0, l2), (9, 0)] [] mem Q := by
  exact zent_ok ok_Tw_cupMinute (cuts := [2, 9]) (f := 36) (zge (fun c1 => (And.intro (Or.inl rfl) (hS.1 c1))) (fun c1 => (zall (hS.2 c1))))
theorem v_Tw_cupMinute_9 {d : Nat} {l1 l2 l3 : Int} {mem : zMem} {Q : Int → zMem → Prop}  (hS : ((30 ≤ l3 → ∀ x1 : Int, x1 = zadd l2 1 → zG (d + 1) M_Tw_cupMinute 2 [(2, Int.ofNat 90), (0, l1), (0, x1), (9, 0)] [] mem Q) ∧ (l3 < 30 → ((0 ≤ l2 ∧ l2 < 5) ∧ ((0 ≤ l3 ∧ l3 < 30) ∧ ((mem (zrt 100 l2.toNat) l3.toNat = 0 → ∀ x2 : Int, x2 = zadd l3 1 → zG (d + 1) M_Tw_cupMinute 9 [(2, Int.ofNat 90), (0, l1), (0, l2), (0, x2)] [] mem Q) ∧ (mem (zrt 100 l2.toNat) l3.toNat ≠ 0 → zC d K_Tw_cupStep [(2, Int.ofNat 90), (0, l1), (0, l2), (0, l3)] mem (fun r3 m1 => ((r3 = 0 → ∀ x4 : Int, x4 = zadd l3 1 → zG (d + 1) M_Tw_cupMinute 9 [(2, Int.ofNat 90), (0, l1), (0, l2), (0, x4)] [] m1 Q) ∧ (r3 ≠ 0 → Q 1 m1)))))))))) : zG (d + 1) M_Tw_cupMinute 9 [(2, Int.ofNat 90), (0, l1), (0, l2), (0, l3)] [] mem Q := by
  exact zent_ok ok_Tw_cupMinute (cuts := [2, 9]) (f := 36) (zge (fun c7 => (fun x1 ex1 => (zG.mask [true, true, true, false] ((hS.1 c7) x1 ex1)))) (fun c7 => (And.intro rfl (And.intro (zba (by decide) (by decide) rfl (hS.2 c7).1) (And.intro (zbd (zkr_100 (hS.2 c7).1) (zlr_100 (hS.2 c7).1) (hS.2 c7).2.1) (zeq (fun c6 => (fun x2 ex2 => (((hS.2 c7).2.2.1 c6) x2 ex2))) (fun c6 => (And.intro rfl (zC.post ((hS.2 c7).2.2.2 c6) (fun r3 m1 hr3 => (zeq (fun c5 => (fun x4 ex4 => ((hr3.1 c5) x4 ex4))) (fun c5 => (And.intro (Or.inr rfl) (hr3.2 c5))))))))))))))
theorem v_Tw_cupStep {d : Nat} {a1 a2 a3 : Int} {mem : zMem} {Q : Int → zMem → Prop}  (hS : ((0 ≤ a2 ∧ a2 < 5) ∧ ((0 ≤ a3 ∧ a3 < 30) ∧ zC d K_Tw_nextOf [(2, Int.ofNat 90), (0, mem (zrt 100 a2.toNat) a3.toNat)] mem (fun r1 m1 => zG (d + 1) M_Tw_cupStep 17 [(2, Int.ofNat 90), (0, a1), (0, a2), (0, a3), (0, r1), (0, 0)] [] m1 Q)))) : zC (d + 1) K_Tw_cupStep [(2, Int.ofNat 90), (0, a1), (0, a2), (0, a3)] mem Q := by
  exact zC_of ok_Tw_cupStep (by decide +kernel) (Nat.le_of_ble_eq_true rfl) rfl (Or.inr (Or.inr (Or.inl rfl))) (zent_ok ok_Tw_cupStep (cuts := [17]) (f := 71) (And.intro rfl (And.intro (zba (by decide) (by decide) rfl hS.1) (And.intro (zbd (zkr_100 hS.1) (zlr_100 hS.1) hS.2.1) (And.intro rfl (zC.post hS.2.2 (fun r1 m1 hr1 => (zall (zall hr1)))))))))
theorem v_Tw_cupStep_17 {d : Nat} {l1 l2 l3 l4 l5 : Int} {mem : zMem} {Q : Int → zMem → Prop}  (hS : ((30 ≤ l5 → Q 0 mem) ∧ (l5 < 30 → ((0 ≤ l3 ∧ l3 < 30) ∧ ((zand (zshr (mem 92 l3.toNat) l5) 1 ≠ 0 → ((l2 ≠ 0 → ((0 ≤ l1 ∧ l1 < 10) ∧ ((zand l4 (mem 93 l1.toNat) = 0 → zC d K_Tw_put [(2, Int.ofNat 90), (0, l2), (0, l5), (0, l4)] mem (fun r1 m1 => ((0 ≤ l5 ∧ l5 < 30) ∧ ((0 ≤ m1 91 l5.toNat ∧ m1 91 l5.toNat < 10) ∧ zC d K_Tw_put [(2, Int.ofNat 90), (0, zsub 1 l2), (0, l5), (0, zand l4 (m1 93 (m1 91 l5.toNat).toNat))] m1 (fun r2 m2 => ∀ x3 : Int, x3 = zadd l5 1 → zG (d + 1) M_Tw_cupStep 17 [(2, Int.ofNat 90), (0, l1), (0, l2), (0, l3), (0, l4), (0, x3)] [] m2 Q))))) ∧ (zand l4 (mem 93 l1.toNat) ≠ 0 → Q 1 mem)))) ∧ (l2 = 0 → ((0 ≤ l5 ∧ l5 < 30) ∧ ((mem 91 l5.toNat ≠ l1 → zC d K_Tw_put [(2, Int.ofNat 90), (0, l2), (0, l5), (0, l4)] mem (fun r5 m3 => ((0 ≤ l5 ∧ l5 < 30) ∧ ((0 ≤ m3 91 l5.toNat ∧ m3 91 l5.toNat < 10) ∧ zC d K_Tw_put [(2, Int.ofNat 90), (0, zsub 1 l2), (0, l5), (0, zand l4 (m3 93 (m3 91 l5.toNat).toNat))] m3 (fun r6 m4 => ∀ x7 : Int, x7 = zadd l5 1 → zG (d + 1) M_Tw_cupStep 17 [(2, Int.ofNat 90), (0, l1), (0, l2), (0, l3), (0, l4), (0, x7)] [] m4 Q))))) ∧ (mem 91 l5.toNat = l1 → Q 1 mem)))))) ∧ (zand (zshr (mem 92 l3.toNat) l5) 1 = 0 → ∀ x10 : Int, x10 = zadd l5 1 → zG (d + 1) M_Tw_cupStep 17 [(2, Int.ofNat 90), (0, l1), (0, l2), (0, l3), (0, l4), (0, x10)] [] mem Q)))))) : zG (d + 1) M_Tw_cupStep 17 [(2, Int.ofNat 90), (0, l1), (0, l2), (0, l3), (0, l4), (0, l5)] [] mem Q := by
  exact zent_ok ok_Tw_cupStep (cuts := [17]) (f := 71) (zge (fun c12 => (And.intro (Or.inl rfl) (hS.1 c12))) (fun c12 => (And.intro rfl (And.intro (zbd rfl rfl (hS.2 c12).1) (zne (fun c11 => (zne (fun c9 => (And.intro rfl (And.intro (zbd rfl rfl (((hS.2 c12).2.1 c11).1 c9).1) (zeq (fun c4 => (And.intro rfl (zC.post ((((hS.2 c12).2.1 c11).1 c9).2.1 c4) (fun r1 m1 hr1 => (And.intro rfl (And.intro rfl (And.intro (zbd rfl rfl hr1.1) (And.intro (zbd rfl rfl hr1.2.1) (And.intro rfl (zC.post hr1.2.2 (fun r2 m2 hr2 => (fun x3 ex3 => (hr2 x3 ex3))))))))))))) (fun c4 => (And.intro (Or.inr rfl) ((((hS.2 c12).2.1 c11).1 c9).2.2 c4))))))) (fun c9 => (And.intro rfl (And.intro (zbd rfl rfl (((hS.2 c12).2.1 c11).2 c9).1) (zne (fun c8 => (And.intro rfl (zC.post ((((hS.2 c12).2.1 c11).2 c9).2.1 c8) (fun r5 m3 hr5 => (And.intro rfl (And.intro rfl (And.intro (zbd rfl rfl hr5.1) (And.intro (zbd rfl rfl hr5.2.1) (And.intro rfl (zC.post hr5.2.2 (fun r6 m4 hr6 => (fun x7 ex7 => (hr6 x7 ex7))))))))))))) (fun c8 => (And.intro (Or.inr rfl) ((((hS.2 c12).2.1 c11).2 c9).2.2 c8))))))))) (fun c11 => (fun x10 ex10 => (((hS.2 c12).2.2 c11) x10 ex10))))))))
theorem v_Bu_seekMore {d : Nat}  {mem : zMem} {Q : Int → zMem → Prop}  (hS : ∀ m1 : zMem, m1 = zup mem 112 2 (-4) → zC d K_Bu_pairsOf [(2, Int.ofNat 112), (2, Int.ofNat 2)] m1 (fun r1 m2 => ∀ m3 : zMem, m3 = zup m2 112 3 r1 → zG (d + 1) M_Bu_seekMore 17 [(2, Int.ofNat 112), (2, Int.ofNat 2), (0, 0), (9, 0)] [] m3 Q)) : zC (d + 1) K_Bu_seekMore [(2, Int.ofNat 112), (2, Int.ofNat 2)] mem Q := by
  exact zC_of ok_Bu_seekMore (by decide +kernel) (Nat.le_of_ble_eq_true rfl) rfl (Or.inl rfl) (zent_ok ok_Bu_seekMore (cuts := [17, 29]) (f := 37) (And.intro rfl (fun m1 em1 => (And.intro rfl (zC.post (hS m1 em1) (fun r1 m2 hr1 => (And.intro rfl (fun m3 em3 => (zall (hr1 m3 em3))))))))))
theorem v_Bu_seekMore_17 {d : Nat} {l2 : Int} {mem : zMem} {Q : Int → zMem → Prop}  (hS : ((mem 2 0 ≤ l2 → Q 0 mem) ∧ (l2 < mem 2 0 → ∀ x1 : Int, x1 = zadd l2 1 → zG (d + 1) M_Bu_seekMore 29 [(2, Int.ofNat 112), (2, Int.ofNat 2), (0, l2), (0, x1)] [] mem Q))) : zG (d + 1) M_Bu_seekMore 17 [(2, Int.ofNat 112), (2, Int.ofNat 2), (0, l2), (9, 0)] [] mem Q := by
  exact zent_ok ok_Bu_seekMore (cuts := [17, 29]) (f := 37) (And.intro rfl (zge (fun c2 => (hS.1 c2)) (fun c2 => (fun x1 ex1 => ((hS.2 c2) x1 ex1)))))
theorem v_Bu_seekMore_29 {d : Nat} {l2 l3 : Int} {mem : zMem} {Q : Int → zMem → Prop}  (hS : ((mem 2 0 ≤ l3 → ∀ x1 : Int, x1 = zadd l2 1 → zG (d + 1) M_Bu_seekMore 17 [(2, Int.ofNat 112), (2, Int.ofNat 2), (0, x1), (9, 0)] [] mem Q) ∧ (l3 < mem 2 0 → zC d K_Bu_tryMore [(2, Int.ofNat 112), (2, Int.ofNat 2), (0, l2), (0, l3)] mem (fun r2 m1 => ∀ x3 : Int, x3 = zadd l3 1 → zG (d + 1) M_Bu_seekMore 29 [(2, Int.ofNat 112), (2, Int.ofNat 2), (0, l2), (0, x3)] [] m1 Q)))) : zG (d + 1) M_Bu_seekMore 29 [(2, Int.ofNat 112), (2, Int.ofNat 2), (0, l2), (0, l3)] [] mem Q := by
  exact zent_ok ok_Bu_seekMore (cuts := [17, 29]) (f := 37) (And.intro rfl (zge (fun c4 => (fun x1 ex1 => (zG.mask [true, true, true, false] ((hS.1 c4) x1 ex1)))) (fun c4 => (And.intro rfl (zC.post (hS.2 c4) (fun r2 m1 hr2 => (fun x3 ex3 => (hr2 x3 ex3))))))))
theorem v_Bu_tryMore {d : Nat} {a2 a3 : Int} {mem : zMem} {Q : Int → zMem → Prop}  (hS : zC d K_Ho_add [(2, Int.ofNat 2), (0, a2), (0, a3), (0, 0)] mem (fun r1 m1 => ((r1 ≠ 0 → zC d K_Bu_pairsOf [(2, Int.ofNat 112), (2, Int.ofNat 2)] m1 (fun r2 m2 => zC d K_Ho_dropLatest [(2, Int.ofNat 2)] m2 (fun r3 m3 => ((r2 ≤ m3 112 3 → Q 0 m3) ∧ (m3 112 3 < r2 → ∀ m4 : zMem, m4 = zup m3 112 3 r2 → ∀ m5 : zMem, m5 = zup m4 112 2 (zadd (zmul 10 a2) a3) → Q 0 m5))))) ∧ (r1 = 0 → Q 0 m1)))) : zC (d + 1) K_Bu_tryMore [(2, Int.ofNat 112), (2, Int.ofNat 2), (0, a2), (0, a3)] mem Q := by
  exact zC_of ok_Bu_tryMore (by decide +kernel) (Nat.le_of_ble_eq_true rfl) rfl (Or.inl rfl) (zent_ok ok_Bu_tryMore (cuts := []) (f := 33) (And.intro rfl (zC.post hS (fun r1 m1 hr1 => (zne (fun c5 => (And.intro rfl (zC.post (hr1.1 c5) (fun r2 m2 hr2 => (zall (And.intro rfl (zC.post hr2 (fun r3 m3 hr3 => (And.intro rfl (zle (fun c4 => (hr3.1 c4)) (fun c4 => (And.intro rfl (fun m4 em4 => (And.intro rfl (fun m5 em5 => (((hr3.2 c4) m4 em4) m5 em5)))))))))))))))) (fun c5 => (hr1.2 c5)))))))
theorem v_Ho_dropLatest {d : Nat} {h : Nat} {mem : zMem} {Q : Int → zMem → Prop} (hh : zHo h) (hS : ((0 < mem h 2 → ∀ m1 : zMem, m1 = zup mem h 2 (zsub (mem h 2) 1) → ∀ x1 : Int, x1 = zxor (zshl 1 (m1 h 2)) (-1) → ((0 ≤ m1 h 2 ∧ m1 h 2 < 14) ∧ ((0 ≤ m1 (h + 1) (m1 h 2).toNat ∧ m1 (h + 1) (m1 h 2).toNat < 10) ∧ ((0 ≤ m1 (h + 1) (m1 h 2).toNat ∧ m1 (h + 1) (m1 h 2).toNat < 10) ∧ ∀ m2 : zMem, m2 = zup m1 (h + 4) (m1 (h + 1) (m1 h 2).toNat).toNat (zand (m1 (h + 4) (m1 (h + 1) (m1 h 2).toNat).toNat) x1) → ((0 ≤ m2 h 2 ∧ m2 h 2 < 14) ∧ ((0 ≤ m2 (h + 2) (m2 h 2).toNat ∧ m2 (h + 2) (m2 h 2).toNat < 10) ∧ ((0 ≤ m2 (h + 2) (m2 h 2).toNat ∧ m2 (h + 2) (m2 h 2).toNat < 10) ∧ ∀ m3 : zMem, m3 = zup m2 (h + 4) (m2 (h + 2) (m2 h 2).toNat).toNat (zand (m2 (h + 4) (m2 (h + 2) (m2 h 2).toNat).toNat) x1) → ((0 ≤ m3 h 2 ∧ m3 h 2 < 14) ∧ ((0 ≤ m3 (h + 3) (m3 h 2).toNat ∧ m3 (h + 3) (m3 h 2).toNat < 4) ∧ ((0 ≤ m3 (h + 3) (m3 h 2).toNat ∧ m3 (h + 3) (m3 h 2).toNat < 4) ∧ ∀ m4 : zMem, m4 = zup m3 (h + 5) (m3 (h + 3) (m3 h 2).toNat).toNat (zand (m3 (h + 5) (m3 (h + 3) (m3 h 2).toNat).toNat) x1) → Q 0 m4)))))))))) ∧ (mem h 2 ≤ 0 → Q 0 mem))) : zC (d + 1) K_Ho_dropLatest [(2, Int.ofNat h)] mem Q := by
  rcases hh with rfl | rfl | rfl | rfl <;> exact zC_of ok_Ho_dropLatest (by decide +kernel) (Nat.le_of_ble_eq_true rfl) rfl (Or.inl rfl) (zent_ok ok_Ho_dropLatest (cuts := []) (f := 59) (And.intro rfl (zgt (fun c2 => (And.intro rfl (And.intro rfl (fun m1 em1 => (And.intro rfl (fun x1 ex1 => (And.intro rfl (And.intro rfl (And.intro rfl (And.intro (zbd rfl rfl (((hS.1 c2) m1 em1) x1 ex1).1) (And.intro (zbd rfl rfl (((hS.1 c2) m1 em1) x1 ex1).2.1) (And.intro (zbd rfl rfl (((hS.1 c2) m1 em1) x1 ex1).2.2.1) (fun m2 em2 => (And.intro rfl (And.intro rfl (And.intro rfl (And.intro (zbd rfl rfl ((((hS.1 c2) m1 em1) x1 ex1).2.2.2 m2 em2).1) (And.intro (zbd rfl rfl ((((hS.1 c2) m1 em1) x1 ex1).2.2.2 m2 em2).2.1) (And.intro (zbd rfl rfl ((((hS.1 c2) m1 em1) x1 ex1).2.2.2 m2 em2).2.2.1) (fun m3 em3 => (And.intro rfl (And.intro rfl (And.intro rfl (And.intro (zbd rfl rfl (((((hS.1 c2) m1 em1) x1 ex1).2.2.2 m2 em2).2.2.2 m3 em3).1) (And.intro (zbd rfl rfl (((((hS.1 c2) m1 em1) x1 ex1).2.2.2 m2 em2).2.2.2 m3 em3).2.1) (And.intro (zbd rfl rfl (((((hS.1 c2) m1 em1) x1 ex1).2.2.2 m2 em2).2.2.2 m3 em3).2.2.1) (fun m4 em4 => ((((((hS.1 c2) m1 em1) x1 ex1).2.2.2 m2 em2).2.2.2 m3 em3).2.2.2 m4 em4)))))))))))))))))))))))))))) (fun c2 => (hS.2 c2)))))
theorem v_Bu_answer {d : Nat} {a1 : Int} {mem : zMem} {Q : Int → zMem → Prop}  (hS : ((mem 112 2 ≠ -4 → ((a1 ≠ 0 → Q (mem 112 3) mem) ∧ (a1 = 0 → Q (mem 112 2) mem))) ∧ (mem 112 2 = -4 → Q (-4) mem))) : zC (d + 1) K_Bu_answer [(2, Int.ofNat 112), (0, a1)] mem Q := by
  exact zC_of ok_Bu_answer (by decide +kernel) (Nat.le_of_ble_eq_true rfl) rfl (Or.inr (Or.inl rfl)) (zent_ok ok_Bu_answer (cuts := []) (f := 19) (And.intro rfl (zne (fun c2 => (zne (fun c1 => (And.intro rfl ((hS.1 c2).1 c1))) (fun c1 => (And.intro rfl ((hS.1 c2).2 c1))))) (fun c2 => (hS.2 c2)))))
theorem v_Bu_seekWorst {d : Nat}  {mem : zMem} {Q : Int → zMem → Prop}  (hS : ∀ m1 : zMem, m1 = zup mem 112 2 (-4) → zG (d + 1) M_Bu_seekWorst 8 [(2, Int.ofNat 112), (2, Int.ofNat 2), (0, 0), (9, 0)] [] m1 Q) : zC (d + 1) K_Bu_seekWorst [(2, Int.ofNat 112), (2, Int.ofNat 2)] mem Q := by
  exact zC_of ok_Bu_seekWorst (by decide +kernel) (Nat.le_of_ble_eq_true rfl) rfl (Or.inl rfl) (zent_ok ok_Bu_seekWorst (cuts := [8]) (f := 48) (And.intro rfl (fun m1 em1 => (zall (hS m1 em1)))))
theorem v_Bu_seekWorst_8 {d : Nat} {l2 : Int} {mem : zMem} {Q : Int → zMem → Prop}  (hS : ((mem 2 2 ≤ l2 → Q 0 mem) ∧ (l2 < mem 2 2 → zC d K_Ho_isWalled [(2, Int.ofNat 2), (0, l2)] mem (fun r1 m1 => ((r1 = 0 → zC d K_Ho_setWalled [(2, Int.ofNat 2), (0, l2), (0, 1)] m1 (fun r2 m2 => zC d K_Bu_pairsOf [(2, Int.ofNat 112), (2, Int.ofNat 2)] m2 (fun r3 m3 => zC d K_Ho_setWalled [(2, Int.ofNat 2), (0, l2), (0, 0)] m3 (fun r4 m4 => ((m4 112 2 = -4 → ∀ m5 : zMem, m5 = zup m4 112 3 r3 → ∀ m6 : zMem, m6 = zup m5 112 2 l2 → ∀ x5 : Int, x5 = zadd l2 1 → zG (d + 1) M_Bu_seekWorst 8 [(2, Int.ofNat 112), (2, Int.ofNat 2), (0, x5), (9, 0)] [] m6 Q) ∧ (m4 112 2 ≠ -4 → ((m4 112 3 ≤ r3 → ∀ x6 : Int, x6 = zadd l2 1 → zG (d + 1) M_Bu_seekWorst 8 [(2, Int.ofNat 112), (2, Int.ofNat 2), (0, x6), (9, 0)] [] m4 Q) ∧ (r3 < m4 112 3 → ∀ m7 : zMem, m7 = zup m4 112 3 r3 → ∀ m8 : zMem, m8 = zup m7 112 2 l2 → ∀ x7 : Int, x7 = zadd l2 1 → zG (d + 1) M_Bu_seekWorst 8 [(2, Int.ofNat 112), (2, Int.ofNat 2), (0, x7), (9, 0)] [] m8 Q)))))))) ∧ (r1 ≠ 0 → ∀ x10 : Int, x10 = zadd l2 1 → zG (d + 1) M_Bu_seekWorst 8 [(2, Int.ofNat 112), (2, Int.ofNat 2), (0, x10), (9, 0)] [] m1 Q)))))) : zG (d + 1) M_Bu_seekWorst 8 [(2, Int.ofNat 112), (2, Int.ofNat 2), (0, l2), (9, 0)] [] mem Q := by
  exact zent_ok ok_Bu_seekWorst (cuts := [8]) (f := 48) (And.intro rfl (zge (fun c12 => (hS.1 c12)) (fun c12 => (And.intro rfl (zC.post (hS.2 c12) (fun r1 m1 hr1 => (zeq (fun c11 => (And.intro rfl (zC.post (hr1.1 c11) (fun r2 m2 hr2 => (And.intro rfl (zC.post hr2 (fun r3 m3 hr3 => (zall (And.intro rfl (zC.post hr3 (fun r4 m4 hr4 => (And.intro rfl (zeq (fun c9 => (And.intro rfl (fun m5 em5 => (And.intro rfl (fun m6 em6 => (fun x5 ex5 => (zG.mask [true, true, true, false] ((((hr4.1 c9) m5 em5) m6 em6) x5 ex5)))))))) (fun c9 => (And.intro rfl (zge (fun c8 => (fun x6 ex6 => (zG.mask [true, true, true, false] (((hr4.2 c9).1 c8) x6 ex6)))) (fun c8 => (And.intro rfl (fun m7 em7 => (And.intro rfl (fun m8 em8 => (fun x7 ex7 => (zG.mask [true, true, true, false] (((((hr4.2 c9).2 c8) m7 em7) m8 em8) x7 ex7)))))))))))))))))))))))) (fun c11 => (fun x10 ex10 => ((hr1.2 c11) x10 ex10))))))))))
theorem v_Bu_seekMend {d : Nat}  {mem : zMem} {Q : Int → zMem → Prop}  (hS : zC d K_Ho_losing [(2, Int.ofNat 2)] mem (fun r1 m1 => ((r1 ≠ 0 → ((14 < zadd (m1 2 2) 1 → ((14 < zadd (m1 2 2) 2 → Q (-4) m1) ∧ (zadd (m1 2 2) 2 ≤ 14 → zC d K_Bu_mendByTwo [(2, Int.ofNat 112), (2, Int.ofNat 2), (0, r1)] m1 (fun r2 m2 => ((r2 = 0 → Q (-4) m2) ∧ (r2 ≠ 0 → Q 2 m2)))))) ∧ (zadd (m1 2 2) 1 ≤ 14 → zC d K_Bu_mendByOne [(2, Int.ofNat 112), (2, Int.ofNat 2), (0, 0), (0, r1), (0, 0)] m1 (fun r5 m3 => ((r5 = 0 → ((14 < zadd (m3 2 2) 2 → Q (-4) m3) ∧ (zadd (m3 2 2) 2 ≤ 14 → zC d K_Bu_mendByTwo [(2, Int.ofNat 112), (2, Int.ofNat 2), (0, r1)] m3 (fun r6 m4 => ((r6 = 0 → Q (-4) m4) ∧ (r6 ≠ 0 → Q 2 m4)))))) ∧ (r5 ≠ 0 → Q 1 m3)))))) ∧ (r1 = 0 → Q 0 m1)))) : zC (d + 1) K_Bu_seekMend [(2, Int.ofNat 112), (2, Int.ofNat 2)] mem Q := by
  exact zC_of ok_Bu_seekMend (by decide +kernel) (Nat.le_of_ble_eq_true rfl) rfl (Or.inr (Or.inl rfl)) (zent_ok ok_Bu_seekMend (cuts := []) (f := 42) (And.intro rfl (zC.post hS (fun r1 m1 hr1 => (zall (zne (fun c11 => (And.intro rfl (zgt (fun c10 => (And.intro rfl (zgt (fun c4 => (((hr1.1 c11).1 c10).1 c4)) (fun c4 => (And.intro rfl (zC.post (((hr1.1 c11).1 c10).2 c4) (fun r2 m2 hr2 => (zeq (fun c3 => (hr2.1 c3)) (fun c3 => (hr2.2 c3)))))))))) (fun c10 => (And.intro rfl (zC.post ((hr1.1 c11).2 c10) (fun r5 m3 hr5 => (zeq (fun c9 => (And.intro rfl (zgt (fun c8 => ((hr5.1 c9).1 c8)) (fun c8 => (And.intro rfl (zC.post ((hr5.1 c9).2 c8) (fun r6 m4 hr6 => (zeq (fun c7 => (hr6.1 c7)) (fun c7 => (hr6.2 c7)))))))))) (fun c9 => (hr5.2 c9)))))))))) (fun c11 => (hr1.2 c11))))))))
theorem v_Bu_mendByOne {d : Nat} {a2 a3 a4 : Int} {mem : zMem} {Q : Int → zMem → Prop}  (hS : zG (d + 1) M_Bu_mendByOne 3 [(2, Int.ofNat 112), (2, Int.ofNat 2), (9, 0), (0, a3), (0, a4), (0, a2), (9, 0)] [] mem Q) : zC (d + 1) K_Bu_mendByOne [(2, Int.ofNat 112), (2, Int.ofNat 2), (0, a2), (0, a3), (0, a4)] mem Q := by
  exact zC_of ok_Bu_mendByOne (by decide +kernel) (Nat.le_of_ble_eq_true rfl) rfl (Or.inr (Or.inr (Or.inl rfl))) (zent_ok ok_Bu_mendByOne (cuts := [3]) (f := 54) (zall (zG.mask [true, true, false, true, true, true, false] hS)))
theorem v_Bu_mendByOne_3 {d : Nat} {l3 l4 l5 : Int} {mem : zMem} {Q : Int → zMem → Prop}  (hS : ((100 ≤ l5 → Q 0 mem) ∧ (l5 < 100 → zC d K_Bu_isPair [(2, Int.ofNat 2), (0, l5)] mem (fun r1 m1 => ((r1 = 0 → ∀ x2 : Int, x2 = zadd l5 1 → zG (d + 1) M_Bu_mendByOne 3 [(2, Int.ofNat 112), (2, Int.ofNat 2), (9, 0), (0, l3), (0, l4), (0, x2), (9, 0)] [] m1 Q) ∧ (r1 ≠ 0 → zC d K_Bu_roomsOf [(0, l5)] m1 (fun r3 m2 => ((zand l3 (zxor r3 (-1)) = 0 → zC d K_Ho_add [(2, Int.ofNat 2), (0, zdiv l5 10), (0, zrem l5 10), (0, 0)] m2 (fun r4 m3 => zC d K_Ho_losing [(2, Int.ofNat 2)] m3 (fun r5 m4 => ((r5 ≠ 0 → zC d K_Ho_dropLatest [(2, Int.ofNat 2)] m4 (fun r6 m5 => ∀ x7 : Int, x7 = zadd l5 1 → zG (d + 1) M_Bu_mendByOne 3 [(2, Int.ofNat 112), (2, Int.ofNat 2), (9, 0), (0, l3), (0, l4), (0, x7), (9, 0)] [] m5 Q)) ∧ (r5 = 0 → zC d K_Ho_dropLatest [(2, Int.ofNat 2)] m4 (fun r8 m6 => ((0 ≤ l4 ∧ l4 < 2) ∧ ∀ m7 : zMem, m7 = zup m6 118 l4.toNat l5 → Q 1 m7))))))) ∧ (zand l3 (zxor r3 (-1)) ≠ 0 → ∀ x10 : Int, x10 = zadd l5 1 → zG (d + 1) M_Bu_mendByOne 3 [(2, Int.ofNat 112), (2, Int.ofNat 2), (9, 0), (0, l3), (0, l4), (0, x10), (9, 0)] [] m2 Q))))))))) : zG (d + 1) M_Bu_mendByOne 3 [(2, Int.ofNat 112), (2, Int.ofNat 2), (9, 0), (0, l3), (0, l4), (0, l5), (9, 0)] [] mem Q := by
  exact zent_ok ok_Bu_mendByOne (cuts := [3]) (f := 54) (zge (fun c13 => (And.intro (Or.inl rfl) (hS.1 c13))) (fun c13 => (zC.post (hS.2 c13) (fun r1 m1 hr1 => (zeq (fun c12 => (fun x2 ex2 => ((hr1.1 c12) x2 ex2))) (fun c12 => (zC.post (hr1.2 c12) (fun r3 m2 hr3 => (zeq (fun c11 => (And.intro (by decide) (And.intro (by decide) (And.intro rfl (zC.post (hr3.1 c11) (fun r4 m3 hr4 => (And.intro rfl (zC.post hr4 (fun r5 m4 hr5 => (zne (fun c9 => (zall (And.intro rfl (zC.post (hr5.1 c9) (fun r6 m5 hr6 => (zeq (fun _ => (fun x7 ex7 => (zG.mask [true, true, false, true, true, true, false] (hr6 x7 ex7)))) (fun q => absurd q (by decide)))))))) (fun c9 => (zall (And.intro rfl (zC.post (hr5.2 c9) (fun r8 m6 hr8 => (zeq (fun q => absurd q (by decide)) (fun _ => (And.intro rfl (And.intro (zbd rfl rfl hr8.1) (fun m7 em7 => (And.intro (Or.inr rfl) (hr8.2 m7 em7)))))))))))))))))))))) (fun c11 => (fun x10 ex10 => ((hr3.2 c11) x10 ex10))))))))))))
theorem v_Bu_isPair {d : Nat} {a1 : Int} {mem : zMem} {Q : Int → zMem → Prop}  (hS : ((zrem a1 10 ≤ zdiv a1 10 → Q 0 mem) ∧ (zdiv a1 10 < zrem a1 10 → zC d K_Ho_hasRoom [(2, Int.ofNat 2), (0, zrem a1 10)] mem (fun r1 m1 => ((r1 = 0 → Q 0 m1) ∧ (r1 ≠ 0 → Q 1 m1)))))) : zC (d + 1) K_Bu_isPair [(2, Int.ofNat 2), (0, a1)] mem Q := by
  exact zC_of ok_Bu_isPair (by decide +kernel) (Nat.le_of_ble_eq_true rfl) rfl (Or.inr (Or.inr (Or.inl rfl))) (zent_ok ok_Bu_isPair (cuts := []) (f := 22) (And.intro (by decide) (And.intro (by decide) (zge (fun c3 => (And.intro (Or.inl rfl) (hS.1 c3))) (fun c3 => (And.intro (by decide) (And.intro rfl (zC.post (hS.2 c3) (fun r1 m1 hr1 => (zeq (fun c2 => (And.intro (Or.inl rfl) (hr1.1 c2))) (fun c2 => (And.intro (Or.inr rfl) (hr1.2 c2)))))))))))))
theorem v_Bu_roomsOf {d : Nat} {a0 : Int} {mem : zMem} {Q : Int → zMem → Prop}  (hS : Q (zor (zshl 1 (zdiv a0 10)) (zshl 1 (zrem a0 10))) mem) : zC (d + 1) K_Bu_roomsOf [(0, a0)] mem Q := by
  exact zC_of ok_Bu_roomsOf (by decide +kernel) (Nat.le_of_ble_eq_true rfl) rfl (Or.inr (Or.inl rfl)) (zent_ok ok_Bu_roomsOf (cuts := []) (f := 17) (And.intro (by decide) (And.intro (by decide) hS)))
theorem v_Bu_mendByTwo {d : Nat} {a2 : Int} {mem : zMem} {Q : Int → zMem → Prop}  (hS : zG (d + 1) M_Bu_mendByTwo 2 [(2, Int.ofNat 112), (2, Int.ofNat 2), (0, a2), (0, 0), (9, 0)] [] mem Q) : zC (d + 1) K_Bu_mendByTwo [(2, Int.ofNat 112), (2, Int.ofNat 2), (0, a2)] mem Q := by
  exact zC_of ok_Bu_mendByTwo (by decide +kernel) (Nat.le_of_ble_eq_true rfl) rfl (Or.inr (Or.inr (Or.inl rfl))) (zent_ok ok_Bu_mendByTwo (cuts := [2]) (f := 52) (zall hS))
theorem v_Bu_mendByTwo_2 {d : Nat} {l2 l3 : Int} {mem : zMem} {Q : Int → zMem → Prop}  (hS : ((100 ≤ l3 → Q 0 mem) ∧ (l3 < 100 → zC d K_Bu_isPair [(2, Int.ofNat 2), (0, l3)] mem (fun r1 m1 => ((r1 ≠ 0 → zC d K_Ho_add [(2, Int.ofNat 2), (0, zdiv l3 10), (0, zrem l3 10), (0, 0)] m1 (fun r2 m2 => zC d K_Bu_roomsOf [(0, l3)] m2 (fun r3 m3 => zC d K_Bu_mendByOne [(2, Int.ofNat 112), (2, Int.ofNat 2), (0, l3), (0, zand l2 (zxor r3 (-1))), (0, 1)] m3 (fun r4 m4 => zC d K_Ho_dropLatest [(2, Int.ofNat 2)] m4 (fun r5 m5 => ((r4 = 0 → ∀ x6 : Int, x6 = zadd l3 1 → zG (d + 1) M_Bu_mendByTwo 2 [(2, Int.ofNat 112), (2, Int.ofNat 2), (0, l2), (0, x6), (9, 0)] [] m5 Q) ∧ (r4 ≠ 0 → ∀ m6 : zMem, m6 = zup m5 118 0 l3 → Q 1 m6))))))) ∧ (r1 = 0 → ∀ x8 : Int, x8 = zadd l3 1 → zG (d + 1) M_Bu_mendByTwo 2 [(2, Int.ofNat 112), (2, Int.ofNat 2), (0, l2), (0, x8), (9, 0)] [] m1 Q)))))) : zG (d + 1) M_Bu_mendByTwo 2 [(2, Int.ofNat 112), (2, Int.ofNat 2), (0, l2), (0, l3), (9, 0)] [] mem Q := by
  exact zent_ok ok_Bu_mendByTwo (cuts := [2]) (f := 52) (zge (fun c10 => (And.intro (Or.inl rfl) (hS.1 c10))) (fun c10 => (zC.post (hS.2 c10) (fun r1 m1 hr1 => (zne (fun c9 => (And.intro (by decide) (And.intro (by decide) (And.intro rfl (zC.post (hr1.1 c9) (fun r2 m2 hr2 => (zC.post hr2 (fun r3 m3 hr3 => (And.intro rfl (zC.post hr3 (fun r4 m4 hr4 => (zall (And.intro rfl (zC.post hr4 (fun r5 m5 hr5 => (zeq (fun c7 => (fun x6 ex6 => (zG.mask [true, true, true, true, false] ((hr5.1 c7) x6 ex6)))) (fun c7 => (And.intro rfl (And.intro (zbd rfl rfl (by decide)) (fun m6 em6 => (And.intro (Or.inr rfl) ((hr5.2 c7) m6 em6)))))))))))))))))))))) (fun c9 => (fun x8 ex8 => ((hr1.2 c9) x8 ex8))))))))
theorem v_Tr_seek {d : Nat} {a2 a3 a4 : Int} {mem : zMem} {Q : Int → zMem → Prop}  (hS : ∀ m1 : zMem, m1 = zup mem 119 5 a3 → ∀ m2 : zMem, m2 = zup m1 119 4 a4 → ∀ m3 : zMem, m3 = zup m2 119 2 0 → ∀ m4 : zMem, m4 = zup m3 119 3 0 → zC d K_Tr_follow [(2, Int.ofNat 119), (2, Int.ofNat 2), (0, 0), (0, a2), (0, -1), (0, -1), (0, a4)] m4 (fun r1 m5 => Q 0 m5)) : zC (d + 1) K_Tr_seek [(2, Int.ofNat 119), (2, Int.ofNat 2), (0, a2), (0, a3), (0, a4)] mem Q := by
  exact zC_of ok_Tr_seek (by decide +kernel) (Nat.le_of_ble_eq_true rfl) rfl (Or.inl rfl) (zent_ok ok_Tr_seek (cuts := []) (f := 26) (And.intro rfl (fun m1 em1 => (And.intro rfl (fun m2 em2 => (And.intro rfl (fun m3 em3 => (And.intro rfl (fun m4 em4 => (And.intro rfl (zC.post ((((hS m1 em1) m2 em2) m3 em3) m4 em4) (fun r1 m5 hr1 => hr1))))))))))))
theorem v_Tr_follow {d : Nat} {a2 a3 a4 a5 a6 : Int} {mem : zMem} {Q : Int → zMem → Prop}  (hS : zC d K_Jd_bitCount [(0, a6)] mem (fun r1 m1 => ((r1 ≤ zsub (m1 119 5) a2 → ((m1 119 5 ≤ a2 → zC d K_Tr_note [(2, Int.ofNat 119), (0, a3)] m1 (fun r2 m2 => Q 0 m2)) ∧ (a2 < m1 119 5 → ((a2 < 6 → zC d K_Tr_branch [(2, Int.ofNat 119), (2, Int.ofNat 2), (0, a2), (0, a3), (0, a4), (0, a5), (0, a6)] m1 (fun r3 m3 => Q 0 m3)) ∧ (6 ≤ a2 → zC d K_Tr_note [(2, Int.ofNat 119), (0, a3)] m1 (fun r4 m4 => Q 0 m4)))))) ∧ (zsub (m1 119 5) a2 < r1 → Q 0 m1)))) : zC (d + 1) K_Tr_follow [(2, Int.ofNat 119), (2, Int.ofNat 2), (0, a2), (0, a3), (0, a4), (0, a5), (0, a6)] mem Q := by
  exact zC_of ok_Tr_follow (by decide +kernel) (Nat.le_of_ble_eq_true rfl) rfl (Or.inl rfl) (zent_ok ok_Tr_follow (cuts := []) (f := 33) (zC.post hS (fun r1 m1 hr1 => (And.intro rfl (zle (fun c7 => (And.intro rfl (zge (fun c6 => (And.intro rfl (zC.post ((hr1.1 c7).1 c6) (fun r2 m2 hr2 => hr2)))) (fun c6 => (zlt (fun c5 => (And.intro rfl (zC.post (((hr1.1 c7).2 c6).1 c5) (fun r3 m3 hr3 => hr3)))) (fun c5 => (And.intro rfl (zC.post (((hr1.1 c7).2 c6).2 c5) (fun r4 m4 hr4 => hr4))))))))) (fun c7 => (hr1.2 c7)))))))
theorem v_Tr_note {d : Nat} {a1 : Int} {mem : zMem} {Q : Int → zMem → Prop}  (hS : ((mem 119 2 ≠ 0 → ∀ m1 : zMem, m1 = zup mem 119 2 (zadd (mem 119 2) 1) → ∀ m2 : zMem, m2 = zup m1 119 3 (zor (m1 119 3) (zshl 1 a1)) → Q 0 m2) ∧ (mem 119 2 = 0 → ∀ m3 : zMem, m3 = zcp mem 121 0 120 0 6 → ∀ m4 : zMem, m4 = zup m3 119 2 (zadd (m3 119 2) 1) → ∀ m5 : zMem, m5 = zup m4 119 3 (zor (m4 119 3) (zshl 1 a1)) → Q 0 m5))) : zC (d + 1) K_Tr_note [(2, Int.ofNat 119), (0, a1)] mem Q := by
  exact zC_of ok_Tr_note (by decide +kernel) (Nat.le_of_ble_eq_true rfl) rfl (Or.inl rfl) (zent_ok ok_Tr_note (cuts := []) (f := 31) (And.intro rfl (zne (fun c1 => (And.intro rfl (And.intro rfl (fun m1 em1 => (And.intro rfl (And.intro rfl (fun m2 em2 => (((hS.1 c1) m1 em1) m2 em2)))))))) (fun c1 => (And.intro rfl (And.intro rfl (And.intro ⟨rfl, rfl, by decide, by decide, by decide, zrb rfl (by decide), zrb rfl (by decide)⟩ (And.intro (Nat.succ_ne_zero _) (fun m3 em3 => (And.intro rfl (And.intro rfl (fun m4 em4 => (And.intro rfl (And.intro rfl (fun m5 em5 => ((((hS.2 c1) m3 em3) m4 em4) m5 em5))))))))))))))))
theorem v_Tr_branch {d : Nat} {a2 a3 a4 a5 a6 : Int} {mem : zMem} {Q : Int → zMem → Prop}  (hS : zC d K_Ho_choices [(2, Int.ofNat 2), (0, a3), (0, a4), (0, a5)] mem (fun r1 m1 => ∀ x2 : Int, x2 = zand r1 (m1 119 4) → zG (d + 1) M_Tr_branch 19 [(2, Int.ofNat 119), (2, Int.ofNat 2), (0, a2), (0, a3), (0, a4), (9, 0), (0, a6), (0, x2), (0, 0)] [] m1 Q)) : zC (d + 1) K_Tr_branch [(2, Int.ofNat 119), (2, Int.ofNat 2), (0, a2), (0, a3), (0, a4), (0, a5), (0, a6)] mem Q := by
  exact zC_of ok_Tr_branch (by decide +kernel) (Nat.le_of_ble_eq_true rfl) rfl (Or.inl rfl) (zent_ok ok_Tr_branch (cuts := [19]) (f := 53) (And.intro rfl (zC.post hS (fun r1 m1 hr1 => (And.intro rfl (fun x2 ex2 => (zall (zG.mask [true, true, true, true, true, false, true, true, true] (hr1 x2 ex2)))))))))
theorem v_Tr_branch_19 {d : Nat} {l2 l3 l4 l6 l7 l8 : Int} {mem : zMem} {Q : Int → zMem → Prop}  (hS : ((mem 2 2 ≤ l8 → Q 0 mem) ∧ (l8 < mem 2 2 → ((zand (zshr l7 l8) 1 = 0 → ∀ x1 : Int, x1 = zadd l8 1 → zG (d + 1) M_Tr_branch 19 [(2, Int.ofNat 119), (2, Int.ofNat 2), (0, l2), (0, l3), (0, l4), (9, 0), (0, l6), (0, l7), (0, x1)] [] mem Q) ∧ (zand (zshr l7 l8) 1 ≠ 0 → ((0 ≤ l2 ∧ l2 < 6) ∧ ∀ m1 : zMem, m1 = zup mem 121 l2.toNat l8 → zC d K_Ho_beyond [(2, Int.ofNat 2), (0, l8), (0, l3)] m1 (fun r2 m2 => zC d K_Tr_follow [(2, Int.ofNat 119), (2, Int.ofNat 2), (0, zadd l2 1), (0, r2), (0, l8), (0, l4), (0, zand l6 (zxor (zshl 1 l8) (-1)))] m2 (fun r3 m3 => ∀ x4 : Int, x4 = zadd l8 1 → zG (d + 1) M_Tr_branch 19 [(2, Int.ofNat 119), (2, Int.ofNat 2), (0, l2), (0, l3), (0, l4), (9, 0), (0, l6), (0, l7), (0, x4)] [] m3 Q)))))))) : zG (d + 1) M_Tr_branch 19 [(2, Int.ofNat 119), (2, Int.ofNat 2), (0, l2), (0, l3), (0, l4), (9, 0), (0, l6), (0, l7), (0, l8)] [] mem Q := by
  exact zent_ok ok_Tr_branch (cuts := [19]) (f := 53) (And.intro rfl (zge (fun c6 => (hS.1 c6)) (fun c6 => (zeq (fun c5 => (fun x1 ex1 => (((hS.2 c6).1 c5) x1 ex1))) (fun c5 => (And.intro rfl (And.intro (zbd rfl rfl ((hS.2 c6).2 c5).1) (fun m1 em1 => (And.intro rfl (zC.post (((hS.2 c6).2 c5).2 m1 em1) (fun r2 m2 hr2 => (And.intro rfl (zC.post hr2 (fun r3 m3 hr3 => (fun x4 ex4 => (hr3 x4 ex4))))))))))))))))
theorem v_Sh_renew {d : Nat} {t : Nat} {a1 a2 : Int} {mem : zMem} {Q : Int → zMem → Prop} (ht : zSe t) (hS : ∀ m1 : zMem, m1 = zup mem t 1 a1 → ∀ m2 : zMem, m2 = zup m1 t 2 a2 → zC d K_Jd_fill [(2, Int.ofNat (t + 1)), (0, 0)] m2 (fun r1 m3 => Q 0 m3)) : zC (d + 1) K_Sh_renew [(2, Int.ofNat t), (0, a1), (0, a2)] mem Q := by
  rcases ht with rfl | rfl | rfl | rfl <;> exact zC_of ok_Sh_renew (by decide +kernel) (Nat.le_of_ble_eq_true rfl) rfl (Or.inl rfl) (zent_ok ok_Sh_renew (cuts := []) (f := 16) (And.intro rfl (fun m1 em1 => (And.intro rfl (fun m2 em2 => (And.intro rfl (zC.post ((hS m1 em1) m2 em2) (fun r1 m3 hr1 => hr1))))))))
theorem v_Sh_faultAt {d : Nat} {t : Nat} {a1 a2 : Int} {mem : zMem} {Q : Int → zMem → Prop} (ht : zSe t) (hS : ((mem t 1 ≠ -1 → ((mem t 1 = a1 → ((a2 < 0 → Q 2 mem) ∧ (0 ≤ a2 → ((a2 < mem t 2 → Q 0 mem) ∧ (mem t 2 ≤ a2 → Q 2 mem))))) ∧ (mem t 1 ≠ a1 → Q 3 mem))) ∧ (mem t 1 = -1 → Q 1 mem))) : zC (d + 1) K_Sh_faultAt [(2, Int.ofNat t), (0, a1), (0, a2)] mem Q := by
  rcases ht with rfl | rfl | rfl | rfl <;> exact zC_of ok_Sh_faultAt (by decide +kernel) (Nat.le_of_ble_eq_true rfl) rfl (Or.inr (Or.inl rfl)) (zent_ok ok_Sh_faultAt (cuts := []) (f := 27) (And.intro rfl (zne (fun c4 => (And.intro rfl (zeq (fun c3 => (zlt (fun c2 => (((hS.1 c4).1 c3).1 c2)) (fun c2 => (And.intro rfl (zlt (fun c1 => ((((hS.1 c4).1 c3).2 c2).1 c1)) (fun c1 => ((((hS.1 c4).1 c3).2 c2).2 c1))))))) (fun c3 => ((hS.1 c4).2 c3))))) (fun c4 => (hS.2 c4)))))
theorem v_Sh_put {d : Nat} {t : Nat} {a1 a2 : Int} {mem : zMem} {Q : Int → zMem → Prop} (ht : zSe t) (hS : ((mem t 1 ≠ 0 → ((mem t 1 ≠ 1 → ((0 ≤ a1 ∧ a1 < 40) ∧ ∀ m1 : zMem, m1 = zup mem (t + 1) a1.toNat a2 → Q 0 m1)) ∧ (mem t 1 = 1 → ((0 ≤ a1 ∧ a1 < 40) ∧ ∀ m2 : zMem, m2 = zup mem (t + 1) a1.toNat (zi2s a2) → Q 0 m2)))) ∧ (mem t 1 = 0 → ((0 ≤ a1 ∧ a1 < 40) ∧ ∀ m3 : zMem, m3 = zup mem (t + 1) a1.toNat (zi2b a2) → Q 0 m3)))) : zC (d + 1) K_Sh_put [(2, Int.ofNat t), (0, a1), (0, a2)] mem Q := by
  rcases ht with rfl | rfl | rfl | rfl <;> exact zC_of ok_Sh_put (by decide +kernel) (Nat.le_of_ble_eq_true rfl) rfl (Or.inl rfl) (zent_ok ok_Sh_put (cuts := []) (f := 32) (And.intro rfl (zne (fun c2 => (And.intro rfl (zne (fun c1 => (And.intro rfl (And.intro (zbd rfl rfl ((hS.1 c2).1 c1).1) (fun m1 em1 => (((hS.1 c2).1 c1).2 m1 em1))))) (fun c1 => (And.intro rfl (And.intro (zbd rfl rfl ((hS.1 c2).2 c1).1) (fun m2 em2 => (((hS.1 c2).2 c1).2 m2 em2)))))))) (fun c2 => (And.intro rfl (And.intro (zbd rfl rfl (hS.2 c2).1) (fun m3 em3 => ((hS.2 c2).2 m3 em3))))))))
theorem v_Pa_lost {d : Nat} {p : Nat} {mem : zMem} {Q : Int → zMem → Prop} (hp : zPa p) (hS : zG (d + 1) M_Pa_lost 4 [(2, Int.ofNat p), (0, 0), (0, 0)] [] mem Q) : zC (d + 1) K_Pa_lost [(2, Int.ofNat p)] mem Q := by
  rcases hp with rfl | rfl | rfl | rfl <;> exact zC_of ok_Pa_lost (by decide +kernel) (Nat.le_of_ble_eq_true rfl) rfl (Or.inr (Or.inl rfl)) (zent_ok ok_Pa_lost (cuts := [4]) (f := 26) (zall (zall hS)))
theorem v_Pa_lost_4 {d : Nat} {p : Nat} {l1 l2 : Int} {mem : zMem} {Q : Int → zMem → Prop} (hp : zPa p) (hS : ((mem p 2 ≤ l2 → Q l1 mem) ∧ (l2 < mem p 2 → ((0 ≤ l2 ∧ l2 < 5) ∧ zC d K_Wa_choices [(2, Int.ofNat (zrt (p + 7) l2.toNat)), (2, Int.ofNat (p + 1))] mem (fun r1 m1 => ((r1 ≠ 0 → ∀ x2 : Int, x2 = zadd l2 1 → zG (d + 1) M_Pa_lost 4 [(2, Int.ofNat p), (0, l1), (0, x2)] [] m1 Q) ∧ (r1 = 0 → ∀ x3 : Int, x3 = zadd l1 1 → ∀ x4 : Int, x4 = zadd l2 1 → zG (d + 1) M_Pa_lost 4 [(2, Int.ofNat p), (0, x3), (0, x4)] [] m1 Q))))))) : zG (d + 1) M_Pa_lost 4 [(2, Int.ofNat p), (0, l1), (0, l2)] [] mem Q := by
  rcases hp with rfl | rfl | rfl | rfl <;> exact zent_ok ok_Pa_lost (cuts := [4]) (f := 26) (And.intro rfl (zge (fun c6 => (hS.1 c6)) (fun c6 => (And.intro rfl (And.intro (zba (by decide) (by decide) rfl (hS.2 c6).1) (And.intro rfl (And.intro (zkw (by decide) (hS.2 c6).1) (zC.post (hS.2 c6).2 (fun r1 m1 hr1 => (zne (fun c5 => (fun x2 ex2 => ((hr1.1 c5) x2 ex2))) (fun c5 => (fun x3 ex3 => (fun x4 ex4 => (((hr1.2 c5) x3 ex3) x4 ex4))))))))))))))
end
end
section
section
theorem v_Od_feed {d : Nat} {a1 : Int} {mem : zMem} {Q : Int → zMem → Prop}  (hS : zC d K_Ta_append [(2, Int.ofNat 53), (1, a1)] mem (fun r1 m1 => ((r1 = 0 → Q (-3) m1) ∧ (r1 ≠ 0 → Q (m1 53 2) m1)))) : zC (d + 1) K_Od_feed [(2, Int.ofNat 0), (1, a1)] mem Q := by
  exact zC_of ok_Od_feed (by decide +kernel) (Nat.le_of_ble_eq_true rfl) rfl (Or.inr (Or.inl rfl)) (zent_ok ok_Od_feed (cuts := []) (f := 16) (And.intro rfl (And.intro rfl (zC.post hS (fun r1 m1 hr1 => (zeq (fun c2 => (hr1.1 c2)) (fun c2 => (And.intro rfl (And.intro rfl (hr1.2 c2))))))))))
theorem v_Od_end {d : Nat} {a1 : Int} {mem : zMem} {Q : Int → zMem → Prop}  (hS : ((a1 < 0 → Q (-1) mem) ∧ (0 ≤ a1 → ((a1 ≤ mem 53 2 → ∀ x1 : Int, x1 = mem 53 2 → ∀ m1 : zMem, m1 = zup mem 53 2 a1 → Q x1 m1) ∧ (mem 53 2 < a1 → Q (-1) mem))))) : zC (d + 1) K_Od_end [(2, Int.ofNat 0), (0, a1)] mem Q := by
  exact zC_of ok_Od_end (by decide +kernel) (Nat.le_of_ble_eq_true rfl) rfl (Or.inr (Or.inl rfl)) (zent_ok ok_Od_end (cuts := []) (f := 24) (zlt (fun c3 => (hS.1 c3)) (fun c3 => (And.intro rfl (And.intro rfl (zle (fun c2 => (And.intro rfl (And.intro rfl (fun x1 ex1 => (And.intro rfl (And.intro rfl (fun m1 em1 => ((((hS.2 c3).1 c2) x1 ex1) m1 em1)))))))) (fun c2 => ((hS.2 c3).2 c2))))))))
theorem v_Od_palace {d : Nat}  {mem : zMem} {Q : Int → zMem → Prop}  (hS : zC d K_Ta_understand [(2, Int.ofNat 53)] mem (fun r1 m1 => ∀ m2 : zMem, m2 = zup m1 53 2 0 → ((r1 ≠ 0 → zC d K_Pa_take [(2, Int.ofNat 1), (2, Int.ofNat 55)] m2 (fun r2 m3 => ∀ m4 : zMem, m4 = zup m3 0 11 0 → Q (m4 53 3) m4)) ∧ (r1 = 0 → Q (zsub (-10) (m2 53 5)) m2)))) : zC (d + 1) K_Od_palace [(2, Int.ofNat 0)] mem Q := by
  exact zC_of ok_Od_palace (by decide +kernel) (Nat.le_of_ble_eq_true rfl) rfl (Or.inr (Or.inl rfl)) (zent_ok ok_Od_palace (cuts := []) (f := 34) (And.intro rfl (And.intro rfl (zC.post hS (fun r1 m1 hr1 => (zall (And.intro rfl (And.intro rfl (fun m2 em2 => (zne (fun c3 => (And.intro rfl (And.intro rfl (And.intro rfl (And.intro rfl (zC.post ((hr1 m2 em2).1 c3) (fun r2 m3 hr2 => (And.intro rfl (fun m4 em4 => (And.intro rfl (And.intro rfl (hr2 m4 em4)))))))))))) (fun c3 => (And.intro rfl (And.intro rfl ((hr1 m2 em2).2 c3))))))))))))))
theorem v_Od_fault {d : Nat}  {mem : zMem} {Q : Int → zMem → Prop}  (hS : Q (mem 53 4) mem) : zC (d + 1) K_Od_fault [(2, Int.ofNat 0)] mem Q := by
  exact zC_of ok_Od_fault (by decide +kernel) (Nat.le_of_ble_eq_true rfl) rfl (Or.inr (Or.inl rfl)) (zent_ok ok_Od_fault (cuts := []) (f := 9) (And.intro rfl (And.intro rfl hS)))
theorem v_Od_rule {d : Nat} {a1 : Int} {mem : zMem} {Q : Int → zMem → Prop}  (hS : ((a1 = 0 → Q (mem 2 0) mem) ∧ (a1 = 1 → Q (mem 2 1) mem) ∧ (a1 = 2 → Q (mem 2 2) mem) ∧ (a1 = 3 → Q (mem 1 2) mem) ∧ (a1 < 0 ∨ 3 < a1 → Q (-1) mem))) : zC (d + 1) K_Od_rule [(2, Int.ofNat 0), (0, a1)] mem Q := by
  exact zC_of ok_Od_rule (by decide +kernel) (Nat.le_of_ble_eq_true rfl) rfl (Or.inr (Or.inl rfl)) (zent_ok ok_Od_rule (cuts := []) (f := 28) (And.intro (And.intro (fun c1 => (And.intro rfl (And.intro rfl (And.intro rfl (hS.1 c1))))) (And.intro (fun c1 => (And.intro rfl (And.intro rfl (And.intro rfl (hS.2.1 c1))))) (And.intro (fun c1 => (And.intro rfl (And.intro rfl (And.intro rfl (hS.2.2.1 c1))))) (And.intro (fun c1 => (And.intro rfl (And.intro rfl (hS.2.2.2.1 c1)))) trivial)))) (fun c1 => (hS.2.2.2.2 c1))))
theorem v_Od_door {d : Nat} {a1 a2 : Int} {mem : zMem} {Q : Int → zMem → Prop}  (hS : zC d K_Ho_hasDoor [(2, Int.ofNat 2), (0, a1)] mem (fun r1 m1 => ((r1 ≠ 0 → ((a2 = 0 → ((0 ≤ a1 ∧ a1 < 14) ∧ Q (m1 3 a1.toNat) m1)) ∧ (a2 = 1 → ((0 ≤ a1 ∧ a1 < 14) ∧ Q (m1 4 a1.toNat) m1)) ∧ (a2 = 2 → ((0 ≤ a1 ∧ a1 < 14) ∧ Q (m1 5 a1.toNat) m1)) ∧ (a2 = 3 → zC d K_Ho_isWalled [(2, Int.ofNat 2), (0, a1)] m1 (fun r2 m2 => ((r2 = 0 → Q 0 m2) ∧ (r2 ≠ 0 → Q 1 m2)))) ∧ (a2 < 0 ∨ 3 < a2 → Q (-1) m1))) ∧ (r1 = 0 → Q (-1) m1)))) : zC (d + 1) K_Od_door [(2, Int.ofNat 0), (0, a1), (0, a2)] mem Q := by
  exact zC_of ok_Od_door (by decide +kernel) (Nat.le_of_ble_eq_true rfl) rfl (Or.inr (Or.inl rfl)) (zent_ok ok_Od_door (cuts := []) (f := 48) (And.intro rfl (And.intro rfl (And.intro rfl (zC.post hS (fun r1 m1 hr1 => (zne (fun c5 => (And.intro (And.intro (fun c4 => (And.intro rfl (And.intro rfl (And.intro rfl (And.intro (zbd rfl rfl ((hr1.1 c5).1 c4).1) ((hr1.1 c5).1 c4).2))))) (And.intro (fun c4 => (And.intro rfl (And.intro rfl (And.intro rfl (And.intro (zbd rfl rfl ((hr1.1 c5).2.1 c4).1) ((hr1.1 c5).2.1 c4).2))))) (And.intro (fun c4 => (And.intro rfl (And.intro rfl (And.intro rfl (And.intro (zbd rfl rfl ((hr1.1 c5).2.2.1 c4).1) ((hr1.1 c5).2.2.1 c4).2))))) (And.intro (fun c4 => (And.intro rfl (And.intro rfl (And.intro rfl (zC.post ((hr1.1 c5).2.2.2.1 c4) (fun r2 m2 hr2 => (zeq (fun c3 => (hr2.1 c3)) (fun c3 => (hr2.2 c3))))))))) trivial)))) (fun c4 => ((hr1.1 c5).2.2.2.2 c4)))) (fun c5 => (hr1.2 c5)))))))))
theorem v_Od_one {d : Nat} {a1 a2 : Int} {mem : zMem} {Q : Int → zMem → Prop}  (hS : zC d K_Pa_hasOne [(2, Int.ofNat 1), (0, a1)] mem (fun r1 m1 => ((r1 ≠ 0 → ((0 ≤ a1 ∧ a1 < 5) ∧ ((a2 = 0 → Q (m1 (zrt 8 a1.toNat) 0) m1) ∧ (a2 = 1 → zC d K_Od_orNone [(0, m1 (zrt 8 a1.toNat) 1)] m1 (fun r2 m2 => Q r2 m2)) ∧ (a2 = 2 → zC d K_Od_orNone [(0, m1 (zrt 8 a1.toNat) 2)] m1 (fun r3 m3 => Q r3 m3)) ∧ (a2 = 3 → zC d K_Wa_choices [(2, Int.ofNat (zrt 8 a1.toNat)), (2, Int.ofNat 2)] m1 (fun r4 m4 => Q r4 m4)) ∧ (a2 < 0 ∨ 3 < a2 → Q (-1) m1)))) ∧ (r1 = 0 → Q (-1) m1)))) : zC (d + 1) K_Od_one [(2, Int.ofNat 0), (0, a1), (0, a2)] mem Q := by
  exact zC_of ok_Od_one (by decide +kernel) (Nat.le_of_ble_eq_true rfl) rfl (Or.inr (Or.inl rfl)) (zent_ok ok_Od_one (cuts := []) (f := 39) (And.intro rfl (And.intro rfl (zC.post hS (fun r1 m1 hr1 => (zne (fun c6 => (And.intro rfl (And.intro rfl (And.intro (zba (by decide) (by decide) rfl (hr1.1 c6).1) (And.intro (And.intro (fun c5 => (And.intro (zkw (by decide) (hr1.1 c6).1) ((hr1.1 c6).2.1 c5))) (And.intro (fun c5 => (And.intro (zkw (by decide) (hr1.1 c6).1) (zC.post ((hr1.1 c6).2.2.1 c5) (fun r2 m2 hr2 => hr2)))) (And.intro (fun c5 => (And.intro (zkw (by decide) (hr1.1 c6).1) (zC.post ((hr1.1 c6).2.2.2.1 c5) (fun r3 m3 hr3 => hr3)))) (And.intro (fun c5 => (And.intro rfl (And.intro rfl (And.intro (zkw (by decide) (hr1.1 c6).1) (zC.post ((hr1.1 c6).2.2.2.2.1 c5) (fun r4 m4 hr4 => hr4)))))) trivial)))) (fun c5 => ((hr1.1 c6).2.2.2.2.2 c5))))))) (fun c6 => (hr1.2 c6))))))))
theorem v_Od_orNone {d : Nat} {a0 : Int} {mem : zMem} {Q : Int → zMem → Prop}  (hS : ((a0 ≠ -1 → Q a0 mem) ∧ (a0 = -1 → Q (-4) mem))) : zC (d + 1) K_Od_orNone [(0, a0)] mem Q := by
  exact zC_of ok_Od_orNone (by decide +kernel) (Nat.le_of_ble_eq_true rfl) rfl (Or.inr (Or.inl rfl)) (zent_ok ok_Od_orNone (cuts := []) (f := 12) (zne (fun c1 => (hS.1 c1)) (fun c1 => (hS.2 c1))))
theorem v_Od_doors {d : Nat} {a1 : Int} {mem : zMem} {Q : Int → zMem → Prop}  (hS : zC d K_Ho_hasRoom [(2, Int.ofNat 2), (0, a1)] mem (fun r1 m1 => ((r1 = 0 → Q (-1) m1) ∧ (r1 ≠ 0 → ((0 ≤ a1 ∧ a1 < 10) ∧ Q (m1 6 a1.toNat) m1))))) : zC (d + 1) K_Od_doors [(2, Int.ofNat 0), (0, a1)] mem Q := by
  exact zC_of ok_Od_doors (by decide +kernel) (Nat.le_of_ble_eq_true rfl) rfl (Or.inr (Or.inl rfl)) (zent_ok ok_Od_doors (cuts := []) (f := 20) (And.intro rfl (And.intro rfl (And.intro rfl (zC.post hS (fun r1 m1 hr1 => (zeq (fun c2 => (hr1.1 c2)) (fun c2 => (And.intro rfl (And.intro rfl (And.intro rfl (And.intro (zbd rfl rfl (hr1.2 c2).1) (hr1.2 c2).2))))))))))))
theorem v_Od_law {d : Nat} {a1 : Int} {mem : zMem} {Q : Int → zMem → Prop}  (hS : ((a1 < 0 → Q (-1) mem) ∧ (0 ≤ a1 → ((a1 < 4 → ∀ x1 : Int, x1 = mem 2 1 → ∀ m1 : zMem, m1 = zup mem 2 1 a1 → Q x1 m1) ∧ (4 ≤ a1 → Q (-1) mem))))) : zC (d + 1) K_Od_law [(2, Int.ofNat 0), (0, a1)] mem Q := by
  exact zC_of ok_Od_law (by decide +kernel) (Nat.le_of_ble_eq_true rfl) rfl (Or.inr (Or.inl rfl)) (zent_ok ok_Od_law (cuts := []) (f := 24) (zlt (fun c3 => (hS.1 c3)) (fun c3 => (zlt (fun c2 => (And.intro rfl (And.intro rfl (And.intro rfl (fun x1 ex1 => (And.intro rfl (And.intro rfl (And.intro rfl (fun m1 em1 => ((((hS.2 c3).1 c2) x1 ex1) m1 em1)))))))))) (fun c2 => ((hS.2 c3).2 c2))))))
theorem v_Od_build {d : Nat} {a1 a2 a3 : Int} {mem : zMem} {Q : Int → zMem → Prop}  (hS : zC d K_Ho_hasRoom [(2, Int.ofNat 2), (0, a1)] mem (fun r1 m1 => ((r1 = 0 → Q (-1) m1) ∧ (r1 ≠ 0 → zC d K_Ho_hasRoom [(2, Int.ofNat 2), (0, a2)] m1 (fun r2 m2 => ((r2 = 0 → Q (-1) m2) ∧ (r2 ≠ 0 → ((a1 = a2 → Q (-1) m2) ∧ (a1 ≠ a2 → ((a3 < 0 → Q (-1) m2) ∧ (0 ≤ a3 → ((a3 < 4 → zC d K_Ho_add [(2, Int.ofNat 2), (0, a1), (0, a2), (0, a3)] m2 (fun r3 m3 => ((r3 = 0 → Q (-3) m3) ∧ (r3 ≠ 0 → Q (zsub (m3 2 2) 1) m3)))) ∧ (4 ≤ a3 → Q (-1) m2))))))))))))) : zC (d + 1) K_Od_build [(2, Int.ofNat 0), (0, a1), (0, a2), (0, a3)] mem Q := by
  exact zC_of ok_Od_build (by decide +kernel) (Nat.le_of_ble_eq_true rfl) rfl (Or.inr (Or.inl rfl)) (zent_ok ok_Od_build (cuts := []) (f := 44) (And.intro rfl (And.intro rfl (And.intro rfl (zC.post hS (fun r1 m1 hr1 => (zeq (fun c9 => (hr1.1 c9)) (fun c9 => (And.intro rfl (And.intro rfl (And.intro rfl (zC.post (hr1.2 c9) (fun r2 m2 hr2 => (zeq (fun c8 => (hr2.1 c8)) (fun c8 => (zeq (fun c7 => ((hr2.2 c8).1 c7)) (fun c7 => (zlt (fun c6 => (((hr2.2 c8).2 c7).1 c6)) (fun c6 => (zlt (fun c5 => (And.intro rfl (And.intro rfl (And.intro rfl (zC.post ((((hr2.2 c8).2 c7).2 c6).1 c5) (fun r3 m3 hr3 => (zeq (fun c4 => (hr3.1 c4)) (fun c4 => (And.intro rfl (And.intro rfl (And.intro rfl (hr3.2 c4)))))))))))) (fun c5 => ((((hr2.2 c8).2 c7).2 c6).2 c5))))))))))))))))))))))
theorem v_Od_wall {d : Nat} {a1 a2 : Int} {mem : zMem} {Q : Int → zMem → Prop}  (hS : zC d K_Ho_hasDoor [(2, Int.ofNat 2), (0, a1)] mem (fun r1 m1 => ((r1 ≠ 0 → zC d K_Ho_isWalled [(2, Int.ofNat 2), (0, a1)] m1 (fun r2 m2 => ((r2 = 0 → zC d K_Ho_setWalled [(2, Int.ofNat 2), (0, a1), (0, a2)] m2 (fun r3 m3 => Q 0 m3)) ∧ (r2 ≠ 0 → zC d K_Ho_setWalled [(2, Int.ofNat 2), (0, a1), (0, a2)] m2 (fun r4 m4 => Q 1 m4))))) ∧ (r1 = 0 → Q (-1) m1)))) : zC (d + 1) K_Od_wall [(2, Int.ofNat 0), (0, a1), (0, a2)] mem Q := by
  exact zC_of ok_Od_wall (by decide +kernel) (Nat.le_of_ble_eq_true rfl) rfl (Or.inr (Or.inl rfl)) (zent_ok ok_Od_wall (cuts := []) (f := 31) (And.intro rfl (And.intro rfl (And.intro rfl (zC.post hS (fun r1 m1 hr1 => (zne (fun c6 => (And.intro rfl (And.intro rfl (And.intro rfl (zC.post (hr1.1 c6) (fun r2 m2 hr2 => (zeq (fun c5 => (zall (And.intro rfl (And.intro rfl (And.intro rfl (zC.post (hr2.1 c5) (fun r3 m3 hr3 => hr3))))))) (fun c5 => (zall (And.intro rfl (And.intro rfl (And.intro rfl (zC.post (hr2.2 c5) (fun r4 m4 hr4 => hr4)))))))))))))) (fun c6 => (hr1.2 c6)))))))))
theorem v_Od_stand {d : Nat} {a1 a2 : Int} {mem : zMem} {Q : Int → zMem → Prop}  (hS : zC d K_Pa_hasOne [(2, Int.ofNat 1), (0, a1)] mem (fun r1 m1 => ((r1 = 0 → Q (-1) m1) ∧ (r1 ≠ 0 → zC d K_Ho_hasRoom [(2, Int.ofNat 2), (0, a2)] m1 (fun r2 m2 => ((r2 ≠ 0 → ((0 ≤ a1 ∧ a1 < 5) ∧ ∀ x3 : Int, x3 = m2 (zrt 8 a1.toNat) 0 → ((0 ≤ a1 ∧ a1 < 5) ∧ zC d K_Wa_standNew [(2, Int.ofNat (zrt 8 a1.toNat)), (0, a2)] m2 (fun r4 m3 => Q x3 m3)))) ∧ (r2 = 0 → Q (-1) m2))))))) : zC (d + 1) K_Od_stand [(2, Int.ofNat 0), (0, a1), (0, a2)] mem Q := by
  exact zC_of ok_Od_stand (by decide +kernel) (Nat.le_of_ble_eq_true rfl) rfl (Or.inr (Or.inl rfl)) (zent_ok ok_Od_stand (cuts := []) (f := 34) (And.intro rfl (And.intro rfl (zC.post hS (fun r1 m1 hr1 => (zeq (fun c6 => (hr1.1 c6)) (fun c6 => (And.intro rfl (And.intro rfl (And.intro rfl (zC.post (hr1.2 c6) (fun r2 m2 hr2 => (zne (fun c5 => (And.intro rfl (And.intro rfl (And.intro (zba (by decide) (by decide) rfl (hr2.1 c5).1) (And.intro (zkw (by decide) (hr2.1 c5).1) (fun x3 ex3 => (And.intro rfl (And.intro rfl (And.intro (zba (by decide) (by decide) rfl ((hr2.1 c5).2 x3 ex3).1) (And.intro (zkw (by decide) ((hr2.1 c5).2 x3 ex3).1) (zC.post ((hr2.1 c5).2 x3 ex3).2 (fun r4 m3 hr4 => hr4)))))))))))) (fun c5 => (hr2.2 c5)))))))))))))))
theorem v_Od_go {d : Nat} {a1 a2 : Int} {mem : zMem} {Q : Int → zMem → Prop}  (hS : zC d K_Pa_hasOne [(2, Int.ofNat 1), (0, a1)] mem (fun r1 m1 => ((r1 = 0 → Q (-1) m1) ∧ (r1 ≠ 0 → zC d K_Ho_hasDoor [(2, Int.ofNat 2), (0, a2)] m1 (fun r2 m2 => ((r2 ≠ 0 → ((0 ≤ a1 ∧ a1 < 5) ∧ zC d K_Wa_step [(2, Int.ofNat (zrt 8 a1.toNat)), (2, Int.ofNat 2), (0, a2)] m2 (fun r3 m3 => ((r3 = 0 → Q (-4) m3) ∧ (r3 ≠ 0 → ((0 ≤ a1 ∧ a1 < 5) ∧ Q (m3 (zrt 8 a1.toNat) 0) m3)))))) ∧ (r2 = 0 → Q (-1) m2))))))) : zC (d + 1) K_Od_go [(2, Int.ofNat 0), (0, a1), (0, a2)] mem Q := by
  exact zC_of ok_Od_go (by decide +kernel) (Nat.le_of_ble_eq_true rfl) rfl (Or.inr (Or.inl rfl)) (zent_ok ok_Od_go (cuts := []) (f := 38) (And.intro rfl (And.intro rfl (zC.post hS (fun r1 m1 hr1 => (zeq (fun c6 => (hr1.1 c6)) (fun c6 => (And.intro rfl (And.intro rfl (And.intro rfl (zC.post (hr1.2 c6) (fun r2 m2 hr2 => (zne (fun c5 => (And.intro rfl (And.intro rfl (And.intro (zba (by decide) (by decide) rfl (hr2.1 c5).1) (And.intro rfl (And.intro rfl (And.intro (zkw (by decide) (hr2.1 c5).1) (zC.post (hr2.1 c5).2 (fun r3 m3 hr3 => (zeq (fun c4 => (hr3.1 c4)) (fun c4 => (And.intro rfl (And.intro rfl (And.intro (zba (by decide) (by decide) rfl (hr3.2 c4).1) (And.intro (zkw (by decide) (hr3.2 c4).1) (hr3.2 c4).2))))))))))))))) (fun c5 => (hr2.2 c5)))))))))))))))
theorem v_Od_far {d : Nat} {a1 a2 : Int} {mem : zMem} {Q : Int → zMem → Prop}  (hS : zC d K_Pa_hasOne [(2, Int.ofNat 1), (0, a1)] mem (fun r1 m1 => ((r1 = 0 → Q (-1) m1) ∧ (r1 ≠ 0 → zC d K_Ho_hasRoom [(2, Int.ofNat 2), (0, a2)] m1 (fun r2 m2 => ((r2 ≠ 0 → ((0 ≤ a1 ∧ a1 < 5) ∧ zC d K_Wy_leastTo [(2, Int.ofNat 70), (2, Int.ofNat 2), (2, Int.ofNat (zrt 8 a1.toNat)), (0, a2)] m2 (fun r3 m3 => Q r3 m3))) ∧ (r2 = 0 → Q (-1) m2))))))) : zC (d + 1) K_Od_far [(2, Int.ofNat 0), (0, a1), (0, a2)] mem Q := by
  exact zC_of ok_Od_far (by decide +kernel) (Nat.le_of_ble_eq_true rfl) rfl (Or.inr (Or.inl rfl)) (zent_ok ok_Od_far (cuts := []) (f := 31) (And.intro rfl (And.intro rfl (zC.post hS (fun r1 m1 hr1 => (zeq (fun c5 => (hr1.1 c5)) (fun c5 => (And.intro rfl (And.intro rfl (And.intro rfl (zC.post (hr1.2 c5) (fun r2 m2 hr2 => (zne (fun c4 => (And.intro rfl (And.intro rfl (And.intro rfl (And.intro rfl (And.intro rfl (And.intro (zba (by decide) (by decide) rfl (hr2.1 c4).1) (And.intro rfl (zC.post (hr2.1 c4).2 (fun r3 m3 hr3 => hr3)))))))))) (fun c4 => (hr2.2 c4)))))))))))))))
theorem v_Od_way {d : Nat} {a1 a2 a3 : Int} {mem : zMem} {Q : Int → zMem → Prop}  (hS : zC d K_Pa_hasOne [(2, Int.ofNat 1), (0, a1)] mem (fun r1 m1 => ((r1 = 0 → Q (-1) m1) ∧ (r1 ≠ 0 → zC d K_Ho_hasRoom [(2, Int.ofNat 2), (0, a2)] m1 (fun r2 m2 => ((r2 = 0 → Q (-1) m2) ∧ (r2 ≠ 0 → ((0 ≤ a3 → ((0 ≤ a1 ∧ a1 < 5) ∧ zC d K_Wy_leastTo [(2, Int.ofNat 70), (2, Int.ofNat 2), (2, Int.ofNat (zrt 8 a1.toNat)), (0, a2)] m2 (fun r3 m3 => ((r3 ≤ a3 → Q (-4) m3) ∧ (a3 < r3 → zC d K_Wy_stepOf [(2, Int.ofNat 70), (0, a3)] m3 (fun r4 m4 => Q r4 m4)))))) ∧ (a3 < 0 → Q (-1) m2))))))))) : zC (d + 1) K_Od_way [(2, Int.ofNat 0), (0, a1), (0, a2), (0, a3)] mem Q := by
  exact zC_of ok_Od_way (by decide +kernel) (Nat.le_of_ble_eq_true rfl) rfl (Or.inr (Or.inl rfl)) (zent_ok ok_Od_way (cuts := []) (f := 43) (And.intro rfl (And.intro rfl (zC.post hS (fun r1 m1 hr1 => (zeq (fun c8 => (hr1.1 c8)) (fun c8 => (And.intro rfl (And.intro rfl (And.intro rfl (zC.post (hr1.2 c8) (fun r2 m2 hr2 => (zeq (fun c7 => (hr2.1 c7)) (fun c7 => (zge (fun c6 => (And.intro rfl (And.intro rfl (And.intro rfl (And.intro rfl (And.intro rfl (And.intro (zba (by decide) (by decide) rfl ((hr2.2 c7).1 c6).1) (And.intro rfl (zC.post ((hr2.2 c7).1 c6).2 (fun r3 m3 hr3 => (zall (zge (fun c5 => (hr3.1 c5)) (fun c5 => (And.intro rfl (And.intro rfl (zC.post (hr3.2 c5) (fun r4 m4 hr4 => hr4))))))))))))))))) (fun c6 => ((hr2.2 c7).2 c6)))))))))))))))))
theorem v_Od_can {d : Nat} {a1 : Int} {mem : zMem} {Q : Int → zMem → Prop}  (hS : zC d K_Pa_hasOne [(2, Int.ofNat 1), (0, a1)] mem (fun r1 m1 => ((r1 = 0 → Q (-1) m1) ∧ (r1 ≠ 0 → ((0 ≤ a1 ∧ a1 < 5) ∧ zC d K_Wy_roomsOf [(2, Int.ofNat 70), (2, Int.ofNat 2), (2, Int.ofNat (zrt 8 a1.toNat))] m1 (fun r2 m2 => Q r2 m2)))))) : zC (d + 1) K_Od_can [(2, Int.ofNat 0), (0, a1)] mem Q := by
  exact zC_of ok_Od_can (by decide +kernel) (Nat.le_of_ble_eq_true rfl) rfl (Or.inr (Or.inl rfl)) (zent_ok ok_Od_can (cuts := []) (f := 24) (And.intro rfl (And.intro rfl (zC.post hS (fun r1 m1 hr1 => (zeq (fun c3 => (hr1.1 c3)) (fun c3 => (And.intro rfl (And.intro rfl (And.intro rfl (And.intro rfl (And.intro rfl (And.intro (zba (by decide) (by decide) rfl (hr1.2 c3).1) (And.intro rfl (zC.post (hr1.2 c3).2 (fun r2 m2 hr2 => hr2))))))))))))))))
theorem v_Od_path {d : Nat} {a1 a2 : Int} {mem : zMem} {Q : Int → zMem → Prop}  (hS : zC d K_Ho_hasRoom [(2, Int.ofNat 2), (0, a1)] mem (fun r1 m1 => ((r1 = 0 → Q (-1) m1) ∧ (r1 ≠ 0 → zC d K_Ho_hasRoom [(2, Int.ofNat 2), (0, a2)] m1 (fun r2 m2 => ((r2 ≠ 0 → zC d K_Wa_standNew [(2, Int.ofNat 69), (0, a1)] m2 (fun r3 m3 => zC d K_Wy_leastTo [(2, Int.ofNat 70), (2, Int.ofNat 2), (2, Int.ofNat 69), (0, a2)] m3 (fun r4 m4 => Q r4 m4))) ∧ (r2 = 0 → Q (-1) m2))))))) : zC (d + 1) K_Od_path [(2, Int.ofNat 0), (0, a1), (0, a2)] mem Q := by
  exact zC_of ok_Od_path (by decide +kernel) (Nat.le_of_ble_eq_true rfl) rfl (Or.inr (Or.inl rfl)) (zent_ok ok_Od_path (cuts := []) (f := 33) (And.intro rfl (And.intro rfl (And.intro rfl (zC.post hS (fun r1 m1 hr1 => (zeq (fun c6 => (hr1.1 c6)) (fun c6 => (And.intro rfl (And.intro rfl (And.intro rfl (zC.post (hr1.2 c6) (fun r2 m2 hr2 => (zne (fun c5 => (And.intro rfl (And.intro rfl (zC.post (hr2.1 c5) (fun r3 m3 hr3 => (And.intro rfl (And.intro rfl (And.intro rfl (And.intro rfl (And.intro rfl (zC.post hr3 (fun r4 m4 hr4 => hr4)))))))))))) (fun c5 => (hr2.2 c5))))))))))))))))
theorem v_Od_pairs {d : Nat}  {mem : zMem} {Q : Int → zMem → Prop}  (hS : zC d K_Bu_pairsOf [(2, Int.ofNat 112), (2, Int.ofNat 2)] mem (fun r1 m1 => Q r1 m1)) : zC (d + 1) K_Od_pairs [(2, Int.ofNat 0)] mem Q := by
  exact zC_of ok_Od_pairs (by decide +kernel) (Nat.le_of_ble_eq_true rfl) rfl (Or.inr (Or.inl rfl)) (zent_ok ok_Od_pairs (cuts := []) (f := 12) (And.intro rfl (And.intro rfl (And.intro rfl (And.intro rfl (zC.post hS (fun r1 m1 hr1 => hr1)))))))
theorem v_Od_life {d : Nat}  {mem : zMem} {Q : Int → zMem → Prop}  (hS : zG (d + 1) M_Od_life 4 [(2, Int.ofNat 0), (0, 0), (0, 0)] [] mem Q) : zC (d + 1) K_Od_life [(2, Int.ofNat 0)] mem Q := by
  exact zC_of ok_Od_life (by decide +kernel) (Nat.le_of_ble_eq_true rfl) rfl (Or.inr (Or.inl rfl)) (zent_ok ok_Od_life (cuts := [4]) (f := 31) (zall (zall hS)))
theorem v_Od_life_4 {d : Nat} {l1 l2 : Int} {mem : zMem} {Q : Int → zMem → Prop}  (hS : ((mem 2 0 ≤ l2 → Q l1 mem) ∧ (l2 < mem 2 0 → zC d K_Ho_isForLife [(2, Int.ofNat 2), (0, l2)] mem (fun r1 m1 => ((r1 = 0 → ∀ x2 : Int, x2 = zadd l2 1 → zG (d + 1) M_Od_life 4 [(2, Int.ofNat 0), (0, l1), (0, x2)] [] m1 Q) ∧ (r1 ≠ 0 → ∀ x3 : Int, x3 = zor l1 (zshl 1 l2) → ∀ x4 : Int, x4 = zadd l2 1 → zG (d + 1) M_Od_life 4 [(2, Int.ofNat 0), (0, x3), (0, x4)] [] m1 Q)))))) : zG (d + 1) M_Od_life 4 [(2, Int.ofNat 0), (0, l1), (0, l2)] [] mem Q := by
  exact zent_ok ok_Od_life (cuts := [4]) (f := 31) (And.intro rfl (And.intro rfl (And.intro rfl (zge (fun c6 => (hS.1 c6)) (fun c6 => (And.intro rfl (And.intro rfl (And.intro rfl (zC.post (hS.2 c6) (fun r1 m1 hr1 => (zeq (fun c5 => (fun x2 ex2 => ((hr1.1 c5) x2 ex2))) (fun c5 => (fun x3 ex3 => (fun x4 ex4 => (((hr1.2 c5) x3 ex3) x4 ex4)))))))))))))))
theorem v_Od_trap {d : Nat} {a1 a2 : Int} {mem : zMem} {Q : Int → zMem → Prop}  (hS : zC d K_Ho_hasRoom [(2, Int.ofNat 2), (0, a1)] mem (fun r1 m1 => ((r1 = 0 → Q (-1) m1) ∧ (r1 ≠ 0 → zC d K_Ho_hasDoor [(2, Int.ofNat 2), (0, a2)] m1 (fun r2 m2 => ((r2 = 0 → Q (-1) m2) ∧ (r2 ≠ 0 → zC d K_Ho_isOf [(2, Int.ofNat 2), (0, a2), (0, a1)] m2 (fun r3 m3 => ((r3 ≠ 0 → zC d K_Ho_isWalled [(2, Int.ofNat 2), (0, a2)] m3 (fun r4 m4 => ((r4 = 0 → zC d K_Ho_choices [(2, Int.ofNat 2), (0, a1), (0, a2), (0, -1)] m4 (fun r5 m5 => ((r5 ≠ 0 → Q 0 m5) ∧ (r5 = 0 → Q 1 m5)))) ∧ (r4 ≠ 0 → Q (-2) m4)))) ∧ (r3 = 0 → Q (-1) m3)))))))))) : zC (d + 1) K_Od_trap [(2, Int.ofNat 0), (0, a1), (0, a2)] mem Q := by
  exact zC_of ok_Od_trap (by decide +kernel) (Nat.le_of_ble_eq_true rfl) rfl (Or.inr (Or.inl rfl)) (zent_ok ok_Od_trap (cuts := []) (f := 46) (And.intro rfl (And.intro rfl (And.intro rfl (zC.post hS (fun r1 m1 hr1 => (zeq (fun c10 => (hr1.1 c10)) (fun c10 => (And.intro rfl (And.intro rfl (And.intro rfl (zC.post (hr1.2 c10) (fun r2 m2 hr2 => (zeq (fun c9 => (hr2.1 c9)) (fun c9 => (And.intro rfl (And.intro rfl (And.intro rfl (zC.post (hr2.2 c9) (fun r3 m3 hr3 => (zne (fun c8 => (And.intro rfl (And.intro rfl (And.intro rfl (zC.post (hr3.1 c8) (fun r4 m4 hr4 => (zeq (fun c7 => (And.intro rfl (And.intro rfl (And.intro rfl (zC.post (hr4.1 c7) (fun r5 m5 hr5 => (zne (fun c6 => (hr5.1 c6)) (fun c6 => (hr5.2 c6))))))))) (fun c7 => (hr4.2 c7))))))))) (fun c8 => (hr3.2 c8)))))))))))))))))))))))
theorem v_Od_secret {d : Nat}  {mem : zMem} {Q : Int → zMem → Prop}  (hS : zG (d + 1) M_Od_secret 4 [(2, Int.ofNat 0), (0, 0), (0, 0)] [] mem Q) : zC (d + 1) K_Od_secret [(2, Int.ofNat 0)] mem Q := by
  exact zC_of ok_Od_secret (by decide +kernel) (Nat.le_of_ble_eq_true rfl) rfl (Or.inr (Or.inl rfl)) (zent_ok ok_Od_secret (cuts := [4]) (f := 32) (zall (zall hS)))
theorem v_Od_secret_4 {d : Nat} {l1 l2 : Int} {mem : zMem} {Q : Int → zMem → Prop}  (hS : ((mem 2 0 ≤ l2 → Q l1 mem) ∧ (l2 < mem 2 0 → ((0 ≤ l2 ∧ l2 < 10) ∧ ((mem 6 l2.toNat ≠ 0 → ∀ x1 : Int, x1 = zadd l2 1 → zG (d + 1) M_Od_secret 4 [(2, Int.ofNat 0), (0, l1), (0, x1)] [] mem Q) ∧ (mem 6 l2.toNat = 0 → ∀ x2 : Int, x2 = zor l1 (zshl 1 l2) → ∀ x3 : Int, x3 = zadd l2 1 → zG (d + 1) M_Od_secret 4 [(2, Int.ofNat 0), (0, x2), (0, x3)] [] mem Q)))))) : zG (d + 1) M_Od_secret 4 [(2, Int.ofNat 0), (0, l1), (0, l2)] [] mem Q := by
  exact zent_ok ok_Od_secret (cuts := [4]) (f := 32) (And.intro rfl (And.intro rfl (And.intro rfl (zge (fun c5 => (hS.1 c5)) (fun c5 => (And.intro rfl (And.intro rfl (And.intro rfl (And.intro (zbd rfl rfl (hS.2 c5).1) (zne (fun c4 => (fun x1 ex1 => (((hS.2 c5).2.1 c4) x1 ex1))) (fun c4 => (fun x2 ex2 => (fun x3 ex3 => ((((hS.2 c5).2.2 c4) x2 ex2) x3 ex3))))))))))))))
theorem v_Od_safe {d : Nat}  {mem : zMem} {Q : Int → zMem → Prop}  (hS : zC d K_Ho_losing [(2, Int.ofNat 2)] mem (fun r1 m1 => ((r1 ≠ 0 → Q 0 m1) ∧ (r1 = 0 → Q 1 m1)))) : zC (d + 1) K_Od_safe [(2, Int.ofNat 0)] mem Q := by
  exact zC_of ok_Od_safe (by decide +kernel) (Nat.le_of_ble_eq_true rfl) rfl (Or.inr (Or.inl rfl)) (zent_ok ok_Od_safe (cuts := []) (f := 14) (And.intro rfl (And.intro rfl (And.intro rfl (zC.post hS (fun r1 m1 hr1 => (zne (fun c2 => (hr1.1 c2)) (fun c2 => (hr1.2 c2)))))))))
theorem v_Od_round {d : Nat} {a1 a2 : Int} {mem : zMem} {Q : Int → zMem → Prop}  (hS : zC d K_Pa_hasOne [(2, Int.ofNat 1), (0, a1)] mem (fun r1 m1 => ((r1 = 0 → Q (-1) m1) ∧ (r1 ≠ 0 → ((a2 < 0 → Q (-1) m1) ∧ (0 ≤ a2 → ((zshl 1 (m1 2 0) ≤ a2 → Q (-1) m1) ∧ (a2 < zshl 1 (m1 2 0) → zC d K_Jd_bitCount [(0, a2)] m1 (fun r2 m2 => ((r2 ≤ 5 → ((0 ≤ a1 ∧ a1 < 5) ∧ zC d K_Ro_least [(2, Int.ofNat 77), (2, Int.ofNat 2), (2, Int.ofNat (zrt 8 a1.toNat)), (0, a2)] m2 (fun r3 m3 => Q r3 m3))) ∧ (5 < r2 → Q (-1) m2))))))))))) : zC (d + 1) K_Od_round [(2, Int.ofNat 0), (0, a1), (0, a2)] mem Q := by
  exact zC_of ok_Od_round (by decide +kernel) (Nat.le_of_ble_eq_true rfl) rfl (Or.inr (Or.inl rfl)) (zent_ok ok_Od_round (cuts := []) (f := 39) (And.intro rfl (And.intro rfl (zC.post hS (fun r1 m1 hr1 => (zeq (fun c7 => (hr1.1 c7)) (fun c7 => (zlt (fun c6 => ((hr1.2 c7).1 c6)) (fun c6 => (And.intro rfl (And.intro rfl (And.intro rfl (zge (fun c5 => (((hr1.2 c7).2 c6).1 c5)) (fun c5 => (zC.post (((hr1.2 c7).2 c6).2 c5) (fun r2 m2 hr2 => (zle (fun c4 => (And.intro rfl (And.intro rfl (And.intro rfl (And.intro rfl (And.intro rfl (And.intro (zba (by decide) (by decide) rfl (hr2.1 c4).1) (And.intro rfl (zC.post (hr2.1 c4).2 (fun r3 m3 hr3 => hr3)))))))))) (fun c4 => (hr2.2 c4)))))))))))))))))))
theorem v_Od_tour {d : Nat} {a1 a2 : Int} {mem : zMem} {Q : Int → zMem → Prop}  (hS : ((a2 < 10 → zC d K_Ho_hasRoom [(2, Int.ofNat 2), (0, a1)] mem (fun r1 m1 => ((r1 = 0 → Q (-1) m1) ∧ (r1 ≠ 0 → ((a2 = 0 → zC d K_Ho_openDoors [(2, Int.ofNat 2)] m1 (fun r2 m2 => ((r2 ≤ 8 → zC d K_To_prepare [(2, Int.ofNat 87), (2, Int.ofNat 2), (0, a1)] m2 (fun r3 m3 => zC d K_To_all [(2, Int.ofNat 87)] m3 (fun r4 m4 => zG (d + 1) M_Od_tour 107 [(9, 0), (9, 0), (9, 0), (9, 0)] [(0, r4)] m4 Q))) ∧ (8 < r2 → Q (-2) m2)))) ∧ (a2 ≠ 0 → Q (-1) m1)))))) ∧ (10 ≤ a2 → ((18 ≤ a2 → zC d K_Ho_hasRoom [(2, Int.ofNat 2), (0, a1)] mem (fun r8 m5 => ((r8 = 0 → Q (-1) m5) ∧ (r8 ≠ 0 → ((a2 = 0 → zC d K_Ho_openDoors [(2, Int.ofNat 2)] m5 (fun r9 m6 => ((r9 ≤ 8 → zC d K_To_prepare [(2, Int.ofNat 87), (2, Int.ofNat 2), (0, a1)] m6 (fun r10 m7 => zC d K_To_all [(2, Int.ofNat 87)] m7 (fun r11 m8 => zG (d + 1) M_Od_tour 107 [(9, 0), (9, 0), (9, 0), (9, 0)] [(0, r11)] m8 Q))) ∧ (8 < r9 → Q (-2) m6)))) ∧ (a2 ≠ 0 → Q (-1) m5)))))) ∧ (a2 < 18 → zC d K_Ho_hasRoom [(2, Int.ofNat 2), (0, a1)] mem (fun r15 m9 => ((r15 = 0 → Q (-1) m9) ∧ (r15 ≠ 0 → ((a2 = 0 → zC d K_Ho_openDoors [(2, Int.ofNat 2)] m9 (fun r16 m10 => ((r16 ≤ 8 → zC d K_To_prepare [(2, Int.ofNat 87), (2, Int.ofNat 2), (0, a1)] m10 (fun r17 m11 => zC d K_To_stepOf [(2, Int.ofNat 87), (2, Int.ofNat 2), (0, zsub a2 10)] m11 (fun r18 m12 => zG (d + 1) M_Od_tour 107 [(9, 0), (9, 0), (9, 0), (9, 0)] [(0, r18)] m12 Q))) ∧ (8 < r16 → Q (-2) m10)))) ∧ (a2 ≠ 0 → zC d K_Ho_openDoors [(2, Int.ofNat 2)] m9 (fun r20 m13 => ((r20 ≤ 8 → zC d K_To_prepare [(2, Int.ofNat 87), (2, Int.ofNat 2), (0, a1)] m13 (fun r21 m14 => zC d K_To_stepOf [(2, Int.ofNat 87), (2, Int.ofNat 2), (0, zsub a2 10)] m14 (fun r22 m15 => zG (d + 1) M_Od_tour 107 [(9, 0), (9, 0), (9, 0), (9, 0)] [(0, r22)] m15 Q))) ∧ (8 < r20 → Q (-2) m13))))))))))))) : zC (d + 1) K_Od_tour [(2, Int.ofNat 0), (0, a1), (0, a2)] mem Q := by
  exact zC_of ok_Od_tour (by decide +kernel) (Nat.le_of_ble_eq_true rfl) rfl (Or.inr (Or.inl rfl)) (zent_ok ok_Od_tour (cuts := [107]) (f := 58) (zlt (fun c27 => (zall (And.intro rfl (And.intro rfl (And.intro rfl (zC.post (hS.1 c27) (fun r1 m1 hr1 => (zeq (fun c7 => (hr1.1 c7)) (fun c7 => (zeq (fun c6 => (And.intro rfl (And.intro rfl (And.intro rfl (zC.post ((hr1.2 c7).1 c6) (fun r2 m2 hr2 => (zle (fun c5 => (And.intro rfl (And.intro rfl (And.intro rfl (And.intro rfl (zC.post (hr2.1 c5) (fun r3 m3 hr3 => (zeq (fun _ => (And.intro rfl (And.intro rfl (zC.post hr3 (fun r4 m4 hr4 => (zG.mask [false, false, false, false] hr4)))))) (fun q => absurd q (by decide)))))))))) (fun c5 => (hr2.2 c5))))))))) (fun c6 => (zne (fun q => absurd q (by decide)) (fun _ => ((hr1.2 c7).2 c6)))))))))))))) (fun c27 => (zge (fun c26 => (zall (And.intro rfl (And.intro rfl (And.intro rfl (zC.post ((hS.2 c27).1 c26) (fun r8 m5 hr8 => (zeq (fun c14 => (hr8.1 c14)) (fun c14 => (zeq (fun c13 => (And.intro rfl (And.intro rfl (And.intro rfl (zC.post ((hr8.2 c14).1 c13) (fun r9 m6 hr9 => (zle (fun c12 => (And.intro rfl (And.intro rfl (And.intro rfl (And.intro rfl (zC.post (hr9.1 c12) (fun r10 m7 hr10 => (zeq (fun _ => (And.intro rfl (And.intro rfl (zC.post hr10 (fun r11 m8 hr11 => (zG.mask [false, false, false, false] hr11)))))) (fun q => absurd q (by decide)))))))))) (fun c12 => (hr9.2 c12))))))))) (fun c13 => (zne (fun q => absurd q (by decide)) (fun _ => ((hr8.2 c14).2 c13)))))))))))))) (fun c26 => (zall (And.intro rfl (And.intro rfl (And.intro rfl (zC.post ((hS.2 c27).2 c26) (fun r15 m9 hr15 => (zeq (fun c25 => (hr15.1 c25)) (fun c25 => (zeq (fun c24 => (And.intro rfl (And.intro rfl (And.intro rfl (zC.post ((hr15.2 c25).1 c24) (fun r16 m10 hr16 => (zle (fun c19 => (And.intro rfl (And.intro rfl (And.intro rfl (And.intro rfl (zC.post (hr16.1 c19) (fun r17 m11 hr17 => (zeq (fun q => absurd q (by decide)) (fun _ => (And.intro rfl (And.intro rfl (And.intro rfl (And.intro rfl (zC.post hr17 (fun r18 m12 hr18 => (zG.mask [false, false, false, false] hr18)))))))))))))))) (fun c19 => (hr16.2 c19))))))))) (fun c24 => (zne (fun _ => (And.intro rfl (And.intro rfl (And.intro rfl (zC.post ((hr15.2 c25).2 c24) (fun r20 m13 hr20 => (zle (fun c23 => (And.intro rfl (And.intro rfl (And.intro rfl (And.intro rfl (zC.post (hr20.1 c23) (fun r21 m14 hr21 => (zeq (fun q => absurd q (by decide)) (fun _ => (And.intro rfl (And.intro rfl (And.intro rfl (And.intro rfl (zC.post hr21 (fun r22 m15 hr22 => (zG.mask [false, false, false, false] hr22)))))))))))))))) (fun c23 => (hr20.2 c23))))))))) (fun q => absurd q (by decide))))))))))))))))))
theorem v_Od_tour_107 {d : Nat} {s0 : Int} {mem : zMem} {Q : Int → zMem → Prop}  (hS : Q s0 mem) : zG (d + 1) M_Od_tour 107 [(9, 0), (9, 0), (9, 0), (9, 0)] [(0, s0)] mem Q := by
  exact zent_ok ok_Od_tour (cuts := [107]) (f := 58) hS
theorem v_Od_talk {d : Nat} {a1 a2 a3 : Int} {mem : zMem} {Q : Int → zMem → Prop}  (hS : zC d K_Pa_hasOne [(2, Int.ofNat 1), (0, a1)] mem (fun r1 m1 => ((r1 = 0 → Q (-1) m1) ∧ (r1 ≠ 0 → zC d K_Pa_hasOne [(2, Int.ofNat 1), (0, a2)] m1 (fun r2 m2 => ((r2 = 0 → Q (-1) m2) ∧ (r2 ≠ 0 → ((a1 = a2 → Q (-1) m2) ∧ (a1 ≠ a2 → ((a3 < 1 → Q (-1) m2) ∧ (1 ≤ a3 → ((a3 ≤ 5 → ((m2 2 1 ≠ 1 → ((0 ≤ a1 ∧ a1 < 5) ∧ ((0 ≤ a2 ∧ a2 < 5) ∧ zC d K_Tw_prepare [(2, Int.ofNat 90), (2, Int.ofNat 2), (2, Int.ofNat (zrt 8 a1.toNat)), (2, Int.ofNat (zrt 8 a2.toNat))] m2 (fun r3 m3 => zC d K_Tw_untilTalked [(2, Int.ofNat 90), (0, a3)] m3 (fun r4 m4 => Q r4 m4))))) ∧ (m2 2 1 = 1 → Q (-2) m2))) ∧ (5 < a3 → Q (-1) m2))))))))))))) : zC (d + 1) K_Od_talk [(2, Int.ofNat 0), (0, a1), (0, a2), (0, a3)] mem Q := by
  exact zC_of ok_Od_talk (by decide +kernel) (Nat.le_of_ble_eq_true rfl) rfl (Or.inr (Or.inl rfl)) (zent_ok ok_Od_talk (cuts := []) (f := 55) (And.intro rfl (And.intro rfl (zC.post hS (fun r1 m1 hr1 => (zeq (fun c10 => (hr1.1 c10)) (fun c10 => (And.intro rfl (And.intro rfl (zC.post (hr1.2 c10) (fun r2 m2 hr2 => (zeq (fun c9 => (hr2.1 c9)) (fun c9 => (zeq (fun c8 => ((hr2.2 c9).1 c8)) (fun c8 => (zlt (fun c7 => (((hr2.2 c9).2 c8).1 c7)) (fun c7 => (zle (fun c6 => (And.intro rfl (And.intro rfl (And.intro rfl (zne (fun c5 => (And.intro rfl (And.intro rfl (And.intro rfl (And.intro rfl (And.intro rfl (And.intro (zba (by decide) (by decide) rfl (((((hr2.2 c9).2 c8).2 c7).1 c6).1 c5).1) (And.intro rfl (And.intro rfl (And.intro (zba (by decide) (by decide) rfl (((((hr2.2 c9).2 c8).2 c7).1 c6).1 c5).2.1) (And.intro rfl (zC.post (((((hr2.2 c9).2 c8).2 c7).1 c6).1 c5).2.2 (fun r3 m3 hr3 => (And.intro rfl (And.intro rfl (zC.post hr3 (fun r4 m4 hr4 => hr4))))))))))))))))) (fun c5 => (((((hr2.2 c9).2 c8).2 c7).1 c6).2 c5))))))) (fun c6 => ((((hr2.2 c9).2 c8).2 c7).2 c6))))))))))))))))))))
theorem v_Od_cup {d : Nat} {a1 a2 a3 : Int} {mem : zMem} {Q : Int → zMem → Prop}  (hS : zC d K_Pa_hasOne [(2, Int.ofNat 1), (0, a1)] mem (fun r1 m1 => ((r1 = 0 → Q (-1) m1) ∧ (r1 ≠ 0 → zC d K_Pa_hasOne [(2, Int.ofNat 1), (0, a2)] m1 (fun r2 m2 => ((r2 = 0 → Q (-1) m2) ∧ (r2 ≠ 0 → ((a1 = a2 → Q (-1) m2) ∧ (a1 ≠ a2 → zC d K_Ho_hasRoom [(2, Int.ofNat 2), (0, a3)] m2 (fun r3 m3 => ((r3 ≠ 0 → ((m3 2 1 ≠ 1 → ((0 ≤ a1 ∧ a1 < 5) ∧ ((0 ≤ a2 ∧ a2 < 5) ∧ zC d K_Tw_prepare [(2, Int.ofNat 90), (2, Int.ofNat 2), (2, Int.ofNat (zrt 8 a1.toNat)), (2, Int.ofNat (zrt 8 a2.toNat))] m3 (fun r4 m4 => zC d K_Tw_untilCupIn [(2, Int.ofNat 90), (0, a3)] m4 (fun r5 m5 => Q r5 m5))))) ∧ (m3 2 1 = 1 → Q (-2) m3))) ∧ (r3 = 0 → Q (-1) m3)))))))))))) : zC (d + 1) K_Od_cup [(2, Int.ofNat 0), (0, a1), (0, a2), (0, a3)] mem Q := by
  exact zC_of ok_Od_cup (by decide +kernel) (Nat.le_of_ble_eq_true rfl) rfl (Or.inr (Or.inl rfl)) (zent_ok ok_Od_cup (cuts := []) (f := 55) (And.intro rfl (And.intro rfl (zC.post hS (fun r1 m1 hr1 => (zeq (fun c10 => (hr1.1 c10)) (fun c10 => (And.intro rfl (And.intro rfl (zC.post (hr1.2 c10) (fun r2 m2 hr2 => (zeq (fun c9 => (hr2.1 c9)) (fun c9 => (zeq (fun c8 => ((hr2.2 c9).1 c8)) (fun c8 => (And.intro rfl (And.intro rfl (And.intro rfl (zC.post ((hr2.2 c9).2 c8) (fun r3 m3 hr3 => (zne (fun c7 => (And.intro rfl (And.intro rfl (And.intro rfl (zne (fun c6 => (And.intro rfl (And.intro rfl (And.intro rfl (And.intro rfl (And.intro rfl (And.intro (zba (by decide) (by decide) rfl ((hr3.1 c7).1 c6).1) (And.intro rfl (And.intro rfl (And.intro (zba (by decide) (by decide) rfl ((hr3.1 c7).1 c6).2.1) (And.intro rfl (zC.post ((hr3.1 c7).1 c6).2.2 (fun r4 m4 hr4 => (And.intro rfl (And.intro rfl (zC.post hr4 (fun r5 m5 hr5 => hr5))))))))))))))))) (fun c6 => ((hr3.1 c7).2 c6))))))) (fun c7 => (hr3.2 c7)))))))))))))))))))))))
theorem v_Od_more {d : Nat} {a1 : Int} {mem : zMem} {Q : Int → zMem → Prop}  (hS : ((a1 < 0 → Q (-1) mem) ∧ (0 ≤ a1 → ((a1 ≤ 1 → ((mem 2 2 < 14 → zC d K_Bu_seekMore [(2, Int.ofNat 112), (2, Int.ofNat 2)] mem (fun r1 m1 => zC d K_Bu_answer [(2, Int.ofNat 112), (0, a1)] m1 (fun r2 m2 => Q r2 m2))) ∧ (14 ≤ mem 2 2 → Q (-2) mem))) ∧ (1 < a1 → Q (-1) mem))))) : zC (d + 1) K_Od_more [(2, Int.ofNat 0), (0, a1)] mem Q := by
  exact zC_of ok_Od_more (by decide +kernel) (Nat.le_of_ble_eq_true rfl) rfl (Or.inr (Or.inl rfl)) (zent_ok ok_Od_more (cuts := []) (f := 31) (zlt (fun c5 => (hS.1 c5)) (fun c5 => (zle (fun c4 => (And.intro rfl (And.intro rfl (And.intro rfl (zlt (fun c3 => (And.intro rfl (And.intro rfl (And.intro rfl (And.intro rfl (zC.post (((hS.2 c5).1 c4).1 c3) (fun r1 m1 hr1 => (And.intro rfl (And.intro rfl (zC.post hr1 (fun r2 m2 hr2 => hr2))))))))))) (fun c3 => (((hS.2 c5).1 c4).2 c3))))))) (fun c4 => ((hS.2 c5).2 c4))))))
theorem v_Od_worst {d : Nat} {a1 : Int} {mem : zMem} {Q : Int → zMem → Prop}  (hS : ((a1 < 0 → Q (-1) mem) ∧ (0 ≤ a1 → ((a1 ≤ 1 → zC d K_Bu_seekWorst [(2, Int.ofNat 112), (2, Int.ofNat 2)] mem (fun r1 m1 => zC d K_Bu_answer [(2, Int.ofNat 112), (0, a1)] m1 (fun r2 m2 => Q r2 m2))) ∧ (1 < a1 → Q (-1) mem))))) : zC (d + 1) K_Od_worst [(2, Int.ofNat 0), (0, a1)] mem Q := by
  exact zC_of ok_Od_worst (by decide +kernel) (Nat.le_of_ble_eq_true rfl) rfl (Or.inr (Or.inl rfl)) (zent_ok ok_Od_worst (cuts := []) (f := 23) (zlt (fun c4 => (hS.1 c4)) (fun c4 => (zle (fun c3 => (And.intro rfl (And.intro rfl (And.intro rfl (And.intro rfl (zC.post ((hS.2 c4).1 c3) (fun r1 m1 hr1 => (And.intro rfl (And.intro rfl (zC.post hr1 (fun r2 m2 hr2 => hr2))))))))))) (fun c3 => ((hS.2 c4).2 c3))))))
theorem v_Od_mend {d : Nat} {a1 : Int} {mem : zMem} {Q : Int → zMem → Prop}  (hS : ((a1 < 0 → Q (-1) mem) ∧ (0 ≤ a1 → ((a1 ≤ 2 → zC d K_Bu_seekMend [(2, Int.ofNat 112), (2, Int.ofNat 2)] mem (fun r1 m1 => ((a1 ≠ 0 → ((r1 < a1 → Q (-4) m1) ∧ (a1 ≤ r1 → ((0 ≤ zsub a1 1 ∧ zsub a1 1 < 2) ∧ Q (m1 118 (zsub a1 1).toNat) m1)))) ∧ (a1 = 0 → Q r1 m1)))) ∧ (2 < a1 → Q (-1) mem))))) : zC (d + 1) K_Od_mend [(2, Int.ofNat 0), (0, a1)] mem Q := by
  exact zC_of ok_Od_mend (by decide +kernel) (Nat.le_of_ble_eq_true rfl) rfl (Or.inr (Or.inl rfl)) (zent_ok ok_Od_mend (cuts := []) (f := 36) (zlt (fun c5 => (hS.1 c5)) (fun c5 => (zle (fun c4 => (And.intro rfl (And.intro rfl (And.intro rfl (And.intro rfl (zC.post ((hS.2 c5).1 c4) (fun r1 m1 hr1 => (zall (zne (fun c3 => (zgt (fun c2 => ((hr1.1 c3).1 c2)) (fun c2 => (And.intro rfl (And.intro rfl (And.intro (zbd rfl rfl ((hr1.1 c3).2 c2).1) ((hr1.1 c3).2 c2).2)))))) (fun c3 => (hr1.2 c3))))))))))) (fun c4 => ((hS.2 c5).2 c4))))))
theorem v_Od_tell {d : Nat} {a1 : Int} {mem : zMem} {Q : Int → zMem → Prop}  (hS : zC d K_Ho_hasDoor [(2, Int.ofNat 2), (0, a1)] mem (fun r1 m1 => ((r1 ≠ 0 → ((m1 1 4 < 12 → ((0 ≤ m1 1 4 ∧ m1 1 4 < 12) ∧ ∀ m2 : zMem, m2 = zup m1 14 (m1 1 4).toNat a1 → ∀ m3 : zMem, m3 = zup m2 1 4 (zadd (m2 1 4) 1) → Q (m3 1 4) m3)) ∧ (12 ≤ m1 1 4 → Q (-3) m1))) ∧ (r1 = 0 → Q (-1) m1)))) : zC (d + 1) K_Od_tell [(2, Int.ofNat 0), (0, a1)] mem Q := by
  exact zC_of ok_Od_tell (by decide +kernel) (Nat.le_of_ble_eq_true rfl) rfl (Or.inr (Or.inl rfl)) (zent_ok ok_Od_tell (cuts := []) (f := 39) (And.intro rfl (And.intro rfl (And.intro rfl (zC.post hS (fun r1 m1 hr1 => (zne (fun c3 => (And.intro rfl (And.intro rfl (zlt (fun c2 => (And.intro rfl (And.intro rfl (And.intro rfl (And.intro rfl (And.intro (zbd rfl rfl ((hr1.1 c3).1 c2).1) (fun m2 em2 => (And.intro rfl (And.intro rfl (And.intro rfl (fun m3 em3 => (And.intro rfl (And.intro rfl ((((hr1.1 c3).1 c2).2 m2 em2) m3 em3)))))))))))))) (fun c2 => ((hr1.1 c3).2 c2)))))) (fun c3 => (hr1.2 c3)))))))))
theorem v_Od_forget {d : Nat}  {mem : zMem} {Q : Int → zMem → Prop}  (hS : ∀ x1 : Int, x1 = mem 1 4 → ∀ m1 : zMem, m1 = zup mem 1 4 0 → Q x1 m1) : zC (d + 1) K_Od_forget [(2, Int.ofNat 0)] mem Q := by
  exact zC_of ok_Od_forget (by decide +kernel) (Nat.le_of_ble_eq_true rfl) rfl (Or.inr (Or.inl rfl)) (zent_ok ok_Od_forget (cuts := []) (f := 15) (And.intro rfl (And.intro rfl (fun x1 ex1 => (And.intro rfl (And.intro rfl (fun m1 em1 => ((hS x1 ex1) m1 em1))))))))
theorem v_Od_judge {d : Nat} {a1 : Int} {mem : zMem} {Q : Int → zMem → Prop}  (hS : zC d K_Ho_hasRoom [(2, Int.ofNat 2), (0, a1)] mem (fun r1 m1 => ((r1 ≠ 0 → zC d K_Wa_standNew [(2, Int.ofNat 69), (0, a1)] m1 (fun r2 m2 => zG (d + 1) M_Od_judge 26 [(2, Int.ofNat 0), (9, 0), (0, 0)] [] m2 Q)) ∧ (r1 = 0 → Q (-1) m1)))) : zC (d + 1) K_Od_judge [(2, Int.ofNat 0), (0, a1)] mem Q := by
  exact zC_of ok_Od_judge (by decide +kernel) (Nat.le_of_ble_eq_true rfl) rfl (Or.inr (Or.inl rfl)) (zent_ok ok_Od_judge (cuts := [26]) (f := 42) (And.intro rfl (And.intro rfl (And.intro rfl (zC.post hS (fun r1 m1 hr1 => (zne (fun c3 => (And.intro rfl (And.intro rfl (zC.post (hr1.1 c3) (fun r2 m2 hr2 => (zall (zG.mask [true, false, true] hr2))))))) (fun c3 => (hr1.2 c3)))))))))
theorem v_Od_judge_26 {d : Nat} {l2 : Int} {mem : zMem} {Q : Int → zMem → Prop}  (hS : ((mem 1 4 ≤ l2 → Q (-4) mem) ∧ (l2 < mem 1 4 → ((0 ≤ l2 ∧ l2 < 12) ∧ zC d K_Wa_step [(2, Int.ofNat 69), (2, Int.ofNat 2), (0, mem 14 l2.toNat)] mem (fun r1 m1 => ((r1 ≠ 0 → ∀ x2 : Int, x2 = zadd l2 1 → zG (d + 1) M_Od_judge 26 [(2, Int.ofNat 0), (9, 0), (0, x2)] [] m1 Q) ∧ (r1 = 0 → Q l2 m1))))))) : zG (d + 1) M_Od_judge 26 [(2, Int.ofNat 0), (9, 0), (0, l2)] [] mem Q := by
  exact zent_ok ok_Od_judge (cuts := [26]) (f := 42) (And.intro rfl (And.intro rfl (zge (fun c4 => (hS.1 c4)) (fun c4 => (And.intro rfl (And.intro rfl (And.intro rfl (And.intro rfl (And.intro rfl (And.intro (zbd rfl rfl (hS.2 c4).1) (And.intro rfl (zC.post (hS.2 c4).2 (fun r1 m1 hr1 => (zne (fun c3 => (fun x2 ex2 => ((hr1.1 c3) x2 ex2))) (fun c3 => (hr1.2 c3))))))))))))))))
theorem v_Od_ajar {d : Nat} {a1 a2 a3 a4 : Int} {mem : zMem} {Q : Int → zMem → Prop}  (hS : ((a4 < 10 → zC d K_Ho_hasRoom [(2, Int.ofNat 2), (0, a1)] mem (fun r1 m1 => ((r1 = 0 → zG (d + 1) M_Od_ajar 61 [(9, 0), (9, 0), (9, 0), (9, 0), (9, 0), (9, 0)] [] m1 Q) ∧ (r1 ≠ 0 → ((a2 < 0 → zG (d + 1) M_Od_ajar 61 [(9, 0), (9, 0), (9, 0), (9, 0), (9, 0), (9, 0)] [] m1 Q) ∧ (0 ≤ a2 → ((6 < a2 → zG (d + 1) M_Od_ajar 61 [(9, 0), (9, 0), (9, 0), (9, 0), (9, 0), (9, 0)] [] m1 Q) ∧ (a2 ≤ 6 → ((a4 = 0 → zG (d + 1) M_Od_ajar 63 [(2, Int.ofNat 0), (0, a1), (0, a2), (0, a3), (0, a4), (0, 0)] [] m1 Q) ∧ (a4 ≠ 0 → ((a4 = 1 → zG (d + 1) M_Od_ajar 63 [(2, Int.ofNat 0), (0, a1), (0, a2), (0, a3), (0, a4), (0, 0)] [] m1 Q) ∧ (a4 ≠ 1 → zG (d + 1) M_Od_ajar 61 [(9, 0), (9, 0), (9, 0), (9, 0), (9, 0), (9, 0)] [] m1 Q)))))))))))) ∧ (10 ≤ a4 → ((16 ≤ a4 → zC d K_Ho_hasRoom [(2, Int.ofNat 2), (0, a1)] mem (fun r7 m2 => ((r7 = 0 → zG (d + 1) M_Od_ajar 61 [(9, 0), (9, 0), (9, 0), (9, 0), (9, 0), (9, 0)] [] m2 Q) ∧ (r7 ≠ 0 → ((a2 < 0 → zG (d + 1) M_Od_ajar 61 [(9, 0), (9, 0), (9, 0), (9, 0), (9, 0), (9, 0)] [] m2 Q) ∧ (0 ≤ a2 → ((6 < a2 → zG (d + 1) M_Od_ajar 61 [(9, 0), (9, 0), (9, 0), (9, 0), (9, 0), (9, 0)] [] m2 Q) ∧ (a2 ≤ 6 → ((a4 = 0 → zG (d + 1) M_Od_ajar 63 [(2, Int.ofNat 0), (0, a1), (0, a2), (0, a3), (0, a4), (0, 0)] [] m2 Q) ∧ (a4 ≠ 0 → ((a4 = 1 → zG (d + 1) M_Od_ajar 63 [(2, Int.ofNat 0), (0, a1), (0, a2), (0, a3), (0, a4), (0, 0)] [] m2 Q) ∧ (a4 ≠ 1 → zG (d + 1) M_Od_ajar 61 [(9, 0), (9, 0), (9, 0), (9, 0), (9, 0), (9, 0)] [] m2 Q)))))))))))) ∧ (a4 < 16 → zC d K_Ho_hasRoom [(2, Int.ofNat 2), (0, a1)] mem (fun r13 m3 => ((r13 = 0 → zG (d + 1) M_Od_ajar 61 [(9, 0), (9, 0), (9, 0), (9, 0), (9, 0), (9, 0)] [] m3 Q) ∧ (r13 ≠ 0 → ((a2 < 0 → zG (d + 1) M_Od_ajar 61 [(9, 0), (9, 0), (9, 0), (9, 0), (9, 0), (9, 0)] [] m3 Q) ∧ (0 ≤ a2 → ((6 < a2 → zG (d + 1) M_Od_ajar 61 [(9, 0), (9, 0), (9, 0), (9, 0), (9, 0), (9, 0)] [] m3 Q) ∧ (a2 ≤ 6 → ((a4 = 0 → zG (d + 1) M_Od_ajar 63 [(2, Int.ofNat 0), (0, a1), (0, a2), (0, a3), (0, a4), (0, 1)] [] m3 Q) ∧ (a4 ≠ 0 → ((a4 = 1 → zG (d + 1) M_Od_ajar 63 [(2, Int.ofNat 0), (0, a1), (0, a2), (0, a3), (0, a4), (0, 1)] [] m3 Q) ∧ (a4 ≠ 1 → zG (d + 1) M_Od_ajar 63 [(2, Int.ofNat 0), (0, a1), (0, a2), (0, a3), (0, a4), (0, 1)] [] m3 Q)))))))))))))))) : zC (d + 1) K_Od_ajar [(2, Int.ofNat 0), (0, a1), (0, a2), (0, a3), (0, a4)] mem Q := by
  exact zC_of ok_Od_ajar (by decide +kernel) (Nat.le_of_ble_eq_true rfl) rfl (Or.inr (Or.inl rfl)) (zent_ok ok_Od_ajar (cuts := [61, 63]) (f := 87) (zlt (fun c20 => (zall (And.intro rfl (And.intro rfl (And.intro rfl (zC.post (hS.1 c20) (fun r1 m1 hr1 => (zeq (fun c6 => (zG.mask [false, false, false, false, false, false] (hr1.1 c6))) (fun c6 => (zlt (fun c5 => (zG.mask [false, false, false, false, false, false] ((hr1.2 c6).1 c5))) (fun c5 => (zgt (fun c4 => (zG.mask [false, false, false, false, false, false] (((hr1.2 c6).2 c5).1 c4))) (fun c4 => (zeq (fun c3 => ((((hr1.2 c6).2 c5).2 c4).1 c3)) (fun c3 => (zeq (fun c2 => (((((hr1.2 c6).2 c5).2 c4).2 c3).1 c2)) (fun c2 => (zne (fun q => absurd q (by decide)) (fun _ => (zG.mask [false, false, false, false, false, false] (((((hr1.2 c6).2 c5).2 c4).2 c3).2 c2))))))))))))))))))))) (fun c20 => (zge (fun c19 => (zall (And.intro rfl (And.intro rfl (And.intro rfl (zC.post ((hS.2 c20).1 c19) (fun r7 m2 hr7 => (zeq (fun c12 => (zG.mask [false, false, false, false, false, false] (hr7.1 c12))) (fun c12 => (zlt (fun c11 => (zG.mask [false, false, false, false, false, false] ((hr7.2 c12).1 c11))) (fun c11 => (zgt (fun c10 => (zG.mask [false, false, false, false, false, false] (((hr7.2 c12).2 c11).1 c10))) (fun c10 => (zeq (fun c9 => ((((hr7.2 c12).2 c11).2 c10).1 c9)) (fun c9 => (zeq (fun c8 => (((((hr7.2 c12).2 c11).2 c10).2 c9).1 c8)) (fun c8 => (zne (fun q => absurd q (by decide)) (fun _ => (zG.mask [false, false, false, false, false, false] (((((hr7.2 c12).2 c11).2 c10).2 c9).2 c8))))))))))))))))))))) (fun c19 => (zall (And.intro rfl (And.intro rfl (And.intro rfl (zC.post ((hS.2 c20).2 c19) (fun r13 m3 hr13 => (zeq (fun c18 => (zG.mask [false, false, false, false, false, false] (hr13.1 c18))) (fun c18 => (zlt (fun c17 => (zG.mask [false, false, false, false, false, false] ((hr13.2 c18).1 c17))) (fun c17 => (zgt (fun c16 => (zG.mask [false, false, false, false, false, false] (((hr13.2 c18).2 c17).1 c16))) (fun c16 => (zeq (fun c15 => ((((hr13.2 c18).2 c17).2 c16).1 c15)) (fun c15 => (zeq (fun c14 => (((((hr13.2 c18).2 c17).2 c16).2 c15).1 c14)) (fun c14 => (zne (fun _ => (((((hr13.2 c18).2 c17).2 c16).2 c15).2 c14)) (fun q => absurd q (by decide))))))))))))))))))))))))
theorem v_Od_ajar_61 {d : Nat}  {mem : zMem} {Q : Int → zMem → Prop}  (hS : Q (-1) mem) : zG (d + 1) M_Od_ajar 61 [(9, 0), (9, 0), (9, 0), (9, 0), (9, 0), (9, 0)] [] mem Q := by
  exact zent_ok ok_Od_ajar (cuts := [61, 63]) (f := 87) hS
theorem v_Od_ajar_63 {d : Nat} {l1 l2 l3 l4 l5 : Int} {mem : zMem} {Q : Int → zMem → Prop}  (hS : ((l3 < 0 → Q (-1) mem) ∧ (0 ≤ l3 → ((l3 < zshl 1 (mem 2 2) → zC d K_Tr_seek [(2, Int.ofNat 119), (2, Int.ofNat 2), (0, l1), (0, l2), (0, l3)] mem (fun r1 m1 => ((l5 = 0 → ((l4 ≠ 0 → Q (m1 119 3) m1) ∧ (l4 = 0 → Q (m1 119 2) m1))) ∧ (l5 ≠ 0 → ((m1 119 2 ≤ 0 → Q (-4) m1) ∧ (0 < m1 119 2 → ((l2 ≤ zsub l4 10 → Q (-4) m1) ∧ (zsub l4 10 < l2 → ((0 ≤ zsub l4 10 ∧ zsub l4 10 < 6) ∧ Q (m1 120 (zsub l4 10).toNat) m1))))))))) ∧ (zshl 1 (mem 2 2) ≤ l3 → Q (-1) mem))))) : zG (d + 1) M_Od_ajar 63 [(2, Int.ofNat 0), (0, l1), (0, l2), (0, l3), (0, l4), (0, l5)] [] mem Q := by
  exact zent_ok ok_Od_ajar (cuts := [61, 63]) (f := 87) (zlt (fun c7 => (hS.1 c7)) (fun c7 => (And.intro rfl (And.intro rfl (And.intro rfl (zlt (fun c6 => (And.intro rfl (And.intro rfl (And.intro rfl (And.intro rfl (zC.post ((hS.2 c7).1 c6) (fun r1 m1 hr1 => (zeq (fun c5 => (zne (fun c2 => (And.intro rfl (And.intro rfl ((hr1.1 c5).1 c2)))) (fun c2 => (And.intro rfl (And.intro rfl ((hr1.1 c5).2 c2)))))) (fun c5 => (And.intro rfl (And.intro rfl (zle (fun c4 => ((hr1.2 c5).1 c4)) (fun c4 => (zge (fun c3 => (((hr1.2 c5).2 c4).1 c3)) (fun c3 => (And.intro rfl (And.intro rfl (And.intro (zbd rfl rfl (((hr1.2 c5).2 c4).2 c3).1) (((hr1.2 c5).2 c4).2 c3).2)))))))))))))))))) (fun c6 => ((hS.2 c7).2 c6))))))))
theorem v_Od_keep {d : Nat} {a1 : Int} {mem : zMem} {Q : Int → zMem → Prop}  (hS : ((a1 < 0 → Q (-1) mem) ∧ (0 ≤ a1 → ((a1 < 2 → ∀ x1 : Int, x1 = zand (zshr (mem 0 11) a1) 1 → ((0 ≤ a1 ∧ a1 < 2) ∧ zC d K_Pa_take [(2, Int.ofNat (zrt 15 a1.toNat)), (2, Int.ofNat 1)] mem (fun r2 m1 => ∀ m2 : zMem, m2 = zup m1 0 11 (zor (m1 0 11) (zshl 1 a1)) → Q x1 m2))) ∧ (2 ≤ a1 → Q (-1) mem))))) : zC (d + 1) K_Od_keep [(2, Int.ofNat 0), (0, a1)] mem Q := by
  exact zC_of ok_Od_keep (by decide +kernel) (Nat.le_of_ble_eq_true rfl) rfl (Or.inr (Or.inl rfl)) (zent_ok ok_Od_keep (cuts := []) (f := 36) (zlt (fun c4 => (hS.1 c4)) (fun c4 => (zlt (fun c3 => (And.intro rfl (fun x1 ex1 => (And.intro rfl (And.intro (zba (by decide) (by decide) rfl (((hS.2 c4).1 c3) x1 ex1).1) (And.intro rfl (And.intro (zkpa (((hS.2 c4).1 c3) x1 ex1).1) (zC.post (((hS.2 c4).1 c3) x1 ex1).2 (fun r2 m1 hr2 => (And.intro rfl (And.intro rfl (fun m2 em2 => (hr2 m2 em2))))))))))))) (fun c3 => ((hS.2 c4).2 c3))))))
theorem v_Od_back {d : Nat} {a1 : Int} {mem : zMem} {Q : Int → zMem → Prop}  (hS : ((a1 < 0 → Q (-1) mem) ∧ (0 ≤ a1 → ((a1 < 2 → ((zand (zshr (mem 0 11) a1) 1 ≠ 0 → ((0 ≤ a1 ∧ a1 < 2) ∧ zC d K_Pa_take [(2, Int.ofNat 1), (2, Int.ofNat (zrt 15 a1.toNat))] mem (fun r1 m1 => Q (m1 2 2) m1))) ∧ (zand (zshr (mem 0 11) a1) 1 = 0 → Q (-2) mem))) ∧ (2 ≤ a1 → Q (-1) mem))))) : zC (d + 1) K_Od_back [(2, Int.ofNat 0), (0, a1)] mem Q := by
  exact zC_of ok_Od_back (by decide +kernel) (Nat.le_of_ble_eq_true rfl) rfl (Or.inr (Or.inl rfl)) (zent_ok ok_Od_back (cuts := []) (f := 33) (zlt (fun c4 => (hS.1 c4)) (fun c4 => (zlt (fun c3 => (And.intro rfl (zne (fun c2 => (And.intro rfl (And.intro rfl (And.intro (zba (by decide) (by decide) rfl (((hS.2 c4).1 c3).1 c2).1) (And.intro rfl (zC.post (((hS.2 c4).1 c3).1 c2).2 (fun r1 m1 hr1 => (And.intro rfl (And.intro rfl (And.intro rfl hr1)))))))))) (fun c2 => (((hS.2 c4).1 c3).2 c2))))) (fun c3 => ((hS.2 c4).2 c3))))))
theorem v_Od_sheet {d : Nat} {a1 a2 a3 : Int} {mem : zMem} {Q : Int → zMem → Prop}  (hS : zC d K_Od_isSheet [(0, a1)] mem (fun r1 m1 => ((r1 = 0 → Q (-1) m1) ∧ (r1 ≠ 0 → zC d K_Od_isLane [(0, a2)] m1 (fun r2 m2 => ((r2 = 0 → Q (-1) m2) ∧ (r2 ≠ 0 → ((a3 ≤ 40 → ((0 ≤ a3 → ((0 ≤ a1 ∧ a1 < 4) ∧ zC d K_Sh_renew [(2, Int.ofNat (zrt 44 a1.toNat)), (0, a2), (0, a3)] m2 (fun r3 m3 => Q 1 m3))) ∧ (a3 < 0 → Q (-14) m2))) ∧ (40 < a3 → Q (-1) m2))))))))) : zC (d + 1) K_Od_sheet [(2, Int.ofNat 0), (0, a1), (0, a2), (0, a3)] mem Q := by
  exact zC_of ok_Od_sheet (by decide +kernel) (Nat.le_of_ble_eq_true rfl) rfl (Or.inr (Or.inl rfl)) (zent_ok ok_Od_sheet (cuts := []) (f := 29) (zC.post hS (fun r1 m1 hr1 => (zeq (fun c7 => (hr1.1 c7)) (fun c7 => (zC.post (hr1.2 c7) (fun r2 m2 hr2 => (zeq (fun c6 => (hr2.1 c6)) (fun c6 => (zle (fun c5 => (zge (fun c4 => (And.intro rfl (And.intro (zba (by decide) (by decide) rfl (((hr2.2 c6).1 c5).1 c4).1) (And.intro (zks (((hr2.2 c6).1 c5).1 c4).1) (zC.post (((hr2.2 c6).1 c5).1 c4).2 (fun r3 m3 hr3 => hr3)))))) (fun c4 => (((hr2.2 c6).1 c5).2 c4)))) (fun c5 => ((hr2.2 c6).2 c5))))))))))))
theorem v_Od_isSheet {d : Nat} {a0 : Int} {mem : zMem} {Q : Int → zMem → Prop}  (hS : ((a0 < 0 → Q 0 mem) ∧ (0 ≤ a0 → ((4 ≤ a0 → Q 0 mem) ∧ (a0 < 4 → Q 1 mem))))) : zC (d + 1) K_Od_isSheet [(0, a0)] mem Q := by
  exact zC_of ok_Od_isSheet (by decide +kernel) (Nat.le_of_ble_eq_true rfl) rfl (Or.inr (Or.inr (Or.inl rfl))) (zent_ok ok_Od_isSheet (cuts := []) (f := 14) (zlt (fun c2 => (And.intro (Or.inl rfl) (hS.1 c2))) (fun c2 => (zge (fun c1 => (And.intro (Or.inl rfl) ((hS.2 c2).1 c1))) (fun c1 => (And.intro (Or.inr rfl) ((hS.2 c2).2 c1)))))))
theorem v_Od_isLane {d : Nat} {a0 : Int} {mem : zMem} {Q : Int → zMem → Prop}  (hS : ((a0 < 0 → Q 0 mem) ∧ (0 ≤ a0 → ((3 ≤ a0 → Q 0 mem) ∧ (a0 < 3 → Q 1 mem))))) : zC (d + 1) K_Od_isLane [(0, a0)] mem Q := by
  exact zC_of ok_Od_isLane (by decide +kernel) (Nat.le_of_ble_eq_true rfl) rfl (Or.inr (Or.inr (Or.inl rfl))) (zent_ok ok_Od_isLane (cuts := []) (f := 14) (zlt (fun c2 => (And.intro (Or.inl rfl) (hS.1 c2))) (fun c2 => (zge (fun c1 => (And.intro (Or.inl rfl) ((hS.2 c2).1 c1))) (fun c1 => (And.intro (Or.inr rfl) ((hS.2 c2).2 c1)))))))
theorem v_Od_lay {d : Nat} {a1 a2 a3 : Int} {mem : zMem} {Q : Int → zMem → Prop}  (hS : zC d K_Od_isSheet [(0, a1)] mem (fun r1 m1 => ((r1 ≠ 0 → ((0 ≤ a1 ∧ a1 < 4) ∧ ((0 ≤ a1 ∧ a1 < 4) ∧ zC d K_Sh_faultAt [(2, Int.ofNat (zrt 44 a1.toNat)), (0, m1 (zrt 44 a1.toNat) 1), (0, a2)] m1 (fun r2 m2 => ((r2 = 0 → ((0 ≤ a1 ∧ a1 < 4) ∧ zC d K_Sh_put [(2, Int.ofNat (zrt 44 a1.toNat)), (0, a2), (0, a3)] m2 (fun r3 m3 => Q 1 m3))) ∧ (r2 ≠ 0 → Q (zsub (-10) r2) m2)))))) ∧ (r1 = 0 → Q (-1) m1)))) : zC (d + 1) K_Od_lay [(2, Int.ofNat 0), (0, a1), (0, a2), (0, a3)] mem Q := by
  exact zC_of ok_Od_lay (by decide +kernel) (Nat.le_of_ble_eq_true rfl) rfl (Or.inr (Or.inl rfl)) (zent_ok ok_Od_lay (cuts := []) (f := 37) (zC.post hS (fun r1 m1 hr1 => (zne (fun c5 => (And.intro rfl (And.intro (zba (by decide) (by decide) rfl (hr1.1 c5).1) (And.intro rfl (And.intro (zba (by decide) (by decide) rfl (hr1.1 c5).2.1) (And.intro (zks (hr1.1 c5).2.1) (And.intro (zks (hr1.1 c5).1) (zC.post (hr1.1 c5).2.2 (fun r2 m2 hr2 => (zall (zeq (fun c4 => (And.intro rfl (And.intro (zba (by decide) (by decide) rfl (hr2.1 c4).1) (And.intro (zks (hr2.1 c4).1) (zC.post (hr2.1 c4).2 (fun r3 m3 hr3 => hr3)))))) (fun c4 => (hr2.2 c4))))))))))))) (fun c5 => (hr1.2 c5))))))
theorem v_Od_read {d : Nat} {a1 a2 a3 a4 a5 : Int} {mem : zMem} {Q : Int → zMem → Prop}  (hS : zC d K_Od_isSheet [(0, a1)] mem (fun r1 m1 => ((r1 = 0 → Q (-1) m1) ∧ (r1 ≠ 0 → zC d K_Od_isLane [(0, a2)] m1 (fun r2 m2 => ((r2 = 0 → Q (-1) m2) ∧ (r2 ≠ 0 → ((a5 < 0 → Q (-1) m2) ∧ (0 ≤ a5 → ((12 < a5 → Q (-1) m2) ∧ (a5 ≤ 12 → zC d K_Pa_hasOne [(2, Int.ofNat 1), (0, a3)] m2 (fun r3 m3 => ((r3 ≠ 0 → ((0 ≤ a3 ∧ a3 < 5) ∧ zC d K_Wa_take [(2, Int.ofNat 69), (2, Int.ofNat (zrt 8 a3.toNat))] m3 (fun r4 m4 => zG (d + 1) M_Od_read 62 [(2, Int.ofNat 0), (0, a1), (0, a2), (9, 0), (0, a4), (0, a5), (2, Int.ofNat (zrt 8 a3.toNat)), (0, 0), (9, 0)] [] m4 Q))) ∧ (r3 = 0 → Q (-1) m3)))))))))))))) : zC (d + 1) K_Od_read [(2, Int.ofNat 0), (0, a1), (0, a2), (0, a3), (0, a4), (0, a5)] mem Q := by
  exact zC_of ok_Od_read (by decide +kernel) (Nat.le_of_ble_eq_true rfl) rfl (Or.inr (Or.inl rfl)) (zent_ok ok_Od_read (cuts := [62]) (f := 85) (zC.post hS (fun r1 m1 hr1 => (zeq (fun c9 => (hr1.1 c9)) (fun c9 => (zC.post (hr1.2 c9) (fun r2 m2 hr2 => (zeq (fun c8 => (hr2.1 c8)) (fun c8 => (zlt (fun c7 => ((hr2.2 c8).1 c7)) (fun c7 => (zgt (fun c6 => (((hr2.2 c8).2 c7).1 c6)) (fun c6 => (And.intro rfl (And.intro rfl (zC.post (((hr2.2 c8).2 c7).2 c6) (fun r3 m3 hr3 => (zne (fun c5 => (And.intro rfl (And.intro rfl (And.intro (zba (by decide) (by decide) rfl (hr3.1 c5).1) (And.intro rfl (And.intro rfl (zC.post (hr3.1 c5).2 (fun r4 m4 hr4 => (zall (zG.mask [true, true, true, false, true, true, true, true, false] hr4)))))))))) (fun c5 => (hr3.2 c5))))))))))))))))))))
theorem v_Od_read_62 {d : Nat} {wl6 : Nat} {l1 l2 l4 l5 l7 : Int} {mem : zMem} {Q : Int → zMem → Prop} (hwl6 : zkd wl6 = 9) (hS : ((l5 ≤ l7 → ∀ m1 : zMem, m1 = zup mem 0 12 0 → Q l5 m1) ∧ (l7 < l5 → ((0 ≤ l1 ∧ l1 < 4) ∧ zC d K_Sh_faultAt [(2, Int.ofNat (zrt 44 l1.toNat)), (0, l2), (0, zadd l4 l7)] mem (fun r1 m2 => ((r1 = 0 → ((0 ≤ l1 ∧ l1 < 4) ∧ ((0 ≤ zadd l4 l7 ∧ zadd l4 l7 < 40) ∧ zC d K_Wa_step [(2, Int.ofNat wl6), (2, Int.ofNat 2), (0, m2 (zrt (zrt 44 l1.toNat) 0) (zadd l4 l7).toNat)] m2 (fun r2 m3 => ((r2 ≠ 0 → ∀ x3 : Int, x3 = zadd l7 1 → zG (d + 1) M_Od_read 62 [(2, Int.ofNat 0), (0, l1), (0, l2), (9, 0), (0, l4), (0, l5), (2, Int.ofNat wl6), (0, x3), (9, 0)] [] m3 Q) ∧ (r2 = 0 → zC d K_Wa_take [(2, Int.ofNat wl6), (2, Int.ofNat 69)] m3 (fun r4 m4 => Q (zsub (-20) l7) m4))))))) ∧ (r1 ≠ 0 → ∀ m5 : zMem, m5 = zup m2 0 12 r1 → Q l7 m5))))))) : zG (d + 1) M_Od_read 62 [(2, Int.ofNat 0), (0, l1), (0, l2), (9, 0), (0, l4), (0, l5), (2, Int.ofNat wl6), (0, l7), (9, 0)] [] mem Q := by
  exact zent_ok ok_Od_read (cuts := [62]) (f := 85) (zge (fun c7 => (And.intro rfl (fun m1 em1 => ((hS.1 c7) m1 em1)))) (fun c7 => (And.intro rfl (And.intro (zba (by decide) (by decide) rfl (hS.2 c7).1) (And.intro (zks (hS.2 c7).1) (zC.post (hS.2 c7).2 (fun r1 m2 hr1 => (zall (zeq (fun c6 => (And.intro rfl (And.intro rfl (And.intro rfl (And.intro (zba (by decide) (by decide) rfl (hr1.1 c6).1) (And.intro (zks (hr1.1 c6).1) (And.intro (zbd (zksc (zks (hr1.1 c6).1)) (zlsc (zks (hr1.1 c6).1)) (hr1.1 c6).2.1) (And.intro hwl6 (zC.post (hr1.1 c6).2.2 (fun r2 m3 hr2 => (zne (fun c5 => (fun x3 ex3 => (zG.mask [true, true, true, false, true, true, true, true, false] ((hr2.1 c5) x3 ex3)))) (fun c5 => (And.intro rfl (And.intro hwl6 (zC.post (hr2.2 c5) (fun r4 m4 hr4 => hr4)))))))))))))))) (fun c6 => (And.intro rfl (fun m5 em5 => ((hr1.2 c6) m5 em5)))))))))))))
theorem v_Od_torn {d : Nat}  {mem : zMem} {Q : Int → zMem → Prop}  (hS : Q (mem 0 12) mem) : zC (d + 1) K_Od_torn [(2, Int.ofNat 0)] mem Q := by
  exact zC_of ok_Od_torn (by decide +kernel) (Nat.le_of_ble_eq_true rfl) rfl (Or.inr (Or.inl rfl)) (zent_ok ok_Od_torn (cuts := []) (f := 8) (And.intro rfl hS))
theorem v_Od_count {d : Nat} {a1 : Int} {mem : zMem} {Q : Int → zMem → Prop}  (hS : ((a1 = 0 → zC d K_Ho_openDoors [(2, Int.ofNat 2)] mem (fun r1 m1 => Q r1 m1)) ∧ (a1 = 1 → zC d K_Pa_lost [(2, Int.ofNat 1)] mem (fun r2 m2 => Q r2 m2)) ∧ (a1 = 2 → Q (mem 1 4) mem) ∧ (a1 = 3 → zC d K_Jd_bitCount [(0, mem 0 11)] mem (fun r3 m3 => Q r3 m3)) ∧ (a1 = 4 → Q (mem 53 2) mem) ∧ (a1 = 5 → ((mem 45 1 ≠ -1 → Q (mem 45 2) mem) ∧ (mem 45 1 = -1 → Q (-4) mem))) ∧ (a1 < 0 ∨ 5 < a1 → Q (-1) mem))) : zC (d + 1) K_Od_count [(2, Int.ofNat 0), (0, a1)] mem Q := by
  exact zC_of ok_Od_count (by decide +kernel) (Nat.le_of_ble_eq_true rfl) rfl (Or.inr (Or.inl rfl)) (zent_ok ok_Od_count (cuts := []) (f := 45) (And.intro (And.intro (fun c5 => (And.intro rfl (And.intro rfl (And.intro rfl (zC.post (hS.1 c5) (fun r1 m1 hr1 => hr1)))))) (And.intro (fun c5 => (And.intro rfl (And.intro rfl (zC.post (hS.2.1 c5) (fun r2 m2 hr2 => hr2))))) (And.intro (fun c5 => (And.intro rfl (And.intro rfl (hS.2.2.1 c5)))) (And.intro (fun c5 => (And.intro rfl (zC.post (hS.2.2.2.1 c5) (fun r3 m3 hr3 => hr3)))) (And.intro (fun c5 => (And.intro rfl (And.intro rfl (hS.2.2.2.2.1 c5)))) (And.intro (fun c5 => (And.intro rfl (And.intro (zba (by decide) (by decide) rfl (by decide)) (And.intro rfl (zne (fun c4 => (And.intro rfl (And.intro (zba (by decide) (by decide) rfl (by decide)) (And.intro rfl ((hS.2.2.2.2.2.1 c5).1 c4))))) (fun c4 => ((hS.2.2.2.2.2.1 c5).2 c4))))))) trivial)))))) (fun c5 => (hS.2.2.2.2.2.2 c5))))
end
end
section
section
theorem v_Mo_feed {d : Nat} {a1 : Int} {mem : zMem} {Q : Int → zMem → Prop}  (hS : ((zadd (mem 122 10) 8 ≤ 320 → zG (d + 1) M_Mo_feed 19 [(2, Int.ofNat 122), (1, a1), (9, 0), (0, 56)] [] mem Q) ∧ (320 < zadd (mem 122 10) 8 → Q (-3) mem))) : zC (d + 1) K_Mo_feed [(2, Int.ofNat 122), (1, a1)] mem Q := by
  exact zC_of ok_Mo_feed (by decide +kernel) (Nat.le_of_ble_eq_true rfl) rfl (Or.inr (Or.inl rfl)) (zent_ok ok_Mo_feed (cuts := [19]) (f := 39) (And.intro rfl (zle (fun c1 => (zall (hS.1 c1))) (fun c1 => (hS.2 c1)))))
theorem v_Mo_feed_19 {d : Nat} {l1 l3 : Int} {mem : zMem} {Q : Int → zMem → Prop}  (hS : ((l3 < 0 → Q (mem 122 10) mem) ∧ (0 ≤ l3 → ((0 ≤ mem 122 10 ∧ mem 122 10 < 320) ∧ ∀ m1 : zMem, m1 = zup mem 125 (mem 122 10).toNat (zand (zl2i (zlshr l1 l3)) 255) → ∀ m2 : zMem, m2 = zup m1 122 10 (zadd (m1 122 10) 1) → ∀ x1 : Int, x1 = zadd l3 (-8) → zG (d + 1) M_Mo_feed 19 [(2, Int.ofNat 122), (1, l1), (9, 0), (0, x1)] [] m2 Q)))) : zG (d + 1) M_Mo_feed 19 [(2, Int.ofNat 122), (1, l1), (9, 0), (0, l3)] [] mem Q := by
  exact zent_ok ok_Mo_feed (cuts := [19]) (f := 39) (zlt (fun c2 => (And.intro rfl (hS.1 c2))) (fun c2 => (And.intro rfl (And.intro rfl (And.intro (zbd rfl rfl (hS.2 c2).1) (fun m1 em1 => (And.intro rfl (And.intro rfl (fun m2 em2 => (fun x1 ex1 => ((((hS.2 c2).2 m1 em1) m2 em2) x1 ex1)))))))))))
theorem v_Mo_end {d : Nat} {a1 : Int} {mem : zMem} {Q : Int → zMem → Prop}  (hS : zC d K_Mo_in [(1, a1), (1, 0), (1, mem 122 10)] mem (fun r1 m1 => ((r1 ≠ 0 → ∀ x2 : Int, x2 = m1 122 10 → ∀ m2 : zMem, m2 = zup m1 122 10 a1 → Q x2 m2) ∧ (r1 = 0 → Q (-1) m1)))) : zC (d + 1) K_Mo_end [(2, Int.ofNat 122), (0, a1)] mem Q := by
  exact zC_of ok_Mo_end (by decide +kernel) (Nat.le_of_ble_eq_true rfl) rfl (Or.inr (Or.inl rfl)) (zent_ok ok_Mo_end (cuts := []) (f := 23) (And.intro rfl (zC.post hS (fun r1 m1 hr1 => (zne (fun c3 => (And.intro rfl (fun x2 ex2 => (And.intro rfl (fun m2 em2 => (((hr1.1 c3) x2 ex2) m2 em2)))))) (fun c3 => (hr1.2 c3)))))))
theorem v_Mo_in {d : Nat} {a0 a2 a4 : Int} {mem : zMem} {Q : Int → zMem → Prop}  (hS : ((zlcmp a0 a2 < 0 → Q 0 mem) ∧ (0 ≤ zlcmp a0 a2 → ((0 < zlcmp a0 a4 → Q 0 mem) ∧ (zlcmp a0 a4 ≤ 0 → Q 1 mem))))) : zC (d + 1) K_Mo_in [(1, a0), (1, a2), (1, a4)] mem Q := by
  exact zC_of ok_Mo_in (by decide +kernel) (Nat.le_of_ble_eq_true rfl) rfl (Or.inr (Or.inr (Or.inl rfl))) (zent_ok ok_Mo_in (cuts := []) (f := 17) (zlt (fun c2 => (And.intro (Or.inl rfl) (hS.1 c2))) (fun c2 => (zgt (fun c1 => (And.intro (Or.inl rfl) ((hS.2 c2).1 c1))) (fun c1 => (And.intro (Or.inr rfl) ((hS.2 c2).2 c1)))))))
theorem v_Mo_palace {d : Nat}  {mem : zMem} {Q : Int → zMem → Prop}  (hS : ∀ m1 : zMem, m1 = zup mem 122 12 0 → ∀ m2 : zMem, m2 = zup m1 122 14 0 → ∀ m3 : zMem, m3 = zup m2 122 3 4 → ∀ m4 : zMem, m4 = zup m3 122 4 0 → ∀ m5 : zMem, m5 = zup m4 122 5 0 → ∀ m6 : zMem, m6 = zup m5 122 6 0 → ∀ m7 : zMem, m7 = zup m6 122 7 (-1) → ∀ m8 : zMem, m8 = zup m7 122 8 (-1) → zG (d + 1) M_Mo_palace 44 [(2, Int.ofNat 122), (0, 0), (0, 0)] [] m8 Q) : zC (d + 1) K_Mo_palace [(2, Int.ofNat 122)] mem Q := by
  exact zC_of ok_Mo_palace (by decide +kernel) (Nat.le_of_ble_eq_true rfl) rfl (Or.inr (Or.inl rfl)) (zent_ok ok_Mo_palace (cuts := [44, 67, 129, 159, 185]) (f := 141) (And.intro rfl (fun m1 em1 => (And.intro rfl (fun m2 em2 => (And.intro rfl (fun m3 em3 => (And.intro rfl (And.intro (Or.inl rfl) (fun m4 em4 => (And.intro rfl (And.intro (Or.inl rfl) (fun m5 em5 => (And.intro rfl (fun m6 em6 => (And.intro rfl (fun m7 em7 => (And.intro rfl (fun m8 em8 => (zall (zall ((((((((hS m1 em1) m2 em2) m3 em3) m4 em4) m5 em5) m6 em6) m7 em7) m8 em8))))))))))))))))))))))
theorem v_Mo_palace_44 {d : Nat} {l1 l2 : Int} {mem : zMem} {Q : Int → zMem → Prop}  (hS : ((88 ≤ l2 → zC d K_Mo_step [(2, Int.ofNat 122)] mem (fun r1 m1 => zG (d + 1) M_Mo_palace 67 [(2, Int.ofNat 122), (0, l1), (9, 0)] [] m1 Q)) ∧ (l2 < 88 → ((0 ≤ l2 ∧ l2 < 88) ∧ ∀ m2 : zMem, m2 = zup mem 124 l2.toNat 0 → ∀ x2 : Int, x2 = zadd l2 1 → zG (d + 1) M_Mo_palace 44 [(2, Int.ofNat 122), (0, l1), (0, x2)] [] m2 Q)))) : zG (d + 1) M_Mo_palace 44 [(2, Int.ofNat 122), (0, l1), (0, l2)] [] mem Q := by
  exact zent_ok ok_Mo_palace (cuts := [44, 67, 129, 159, 185]) (f := 141) (zge (fun c3 => (And.intro rfl (zC.post (hS.1 c3) (fun r1 m1 hr1 => (zG.mask [true, true, false] hr1))))) (fun c3 => (And.intro rfl (And.intro (zbd rfl rfl (hS.2 c3).1) (fun m2 em2 => (fun x2 ex2 => (((hS.2 c3).2 m2 em2) x2 ex2)))))))
theorem v_Mo_palace_67 {d : Nat} {l1 : Int} {mem : zMem} {Q : Int → zMem → Prop}  (hS : ((mem 122 12 ≠ 0 → ((mem 122 12 ≠ 0 → zG (d + 1) M_Mo_palace 129 [(2, Int.ofNat 122), (0, l1), (9, 0)] [] mem Q) ∧ (mem 122 12 = 0 → ((mem 122 3 ≤ mem 122 7 → zC d K_Mo_fails [(2, Int.ofNat 122), (0, 6)] mem (fun r1 m1 => zG (d + 1) M_Mo_palace 129 [(2, Int.ofNat 122), (0, l1), (9, 0)] [] m1 Q)) ∧ (mem 122 7 < mem 122 3 → ((mem 122 8 < mem 124 56 → zG (d + 1) M_Mo_palace 129 [(2, Int.ofNat 122), (0, l1), (9, 0)] [] mem Q) ∧ (mem 124 56 ≤ mem 122 8 → zC d K_Mo_fails [(2, Int.ofNat 122), (0, 6)] mem (fun r2 m2 => zG (d + 1) M_Mo_palace 129 [(2, Int.ofNat 122), (0, l1), (9, 0)] [] m2 Q)))))))) ∧ (mem 122 12 = 0 → ((mem 122 16 = 0 → ((mem 122 12 ≠ 0 → zG (d + 1) M_Mo_palace 129 [(2, Int.ofNat 122), (0, l1), (9, 0)] [] mem Q) ∧ (mem 122 12 = 0 → ((mem 122 3 ≤ mem 122 7 → zC d K_Mo_fails [(2, Int.ofNat 122), (0, 6)] mem (fun r6 m3 => zG (d + 1) M_Mo_palace 129 [(2, Int.ofNat 122), (0, l1), (9, 0)] [] m3 Q)) ∧ (mem 122 7 < mem 122 3 → ((mem 122 8 < mem 124 56 → zG (d + 1) M_Mo_palace 129 [(2, Int.ofNat 122), (0, l1), (9, 0)] [] mem Q) ∧ (mem 124 56 ≤ mem 122 8 → zC d K_Mo_fails [(2, Int.ofNat 122), (0, 6)] mem (fun r7 m4 => zG (d + 1) M_Mo_palace 129 [(2, Int.ofNat 122), (0, l1), (9, 0)] [] m4 Q)))))))) ∧ (mem 122 16 ≠ 0 → zC d K_Mo_readLine [(2, Int.ofNat 122)] mem (fun r11 m5 => ∀ x12 : Int, x12 = zadd l1 1 → zG (d + 1) M_Mo_palace 67 [(2, Int.ofNat 122), (0, x12), (9, 0)] [] m5 Q)))))) : zG (d + 1) M_Mo_palace 67 [(2, Int.ofNat 122), (0, l1), (9, 0)] [] mem Q := by
  exact zent_ok ok_Mo_palace (cuts := [44, 67, 129, 159, 185]) (f := 141) (And.intro rfl (zne (fun c14 => (And.intro rfl (zne (fun c5 => ((hS.1 c14).1 c5)) (fun c5 => (And.intro rfl (And.intro rfl (zge (fun c4 => (And.intro rfl (zC.post (((hS.1 c14).2 c5).1 c4) (fun r1 m1 hr1 => hr1)))) (fun c4 => (And.intro rfl (And.intro rfl (And.intro (zbd rfl rfl (by decide)) (zlt (fun c3 => ((((hS.1 c14).2 c5).2 c4).1 c3)) (fun c3 => (And.intro rfl (zC.post ((((hS.1 c14).2 c5).2 c4).2 c3) (fun r2 m2 hr2 => hr2)))))))))))))))) (fun c14 => (And.intro rfl (zeq (fun c13 => (And.intro rfl (zne (fun c10 => (((hS.2 c14).1 c13).1 c10)) (fun c10 => (And.intro rfl (And.intro rfl (zge (fun c9 => (And.intro rfl (zC.post ((((hS.2 c14).1 c13).2 c10).1 c9) (fun r6 m3 hr6 => hr6)))) (fun c9 => (And.intro rfl (And.intro rfl (And.intro (zbd rfl rfl (by decide)) (zlt (fun c8 => (((((hS.2 c14).1 c13).2 c10).2 c9).1 c8)) (fun c8 => (And.intro rfl (zC.post (((((hS.2 c14).1 c13).2 c10).2 c9).2 c8) (fun r7 m4 hr7 => hr7)))))))))))))))) (fun c13 => (And.intro rfl (zC.post ((hS.2 c14).2 c13) (fun r11 m5 hr11 => (fun x12 ex12 => (hr11 x12 ex12)))))))))))
theorem v_Mo_palace_129 {d : Nat} {l1 : Int} {mem : zMem} {Q : Int → zMem → Prop}  (hS : ∀ m1 : zMem, m1 = zup mem 122 10 0 → ∀ m2 : zMem, m2 = zup m1 122 11 (m1 122 12) → ((m2 122 12 ≤ 0 → zG (d + 1) M_Mo_palace 159 [(2, Int.ofNat 122), (0, l1), (0, 0)] [] m2 Q) ∧ (0 < m2 122 12 → Q (zsub (-10) (m2 122 13)) m2))) : zG (d + 1) M_Mo_palace 129 [(2, Int.ofNat 122), (0, l1), (9, 0)] [] mem Q := by
  exact zent_ok ok_Mo_palace (cuts := [44, 67, 129, 159, 185]) (f := 141) (And.intro rfl (fun m1 em1 => (And.intro rfl (And.intro rfl (fun m2 em2 => (And.intro rfl (zle (fun c1 => (zall (((hS m1 em1) m2 em2).1 c1))) (fun c1 => (And.intro rfl (((hS m1 em1) m2 em2).2 c1))))))))))
theorem v_Mo_palace_159 {d : Nat} {l1 l2 : Int} {mem : zMem} {Q : Int → zMem → Prop}  (hS : ((88 ≤ l2 → zG (d + 1) M_Mo_palace 185 [(2, Int.ofNat 122), (0, l1), (0, 0)] [] mem Q) ∧ (l2 < 88 → ((0 ≤ l2 ∧ l2 < 88) ∧ ((0 ≤ l2 ∧ l2 < 264) ∧ ∀ m1 : zMem, m1 = zup mem 123 l2.toNat (mem 124 l2.toNat) → ∀ x1 : Int, x1 = zadd l2 1 → zG (d + 1) M_Mo_palace 159 [(2, Int.ofNat 122), (0, l1), (0, x1)] [] m1 Q))))) : zG (d + 1) M_Mo_palace 159 [(2, Int.ofNat 122), (0, l1), (0, l2)] [] mem Q := by
  exact zent_ok ok_Mo_palace (cuts := [44, 67, 129, 159, 185]) (f := 141) (zge (fun c2 => (zall (hS.1 c2))) (fun c2 => (And.intro rfl (And.intro rfl (And.intro (zbd rfl rfl (hS.2 c2).1) (And.intro (zbd rfl rfl (hS.2 c2).2.1) (fun m1 em1 => (fun x1 ex1 => (((hS.2 c2).2.2 m1 em1) x1 ex1)))))))))
theorem v_Mo_palace_185 {d : Nat} {l1 l2 : Int} {mem : zMem} {Q : Int → zMem → Prop}  (hS : zC d K_Mo_doorMany [(2, Int.ofNat 122)] mem (fun r1 m1 => ((r1 ≤ l2 → ∀ m2 : zMem, m2 = zup m1 122 1 (m1 122 3) → ∀ m3 : zMem, m3 = zup m2 142 0 0 → ∀ m4 : zMem, m4 = zup m3 142 1 0 → Q l1 m4) ∧ (l2 < r1 → ((0 ≤ zadd (zmul 4 l2) 3 ∧ zadd (zmul 4 l2) 3 < 264) ∧ ∀ m5 : zMem, m5 = zup m1 123 (zadd (zmul 4 l2) 3).toNat (zand (zshr (m1 122 6) l2) 1) → ∀ x2 : Int, x2 = zadd l2 1 → zG (d + 1) M_Mo_palace 185 [(2, Int.ofNat 122), (0, l1), (0, x2)] [] m5 Q))))) : zG (d + 1) M_Mo_palace 185 [(2, Int.ofNat 122), (0, l1), (0, l2)] [] mem Q := by
  exact zent_ok ok_Mo_palace (cuts := [44, 67, 129, 159, 185]) (f := 141) (And.intro rfl (zC.post hS (fun r1 m1 hr1 => (zge (fun c3 => (And.intro rfl (And.intro rfl (fun m2 em2 => (And.intro rfl (And.intro (zbd (Or.inr ⟨rfl, Or.inl rfl⟩) rfl (by decide)) (fun m3 em3 => (And.intro rfl (And.intro (zbd (Or.inr ⟨rfl, Or.inl rfl⟩) rfl (by decide)) (fun m4 em4 => ((((hr1.1 c3) m2 em2) m3 em3) m4 em4))))))))))) (fun c3 => (And.intro rfl (And.intro rfl (And.intro (zbd rfl rfl (hr1.2 c3).1) (fun m5 em5 => (fun x2 ex2 => (((hr1.2 c3).2 m5 em5) x2 ex2)))))))))))
theorem v_Mo_step {d : Nat}  {mem : zMem} {Q : Int → zMem → Prop}  (hS : ((mem 122 12 ≤ 0 → zG (d + 1) M_Mo_step 8 [(2, Int.ofNat 122), (9, 0)] [] mem Q) ∧ (0 < mem 122 12 → Q 0 mem))) : zC (d + 1) K_Mo_step [(2, Int.ofNat 122)] mem Q := by
  exact zC_of ok_Mo_step (by decide +kernel) (Nat.le_of_ble_eq_true rfl) rfl (Or.inl rfl) (zent_ok ok_Mo_step (cuts := [8, 84, 140]) (f := 142) (And.intro rfl (zle (fun c1 => (hS.1 c1)) (fun c1 => (hS.2 c1)))))
theorem v_Mo_step_8 {d : Nat}  {mem : zMem} {Q : Int → zMem → Prop}  (hS : zC d K_Mo_byteAt [(2, Int.ofNat 122), (0, mem 122 14)] mem (fun r1 m1 => ((r1 ≠ 32 → ∀ m2 : zMem, m2 = zup m1 122 15 (m1 122 14) → zC d K_Mo_byteAt [(2, Int.ofNat 122), (0, m2 122 14)] m2 (fun r2 m3 => ∀ m4 : zMem, m4 = zup m3 122 17 0 → ((r2 ≠ -4 → zC d K_Mo_in [(1, r2), (1, 97), (1, 122)] m4 (fun r3 m5 => ((r3 = 0 → zC d K_Mo_in [(1, r2), (1, 48), (1, 57)] m5 (fun r4 m6 => ((r4 = 0 → ∀ m7 : zMem, m7 = zup m6 122 16 3 → ∀ m8 : zMem, m8 = zup m7 122 14 (zadd (m7 122 14) 1) → ((r2 = 59 → Q 0 m8) ∧ (r2 ≠ 59 → zC d K_Mo_fails [(2, Int.ofNat 122), (0, 1)] m8 (fun r5 m9 => Q 0 m9)))) ∧ (r4 ≠ 0 → zG (d + 1) M_Mo_step 140 [(2, Int.ofNat 122), (9, 0)] [] m6 Q)))) ∧ (r3 ≠ 0 → zG (d + 1) M_Mo_step 84 [(2, Int.ofNat 122), (9, 0)] [] m5 Q)))) ∧ (r2 = -4 → ∀ m10 : zMem, m10 = zup m4 122 16 0 → Q 0 m10)))) ∧ (r1 = 32 → ∀ m11 : zMem, m11 = zup m1 122 14 (zadd (m1 122 14) 1) → zG (d + 1) M_Mo_step 8 [(2, Int.ofNat 122), (9, 0)] [] m11 Q)))) : zG (d + 1) M_Mo_step 8 [(2, Int.ofNat 122), (9, 0)] [] mem Q := by
  exact zent_ok ok_Mo_step (cuts := [8, 84, 140]) (f := 142) (And.intro rfl (And.intro rfl (zC.post hS (fun r1 m1 hr1 => (zne (fun c10 => (And.intro rfl (And.intro rfl (fun m2 em2 => (And.intro rfl (And.intro rfl (zC.post ((hr1.1 c10) m2 em2) (fun r2 m3 hr2 => (zall (And.intro rfl (fun m4 em4 => (zne (fun c9 => (zC.post ((hr2 m4 em4).1 c9) (fun r3 m5 hr3 => (zeq (fun c8 => (zC.post (hr3.1 c8) (fun r4 m6 hr4 => (zeq (fun c7 => (And.intro rfl (fun m7 em7 => (And.intro rfl (And.intro rfl (fun m8 em8 => (zeq (fun c6 => ((((hr4.1 c7) m7 em7) m8 em8).1 c6)) (fun c6 => (And.intro rfl (zC.post ((((hr4.1 c7) m7 em7) m8 em8).2 c6) (fun r5 m9 hr5 => hr5))))))))))) (fun c7 => (zG.mask [true, false] (hr4.2 c7))))))) (fun c8 => (zG.mask [true, false] (hr3.2 c8))))))) (fun c9 => (And.intro rfl (fun m10 em10 => (((hr2 m4 em4).2 c9) m10 em10)))))))))))))))) (fun c10 => (And.intro rfl (And.intro rfl (fun m11 em11 => ((hr1.2 c10) m11 em11))))))))))
theorem v_Mo_step_140 {d : Nat}  {mem : zMem} {Q : Int → zMem → Prop}  (hS : zC d K_Mo_byteAt [(2, Int.ofNat 122), (0, mem 122 14)] mem (fun r1 m1 => zC d K_Mo_in [(1, r1), (1, 48), (1, 57)] m1 (fun r2 m2 => ((r2 = 0 → ∀ m3 : zMem, m3 = zup m2 122 16 2 → ((zsub (m3 122 14) (m3 122 15) ≤ 2 → Q 0 m3) ∧ (2 < zsub (m3 122 14) (m3 122 15) → zC d K_Mo_fails [(2, Int.ofNat 122), (0, 1)] m3 (fun r3 m4 => Q 0 m4)))) ∧ (r2 ≠ 0 → ((2 ≤ zsub (m2 122 14) (m2 122 15) → ∀ m5 : zMem, m5 = zup m2 122 17 (m2 122 17) → ∀ m6 : zMem, m6 = zup m5 122 14 (zadd (m5 122 14) 1) → zG (d + 1) M_Mo_step 140 [(2, Int.ofNat 122), (9, 0)] [] m6 Q) ∧ (zsub (m2 122 14) (m2 122 15) < 2 → zC d K_Mo_byteAt [(2, Int.ofNat 122), (0, m2 122 14)] m2 (fun r5 m7 => ∀ m8 : zMem, m8 = zup m7 122 17 (zsub (zadd (zmul 10 (m2 122 17)) r5) 48) → ∀ m9 : zMem, m9 = zup m8 122 14 (zadd (m8 122 14) 1) → zG (d + 1) M_Mo_step 140 [(2, Int.ofNat 122), (9, 0)] [] m9 Q)))))))) : zG (d + 1) M_Mo_step 140 [(2, Int.ofNat 122), (9, 0)] [] mem Q := by
  exact zent_ok ok_Mo_step (cuts := [8, 84, 140]) (f := 142) (And.intro rfl (And.intro rfl (zC.post hS (fun r1 m1 hr1 => (zC.post hr1 (fun r2 m2 hr2 => (zeq (fun c7 => (And.intro rfl (fun m3 em3 => (And.intro rfl (And.intro rfl (zle (fun c4 => (((hr2.1 c7) m3 em3).1 c4)) (fun c4 => (And.intro rfl (zC.post (((hr2.1 c7) m3 em3).2 c4) (fun r3 m4 hr3 => hr3)))))))))) (fun c7 => (And.intro rfl (And.intro rfl (zge (fun c6 => (And.intro rfl (And.intro rfl (fun m5 em5 => (And.intro rfl (And.intro rfl (fun m6 em6 => ((((hr2.2 c7).1 c6) m5 em5) m6 em6)))))))) (fun c6 => (And.intro rfl (And.intro rfl (And.intro rfl (zC.post ((hr2.2 c7).2 c6) (fun r5 m7 hr5 => (And.intro rfl (fun m8 em8 => (And.intro rfl (And.intro rfl (fun m9 em9 => ((hr5 m8 em8) m9 em9)))))))))))))))))))))))
theorem v_Mo_step_84 {d : Nat}  {mem : zMem} {Q : Int → zMem → Prop}  (hS : zC d K_Mo_byteAt [(2, Int.ofNat 122), (0, mem 122 14)] mem (fun r1 m1 => zC d K_Mo_in [(1, r1), (1, 97), (1, 122)] m1 (fun r2 m2 => ((r2 = 0 → ∀ m3 : zMem, m3 = zup m2 122 16 1 → Q 0 m3) ∧ (r2 ≠ 0 → ∀ m4 : zMem, m4 = zup m2 122 14 (zadd (m2 122 14) 1) → zG (d + 1) M_Mo_step 84 [(2, Int.ofNat 122), (9, 0)] [] m4 Q))))) : zG (d + 1) M_Mo_step 84 [(2, Int.ofNat 122), (9, 0)] [] mem Q := by
  exact zent_ok ok_Mo_step (cuts := [8, 84, 140]) (f := 142) (And.intro rfl (And.intro rfl (zC.post hS (fun r1 m1 hr1 => (zC.post hr1 (fun r2 m2 hr2 => (zeq (fun c3 => (And.intro rfl (fun m3 em3 => ((hr2.1 c3) m3 em3)))) (fun c3 => (And.intro rfl (And.intro rfl (fun m4 em4 => ((hr2.2 c3) m4 em4))))))))))))
theorem v_Mo_byteAt {d : Nat} {a1 : Int} {mem : zMem} {Q : Int → zMem → Prop}  (hS : ((mem 122 10 ≤ a1 → Q (-4) mem) ∧ (a1 < mem 122 10 → ((0 ≤ a1 ∧ a1 < 320) ∧ Q (mem 125 a1.toNat) mem)))) : zC (d + 1) K_Mo_byteAt [(2, Int.ofNat 122), (0, a1)] mem Q := by
  exact zC_of ok_Mo_byteAt (by decide +kernel) (Nat.le_of_ble_eq_true rfl) rfl (Or.inr (Or.inl rfl)) (zent_ok ok_Mo_byteAt (cuts := []) (f := 16) (And.intro rfl (zge (fun c1 => (hS.1 c1)) (fun c1 => (And.intro rfl (And.intro (zbd rfl rfl (hS.2 c1).1) (hS.2 c1).2))))))
theorem v_Mo_fails {d : Nat} {a1 : Int} {mem : zMem} {Q : Int → zMem → Prop}  (hS : ((mem 122 12 ≠ 0 → Q 0 mem) ∧ (mem 122 12 = 0 → ∀ m1 : zMem, m1 = zup mem 122 12 a1 → ∀ m2 : zMem, m2 = zup m1 122 13 (m1 122 15) → Q 0 m2))) : zC (d + 1) K_Mo_fails [(2, Int.ofNat 122), (0, a1)] mem Q := by
  exact zC_of ok_Mo_fails (by decide +kernel) (Nat.le_of_ble_eq_true rfl) rfl (Or.inl rfl) (zent_ok ok_Mo_fails (cuts := []) (f := 16) (And.intro rfl (zne (fun c1 => (hS.1 c1)) (fun c1 => (And.intro rfl (fun m1 em1 => (And.intro rfl (And.intro rfl (fun m2 em2 => (((hS.2 c1) m1 em1) m2 em2))))))))))
theorem v_Mo_readLine {d : Nat}  {mem : zMem} {Q : Int → zMem → Prop}  (hS : zC d K_Mo_nameHere [(2, Int.ofNat 122)] mem (fun r1 m1 => zC d K_Mo_in [(1, r1), (1, 0), (1, 4)] m1 (fun r2 m2 => ((r2 ≠ 0 → ((r1 ≠ 2 → ((r1 ≠ 3 → ((r1 ≠ 4 → ((r1 ≠ 0 → ((m2 122 5 = 0 → ∀ m3 : zMem, m3 = zup m2 122 5 1 → zC d K_Mo_step [(2, Int.ofNat 122)] m3 (fun r3 m4 => zC d K_Mo_number [(2, Int.ofNat 122), (0, 0), (0, 3)] m4 (fun r4 m5 => ∀ m6 : zMem, m6 = zup m5 124 73 r4 → zG (d + 1) M_Mo_readLine 132 [(2, Int.ofNat 122), (9, 0)] [] m6 Q))) ∧ (m2 122 5 ≠ 0 → zC d K_Mo_fails [(2, Int.ofNat 122), (0, 4)] m2 (fun r5 m7 => ∀ m8 : zMem, m8 = zup m7 122 5 1 → zC d K_Mo_step [(2, Int.ofNat 122)] m8 (fun r6 m9 => zC d K_Mo_number [(2, Int.ofNat 122), (0, 0), (0, 3)] m9 (fun r7 m10 => ∀ m11 : zMem, m11 = zup m10 124 73 r7 → zG (d + 1) M_Mo_readLine 132 [(2, Int.ofNat 122), (9, 0)] [] m11 Q)))))) ∧ (r1 = 0 → ((m2 122 4 = 0 → ∀ m12 : zMem, m12 = zup m2 122 4 1 → zC d K_Mo_step [(2, Int.ofNat 122)] m12 (fun r9 m13 => zC d K_Mo_number [(2, Int.ofNat 122), (0, 2), (0, 10)] m13 (fun r10 m14 => ∀ m15 : zMem, m15 = zup m14 122 3 r10 → zG (d + 1) M_Mo_readLine 132 [(2, Int.ofNat 122), (9, 0)] [] m15 Q))) ∧ (m2 122 4 ≠ 0 → zC d K_Mo_fails [(2, Int.ofNat 122), (0, 4)] m2 (fun r11 m16 => ∀ m17 : zMem, m17 = zup m16 122 4 1 → zC d K_Mo_step [(2, Int.ofNat 122)] m17 (fun r12 m18 => zC d K_Mo_number [(2, Int.ofNat 122), (0, 2), (0, 10)] m18 (fun r13 m19 => ∀ m20 : zMem, m20 = zup m19 122 3 r13 → zG (d + 1) M_Mo_readLine 132 [(2, Int.ofNat 122), (9, 0)] [] m20 Q)))))))) ∧ (r1 = 4 → zC d K_Mo_readWalled [(2, Int.ofNat 122)] m2 (fun r16 m21 => zG (d + 1) M_Mo_readLine 132 [(2, Int.ofNat 122), (9, 0)] [] m21 Q)))) ∧ (r1 = 3 → zC d K_Mo_readOne [(2, Int.ofNat 122)] m2 (fun r18 m22 => zG (d + 1) M_Mo_readLine 132 [(2, Int.ofNat 122), (9, 0)] [] m22 Q)))) ∧ (r1 = 2 → zC d K_Mo_readDoor [(2, Int.ofNat 122)] m2 (fun r20 m23 => zG (d + 1) M_Mo_readLine 132 [(2, Int.ofNat 122), (9, 0)] [] m23 Q)))) ∧ (r2 = 0 → zC d K_Mo_fails [(2, Int.ofNat 122), (0, 2)] m2 (fun r22 m24 => Q 0 m24)))))) : zC (d + 1) K_Mo_readLine [(2, Int.ofNat 122)] mem Q := by
  exact zC_of ok_Mo_readLine (by decide +kernel) (Nat.le_of_ble_eq_true rfl) rfl (Or.inl rfl) (zent_ok ok_Mo_readLine (cuts := [132]) (f := 88) (And.intro rfl (zC.post hS (fun r1 m1 hr1 => (zall (zC.post hr1 (fun r2 m2 hr2 => (zne (fun c23 => (zne (fun c21 => (zne (fun c19 => (zne (fun c17 => (zne (fun c15 => (And.intro rfl (zeq (fun c8 => (And.intro rfl (And.intro (Or.inr rfl) (fun m3 em3 => (And.intro rfl (zC.post (((((((hr2.1 c23).1 c21).1 c19).1 c17).1 c15).1 c8) m3 em3) (fun r3 m4 hr3 => (And.intro rfl (And.intro rfl (zC.post hr3 (fun r4 m5 hr4 => (And.intro (zbd rfl rfl (by decide)) (fun m6 em6 => (zG.mask [true, false] (hr4 m6 em6))))))))))))))) (fun c8 => (And.intro rfl (zC.post ((((((hr2.1 c23).1 c21).1 c19).1 c17).1 c15).2 c8) (fun r5 m7 hr5 => (And.intro rfl (And.intro (Or.inr rfl) (fun m8 em8 => (And.intro rfl (zC.post (hr5 m8 em8) (fun r6 m9 hr6 => (And.intro rfl (And.intro rfl (zC.post hr6 (fun r7 m10 hr7 => (And.intro (zbd rfl rfl (by decide)) (fun m11 em11 => (zG.mask [true, false] (hr7 m11 em11))))))))))))))))))))) (fun c15 => (And.intro rfl (zeq (fun c14 => (And.intro rfl (And.intro (Or.inr rfl) (fun m12 em12 => (And.intro rfl (zC.post (((((((hr2.1 c23).1 c21).1 c19).1 c17).2 c15).1 c14) m12 em12) (fun r9 m13 hr9 => (And.intro rfl (zC.post hr9 (fun r10 m14 hr10 => (And.intro rfl (fun m15 em15 => (zG.mask [true, false] (hr10 m15 em15)))))))))))))) (fun c14 => (And.intro rfl (zC.post ((((((hr2.1 c23).1 c21).1 c19).1 c17).2 c15).2 c14) (fun r11 m16 hr11 => (And.intro rfl (And.intro (Or.inr rfl) (fun m17 em17 => (And.intro rfl (zC.post (hr11 m17 em17) (fun r12 m18 hr12 => (And.intro rfl (zC.post hr12 (fun r13 m19 hr13 => (And.intro rfl (fun m20 em20 => (zG.mask [true, false] (hr13 m20 em20)))))))))))))))))))))) (fun c17 => (And.intro rfl (zC.post ((((hr2.1 c23).1 c21).1 c19).2 c17) (fun r16 m21 hr16 => (zG.mask [true, false] hr16))))))) (fun c19 => (And.intro rfl (zC.post (((hr2.1 c23).1 c21).2 c19) (fun r18 m22 hr18 => (zG.mask [true, false] hr18))))))) (fun c21 => (And.intro rfl (zC.post ((hr2.1 c23).2 c21) (fun r20 m23 hr20 => (zG.mask [true, false] hr20))))))) (fun c23 => (And.intro rfl (zC.post (hr2.2 c23) (fun r22 m24 hr22 => hr22))))))))))))
theorem v_Mo_readLine_132 {d : Nat}  {mem : zMem} {Q : Int → zMem → Prop}  (hS : ((mem 122 12 ≠ 0 → zC d K_Mo_step [(2, Int.ofNat 122)] mem (fun r1 m1 => Q 0 m1)) ∧ (mem 122 12 = 0 → ((mem 122 16 = 3 → zC d K_Mo_step [(2, Int.ofNat 122)] mem (fun r2 m2 => Q 0 m2)) ∧ (mem 122 16 ≠ 3 → zC d K_Mo_fails [(2, Int.ofNat 122), (0, 2)] mem (fun r3 m3 => zC d K_Mo_step [(2, Int.ofNat 122)] m3 (fun r4 m4 => Q 0 m4))))))) : zG (d + 1) M_Mo_readLine 132 [(2, Int.ofNat 122), (9, 0)] [] mem Q := by
  exact zent_ok ok_Mo_readLine (cuts := [132]) (f := 88) (And.intro rfl (zne (fun c6 => (And.intro rfl (zC.post (hS.1 c6) (fun r1 m1 hr1 => hr1)))) (fun c6 => (And.intro rfl (zeq (fun c5 => (And.intro rfl (zC.post ((hS.2 c6).1 c5) (fun r2 m2 hr2 => hr2)))) (fun c5 => (And.intro rfl (zC.post ((hS.2 c6).2 c5) (fun r3 m3 hr3 => (And.intro rfl (zC.post hr3 (fun r4 m4 hr4 => hr4))))))))))))
theorem v_Mo_nameHere {d : Nat}  {mem : zMem} {Q : Int → zMem → Prop}  (hS : zG (d + 1) M_Mo_nameHere 2 [(2, Int.ofNat 122), (0, 0), (9, 0), (9, 0)] [] mem Q) : zC (d + 1) K_Mo_nameHere [(2, Int.ofNat 122)] mem Q := by
  exact zC_of ok_Mo_nameHere (by decide +kernel) (Nat.le_of_ble_eq_true rfl) rfl (Or.inr (Or.inl rfl)) (zent_ok ok_Mo_nameHere (cuts := [2, 51]) (f := 76) (zall hS))
theorem v_Mo_nameHere_2 {d : Nat} {l1 : Int} {mem : zMem} {Q : Int → zMem → Prop}  (hS : ((8 ≤ l1 → Q (-4) mem) ∧ (l1 < 8 → ((mem 122 16 ≠ 1 → Q (-4) mem) ∧ (mem 122 16 = 1 → ((0 ≤ zadd l1 1 ∧ zadd l1 1 < 9) ∧ ((0 ≤ l1 ∧ l1 < 9) ∧ ((zsub (mem 122 14) (mem 122 15) ≠ zsub (mem 126 (zadd l1 1).toNat) (mem 126 l1.toNat) → zG (d + 1) M_Mo_nameHere 51 [(2, Int.ofNat 122), (0, l1), (0, 0), (0, 0)] [] mem Q) ∧ (zsub (mem 122 14) (mem 122 15) = zsub (mem 126 (zadd l1 1).toNat) (mem 126 l1.toNat) → zG (d + 1) M_Mo_nameHere 51 [(2, Int.ofNat 122), (0, l1), (0, 1), (0, 0)] [] mem Q))))))))) : zG (d + 1) M_Mo_nameHere 2 [(2, Int.ofNat 122), (0, l1), (9, 0), (9, 0)] [] mem Q := by
  exact zent_ok ok_Mo_nameHere (cuts := [2, 51]) (f := 76) (zge (fun c3 => (hS.1 c3)) (fun c3 => (And.intro rfl (zne (fun c2 => ((hS.2 c3).1 c2)) (fun c2 => (And.intro rfl (And.intro rfl (And.intro rfl (And.intro (zbd rfl rfl ((hS.2 c3).2 c2).1) (And.intro rfl (And.intro (zbd rfl rfl ((hS.2 c3).2 c2).2.1) (zne (fun c1 => (zall (zall (((hS.2 c3).2 c2).2.2.1 c1)))) (fun c1 => (zall (zall (((hS.2 c3).2 c2).2.2.2 c1))))))))))))))))
theorem v_Mo_nameHere_51 {d : Nat} {l1 l2 l3 : Int} {mem : zMem} {Q : Int → zMem → Prop}  (hS : ((l2 = 0 → ((l2 = 0 → ∀ x1 : Int, x1 = zadd l1 1 → zG (d + 1) M_Mo_nameHere 2 [(2, Int.ofNat 122), (0, x1), (9, 0), (9, 0)] [] mem Q) ∧ (l2 ≠ 0 → Q l1 mem))) ∧ (l2 ≠ 0 → ((zsub (mem 122 14) (mem 122 15) ≤ l3 → ((l2 = 0 → ∀ x3 : Int, x3 = zadd l1 1 → zG (d + 1) M_Mo_nameHere 2 [(2, Int.ofNat 122), (0, x3), (9, 0), (9, 0)] [] mem Q) ∧ (l2 ≠ 0 → Q l1 mem))) ∧ (l3 < zsub (mem 122 14) (mem 122 15) → zC d K_Mo_byteAt [(2, Int.ofNat 122), (0, zadd (mem 122 15) l3)] mem (fun r5 m1 => ((0 ≤ l1 ∧ l1 < 9) ∧ ((0 ≤ zadd (m1 126 l1.toNat) l3 ∧ zadd (m1 126 l1.toNat) l3 < 33) ∧ ((r5 ≠ m1 127 (zadd (m1 126 l1.toNat) l3).toNat → ∀ x6 : Int, x6 = zadd l3 1 → zG (d + 1) M_Mo_nameHere 51 [(2, Int.ofNat 122), (0, l1), (0, 0), (0, x6)] [] m1 Q) ∧ (r5 = m1 127 (zadd (m1 126 l1.toNat) l3).toNat → ∀ x7 : Int, x7 = zadd l3 1 → zG (d + 1) M_Mo_nameHere 51 [(2, Int.ofNat 122), (0, l1), (0, 1), (0, x7)] [] m1 Q)))))))))) : zG (d + 1) M_Mo_nameHere 51 [(2, Int.ofNat 122), (0, l1), (0, l2), (0, l3)] [] mem Q := by
  exact zent_ok ok_Mo_nameHere (cuts := [2, 51]) (f := 76) (zeq (fun c10 => (zeq (fun c2 => (fun x1 ex1 => (zG.mask [true, true, false, false] (((hS.1 c10).1 c2) x1 ex1)))) (fun c2 => ((hS.1 c10).2 c2)))) (fun c10 => (And.intro rfl (And.intro rfl (zge (fun c9 => (zeq (fun c4 => (fun x3 ex3 => (zG.mask [true, true, false, false] ((((hS.2 c10).1 c9).1 c4) x3 ex3)))) (fun c4 => (((hS.2 c10).1 c9).2 c4)))) (fun c9 => (And.intro rfl (And.intro rfl (zC.post ((hS.2 c10).2 c9) (fun r5 m1 hr5 => (And.intro rfl (And.intro rfl (And.intro (zbd rfl rfl hr5.1) (And.intro (zbd rfl rfl hr5.2.1) (zne (fun c8 => (zall (fun x6 ex6 => ((hr5.2.2.1 c8) x6 ex6)))) (fun c8 => (zall (fun x7 ex7 => ((hr5.2.2.2 c8) x7 ex7)))))))))))))))))))
theorem v_Mo_readDoor {d : Nat}  {mem : zMem} {Q : Int → zMem → Prop}  (hS : ∀ x1 : Int, x1 = mem 124 56 → ((x1 ≠ 14 → zC d K_Mo_step [(2, Int.ofNat 122)] mem (fun r2 m1 => zC d K_Mo_room [(2, Int.ofNat 122), (0, -4)] m1 (fun r3 m2 => ((0 ≤ zmul 4 x1 ∧ zmul 4 x1 < 88) ∧ ∀ m3 : zMem, m3 = zup m2 124 (zmul 4 x1).toNat r3 → ((0 ≤ zmul 4 x1 ∧ zmul 4 x1 < 88) ∧ zC d K_Mo_room [(2, Int.ofNat 122), (0, m3 124 (zmul 4 x1).toNat)] m3 (fun r4 m4 => ((0 ≤ zadd (zmul 4 x1) 1 ∧ zadd (zmul 4 x1) 1 < 88) ∧ ∀ m5 : zMem, m5 = zup m4 124 (zadd (zmul 4 x1) 1).toNat r4 → ((m5 122 12 ≠ 0 → ∀ m6 : zMem, m6 = zup m5 124 56 (zadd (m5 124 56) 1) → Q 0 m6) ∧ (m5 122 12 = 0 → ((m5 122 16 ≠ 1 → ∀ m7 : zMem, m7 = zup m5 124 56 (zadd (m5 124 56) 1) → Q 0 m7) ∧ (m5 122 16 = 1 → zC d K_Mo_nameHere [(2, Int.ofNat 122)] m5 (fun r5 m8 => ∀ x6 : Int, x6 = zsub r5 5 → ((0 ≤ x6 → ((0 ≤ zadd (zmul 4 x1) 2 ∧ zadd (zmul 4 x1) 2 < 88) ∧ ∀ m9 : zMem, m9 = zup m8 124 (zadd (zmul 4 x1) 2).toNat (zadd x6 1) → zC d K_Mo_step [(2, Int.ofNat 122)] m9 (fun r7 m10 => ∀ m11 : zMem, m11 = zup m10 124 56 (zadd (m10 124 56) 1) → Q 0 m11))) ∧ (x6 < 0 → zC d K_Mo_fails [(2, Int.ofNat 122), (0, 2)] m8 (fun r8 m12 => ((0 ≤ zadd (zmul 4 x1) 2 ∧ zadd (zmul 4 x1) 2 < 88) ∧ ∀ m13 : zMem, m13 = zup m12 124 (zadd (zmul 4 x1) 2).toNat (zadd x6 1) → zC d K_Mo_step [(2, Int.ofNat 122)] m13 (fun r9 m14 => ∀ m15 : zMem, m15 = zup m14 124 56 (zadd (m14 124 56) 1) → Q 0 m15))))))))))))))))) ∧ (x1 = 14 → zC d K_Mo_fails [(2, Int.ofNat 122), (0, 5)] mem (fun r13 m16 => Q 0 m16)))) : zC (d + 1) K_Mo_readDoor [(2, Int.ofNat 122)] mem Q := by
  exact zC_of ok_Mo_readDoor (by decide +kernel) (Nat.le_of_ble_eq_true rfl) rfl (Or.inl rfl) (zent_ok ok_Mo_readDoor (cuts := []) (f := 83) (And.intro rfl (And.intro (zbd rfl rfl (by decide)) (fun x1 ex1 => (zne (fun c14 => (And.intro rfl (zC.post ((hS x1 ex1).1 c14) (fun r2 m1 hr2 => (And.intro rfl (And.intro rfl (zC.post hr2 (fun r3 m2 hr3 => (And.intro (zbd rfl rfl hr3.1) (fun m3 em3 => (And.intro rfl (And.intro rfl (And.intro (zbd rfl rfl (hr3.2 m3 em3).1) (And.intro rfl (zC.post (hr3.2 m3 em3).2 (fun r4 m4 hr4 => (And.intro (zbd rfl rfl hr4.1) (fun m5 em5 => (And.intro rfl (zne (fun c12 => (And.intro rfl (And.intro (zbd rfl rfl (by decide)) (And.intro (zbd rfl rfl (by decide)) (fun m6 em6 => (((hr4.2 m5 em5).1 c12) m6 em6)))))) (fun c12 => (And.intro rfl (zne (fun c11 => (And.intro rfl (And.intro (zbd rfl rfl (by decide)) (And.intro (zbd rfl rfl (by decide)) (fun m7 em7 => ((((hr4.2 m5 em5).2 c12).1 c11) m7 em7)))))) (fun c11 => (And.intro rfl (zC.post (((hr4.2 m5 em5).2 c12).2 c11) (fun r5 m8 hr5 => (fun x6 ex6 => (zge (fun c10 => (And.intro rfl (And.intro (zbd rfl rfl ((hr5 x6 ex6).1 c10).1) (fun m9 em9 => (And.intro rfl (zC.post (((hr5 x6 ex6).1 c10).2 m9 em9) (fun r7 m10 hr7 => (And.intro rfl (And.intro (zbd rfl rfl (by decide)) (And.intro (zbd rfl rfl (by decide)) (fun m11 em11 => (hr7 m11 em11)))))))))))) (fun c10 => (And.intro rfl (zC.post ((hr5 x6 ex6).2 c10) (fun r8 m12 hr8 => (And.intro rfl (And.intro (zbd rfl rfl hr8.1) (fun m13 em13 => (And.intro rfl (zC.post (hr8.2 m13 em13) (fun r9 m14 hr9 => (And.intro rfl (And.intro (zbd rfl rfl (by decide)) (And.intro (zbd rfl rfl (by decide)) (fun m15 em15 => (hr9 m15 em15)))))))))))))))))))))))))))))))))))))))))))) (fun c14 => (And.intro rfl (zC.post ((hS x1 ex1).2 c14) (fun r13 m16 hr13 => hr13)))))))))
theorem v_Mo_room {d : Nat} {a1 : Int} {mem : zMem} {Q : Int → zMem → Prop}  (hS : zC d K_Mo_looks [(2, Int.ofNat 122), (0, 0), (0, 9)] mem (fun r1 m1 => ((m1 122 12 ≠ 0 → zC d K_Mo_number [(2, Int.ofNat 122), (0, 0), (0, 9)] m1 (fun r2 m2 => ((r2 ≤ m2 122 7 → ∀ m3 : zMem, m3 = zup m2 122 7 (m2 122 7) → Q r2 m3) ∧ (m2 122 7 < r2 → ∀ m4 : zMem, m4 = zup m2 122 7 r2 → Q r2 m4)))) ∧ (m1 122 12 = 0 → ((m1 122 17 ≠ a1 → zC d K_Mo_number [(2, Int.ofNat 122), (0, 0), (0, 9)] m1 (fun r4 m5 => ((r4 ≤ m5 122 7 → ∀ m6 : zMem, m6 = zup m5 122 7 (m5 122 7) → Q r4 m6) ∧ (m5 122 7 < r4 → ∀ m7 : zMem, m7 = zup m5 122 7 r4 → Q r4 m7)))) ∧ (m1 122 17 = a1 → zC d K_Mo_fails [(2, Int.ofNat 122), (0, 4)] m1 (fun r6 m8 => zC d K_Mo_number [(2, Int.ofNat 122), (0, 0), (0, 9)] m8 (fun r7 m9 => ((r7 ≤ m9 122 7 → ∀ m10 : zMem, m10 = zup m9 122 7 (m9 122 7) → Q r7 m10) ∧ (m9 122 7 < r7 → ∀ m11 : zMem, m11 = zup m9 122 7 r7 → Q r7 m11)))))))))) : zC (d + 1) K_Mo_room [(2, Int.ofNat 122), (0, a1)] mem Q := by
  exact zC_of ok_Mo_room (by decide +kernel) (Nat.le_of_ble_eq_true rfl) rfl (Or.inr (Or.inl rfl)) (zent_ok ok_Mo_room (cuts := []) (f := 36) (And.intro rfl (zC.post hS (fun r1 m1 hr1 => (And.intro rfl (zne (fun c10 => (And.intro rfl (zC.post (hr1.1 c10) (fun r2 m2 hr2 => (zall (And.intro rfl (zle (fun c3 => (And.intro rfl (And.intro rfl (fun m3 em3 => ((hr2.1 c3) m3 em3))))) (fun c3 => (And.intro rfl (fun m4 em4 => ((hr2.2 c3) m4 em4))))))))))) (fun c10 => (And.intro rfl (zne (fun c9 => (And.intro rfl (zC.post ((hr1.2 c10).1 c9) (fun r4 m5 hr4 => (zall (And.intro rfl (zle (fun c5 => (And.intro rfl (And.intro rfl (fun m6 em6 => ((hr4.1 c5) m6 em6))))) (fun c5 => (And.intro rfl (fun m7 em7 => ((hr4.2 c5) m7 em7))))))))))) (fun c9 => (And.intro rfl (zC.post ((hr1.2 c10).2 c9) (fun r6 m8 hr6 => (And.intro rfl (zC.post hr6 (fun r7 m9 hr7 => (zall (And.intro rfl (zle (fun c8 => (And.intro rfl (And.intro rfl (fun m10 em10 => ((hr7.1 c8) m10 em10))))) (fun c8 => (And.intro rfl (fun m11 em11 => ((hr7.2 c8) m11 em11)))))))))))))))))))))))
theorem v_Mo_looks {d : Nat} {a1 a2 : Int} {mem : zMem} {Q : Int → zMem → Prop}  (hS : ((mem 122 12 ≠ 0 → ((mem 122 12 ≠ 0 → zG (d + 1) M_Mo_looks 47 [(9, 0), (9, 0), (9, 0)] [] mem Q) ∧ (mem 122 12 = 0 → zC d K_Mo_in [(1, mem 122 17), (1, a1), (1, a2)] mem (fun r1 m1 => ((r1 ≠ 0 → zG (d + 1) M_Mo_looks 47 [(9, 0), (9, 0), (9, 0)] [] m1 Q) ∧ (r1 = 0 → zC d K_Mo_fails [(2, Int.ofNat 122), (0, 3)] m1 (fun r2 m2 => zG (d + 1) M_Mo_looks 47 [(9, 0), (9, 0), (9, 0)] [] m2 Q))))))) ∧ (mem 122 12 = 0 → ((mem 122 16 = 2 → ((mem 122 12 ≠ 0 → zG (d + 1) M_Mo_looks 47 [(9, 0), (9, 0), (9, 0)] [] mem Q) ∧ (mem 122 12 = 0 → zC d K_Mo_in [(1, mem 122 17), (1, a1), (1, a2)] mem (fun r5 m3 => ((r5 ≠ 0 → zG (d + 1) M_Mo_looks 47 [(9, 0), (9, 0), (9, 0)] [] m3 Q) ∧ (r5 = 0 → zC d K_Mo_fails [(2, Int.ofNat 122), (0, 3)] m3 (fun r6 m4 => zG (d + 1) M_Mo_looks 47 [(9, 0), (9, 0), (9, 0)] [] m4 Q))))))) ∧ (mem 122 16 ≠ 2 → zC d K_Mo_fails [(2, Int.ofNat 122), (0, 2)] mem (fun r9 m5 => ((m5 122 12 ≠ 0 → zG (d + 1) M_Mo_looks 47 [(9, 0), (9, 0), (9, 0)] [] m5 Q) ∧ (m5 122 12 = 0 → zC d K_Mo_in [(1, m5 122 17), (1, a1), (1, a2)] m5 (fun r10 m6 => ((r10 ≠ 0 → zG (d + 1) M_Mo_looks 47 [(9, 0), (9, 0), (9, 0)] [] m6 Q) ∧ (r10 = 0 → zC d K_Mo_fails [(2, Int.ofNat 122), (0, 3)] m6 (fun r11 m7 => zG (d + 1) M_Mo_looks 47 [(9, 0), (9, 0), (9, 0)] [] m7 Q)))))))))))) : zC (d + 1) K_Mo_looks [(2, Int.ofNat 122), (0, a1), (0, a2)] mem Q := by
  exact zC_of ok_Mo_looks (by decide +kernel) (Nat.le_of_ble_eq_true rfl) rfl (Or.inl rfl) (zent_ok ok_Mo_looks (cuts := [47]) (f := 31) (And.intro rfl (zne (fun c15 => (And.intro rfl (zne (fun c4 => (zG.mask [false, false, false] ((hS.1 c15).1 c4))) (fun c4 => (And.intro rfl (zC.post ((hS.1 c15).2 c4) (fun r1 m1 hr1 => (zne (fun c3 => (zG.mask [false, false, false] (hr1.1 c3))) (fun c3 => (And.intro rfl (zC.post (hr1.2 c3) (fun r2 m2 hr2 => (zG.mask [false, false, false] hr2))))))))))))) (fun c15 => (And.intro rfl (zeq (fun c14 => (And.intro rfl (zne (fun c8 => (zG.mask [false, false, false] (((hS.2 c15).1 c14).1 c8))) (fun c8 => (And.intro rfl (zC.post (((hS.2 c15).1 c14).2 c8) (fun r5 m3 hr5 => (zne (fun c7 => (zG.mask [false, false, false] (hr5.1 c7))) (fun c7 => (And.intro rfl (zC.post (hr5.2 c7) (fun r6 m4 hr6 => (zG.mask [false, false, false] hr6))))))))))))) (fun c14 => (And.intro rfl (zC.post ((hS.2 c15).2 c14) (fun r9 m5 hr9 => (And.intro rfl (zne (fun c13 => (zG.mask [false, false, false] (hr9.1 c13))) (fun c13 => (And.intro rfl (zC.post (hr9.2 c13) (fun r10 m6 hr10 => (zne (fun c12 => (zG.mask [false, false, false] (hr10.1 c12))) (fun c12 => (And.intro rfl (zC.post (hr10.2 c12) (fun r11 m7 hr11 => (zG.mask [false, false, false] hr11))))))))))))))))))))))
theorem v_Mo_looks_47 {d : Nat}  {mem : zMem} {Q : Int → zMem → Prop}  (hS : Q 0 mem) : zG (d + 1) M_Mo_looks 47 [(9, 0), (9, 0), (9, 0)] [] mem Q := by
  exact zent_ok ok_Mo_looks (cuts := [47]) (f := 31) hS
theorem v_Mo_number {d : Nat} {a1 a2 : Int} {mem : zMem} {Q : Int → zMem → Prop}  (hS : zC d K_Mo_looks [(2, Int.ofNat 122), (0, a1), (0, a2)] mem (fun r1 m1 => ((m1 122 12 ≠ 0 → zC d K_Mo_step [(2, Int.ofNat 122)] m1 (fun r2 m2 => Q a1 m2)) ∧ (m1 122 12 = 0 → ∀ x3 : Int, x3 = m1 122 17 → zC d K_Mo_step [(2, Int.ofNat 122)] m1 (fun r4 m3 => Q x3 m3))))) : zC (d + 1) K_Mo_number [(2, Int.ofNat 122), (0, a1), (0, a2)] mem Q := by
  exact zC_of ok_Mo_number (by decide +kernel) (Nat.le_of_ble_eq_true rfl) rfl (Or.inr (Or.inl rfl)) (zent_ok ok_Mo_number (cuts := []) (f := 21) (And.intro rfl (zC.post hS (fun r1 m1 hr1 => (And.intro rfl (zne (fun c5 => (zall (And.intro rfl (zC.post (hr1.1 c5) (fun r2 m2 hr2 => hr2))))) (fun c5 => (And.intro rfl (fun x3 ex3 => (And.intro rfl (zC.post ((hr1.2 c5) x3 ex3) (fun r4 m3 hr4 => hr4))))))))))))
theorem v_Mo_readOne {d : Nat}  {mem : zMem} {Q : Int → zMem → Prop}  (hS : ∀ x1 : Int, x1 = mem 124 72 → ((x1 ≠ 5 → zC d K_Mo_step [(2, Int.ofNat 122)] mem (fun r2 m1 => zC d K_Mo_room [(2, Int.ofNat 122), (0, -4)] m1 (fun r3 m2 => ((0 ≤ zadd 57 (zmul 3 x1) ∧ zadd 57 (zmul 3 x1) < 88) ∧ ∀ m3 : zMem, m3 = zup m2 124 (zadd 57 (zmul 3 x1)).toNat r3 → ((0 ≤ zadd (zadd 57 (zmul 3 x1)) 1 ∧ zadd (zadd 57 (zmul 3 x1)) 1 < 88) ∧ ∀ m4 : zMem, m4 = zup m3 124 (zadd (zadd 57 (zmul 3 x1)) 1).toNat (-4) → ((0 ≤ zadd (zadd 57 (zmul 3 x1)) 2 ∧ zadd (zadd 57 (zmul 3 x1)) 2 < 88) ∧ ∀ m5 : zMem, m5 = zup m4 124 (zadd (zadd 57 (zmul 3 x1)) 2).toNat (-4) → ∀ m6 : zMem, m6 = zup m5 124 72 (zadd (m5 124 72) 1) → Q 0 m6)))))) ∧ (x1 = 5 → zC d K_Mo_fails [(2, Int.ofNat 122), (0, 5)] mem (fun r4 m7 => Q 0 m7)))) : zC (d + 1) K_Mo_readOne [(2, Int.ofNat 122)] mem Q := by
  exact zC_of ok_Mo_readOne (by decide +kernel) (Nat.le_of_ble_eq_true rfl) rfl (Or.inl rfl) (zent_ok ok_Mo_readOne (cuts := []) (f := 61) (And.intro rfl (And.intro (zbd rfl rfl (by decide)) (fun x1 ex1 => (zne (fun c5 => (And.intro rfl (zC.post ((hS x1 ex1).1 c5) (fun r2 m1 hr2 => (And.intro rfl (And.intro rfl (zC.post hr2 (fun r3 m2 hr3 => (And.intro (zbd rfl rfl hr3.1) (fun m3 em3 => (And.intro rfl (And.intro (zbd rfl rfl (hr3.2 m3 em3).1) (fun m4 em4 => (And.intro rfl (And.intro (zbd rfl rfl ((hr3.2 m3 em3).2 m4 em4).1) (fun m5 em5 => (And.intro rfl (And.intro (zbd rfl rfl (by decide)) (And.intro (zbd rfl rfl (by decide)) (fun m6 em6 => ((((hr3.2 m3 em3).2 m4 em4).2 m5 em5) m6 em6))))))))))))))))))))) (fun c5 => (And.intro rfl (zC.post ((hS x1 ex1).2 c5) (fun r4 m7 hr4 => hr4)))))))))
theorem v_Mo_readWalled {d : Nat}  {mem : zMem} {Q : Int → zMem → Prop}  (hS : zC d K_Mo_step [(2, Int.ofNat 122)] mem (fun r1 m1 => zC d K_Mo_looks [(2, Int.ofNat 122), (0, 0), (0, 13)] m1 (fun r2 m2 => ((m2 122 12 ≠ 0 → ((m2 122 12 ≠ 0 → ∀ m3 : zMem, m3 = zup m2 122 6 (zor (m2 122 6) (zshl 1 0)) → ((m3 122 12 ≠ 0 → zG (d + 1) M_Mo_readWalled 83 [(2, Int.ofNat 122), (9, 0)] [(2, Int.ofNat 122)] m3 Q) ∧ (m3 122 12 = 0 → ((0 ≤ m3 122 8 → zG (d + 1) M_Mo_readWalled 83 [(2, Int.ofNat 122), (9, 0)] [(2, Int.ofNat 122)] m3 Q) ∧ (m3 122 8 < 0 → zG (d + 1) M_Mo_readWalled 87 [(2, Int.ofNat 122), (9, 0)] [(0, 0), (2, Int.ofNat 122)] m3 Q))))) ∧ (m2 122 12 = 0 → ((zand (zshr (m2 122 6) 0) 1 ≠ 1 → ∀ m4 : zMem, m4 = zup m2 122 6 (zor (m2 122 6) (zshl 1 0)) → ((m4 122 12 ≠ 0 → zG (d + 1) M_Mo_readWalled 83 [(2, Int.ofNat 122), (9, 0)] [(2, Int.ofNat 122)] m4 Q) ∧ (m4 122 12 = 0 → ((0 ≤ m4 122 8 → zG (d + 1) M_Mo_readWalled 83 [(2, Int.ofNat 122), (9, 0)] [(2, Int.ofNat 122)] m4 Q) ∧ (m4 122 8 < 0 → zG (d + 1) M_Mo_readWalled 87 [(2, Int.ofNat 122), (9, 0)] [(0, 0), (2, Int.ofNat 122)] m4 Q))))) ∧ (zand (zshr (m2 122 6) 0) 1 = 1 → zC d K_Mo_fails [(2, Int.ofNat 122), (0, 4)] m2 (fun r7 m5 => ∀ m6 : zMem, m6 = zup m5 122 6 (zor (m5 122 6) (zshl 1 0)) → ((m6 122 12 ≠ 0 → zG (d + 1) M_Mo_readWalled 83 [(2, Int.ofNat 122), (9, 0)] [(2, Int.ofNat 122)] m6 Q) ∧ (m6 122 12 = 0 → ((0 ≤ m6 122 8 → zG (d + 1) M_Mo_readWalled 83 [(2, Int.ofNat 122), (9, 0)] [(2, Int.ofNat 122)] m6 Q) ∧ (m6 122 8 < 0 → zG (d + 1) M_Mo_readWalled 87 [(2, Int.ofNat 122), (9, 0)] [(0, 0), (2, Int.ofNat 122)] m6 Q)))))))))) ∧ (m2 122 12 = 0 → ∀ x12 : Int, x12 = m2 122 17 → ((m2 122 12 ≠ 0 → ∀ m7 : zMem, m7 = zup m2 122 6 (zor (m2 122 6) (zshl 1 x12)) → ((m7 122 12 ≠ 0 → zG (d + 1) M_Mo_readWalled 83 [(2, Int.ofNat 122), (9, 0)] [(2, Int.ofNat 122)] m7 Q) ∧ (m7 122 12 = 0 → ((x12 ≤ m7 122 8 → zG (d + 1) M_Mo_readWalled 83 [(2, Int.ofNat 122), (9, 0)] [(2, Int.ofNat 122)] m7 Q) ∧ (m7 122 8 < x12 → zG (d + 1) M_Mo_readWalled 87 [(2, Int.ofNat 122), (9, 0)] [(0, x12), (2, Int.ofNat 122)] m7 Q))))) ∧ (m2 122 12 = 0 → ((zand (zshr (m2 122 6) x12) 1 ≠ 1 → ∀ m8 : zMem, m8 = zup m2 122 6 (zor (m2 122 6) (zshl 1 x12)) → ((m8 122 12 ≠ 0 → zG (d + 1) M_Mo_readWalled 83 [(2, Int.ofNat 122), (9, 0)] [(2, Int.ofNat 122)] m8 Q) ∧ (m8 122 12 = 0 → ((x12 ≤ m8 122 8 → zG (d + 1) M_Mo_readWalled 83 [(2, Int.ofNat 122), (9, 0)] [(2, Int.ofNat 122)] m8 Q) ∧ (m8 122 8 < x12 → zG (d + 1) M_Mo_readWalled 87 [(2, Int.ofNat 122), (9, 0)] [(0, x12), (2, Int.ofNat 122)] m8 Q))))) ∧ (zand (zshr (m2 122 6) x12) 1 = 1 → zC d K_Mo_fails [(2, Int.ofNat 122), (0, 4)] m2 (fun r17 m9 => ∀ m10 : zMem, m10 = zup m9 122 6 (zor (m9 122 6) (zshl 1 x12)) → ((m10 122 12 ≠ 0 → zG (d + 1) M_Mo_readWalled 83 [(2, Int.ofNat 122), (9, 0)] [(2, Int.ofNat 122)] m10 Q) ∧ (m10 122 12 = 0 → ((x12 ≤ m10 122 8 → zG (d + 1) M_Mo_readWalled 83 [(2, Int.ofNat 122), (9, 0)] [(2, Int.ofNat 122)] m10 Q) ∧ (m10 122 8 < x12 → zG (d + 1) M_Mo_readWalled 87 [(2, Int.ofNat 122), (9, 0)] [(0, x12), (2, Int.ofNat 122)] m10 Q)))))))))))))) : zC (d + 1) K_Mo_readWalled [(2, Int.ofNat 122)] mem Q := by
  exact zC_of ok_Mo_readWalled (by decide +kernel) (Nat.le_of_ble_eq_true rfl) rfl (Or.inl rfl) (zent_ok ok_Mo_readWalled (cuts := [83, 87]) (f := 57) (And.intro rfl (zC.post hS (fun r1 m1 hr1 => (And.intro rfl (zC.post hr1 (fun r2 m2 hr2 => (And.intro rfl (zne (fun c22 => (zall (And.intro rfl (zne (fun c11 => (And.intro rfl (And.intro rfl (fun m3 em3 => (And.intro rfl (zne (fun c4 => (zG.mask [true, false] ((((hr2.1 c22).1 c11) m3 em3).1 c4))) (fun c4 => (And.intro rfl (zle (fun c3 => (zG.mask [true, false] (((((hr2.1 c22).1 c11) m3 em3).2 c4).1 c3))) (fun c3 => (zG.mask [true, false] (((((hr2.1 c22).1 c11) m3 em3).2 c4).2 c3)))))))))))) (fun c11 => (And.intro rfl (zne (fun c10 => (And.intro rfl (And.intro rfl (fun m4 em4 => (And.intro rfl (zne (fun c6 => (zG.mask [true, false] (((((hr2.1 c22).2 c11).1 c10) m4 em4).1 c6))) (fun c6 => (And.intro rfl (zle (fun c5 => (zG.mask [true, false] ((((((hr2.1 c22).2 c11).1 c10) m4 em4).2 c6).1 c5))) (fun c5 => (zG.mask [true, false] ((((((hr2.1 c22).2 c11).1 c10) m4 em4).2 c6).2 c5)))))))))))) (fun c10 => (And.intro rfl (zC.post (((hr2.1 c22).2 c11).2 c10) (fun r7 m5 hr7 => (And.intro rfl (And.intro rfl (fun m6 em6 => (And.intro rfl (zne (fun c9 => (zG.mask [true, false] ((hr7 m6 em6).1 c9))) (fun c9 => (And.intro rfl (zle (fun c8 => (zG.mask [true, false] (((hr7 m6 em6).2 c9).1 c8))) (fun c8 => (zG.mask [true, false] (((hr7 m6 em6).2 c9).2 c8)))))))))))))))))))))) (fun c22 => (And.intro rfl (fun x12 ex12 => (And.intro rfl (zne (fun c21 => (And.intro rfl (And.intro rfl (fun m7 em7 => (And.intro rfl (zne (fun c14 => (zG.mask [true, false] (((((hr2.2 c22) x12 ex12).1 c21) m7 em7).1 c14))) (fun c14 => (And.intro rfl (zle (fun c13 => (zG.mask [true, false] ((((((hr2.2 c22) x12 ex12).1 c21) m7 em7).2 c14).1 c13))) (fun c13 => (zG.mask [true, false] ((((((hr2.2 c22) x12 ex12).1 c21) m7 em7).2 c14).2 c13)))))))))))) (fun c21 => (And.intro rfl (zne (fun c20 => (And.intro rfl (And.intro rfl (fun m8 em8 => (And.intro rfl (zne (fun c16 => (zG.mask [true, false] ((((((hr2.2 c22) x12 ex12).2 c21).1 c20) m8 em8).1 c16))) (fun c16 => (And.intro rfl (zle (fun c15 => (zG.mask [true, false] (((((((hr2.2 c22) x12 ex12).2 c21).1 c20) m8 em8).2 c16).1 c15))) (fun c15 => (zG.mask [true, false] (((((((hr2.2 c22) x12 ex12).2 c21).1 c20) m8 em8).2 c16).2 c15)))))))))))) (fun c20 => (And.intro rfl (zC.post ((((hr2.2 c22) x12 ex12).2 c21).2 c20) (fun r17 m9 hr17 => (And.intro rfl (And.intro rfl (fun m10 em10 => (And.intro rfl (zne (fun c19 => (zG.mask [true, false] ((hr17 m10 em10).1 c19))) (fun c19 => (And.intro rfl (zle (fun c18 => (zG.mask [true, false] (((hr17 m10 em10).2 c19).1 c18))) (fun c18 => (zG.mask [true, false] (((hr17 m10 em10).2 c19).2 c18))))))))))))))))))))))))))))))))
theorem v_Mo_readWalled_83 {d : Nat}  {mem : zMem} {Q : Int → zMem → Prop}  (hS : zG (d + 1) M_Mo_readWalled 87 [(2, Int.ofNat 122), (9, 0)] [(0, mem 122 8), (2, Int.ofNat 122)] mem Q) : zG (d + 1) M_Mo_readWalled 83 [(2, Int.ofNat 122), (9, 0)] [(2, Int.ofNat 122)] mem Q := by
  exact zent_ok ok_Mo_readWalled (cuts := [83, 87]) (f := 57) (And.intro rfl hS)
theorem v_Mo_readWalled_87 {d : Nat} {s0 : Int} {mem : zMem} {Q : Int → zMem → Prop}  (hS : ∀ m1 : zMem, m1 = zup mem 122 8 s0 → zC d K_Mo_step [(2, Int.ofNat 122)] m1 (fun r1 m2 => Q 0 m2)) : zG (d + 1) M_Mo_readWalled 87 [(2, Int.ofNat 122), (9, 0)] [(0, s0), (2, Int.ofNat 122)] mem Q := by
  exact zent_ok ok_Mo_readWalled (cuts := [83, 87]) (f := 57) (And.intro rfl (fun m1 em1 => (And.intro rfl (zC.post (hS m1 em1) (fun r1 m2 hr1 => hr1)))))
theorem v_Mo_doorMany {d : Nat}  {mem : zMem} {Q : Int → zMem → Prop}  (hS : Q (mem 123 56) mem) : zC (d + 1) K_Mo_doorMany [(2, Int.ofNat 122)] mem Q := by
  exact zC_of ok_Mo_doorMany (by decide +kernel) (Nat.le_of_ble_eq_true rfl) rfl (Or.inr (Or.inl rfl)) (zent_ok ok_Mo_doorMany (cuts := []) (f := 10) (And.intro rfl (And.intro (zbd rfl rfl (by decide)) hS)))
theorem v_Mo_fault {d : Nat}  {mem : zMem} {Q : Int → zMem → Prop}  (hS : Q (mem 122 11) mem) : zC (d + 1) K_Mo_fault [(2, Int.ofNat 122)] mem Q := by
  exact zC_of ok_Mo_fault (by decide +kernel) (Nat.le_of_ble_eq_true rfl) rfl (Or.inr (Or.inl rfl)) (zent_ok ok_Mo_fault (cuts := []) (f := 8) (And.intro rfl hS))
theorem v_Mo_rule {d : Nat} {a1 : Int} {mem : zMem} {Q : Int → zMem → Prop}  (hS : ((a1 ≠ 0 → ((a1 ≠ 1 → ((a1 ≠ 2 → ((a1 ≠ 3 → Q (-1) mem) ∧ (a1 = 3 → zC d K_Mo_ones [(2, Int.ofNat 122)] mem (fun r1 m1 => Q r1 m1)))) ∧ (a1 = 2 → zC d K_Mo_doorMany [(2, Int.ofNat 122)] mem (fun r3 m2 => Q r3 m2)))) ∧ (a1 = 1 → Q (mem 123 73) mem))) ∧ (a1 = 0 → Q (mem 122 1) mem))) : zC (d + 1) K_Mo_rule [(2, Int.ofNat 122), (0, a1)] mem Q := by
  exact zC_of ok_Mo_rule (by decide +kernel) (Nat.le_of_ble_eq_true rfl) rfl (Or.inr (Or.inl rfl)) (zent_ok ok_Mo_rule (cuts := []) (f := 32) (zne (fun c6 => (zne (fun c5 => (zne (fun c4 => (zne (fun c2 => ((((hS.1 c6).1 c5).1 c4).1 c2)) (fun c2 => (And.intro rfl (zC.post ((((hS.1 c6).1 c5).1 c4).2 c2) (fun r1 m1 hr1 => hr1)))))) (fun c4 => (And.intro rfl (zC.post (((hS.1 c6).1 c5).2 c4) (fun r3 m2 hr3 => hr3)))))) (fun c5 => (And.intro rfl (And.intro (zbd rfl rfl (by decide)) ((hS.1 c6).2 c5)))))) (fun c6 => (And.intro rfl (hS.2 c6)))))
theorem v_Mo_ones {d : Nat}  {mem : zMem} {Q : Int → zMem → Prop}  (hS : Q (mem 123 72) mem) : zC (d + 1) K_Mo_ones [(2, Int.ofNat 122)] mem Q := by
  exact zC_of ok_Mo_ones (by decide +kernel) (Nat.le_of_ble_eq_true rfl) rfl (Or.inr (Or.inl rfl)) (zent_ok ok_Mo_ones (cuts := []) (f := 10) (And.intro rfl (And.intro (zbd rfl rfl (by decide)) hS)))
theorem v_Mo_door {d : Nat} {a1 a2 : Int} {mem : zMem} {Q : Int → zMem → Prop}  (hS : zC d K_Mo_isDoor [(2, Int.ofNat 122), (0, a1)] mem (fun r1 m1 => ((r1 = 0 → Q (-1) m1) ∧ (r1 ≠ 0 → zC d K_Mo_in [(1, a2), (1, 0), (1, 3)] m1 (fun r2 m2 => ((r2 = 0 → Q (-1) m2) ∧ (r2 ≠ 0 → ((0 ≤ zadd (zmul 4 a1) a2 ∧ zadd (zmul 4 a1) a2 < 264) ∧ Q (m2 123 (zadd (zmul 4 a1) a2).toNat) m2)))))))) : zC (d + 1) K_Mo_door [(2, Int.ofNat 122), (0, a1), (0, a2)] mem Q := by
  exact zC_of ok_Mo_door (by decide +kernel) (Nat.le_of_ble_eq_true rfl) rfl (Or.inr (Or.inl rfl)) (zent_ok ok_Mo_door (cuts := []) (f := 26) (And.intro rfl (zC.post hS (fun r1 m1 hr1 => (zeq (fun c4 => (hr1.1 c4)) (fun c4 => (zC.post (hr1.2 c4) (fun r2 m2 hr2 => (zeq (fun c3 => (hr2.1 c3)) (fun c3 => (And.intro rfl (And.intro (zbd rfl rfl (hr2.2 c3).1) (hr2.2 c3).2))))))))))))
theorem v_Mo_isDoor {d : Nat} {a1 : Int} {mem : zMem} {Q : Int → zMem → Prop}  (hS : zC d K_Mo_doorMany [(2, Int.ofNat 122)] mem (fun r1 m1 => zC d K_Mo_in [(1, a1), (1, 0), (1, zsub r1 1)] m1 (fun r2 m2 => ((r2 = 0 ∨ r2 = 1) ∧ Q r2 m2)))) : zC (d + 1) K_Mo_isDoor [(2, Int.ofNat 122), (0, a1)] mem Q := by
  exact zC_of ok_Mo_isDoor (by decide +kernel) (Nat.le_of_ble_eq_true rfl) rfl (Or.inr (Or.inr (Or.inl rfl))) (zent_ok ok_Mo_isDoor (cuts := []) (f := 15) (And.intro rfl (zC.post hS (fun r1 m1 hr1 => (zC.post hr1 (fun r2 m2 hr2 => hr2))))))
theorem v_Mo_one {d : Nat} {a1 a2 : Int} {mem : zMem} {Q : Int → zMem → Prop}  (hS : zC d K_Mo_isOne [(2, Int.ofNat 122), (0, a1)] mem (fun r1 m1 => ((r1 = 0 → Q (-1) m1) ∧ (r1 ≠ 0 → zC d K_Mo_in [(1, a2), (1, 0), (1, 3)] m1 (fun r2 m2 => ((r2 ≠ 0 → ((a2 ≠ 3 → ((0 ≤ zadd (zadd 57 (zmul 3 a1)) a2 ∧ zadd (zadd 57 (zmul 3 a1)) a2 < 264) ∧ Q (m2 123 (zadd (zadd 57 (zmul 3 a1)) a2).toNat) m2)) ∧ (a2 = 3 → zC d K_Mo_placeOfOne [(2, Int.ofNat 122), (0, a1)] m2 (fun r3 m3 => zC d K_Mo_mayTake [(2, Int.ofNat 122), (0, r3)] m3 (fun r4 m4 => Q r4 m4))))) ∧ (r2 = 0 → Q (-1) m2))))))) : zC (d + 1) K_Mo_one [(2, Int.ofNat 122), (0, a1), (0, a2)] mem Q := by
  exact zC_of ok_Mo_one (by decide +kernel) (Nat.le_of_ble_eq_true rfl) rfl (Or.inr (Or.inl rfl)) (zent_ok ok_Mo_one (cuts := []) (f := 37) (And.intro rfl (zC.post hS (fun r1 m1 hr1 => (zeq (fun c7 => (hr1.1 c7)) (fun c7 => (zC.post (hr1.2 c7) (fun r2 m2 hr2 => (zne (fun c6 => (zne (fun c5 => (And.intro rfl (And.intro (zbd rfl rfl ((hr2.1 c6).1 c5).1) ((hr2.1 c6).1 c5).2))) (fun c5 => (And.intro rfl (zC.post ((hr2.1 c6).2 c5) (fun r3 m3 hr3 => (And.intro rfl (zC.post hr3 (fun r4 m4 hr4 => hr4))))))))) (fun c6 => (hr2.2 c6)))))))))))
theorem v_Mo_isOne {d : Nat} {a1 : Int} {mem : zMem} {Q : Int → zMem → Prop}  (hS : zC d K_Mo_ones [(2, Int.ofNat 122)] mem (fun r1 m1 => zC d K_Mo_in [(1, a1), (1, 0), (1, zsub r1 1)] m1 (fun r2 m2 => ((r2 = 0 ∨ r2 = 1) ∧ Q r2 m2)))) : zC (d + 1) K_Mo_isOne [(2, Int.ofNat 122), (0, a1)] mem Q := by
  exact zC_of ok_Mo_isOne (by decide +kernel) (Nat.le_of_ble_eq_true rfl) rfl (Or.inr (Or.inr (Or.inl rfl))) (zent_ok ok_Mo_isOne (cuts := []) (f := 15) (And.intro rfl (zC.post hS (fun r1 m1 hr1 => (zC.post hr1 (fun r2 m2 hr2 => hr2))))))
theorem v_Mo_placeOfOne {d : Nat} {a1 : Int} {mem : zMem} {Q : Int → zMem → Prop}  (hS : ((0 ≤ zadd 57 (zmul 3 a1) ∧ zadd 57 (zmul 3 a1) < 264) ∧ ∀ x1 : Int, x1 = mem 123 (zadd 57 (zmul 3 a1)).toNat → ((0 ≤ zadd (zadd 57 (zmul 3 a1)) 1 ∧ zadd (zadd 57 (zmul 3 a1)) 1 < 264) ∧ ∀ x2 : Int, x2 = mem 123 (zadd (zadd 57 (zmul 3 a1)) 1).toNat → ((x2 = -4 → ((mem 123 73 ≠ 1 → zC d K_Mo_placeOf [(0, x1), (0, x2), (0, -4), (0, 0)] mem (fun r3 m1 => Q r3 m1)) ∧ (mem 123 73 = 1 → ((0 ≤ zadd (zadd 57 (zmul 3 a1)) 2 ∧ zadd (zadd 57 (zmul 3 a1)) 2 < 264) ∧ zC d K_Mo_placeOf [(0, x1), (0, x2), (0, mem 123 (zadd (zadd 57 (zmul 3 a1)) 2).toNat), (0, 0)] mem (fun r4 m2 => Q r4 m2))))) ∧ (x2 ≠ -4 → ((0 ≤ zadd (zmul 4 x2) 1 ∧ zadd (zmul 4 x2) 1 < 264) ∧ ((mem 123 (zadd (zmul 4 x2) 1).toNat ≠ x1 → ((mem 123 73 ≠ 1 → zC d K_Mo_placeOf [(0, x1), (0, x2), (0, -4), (0, 0)] mem (fun r6 m3 => Q r6 m3)) ∧ (mem 123 73 = 1 → ((0 ≤ zadd (zadd 57 (zmul 3 a1)) 2 ∧ zadd (zadd 57 (zmul 3 a1)) 2 < 264) ∧ zC d K_Mo_placeOf [(0, x1), (0, x2), (0, mem 123 (zadd (zadd 57 (zmul 3 a1)) 2).toNat), (0, 0)] mem (fun r7 m4 => Q r7 m4))))) ∧ (mem 123 (zadd (zmul 4 x2) 1).toNat = x1 → ((mem 123 73 ≠ 1 → zC d K_Mo_placeOf [(0, x1), (0, x2), (0, -4), (0, 1)] mem (fun r9 m5 => Q r9 m5)) ∧ (mem 123 73 = 1 → ((0 ≤ zadd (zadd 57 (zmul 3 a1)) 2 ∧ zadd (zadd 57 (zmul 3 a1)) 2 < 264) ∧ zC d K_Mo_placeOf [(0, x1), (0, x2), (0, mem 123 (zadd (zadd 57 (zmul 3 a1)) 2).toNat), (0, 1)] mem (fun r10 m6 => Q r10 m6)))))))))))) : zC (d + 1) K_Mo_placeOfOne [(2, Int.ofNat 122), (0, a1)] mem Q := by
  exact zC_of ok_Mo_placeOfOne (by decide +kernel) (Nat.le_of_ble_eq_true rfl) rfl (Or.inr (Or.inl rfl)) (zent_ok ok_Mo_placeOfOne (cuts := []) (f := 65) (And.intro rfl (And.intro (zbd rfl rfl hS.1) (fun x1 ex1 => (And.intro rfl (And.intro (zbd rfl rfl (hS.2 x1 ex1).1) (fun x2 ex2 => (zeq (fun c13 => (zall (And.intro rfl (And.intro (zbd rfl rfl (by decide)) (zne (fun c5 => (zC.post ((((hS.2 x1 ex1).2 x2 ex2).1 c13).1 c5) (fun r3 m1 hr3 => hr3))) (fun c5 => (And.intro rfl (And.intro (zbd rfl rfl ((((hS.2 x1 ex1).2 x2 ex2).1 c13).2 c5).1) (zC.post ((((hS.2 x1 ex1).2 x2 ex2).1 c13).2 c5).2 (fun r4 m2 hr4 => hr4)))))))))) (fun c13 => (And.intro rfl (And.intro (zbd rfl rfl (((hS.2 x1 ex1).2 x2 ex2).2 c13).1) (zne (fun c12 => (zall (And.intro rfl (And.intro (zbd rfl rfl (by decide)) (zne (fun c8 => (zC.post (((((hS.2 x1 ex1).2 x2 ex2).2 c13).2.1 c12).1 c8) (fun r6 m3 hr6 => hr6))) (fun c8 => (And.intro rfl (And.intro (zbd rfl rfl (((((hS.2 x1 ex1).2 x2 ex2).2 c13).2.1 c12).2 c8).1) (zC.post (((((hS.2 x1 ex1).2 x2 ex2).2 c13).2.1 c12).2 c8).2 (fun r7 m4 hr7 => hr7)))))))))) (fun c12 => (zall (And.intro rfl (And.intro (zbd rfl rfl (by decide)) (zne (fun c11 => (zC.post (((((hS.2 x1 ex1).2 x2 ex2).2 c13).2.2 c12).1 c11) (fun r9 m5 hr9 => hr9))) (fun c11 => (And.intro rfl (And.intro (zbd rfl rfl (((((hS.2 x1 ex1).2 x2 ex2).2 c13).2.2 c12).2 c11).1) (zC.post (((((hS.2 x1 ex1).2 x2 ex2).2 c13).2.2 c12).2 c11).2 (fun r10 m6 hr10 => hr10))))))))))))))))))))))
theorem v_Mo_placeOf {d : Nat} {a0 a1 a2 a3 : Int} {mem : zMem} {Q : Int → zMem → Prop}  (hS : ((a1 ≠ -4 → ((a2 ≠ -4 → Q (zadd (zmul 15 (zadd (zmul 2 a1) a3)) (zadd a2 1)) mem) ∧ (a2 = -4 → Q (zadd (zmul 15 (zadd (zmul 2 a1) a3)) 0) mem))) ∧ (a1 = -4 → ((a2 ≠ -4 → Q (zadd (zmul 15 (zadd 28 a0)) (zadd a2 1)) mem) ∧ (a2 = -4 → Q (zadd (zmul 15 (zadd 28 a0)) 0) mem))))) : zC (d + 1) K_Mo_placeOf [(0, a0), (0, a1), (0, a2), (0, a3)] mem Q := by
  exact zC_of ok_Mo_placeOf (by decide +kernel) (Nat.le_of_ble_eq_true rfl) rfl (Or.inr (Or.inl rfl)) (zent_ok ok_Mo_placeOf (cuts := []) (f := 29) (zne (fun c3 => (zne (fun c1 => ((hS.1 c3).1 c1)) (fun c1 => ((hS.1 c3).2 c1)))) (fun c3 => (zne (fun c2 => ((hS.2 c3).1 c2)) (fun c2 => ((hS.2 c3).2 c2))))))
theorem v_Mo_mayTake {d : Nat} {a1 : Int} {mem : zMem} {Q : Int → zMem → Prop}  (hS : zG (d + 1) M_Mo_mayTake 4 [(2, Int.ofNat 122), (0, a1), (0, 0), (0, 0)] [] mem Q) : zC (d + 1) K_Mo_mayTake [(2, Int.ofNat 122), (0, a1)] mem Q := by
  exact zC_of ok_Mo_mayTake (by decide +kernel) (Nat.le_of_ble_eq_true rfl) rfl (Or.inr (Or.inl rfl)) (zent_ok ok_Mo_mayTake (cuts := [4]) (f := 31) (zall (zall hS)))
theorem v_Mo_mayTake_4 {d : Nat} {l1 l2 l3 : Int} {mem : zMem} {Q : Int → zMem → Prop}  (hS : zC d K_Mo_doorMany [(2, Int.ofNat 122)] mem (fun r1 m1 => ((r1 ≤ l3 → Q l2 m1) ∧ (l3 < r1 → zC d K_Mo_stepped [(2, Int.ofNat 122), (0, l1), (0, l3)] m1 (fun r2 m2 => ((r2 ≠ -4 → ∀ x3 : Int, x3 = zor l2 (zshl 1 l3) → ∀ x4 : Int, x4 = zadd l3 1 → zG (d + 1) M_Mo_mayTake 4 [(2, Int.ofNat 122), (0, l1), (0, x3), (0, x4)] [] m2 Q) ∧ (r2 = -4 → ∀ x5 : Int, x5 = zor l2 0 → ∀ x6 : Int, x6 = zadd l3 1 → zG (d + 1) M_Mo_mayTake 4 [(2, Int.ofNat 122), (0, l1), (0, x5), (0, x6)] [] m2 Q))))))) : zG (d + 1) M_Mo_mayTake 4 [(2, Int.ofNat 122), (0, l1), (0, l2), (0, l3)] [] mem Q := by
  exact zent_ok ok_Mo_mayTake (cuts := [4]) (f := 31) (And.intro rfl (zC.post hS (fun r1 m1 hr1 => (zge (fun c8 => (hr1.1 c8)) (fun c8 => (And.intro rfl (zC.post (hr1.2 c8) (fun r2 m2 hr2 => (zne (fun c7 => (fun x3 ex3 => (fun x4 ex4 => (((hr2.1 c7) x3 ex3) x4 ex4)))) (fun c7 => (fun x5 ex5 => (fun x6 ex6 => (((hr2.2 c7) x5 ex5) x6 ex6)))))))))))))
theorem v_Mo_stepped {d : Nat} {a1 a2 : Int} {mem : zMem} {Q : Int → zMem → Prop}  (hS : zC d K_Mo_roomAt [(2, Int.ofNat 122), (0, a1)] mem (fun r1 m1 => zC d K_Mo_lastAt [(0, a1)] m1 (fun r2 m2 => ∀ x3 : Int, x3 = zsub (zrem a1 15) 1 → ∀ x4 : Int, x4 = m2 123 73 → ((0 ≤ zmul 4 a2 ∧ zmul 4 a2 < 264) ∧ ((m2 123 (zmul 4 a2).toNat = r1 → zG (d + 1) M_Mo_stepped 60 [(2, Int.ofNat 122), (9, 0), (0, a2), (0, r1), (0, r2), (0, x3), (0, x4), (9, 0), (9, 0), (9, 0)] [(0, 1)] m2 Q) ∧ (m2 123 (zmul 4 a2).toNat ≠ r1 → ((0 ≤ zadd (zmul 4 a2) 1 ∧ zadd (zmul 4 a2) 1 < 264) ∧ ((m2 123 (zadd (zmul 4 a2) 1).toNat ≠ r1 → zG (d + 1) M_Mo_stepped 60 [(2, Int.ofNat 122), (9, 0), (0, a2), (0, r1), (0, r2), (0, x3), (0, x4), (9, 0), (9, 0), (9, 0)] [(0, 0)] m2 Q) ∧ (m2 123 (zadd (zmul 4 a2) 1).toNat = r1 → zG (d + 1) M_Mo_stepped 60 [(2, Int.ofNat 122), (9, 0), (0, a2), (0, r1), (0, r2), (0, x3), (0, x4), (9, 0), (9, 0), (9, 0)] [(0, 1)] m2 Q))))))))) : zC (d + 1) K_Mo_stepped [(2, Int.ofNat 122), (0, a1), (0, a2)] mem Q := by
  exact zC_of ok_Mo_stepped (by decide +kernel) (Nat.le_of_ble_eq_true rfl) rfl (Or.inr (Or.inl rfl)) (zent_ok ok_Mo_stepped (cuts := [60, 133, 162, 196]) (f := 125) (And.intro rfl (zC.post hS (fun r1 m1 hr1 => (zall (zC.post hr1 (fun r2 m2 hr2 => (zall (And.intro (by decide) (fun x3 ex3 => (And.intro rfl (And.intro (zbd rfl rfl (by decide)) (fun x4 ex4 => (And.intro rfl (And.intro (zbd rfl rfl ((hr2 x3 ex3) x4 ex4).1) (zeq (fun c6 => (zG.mask [true, false, true, true, true, true, true, false, false, false] (((hr2 x3 ex3) x4 ex4).2.1 c6))) (fun c6 => (And.intro rfl (And.intro (zbd rfl rfl (((hr2 x3 ex3) x4 ex4).2.2 c6).1) (zne (fun c5 => (zG.mask [true, false, true, true, true, true, true, false, false, false] ((((hr2 x3 ex3) x4 ex4).2.2 c6).2.1 c5))) (fun c5 => (zG.mask [true, false, true, true, true, true, true, false, false, false] ((((hr2 x3 ex3) x4 ex4).2.2 c6).2.2 c5)))))))))))))))))))))))
theorem v_Mo_stepped_60 {d : Nat} {l2 l3 l4 l5 l6 s0 : Int} {mem : zMem} {Q : Int → zMem → Prop}  (hS : ((l6 ≠ 0 → ((l6 ≠ 1 → ((l6 ≠ 2 → zG (d + 1) M_Mo_stepped 133 [(2, Int.ofNat 122), (9, 0), (0, l2), (0, l3), (0, l4), (9, 0), (0, l6), (0, s0), (9, 0), (9, 0)] [(0, 0)] mem Q) ∧ (l6 = 2 → ((l4 = -4 → zG (d + 1) M_Mo_stepped 133 [(2, Int.ofNat 122), (9, 0), (0, l2), (0, l3), (0, l4), (9, 0), (0, l6), (0, s0), (9, 0), (9, 0)] [(0, 0)] mem Q) ∧ (l4 ≠ -4 → ((0 ≤ zadd (zmul 4 l2) 2 ∧ zadd (zmul 4 l2) 2 < 264) ∧ ((0 ≤ zadd (zmul 4 l4) 2 ∧ zadd (zmul 4 l4) 2 < 264) ∧ ((mem 123 (zadd (zmul 4 l2) 2).toNat ≠ mem 123 (zadd (zmul 4 l4) 2).toNat → zG (d + 1) M_Mo_stepped 133 [(2, Int.ofNat 122), (9, 0), (0, l2), (0, l3), (0, l4), (9, 0), (0, l6), (0, s0), (9, 0), (9, 0)] [(0, 0)] mem Q) ∧ (mem 123 (zadd (zmul 4 l2) 2).toNat = mem 123 (zadd (zmul 4 l4) 2).toNat → zG (d + 1) M_Mo_stepped 133 [(2, Int.ofNat 122), (9, 0), (0, l2), (0, l3), (0, l4), (9, 0), (0, l6), (0, s0), (9, 0), (9, 0)] [(0, 1)] mem Q))))))))) ∧ (l6 = 1 → ((l2 = l4 → zG (d + 1) M_Mo_stepped 133 [(2, Int.ofNat 122), (9, 0), (0, l2), (0, l3), (0, l4), (9, 0), (0, l6), (0, s0), (9, 0), (9, 0)] [(0, 1)] mem Q) ∧ (l2 ≠ l4 → ((l2 = l5 → zG (d + 1) M_Mo_stepped 133 [(2, Int.ofNat 122), (9, 0), (0, l2), (0, l3), (0, l4), (9, 0), (0, l6), (0, s0), (9, 0), (9, 0)] [(0, 1)] mem Q) ∧ (l2 ≠ l5 → ((l6 ≠ 2 → zG (d + 1) M_Mo_stepped 133 [(2, Int.ofNat 122), (9, 0), (0, l2), (0, l3), (0, l4), (9, 0), (0, l6), (0, s0), (9, 0), (9, 0)] [(0, 0)] mem Q) ∧ (l6 = 2 → ((l4 = -4 → zG (d + 1) M_Mo_stepped 133 [(2, Int.ofNat 122), (9, 0), (0, l2), (0, l3), (0, l4), (9, 0), (0, l6), (0, s0), (9, 0), (9, 0)] [(0, 0)] mem Q) ∧ (l4 ≠ -4 → ((0 ≤ zadd (zmul 4 l2) 2 ∧ zadd (zmul 4 l2) 2 < 264) ∧ ((0 ≤ zadd (zmul 4 l4) 2 ∧ zadd (zmul 4 l4) 2 < 264) ∧ ((mem 123 (zadd (zmul 4 l2) 2).toNat ≠ mem 123 (zadd (zmul 4 l4) 2).toNat → zG (d + 1) M_Mo_stepped 133 [(2, Int.ofNat 122), (9, 0), (0, l2), (0, l3), (0, l4), (9, 0), (0, l6), (0, s0), (9, 0), (9, 0)] [(0, 0)] mem Q) ∧ (mem 123 (zadd (zmul 4 l2) 2).toNat = mem 123 (zadd (zmul 4 l4) 2).toNat → zG (d + 1) M_Mo_stepped 133 [(2, Int.ofNat 122), (9, 0), (0, l2), (0, l3), (0, l4), (9, 0), (0, l6), (0, s0), (9, 0), (9, 0)] [(0, 1)] mem Q))))))))))))))) ∧ (l6 = 0 → ((l2 = l4 → zG (d + 1) M_Mo_stepped 133 [(2, Int.ofNat 122), (9, 0), (0, l2), (0, l3), (0, l4), (9, 0), (0, l6), (0, s0), (9, 0), (9, 0)] [(0, 1)] mem Q) ∧ (l2 ≠ l4 → ((l6 ≠ 1 → ((l6 ≠ 2 → zG (d + 1) M_Mo_stepped 133 [(2, Int.ofNat 122), (9, 0), (0, l2), (0, l3), (0, l4), (9, 0), (0, l6), (0, s0), (9, 0), (9, 0)] [(0, 0)] mem Q) ∧ (l6 = 2 → ((l4 = -4 → zG (d + 1) M_Mo_stepped 133 [(2, Int.ofNat 122), (9, 0), (0, l2), (0, l3), (0, l4), (9, 0), (0, l6), (0, s0), (9, 0), (9, 0)] [(0, 0)] mem Q) ∧ (l4 ≠ -4 → ((0 ≤ zadd (zmul 4 l2) 2 ∧ zadd (zmul 4 l2) 2 < 264) ∧ ((0 ≤ zadd (zmul 4 l4) 2 ∧ zadd (zmul 4 l4) 2 < 264) ∧ ((mem 123 (zadd (zmul 4 l2) 2).toNat ≠ mem 123 (zadd (zmul 4 l4) 2).toNat → zG (d + 1) M_Mo_stepped 133 [(2, Int.ofNat 122), (9, 0), (0, l2), (0, l3), (0, l4), (9, 0), (0, l6), (0, s0), (9, 0), (9, 0)] [(0, 0)] mem Q) ∧ (mem 123 (zadd (zmul 4 l2) 2).toNat = mem 123 (zadd (zmul 4 l4) 2).toNat → zG (d + 1) M_Mo_stepped 133 [(2, Int.ofNat 122), (9, 0), (0, l2), (0, l3), (0, l4), (9, 0), (0, l6), (0, s0), (9, 0), (9, 0)] [(0, 1)] mem Q))))))))) ∧ (l6 = 1 → ((l2 = l4 → zG (d + 1) M_Mo_stepped 133 [(2, Int.ofNat 122), (9, 0), (0, l2), (0, l3), (0, l4), (9, 0), (0, l6), (0, s0), (9, 0), (9, 0)] [(0, 1)] mem Q) ∧ (l2 ≠ l4 → ((l2 = l5 → zG (d + 1) M_Mo_stepped 133 [(2, Int.ofNat 122), (9, 0), (0, l2), (0, l3), (0, l4), (9, 0), (0, l6), (0, s0), (9, 0), (9, 0)] [(0, 1)] mem Q) ∧ (l2 ≠ l5 → ((l6 ≠ 2 → zG (d + 1) M_Mo_stepped 133 [(2, Int.ofNat 122), (9, 0), (0, l2), (0, l3), (0, l4), (9, 0), (0, l6), (0, s0), (9, 0), (9, 0)] [(0, 0)] mem Q) ∧ (l6 = 2 → ((l4 = -4 → zG (d + 1) M_Mo_stepped 133 [(2, Int.ofNat 122), (9, 0), (0, l2), (0, l3), (0, l4), (9, 0), (0, l6), (0, s0), (9, 0), (9, 0)] [(0, 0)] mem Q) ∧ (l4 ≠ -4 → ((0 ≤ zadd (zmul 4 l2) 2 ∧ zadd (zmul 4 l2) 2 < 264) ∧ ((0 ≤ zadd (zmul 4 l4) 2 ∧ zadd (zmul 4 l4) 2 < 264) ∧ ((mem 123 (zadd (zmul 4 l2) 2).toNat ≠ mem 123 (zadd (zmul 4 l4) 2).toNat → zG (d + 1) M_Mo_stepped 133 [(2, Int.ofNat 122), (9, 0), (0, l2), (0, l3), (0, l4), (9, 0), (0, l6), (0, s0), (9, 0), (9, 0)] [(0, 0)] mem Q) ∧ (mem 123 (zadd (zmul 4 l2) 2).toNat = mem 123 (zadd (zmul 4 l4) 2).toNat → zG (d + 1) M_Mo_stepped 133 [(2, Int.ofNat 122), (9, 0), (0, l2), (0, l3), (0, l4), (9, 0), (0, l6), (0, s0), (9, 0), (9, 0)] [(0, 1)] mem Q))))))))))))))))))) : zG (d + 1) M_Mo_stepped 60 [(2, Int.ofNat 122), (9, 0), (0, l2), (0, l3), (0, l4), (0, l5), (0, l6), (9, 0), (9, 0), (9, 0)] [(0, s0)] mem Q := by
  exact zent_ok ok_Mo_stepped (cuts := [60, 133, 162, 196]) (f := 125) (zall (zne (fun c20 => (zne (fun c9 => (zne (fun c3 => (zG.mask [true, false, true, true, true, false, true, true, false, false] (((hS.1 c20).1 c9).1 c3))) (fun c3 => (zeq (fun c2 => (zG.mask [true, false, true, true, true, false, true, true, false, false] ((((hS.1 c20).1 c9).2 c3).1 c2))) (fun c2 => (And.intro rfl (And.intro (zbd rfl rfl ((((hS.1 c20).1 c9).2 c3).2 c2).1) (And.intro rfl (And.intro (zbd rfl rfl ((((hS.1 c20).1 c9).2 c3).2 c2).2.1) (zne (fun c1 => (zG.mask [true, false, true, true, true, false, true, true, false, false] (((((hS.1 c20).1 c9).2 c3).2 c2).2.2.1 c1))) (fun c1 => (zG.mask [true, false, true, true, true, false, true, true, false, false] (((((hS.1 c20).1 c9).2 c3).2 c2).2.2.2 c1))))))))))))) (fun c9 => (zeq (fun c8 => (zG.mask [true, false, true, true, true, false, true, true, false, false] (((hS.1 c20).2 c9).1 c8))) (fun c8 => (zeq (fun c7 => (zG.mask [true, false, true, true, true, false, true, true, false, false] ((((hS.1 c20).2 c9).2 c8).1 c7))) (fun c7 => (zne (fun c6 => (zG.mask [true, false, true, true, true, false, true, true, false, false] (((((hS.1 c20).2 c9).2 c8).2 c7).1 c6))) (fun c6 => (zeq (fun c5 => (zG.mask [true, false, true, true, true, false, true, true, false, false] ((((((hS.1 c20).2 c9).2 c8).2 c7).2 c6).1 c5))) (fun c5 => (And.intro rfl (And.intro (zbd rfl rfl ((((((hS.1 c20).2 c9).2 c8).2 c7).2 c6).2 c5).1) (And.intro rfl (And.intro (zbd rfl rfl ((((((hS.1 c20).2 c9).2 c8).2 c7).2 c6).2 c5).2.1) (zne (fun c4 => (zG.mask [true, false, true, true, true, false, true, true, false, false] (((((((hS.1 c20).2 c9).2 c8).2 c7).2 c6).2 c5).2.2.1 c4))) (fun c4 => (zG.mask [true, false, true, true, true, false, true, true, false, false] (((((((hS.1 c20).2 c9).2 c8).2 c7).2 c6).2 c5).2.2.2 c4))))))))))))))))))) (fun c20 => (zeq (fun c19 => (zG.mask [true, false, true, true, true, false, true, true, false, false] ((hS.2 c20).1 c19))) (fun c19 => (zne (fun c18 => (zne (fun c12 => (zG.mask [true, false, true, true, true, false, true, true, false, false] ((((hS.2 c20).2 c19).1 c18).1 c12))) (fun c12 => (zeq (fun c11 => (zG.mask [true, false, true, true, true, false, true, true, false, false] (((((hS.2 c20).2 c19).1 c18).2 c12).1 c11))) (fun c11 => (And.intro rfl (And.intro (zbd rfl rfl (((((hS.2 c20).2 c19).1 c18).2 c12).2 c11).1) (And.intro rfl (And.intro (zbd rfl rfl (((((hS.2 c20).2 c19).1 c18).2 c12).2 c11).2.1) (zne (fun c10 => (zG.mask [true, false, true, true, true, false, true, true, false, false] ((((((hS.2 c20).2 c19).1 c18).2 c12).2 c11).2.2.1 c10))) (fun c10 => (zG.mask [true, false, true, true, true, false, true, true, false, false] ((((((hS.2 c20).2 c19).1 c18).2 c12).2 c11).2.2.2 c10))))))))))))) (fun c18 => (zeq (fun c17 => (zG.mask [true, false, true, true, true, false, true, true, false, false] ((((hS.2 c20).2 c19).2 c18).1 c17))) (fun c17 => (zeq (fun c16 => (zG.mask [true, false, true, true, true, false, true, true, false, false] (((((hS.2 c20).2 c19).2 c18).2 c17).1 c16))) (fun c16 => (zne (fun c15 => (zG.mask [true, false, true, true, true, false, true, true, false, false] ((((((hS.2 c20).2 c19).2 c18).2 c17).2 c16).1 c15))) (fun c15 => (zeq (fun c14 => (zG.mask [true, false, true, true, true, false, true, true, false, false] (((((((hS.2 c20).2 c19).2 c18).2 c17).2 c16).2 c15).1 c14))) (fun c14 => (And.intro rfl (And.intro (zbd rfl rfl (((((((hS.2 c20).2 c19).2 c18).2 c17).2 c16).2 c15).2 c14).1) (And.intro rfl (And.intro (zbd rfl rfl (((((((hS.2 c20).2 c19).2 c18).2 c17).2 c16).2 c15).2 c14).2.1) (zne (fun c13 => (zG.mask [true, false, true, true, true, false, true, true, false, false] ((((((((hS.2 c20).2 c19).2 c18).2 c17).2 c16).2 c15).2 c14).2.2.1 c13))) (fun c13 => (zG.mask [true, false, true, true, true, false, true, true, false, false] ((((((((hS.2 c20).2 c19).2 c18).2 c17).2 c16).2 c15).2 c14).2.2.2 c13)))))))))))))))))))))))
theorem v_Mo_stepped_133 {d : Nat} {l2 l3 l4 l6 l7 s0 : Int} {mem : zMem} {Q : Int → zMem → Prop}  (hS : ((l7 = 0 → Q (-4) mem) ∧ (l7 ≠ 0 → ((0 ≤ zadd (zmul 4 l2) 3 ∧ zadd (zmul 4 l2) 3 < 264) ∧ ((mem 123 (zadd (zmul 4 l2) 3).toNat = 1 → Q (-4) mem) ∧ (mem 123 (zadd (zmul 4 l2) 3).toNat ≠ 1 → ((s0 = 0 → zG (d + 1) M_Mo_stepped 162 [(2, Int.ofNat 122), (9, 0), (0, l2), (0, l3), (0, l4), (9, 0), (0, l6), (9, 0), (9, 0), (9, 0)] [] mem Q) ∧ (s0 ≠ 0 → Q (-4) mem)))))))) : zG (d + 1) M_Mo_stepped 133 [(2, Int.ofNat 122), (9, 0), (0, l2), (0, l3), (0, l4), (9, 0), (0, l6), (0, l7), (9, 0), (9, 0)] [(0, s0)] mem Q := by
  exact zent_ok ok_Mo_stepped (cuts := [60, 133, 162, 196]) (f := 125) (zall (zeq (fun c3 => (hS.1 c3)) (fun c3 => (And.intro rfl (And.intro (zbd rfl rfl (hS.2 c3).1) (zeq (fun c2 => ((hS.2 c3).2.1 c2)) (fun c2 => (zeq (fun c1 => (zG.mask [true, false, true, true, true, false, true, false, false, false] (((hS.2 c3).2.2 c2).1 c1))) (fun c1 => (((hS.2 c3).2.2 c2).2 c1))))))))))
theorem v_Mo_stepped_162 {d : Nat} {l2 l3 l4 l6 : Int} {mem : zMem} {Q : Int → zMem → Prop}  (hS : ((0 ≤ zmul 4 l2 ∧ zmul 4 l2 < 264) ∧ ((mem 123 (zmul 4 l2).toNat ≠ l3 → ((l6 ≠ 1 → zG (d + 1) M_Mo_stepped 196 [(9, 0), (9, 0), (9, 0), (9, 0), (9, 0), (9, 0), (9, 0), (9, 0), (9, 0), (0, 0)] [(0, -4), (0, l2), (0, 0)] mem Q) ∧ (l6 = 1 → zG (d + 1) M_Mo_stepped 196 [(9, 0), (9, 0), (9, 0), (9, 0), (9, 0), (9, 0), (9, 0), (9, 0), (9, 0), (0, 0)] [(0, l4), (0, l2), (0, 0)] mem Q))) ∧ (mem 123 (zmul 4 l2).toNat = l3 → ((l6 ≠ 1 → zG (d + 1) M_Mo_stepped 196 [(9, 0), (9, 0), (9, 0), (9, 0), (9, 0), (9, 0), (9, 0), (9, 0), (9, 0), (0, 1)] [(0, -4), (0, l2), (0, 0)] mem Q) ∧ (l6 = 1 → zG (d + 1) M_Mo_stepped 196 [(9, 0), (9, 0), (9, 0), (9, 0), (9, 0), (9, 0), (9, 0), (9, 0), (9, 0), (0, 1)] [(0, l4), (0, l2), (0, 0)] mem Q)))))) : zG (d + 1) M_Mo_stepped 162 [(2, Int.ofNat 122), (9, 0), (0, l2), (0, l3), (0, l4), (9, 0), (0, l6), (9, 0), (9, 0), (9, 0)] [] mem Q := by
  exact zent_ok ok_Mo_stepped (cuts := [60, 133, 162, 196]) (f := 125) (And.intro rfl (And.intro (zbd rfl rfl hS.1) (zne (fun c3 => (zall (zne (fun c1 => (zG.mask [false, false, false, false, false, false, false, false, false, true] ((hS.2.1 c3).1 c1))) (fun c1 => (zG.mask [false, false, false, false, false, false, false, false, false, true] ((hS.2.1 c3).2 c1)))))) (fun c3 => (zall (zne (fun c2 => (zG.mask [false, false, false, false, false, false, false, false, false, true] ((hS.2.2 c3).1 c2))) (fun c2 => (zG.mask [false, false, false, false, false, false, false, false, false, true] ((hS.2.2 c3).2 c2)))))))))
theorem v_Mo_stepped_196 {d : Nat} {l9 s0 s1 s2 : Int} {mem : zMem} {Q : Int → zMem → Prop}  (hS : zC d K_Mo_placeOf [(0, s2), (0, s1), (0, s0), (0, l9)] mem (fun r1 m1 => Q r1 m1)) : zG (d + 1) M_Mo_stepped 196 [(9, 0), (9, 0), (9, 0), (9, 0), (9, 0), (9, 0), (9, 0), (9, 0), (9, 0), (0, l9)] [(0, s0), (0, s1), (0, s2)] mem Q := by
  exact zent_ok ok_Mo_stepped (cuts := [60, 133, 162, 196]) (f := 125) (zC.post hS (fun r1 m1 hr1 => hr1))
theorem v_Mo_roomAt {d : Nat} {a1 : Int} {mem : zMem} {Q : Int → zMem → Prop}  (hS : ∀ x1 : Int, x1 = zdiv a1 15 → ((x1 < 28 → ((0 ≤ zadd (zmul 4 (zdiv x1 2)) (zrem x1 2) ∧ zadd (zmul 4 (zdiv x1 2)) (zrem x1 2) < 264) ∧ Q (mem 123 (zadd (zmul 4 (zdiv x1 2)) (zrem x1 2)).toNat) mem)) ∧ (28 ≤ x1 → Q (zsub x1 28) mem))) : zC (d + 1) K_Mo_roomAt [(2, Int.ofNat 122), (0, a1)] mem Q := by
  exact zC_of ok_Mo_roomAt (by decide +kernel) (Nat.le_of_ble_eq_true rfl) rfl (Or.inr (Or.inl rfl)) (zent_ok ok_Mo_roomAt (cuts := []) (f := 29) (And.intro (by decide) (fun x1 ex1 => (zlt (fun c2 => (And.intro rfl (And.intro (by decide) (And.intro (by decide) (And.intro (zbd rfl rfl ((hS x1 ex1).1 c2).1) ((hS x1 ex1).1 c2).2))))) (fun c2 => ((hS x1 ex1).2 c2))))))
theorem v_Mo_lastAt {d : Nat} {a0 : Int} {mem : zMem} {Q : Int → zMem → Prop}  (hS : ((zdiv a0 15 < 28 → Q (zdiv a0 30) mem) ∧ (28 ≤ zdiv a0 15 → Q (-4) mem))) : zC (d + 1) K_Mo_lastAt [(0, a0)] mem Q := by
  exact zC_of ok_Mo_lastAt (by decide +kernel) (Nat.le_of_ble_eq_true rfl) rfl (Or.inr (Or.inl rfl)) (zent_ok ok_Mo_lastAt (cuts := []) (f := 16) (And.intro (by decide) (zlt (fun c1 => (And.intro (by decide) (hS.1 c1))) (fun c1 => (hS.2 c1)))))
theorem v_Mo_doors {d : Nat} {a1 : Int} {mem : zMem} {Q : Int → zMem → Prop}  (hS : zC d K_Mo_isRoom [(2, Int.ofNat 122), (0, a1)] mem (fun r1 m1 => ((r1 = 0 → Q (-1) m1) ∧ (r1 ≠ 0 → zC d K_Mo_doorsOf [(2, Int.ofNat 122), (0, a1)] m1 (fun r2 m2 => Q r2 m2))))) : zC (d + 1) K_Mo_doors [(2, Int.ofNat 122), (0, a1)] mem Q := by
  exact zC_of ok_Mo_doors (by decide +kernel) (Nat.le_of_ble_eq_true rfl) rfl (Or.inr (Or.inl rfl)) (zent_ok ok_Mo_doors (cuts := []) (f := 15) (And.intro rfl (zC.post hS (fun r1 m1 hr1 => (zeq (fun c3 => (hr1.1 c3)) (fun c3 => (And.intro rfl (zC.post (hr1.2 c3) (fun r2 m2 hr2 => hr2)))))))))
theorem v_Mo_isRoom {d : Nat} {a1 : Int} {mem : zMem} {Q : Int → zMem → Prop}  (hS : zC d K_Mo_in [(1, a1), (1, 0), (1, zsub (mem 122 1) 1)] mem (fun r1 m1 => ((r1 = 0 ∨ r1 = 1) ∧ Q r1 m1))) : zC (d + 1) K_Mo_isRoom [(2, Int.ofNat 122), (0, a1)] mem Q := by
  exact zC_of ok_Mo_isRoom (by decide +kernel) (Nat.le_of_ble_eq_true rfl) rfl (Or.inr (Or.inr (Or.inl rfl))) (zent_ok ok_Mo_isRoom (cuts := []) (f := 15) (And.intro rfl (zC.post hS (fun r1 m1 hr1 => hr1))))
theorem v_Mo_doorsOf {d : Nat} {a1 : Int} {mem : zMem} {Q : Int → zMem → Prop}  (hS : zG (d + 1) M_Mo_doorsOf 4 [(2, Int.ofNat 122), (0, a1), (0, 0), (0, 0)] [] mem Q) : zC (d + 1) K_Mo_doorsOf [(2, Int.ofNat 122), (0, a1)] mem Q := by
  exact zC_of ok_Mo_doorsOf (by decide +kernel) (Nat.le_of_ble_eq_true rfl) rfl (Or.inr (Or.inl rfl)) (zent_ok ok_Mo_doorsOf (cuts := [4]) (f := 52) (zall (zall hS)))
theorem v_Mo_doorsOf_4 {d : Nat} {l1 l2 l3 : Int} {mem : zMem} {Q : Int → zMem → Prop}  (hS : zC d K_Mo_doorMany [(2, Int.ofNat 122)] mem (fun r1 m1 => ((r1 ≤ l3 → Q l2 m1) ∧ (l3 < r1 → ((0 ≤ zadd (zmul 4 l3) 3 ∧ zadd (zmul 4 l3) 3 < 264) ∧ ((m1 123 (zadd (zmul 4 l3) 3).toNat ≠ 0 → ∀ x2 : Int, x2 = zor l2 0 → ∀ x3 : Int, x3 = zadd l3 1 → zG (d + 1) M_Mo_doorsOf 4 [(2, Int.ofNat 122), (0, l1), (0, x2), (0, x3)] [] m1 Q) ∧ (m1 123 (zadd (zmul 4 l3) 3).toNat = 0 → ((0 ≤ zmul 4 l3 ∧ zmul 4 l3 < 264) ∧ ((m1 123 (zmul 4 l3).toNat = l1 → ∀ x4 : Int, x4 = zor l2 (zshl 1 l3) → ∀ x5 : Int, x5 = zadd l3 1 → zG (d + 1) M_Mo_doorsOf 4 [(2, Int.ofNat 122), (0, l1), (0, x4), (0, x5)] [] m1 Q) ∧ (m1 123 (zmul 4 l3).toNat ≠ l1 → ((0 ≤ zadd (zmul 4 l3) 1 ∧ zadd (zmul 4 l3) 1 < 264) ∧ ((m1 123 (zadd (zmul 4 l3) 1).toNat ≠ l1 → ∀ x6 : Int, x6 = zor l2 0 → ∀ x7 : Int, x7 = zadd l3 1 → zG (d + 1) M_Mo_doorsOf 4 [(2, Int.ofNat 122), (0, l1), (0, x6), (0, x7)] [] m1 Q) ∧ (m1 123 (zadd (zmul 4 l3) 1).toNat = l1 → ∀ x8 : Int, x8 = zor l2 (zshl 1 l3) → ∀ x9 : Int, x9 = zadd l3 1 → zG (d + 1) M_Mo_doorsOf 4 [(2, Int.ofNat 122), (0, l1), (0, x8), (0, x9)] [] m1 Q))))))))))))) : zG (d + 1) M_Mo_doorsOf 4 [(2, Int.ofNat 122), (0, l1), (0, l2), (0, l3)] [] mem Q := by
  exact zent_ok ok_Mo_doorsOf (cuts := [4]) (f := 52) (And.intro rfl (zC.post hS (fun r1 m1 hr1 => (zge (fun c13 => (hr1.1 c13)) (fun c13 => (And.intro rfl (And.intro (zbd rfl rfl (hr1.2 c13).1) (zne (fun c12 => (fun x2 ex2 => (fun x3 ex3 => ((((hr1.2 c13).2.1 c12) x2 ex2) x3 ex3)))) (fun c12 => (And.intro rfl (And.intro (zbd rfl rfl ((hr1.2 c13).2.2 c12).1) (zeq (fun c11 => (fun x4 ex4 => (fun x5 ex5 => (((((hr1.2 c13).2.2 c12).2.1 c11) x4 ex4) x5 ex5)))) (fun c11 => (And.intro rfl (And.intro (zbd rfl rfl (((hr1.2 c13).2.2 c12).2.2 c11).1) (zne (fun c10 => (fun x6 ex6 => (fun x7 ex7 => ((((((hr1.2 c13).2.2 c12).2.2 c11).2.1 c10) x6 ex6) x7 ex7)))) (fun c10 => (fun x8 ex8 => (fun x9 ex9 => ((((((hr1.2 c13).2.2 c12).2.2 c11).2.2 c10) x8 ex8) x9 ex9))))))))))))))))))))
theorem v_Mo_law {d : Nat} {a1 : Int} {mem : zMem} {Q : Int → zMem → Prop}  (hS : zC d K_Mo_in [(1, a1), (1, 0), (1, 3)] mem (fun r1 m1 => ((r1 ≠ 0 → ∀ x2 : Int, x2 = m1 123 73 → ∀ m2 : zMem, m2 = zup m1 123 73 a1 → Q x2 m2) ∧ (r1 = 0 → Q (-1) m1)))) : zC (d + 1) K_Mo_law [(2, Int.ofNat 122), (0, a1)] mem Q := by
  exact zC_of ok_Mo_law (by decide +kernel) (Nat.le_of_ble_eq_true rfl) rfl (Or.inr (Or.inl rfl)) (zent_ok ok_Mo_law (cuts := []) (f := 25) (zC.post hS (fun r1 m1 hr1 => (zne (fun c3 => (And.intro rfl (And.intro (zbd rfl rfl (by decide)) (fun x2 ex2 => (And.intro rfl (And.intro (zbd rfl rfl (by decide)) (fun m2 em2 => (((hr1.1 c3) x2 ex2) m2 em2)))))))) (fun c3 => (hr1.2 c3))))))
theorem v_Mo_build {d : Nat} {a1 a2 a3 : Int} {mem : zMem} {Q : Int → zMem → Prop}  (hS : zC d K_Mo_isRoom [(2, Int.ofNat 122), (0, a1)] mem (fun r1 m1 => ((r1 = 0 → Q (-1) m1) ∧ (r1 ≠ 0 → zC d K_Mo_isRoom [(2, Int.ofNat 122), (0, a2)] m1 (fun r2 m2 => ((r2 = 0 → Q (-1) m2) ∧ (r2 ≠ 0 → ((a1 = a2 → Q (-1) m2) ∧ (a1 ≠ a2 → zC d K_Mo_in [(1, a3), (1, 0), (1, 3)] m2 (fun r3 m3 => ((r3 ≠ 0 → zC d K_Mo_doorMany [(2, Int.ofNat 122)] m3 (fun r4 m4 => ((r4 ≠ 14 → zC d K_Mo_addDoor [(2, Int.ofNat 122), (0, a1), (0, a2), (0, a3)] m4 (fun r5 m5 => zC d K_Mo_doorMany [(2, Int.ofNat 122)] m5 (fun r6 m6 => Q (zsub r6 1) m6))) ∧ (r4 = 14 → Q (-3) m4)))) ∧ (r3 = 0 → Q (-1) m3)))))))))))) : zC (d + 1) K_Mo_build [(2, Int.ofNat 122), (0, a1), (0, a2), (0, a3)] mem Q := by
  exact zC_of ok_Mo_build (by decide +kernel) (Nat.le_of_ble_eq_true rfl) rfl (Or.inr (Or.inl rfl)) (zent_ok ok_Mo_build (cuts := []) (f := 40) (And.intro rfl (zC.post hS (fun r1 m1 hr1 => (zeq (fun c11 => (hr1.1 c11)) (fun c11 => (And.intro rfl (zC.post (hr1.2 c11) (fun r2 m2 hr2 => (zeq (fun c10 => (hr2.1 c10)) (fun c10 => (zeq (fun c9 => ((hr2.2 c10).1 c9)) (fun c9 => (zC.post ((hr2.2 c10).2 c9) (fun r3 m3 hr3 => (zne (fun c8 => (And.intro rfl (zC.post (hr3.1 c8) (fun r4 m4 hr4 => (zne (fun c7 => (And.intro rfl (zC.post (hr4.1 c7) (fun r5 m5 hr5 => (And.intro rfl (zC.post hr5 (fun r6 m6 hr6 => hr6))))))) (fun c7 => (hr4.2 c7))))))) (fun c8 => (hr3.2 c8))))))))))))))))))
theorem v_Mo_addDoor {d : Nat} {a1 a2 a3 : Int} {mem : zMem} {Q : Int → zMem → Prop}  (hS : zC d K_Mo_doorMany [(2, Int.ofNat 122)] mem (fun r1 m1 => ((0 ≤ zmul 4 r1 ∧ zmul 4 r1 < 264) ∧ ∀ m2 : zMem, m2 = zup m1 123 (zmul 4 r1).toNat a1 → ((0 ≤ zadd (zmul 4 r1) 1 ∧ zadd (zmul 4 r1) 1 < 264) ∧ ∀ m3 : zMem, m3 = zup m2 123 (zadd (zmul 4 r1) 1).toNat a2 → ((0 ≤ zadd (zmul 4 r1) 2 ∧ zadd (zmul 4 r1) 2 < 264) ∧ ∀ m4 : zMem, m4 = zup m3 123 (zadd (zmul 4 r1) 2).toNat a3 → ((0 ≤ zadd (zmul 4 r1) 3 ∧ zadd (zmul 4 r1) 3 < 264) ∧ ∀ m5 : zMem, m5 = zup m4 123 (zadd (zmul 4 r1) 3).toNat 0 → ∀ m6 : zMem, m6 = zup m5 123 56 (zadd (m5 123 56) 1) → Q 0 m6)))))) : zC (d + 1) K_Mo_addDoor [(2, Int.ofNat 122), (0, a1), (0, a2), (0, a3)] mem Q := by
  exact zC_of ok_Mo_addDoor (by decide +kernel) (Nat.le_of_ble_eq_true rfl) rfl (Or.inl rfl) (zent_ok ok_Mo_addDoor (cuts := []) (f := 51) (And.intro rfl (zC.post hS (fun r1 m1 hr1 => (zall (And.intro rfl (And.intro (zbd rfl rfl hr1.1) (fun m2 em2 => (And.intro rfl (And.intro (zbd rfl rfl (hr1.2 m2 em2).1) (fun m3 em3 => (And.intro rfl (And.intro (zbd rfl rfl ((hr1.2 m2 em2).2 m3 em3).1) (fun m4 em4 => (And.intro rfl (And.intro (zbd rfl rfl (((hr1.2 m2 em2).2 m3 em3).2 m4 em4).1) (fun m5 em5 => (And.intro rfl (And.intro (zbd rfl rfl (by decide)) (And.intro (zbd rfl rfl (by decide)) (fun m6 em6 => (((((hr1.2 m2 em2).2 m3 em3).2 m4 em4).2 m5 em5) m6 em6))))))))))))))))))))))
theorem v_Mo_wall {d : Nat} {a1 a2 : Int} {mem : zMem} {Q : Int → zMem → Prop}  (hS : zC d K_Mo_isDoor [(2, Int.ofNat 122), (0, a1)] mem (fun r1 m1 => ((r1 ≠ 0 → ((0 ≤ zadd (zmul 4 a1) 3 ∧ zadd (zmul 4 a1) 3 < 264) ∧ ∀ x2 : Int, x2 = m1 123 (zadd (zmul 4 a1) 3).toNat → ((a2 = 0 → ((0 ≤ zadd (zmul 4 a1) 3 ∧ zadd (zmul 4 a1) 3 < 264) ∧ ∀ m2 : zMem, m2 = zup m1 123 (zadd (zmul 4 a1) 3).toNat 0 → Q x2 m2)) ∧ (a2 ≠ 0 → ((0 ≤ zadd (zmul 4 a1) 3 ∧ zadd (zmul 4 a1) 3 < 264) ∧ ∀ m3 : zMem, m3 = zup m1 123 (zadd (zmul 4 a1) 3).toNat 1 → Q x2 m3))))) ∧ (r1 = 0 → Q (-1) m1)))) : zC (d + 1) K_Mo_wall [(2, Int.ofNat 122), (0, a1), (0, a2)] mem Q := by
  exact zC_of ok_Mo_wall (by decide +kernel) (Nat.le_of_ble_eq_true rfl) rfl (Or.inr (Or.inl rfl)) (zent_ok ok_Mo_wall (cuts := []) (f := 35) (And.intro rfl (zC.post hS (fun r1 m1 hr1 => (zne (fun c4 => (And.intro rfl (And.intro (zbd rfl rfl (hr1.1 c4).1) (fun x2 ex2 => (And.intro rfl (zeq (fun c3 => (And.intro (zbd rfl rfl (((hr1.1 c4).2 x2 ex2).1 c3).1) (fun m2 em2 => ((((hr1.1 c4).2 x2 ex2).1 c3).2 m2 em2)))) (fun c3 => (And.intro (zbd rfl rfl (((hr1.1 c4).2 x2 ex2).2 c3).1) (fun m3 em3 => ((((hr1.1 c4).2 x2 ex2).2 c3).2 m3 em3)))))))))) (fun c4 => (hr1.2 c4)))))))
theorem v_Mo_stand {d : Nat} {a1 a2 : Int} {mem : zMem} {Q : Int → zMem → Prop}  (hS : zC d K_Mo_isOne [(2, Int.ofNat 122), (0, a1)] mem (fun r1 m1 => ((r1 = 0 → Q (-1) m1) ∧ (r1 ≠ 0 → zC d K_Mo_isRoom [(2, Int.ofNat 122), (0, a2)] m1 (fun r2 m2 => ((r2 ≠ 0 → ((0 ≤ zadd 57 (zmul 3 a1) ∧ zadd 57 (zmul 3 a1) < 264) ∧ ∀ x3 : Int, x3 = m2 123 (zadd 57 (zmul 3 a1)).toNat → ((0 ≤ zadd 57 (zmul 3 a1) ∧ zadd 57 (zmul 3 a1) < 264) ∧ ∀ m3 : zMem, m3 = zup m2 123 (zadd 57 (zmul 3 a1)).toNat a2 → ((0 ≤ zadd (zadd 57 (zmul 3 a1)) 1 ∧ zadd (zadd 57 (zmul 3 a1)) 1 < 264) ∧ ∀ m4 : zMem, m4 = zup m3 123 (zadd (zadd 57 (zmul 3 a1)) 1).toNat (-4) → ((0 ≤ zadd (zadd 57 (zmul 3 a1)) 2 ∧ zadd (zadd 57 (zmul 3 a1)) 2 < 264) ∧ ∀ m5 : zMem, m5 = zup m4 123 (zadd (zadd 57 (zmul 3 a1)) 2).toNat (-4) → Q x3 m5))))) ∧ (r2 = 0 → Q (-1) m2))))))) : zC (d + 1) K_Mo_stand [(2, Int.ofNat 122), (0, a1), (0, a2)] mem Q := by
  exact zC_of ok_Mo_stand (by decide +kernel) (Nat.le_of_ble_eq_true rfl) rfl (Or.inr (Or.inl rfl)) (zent_ok ok_Mo_stand (cuts := []) (f := 57) (And.intro rfl (zC.post hS (fun r1 m1 hr1 => (zeq (fun c5 => (hr1.1 c5)) (fun c5 => (And.intro rfl (zC.post (hr1.2 c5) (fun r2 m2 hr2 => (zne (fun c4 => (And.intro rfl (And.intro (zbd rfl rfl (hr2.1 c4).1) (fun x3 ex3 => (And.intro rfl (And.intro (zbd rfl rfl ((hr2.1 c4).2 x3 ex3).1) (fun m3 em3 => (And.intro rfl (And.intro (zbd rfl rfl (((hr2.1 c4).2 x3 ex3).2 m3 em3).1) (fun m4 em4 => (And.intro rfl (And.intro (zbd rfl rfl ((((hr2.1 c4).2 x3 ex3).2 m3 em3).2 m4 em4).1) (fun m5 em5 => (((((hr2.1 c4).2 x3 ex3).2 m3 em3).2 m4 em4).2 m5 em5)))))))))))))) (fun c4 => (hr2.2 c4))))))))))))
theorem v_Mo_go {d : Nat} {a1 a2 : Int} {mem : zMem} {Q : Int → zMem → Prop}  (hS : zC d K_Mo_goes [(2, Int.ofNat 122), (0, a1), (0, a2)] mem (fun r1 m1 => Q r1 m1)) : zC (d + 1) K_Mo_go [(2, Int.ofNat 122), (0, a1), (0, a2)] mem Q := by
  exact zC_of ok_Mo_go (by decide +kernel) (Nat.le_of_ble_eq_true rfl) rfl (Or.inr (Or.inl rfl)) (zent_ok ok_Mo_go (cuts := []) (f := 10) (And.intro rfl (zC.post hS (fun r1 m1 hr1 => hr1))))
theorem v_Mo_goes {d : Nat} {a1 a2 : Int} {mem : zMem} {Q : Int → zMem → Prop}  (hS : zC d K_Mo_isOne [(2, Int.ofNat 122), (0, a1)] mem (fun r1 m1 => ((r1 = 0 → Q (-1) m1) ∧ (r1 ≠ 0 → zC d K_Mo_isDoor [(2, Int.ofNat 122), (0, a2)] m1 (fun r2 m2 => ((r2 ≠ 0 → zC d K_Mo_placeOfOne [(2, Int.ofNat 122), (0, a1)] m2 (fun r3 m3 => zC d K_Mo_stepped [(2, Int.ofNat 122), (0, r3), (0, a2)] m3 (fun r4 m4 => ((r4 ≠ -4 → zC d K_Mo_roomAt [(2, Int.ofNat 122), (0, r4)] m4 (fun r5 m5 => ((0 ≤ zadd 57 (zmul 3 a1) ∧ zadd 57 (zmul 3 a1) < 264) ∧ ∀ m6 : zMem, m6 = zup m5 123 (zadd 57 (zmul 3 a1)).toNat r5 → ((0 ≤ zadd (zadd 57 (zmul 3 a1)) 1 ∧ zadd (zadd 57 (zmul 3 a1)) 1 < 264) ∧ ((0 ≤ zadd (zadd 57 (zmul 3 a1)) 2 ∧ zadd (zadd 57 (zmul 3 a1)) 2 < 264) ∧ ∀ m7 : zMem, m7 = zup m6 123 (zadd (zadd 57 (zmul 3 a1)) 2).toNat (m6 123 (zadd (zadd 57 (zmul 3 a1)) 1).toNat) → ((0 ≤ zadd (zadd 57 (zmul 3 a1)) 1 ∧ zadd (zadd 57 (zmul 3 a1)) 1 < 264) ∧ ∀ m8 : zMem, m8 = zup m7 123 (zadd (zadd 57 (zmul 3 a1)) 1).toNat a2 → zC d K_Mo_roomAt [(2, Int.ofNat 122), (0, r4)] m8 (fun r6 m9 => Q r6 m9))))))) ∧ (r4 = -4 → Q (-4) m4))))) ∧ (r2 = 0 → Q (-1) m2))))))) : zC (d + 1) K_Mo_goes [(2, Int.ofNat 122), (0, a1), (0, a2)] mem Q := by
  exact zC_of ok_Mo_goes (by decide +kernel) (Nat.le_of_ble_eq_true rfl) rfl (Or.inr (Or.inl rfl)) (zent_ok ok_Mo_goes (cuts := []) (f := 73) (And.intro rfl (zC.post hS (fun r1 m1 hr1 => (zeq (fun c9 => (hr1.1 c9)) (fun c9 => (And.intro rfl (zC.post (hr1.2 c9) (fun r2 m2 hr2 => (zne (fun c8 => (And.intro rfl (zC.post (hr2.1 c8) (fun r3 m3 hr3 => (And.intro rfl (zC.post hr3 (fun r4 m4 hr4 => (zall (zne (fun c7 => (And.intro rfl (And.intro rfl (zC.post (hr4.1 c7) (fun r5 m5 hr5 => (And.intro (zbd rfl rfl hr5.1) (fun m6 em6 => (And.intro rfl (And.intro rfl (And.intro (zbd rfl rfl (hr5.2 m6 em6).1) (And.intro (zbd rfl rfl (hr5.2 m6 em6).2.1) (fun m7 em7 => (And.intro rfl (And.intro (zbd rfl rfl ((hr5.2 m6 em6).2.2 m7 em7).1) (fun m8 em8 => (And.intro rfl (zC.post (((hr5.2 m6 em6).2.2 m7 em7).2 m8 em8) (fun r6 m9 hr6 => hr6)))))))))))))))))) (fun c7 => (hr4.2 c7))))))))))) (fun c8 => (hr2.2 c8))))))))))))
theorem v_Mo_far {d : Nat} {a1 a2 : Int} {mem : zMem} {Q : Int → zMem → Prop}  (hS : zC d K_Mo_isOne [(2, Int.ofNat 122), (0, a1)] mem (fun r1 m1 => ((r1 = 0 → Q (-1) m1) ∧ (r1 ≠ 0 → zC d K_Mo_isRoom [(2, Int.ofNat 122), (0, a2)] m1 (fun r2 m2 => ((r2 ≠ 0 → zC d K_Mo_placeOfOne [(2, Int.ofNat 122), (0, a1)] m2 (fun r3 m3 => zC d K_Mo_laysFrom [(2, Int.ofNat 122), (0, r3)] m3 (fun r4 m4 => zC d K_Mo_foundIn [(2, Int.ofNat 122), (0, a2)] m4 (fun r5 m5 => ((r5 ≠ -4 → ((0 ≤ r5 ∧ r5 < 570) ∧ Q (m5 128 r5.toNat) m5)) ∧ (r5 = -4 → Q (-4) m5)))))) ∧ (r2 = 0 → Q (-1) m2))))))) : zC (d + 1) K_Mo_far [(2, Int.ofNat 122), (0, a1), (0, a2)] mem Q := by
  exact zC_of ok_Mo_far (by decide +kernel) (Nat.le_of_ble_eq_true rfl) rfl (Or.inr (Or.inl rfl)) (zent_ok ok_Mo_far (cuts := []) (f := 34) (And.intro rfl (zC.post hS (fun r1 m1 hr1 => (zeq (fun c8 => (hr1.1 c8)) (fun c8 => (And.intro rfl (zC.post (hr1.2 c8) (fun r2 m2 hr2 => (zne (fun c7 => (And.intro rfl (zC.post (hr2.1 c7) (fun r3 m3 hr3 => (And.intro rfl (zC.post hr3 (fun r4 m4 hr4 => (And.intro rfl (zC.post hr4 (fun r5 m5 hr5 => (zall (zne (fun c6 => (And.intro rfl (And.intro (zbd rfl rfl (hr5.1 c6).1) (hr5.1 c6).2))) (fun c6 => (hr5.2 c6)))))))))))))) (fun c7 => (hr2.2 c7))))))))))))
theorem v_Mo_laysFrom {d : Nat} {a1 : Int} {mem : zMem} {Q : Int → zMem → Prop}  (hS : zC d K_Mo_begins [(2, Int.ofNat 122)] mem (fun r1 m1 => zC d K_Mo_finds [(2, Int.ofNat 122), (0, a1), (0, 0), (0, -4), (0, -4)] m1 (fun r2 m2 => zC d K_Mo_spreads [(2, Int.ofNat 122)] m2 (fun r3 m3 => Q 0 m3)))) : zC (d + 1) K_Mo_laysFrom [(2, Int.ofNat 122), (0, a1)] mem Q := by
  exact zC_of ok_Mo_laysFrom (by decide +kernel) (Nat.le_of_ble_eq_true rfl) rfl (Or.inl rfl) (zent_ok ok_Mo_laysFrom (cuts := []) (f := 16) (And.intro rfl (zC.post hS (fun r1 m1 hr1 => (And.intro rfl (zC.post hr1 (fun r2 m2 hr2 => (And.intro rfl (zC.post hr2 (fun r3 m3 hr3 => hr3))))))))))
theorem v_Mo_begins {d : Nat}  {mem : zMem} {Q : Int → zMem → Prop}  (hS : ∀ m1 : zMem, m1 = zup mem 122 24 0 → zG (d + 1) M_Mo_begins 7 [(2, Int.ofNat 122), (0, 0)] [] m1 Q) : zC (d + 1) K_Mo_begins [(2, Int.ofNat 122)] mem Q := by
  exact zC_of ok_Mo_begins (by decide +kernel) (Nat.le_of_ble_eq_true rfl) rfl (Or.inl rfl) (zent_ok ok_Mo_begins (cuts := [7]) (f := 21) (And.intro rfl (fun m1 em1 => (zall (hS m1 em1)))))
theorem v_Mo_begins_7 {d : Nat} {l1 : Int} {mem : zMem} {Q : Int → zMem → Prop}  (hS : ((570 ≤ l1 → Q 0 mem) ∧ (l1 < 570 → ((0 ≤ l1 ∧ l1 < 570) ∧ ∀ m1 : zMem, m1 = zup mem 128 l1.toNat (-4) → ∀ x1 : Int, x1 = zadd l1 1 → zG (d + 1) M_Mo_begins 7 [(2, Int.ofNat 122), (0, x1)] [] m1 Q)))) : zG (d + 1) M_Mo_begins 7 [(2, Int.ofNat 122), (0, l1)] [] mem Q := by
  exact zent_ok ok_Mo_begins (cuts := [7]) (f := 21) (zge (fun c2 => (hS.1 c2)) (fun c2 => (And.intro rfl (And.intro (zbd rfl rfl (hS.2 c2).1) (fun m1 em1 => (fun x1 ex1 => (((hS.2 c2).2 m1 em1) x1 ex1)))))))
theorem v_Mo_finds {d : Nat} {a1 a2 a3 a4 : Int} {mem : zMem} {Q : Int → zMem → Prop}  (hS : ((0 ≤ a1 ∧ a1 < 570) ∧ ((mem 128 a1.toNat ≠ -4 → Q 0 mem) ∧ (mem 128 a1.toNat = -4 → ((0 ≤ a1 ∧ a1 < 570) ∧ ∀ m1 : zMem, m1 = zup mem 128 a1.toNat a2 → ((0 ≤ a1 ∧ a1 < 570) ∧ ∀ m2 : zMem, m2 = zup m1 129 a1.toNat a3 → ((0 ≤ a1 ∧ a1 < 570) ∧ ∀ m3 : zMem, m3 = zup m2 130 a1.toNat a4 → ((0 ≤ m3 122 24 ∧ m3 122 24 < 570) ∧ ∀ m4 : zMem, m4 = zup m3 131 (m3 122 24).toNat a1 → ∀ m5 : zMem, m5 = zup m4 122 24 (zadd (m4 122 24) 1) → Q 0 m5)))))))) : zC (d + 1) K_Mo_finds [(2, Int.ofNat 122), (0, a1), (0, a2), (0, a3), (0, a4)] mem Q := by
  exact zC_of ok_Mo_finds (by decide +kernel) (Nat.le_of_ble_eq_true rfl) rfl (Or.inl rfl) (zent_ok ok_Mo_finds (cuts := []) (f := 39) (And.intro rfl (And.intro (zbd rfl rfl hS.1) (zne (fun c1 => (hS.2.1 c1)) (fun c1 => (And.intro rfl (And.intro (zbd rfl rfl (hS.2.2 c1).1) (fun m1 em1 => (And.intro rfl (And.intro (zbd rfl rfl ((hS.2.2 c1).2 m1 em1).1) (fun m2 em2 => (And.intro rfl (And.intro (zbd rfl rfl (((hS.2.2 c1).2 m1 em1).2 m2 em2).1) (fun m3 em3 => (And.intro rfl (And.intro rfl (And.intro (zbd rfl rfl ((((hS.2.2 c1).2 m1 em1).2 m2 em2).2 m3 em3).1) (fun m4 em4 => (And.intro rfl (And.intro rfl (fun m5 em5 => ((((((hS.2.2 c1).2 m1 em1).2 m2 em2).2 m3 em3).2 m4 em4) m5 em5))))))))))))))))))))))
theorem v_Mo_spreads {d : Nat}  {mem : zMem} {Q : Int → zMem → Prop}  (hS : zG (d + 1) M_Mo_spreads 2 [(2, Int.ofNat 122), (0, 0), (9, 0), (9, 0), (9, 0)] [] mem Q) : zC (d + 1) K_Mo_spreads [(2, Int.ofNat 122)] mem Q := by
  exact zC_of ok_Mo_spreads (by decide +kernel) (Nat.le_of_ble_eq_true rfl) rfl (Or.inl rfl) (zent_ok ok_Mo_spreads (cuts := [2, 19]) (f := 46) (zall hS))
theorem v_Mo_spreads_2 {d : Nat} {l1 : Int} {mem : zMem} {Q : Int → zMem → Prop}  (hS : ((mem 122 24 ≤ l1 → Q 0 mem) ∧ (l1 < mem 122 24 → ((0 ≤ l1 ∧ l1 < 570) ∧ ∀ x1 : Int, x1 = mem 131 l1.toNat → zG (d + 1) M_Mo_spreads 19 [(2, Int.ofNat 122), (0, l1), (0, x1), (0, 0), (9, 0)] [] mem Q)))) : zG (d + 1) M_Mo_spreads 2 [(2, Int.ofNat 122), (0, l1), (9, 0), (9, 0), (9, 0)] [] mem Q := by
  exact zent_ok ok_Mo_spreads (cuts := [2, 19]) (f := 46) (And.intro rfl (zge (fun c2 => (hS.1 c2)) (fun c2 => (And.intro rfl (And.intro (zbd rfl rfl (hS.2 c2).1) (fun x1 ex1 => (zall ((hS.2 c2).2 x1 ex1))))))))
theorem v_Mo_spreads_19 {d : Nat} {l1 l2 l3 : Int} {mem : zMem} {Q : Int → zMem → Prop}  (hS : zC d K_Mo_doorMany [(2, Int.ofNat 122)] mem (fun r1 m1 => ((r1 ≤ l3 → ∀ x2 : Int, x2 = zadd l1 1 → zG (d + 1) M_Mo_spreads 2 [(2, Int.ofNat 122), (0, x2), (9, 0), (9, 0), (9, 0)] [] m1 Q) ∧ (l3 < r1 → zC d K_Mo_stepped [(2, Int.ofNat 122), (0, l2), (0, l3)] m1 (fun r3 m2 => ((r3 = -4 → ∀ x4 : Int, x4 = zadd l3 1 → zG (d + 1) M_Mo_spreads 19 [(2, Int.ofNat 122), (0, l1), (0, l2), (0, x4), (9, 0)] [] m2 Q) ∧ (r3 ≠ -4 → ((0 ≤ l2 ∧ l2 < 570) ∧ zC d K_Mo_finds [(2, Int.ofNat 122), (0, r3), (0, zadd (m2 128 l2.toNat) 1), (0, l2), (0, l3)] m2 (fun r5 m3 => ∀ x6 : Int, x6 = zadd l3 1 → zG (d + 1) M_Mo_spreads 19 [(2, Int.ofNat 122), (0, l1), (0, l2), (0, x6), (9, 0)] [] m3 Q))))))))) : zG (d + 1) M_Mo_spreads 19 [(2, Int.ofNat 122), (0, l1), (0, l2), (0, l3), (9, 0)] [] mem Q := by
  exact zent_ok ok_Mo_spreads (cuts := [2, 19]) (f := 46) (And.intro rfl (zC.post hS (fun r1 m1 hr1 => (zge (fun c8 => (fun x2 ex2 => (zG.mask [true, true, false, false, false] ((hr1.1 c8) x2 ex2)))) (fun c8 => (And.intro rfl (zC.post (hr1.2 c8) (fun r3 m2 hr3 => (zall (zeq (fun c7 => (fun x4 ex4 => (zG.mask [true, true, true, true, false] ((hr3.1 c7) x4 ex4)))) (fun c7 => (And.intro rfl (And.intro (zbd rfl rfl (hr3.2 c7).1) (And.intro rfl (zC.post (hr3.2 c7).2 (fun r5 m3 hr5 => (fun x6 ex6 => (zG.mask [true, true, true, true, false] (hr5 x6 ex6)))))))))))))))))))
theorem v_Mo_foundIn {d : Nat} {a1 : Int} {mem : zMem} {Q : Int → zMem → Prop}  (hS : zG (d + 1) M_Mo_foundIn 2 [(2, Int.ofNat 122), (0, a1), (0, 0)] [] mem Q) : zC (d + 1) K_Mo_foundIn [(2, Int.ofNat 122), (0, a1)] mem Q := by
  exact zC_of ok_Mo_foundIn (by decide +kernel) (Nat.le_of_ble_eq_true rfl) rfl (Or.inr (Or.inl rfl)) (zent_ok ok_Mo_foundIn (cuts := [2]) (f := 28) (zall hS))
theorem v_Mo_foundIn_2 {d : Nat} {l1 l2 : Int} {mem : zMem} {Q : Int → zMem → Prop}  (hS : ((mem 122 24 ≤ l2 → Q (-4) mem) ∧ (l2 < mem 122 24 → ((0 ≤ l2 ∧ l2 < 570) ∧ zC d K_Mo_roomAt [(2, Int.ofNat 122), (0, mem 131 l2.toNat)] mem (fun r1 m1 => ((r1 ≠ l1 → ∀ x2 : Int, x2 = zadd l2 1 → zG (d + 1) M_Mo_foundIn 2 [(2, Int.ofNat 122), (0, l1), (0, x2)] [] m1 Q) ∧ (r1 = l1 → ((0 ≤ l2 ∧ l2 < 570) ∧ Q (m1 131 l2.toNat) m1)))))))) : zG (d + 1) M_Mo_foundIn 2 [(2, Int.ofNat 122), (0, l1), (0, l2)] [] mem Q := by
  exact zent_ok ok_Mo_foundIn (cuts := [2]) (f := 28) (And.intro rfl (zge (fun c4 => (hS.1 c4)) (fun c4 => (And.intro rfl (And.intro (zbd rfl rfl (hS.2 c4).1) (And.intro rfl (zC.post (hS.2 c4).2 (fun r1 m1 hr1 => (zne (fun c3 => (fun x2 ex2 => ((hr1.1 c3) x2 ex2))) (fun c3 => (And.intro rfl (And.intro (zbd rfl rfl (hr1.2 c3).1) (hr1.2 c3).2))))))))))))
theorem v_Mo_way {d : Nat} {a1 a2 a3 : Int} {mem : zMem} {Q : Int → zMem → Prop}  (hS : zC d K_Mo_isOne [(2, Int.ofNat 122), (0, a1)] mem (fun r1 m1 => ((r1 = 0 → Q (-1) m1) ∧ (r1 ≠ 0 → zC d K_Mo_isRoom [(2, Int.ofNat 122), (0, a2)] m1 (fun r2 m2 => ((r2 = 0 → Q (-1) m2) ∧ (r2 ≠ 0 → ((0 ≤ a3 → zC d K_Mo_placeOfOne [(2, Int.ofNat 122), (0, a1)] m2 (fun r3 m3 => zC d K_Mo_laysFrom [(2, Int.ofNat 122), (0, r3)] m3 (fun r4 m4 => zC d K_Mo_foundIn [(2, Int.ofNat 122), (0, a2)] m4 (fun r5 m5 => ((r5 = -4 → Q (-4) m5) ∧ (r5 ≠ -4 → ((0 ≤ r5 ∧ r5 < 570) ∧ ((a3 < m5 128 r5.toNat → zG (d + 1) M_Mo_way 59 [(2, Int.ofNat 122), (9, 0), (9, 0), (0, a3), (0, r5)] [] m5 Q) ∧ (m5 128 r5.toNat ≤ a3 → Q (-4) m5))))))))) ∧ (a3 < 0 → Q (-1) m2))))))))) : zC (d + 1) K_Mo_way [(2, Int.ofNat 122), (0, a1), (0, a2), (0, a3)] mem Q := by
  exact zC_of ok_Mo_way (by decide +kernel) (Nat.le_of_ble_eq_true rfl) rfl (Or.inr (Or.inl rfl)) (zent_ok ok_Mo_way (cuts := [59]) (f := 56) (And.intro rfl (zC.post hS (fun r1 m1 hr1 => (zeq (fun c10 => (hr1.1 c10)) (fun c10 => (And.intro rfl (zC.post (hr1.2 c10) (fun r2 m2 hr2 => (zeq (fun c9 => (hr2.1 c9)) (fun c9 => (zge (fun c8 => (And.intro rfl (zC.post ((hr2.2 c9).1 c8) (fun r3 m3 hr3 => (And.intro rfl (zC.post hr3 (fun r4 m4 hr4 => (And.intro rfl (zC.post hr4 (fun r5 m5 hr5 => (zall (zeq (fun c7 => (hr5.1 c7)) (fun c7 => (And.intro rfl (And.intro (zbd rfl rfl (hr5.2 c7).1) (zlt (fun c6 => (zG.mask [true, false, false, true, true] ((hr5.2 c7).2.1 c6))) (fun c6 => ((hr5.2 c7).2.2 c6)))))))))))))))))) (fun c8 => ((hr2.2 c9).2 c8))))))))))))))
theorem v_Mo_way_59 {d : Nat} {l3 l4 : Int} {mem : zMem} {Q : Int → zMem → Prop}  (hS : ((0 ≤ l4 ∧ l4 < 570) ∧ ((mem 128 l4.toNat ≤ zadd l3 1 → ((0 ≤ l4 ∧ l4 < 570) ∧ Q (mem 130 l4.toNat) mem)) ∧ (zadd l3 1 < mem 128 l4.toNat → ((0 ≤ l4 ∧ l4 < 570) ∧ ∀ x1 : Int, x1 = mem 129 l4.toNat → zG (d + 1) M_Mo_way 59 [(2, Int.ofNat 122), (9, 0), (9, 0), (0, l3), (0, x1)] [] mem Q))))) : zG (d + 1) M_Mo_way 59 [(2, Int.ofNat 122), (9, 0), (9, 0), (0, l3), (0, l4)] [] mem Q := by
  exact zent_ok ok_Mo_way (cuts := [59]) (f := 56) (And.intro rfl (And.intro (zbd rfl rfl hS.1) (zle (fun c2 => (And.intro rfl (And.intro (zbd rfl rfl (hS.2.1 c2).1) (hS.2.1 c2).2))) (fun c2 => (And.intro rfl (And.intro (zbd rfl rfl (hS.2.2 c2).1) (fun x1 ex1 => ((hS.2.2 c2).2 x1 ex1))))))))
theorem v_Mo_can {d : Nat} {a1 : Int} {mem : zMem} {Q : Int → zMem → Prop}  (hS : zC d K_Mo_isOne [(2, Int.ofNat 122), (0, a1)] mem (fun r1 m1 => ((r1 ≠ 0 → zC d K_Mo_placeOfOne [(2, Int.ofNat 122), (0, a1)] m1 (fun r2 m2 => zC d K_Mo_laysFrom [(2, Int.ofNat 122), (0, r2)] m2 (fun r3 m3 => zC d K_Mo_foundRooms [(2, Int.ofNat 122)] m3 (fun r4 m4 => Q r4 m4)))) ∧ (r1 = 0 → Q (-1) m1)))) : zC (d + 1) K_Mo_can [(2, Int.ofNat 122), (0, a1)] mem Q := by
  exact zC_of ok_Mo_can (by decide +kernel) (Nat.le_of_ble_eq_true rfl) rfl (Or.inr (Or.inl rfl)) (zent_ok ok_Mo_can (cuts := []) (f := 19) (And.intro rfl (zC.post hS (fun r1 m1 hr1 => (zne (fun c5 => (And.intro rfl (zC.post (hr1.1 c5) (fun r2 m2 hr2 => (And.intro rfl (zC.post hr2 (fun r3 m3 hr3 => (And.intro rfl (zC.post hr3 (fun r4 m4 hr4 => hr4)))))))))) (fun c5 => (hr1.2 c5)))))))
theorem v_Mo_foundRooms {d : Nat}  {mem : zMem} {Q : Int → zMem → Prop}  (hS : zG (d + 1) M_Mo_foundRooms 4 [(2, Int.ofNat 122), (0, 0), (0, 0)] [] mem Q) : zC (d + 1) K_Mo_foundRooms [(2, Int.ofNat 122)] mem Q := by
  exact zC_of ok_Mo_foundRooms (by decide +kernel) (Nat.le_of_ble_eq_true rfl) rfl (Or.inr (Or.inl rfl)) (zent_ok ok_Mo_foundRooms (cuts := [4]) (f := 28) (zall (zall hS)))
theorem v_Mo_foundRooms_4 {d : Nat} {l1 l2 : Int} {mem : zMem} {Q : Int → zMem → Prop}  (hS : ((mem 122 24 ≤ l2 → Q l1 mem) ∧ (l2 < mem 122 24 → ((0 ≤ l2 ∧ l2 < 570) ∧ zC d K_Mo_roomAt [(2, Int.ofNat 122), (0, mem 131 l2.toNat)] mem (fun r1 m1 => ∀ x2 : Int, x2 = zor l1 (zshl 1 r1) → ∀ x3 : Int, x3 = zadd l2 1 → zG (d + 1) M_Mo_foundRooms 4 [(2, Int.ofNat 122), (0, x2), (0, x3)] [] m1 Q))))) : zG (d + 1) M_Mo_foundRooms 4 [(2, Int.ofNat 122), (0, l1), (0, l2)] [] mem Q := by
  exact zent_ok ok_Mo_foundRooms (cuts := [4]) (f := 28) (And.intro rfl (zge (fun c4 => (hS.1 c4)) (fun c4 => (And.intro rfl (And.intro (zbd rfl rfl (hS.2 c4).1) (And.intro rfl (zC.post (hS.2 c4).2 (fun r1 m1 hr1 => (fun x2 ex2 => (fun x3 ex3 => ((hr1 x2 ex2) x3 ex3)))))))))))
theorem v_Mo_path {d : Nat} {a1 a2 : Int} {mem : zMem} {Q : Int → zMem → Prop}  (hS : zC d K_Mo_isRoom [(2, Int.ofNat 122), (0, a1)] mem (fun r1 m1 => ((r1 = 0 → Q (-1) m1) ∧ (r1 ≠ 0 → zC d K_Mo_isRoom [(2, Int.ofNat 122), (0, a2)] m1 (fun r2 m2 => ((r2 ≠ 0 → zC d K_Mo_newIn [(0, a1)] m2 (fun r3 m3 => zC d K_Mo_laysFrom [(2, Int.ofNat 122), (0, r3)] m3 (fun r4 m4 => zC d K_Mo_foundIn [(2, Int.ofNat 122), (0, a2)] m4 (fun r5 m5 => ((r5 ≠ -4 → ((0 ≤ r5 ∧ r5 < 570) ∧ Q (m5 128 r5.toNat) m5)) ∧ (r5 = -4 → Q (-4) m5)))))) ∧ (r2 = 0 → Q (-1) m2))))))) : zC (d + 1) K_Mo_path [(2, Int.ofNat 122), (0, a1), (0, a2)] mem Q := by
  exact zC_of ok_Mo_path (by decide +kernel) (Nat.le_of_ble_eq_true rfl) rfl (Or.inr (Or.inl rfl)) (zent_ok ok_Mo_path (cuts := []) (f := 33) (And.intro rfl (zC.post hS (fun r1 m1 hr1 => (zeq (fun c8 => (hr1.1 c8)) (fun c8 => (And.intro rfl (zC.post (hr1.2 c8) (fun r2 m2 hr2 => (zne (fun c7 => (zC.post (hr2.1 c7) (fun r3 m3 hr3 => (And.intro rfl (zC.post hr3 (fun r4 m4 hr4 => (And.intro rfl (zC.post hr4 (fun r5 m5 hr5 => (zall (zne (fun c6 => (And.intro rfl (And.intro (zbd rfl rfl (hr5.1 c6).1) (hr5.1 c6).2))) (fun c6 => (hr5.2 c6))))))))))))) (fun c7 => (hr2.2 c7))))))))))))
theorem v_Mo_newIn {d : Nat} {a0 : Int} {mem : zMem} {Q : Int → zMem → Prop}  (hS : zC d K_Mo_placeOf [(0, a0), (0, -4), (0, -4), (0, 0)] mem (fun r1 m1 => Q r1 m1)) : zC (d + 1) K_Mo_newIn [(0, a0)] mem Q := by
  exact zC_of ok_Mo_newIn (by decide +kernel) (Nat.le_of_ble_eq_true rfl) rfl (Or.inr (Or.inl rfl)) (zent_ok ok_Mo_newIn (cuts := []) (f := 11) (zC.post hS (fun r1 m1 hr1 => hr1)))
theorem v_Mo_pairs {d : Nat}  {mem : zMem} {Q : Int → zMem → Prop}  (hS : zC d K_Mo_pairsNow [(2, Int.ofNat 122)] mem (fun r1 m1 => Q r1 m1)) : zC (d + 1) K_Mo_pairs [(2, Int.ofNat 122)] mem Q := by
  exact zC_of ok_Mo_pairs (by decide +kernel) (Nat.le_of_ble_eq_true rfl) rfl (Or.inr (Or.inl rfl)) (zent_ok ok_Mo_pairs (cuts := []) (f := 8) (And.intro rfl (zC.post hS (fun r1 m1 hr1 => hr1))))
theorem v_Mo_pairsNow {d : Nat}  {mem : zMem} {Q : Int → zMem → Prop}  (hS : zG (d + 1) M_Mo_pairsNow 4 [(2, Int.ofNat 122), (0, 0), (0, 0)] [] mem Q) : zC (d + 1) K_Mo_pairsNow [(2, Int.ofNat 122)] mem Q := by
  exact zC_of ok_Mo_pairsNow (by decide +kernel) (Nat.le_of_ble_eq_true rfl) rfl (Or.inr (Or.inl rfl)) (zent_ok ok_Mo_pairsNow (cuts := [4]) (f := 29) (zall (zall hS)))
theorem v_Mo_pairsNow_4 {d : Nat} {l1 l2 : Int} {mem : zMem} {Q : Int → zMem → Prop}  (hS : ((mem 122 1 ≤ l2 → Q l1 mem) ∧ (l2 < mem 122 1 → zC d K_Mo_newIn [(0, l2)] mem (fun r1 m1 => zC d K_Mo_laysFrom [(2, Int.ofNat 122), (0, r1)] m1 (fun r2 m2 => zC d K_Mo_foundRooms [(2, Int.ofNat 122)] m2 (fun r3 m3 => zC d K_Mo_bitsOf [(0, r3)] m3 (fun r4 m4 => ∀ x5 : Int, x5 = zadd l1 (zsub r4 1) → ∀ x6 : Int, x6 = zadd l2 1 → zG (d + 1) M_Mo_pairsNow 4 [(2, Int.ofNat 122), (0, x5), (0, x6)] [] m4 Q))))))) : zG (d + 1) M_Mo_pairsNow 4 [(2, Int.ofNat 122), (0, l1), (0, l2)] [] mem Q := by
  exact zent_ok ok_Mo_pairsNow (cuts := [4]) (f := 29) (And.intro rfl (zge (fun c7 => (hS.1 c7)) (fun c7 => (zC.post (hS.2 c7) (fun r1 m1 hr1 => (And.intro rfl (zC.post hr1 (fun r2 m2 hr2 => (And.intro rfl (zC.post hr2 (fun r3 m3 hr3 => (zC.post hr3 (fun r4 m4 hr4 => (fun x5 ex5 => (fun x6 ex6 => ((hr4 x5 ex5) x6 ex6))))))))))))))))
theorem v_Mo_bitsOf {d : Nat} {a0 : Int} {mem : zMem} {Q : Int → zMem → Prop}  (hS : zG (d + 1) M_Mo_bitsOf 4 [(0, a0), (0, 0), (0, 0)] [] mem Q) : zC (d + 1) K_Mo_bitsOf [(0, a0)] mem Q := by
  exact zC_of ok_Mo_bitsOf (by decide +kernel) (Nat.le_of_ble_eq_true rfl) rfl (Or.inr (Or.inl rfl)) (zent_ok ok_Mo_bitsOf (cuts := [4]) (f := 24) (zall (zall hS)))
theorem v_Mo_bitsOf_4 {d : Nat} {l0 l1 l2 : Int} {mem : zMem} {Q : Int → zMem → Prop}  (hS : ((14 ≤ l2 → Q l1 mem) ∧ (l2 < 14 → ∀ x1 : Int, x1 = zadd l1 (zand (zshr l0 l2) 1) → ∀ x2 : Int, x2 = zadd l2 1 → zG (d + 1) M_Mo_bitsOf 4 [(0, l0), (0, x1), (0, x2)] [] mem Q))) : zG (d + 1) M_Mo_bitsOf 4 [(0, l0), (0, l1), (0, l2)] [] mem Q := by
  exact zent_ok ok_Mo_bitsOf (cuts := [4]) (f := 24) (zge (fun c3 => (hS.1 c3)) (fun c3 => (fun x1 ex1 => (fun x2 ex2 => (((hS.2 c3) x1 ex1) x2 ex2)))))
theorem v_Mo_life {d : Nat}  {mem : zMem} {Q : Int → zMem → Prop}  (hS : zG (d + 1) M_Mo_life 4 [(2, Int.ofNat 122), (0, 0), (0, 0)] [] mem Q) : zC (d + 1) K_Mo_life [(2, Int.ofNat 122)] mem Q := by
  exact zC_of ok_Mo_life (by decide +kernel) (Nat.le_of_ble_eq_true rfl) rfl (Or.inr (Or.inl rfl)) (zent_ok ok_Mo_life (cuts := [4]) (f := 58) (zall (zall hS)))
theorem v_Mo_life_4 {d : Nat} {l1 l2 : Int} {mem : zMem} {Q : Int → zMem → Prop}  (hS : zC d K_Mo_doorMany [(2, Int.ofNat 122)] mem (fun r1 m1 => ((zmul 2 r1 ≤ l2 → Q l1 m1) ∧ (l2 < zmul 2 r1 → ((0 ≤ zadd (zmul 4 (zdiv l2 2)) 3 ∧ zadd (zmul 4 (zdiv l2 2)) 3 < 264) ∧ ((m1 123 (zadd (zmul 4 (zdiv l2 2)) 3).toNat ≠ 0 → ∀ x2 : Int, x2 = zor l1 0 → ∀ x3 : Int, x3 = zadd l2 1 → zG (d + 1) M_Mo_life 4 [(2, Int.ofNat 122), (0, x2), (0, x3)] [] m1 Q) ∧ (m1 123 (zadd (zmul 4 (zdiv l2 2)) 3).toNat = 0 → zC d K_Mo_isTrap [(2, Int.ofNat 122), (0, zdiv l2 2), (0, zrem l2 2)] m1 (fun r4 m2 => ((r4 = 0 → ∀ x5 : Int, x5 = zor l1 0 → ∀ x6 : Int, x6 = zadd l2 1 → zG (d + 1) M_Mo_life 4 [(2, Int.ofNat 122), (0, x5), (0, x6)] [] m2 Q) ∧ (r4 ≠ 0 → ((0 ≤ zadd (zmul 4 (zdiv l2 2)) (zrem l2 2) ∧ zadd (zmul 4 (zdiv l2 2)) (zrem l2 2) < 264) ∧ ∀ x7 : Int, x7 = zor l1 (zshl 1 (m2 123 (zadd (zmul 4 (zdiv l2 2)) (zrem l2 2)).toNat)) → ∀ x8 : Int, x8 = zadd l2 1 → zG (d + 1) M_Mo_life 4 [(2, Int.ofNat 122), (0, x7), (0, x8)] [] m2 Q))))))))))) : zG (d + 1) M_Mo_life 4 [(2, Int.ofNat 122), (0, l1), (0, l2)] [] mem Q := by
  exact zent_ok ok_Mo_life (cuts := [4]) (f := 58) (And.intro rfl (zC.post hS (fun r1 m1 hr1 => (zge (fun c11 => (hr1.1 c11)) (fun c11 => (And.intro rfl (And.intro (by decide) (And.intro (zbd rfl rfl (hr1.2 c11).1) (zne (fun c10 => (fun x2 ex2 => (fun x3 ex3 => ((((hr1.2 c11).2.1 c10) x2 ex2) x3 ex3)))) (fun c10 => (And.intro (by decide) (And.intro (by decide) (And.intro rfl (zC.post ((hr1.2 c11).2.2 c10) (fun r4 m2 hr4 => (zeq (fun c9 => (fun x5 ex5 => (fun x6 ex6 => (((hr4.1 c9) x5 ex5) x6 ex6)))) (fun c9 => (And.intro rfl (And.intro (by decide) (And.intro (by decide) (And.intro (zbd rfl rfl (hr4.2 c9).1) (fun x7 ex7 => (fun x8 ex8 => (((hr4.2 c9).2 x7 ex7) x8 ex8))))))))))))))))))))))))
theorem v_Mo_isTrap {d : Nat} {a1 a2 : Int} {mem : zMem} {Q : Int → zMem → Prop}  (hS : zC d K_Mo_placeOf [(0, 0), (0, a1), (0, -4), (0, a2)] mem (fun r1 m1 => zC d K_Mo_isLost [(2, Int.ofNat 122), (0, r1)] m1 (fun r2 m2 => ((r2 = 0 ∨ r2 = 1) ∧ Q r2 m2)))) : zC (d + 1) K_Mo_isTrap [(2, Int.ofNat 122), (0, a1), (0, a2)] mem Q := by
  exact zC_of ok_Mo_isTrap (by decide +kernel) (Nat.le_of_ble_eq_true rfl) rfl (Or.inr (Or.inr (Or.inl rfl))) (zent_ok ok_Mo_isTrap (cuts := []) (f := 13) (zC.post hS (fun r1 m1 hr1 => (And.intro rfl (zC.post hr1 (fun r2 m2 hr2 => hr2))))))
theorem v_Mo_isLost {d : Nat} {a1 : Int} {mem : zMem} {Q : Int → zMem → Prop}  (hS : zC d K_Mo_mayTake [(2, Int.ofNat 122), (0, a1)] mem (fun r1 m1 => ((r1 ≠ 0 → Q 0 m1) ∧ (r1 = 0 → Q 1 m1)))) : zC (d + 1) K_Mo_isLost [(2, Int.ofNat 122), (0, a1)] mem Q := by
  exact zC_of ok_Mo_isLost (by decide +kernel) (Nat.le_of_ble_eq_true rfl) rfl (Or.inr (Or.inr (Or.inl rfl))) (zent_ok ok_Mo_isLost (cuts := []) (f := 13) (And.intro rfl (zC.post hS (fun r1 m1 hr1 => (zne (fun c2 => (And.intro (Or.inl rfl) (hr1.1 c2))) (fun c2 => (And.intro (Or.inr rfl) (hr1.2 c2))))))))
theorem v_Mo_trap {d : Nat} {a1 a2 : Int} {mem : zMem} {Q : Int → zMem → Prop}  (hS : zC d K_Mo_isRoom [(2, Int.ofNat 122), (0, a1)] mem (fun r1 m1 => ((r1 = 0 → Q (-1) m1) ∧ (r1 ≠ 0 → zC d K_Mo_isDoor [(2, Int.ofNat 122), (0, a2)] m1 (fun r2 m2 => ((r2 = 0 → Q (-1) m2) ∧ (r2 ≠ 0 → ((0 ≤ zmul 4 a2 ∧ zmul 4 a2 < 264) ∧ ((m2 123 (zmul 4 a2).toNat = a1 → ((0 ≤ zadd (zmul 4 a2) 3 ∧ zadd (zmul 4 a2) 3 < 264) ∧ ((m2 123 (zadd (zmul 4 a2) 3).toNat ≠ 1 → ((0 ≤ zadd (zmul 4 a2) 1 ∧ zadd (zmul 4 a2) 1 < 264) ∧ ((m2 123 (zadd (zmul 4 a2) 1).toNat ≠ a1 → zC d K_Mo_isTrap [(2, Int.ofNat 122), (0, a2), (0, 0)] m2 (fun r3 m3 => ((r3 = 0 → zG (d + 1) M_Mo_trap 93 [(9, 0), (9, 0), (9, 0)] [(0, 0)] m3 Q) ∧ (r3 ≠ 0 → zG (d + 1) M_Mo_trap 93 [(9, 0), (9, 0), (9, 0)] [(0, 1)] m3 Q)))) ∧ (m2 123 (zadd (zmul 4 a2) 1).toNat = a1 → zC d K_Mo_isTrap [(2, Int.ofNat 122), (0, a2), (0, 1)] m2 (fun r5 m4 => ((r5 = 0 → zG (d + 1) M_Mo_trap 93 [(9, 0), (9, 0), (9, 0)] [(0, 0)] m4 Q) ∧ (r5 ≠ 0 → zG (d + 1) M_Mo_trap 93 [(9, 0), (9, 0), (9, 0)] [(0, 1)] m4 Q))))))) ∧ (m2 123 (zadd (zmul 4 a2) 3).toNat = 1 → Q (-2) m2)))) ∧ (m2 123 (zmul 4 a2).toNat ≠ a1 → ((0 ≤ zadd (zmul 4 a2) 1 ∧ zadd (zmul 4 a2) 1 < 264) ∧ ((m2 123 (zadd (zmul 4 a2) 1).toNat = a1 → ((0 ≤ zadd (zmul 4 a2) 3 ∧ zadd (zmul 4 a2) 3 < 264) ∧ ((m2 123 (zadd (zmul 4 a2) 3).toNat ≠ 1 → ((0 ≤ zadd (zmul 4 a2) 1 ∧ zadd (zmul 4 a2) 1 < 264) ∧ ((m2 123 (zadd (zmul 4 a2) 1).toNat ≠ a1 → zC d K_Mo_isTrap [(2, Int.ofNat 122), (0, a2), (0, 0)] m2 (fun r9 m5 => ((r9 = 0 → zG (d + 1) M_Mo_trap 93 [(9, 0), (9, 0), (9, 0)] [(0, 0)] m5 Q) ∧ (r9 ≠ 0 → zG (d + 1) M_Mo_trap 93 [(9, 0), (9, 0), (9, 0)] [(0, 1)] m5 Q)))) ∧ (m2 123 (zadd (zmul 4 a2) 1).toNat = a1 → zC d K_Mo_isTrap [(2, Int.ofNat 122), (0, a2), (0, 1)] m2 (fun r11 m6 => ((r11 = 0 → zG (d + 1) M_Mo_trap 93 [(9, 0), (9, 0), (9, 0)] [(0, 0)] m6 Q) ∧ (r11 ≠ 0 → zG (d + 1) M_Mo_trap 93 [(9, 0), (9, 0), (9, 0)] [(0, 1)] m6 Q))))))) ∧ (m2 123 (zadd (zmul 4 a2) 3).toNat = 1 → Q (-2) m2)))) ∧ (m2 123 (zadd (zmul 4 a2) 1).toNat ≠ a1 → Q (-1) m2))))))))))))) : zC (d + 1) K_Mo_trap [(2, Int.ofNat 122), (0, a1), (0, a2)] mem Q := by
  exact zC_of ok_Mo_trap (by decide +kernel) (Nat.le_of_ble_eq_true rfl) rfl (Or.inr (Or.inl rfl)) (zent_ok ok_Mo_trap (cuts := [93]) (f := 66) (And.intro rfl (zC.post hS (fun r1 m1 hr1 => (zeq (fun c18 => (hr1.1 c18)) (fun c18 => (And.intro rfl (zC.post (hr1.2 c18) (fun r2 m2 hr2 => (zeq (fun c17 => (hr2.1 c17)) (fun c17 => (And.intro rfl (And.intro (zbd rfl rfl (hr2.2 c17).1) (zeq (fun c16 => (And.intro rfl (And.intro (zbd rfl rfl ((hr2.2 c17).2.1 c16).1) (zne (fun c8 => (And.intro rfl (And.intro (zbd rfl rfl (((hr2.2 c17).2.1 c16).2.1 c8).1) (zne (fun c7 => (And.intro rfl (zC.post ((((hr2.2 c17).2.1 c16).2.1 c8).2.1 c7) (fun r3 m3 hr3 => (zeq (fun c4 => (zG.mask [false, false, false] (hr3.1 c4))) (fun c4 => (zG.mask [false, false, false] (hr3.2 c4)))))))) (fun c7 => (And.intro rfl (zC.post ((((hr2.2 c17).2.1 c16).2.1 c8).2.2 c7) (fun r5 m4 hr5 => (zeq (fun c6 => (zG.mask [false, false, false] (hr5.1 c6))) (fun c6 => (zG.mask [false, false, false] (hr5.2 c6)))))))))))) (fun c8 => (((hr2.2 c17).2.1 c16).2.2 c8)))))) (fun c16 => (And.intro rfl (And.intro (zbd rfl rfl ((hr2.2 c17).2.2 c16).1) (zeq (fun c15 => (And.intro rfl (And.intro (zbd rfl rfl (((hr2.2 c17).2.2 c16).2.1 c15).1) (zne (fun c14 => (And.intro rfl (And.intro (zbd rfl rfl ((((hr2.2 c17).2.2 c16).2.1 c15).2.1 c14).1) (zne (fun c13 => (And.intro rfl (zC.post (((((hr2.2 c17).2.2 c16).2.1 c15).2.1 c14).2.1 c13) (fun r9 m5 hr9 => (zeq (fun c10 => (zG.mask [false, false, false] (hr9.1 c10))) (fun c10 => (zG.mask [false, false, false] (hr9.2 c10)))))))) (fun c13 => (And.intro rfl (zC.post (((((hr2.2 c17).2.2 c16).2.1 c15).2.1 c14).2.2 c13) (fun r11 m6 hr11 => (zeq (fun c12 => (zG.mask [false, false, false] (hr11.1 c12))) (fun c12 => (zG.mask [false, false, false] (hr11.2 c12)))))))))))) (fun c14 => ((((hr2.2 c17).2.2 c16).2.1 c15).2.2 c14)))))) (fun c15 => (((hr2.2 c17).2.2 c16).2.2 c15))))))))))))))))))))
theorem v_Mo_trap_93 {d : Nat} {s0 : Int} {mem : zMem} {Q : Int → zMem → Prop}  (hS : Q s0 mem) : zG (d + 1) M_Mo_trap 93 [(9, 0), (9, 0), (9, 0)] [(0, s0)] mem Q := by
  exact zent_ok ok_Mo_trap (cuts := [93]) (f := 66) hS
theorem v_Mo_secret {d : Nat}  {mem : zMem} {Q : Int → zMem → Prop}  (hS : zG (d + 1) M_Mo_secret 4 [(2, Int.ofNat 122), (0, 0), (0, 0)] [] mem Q) : zC (d + 1) K_Mo_secret [(2, Int.ofNat 122)] mem Q := by
  exact zC_of ok_Mo_secret (by decide +kernel) (Nat.le_of_ble_eq_true rfl) rfl (Or.inr (Or.inl rfl)) (zent_ok ok_Mo_secret (cuts := [4]) (f := 41) (zall (zall hS)))
theorem v_Mo_secret_4 {d : Nat} {l1 l2 : Int} {mem : zMem} {Q : Int → zMem → Prop}  (hS : ((mem 122 1 ≤ l2 → Q (zand (zsub (zshl 1 (mem 122 1)) 1) (zxor l1 (-1))) mem) ∧ (l2 < mem 122 1 → zC d K_Mo_newIn [(0, l2)] mem (fun r1 m1 => zC d K_Mo_laysFrom [(2, Int.ofNat 122), (0, r1)] m1 (fun r2 m2 => zC d K_Mo_foundRooms [(2, Int.ofNat 122)] m2 (fun r3 m3 => ∀ x4 : Int, x4 = zor l1 (zand r3 (zxor (zshl 1 l2) (-1))) → ∀ x5 : Int, x5 = zadd l2 1 → zG (d + 1) M_Mo_secret 4 [(2, Int.ofNat 122), (0, x4), (0, x5)] [] m3 Q)))))) : zG (d + 1) M_Mo_secret 4 [(2, Int.ofNat 122), (0, l1), (0, l2)] [] mem Q := by
  exact zent_ok ok_Mo_secret (cuts := [4]) (f := 41) (And.intro rfl (zge (fun c6 => (And.intro rfl (hS.1 c6))) (fun c6 => (zC.post (hS.2 c6) (fun r1 m1 hr1 => (And.intro rfl (zC.post hr1 (fun r2 m2 hr2 => (And.intro rfl (zC.post hr2 (fun r3 m3 hr3 => (fun x4 ex4 => (fun x5 ex5 => ((hr3 x4 ex4) x5 ex5))))))))))))))
theorem v_Mo_safe {d : Nat}  {mem : zMem} {Q : Int → zMem → Prop}  (hS : zC d K_Mo_isSafe [(2, Int.ofNat 122)] mem (fun r1 m1 => ((r1 = 0 → Q 0 m1) ∧ (r1 ≠ 0 → Q 1 m1)))) : zC (d + 1) K_Mo_safe [(2, Int.ofNat 122)] mem Q := by
  exact zC_of ok_Mo_safe (by decide +kernel) (Nat.le_of_ble_eq_true rfl) rfl (Or.inr (Or.inl rfl)) (zent_ok ok_Mo_safe (cuts := []) (f := 12) (And.intro rfl (zC.post hS (fun r1 m1 hr1 => (zeq (fun c2 => (hr1.1 c2)) (fun c2 => (hr1.2 c2)))))))
theorem v_Mo_isSafe {d : Nat}  {mem : zMem} {Q : Int → zMem → Prop}  (hS : zC d K_Mo_begins [(2, Int.ofNat 122)] mem (fun r1 m1 => zG (d + 1) M_Mo_isSafe 6 [(2, Int.ofNat 122), (0, 0)] [] m1 Q)) : zC (d + 1) K_Mo_isSafe [(2, Int.ofNat 122)] mem Q := by
  exact zC_of ok_Mo_isSafe (by decide +kernel) (Nat.le_of_ble_eq_true rfl) rfl (Or.inr (Or.inr (Or.inl rfl))) (zent_ok ok_Mo_isSafe (cuts := [6, 64]) (f := 63) (And.intro rfl (zC.post hS (fun r1 m1 hr1 => (zall hr1)))))
theorem v_Mo_isSafe_6 {d : Nat} {l1 : Int} {mem : zMem} {Q : Int → zMem → Prop}  (hS : zC d K_Mo_doorMany [(2, Int.ofNat 122)] mem (fun r1 m1 => ((zmul 2 r1 ≤ l1 → zC d K_Mo_spreads [(2, Int.ofNat 122)] m1 (fun r2 m2 => zG (d + 1) M_Mo_isSafe 64 [(2, Int.ofNat 122), (0, 0)] [] m2 Q)) ∧ (l1 < zmul 2 r1 → ((0 ≤ zadd (zmul 4 (zdiv l1 2)) 3 ∧ zadd (zmul 4 (zdiv l1 2)) 3 < 264) ∧ ((m1 123 (zadd (zmul 4 (zdiv l1 2)) 3).toNat ≠ 0 → ∀ x3 : Int, x3 = zadd l1 1 → zG (d + 1) M_Mo_isSafe 6 [(2, Int.ofNat 122), (0, x3)] [] m1 Q) ∧ (m1 123 (zadd (zmul 4 (zdiv l1 2)) 3).toNat = 0 → zC d K_Mo_placeOf [(0, 0), (0, zdiv l1 2), (0, -4), (0, zrem l1 2)] m1 (fun r4 m3 => zC d K_Mo_finds [(2, Int.ofNat 122), (0, r4), (0, 0), (0, -4), (0, -4)] m3 (fun r5 m4 => ∀ x6 : Int, x6 = zadd l1 1 → zG (d + 1) M_Mo_isSafe 6 [(2, Int.ofNat 122), (0, x6)] [] m4 Q))))))))) : zG (d + 1) M_Mo_isSafe 6 [(2, Int.ofNat 122), (0, l1)] [] mem Q := by
  exact zent_ok ok_Mo_isSafe (cuts := [6, 64]) (f := 63) (And.intro rfl (zC.post hS (fun r1 m1 hr1 => (zge (fun c8 => (And.intro rfl (zC.post (hr1.1 c8) (fun r2 m2 hr2 => (zall hr2))))) (fun c8 => (And.intro rfl (And.intro (by decide) (And.intro (zbd rfl rfl (hr1.2 c8).1) (zne (fun c7 => (fun x3 ex3 => (((hr1.2 c8).2.1 c7) x3 ex3))) (fun c7 => (And.intro (by decide) (And.intro (by decide) (zC.post ((hr1.2 c8).2.2 c7) (fun r4 m3 hr4 => (And.intro rfl (zC.post hr4 (fun r5 m4 hr5 => (fun x6 ex6 => (hr5 x6 ex6)))))))))))))))))))
theorem v_Mo_isSafe_64 {d : Nat} {l1 : Int} {mem : zMem} {Q : Int → zMem → Prop}  (hS : ((mem 122 24 ≤ l1 → Q 1 mem) ∧ (l1 < mem 122 24 → ((0 ≤ l1 ∧ l1 < 570) ∧ zC d K_Mo_isLost [(2, Int.ofNat 122), (0, mem 131 l1.toNat)] mem (fun r1 m1 => ((r1 = 0 → ∀ x2 : Int, x2 = zadd l1 1 → zG (d + 1) M_Mo_isSafe 64 [(2, Int.ofNat 122), (0, x2)] [] m1 Q) ∧ (r1 ≠ 0 → Q 0 m1))))))) : zG (d + 1) M_Mo_isSafe 64 [(2, Int.ofNat 122), (0, l1)] [] mem Q := by
  exact zent_ok ok_Mo_isSafe (cuts := [6, 64]) (f := 63) (And.intro rfl (zge (fun c4 => (And.intro (Or.inr rfl) (hS.1 c4))) (fun c4 => (And.intro rfl (And.intro (zbd rfl rfl (hS.2 c4).1) (And.intro rfl (zC.post (hS.2 c4).2 (fun r1 m1 hr1 => (zeq (fun c3 => (fun x2 ex2 => ((hr1.1 c3) x2 ex2))) (fun c3 => (And.intro (Or.inl rfl) (hr1.2 c3))))))))))))
theorem v_Mo_round {d : Nat} {a1 a2 : Int} {mem : zMem} {Q : Int → zMem → Prop}  (hS : zC d K_Mo_isOne [(2, Int.ofNat 122), (0, a1)] mem (fun r1 m1 => ((r1 = 0 → Q (-1) m1) ∧ (r1 ≠ 0 → zC d K_Mo_in [(1, a2), (1, 0), (1, zsub (zshl 1 (m1 122 1)) 1)] m1 (fun r2 m2 => ((r2 = 0 → Q (-1) m2) ∧ (r2 ≠ 0 → zC d K_Mo_bitsOf [(0, a2)] m2 (fun r3 m3 => ((r3 ≤ 5 → zG (d + 1) M_Mo_round 38 [(2, Int.ofNat 122), (0, a1), (0, a2), (0, 0), (9, 0), (9, 0), (9, 0), (9, 0)] [] m3 Q) ∧ (5 < r3 → Q (-1) m3)))))))))) : zC (d + 1) K_Mo_round [(2, Int.ofNat 122), (0, a1), (0, a2)] mem Q := by
  exact zC_of ok_Mo_round (by decide +kernel) (Nat.le_of_ble_eq_true rfl) rfl (Or.inr (Or.inl rfl)) (zent_ok ok_Mo_round (cuts := [38, 126]) (f := 102) (And.intro rfl (zC.post hS (fun r1 m1 hr1 => (zeq (fun c6 => (hr1.1 c6)) (fun c6 => (And.intro rfl (zC.post (hr1.2 c6) (fun r2 m2 hr2 => (zeq (fun c5 => (hr2.1 c5)) (fun c5 => (zC.post (hr2.2 c5) (fun r3 m3 hr3 => (zle (fun c4 => (zall (hr3.1 c4))) (fun c4 => (hr3.2 c4))))))))))))))))
theorem v_Mo_round_38 {d : Nat} {l1 l2 l3 : Int} {mem : zMem} {Q : Int → zMem → Prop}  (hS : ((570 ≤ l3 → zC d K_Mo_placeOfOne [(2, Int.ofNat 122), (0, l1)] mem (fun r1 m1 => ((0 ≤ zadd 57 (zmul 3 l1) ∧ zadd 57 (zmul 3 l1) < 264) ∧ ∀ x2 : Int, x2 = m1 123 (zadd 57 (zmul 3 l1)).toNat → zC d K_Mo_bitsOf [(0, l2)] m1 (fun r3 m2 => ∀ x4 : Int, x4 = zsub (zshl 1 r3) 1 → zC d K_Mo_askedBit [(0, x2), (0, l2)] m2 (fun r5 m3 => ((0 ≤ r1 ∧ r1 < 570) ∧ ∀ m4 : zMem, m4 = zup m3 133 r1.toNat (zshl 1 r5) → ((0 ≤ r1 ∧ r1 < 570) ∧ ((0 ≤ r1 ∧ r1 < 570) ∧ ∀ m5 : zMem, m5 = zup m4 132 r1.toNat (m4 133 r1.toNat) → zG (d + 1) M_Mo_round 126 [(2, Int.ofNat 122), (9, 0), (0, l2), (9, 0), (0, x2), (0, x4), (0, 0), (0, 1)] [] m5 Q)))))))) ∧ (l3 < 570 → ((0 ≤ l3 ∧ l3 < 570) ∧ ∀ m6 : zMem, m6 = zup mem 132 l3.toNat 0 → ((0 ≤ l3 ∧ l3 < 570) ∧ ∀ m7 : zMem, m7 = zup m6 133 l3.toNat 0 → ∀ x6 : Int, x6 = zadd l3 1 → zG (d + 1) M_Mo_round 38 [(2, Int.ofNat 122), (0, l1), (0, l2), (0, x6), (9, 0), (9, 0), (9, 0), (9, 0)] [] m7 Q))))) : zG (d + 1) M_Mo_round 38 [(2, Int.ofNat 122), (0, l1), (0, l2), (0, l3), (9, 0), (9, 0), (9, 0), (9, 0)] [] mem Q := by
  exact zent_ok ok_Mo_round (cuts := [38, 126]) (f := 102) (zge (fun c7 => (And.intro rfl (zC.post (hS.1 c7) (fun r1 m1 hr1 => (zall (And.intro rfl (And.intro (zbd rfl rfl hr1.1) (fun x2 ex2 => (zC.post (hr1.2 x2 ex2) (fun r3 m2 hr3 => (fun x4 ex4 => (And.intro rfl (zC.post (hr3 x4 ex4) (fun r5 m3 hr5 => (And.intro (zbd rfl rfl hr5.1) (fun m4 em4 => (And.intro rfl (And.intro rfl (And.intro (zbd rfl rfl (hr5.2 m4 em4).1) (And.intro (zbd rfl rfl (hr5.2 m4 em4).2.1) (fun m5 em5 => (zall (zall (zG.mask [true, false, true, false, true, true, true, true] ((hr5.2 m4 em4).2.2 m5 em5))))))))))))))))))))))))) (fun c7 => (And.intro rfl (And.intro (zbd rfl rfl (hS.2 c7).1) (fun m6 em6 => (And.intro rfl (And.intro (zbd rfl rfl ((hS.2 c7).2 m6 em6).1) (fun m7 em7 => (fun x6 ex6 => ((((hS.2 c7).2 m6 em6).2 m7 em7) x6 ex6))))))))))
theorem v_Mo_round_126 {d : Nat} {l2 l4 l5 l6 l7 : Int} {mem : zMem} {Q : Int → zMem → Prop}  (hS : ((l7 = 0 → Q (-4) mem) ∧ (l7 ≠ 0 → zC d K_Mo_isRound [(2, Int.ofNat 122), (0, l4), (0, l5)] mem (fun r1 m1 => ((r1 = 0 → zC d K_Mo_goesRound [(2, Int.ofNat 122), (0, l2)] m1 (fun r2 m2 => ∀ x3 : Int, x3 = zadd l6 1 → zG (d + 1) M_Mo_round 126 [(2, Int.ofNat 122), (9, 0), (0, l2), (9, 0), (0, l4), (0, l5), (0, x3), (0, r2)] [] m2 Q)) ∧ (r1 ≠ 0 → Q l6 m1)))))) : zG (d + 1) M_Mo_round 126 [(2, Int.ofNat 122), (9, 0), (0, l2), (9, 0), (0, l4), (0, l5), (0, l6), (0, l7)] [] mem Q := by
  exact zent_ok ok_Mo_round (cuts := [38, 126]) (f := 102) (zeq (fun c5 => (hS.1 c5)) (fun c5 => (And.intro rfl (zC.post (hS.2 c5) (fun r1 m1 hr1 => (zeq (fun c4 => (And.intro rfl (zC.post (hr1.1 c4) (fun r2 m2 hr2 => (zall (fun x3 ex3 => (hr2 x3 ex3))))))) (fun c4 => (hr1.2 c4))))))))
theorem v_Mo_askedBit {d : Nat} {a0 a1 : Int} {mem : zMem} {Q : Int → zMem → Prop}  (hS : zG (d + 1) M_Mo_askedBit 4 [(0, a0), (0, a1), (0, 1), (0, 0)] [] mem Q) : zC (d + 1) K_Mo_askedBit [(0, a0), (0, a1)] mem Q := by
  exact zC_of ok_Mo_askedBit (by decide +kernel) (Nat.le_of_ble_eq_true rfl) rfl (Or.inr (Or.inl rfl)) (zent_ok ok_Mo_askedBit (cuts := [4]) (f := 38) (zall (zall hS)))
theorem v_Mo_askedBit_4 {d : Nat} {l0 l1 l2 l3 : Int} {mem : zMem} {Q : Int → zMem → Prop}  (hS : ((l0 ≤ l3 → ((zand (zshr l1 l0) 1 ≠ 1 → Q 0 mem) ∧ (zand (zshr l1 l0) 1 = 1 → Q l2 mem))) ∧ (l3 < l0 → ((zand (zshr l1 l3) 1 ≠ 1 → ∀ x2 : Int, x2 = zadd l3 1 → zG (d + 1) M_Mo_askedBit 4 [(0, l0), (0, l1), (0, l2), (0, x2)] [] mem Q) ∧ (zand (zshr l1 l3) 1 = 1 → ∀ x3 : Int, x3 = zmul 2 l2 → ∀ x4 : Int, x4 = zadd l3 1 → zG (d + 1) M_Mo_askedBit 4 [(0, l0), (0, l1), (0, x3), (0, x4)] [] mem Q))))) : zG (d + 1) M_Mo_askedBit 4 [(0, l0), (0, l1), (0, l2), (0, l3)] [] mem Q := by
  exact zent_ok ok_Mo_askedBit (cuts := [4]) (f := 38) (zge (fun c6 => (zne (fun c1 => ((hS.1 c6).1 c1)) (fun c1 => ((hS.1 c6).2 c1)))) (fun c6 => (zne (fun c5 => (zall (fun x2 ex2 => (((hS.2 c6).1 c5) x2 ex2)))) (fun c5 => (fun x3 ex3 => (fun x4 ex4 => ((((hS.2 c6).2 c5) x3 ex3) x4 ex4)))))))
theorem v_Mo_isRound {d : Nat} {a1 a2 : Int} {mem : zMem} {Q : Int → zMem → Prop}  (hS : zG (d + 1) M_Mo_isRound 5 [(2, Int.ofNat 122), (0, a1), (0, a2), (0, 0), (0, 0)] [] mem Q) : zC (d + 1) K_Mo_isRound [(2, Int.ofNat 122), (0, a1), (0, a2)] mem Q := by
  exact zC_of ok_Mo_isRound (by decide +kernel) (Nat.le_of_ble_eq_true rfl) rfl (Or.inr (Or.inr (Or.inl rfl))) (zent_ok ok_Mo_isRound (cuts := [5]) (f := 37) (zall (zall hS)))
theorem v_Mo_isRound_5 {d : Nat} {l1 l2 l3 l4 : Int} {mem : zMem} {Q : Int → zMem → Prop}  (hS : ((570 ≤ l4 → ((l3 = 0 ∨ l3 = 1) ∧ Q l3 mem)) ∧ (l4 < 570 → ((l3 ≠ 0 → ∀ x1 : Int, x1 = zadd l4 1 → zG (d + 1) M_Mo_isRound 5 [(2, Int.ofNat 122), (0, l1), (0, l2), (0, 1), (0, x1)] [] mem Q) ∧ (l3 = 0 → ((0 ≤ l4 ∧ l4 < 570) ∧ ((zand (zshr (mem 133 l4.toNat) l2) 1 ≠ 1 → ∀ x2 : Int, x2 = zadd l4 1 → zG (d + 1) M_Mo_isRound 5 [(2, Int.ofNat 122), (0, l1), (0, l2), (0, 0), (0, x2)] [] mem Q) ∧ (zand (zshr (mem 133 l4.toNat) l2) 1 = 1 → zC d K_Mo_roomAt [(2, Int.ofNat 122), (0, l4)] mem (fun r3 m1 => ((r3 ≠ l1 → ∀ x4 : Int, x4 = zadd l4 1 → zG (d + 1) M_Mo_isRound 5 [(2, Int.ofNat 122), (0, l1), (0, l2), (0, 0), (0, x4)] [] m1 Q) ∧ (r3 = l1 → ∀ x5 : Int, x5 = zadd l4 1 → zG (d + 1) M_Mo_isRound 5 [(2, Int.ofNat 122), (0, l1), (0, l2), (0, 1), (0, x5)] [] m1 Q))))))))))) : zG (d + 1) M_Mo_isRound 5 [(2, Int.ofNat 122), (0, l1), (0, l2), (0, l3), (0, l4)] [] mem Q := by
  exact zent_ok ok_Mo_isRound (cuts := [5]) (f := 37) (zge (fun c9 => (hS.1 c9)) (fun c9 => (zne (fun c8 => (zall (fun x1 ex1 => (((hS.2 c9).1 c8) x1 ex1)))) (fun c8 => (And.intro rfl (And.intro (zbd rfl rfl ((hS.2 c9).2 c8).1) (zne (fun c7 => (zall (fun x2 ex2 => ((((hS.2 c9).2 c8).2.1 c7) x2 ex2)))) (fun c7 => (And.intro rfl (zC.post (((hS.2 c9).2 c8).2.2 c7) (fun r3 m1 hr3 => (zne (fun c6 => (zall (fun x4 ex4 => ((hr3.1 c6) x4 ex4)))) (fun c6 => (zall (fun x5 ex5 => ((hr3.2 c6) x5 ex5))))))))))))))))
theorem v_Mo_goesRound {d : Nat} {a1 : Int} {mem : zMem} {Q : Int → zMem → Prop}  (hS : zG (d + 1) M_Mo_goesRound 4 [(2, Int.ofNat 122), (0, a1), (0, 0), (0, 0), (9, 0), (9, 0), (9, 0)] [] mem Q) : zC (d + 1) K_Mo_goesRound [(2, Int.ofNat 122), (0, a1)] mem Q := by
  exact zC_of ok_Mo_goesRound (by decide +kernel) (Nat.le_of_ble_eq_true rfl) rfl (Or.inr (Or.inr (Or.inl rfl))) (zent_ok ok_Mo_goesRound (cuts := [4, 26, 36, 154]) (f := 106) (zall (zall hS)))
theorem v_Mo_goesRound_4 {d : Nat} {l1 l2 l3 : Int} {mem : zMem} {Q : Int → zMem → Prop}  (hS : ((570 ≤ l3 → zG (d + 1) M_Mo_goesRound 26 [(2, Int.ofNat 122), (0, l1), (0, l2), (0, 0), (9, 0), (9, 0), (9, 0)] [] mem Q) ∧ (l3 < 570 → ((0 ≤ l3 ∧ l3 < 570) ∧ ∀ m1 : zMem, m1 = zup mem 134 l3.toNat 0 → ∀ x1 : Int, x1 = zadd l3 1 → zG (d + 1) M_Mo_goesRound 4 [(2, Int.ofNat 122), (0, l1), (0, l2), (0, x1), (9, 0), (9, 0), (9, 0)] [] m1 Q)))) : zG (d + 1) M_Mo_goesRound 4 [(2, Int.ofNat 122), (0, l1), (0, l2), (0, l3), (9, 0), (9, 0), (9, 0)] [] mem Q := by
  exact zent_ok ok_Mo_goesRound (cuts := [4, 26, 36, 154]) (f := 106) (zge (fun c2 => (zall (hS.1 c2))) (fun c2 => (And.intro rfl (And.intro (zbd rfl rfl (hS.2 c2).1) (fun m1 em1 => (fun x1 ex1 => (((hS.2 c2).2 m1 em1) x1 ex1)))))))
theorem v_Mo_goesRound_26 {d : Nat} {l1 l2 l3 : Int} {mem : zMem} {Q : Int → zMem → Prop}  (hS : ((570 ≤ l3 → zG (d + 1) M_Mo_goesRound 154 [(2, Int.ofNat 122), (9, 0), (0, l2), (0, 0), (9, 0), (9, 0), (9, 0)] [] mem Q) ∧ (l3 < 570 → zG (d + 1) M_Mo_goesRound 36 [(2, Int.ofNat 122), (0, l1), (0, l2), (0, l3), (0, 0), (9, 0), (9, 0)] [] mem Q))) : zG (d + 1) M_Mo_goesRound 26 [(2, Int.ofNat 122), (0, l1), (0, l2), (0, l3), (9, 0), (9, 0), (9, 0)] [] mem Q := by
  exact zent_ok ok_Mo_goesRound (cuts := [4, 26, 36, 154]) (f := 106) (zge (fun c1 => (zall (zG.mask [true, false, true, true, false, false, false] (hS.1 c1)))) (fun c1 => (zall (hS.2 c1))))
theorem v_Mo_goesRound_154 {d : Nat} {l2 l3 : Int} {mem : zMem} {Q : Int → zMem → Prop}  (hS : ((570 ≤ l3 → ((l2 = 0 ∨ l2 = 1) ∧ Q l2 mem)) ∧ (l3 < 570 → ((0 ≤ l3 ∧ l3 < 570) ∧ ((0 ≤ l3 ∧ l3 < 570) ∧ ∀ m1 : zMem, m1 = zup mem 133 l3.toNat (mem 134 l3.toNat) → ∀ x1 : Int, x1 = zadd l3 1 → zG (d + 1) M_Mo_goesRound 154 [(2, Int.ofNat 122), (9, 0), (0, l2), (0, x1), (9, 0), (9, 0), (9, 0)] [] m1 Q))))) : zG (d + 1) M_Mo_goesRound 154 [(2, Int.ofNat 122), (9, 0), (0, l2), (0, l3), (9, 0), (9, 0), (9, 0)] [] mem Q := by
  exact zent_ok ok_Mo_goesRound (cuts := [4, 26, 36, 154]) (f := 106) (zge (fun c2 => (hS.1 c2)) (fun c2 => (And.intro rfl (And.intro rfl (And.intro (zbd rfl rfl (hS.2 c2).1) (And.intro (zbd rfl rfl (hS.2 c2).2.1) (fun m1 em1 => (fun x1 ex1 => (((hS.2 c2).2.2 m1 em1) x1 ex1)))))))))
theorem v_Mo_goesRound_36 {d : Nat} {l1 l2 l3 l4 : Int} {mem : zMem} {Q : Int → zMem → Prop}  (hS : zC d K_Mo_doorMany [(2, Int.ofNat 122)] mem (fun r1 m1 => ((r1 ≤ l4 → ∀ x2 : Int, x2 = zadd l3 1 → zG (d + 1) M_Mo_goesRound 26 [(2, Int.ofNat 122), (0, l1), (0, l2), (0, x2), (9, 0), (9, 0), (9, 0)] [] m1 Q) ∧ (l4 < r1 → ((0 ≤ l3 ∧ l3 < 570) ∧ ((m1 133 l3.toNat = 0 → ∀ x3 : Int, x3 = zadd l3 1 → zG (d + 1) M_Mo_goesRound 26 [(2, Int.ofNat 122), (0, l1), (0, l2), (0, x3), (9, 0), (9, 0), (9, 0)] [] m1 Q) ∧ (m1 133 l3.toNat ≠ 0 → zC d K_Mo_stepped [(2, Int.ofNat 122), (0, l3), (0, l4)] m1 (fun r4 m2 => ((r4 = -4 → ∀ x5 : Int, x5 = zadd l4 1 → zG (d + 1) M_Mo_goesRound 36 [(2, Int.ofNat 122), (0, l1), (0, l2), (0, l3), (0, x5), (9, 0), (9, 0)] [] m2 Q) ∧ (r4 ≠ -4 → ((0 ≤ l3 ∧ l3 < 570) ∧ zC d K_Mo_roomAt [(2, Int.ofNat 122), (0, r4)] m2 (fun r6 m3 => zC d K_Mo_askedBit [(0, r6), (0, l1)] m3 (fun r7 m4 => zC d K_Mo_withRoom [(0, m2 133 l3.toNat), (0, r7)] m4 (fun r8 m5 => ((0 ≤ r4 ∧ r4 < 570) ∧ ∀ x9 : Int, x9 = zand r8 (zxor (m5 132 r4.toNat) (-1)) → ((0 ≤ r4 ∧ r4 < 570) ∧ ((0 ≤ r4 ∧ r4 < 570) ∧ ∀ m6 : zMem, m6 = zup m5 132 r4.toNat (zor (m5 132 r4.toNat) x9) → ((0 ≤ r4 ∧ r4 < 570) ∧ ((0 ≤ r4 ∧ r4 < 570) ∧ ∀ m7 : zMem, m7 = zup m6 134 r4.toNat (zor (m6 134 r4.toNat) x9) → ((l2 ≠ 0 → ∀ x10 : Int, x10 = zadd l4 1 → zG (d + 1) M_Mo_goesRound 36 [(2, Int.ofNat 122), (0, l1), (0, 1), (0, l3), (0, x10), (9, 0), (9, 0)] [] m7 Q) ∧ (l2 = 0 → ((x9 = 0 → ∀ x11 : Int, x11 = zadd l4 1 → zG (d + 1) M_Mo_goesRound 36 [(2, Int.ofNat 122), (0, l1), (0, 0), (0, l3), (0, x11), (9, 0), (9, 0)] [] m7 Q) ∧ (x9 ≠ 0 → ∀ x12 : Int, x12 = zadd l4 1 → zG (d + 1) M_Mo_goesRound 36 [(2, Int.ofNat 122), (0, l1), (0, 1), (0, l3), (0, x12), (9, 0), (9, 0)] [] m7 Q))))))))))))))))))))))) : zG (d + 1) M_Mo_goesRound 36 [(2, Int.ofNat 122), (0, l1), (0, l2), (0, l3), (0, l4), (9, 0), (9, 0)] [] mem Q := by
  exact zent_ok ok_Mo_goesRound (cuts := [4, 26, 36, 154]) (f := 106) (And.intro rfl (zC.post hS (fun r1 m1 hr1 => (zge (fun c17 => (fun x2 ex2 => (zG.mask [true, true, true, true, false, false, false] ((hr1.1 c17) x2 ex2)))) (fun c17 => (And.intro rfl (And.intro (zbd rfl rfl (hr1.2 c17).1) (zeq (fun c16 => (fun x3 ex3 => (zG.mask [true, true, true, true, false, false, false] (((hr1.2 c17).2.1 c16) x3 ex3)))) (fun c16 => (And.intro rfl (zC.post ((hr1.2 c17).2.2 c16) (fun r4 m2 hr4 => (zall (zeq (fun c15 => (fun x5 ex5 => (zG.mask [true, true, true, true, true, false, false] ((hr4.1 c15) x5 ex5)))) (fun c15 => (And.intro rfl (And.intro (zbd rfl rfl (hr4.2 c15).1) (And.intro rfl (zC.post (hr4.2 c15).2 (fun r6 m3 hr6 => (zC.post hr6 (fun r7 m4 hr7 => (zC.post hr7 (fun r8 m5 hr8 => (And.intro rfl (And.intro (zbd rfl rfl hr8.1) (fun x9 ex9 => (And.intro rfl (And.intro (zbd rfl rfl (hr8.2 x9 ex9).1) (And.intro (zbd rfl rfl (hr8.2 x9 ex9).2.1) (fun m6 em6 => (And.intro rfl (And.intro (zbd rfl rfl ((hr8.2 x9 ex9).2.2 m6 em6).1) (And.intro (zbd rfl rfl ((hr8.2 x9 ex9).2.2 m6 em6).2.1) (fun m7 em7 => (zne (fun c14 => (zall (fun x10 ex10 => (zG.mask [true, true, true, true, true, false, false] (((((hr8.2 x9 ex9).2.2 m6 em6).2.2 m7 em7).1 c14) x10 ex10))))) (fun c14 => (zeq (fun c13 => (zall (fun x11 ex11 => (zG.mask [true, true, true, true, true, false, false] ((((((hr8.2 x9 ex9).2.2 m6 em6).2.2 m7 em7).2 c14).1 c13) x11 ex11))))) (fun c13 => (zall (fun x12 ex12 => (zG.mask [true, true, true, true, true, false, false] ((((((hr8.2 x9 ex9).2.2 m6 em6).2.2 m7 em7).2 c14).2 c13) x12 ex12)))))))))))))))))))))))))))))))))))))))))))
theorem v_Mo_withRoom {d : Nat} {a0 a1 : Int} {mem : zMem} {Q : Int → zMem → Prop}  (hS : zG (d + 1) M_Mo_withRoom 4 [(0, a0), (0, a1), (0, 0), (0, 0)] [] mem Q) : zC (d + 1) K_Mo_withRoom [(0, a0), (0, a1)] mem Q := by
  exact zC_of ok_Mo_withRoom (by decide +kernel) (Nat.le_of_ble_eq_true rfl) rfl (Or.inr (Or.inl rfl)) (zent_ok ok_Mo_withRoom (cuts := [4]) (f := 33) (zall (zall hS)))
theorem v_Mo_withRoom_4 {d : Nat} {l0 l1 l2 l3 : Int} {mem : zMem} {Q : Int → zMem → Prop}  (hS : ((32 ≤ l3 → Q l2 mem) ∧ (l3 < 32 → ((zand (zshr l0 l3) 1 ≠ 1 → ∀ x1 : Int, x1 = zor l2 0 → ∀ x2 : Int, x2 = zadd l3 1 → zG (d + 1) M_Mo_withRoom 4 [(0, l0), (0, l1), (0, x1), (0, x2)] [] mem Q) ∧ (zand (zshr l0 l3) 1 = 1 → ∀ x3 : Int, x3 = zor l2 (zshl 1 (zor l3 l1)) → ∀ x4 : Int, x4 = zadd l3 1 → zG (d + 1) M_Mo_withRoom 4 [(0, l0), (0, l1), (0, x3), (0, x4)] [] mem Q))))) : zG (d + 1) M_Mo_withRoom 4 [(0, l0), (0, l1), (0, l2), (0, l3)] [] mem Q := by
  exact zent_ok ok_Mo_withRoom (cuts := [4]) (f := 33) (zge (fun c6 => (hS.1 c6)) (fun c6 => (zne (fun c5 => (fun x1 ex1 => (fun x2 ex2 => ((((hS.2 c6).1 c5) x1 ex1) x2 ex2)))) (fun c5 => (fun x3 ex3 => (fun x4 ex4 => ((((hS.2 c6).2 c5) x3 ex3) x4 ex4)))))))
theorem v_Mo_tour {d : Nat} {a1 a2 : Int} {mem : zMem} {Q : Int → zMem → Prop}  (hS : zC d K_Mo_isRoom [(2, Int.ofNat 122), (0, a1)] mem (fun r1 m1 => ((r1 = 0 → Q (-1) m1) ∧ (r1 ≠ 0 → ((a2 = 0 → zC d K_Mo_layOpens [(2, Int.ofNat 122)] m1 (fun r2 m2 => ((m2 122 29 ≤ 8 → zC d K_Mo_layTours [(2, Int.ofNat 122)] m2 (fun r3 m3 => zC d K_Mo_newIn [(0, a1)] m3 (fun r4 m4 => zC d K_Mo_onward [(2, Int.ofNat 122), (0, r4), (0, 0)] m4 (fun r5 m5 => ((a2 ≠ 0 → ((r5 = 0 → Q (-4) m5) ∧ (r5 ≠ 0 → ((zsub a2 10 < m5 122 29 → zG (d + 1) M_Mo_tour 97 [(2, Int.ofNat 122), (9, 0), (0, a2), (0, r4), (0, 0), (9, 0), (0, -4), (0, 0), (9, 0)] [] m5 Q) ∧ (m5 122 29 ≤ zsub a2 10 → Q (-4) m5))))) ∧ (a2 = 0 → Q r5 m5)))))) ∧ (8 < m2 122 29 → Q (-2) m2)))) ∧ (a2 ≠ 0 → zC d K_Mo_in [(1, a2), (1, 10), (1, 17)] m1 (fun r10 m6 => ((r10 ≠ 0 → zC d K_Mo_layOpens [(2, Int.ofNat 122)] m6 (fun r11 m7 => ((m7 122 29 ≤ 8 → zC d K_Mo_layTours [(2, Int.ofNat 122)] m7 (fun r12 m8 => zC d K_Mo_newIn [(0, a1)] m8 (fun r13 m9 => zC d K_Mo_onward [(2, Int.ofNat 122), (0, r13), (0, 0)] m9 (fun r14 m10 => ((a2 ≠ 0 → ((r14 = 0 → Q (-4) m10) ∧ (r14 ≠ 0 → ((zsub a2 10 < m10 122 29 → zG (d + 1) M_Mo_tour 97 [(2, Int.ofNat 122), (9, 0), (0, a2), (0, r13), (0, 0), (9, 0), (0, -4), (0, 0), (9, 0)] [] m10 Q) ∧ (m10 122 29 ≤ zsub a2 10 → Q (-4) m10))))) ∧ (a2 = 0 → Q r14 m10)))))) ∧ (8 < m7 122 29 → Q (-2) m7)))) ∧ (r10 = 0 → Q (-1) m6))))))))) : zC (d + 1) K_Mo_tour [(2, Int.ofNat 122), (0, a1), (0, a2)] mem Q := by
  exact zC_of ok_Mo_tour (by decide +kernel) (Nat.le_of_ble_eq_true rfl) rfl (Or.inr (Or.inl rfl)) (zent_ok ok_Mo_tour (cuts := [97, 109]) (f := 129) (And.intro rfl (zC.post hS (fun r1 m1 hr1 => (zeq (fun c21 => (hr1.1 c21)) (fun c21 => (zeq (fun c20 => (And.intro rfl (zC.post ((hr1.2 c21).1 c20) (fun r2 m2 hr2 => (And.intro rfl (zle (fun c9 => (And.intro rfl (zC.post (hr2.1 c9) (fun r3 m3 hr3 => (zC.post hr3 (fun r4 m4 hr4 => (zall (zall (And.intro rfl (zC.post hr4 (fun r5 m5 hr5 => (zall (zne (fun c8 => (zeq (fun c7 => ((hr5.1 c8).1 c7)) (fun c7 => (And.intro rfl (zlt (fun c6 => (zall (zall (zG.mask [true, false, true, true, true, false, true, true, false] (((hr5.1 c8).2 c7).1 c6))))) (fun c6 => (((hr5.1 c8).2 c7).2 c6))))))) (fun c8 => (hr5.2 c8))))))))))))))) (fun c9 => (hr2.2 c9)))))))) (fun c20 => (zC.post ((hr1.2 c21).2 c20) (fun r10 m6 hr10 => (zne (fun c19 => (And.intro rfl (zC.post (hr10.1 c19) (fun r11 m7 hr11 => (And.intro rfl (zle (fun c18 => (And.intro rfl (zC.post (hr11.1 c18) (fun r12 m8 hr12 => (zC.post hr12 (fun r13 m9 hr13 => (zall (zall (And.intro rfl (zC.post hr13 (fun r14 m10 hr14 => (zall (zne (fun c17 => (zeq (fun c16 => ((hr14.1 c17).1 c16)) (fun c16 => (And.intro rfl (zlt (fun c15 => (zall (zall (zG.mask [true, false, true, true, true, false, true, true, false] (((hr14.1 c17).2 c16).1 c15))))) (fun c15 => (((hr14.1 c17).2 c16).2 c15))))))) (fun c17 => (hr14.2 c17))))))))))))))) (fun c18 => (hr11.2 c18)))))))) (fun c19 => (hr10.2 c19)))))))))))))
theorem v_Mo_tour_97 {d : Nat} {l2 l3 l4 l6 l7 : Int} {mem : zMem} {Q : Int → zMem → Prop}  (hS : ((zsub l2 10 < l7 → Q l6 mem) ∧ (l7 ≤ zsub l2 10 → zG (d + 1) M_Mo_tour 109 [(2, Int.ofNat 122), (9, 0), (0, l2), (0, l3), (0, l4), (9, 0), (9, 0), (0, l7), (0, 0)] [] mem Q))) : zG (d + 1) M_Mo_tour 97 [(2, Int.ofNat 122), (9, 0), (0, l2), (0, l3), (0, l4), (9, 0), (0, l6), (0, l7), (9, 0)] [] mem Q := by
  exact zent_ok ok_Mo_tour (cuts := [97, 109]) (f := 129) (zgt (fun c1 => (hS.1 c1)) (fun c1 => (zall (zG.mask [true, false, true, true, true, false, false, true, true] (hS.2 c1)))))
theorem v_Mo_tour_109 {d : Nat} {l2 l3 l4 l7 l8 : Int} {mem : zMem} {Q : Int → zMem → Prop}  (hS : ((zand (zshr l4 l8) 1 = 1 → ∀ x1 : Int, x1 = zadd l8 1 → zG (d + 1) M_Mo_tour 109 [(2, Int.ofNat 122), (9, 0), (0, l2), (0, l3), (0, l4), (9, 0), (9, 0), (0, l7), (0, x1)] [] mem Q) ∧ (zand (zshr l4 l8) 1 ≠ 1 → ((0 ≤ l8 ∧ l8 < 14) ∧ zC d K_Mo_stepped [(2, Int.ofNat 122), (0, l3), (0, mem 135 l8.toNat)] mem (fun r2 m1 => ((r2 = -4 → ∀ x3 : Int, x3 = zadd l8 1 → zG (d + 1) M_Mo_tour 109 [(2, Int.ofNat 122), (9, 0), (0, l2), (0, l3), (0, l4), (9, 0), (9, 0), (0, l7), (0, x3)] [] m1 Q) ∧ (r2 ≠ -4 → ((0 ≤ l8 ∧ l8 < 14) ∧ zC d K_Mo_stepped [(2, Int.ofNat 122), (0, l3), (0, m1 135 l8.toNat)] m1 (fun r4 m2 => ((0 ≤ zadd (zadd (zmul 30 (zor l4 (zshl 1 l8))) (zmul 2 l8)) (zrem (zdiv r4 15) 2) ∧ zadd (zadd (zmul 30 (zor l4 (zshl 1 l8))) (zmul 2 l8)) (zrem (zdiv r4 15) 2) < 7680) ∧ ((m2 136 (zadd (zadd (zmul 30 (zor l4 (zshl 1 l8))) (zmul 2 l8)) (zrem (zdiv r4 15) 2)).toNat ≠ 0 → ((0 ≤ l8 ∧ l8 < 14) ∧ ∀ x5 : Int, x5 = m2 135 l8.toNat → zC d K_Mo_stepped [(2, Int.ofNat 122), (0, l3), (0, x5)] m2 (fun r6 m3 => ∀ x7 : Int, x7 = zor l4 (zshl 1 l8) → ∀ x8 : Int, x8 = zadd l7 1 → zG (d + 1) M_Mo_tour 97 [(2, Int.ofNat 122), (9, 0), (0, l2), (0, r6), (0, x7), (9, 0), (0, x5), (0, x8), (9, 0)] [] m3 Q))) ∧ (m2 136 (zadd (zadd (zmul 30 (zor l4 (zshl 1 l8))) (zmul 2 l8)) (zrem (zdiv r4 15) 2)).toNat = 0 → ∀ x9 : Int, x9 = zadd l8 1 → zG (d + 1) M_Mo_tour 109 [(2, Int.ofNat 122), (9, 0), (0, l2), (0, l3), (0, l4), (9, 0), (9, 0), (0, l7), (0, x9)] [] m2 Q)))))))))))) : zG (d + 1) M_Mo_tour 109 [(2, Int.ofNat 122), (9, 0), (0, l2), (0, l3), (0, l4), (9, 0), (9, 0), (0, l7), (0, l8)] [] mem Q := by
  exact zent_ok ok_Mo_tour (cuts := [97, 109]) (f := 129) (zeq (fun c12 => (fun x1 ex1 => ((hS.1 c12) x1 ex1))) (fun c12 => (And.intro rfl (And.intro (zbd rfl rfl (hS.2 c12).1) (And.intro rfl (zC.post (hS.2 c12).2 (fun r2 m1 hr2 => (zeq (fun c11 => (fun x3 ex3 => ((hr2.1 c11) x3 ex3))) (fun c11 => (And.intro rfl (And.intro rfl (And.intro (zbd rfl rfl (hr2.2 c11).1) (And.intro rfl (zC.post (hr2.2 c11).2 (fun r4 m2 hr4 => (And.intro (by decide) (And.intro (by decide) (And.intro (zbd rfl rfl hr4.1) (zne (fun c10 => (And.intro rfl (And.intro (zbd rfl rfl (hr4.2.1 c10).1) (fun x5 ex5 => (And.intro rfl (zC.post ((hr4.2.1 c10).2 x5 ex5) (fun r6 m3 hr6 => (zall (fun x7 ex7 => (fun x8 ex8 => (zG.mask [true, false, true, true, true, false, true, true, false] ((hr6 x7 ex7) x8 ex8)))))))))))) (fun c10 => (fun x9 ex9 => ((hr4.2.2 c10) x9 ex9))))))))))))))))))))))
theorem v_Mo_layOpens {d : Nat}  {mem : zMem} {Q : Int → zMem → Prop}  (hS : ∀ m1 : zMem, m1 = zup mem 122 29 0 → zG (d + 1) M_Mo_layOpens 7 [(2, Int.ofNat 122), (0, 0)] [] m1 Q) : zC (d + 1) K_Mo_layOpens [(2, Int.ofNat 122)] mem Q := by
  exact zC_of ok_Mo_layOpens (by decide +kernel) (Nat.le_of_ble_eq_true rfl) rfl (Or.inl rfl) (zent_ok ok_Mo_layOpens (cuts := [7]) (f := 38) (And.intro rfl (fun m1 em1 => (zall (hS m1 em1)))))
theorem v_Mo_layOpens_7 {d : Nat} {l1 : Int} {mem : zMem} {Q : Int → zMem → Prop}  (hS : zC d K_Mo_doorMany [(2, Int.ofNat 122)] mem (fun r1 m1 => ((r1 ≤ l1 → Q 0 m1) ∧ (l1 < r1 → ((0 ≤ zadd (zmul 4 l1) 3 ∧ zadd (zmul 4 l1) 3 < 264) ∧ ((m1 123 (zadd (zmul 4 l1) 3).toNat ≠ 0 → ∀ x2 : Int, x2 = zadd l1 1 → zG (d + 1) M_Mo_layOpens 7 [(2, Int.ofNat 122), (0, x2)] [] m1 Q) ∧ (m1 123 (zadd (zmul 4 l1) 3).toNat = 0 → ((0 ≤ m1 122 29 ∧ m1 122 29 < 14) ∧ ∀ m2 : zMem, m2 = zup m1 135 (m1 122 29).toNat l1 → ∀ m3 : zMem, m3 = zup m2 122 29 (zadd (m2 122 29) 1) → ∀ x3 : Int, x3 = zadd l1 1 → zG (d + 1) M_Mo_layOpens 7 [(2, Int.ofNat 122), (0, x3)] [] m3 Q)))))))) : zG (d + 1) M_Mo_layOpens 7 [(2, Int.ofNat 122), (0, l1)] [] mem Q := by
  exact zent_ok ok_Mo_layOpens (cuts := [7]) (f := 38) (And.intro rfl (zC.post hS (fun r1 m1 hr1 => (zge (fun c5 => (hr1.1 c5)) (fun c5 => (And.intro rfl (And.intro (zbd rfl rfl (hr1.2 c5).1) (zne (fun c4 => (fun x2 ex2 => (((hr1.2 c5).2.1 c4) x2 ex2))) (fun c4 => (And.intro rfl (And.intro rfl (And.intro (zbd rfl rfl ((hr1.2 c5).2.2 c4).1) (fun m2 em2 => (And.intro rfl (And.intro rfl (fun m3 em3 => (fun x3 ex3 => (((((hr1.2 c5).2.2 c4).2 m2 em2) m3 em3) x3 ex3))))))))))))))))))
theorem v_Mo_layTours {d : Nat}  {mem : zMem} {Q : Int → zMem → Prop}  (hS : ∀ x1 : Int, x1 = zsub (zshl 1 (mem 122 29)) 1 → zG (d + 1) M_Mo_layTours 9 [(2, Int.ofNat 122), (0, x1), (9, 0)] [] mem Q) : zC (d + 1) K_Mo_layTours [(2, Int.ofNat 122)] mem Q := by
  exact zC_of ok_Mo_layTours (by decide +kernel) (Nat.le_of_ble_eq_true rfl) rfl (Or.inl rfl) (zent_ok ok_Mo_layTours (cuts := [9, 15]) (f := 61) (And.intro rfl (fun x1 ex1 => (hS x1 ex1))))
theorem v_Mo_layTours_9 {d : Nat} {l1 : Int} {mem : zMem} {Q : Int → zMem → Prop}  (hS : ((l1 ≤ 0 → Q 0 mem) ∧ (0 < l1 → zG (d + 1) M_Mo_layTours 15 [(2, Int.ofNat 122), (0, l1), (0, 0)] [] mem Q))) : zG (d + 1) M_Mo_layTours 9 [(2, Int.ofNat 122), (0, l1), (9, 0)] [] mem Q := by
  exact zent_ok ok_Mo_layTours (cuts := [9, 15]) (f := 61) (zle (fun c1 => (hS.1 c1)) (fun c1 => (zall (hS.2 c1))))
theorem v_Mo_layTours_15 {d : Nat} {l1 l2 : Int} {mem : zMem} {Q : Int → zMem → Prop}  (hS : ((zmul 2 (mem 122 29) ≤ l2 → ∀ x1 : Int, x1 = zadd l1 (-1) → zG (d + 1) M_Mo_layTours 9 [(2, Int.ofNat 122), (0, x1), (9, 0)] [] mem Q) ∧ (l2 < zmul 2 (mem 122 29) → ((zand (zshr l1 (zdiv l2 2)) 1 ≠ 1 → ((0 ≤ zadd (zmul 30 l1) l2 ∧ zadd (zmul 30 l1) l2 < 7680) ∧ ∀ m1 : zMem, m1 = zup mem 136 (zadd (zmul 30 l1) l2).toNat 0 → ∀ x2 : Int, x2 = zadd l2 1 → zG (d + 1) M_Mo_layTours 15 [(2, Int.ofNat 122), (0, l1), (0, x2)] [] m1 Q)) ∧ (zand (zshr l1 (zdiv l2 2)) 1 = 1 → ((0 ≤ zdiv l2 2 ∧ zdiv l2 2 < 14) ∧ zC d K_Mo_placeOf [(0, 0), (0, mem 135 (zdiv l2 2).toNat), (0, -4), (0, zrem l2 2)] mem (fun r3 m2 => zC d K_Mo_onward [(2, Int.ofNat 122), (0, r3), (0, l1)] m2 (fun r4 m3 => ((0 ≤ zadd (zmul 30 l1) l2 ∧ zadd (zmul 30 l1) l2 < 7680) ∧ ∀ m4 : zMem, m4 = zup m3 136 (zadd (zmul 30 l1) l2).toNat r4 → ∀ x5 : Int, x5 = zadd l2 1 → zG (d + 1) M_Mo_layTours 15 [(2, Int.ofNat 122), (0, l1), (0, x5)] [] m4 Q))))))))) : zG (d + 1) M_Mo_layTours 15 [(2, Int.ofNat 122), (0, l1), (0, l2)] [] mem Q := by
  exact zent_ok ok_Mo_layTours (cuts := [9, 15]) (f := 61) (And.intro rfl (zge (fun c7 => (fun x1 ex1 => (zG.mask [true, true, false] ((hS.1 c7) x1 ex1)))) (fun c7 => (And.intro rfl (And.intro (by decide) (zne (fun c6 => (And.intro (zbd rfl rfl ((hS.2 c7).1 c6).1) (fun m1 em1 => (fun x2 ex2 => ((((hS.2 c7).1 c6).2 m1 em1) x2 ex2))))) (fun c6 => (And.intro rfl (And.intro (by decide) (And.intro (zbd rfl rfl ((hS.2 c7).2 c6).1) (And.intro (by decide) (zC.post ((hS.2 c7).2 c6).2 (fun r3 m2 hr3 => (And.intro rfl (zC.post hr3 (fun r4 m3 hr4 => (And.intro (zbd rfl rfl hr4.1) (fun m4 em4 => (fun x5 ex5 => ((hr4.2 m4 em4) x5 ex5))))))))))))))))))))
theorem v_Mo_onward {d : Nat} {a1 a2 : Int} {mem : zMem} {Q : Int → zMem → Prop}  (hS : ((a2 ≠ zsub (zshl 1 (mem 122 29)) 1 → zG (d + 1) M_Mo_onward 19 [(2, Int.ofNat 122), (0, a1), (0, a2), (0, 0), (0, 0), (9, 0)] [] mem Q) ∧ (a2 = zsub (zshl 1 (mem 122 29)) 1 → Q 1 mem))) : zC (d + 1) K_Mo_onward [(2, Int.ofNat 122), (0, a1), (0, a2)] mem Q := by
  exact zC_of ok_Mo_onward (by decide +kernel) (Nat.le_of_ble_eq_true rfl) rfl (Or.inr (Or.inl rfl)) (zent_ok ok_Mo_onward (cuts := [19]) (f := 72) (And.intro rfl (zne (fun c1 => (zall (zall (hS.1 c1)))) (fun c1 => (hS.2 c1)))))
theorem v_Mo_onward_19 {d : Nat} {l1 l2 l3 l4 : Int} {mem : zMem} {Q : Int → zMem → Prop}  (hS : ((mem 122 29 ≤ l4 → Q l3 mem) ∧ (l4 < mem 122 29 → ((zand (zshr l2 l4) 1 ≠ 1 → ((0 ≤ l4 ∧ l4 < 14) ∧ zC d K_Mo_stepped [(2, Int.ofNat 122), (0, l1), (0, mem 135 l4.toNat)] mem (fun r1 m1 => ((r1 ≠ -4 → ((0 ≤ zadd (zadd (zmul 30 (zor l2 (zshl 1 l4))) (zmul 2 l4)) (zrem (zdiv r1 15) 2) ∧ zadd (zadd (zmul 30 (zor l2 (zshl 1 l4))) (zmul 2 l4)) (zrem (zdiv r1 15) 2) < 7680) ∧ ∀ x2 : Int, x2 = zadd l3 (m1 136 (zadd (zadd (zmul 30 (zor l2 (zshl 1 l4))) (zmul 2 l4)) (zrem (zdiv r1 15) 2)).toNat) → ∀ x3 : Int, x3 = zadd l4 1 → zG (d + 1) M_Mo_onward 19 [(2, Int.ofNat 122), (0, l1), (0, l2), (0, x2), (0, x3), (9, 0)] [] m1 Q)) ∧ (r1 = -4 → ∀ x4 : Int, x4 = zadd l3 0 → ∀ x5 : Int, x5 = zadd l4 1 → zG (d + 1) M_Mo_onward 19 [(2, Int.ofNat 122), (0, l1), (0, l2), (0, x4), (0, x5), (9, 0)] [] m1 Q))))) ∧ (zand (zshr l2 l4) 1 = 1 → ∀ x7 : Int, x7 = zadd l3 0 → ∀ x8 : Int, x8 = zadd l4 1 → zG (d + 1) M_Mo_onward 19 [(2, Int.ofNat 122), (0, l1), (0, l2), (0, x7), (0, x8), (9, 0)] [] mem Q))))) : zG (d + 1) M_Mo_onward 19 [(2, Int.ofNat 122), (0, l1), (0, l2), (0, l3), (0, l4), (9, 0)] [] mem Q := by
  exact zent_ok ok_Mo_onward (cuts := [19]) (f := 72) (And.intro rfl (zge (fun c10 => (hS.1 c10)) (fun c10 => (zne (fun c9 => (And.intro rfl (And.intro (zbd rfl rfl ((hS.2 c10).1 c9).1) (And.intro rfl (zC.post ((hS.2 c10).1 c9).2 (fun r1 m1 hr1 => (zall (zne (fun c6 => (And.intro rfl (And.intro (by decide) (And.intro (by decide) (And.intro (zbd rfl rfl (hr1.1 c6).1) (fun x2 ex2 => (fun x3 ex3 => (zG.mask [true, true, true, true, true, false] (((hr1.1 c6).2 x2 ex2) x3 ex3))))))))) (fun c6 => (fun x4 ex4 => (fun x5 ex5 => (zG.mask [true, true, true, true, true, false] (((hr1.2 c6) x4 ex4) x5 ex5))))))))))))) (fun c9 => (zall (zne (fun q => absurd q (by decide)) (fun _ => (fun x7 ex7 => (fun x8 ex8 => (zG.mask [true, true, true, true, true, false] ((((hS.2 c10).2 c9) x7 ex7) x8 ex8))))))))))))
theorem v_Mo_talk {d : Nat} {a1 a2 a3 : Int} {mem : zMem} {Q : Int → zMem → Prop}  (hS : zC d K_Mo_isOne [(2, Int.ofNat 122), (0, a1)] mem (fun r1 m1 => ((r1 = 0 → Q (-1) m1) ∧ (r1 ≠ 0 → zC d K_Mo_isOne [(2, Int.ofNat 122), (0, a2)] m1 (fun r2 m2 => ((r2 = 0 → Q (-1) m2) ∧ (r2 ≠ 0 → ((a1 = a2 → Q (-1) m2) ∧ (a1 ≠ a2 → zC d K_Mo_in [(1, a3), (1, 1), (1, 5)] m2 (fun r3 m3 => ((r3 ≠ 0 → ((m3 123 73 ≠ 1 → zC d K_Mo_beginsTwo [(2, Int.ofNat 122)] m3 (fun r4 m4 => zC d K_Mo_placeOfOne [(2, Int.ofNat 122), (0, a1)] m4 (fun r5 m5 => ∀ x6 : Int, x6 = zdiv r5 15 → zC d K_Mo_placeOfOne [(2, Int.ofNat 122), (0, a2)] m5 (fun r7 m6 => ∀ x8 : Int, x8 = zdiv r7 15 → zC d K_Mo_roomAt [(2, Int.ofNat 122), (0, zmul 15 x6)] m6 (fun r9 m7 => zC d K_Mo_roomAt [(2, Int.ofNat 122), (0, zmul 15 x8)] m7 (fun r10 m8 => ((r9 ≠ r10 → zC d K_Mo_findsTwo [(2, Int.ofNat 122), (0, zadd (zmul 6 (zadd (zmul 38 x6) x8)) 0), (0, 0)] m8 (fun r11 m9 => zG (d + 1) M_Mo_talk 119 [(2, Int.ofNat 122), (9, 0), (9, 0), (0, a3), (9, 0), (9, 0), (0, 0), (9, 0)] [] m9 Q)) ∧ (r9 = r10 → zC d K_Mo_findsTwo [(2, Int.ofNat 122), (0, zadd (zmul 6 (zadd (zmul 38 x6) x8)) 1), (0, 0)] m8 (fun r12 m10 => zG (d + 1) M_Mo_talk 119 [(2, Int.ofNat 122), (9, 0), (9, 0), (0, a3), (9, 0), (9, 0), (0, 0), (9, 0)] [] m10 Q))))))))) ∧ (m3 123 73 = 1 → Q (-2) m3))) ∧ (r3 = 0 → Q (-1) m3)))))))))))) : zC (d + 1) K_Mo_talk [(2, Int.ofNat 122), (0, a1), (0, a2), (0, a3)] mem Q := by
  exact zC_of ok_Mo_talk (by decide +kernel) (Nat.le_of_ble_eq_true rfl) rfl (Or.inr (Or.inl rfl)) (zent_ok ok_Mo_talk (cuts := [119]) (f := 100) (And.intro rfl (zC.post hS (fun r1 m1 hr1 => (zeq (fun c18 => (hr1.1 c18)) (fun c18 => (And.intro rfl (zC.post (hr1.2 c18) (fun r2 m2 hr2 => (zeq (fun c17 => (hr2.1 c17)) (fun c17 => (zeq (fun c16 => ((hr2.2 c17).1 c16)) (fun c16 => (zC.post ((hr2.2 c17).2 c16) (fun r3 m3 hr3 => (zne (fun c15 => (And.intro rfl (And.intro (zbd rfl rfl (by decide)) (zne (fun c14 => (And.intro rfl (zC.post ((hr3.1 c15).1 c14) (fun r4 m4 hr4 => (And.intro rfl (zC.post hr4 (fun r5 m5 hr5 => (And.intro (by decide) (fun x6 ex6 => (And.intro rfl (zC.post (hr5 x6 ex6) (fun r7 m6 hr7 => (And.intro (by decide) (fun x8 ex8 => (And.intro rfl (zC.post (hr7 x8 ex8) (fun r9 m7 hr9 => (And.intro rfl (zC.post hr9 (fun r10 m8 hr10 => (zne (fun c13 => (And.intro rfl (zC.post (hr10.1 c13) (fun r11 m9 hr11 => (zall (zG.mask [true, false, false, true, false, false, true, false] hr11)))))) (fun c13 => (And.intro rfl (zC.post (hr10.2 c13) (fun r12 m10 hr12 => (zall (zG.mask [true, false, false, true, false, false, true, false] hr12))))))))))))))))))))))))))) (fun c14 => ((hr3.1 c15).2 c14)))))) (fun c15 => (hr3.2 c15))))))))))))))))))
theorem v_Mo_talk_119 {d : Nat} {l3 l6 : Int} {mem : zMem} {Q : Int → zMem → Prop}  (hS : ((mem 122 33 ≤ l6 → Q (-4) mem) ∧ (l6 < mem 122 33 → ((0 ≤ l6 ∧ l6 < 8664) ∧ ∀ x1 : Int, x1 = mem 138 l6.toNat → ((zrem x1 6 ≠ l3 → zC d K_Mo_layTalk [(2, Int.ofNat 122), (0, x1), (0, l3)] mem (fun r2 m1 => ∀ x3 : Int, x3 = zadd l6 1 → zG (d + 1) M_Mo_talk 119 [(2, Int.ofNat 122), (9, 0), (9, 0), (0, l3), (9, 0), (9, 0), (0, x3), (9, 0)] [] m1 Q)) ∧ (zrem x1 6 = l3 → ((0 ≤ x1 ∧ x1 < 8664) ∧ Q (mem 137 x1.toNat) mem))))))) : zG (d + 1) M_Mo_talk 119 [(2, Int.ofNat 122), (9, 0), (9, 0), (0, l3), (9, 0), (9, 0), (0, l6), (9, 0)] [] mem Q := by
  exact zent_ok ok_Mo_talk (cuts := [119]) (f := 100) (And.intro rfl (zge (fun c5 => (hS.1 c5)) (fun c5 => (And.intro rfl (And.intro (zbd rfl rfl (hS.2 c5).1) (fun x1 ex1 => (And.intro (by decide) (zne (fun c4 => (And.intro rfl (zC.post (((hS.2 c5).2 x1 ex1).1 c4) (fun r2 m1 hr2 => (fun x3 ex3 => (zG.mask [true, false, false, true, false, false, true, false] (hr2 x3 ex3))))))) (fun c4 => (And.intro rfl (And.intro (zbd rfl rfl (((hS.2 c5).2 x1 ex1).2 c4).1) (((hS.2 c5).2 x1 ex1).2 c4).2)))))))))))
theorem v_Mo_beginsTwo {d : Nat}  {mem : zMem} {Q : Int → zMem → Prop}  (hS : ∀ m1 : zMem, m1 = zup mem 122 33 0 → zG (d + 1) M_Mo_beginsTwo 7 [(2, Int.ofNat 122), (0, 0)] [] m1 Q) : zC (d + 1) K_Mo_beginsTwo [(2, Int.ofNat 122)] mem Q := by
  exact zC_of ok_Mo_beginsTwo (by decide +kernel) (Nat.le_of_ble_eq_true rfl) rfl (Or.inl rfl) (zent_ok ok_Mo_beginsTwo (cuts := [7]) (f := 21) (And.intro rfl (fun m1 em1 => (zall (hS m1 em1)))))
theorem v_Mo_beginsTwo_7 {d : Nat} {l1 : Int} {mem : zMem} {Q : Int → zMem → Prop}  (hS : ((8664 ≤ l1 → Q 0 mem) ∧ (l1 < 8664 → ((0 ≤ l1 ∧ l1 < 8664) ∧ ∀ m1 : zMem, m1 = zup mem 137 l1.toNat (-4) → ∀ x1 : Int, x1 = zadd l1 1 → zG (d + 1) M_Mo_beginsTwo 7 [(2, Int.ofNat 122), (0, x1)] [] m1 Q)))) : zG (d + 1) M_Mo_beginsTwo 7 [(2, Int.ofNat 122), (0, l1)] [] mem Q := by
  exact zent_ok ok_Mo_beginsTwo (cuts := [7]) (f := 21) (zge (fun c2 => (hS.1 c2)) (fun c2 => (And.intro rfl (And.intro (zbd rfl rfl (hS.2 c2).1) (fun m1 em1 => (fun x1 ex1 => (((hS.2 c2).2 m1 em1) x1 ex1)))))))
theorem v_Mo_findsTwo {d : Nat} {a1 a2 : Int} {mem : zMem} {Q : Int → zMem → Prop}  (hS : ((0 ≤ a1 ∧ a1 < 8664) ∧ ((mem 137 a1.toNat ≠ -4 → Q 0 mem) ∧ (mem 137 a1.toNat = -4 → ((0 ≤ a1 ∧ a1 < 8664) ∧ ∀ m1 : zMem, m1 = zup mem 137 a1.toNat a2 → ((0 ≤ m1 122 33 ∧ m1 122 33 < 8664) ∧ ∀ m2 : zMem, m2 = zup m1 138 (m1 122 33).toNat a1 → ∀ m3 : zMem, m3 = zup m2 122 33 (zadd (m2 122 33) 1) → Q 0 m3)))))) : zC (d + 1) K_Mo_findsTwo [(2, Int.ofNat 122), (0, a1), (0, a2)] mem Q := by
  exact zC_of ok_Mo_findsTwo (by decide +kernel) (Nat.le_of_ble_eq_true rfl) rfl (Or.inl rfl) (zent_ok ok_Mo_findsTwo (cuts := []) (f := 29) (And.intro rfl (And.intro (zbd rfl rfl hS.1) (zne (fun c1 => (hS.2.1 c1)) (fun c1 => (And.intro rfl (And.intro (zbd rfl rfl (hS.2.2 c1).1) (fun m1 em1 => (And.intro rfl (And.intro rfl (And.intro (zbd rfl rfl ((hS.2.2 c1).2 m1 em1).1) (fun m2 em2 => (And.intro rfl (And.intro rfl (fun m3 em3 => ((((hS.2.2 c1).2 m1 em1).2 m2 em2) m3 em3))))))))))))))))
theorem v_Mo_layTalk {d : Nat} {a1 a2 : Int} {mem : zMem} {Q : Int → zMem → Prop}  (hS : ∀ x1 : Int, x1 = zmul 15 (zdiv (zdiv a1 6) 38) → ∀ x2 : Int, x2 = zmul 15 (zrem (zdiv a1 6) 38) → zG (d + 1) M_Mo_layTalk 26 [(2, Int.ofNat 122), (0, a1), (0, a2), (0, x1), (0, x2), (0, 0), (9, 0), (9, 0), (9, 0), (9, 0)] [] mem Q) : zC (d + 1) K_Mo_layTalk [(2, Int.ofNat 122), (0, a1), (0, a2)] mem Q := by
  exact zC_of ok_Mo_layTalk (by decide +kernel) (Nat.le_of_ble_eq_true rfl) rfl (Or.inl rfl) (zent_ok ok_Mo_layTalk (cuts := [26, 48]) (f := 97) (And.intro (by decide) (And.intro (by decide) (fun x1 ex1 => (And.intro (by decide) (And.intro (by decide) (fun x2 ex2 => (zall ((hS x1 ex1) x2 ex2)))))))))
theorem v_Mo_layTalk_26 {d : Nat} {l1 l2 l3 l4 l5 : Int} {mem : zMem} {Q : Int → zMem → Prop}  (hS : zC d K_Mo_stays [(2, Int.ofNat 122), (0, l3)] mem (fun r1 m1 => ((r1 ≤ l5 → Q 0 m1) ∧ (l5 < r1 → zC d K_Mo_doneBy [(2, Int.ofNat 122), (0, l3), (0, l5)] m1 (fun r2 m2 => zG (d + 1) M_Mo_layTalk 48 [(2, Int.ofNat 122), (0, l1), (0, l2), (0, l3), (0, l4), (0, l5), (0, r2), (0, 0), (9, 0), (9, 0)] [] m2 Q))))) : zG (d + 1) M_Mo_layTalk 26 [(2, Int.ofNat 122), (0, l1), (0, l2), (0, l3), (0, l4), (0, l5), (9, 0), (9, 0), (9, 0), (9, 0)] [] mem Q := by
  exact zent_ok ok_Mo_layTalk (cuts := [26, 48]) (f := 97) (And.intro rfl (zC.post hS (fun r1 m1 hr1 => (zge (fun c3 => (hr1.1 c3)) (fun c3 => (And.intro rfl (zC.post (hr1.2 c3) (fun r2 m2 hr2 => (zall (zall hr2))))))))))
theorem v_Mo_layTalk_48 {d : Nat} {l1 l2 l3 l4 l5 l6 l7 : Int} {mem : zMem} {Q : Int → zMem → Prop}  (hS : zC d K_Mo_stays [(2, Int.ofNat 122), (0, l4)] mem (fun r1 m1 => ((r1 ≤ l7 → ∀ x2 : Int, x2 = zadd l5 1 → zG (d + 1) M_Mo_layTalk 26 [(2, Int.ofNat 122), (0, l1), (0, l2), (0, l3), (0, l4), (0, x2), (9, 0), (9, 0), (9, 0), (9, 0)] [] m1 Q) ∧ (l7 < r1 → ((l6 = -4 → ∀ x3 : Int, x3 = zadd l5 1 → zG (d + 1) M_Mo_layTalk 26 [(2, Int.ofNat 122), (0, l1), (0, l2), (0, l3), (0, l4), (0, x3), (9, 0), (9, 0), (9, 0), (9, 0)] [] m1 Q) ∧ (l6 ≠ -4 → zC d K_Mo_doneBy [(2, Int.ofNat 122), (0, l4), (0, l7)] m1 (fun r4 m2 => ((r4 = -4 → ∀ x5 : Int, x5 = zadd l7 1 → zG (d + 1) M_Mo_layTalk 48 [(2, Int.ofNat 122), (0, l1), (0, l2), (0, l3), (0, l4), (0, l5), (0, l6), (0, x5), (9, 0), (9, 0)] [] m2 Q) ∧ (r4 ≠ -4 → zC d K_Mo_roomAt [(2, Int.ofNat 122), (0, l6)] m2 (fun r6 m3 => zC d K_Mo_roomAt [(2, Int.ofNat 122), (0, r4)] m3 (fun r7 m4 => ((r6 ≠ r7 → ((0 ≤ l2 → ((0 ≤ l1 ∧ l1 < 8664) ∧ zC d K_Mo_findsTwo [(2, Int.ofNat 122), (0, zadd (zmul 6 (zadd (zmul 38 (zdiv l6 15)) (zdiv r4 15))) 0), (0, zadd (m4 137 l1.toNat) 1)] m4 (fun r8 m5 => ∀ x9 : Int, x9 = zadd l7 1 → zG (d + 1) M_Mo_layTalk 48 [(2, Int.ofNat 122), (0, l1), (0, l2), (0, l3), (0, l4), (0, l5), (0, l6), (0, x9), (9, 0), (9, 0)] [] m5 Q))) ∧ (l2 < 0 → ((0 ≤ l1 ∧ l1 < 8664) ∧ zC d K_Mo_findsTwo [(2, Int.ofNat 122), (0, zadd (zmul 6 (zadd (zmul 38 (zdiv l6 15)) (zdiv r4 15))) l2), (0, zadd (m4 137 l1.toNat) 1)] m4 (fun r10 m6 => ∀ x11 : Int, x11 = zadd l7 1 → zG (d + 1) M_Mo_layTalk 48 [(2, Int.ofNat 122), (0, l1), (0, l2), (0, l3), (0, l4), (0, l5), (0, l6), (0, x11), (9, 0), (9, 0)] [] m6 Q))))) ∧ (r6 = r7 → ∀ x13 : Int, x13 = zadd (zrem l1 6) 1 → ((x13 ≤ l2 → ((0 ≤ l1 ∧ l1 < 8664) ∧ zC d K_Mo_findsTwo [(2, Int.ofNat 122), (0, zadd (zmul 6 (zadd (zmul 38 (zdiv l6 15)) (zdiv r4 15))) x13), (0, zadd (m4 137 l1.toNat) 1)] m4 (fun r14 m7 => ∀ x15 : Int, x15 = zadd l7 1 → zG (d + 1) M_Mo_layTalk 48 [(2, Int.ofNat 122), (0, l1), (0, l2), (0, l3), (0, l4), (0, l5), (0, l6), (0, x15), (9, 0), (9, 0)] [] m7 Q))) ∧ (l2 < x13 → ((0 ≤ l1 ∧ l1 < 8664) ∧ zC d K_Mo_findsTwo [(2, Int.ofNat 122), (0, zadd (zmul 6 (zadd (zmul 38 (zdiv l6 15)) (zdiv r4 15))) l2), (0, zadd (m4 137 l1.toNat) 1)] m4 (fun r16 m8 => ∀ x17 : Int, x17 = zadd l7 1 → zG (d + 1) M_Mo_layTalk 48 [(2, Int.ofNat 122), (0, l1), (0, l2), (0, l3), (0, l4), (0, l5), (0, l6), (0, x17), (9, 0), (9, 0)] [] m8 Q))))))))))))))))) : zG (d + 1) M_Mo_layTalk 48 [(2, Int.ofNat 122), (0, l1), (0, l2), (0, l3), (0, l4), (0, l5), (0, l6), (0, l7), (9, 0), (9, 0)] [] mem Q := by
  exact zent_ok ok_Mo_layTalk (cuts := [26, 48]) (f := 97) (And.intro rfl (zC.post hS (fun r1 m1 hr1 => (zge (fun c22 => (fun x2 ex2 => (zG.mask [true, true, true, true, true, true, false, false, false, false] ((hr1.1 c22) x2 ex2)))) (fun c22 => (zeq (fun c21 => (fun x3 ex3 => (zG.mask [true, true, true, true, true, true, false, false, false, false] (((hr1.2 c22).1 c21) x3 ex3)))) (fun c21 => (And.intro rfl (zC.post ((hr1.2 c22).2 c21) (fun r4 m2 hr4 => (zall (zeq (fun c20 => (fun x5 ex5 => (zG.mask [true, true, true, true, true, true, true, true, false, false] ((hr4.1 c20) x5 ex5)))) (fun c20 => (And.intro rfl (zC.post (hr4.2 c20) (fun r6 m3 hr6 => (And.intro rfl (zC.post hr6 (fun r7 m4 hr7 => (zne (fun c19 => (zall (And.intro (by decide) (And.intro (by decide) (zle (fun c12 => (And.intro rfl (And.intro (zbd rfl rfl ((hr7.1 c19).1 c12).1) (And.intro rfl (zC.post ((hr7.1 c19).1 c12).2 (fun r8 m5 hr8 => (fun x9 ex9 => (zG.mask [true, true, true, true, true, true, true, true, false, false] (hr8 x9 ex9))))))))) (fun c12 => (And.intro rfl (And.intro (zbd rfl rfl ((hr7.1 c19).2 c12).1) (And.intro rfl (zC.post ((hr7.1 c19).2 c12).2 (fun r10 m6 hr10 => (fun x11 ex11 => (zG.mask [true, true, true, true, true, true, true, true, false, false] (hr10 x11 ex11)))))))))))))) (fun c19 => (And.intro (by decide) (fun x13 ex13 => (And.intro (by decide) (And.intro (by decide) (zle (fun c18 => (And.intro rfl (And.intro (zbd rfl rfl (((hr7.2 c19) x13 ex13).1 c18).1) (And.intro rfl (zC.post (((hr7.2 c19) x13 ex13).1 c18).2 (fun r14 m7 hr14 => (fun x15 ex15 => (zG.mask [true, true, true, true, true, true, true, true, false, false] (hr14 x15 ex15))))))))) (fun c18 => (And.intro rfl (And.intro (zbd rfl rfl (((hr7.2 c19) x13 ex13).2 c18).1) (And.intro rfl (zC.post (((hr7.2 c19) x13 ex13).2 c18).2 (fun r16 m8 hr16 => (fun x17 ex17 => (zG.mask [true, true, true, true, true, true, true, true, false, false] (hr16 x17 ex17)))))))))))))))))))))))))))))))))))
theorem v_Mo_stays {d : Nat} {a1 : Int} {mem : zMem} {Q : Int → zMem → Prop}  (hS : zC d K_Mo_doorMany [(2, Int.ofNat 122)] mem (fun r1 m1 => ((r1 ≠ 0 → zC d K_Mo_doorMany [(2, Int.ofNat 122)] m1 (fun r2 m2 => Q r2 m2)) ∧ (r1 = 0 → Q 1 m1)))) : zC (d + 1) K_Mo_stays [(2, Int.ofNat 122), (0, a1)] mem Q := by
  exact zC_of ok_Mo_stays (by decide +kernel) (Nat.le_of_ble_eq_true rfl) rfl (Or.inr (Or.inl rfl)) (zent_ok ok_Mo_stays (cuts := []) (f := 13) (And.intro rfl (zC.post hS (fun r1 m1 hr1 => (zne (fun c3 => (And.intro rfl (zC.post (hr1.1 c3) (fun r2 m2 hr2 => hr2)))) (fun c3 => (hr1.2 c3)))))))
theorem v_Mo_doneBy {d : Nat} {a1 a2 : Int} {mem : zMem} {Q : Int → zMem → Prop}  (hS : zC d K_Mo_doorMany [(2, Int.ofNat 122)] mem (fun r1 m1 => ((r1 ≠ 0 → zC d K_Mo_doing [(2, Int.ofNat 122), (0, a1), (0, a2)] m1 (fun r2 m2 => Q r2 m2)) ∧ (r1 = 0 → Q a1 m1)))) : zC (d + 1) K_Mo_doneBy [(2, Int.ofNat 122), (0, a1), (0, a2)] mem Q := by
  exact zC_of ok_Mo_doneBy (by decide +kernel) (Nat.le_of_ble_eq_true rfl) rfl (Or.inr (Or.inl rfl)) (zent_ok ok_Mo_doneBy (cuts := []) (f := 15) (And.intro rfl (zC.post hS (fun r1 m1 hr1 => (zne (fun c3 => (And.intro rfl (zC.post (hr1.1 c3) (fun r2 m2 hr2 => hr2)))) (fun c3 => (hr1.2 c3)))))))
theorem v_Mo_doing {d : Nat} {a1 a2 : Int} {mem : zMem} {Q : Int → zMem → Prop}  (hS : zC d K_Mo_stepped [(2, Int.ofNat 122), (0, a1), (0, a2)] mem (fun r1 m1 => ((r1 ≠ -4 → Q r1 m1) ∧ (r1 = -4 → ((a2 ≠ 0 → Q r1 m1) ∧ (a2 = 0 → zC d K_Mo_isLost [(2, Int.ofNat 122), (0, a1)] m1 (fun r2 m2 => ((r2 = 0 → Q r1 m2) ∧ (r2 ≠ 0 → Q a1 m2))))))))) : zC (d + 1) K_Mo_doing [(2, Int.ofNat 122), (0, a1), (0, a2)] mem Q := by
  exact zC_of ok_Mo_doing (by decide +kernel) (Nat.le_of_ble_eq_true rfl) rfl (Or.inr (Or.inl rfl)) (zent_ok ok_Mo_doing (cuts := []) (f := 23) (And.intro rfl (zC.post hS (fun r1 m1 hr1 => (zall (zne (fun c5 => (hr1.1 c5)) (fun c5 => (zne (fun c4 => ((hr1.2 c5).1 c4)) (fun c4 => (And.intro rfl (zC.post ((hr1.2 c5).2 c4) (fun r2 m2 hr2 => (zeq (fun c3 => (hr2.1 c3)) (fun c3 => (hr2.2 c3)))))))))))))))
theorem v_Mo_cup {d : Nat} {a1 a2 a3 : Int} {mem : zMem} {Q : Int → zMem → Prop}  (hS : zC d K_Mo_isOne [(2, Int.ofNat 122), (0, a1)] mem (fun r1 m1 => ((r1 = 0 → Q (-1) m1) ∧ (r1 ≠ 0 → zC d K_Mo_isOne [(2, Int.ofNat 122), (0, a2)] m1 (fun r2 m2 => ((r2 = 0 → Q (-1) m2) ∧ (r2 ≠ 0 → ((a1 = a2 → Q (-1) m2) ∧ (a1 ≠ a2 → zC d K_Mo_isRoom [(2, Int.ofNat 122), (0, a3)] m2 (fun r3 m3 => ((r3 ≠ 0 → ((m3 123 73 ≠ 1 → zC d K_Mo_beginsTwo [(2, Int.ofNat 122)] m3 (fun r4 m4 => zC d K_Mo_placeOfOne [(2, Int.ofNat 122), (0, a1)] m4 (fun r5 m5 => zC d K_Mo_placeOfOne [(2, Int.ofNat 122), (0, a2)] m5 (fun r6 m6 => zC d K_Mo_findsCup [(2, Int.ofNat 122), (0, r5), (0, r6), (0, 0), (0, 0)] m6 (fun r7 m7 => zG (d + 1) M_Mo_cup 68 [(2, Int.ofNat 122), (9, 0), (9, 0), (0, a3), (0, 0), (9, 0), (9, 0), (9, 0), (9, 0), (9, 0), (9, 0), (9, 0)] [] m7 Q))))) ∧ (m3 123 73 = 1 → Q (-2) m3))) ∧ (r3 = 0 → Q (-1) m3)))))))))))) : zC (d + 1) K_Mo_cup [(2, Int.ofNat 122), (0, a1), (0, a2), (0, a3)] mem Q := by
  exact zC_of ok_Mo_cup (by decide +kernel) (Nat.le_of_ble_eq_true rfl) rfl (Or.inr (Or.inl rfl)) (zent_ok ok_Mo_cup (cuts := [68, 146, 170]) (f := 136) (And.intro rfl (zC.post hS (fun r1 m1 hr1 => (zeq (fun c12 => (hr1.1 c12)) (fun c12 => (And.intro rfl (zC.post (hr1.2 c12) (fun r2 m2 hr2 => (zeq (fun c11 => (hr2.1 c11)) (fun c11 => (zeq (fun c10 => ((hr2.2 c11).1 c10)) (fun c10 => (And.intro rfl (zC.post ((hr2.2 c11).2 c10) (fun r3 m3 hr3 => (zne (fun c9 => (And.intro rfl (And.intro (zbd rfl rfl (by decide)) (zne (fun c8 => (And.intro rfl (zC.post ((hr3.1 c9).1 c8) (fun r4 m4 hr4 => (And.intro rfl (zC.post hr4 (fun r5 m5 hr5 => (And.intro rfl (zC.post hr5 (fun r6 m6 hr6 => (And.intro rfl (zC.post hr6 (fun r7 m7 hr7 => (zall (zG.mask [true, false, false, true, true, false, false, false, false, false, false, false] hr7))))))))))))))) (fun c8 => ((hr3.1 c9).2 c8)))))) (fun c9 => (hr3.2 c9)))))))))))))))))))
theorem v_Mo_cup_68 {d : Nat} {l3 l4 : Int} {mem : zMem} {Q : Int → zMem → Prop}  (hS : ((mem 122 33 ≤ l4 → Q (-4) mem) ∧ (l4 < mem 122 33 → ((0 ≤ l4 ∧ l4 < 8664) ∧ ∀ x1 : Int, x1 = mem 138 l4.toNat → ∀ x2 : Int, x2 = zmul 15 (zdiv (zdiv x1 6) 38) → ∀ x3 : Int, x3 = zmul 15 (zrem (zdiv x1 6) 38) → ((zrem x1 6 ≠ 0 → zC d K_Mo_roomAt [(2, Int.ofNat 122), (0, x3)] mem (fun r4 m1 => ((r4 ≠ l3 → zG (d + 1) M_Mo_cup 146 [(2, Int.ofNat 122), (9, 0), (9, 0), (0, l3), (0, l4), (0, x1), (0, x2), (0, x3), (0, 0), (9, 0), (9, 0), (9, 0)] [] m1 Q) ∧ (r4 = l3 → ((0 ≤ x1 ∧ x1 < 8664) ∧ Q (m1 137 x1.toNat) m1))))) ∧ (zrem x1 6 = 0 → zC d K_Mo_roomAt [(2, Int.ofNat 122), (0, x2)] mem (fun r6 m2 => ((r6 ≠ l3 → zG (d + 1) M_Mo_cup 146 [(2, Int.ofNat 122), (9, 0), (9, 0), (0, l3), (0, l4), (0, x1), (0, x2), (0, x3), (0, 0), (9, 0), (9, 0), (9, 0)] [] m2 Q) ∧ (r6 = l3 → ((0 ≤ x1 ∧ x1 < 8664) ∧ Q (m2 137 x1.toNat) m2)))))))))) : zG (d + 1) M_Mo_cup 68 [(2, Int.ofNat 122), (9, 0), (9, 0), (0, l3), (0, l4), (9, 0), (9, 0), (9, 0), (9, 0), (9, 0), (9, 0), (9, 0)] [] mem Q := by
  exact zent_ok ok_Mo_cup (cuts := [68, 146, 170]) (f := 136) (And.intro rfl (zge (fun c9 => (hS.1 c9)) (fun c9 => (And.intro rfl (And.intro (zbd rfl rfl (hS.2 c9).1) (fun x1 ex1 => (And.intro (by decide) (And.intro (by decide) (fun x2 ex2 => (And.intro (by decide) (And.intro (by decide) (fun x3 ex3 => (And.intro (by decide) (zne (fun c8 => (And.intro rfl (zC.post (((((hS.2 c9).2 x1 ex1) x2 ex2) x3 ex3).1 c8) (fun r4 m1 hr4 => (zne (fun c5 => (zall (hr4.1 c5))) (fun c5 => (And.intro rfl (And.intro (zbd rfl rfl (hr4.2 c5).1) (hr4.2 c5).2)))))))) (fun c8 => (And.intro rfl (zC.post (((((hS.2 c9).2 x1 ex1) x2 ex2) x3 ex3).2 c8) (fun r6 m2 hr6 => (zne (fun c7 => (zall (hr6.1 c7))) (fun c7 => (And.intro rfl (And.intro (zbd rfl rfl (hr6.2 c7).1) (hr6.2 c7).2))))))))))))))))))))))
theorem v_Mo_cup_146 {d : Nat} {l3 l4 l5 l6 l7 l8 : Int} {mem : zMem} {Q : Int → zMem → Prop}  (hS : zC d K_Mo_stays [(2, Int.ofNat 122), (0, l6)] mem (fun r1 m1 => ((r1 ≤ l8 → ∀ x2 : Int, x2 = zadd l4 1 → zG (d + 1) M_Mo_cup 68 [(2, Int.ofNat 122), (9, 0), (9, 0), (0, l3), (0, x2), (9, 0), (9, 0), (9, 0), (9, 0), (9, 0), (9, 0), (9, 0)] [] m1 Q) ∧ (l8 < r1 → zC d K_Mo_doneBy [(2, Int.ofNat 122), (0, l6), (0, l8)] m1 (fun r3 m2 => zG (d + 1) M_Mo_cup 170 [(2, Int.ofNat 122), (9, 0), (9, 0), (0, l3), (0, l4), (0, l5), (0, l6), (0, l7), (0, l8), (0, r3), (0, 0), (9, 0)] [] m2 Q))))) : zG (d + 1) M_Mo_cup 146 [(2, Int.ofNat 122), (9, 0), (9, 0), (0, l3), (0, l4), (0, l5), (0, l6), (0, l7), (0, l8), (9, 0), (9, 0), (9, 0)] [] mem Q := by
  exact zent_ok ok_Mo_cup (cuts := [68, 146, 170]) (f := 136) (And.intro rfl (zC.post hS (fun r1 m1 hr1 => (zge (fun c4 => (fun x2 ex2 => (zG.mask [true, false, false, true, true, false, false, false, false, false, false, false] ((hr1.1 c4) x2 ex2)))) (fun c4 => (And.intro rfl (zC.post (hr1.2 c4) (fun r3 m2 hr3 => (zall (zall hr3))))))))))
theorem v_Mo_cup_170 {d : Nat} {l3 l4 l5 l6 l7 l8 l9 l10 : Int} {mem : zMem} {Q : Int → zMem → Prop}  (hS : zC d K_Mo_stays [(2, Int.ofNat 122), (0, l7)] mem (fun r1 m1 => ((r1 ≤ l10 → ∀ x2 : Int, x2 = zadd l8 1 → zG (d + 1) M_Mo_cup 146 [(2, Int.ofNat 122), (9, 0), (9, 0), (0, l3), (0, l4), (0, l5), (0, l6), (0, l7), (0, x2), (9, 0), (9, 0), (9, 0)] [] m1 Q) ∧ (l10 < r1 → ((l9 = -4 → ∀ x3 : Int, x3 = zadd l8 1 → zG (d + 1) M_Mo_cup 146 [(2, Int.ofNat 122), (9, 0), (9, 0), (0, l3), (0, l4), (0, l5), (0, l6), (0, l7), (0, x3), (9, 0), (9, 0), (9, 0)] [] m1 Q) ∧ (l9 ≠ -4 → zC d K_Mo_doneBy [(2, Int.ofNat 122), (0, l7), (0, l10)] m1 (fun r4 m2 => ((r4 = -4 → ∀ x5 : Int, x5 = zadd l10 1 → zG (d + 1) M_Mo_cup 170 [(2, Int.ofNat 122), (9, 0), (9, 0), (0, l3), (0, l4), (0, l5), (0, l6), (0, l7), (0, l8), (0, l9), (0, x5), (9, 0)] [] m2 Q) ∧ (r4 ≠ -4 → ((0 ≤ l5 ∧ l5 < 8664) ∧ zC d K_Mo_findsCup [(2, Int.ofNat 122), (0, l9), (0, r4), (0, zrem l5 6), (0, zadd (m2 137 l5.toNat) 1)] m2 (fun r6 m3 => ∀ x7 : Int, x7 = zadd l10 1 → zG (d + 1) M_Mo_cup 170 [(2, Int.ofNat 122), (9, 0), (9, 0), (0, l3), (0, l4), (0, l5), (0, l6), (0, l7), (0, l8), (0, l9), (0, x7), (9, 0)] [] m3 Q))))))))))) : zG (d + 1) M_Mo_cup 170 [(2, Int.ofNat 122), (9, 0), (9, 0), (0, l3), (0, l4), (0, l5), (0, l6), (0, l7), (0, l8), (0, l9), (0, l10), (9, 0)] [] mem Q := by
  exact zent_ok ok_Mo_cup (cuts := [68, 146, 170]) (f := 136) (And.intro rfl (zC.post hS (fun r1 m1 hr1 => (zge (fun c10 => (fun x2 ex2 => (zG.mask [true, false, false, true, true, true, true, true, true, false, false, false] ((hr1.1 c10) x2 ex2)))) (fun c10 => (zeq (fun c9 => (fun x3 ex3 => (zG.mask [true, false, false, true, true, true, true, true, true, false, false, false] (((hr1.2 c10).1 c9) x3 ex3)))) (fun c9 => (And.intro rfl (zC.post ((hr1.2 c10).2 c9) (fun r4 m2 hr4 => (zall (zeq (fun c8 => (fun x5 ex5 => (zG.mask [true, false, false, true, true, true, true, true, true, true, true, false] ((hr4.1 c8) x5 ex5)))) (fun c8 => (And.intro (by decide) (And.intro rfl (And.intro (zbd rfl rfl (hr4.2 c8).1) (And.intro rfl (zC.post (hr4.2 c8).2 (fun r6 m3 hr6 => (fun x7 ex7 => (zG.mask [true, false, false, true, true, true, true, true, true, true, true, false] (hr6 x7 ex7))))))))))))))))))))))
theorem v_Mo_findsCup {d : Nat} {a1 a2 a3 a4 : Int} {mem : zMem} {Q : Int → zMem → Prop}  (hS : ∀ x1 : Int, x1 = zmul 6 (zadd (zmul 38 (zdiv a1 15)) (zdiv a2 15)) → zC d K_Mo_findsTwo [(2, Int.ofNat 122), (0, zadd x1 a3), (0, a4)] mem (fun r2 m1 => zC d K_Mo_roomAt [(2, Int.ofNat 122), (0, a1)] m1 (fun r3 m2 => zC d K_Mo_roomAt [(2, Int.ofNat 122), (0, a2)] m2 (fun r4 m3 => ((r3 ≠ r4 → Q 0 m3) ∧ (r3 = r4 → zC d K_Mo_findsTwo [(2, Int.ofNat 122), (0, zsub (zadd x1 1) a3), (0, a4)] m3 (fun r5 m4 => Q 0 m4))))))) : zC (d + 1) K_Mo_findsCup [(2, Int.ofNat 122), (0, a1), (0, a2), (0, a3), (0, a4)] mem Q := by
  exact zC_of ok_Mo_findsCup (by decide +kernel) (Nat.le_of_ble_eq_true rfl) rfl (Or.inl rfl) (zent_ok ok_Mo_findsCup (cuts := []) (f := 39) (And.intro (by decide) (And.intro (by decide) (fun x1 ex1 => (And.intro rfl (zC.post (hS x1 ex1) (fun r2 m1 hr2 => (And.intro rfl (zC.post hr2 (fun r3 m2 hr3 => (And.intro rfl (zC.post hr3 (fun r4 m3 hr4 => (zne (fun c6 => (hr4.1 c6)) (fun c6 => (And.intro rfl (zC.post (hr4.2 c6) (fun r5 m4 hr5 => hr5))))))))))))))))))
theorem v_Mo_more {d : Nat} {a1 : Int} {mem : zMem} {Q : Int → zMem → Prop}  (hS : zC d K_Mo_in [(1, a1), (1, 0), (1, 1)] mem (fun r1 m1 => ((r1 ≠ 0 → zC d K_Mo_doorMany [(2, Int.ofNat 122)] m1 (fun r2 m2 => ((r2 ≠ 14 → zC d K_Mo_pairsNow [(2, Int.ofNat 122)] m2 (fun r3 m3 => zG (d + 1) M_Mo_more 35 [(2, Int.ofNat 122), (0, a1), (0, r3), (0, -4), (0, 0), (9, 0), (9, 0)] [] m3 Q)) ∧ (r2 = 14 → Q (-2) m2)))) ∧ (r1 = 0 → Q (-1) m1)))) : zC (d + 1) K_Mo_more [(2, Int.ofNat 122), (0, a1)] mem Q := by
  exact zC_of ok_Mo_more (by decide +kernel) (Nat.le_of_ble_eq_true rfl) rfl (Or.inr (Or.inl rfl)) (zent_ok ok_Mo_more (cuts := [35, 50]) (f := 85) (zC.post hS (fun r1 m1 hr1 => (zne (fun c5 => (And.intro rfl (zC.post (hr1.1 c5) (fun r2 m2 hr2 => (zne (fun c4 => (And.intro rfl (zC.post (hr2.1 c4) (fun r3 m3 hr3 => (zall (zall (zall hr3))))))) (fun c4 => (hr2.2 c4))))))) (fun c5 => (hr1.2 c5))))))
theorem v_Mo_more_35 {d : Nat} {l1 l2 l3 l4 : Int} {mem : zMem} {Q : Int → zMem → Prop}  (hS : ((mem 122 1 ≤ l4 → ((l3 = -4 → Q l3 mem) ∧ (l3 ≠ -4 → ((l1 ≠ 0 → Q l2 mem) ∧ (l1 = 0 → Q l3 mem))))) ∧ (l4 < mem 122 1 → ∀ x3 : Int, x3 = zadd l4 1 → zG (d + 1) M_Mo_more 50 [(2, Int.ofNat 122), (0, l1), (0, l2), (0, l3), (0, l4), (0, x3), (9, 0)] [] mem Q))) : zG (d + 1) M_Mo_more 35 [(2, Int.ofNat 122), (0, l1), (0, l2), (0, l3), (0, l4), (9, 0), (9, 0)] [] mem Q := by
  exact zent_ok ok_Mo_more (cuts := [35, 50]) (f := 85) (And.intro rfl (zge (fun c4 => (zeq (fun c2 => ((hS.1 c4).1 c2)) (fun c2 => (zne (fun c1 => (((hS.1 c4).2 c2).1 c1)) (fun c1 => (((hS.1 c4).2 c2).2 c1)))))) (fun c4 => (fun x3 ex3 => ((hS.2 c4) x3 ex3)))))
theorem v_Mo_more_50 {d : Nat} {l1 l2 l3 l4 l5 : Int} {mem : zMem} {Q : Int → zMem → Prop}  (hS : ((mem 122 1 ≤ l5 → ∀ x1 : Int, x1 = zadd l4 1 → zG (d + 1) M_Mo_more 35 [(2, Int.ofNat 122), (0, l1), (0, l2), (0, l3), (0, x1), (9, 0), (9, 0)] [] mem Q) ∧ (l5 < mem 122 1 → zC d K_Mo_addDoor [(2, Int.ofNat 122), (0, l4), (0, l5), (0, 0)] mem (fun r2 m1 => zC d K_Mo_pairsNow [(2, Int.ofNat 122)] m1 (fun r3 m2 => ∀ m3 : zMem, m3 = zup m2 123 56 (zsub (m2 123 56) 1) → ((r3 ≤ l2 → ((r3 ≤ l2 → ∀ x4 : Int, x4 = zadd l5 1 → zG (d + 1) M_Mo_more 50 [(2, Int.ofNat 122), (0, l1), (0, l2), (0, l3), (0, l4), (0, x4), (9, 0)] [] m3 Q) ∧ (l2 < r3 → ∀ x5 : Int, x5 = zadd l5 1 → zG (d + 1) M_Mo_more 50 [(2, Int.ofNat 122), (0, l1), (0, r3), (0, l3), (0, l4), (0, x5), (9, 0)] [] m3 Q))) ∧ (l2 < r3 → ∀ x7 : Int, x7 = zadd (zmul 10 l4) l5 → ((r3 ≤ l2 → ∀ x8 : Int, x8 = zadd l5 1 → zG (d + 1) M_Mo_more 50 [(2, Int.ofNat 122), (0, l1), (0, l2), (0, x7), (0, l4), (0, x8), (9, 0)] [] m3 Q) ∧ (l2 < r3 → ∀ x9 : Int, x9 = zadd l5 1 → zG (d + 1) M_Mo_more 50 [(2, Int.ofNat 122), (0, l1), (0, r3), (0, x7), (0, l4), (0, x9), (9, 0)] [] m3 Q))))))))) : zG (d + 1) M_Mo_more 50 [(2, Int.ofNat 122), (0, l1), (0, l2), (0, l3), (0, l4), (0, l5), (9, 0)] [] mem Q := by
  exact zent_ok ok_Mo_more (cuts := [35, 50]) (f := 85) (And.intro rfl (zge (fun c12 => (fun x1 ex1 => (zG.mask [true, true, true, true, true, false, false] ((hS.1 c12) x1 ex1)))) (fun c12 => (And.intro rfl (zC.post (hS.2 c12) (fun r2 m1 hr2 => (And.intro rfl (zC.post hr2 (fun r3 m2 hr3 => (zall (And.intro rfl (And.intro (zbd rfl rfl (by decide)) (And.intro (zbd rfl rfl (by decide)) (fun m3 em3 => (zle (fun c11 => (zall (zle (fun c6 => (zall (fun x4 ex4 => (zG.mask [true, true, true, true, true, true, false] ((((hr3 m3 em3).1 c11).1 c6) x4 ex4))))) (fun c6 => (zall (fun x5 ex5 => (zG.mask [true, true, true, true, true, true, false] ((((hr3 m3 em3).1 c11).2 c6) x5 ex5)))))))) (fun c11 => (fun x7 ex7 => (zle (fun c10 => (zall (fun x8 ex8 => (zG.mask [true, true, true, true, true, true, false] (((((hr3 m3 em3).2 c11) x7 ex7).1 c10) x8 ex8))))) (fun c10 => (zall (fun x9 ex9 => (zG.mask [true, true, true, true, true, true, false] (((((hr3 m3 em3).2 c11) x7 ex7).2 c10) x9 ex9)))))))))))))))))))))))
theorem v_Mo_worst {d : Nat} {a1 : Int} {mem : zMem} {Q : Int → zMem → Prop}  (hS : zC d K_Mo_in [(1, a1), (1, 0), (1, 1)] mem (fun r1 m1 => ((r1 ≠ 0 → zG (d + 1) M_Mo_worst 21 [(2, Int.ofNat 122), (0, a1), (0, -4), (0, -4), (0, 0), (9, 0)] [] m1 Q) ∧ (r1 = 0 → Q (-1) m1)))) : zC (d + 1) K_Mo_worst [(2, Int.ofNat 122), (0, a1)] mem Q := by
  exact zC_of ok_Mo_worst (by decide +kernel) (Nat.le_of_ble_eq_true rfl) rfl (Or.inr (Or.inl rfl)) (zent_ok ok_Mo_worst (cuts := [21, 106]) (f := 81) (zC.post hS (fun r1 m1 hr1 => (zne (fun c2 => (zall (zall (zall (hr1.1 c2))))) (fun c2 => (hr1.2 c2))))))
theorem v_Mo_worst_21 {d : Nat} {l1 l2 l3 l4 : Int} {mem : zMem} {Q : Int → zMem → Prop}  (hS : zC d K_Mo_doorMany [(2, Int.ofNat 122)] mem (fun r1 m1 => ((r1 ≤ l4 → ((l3 = -4 → Q l3 m1) ∧ (l3 ≠ -4 → ((l1 ≠ 0 → Q l2 m1) ∧ (l1 = 0 → Q l3 m1))))) ∧ (l4 < r1 → ((0 ≤ zadd (zmul 4 l4) 3 ∧ zadd (zmul 4 l4) 3 < 264) ∧ ((m1 123 (zadd (zmul 4 l4) 3).toNat ≠ 0 → zG (d + 1) M_Mo_worst 106 [(2, Int.ofNat 122), (0, l1), (0, l2), (0, l3), (0, l4), (9, 0)] [] m1 Q) ∧ (m1 123 (zadd (zmul 4 l4) 3).toNat = 0 → ((0 ≤ zadd (zmul 4 l4) 3 ∧ zadd (zmul 4 l4) 3 < 264) ∧ ∀ m2 : zMem, m2 = zup m1 123 (zadd (zmul 4 l4) 3).toNat 1 → zC d K_Mo_pairsNow [(2, Int.ofNat 122)] m2 (fun r4 m3 => ((0 ≤ zadd (zmul 4 l4) 3 ∧ zadd (zmul 4 l4) 3 < 264) ∧ ∀ m4 : zMem, m4 = zup m3 123 (zadd (zmul 4 l4) 3).toNat 0 → ((l3 = -4 → ((l4 ≠ l4 → zG (d + 1) M_Mo_worst 106 [(2, Int.ofNat 122), (0, l1), (0, l2), (0, l4), (0, l4), (9, 0)] [] m4 Q) ∧ (l4 = l4 → zG (d + 1) M_Mo_worst 106 [(2, Int.ofNat 122), (0, l1), (0, r4), (0, l4), (0, l4), (9, 0)] [] m4 Q))) ∧ (l3 ≠ -4 → ((l2 ≤ r4 → ((l3 ≠ l4 → zG (d + 1) M_Mo_worst 106 [(2, Int.ofNat 122), (0, l1), (0, l2), (0, l3), (0, l4), (9, 0)] [] m4 Q) ∧ (l3 = l4 → zG (d + 1) M_Mo_worst 106 [(2, Int.ofNat 122), (0, l1), (0, r4), (0, l3), (0, l4), (9, 0)] [] m4 Q))) ∧ (r4 < l2 → ((l4 ≠ l4 → zG (d + 1) M_Mo_worst 106 [(2, Int.ofNat 122), (0, l1), (0, l2), (0, l4), (0, l4), (9, 0)] [] m4 Q) ∧ (l4 = l4 → zG (d + 1) M_Mo_worst 106 [(2, Int.ofNat 122), (0, l1), (0, r4), (0, l4), (0, l4), (9, 0)] [] m4 Q)))))))))))))))) : zG (d + 1) M_Mo_worst 21 [(2, Int.ofNat 122), (0, l1), (0, l2), (0, l3), (0, l4), (9, 0)] [] mem Q := by
  exact zent_ok ok_Mo_worst (cuts := [21, 106]) (f := 81) (And.intro rfl (zC.post hS (fun r1 m1 hr1 => (zge (fun c11 => (zeq (fun c3 => ((hr1.1 c11).1 c3)) (fun c3 => (zne (fun c2 => (((hr1.1 c11).2 c3).1 c2)) (fun c2 => (((hr1.1 c11).2 c3).2 c2)))))) (fun c11 => (And.intro rfl (And.intro (zbd rfl rfl (hr1.2 c11).1) (zne (fun c10 => ((hr1.2 c11).2.1 c10)) (fun c10 => (And.intro rfl (And.intro (zbd rfl rfl ((hr1.2 c11).2.2 c10).1) (fun m2 em2 => (And.intro rfl (zC.post (((hr1.2 c11).2.2 c10).2 m2 em2) (fun r4 m3 hr4 => (zall (And.intro rfl (And.intro (zbd rfl rfl hr4.1) (fun m4 em4 => (zeq (fun c9 => (zall (zne (fun c5 => (zall (zG.mask [true, true, true, true, true, false] (((hr4.2 m4 em4).1 c9).1 c5)))) (fun c5 => (zall (zG.mask [true, true, true, true, true, false] (((hr4.2 m4 em4).1 c9).2 c5))))))) (fun c9 => (zge (fun c8 => (zall (zne (fun c6 => (zall (zG.mask [true, true, true, true, true, false] ((((hr4.2 m4 em4).2 c9).1 c8).1 c6)))) (fun c6 => (zall (zG.mask [true, true, true, true, true, false] ((((hr4.2 m4 em4).2 c9).1 c8).2 c6))))))) (fun c8 => (zall (zne (fun c7 => (zall (zG.mask [true, true, true, true, true, false] ((((hr4.2 m4 em4).2 c9).2 c8).1 c7)))) (fun c7 => (zall (zG.mask [true, true, true, true, true, false] ((((hr4.2 m4 em4).2 c9).2 c8).2 c7)))))))))))))))))))))))))))))
theorem v_Mo_worst_106 {d : Nat} {l1 l2 l3 l4 : Int} {mem : zMem} {Q : Int → zMem → Prop}  (hS : ∀ x1 : Int, x1 = zadd l4 1 → zG (d + 1) M_Mo_worst 21 [(2, Int.ofNat 122), (0, l1), (0, l2), (0, l3), (0, x1), (9, 0)] [] mem Q) : zG (d + 1) M_Mo_worst 106 [(2, Int.ofNat 122), (0, l1), (0, l2), (0, l3), (0, l4), (9, 0)] [] mem Q := by
  exact zent_ok ok_Mo_worst (cuts := [21, 106]) (f := 81) (fun x1 ex1 => (hS x1 ex1))
theorem v_Mo_mend {d : Nat} {a1 : Int} {mem : zMem} {Q : Int → zMem → Prop}  (hS : zC d K_Mo_in [(1, a1), (1, 0), (1, 2)] mem (fun r1 m1 => ((r1 ≠ 0 → zC d K_Mo_layMend [(2, Int.ofNat 122)] m1 (fun r2 m2 => ((a1 ≠ 0 → ((a1 ≠ 1 → Q (m2 122 35) m2) ∧ (a1 = 1 → Q (m2 122 34) m2))) ∧ (a1 = 0 → Q r2 m2)))) ∧ (r1 = 0 → Q (-1) m1)))) : zC (d + 1) K_Mo_mend [(2, Int.ofNat 122), (0, a1)] mem Q := by
  exact zC_of ok_Mo_mend (by decide +kernel) (Nat.le_of_ble_eq_true rfl) rfl (Or.inr (Or.inl rfl)) (zent_ok ok_Mo_mend (cuts := []) (f := 29) (zC.post hS (fun r1 m1 hr1 => (zne (fun c5 => (And.intro rfl (zC.post (hr1.1 c5) (fun r2 m2 hr2 => (zall (zne (fun c4 => (zne (fun c3 => (And.intro rfl ((hr2.1 c4).1 c3))) (fun c3 => (And.intro rfl ((hr2.1 c4).2 c3))))) (fun c4 => (hr2.2 c4)))))))) (fun c5 => (hr1.2 c5))))))
theorem v_Mo_layMend {d : Nat}  {mem : zMem} {Q : Int → zMem → Prop}  (hS : ∀ m1 : zMem, m1 = zup mem 122 34 (-4) → ∀ m2 : zMem, m2 = zup m1 122 35 (-4) → zC d K_Mo_isSafe [(2, Int.ofNat 122)] m2 (fun r1 m3 => ((r1 = 0 → zC d K_Mo_mendsOne [(2, Int.ofNat 122), (0, 0)] m3 (fun r2 m4 => ((r2 = 0 → zG (d + 1) M_Mo_layMend 33 [(2, Int.ofNat 122), (0, 0), (9, 0)] [] m4 Q) ∧ (r2 ≠ 0 → Q 1 m4)))) ∧ (r1 ≠ 0 → Q 0 m3)))) : zC (d + 1) K_Mo_layMend [(2, Int.ofNat 122)] mem Q := by
  exact zC_of ok_Mo_layMend (by decide +kernel) (Nat.le_of_ble_eq_true rfl) rfl (Or.inr (Or.inl rfl)) (zent_ok ok_Mo_layMend (cuts := [33]) (f := 76) (And.intro rfl (fun m1 em1 => (And.intro rfl (fun m2 em2 => (And.intro rfl (zC.post ((hS m1 em1) m2 em2) (fun r1 m3 hr1 => (zeq (fun c4 => (And.intro rfl (zC.post (hr1.1 c4) (fun r2 m4 hr2 => (zeq (fun c3 => (zall (hr2.1 c3))) (fun c3 => (hr2.2 c3))))))) (fun c4 => (hr1.2 c4)))))))))))
theorem v_Mo_layMend_33 {d : Nat} {l1 : Int} {mem : zMem} {Q : Int → zMem → Prop}  (hS : ((100 ≤ l1 → Q (-4) mem) ∧ (l1 < 100 → zC d K_Mo_doorMany [(2, Int.ofNat 122)] mem (fun r1 m1 => ((14 ≤ r1 → Q (-4) m1) ∧ (r1 < 14 → ((zrem l1 10 ≤ zdiv l1 10 → ∀ x2 : Int, x2 = zadd l1 1 → zG (d + 1) M_Mo_layMend 33 [(2, Int.ofNat 122), (0, x2), (9, 0)] [] m1 Q) ∧ (zdiv l1 10 < zrem l1 10 → ((m1 122 1 ≤ zrem l1 10 → ∀ x3 : Int, x3 = zadd l1 1 → zG (d + 1) M_Mo_layMend 33 [(2, Int.ofNat 122), (0, x3), (9, 0)] [] m1 Q) ∧ (zrem l1 10 < m1 122 1 → zC d K_Mo_addDoor [(2, Int.ofNat 122), (0, zdiv l1 10), (0, zrem l1 10), (0, 0)] m1 (fun r4 m2 => zC d K_Mo_mendsOne [(2, Int.ofNat 122), (0, 1)] m2 (fun r5 m3 => ∀ m4 : zMem, m4 = zup m3 123 56 (zsub (m3 123 56) 1) → ((r5 = 0 → ∀ x6 : Int, x6 = zadd l1 1 → zG (d + 1) M_Mo_layMend 33 [(2, Int.ofNat 122), (0, x6), (9, 0)] [] m4 Q) ∧ (r5 ≠ 0 → ∀ m5 : zMem, m5 = zup m4 122 34 l1 → Q 2 m5)))))))))))))) : zG (d + 1) M_Mo_layMend 33 [(2, Int.ofNat 122), (0, l1), (9, 0)] [] mem Q := by
  exact zent_ok ok_Mo_layMend (cuts := [33]) (f := 76) (zge (fun c11 => (hS.1 c11)) (fun c11 => (And.intro rfl (zC.post (hS.2 c11) (fun r1 m1 hr1 => (zge (fun c10 => (hr1.1 c10)) (fun c10 => (And.intro (by decide) (And.intro (by decide) (zge (fun c9 => (fun x2 ex2 => (((hr1.2 c10).1 c9) x2 ex2))) (fun c9 => (And.intro (by decide) (And.intro rfl (zge (fun c8 => (fun x3 ex3 => ((((hr1.2 c10).2 c9).1 c8) x3 ex3))) (fun c8 => (And.intro (by decide) (And.intro (by decide) (And.intro rfl (zC.post (((hr1.2 c10).2 c9).2 c8) (fun r4 m2 hr4 => (And.intro rfl (zC.post hr4 (fun r5 m3 hr5 => (zall (And.intro rfl (And.intro (zbd rfl rfl (by decide)) (And.intro (zbd rfl rfl (by decide)) (fun m4 em4 => (zeq (fun c7 => (fun x6 ex6 => (zG.mask [true, true, false] (((hr5 m4 em4).1 c7) x6 ex6)))) (fun c7 => (And.intro rfl (fun m5 em5 => (((hr5 m4 em4).2 c7) m5 em5)))))))))))))))))))))))))))))))))
theorem v_Mo_mendsOne {d : Nat} {a1 : Int} {mem : zMem} {Q : Int → zMem → Prop}  (hS : zG (d + 1) M_Mo_mendsOne 2 [(2, Int.ofNat 122), (0, a1), (0, 0), (9, 0)] [] mem Q) : zC (d + 1) K_Mo_mendsOne [(2, Int.ofNat 122), (0, a1)] mem Q := by
  exact zC_of ok_Mo_mendsOne (by decide +kernel) (Nat.le_of_ble_eq_true rfl) rfl (Or.inr (Or.inr (Or.inl rfl))) (zent_ok ok_Mo_mendsOne (cuts := [2]) (f := 70) (zall hS))
theorem v_Mo_mendsOne_2 {d : Nat} {l1 l2 : Int} {mem : zMem} {Q : Int → zMem → Prop}  (hS : ((100 ≤ l2 → Q 0 mem) ∧ (l2 < 100 → zC d K_Mo_doorMany [(2, Int.ofNat 122)] mem (fun r1 m1 => ((14 ≤ r1 → Q 0 m1) ∧ (r1 < 14 → ((zrem l2 10 ≤ zdiv l2 10 → ∀ x2 : Int, x2 = zadd l2 1 → zG (d + 1) M_Mo_mendsOne 2 [(2, Int.ofNat 122), (0, l1), (0, x2), (9, 0)] [] m1 Q) ∧ (zdiv l2 10 < zrem l2 10 → ((m1 122 1 ≤ zrem l2 10 → ∀ x3 : Int, x3 = zadd l2 1 → zG (d + 1) M_Mo_mendsOne 2 [(2, Int.ofNat 122), (0, l1), (0, x3), (9, 0)] [] m1 Q) ∧ (zrem l2 10 < m1 122 1 → zC d K_Mo_addDoor [(2, Int.ofNat 122), (0, zdiv l2 10), (0, zrem l2 10), (0, 0)] m1 (fun r4 m2 => zC d K_Mo_isSafe [(2, Int.ofNat 122)] m2 (fun r5 m3 => ∀ m4 : zMem, m4 = zup m3 123 56 (zsub (m3 123 56) 1) → ((r5 = 0 → ∀ x6 : Int, x6 = zadd l2 1 → zG (d + 1) M_Mo_mendsOne 2 [(2, Int.ofNat 122), (0, l1), (0, x6), (9, 0)] [] m4 Q) ∧ (r5 ≠ 0 → ((l1 = 0 → ∀ m5 : zMem, m5 = zup m4 122 34 l2 → ((l1 = 0 → ∀ m6 : zMem, m6 = zup m5 122 35 (-4) → Q 1 m6) ∧ (l1 ≠ 0 → ∀ m7 : zMem, m7 = zup m5 122 35 l2 → Q 1 m7))) ∧ (l1 ≠ 0 → ∀ m8 : zMem, m8 = zup m4 122 34 (m4 122 34) → ((l1 = 0 → ∀ m9 : zMem, m9 = zup m8 122 35 (-4) → Q 1 m9) ∧ (l1 ≠ 0 → ∀ m10 : zMem, m10 = zup m8 122 35 l2 → Q 1 m10)))))))))))))))))) : zG (d + 1) M_Mo_mendsOne 2 [(2, Int.ofNat 122), (0, l1), (0, l2), (9, 0)] [] mem Q := by
  exact zent_ok ok_Mo_mendsOne (cuts := [2]) (f := 70) (zge (fun c14 => (And.intro (Or.inl rfl) (hS.1 c14))) (fun c14 => (And.intro rfl (zC.post (hS.2 c14) (fun r1 m1 hr1 => (zge (fun c13 => (And.intro (Or.inl rfl) (hr1.1 c13))) (fun c13 => (And.intro (by decide) (And.intro (by decide) (zge (fun c12 => (fun x2 ex2 => (((hr1.2 c13).1 c12) x2 ex2))) (fun c12 => (And.intro (by decide) (And.intro rfl (zge (fun c11 => (fun x3 ex3 => ((((hr1.2 c13).2 c12).1 c11) x3 ex3))) (fun c11 => (And.intro (by decide) (And.intro (by decide) (And.intro rfl (zC.post (((hr1.2 c13).2 c12).2 c11) (fun r4 m2 hr4 => (And.intro rfl (zC.post hr4 (fun r5 m3 hr5 => (zall (And.intro rfl (And.intro (zbd rfl rfl (by decide)) (And.intro (zbd rfl rfl (by decide)) (fun m4 em4 => (zeq (fun c10 => (fun x6 ex6 => (zG.mask [true, true, true, false] (((hr5 m4 em4).1 c10) x6 ex6)))) (fun c10 => (zeq (fun c9 => (And.intro rfl (fun m5 em5 => (zeq (fun c7 => (And.intro rfl (fun m6 em6 => (And.intro (Or.inr rfl) ((((((hr5 m4 em4).2 c10).1 c9) m5 em5).1 c7) m6 em6))))) (fun c7 => (And.intro rfl (fun m7 em7 => (And.intro (Or.inr rfl) ((((((hr5 m4 em4).2 c10).1 c9) m5 em5).2 c7) m7 em7))))))))) (fun c9 => (And.intro rfl (And.intro rfl (fun m8 em8 => (zeq (fun c8 => (And.intro rfl (fun m9 em9 => (And.intro (Or.inr rfl) ((((((hr5 m4 em4).2 c10).2 c9) m8 em8).1 c8) m9 em9))))) (fun c8 => (And.intro rfl (fun m10 em10 => (And.intro (Or.inr rfl) ((((((hr5 m4 em4).2 c10).2 c9) m8 em8).2 c8) m10 em10)))))))))))))))))))))))))))))))))))))))))
theorem v_Mo_tell {d : Nat} {a1 : Int} {mem : zMem} {Q : Int → zMem → Prop}  (hS : zC d K_Mo_isDoor [(2, Int.ofNat 122), (0, a1)] mem (fun r1 m1 => ((r1 ≠ 0 → ((m1 123 86 ≠ 12 → ((0 ≤ zadd 74 (m1 123 86) ∧ zadd 74 (m1 123 86) < 264) ∧ ∀ m2 : zMem, m2 = zup m1 123 (zadd 74 (m1 123 86)).toNat a1 → ∀ m3 : zMem, m3 = zup m2 123 86 (zadd (m2 123 86) 1) → Q (m3 123 86) m3)) ∧ (m1 123 86 = 12 → Q (-3) m1))) ∧ (r1 = 0 → Q (-1) m1)))) : zC (d + 1) K_Mo_tell [(2, Int.ofNat 122), (0, a1)] mem Q := by
  exact zC_of ok_Mo_tell (by decide +kernel) (Nat.le_of_ble_eq_true rfl) rfl (Or.inr (Or.inl rfl)) (zent_ok ok_Mo_tell (cuts := []) (f := 42) (And.intro rfl (zC.post hS (fun r1 m1 hr1 => (zne (fun c3 => (And.intro rfl (And.intro (zbd rfl rfl (by decide)) (zne (fun c2 => (And.intro rfl (And.intro rfl (And.intro (zbd rfl rfl (by decide)) (And.intro (zbd rfl rfl ((hr1.1 c3).1 c2).1) (fun m2 em2 => (And.intro rfl (And.intro (zbd rfl rfl (by decide)) (And.intro (zbd rfl rfl (by decide)) (fun m3 em3 => (And.intro rfl (And.intro (zbd rfl rfl (by decide)) ((((hr1.1 c3).1 c2).2 m2 em2) m3 em3))))))))))))) (fun c2 => ((hr1.1 c3).2 c2)))))) (fun c3 => (hr1.2 c3)))))))
theorem v_Mo_forget {d : Nat}  {mem : zMem} {Q : Int → zMem → Prop}  (hS : ∀ x1 : Int, x1 = mem 123 86 → ∀ m1 : zMem, m1 = zup mem 123 86 0 → Q x1 m1) : zC (d + 1) K_Mo_forget [(2, Int.ofNat 122)] mem Q := by
  exact zC_of ok_Mo_forget (by decide +kernel) (Nat.le_of_ble_eq_true rfl) rfl (Or.inr (Or.inl rfl)) (zent_ok ok_Mo_forget (cuts := []) (f := 17) (And.intro rfl (And.intro (zbd rfl rfl (by decide)) (fun x1 ex1 => (And.intro rfl (And.intro (zbd rfl rfl (by decide)) (fun m1 em1 => ((hS x1 ex1) m1 em1))))))))
theorem v_Mo_judge {d : Nat} {a1 : Int} {mem : zMem} {Q : Int → zMem → Prop}  (hS : zC d K_Mo_isRoom [(2, Int.ofNat 122), (0, a1)] mem (fun r1 m1 => ((r1 ≠ 0 → zC d K_Mo_newIn [(0, a1)] m1 (fun r2 m2 => zG (d + 1) M_Mo_judge 17 [(2, Int.ofNat 122), (9, 0), (0, r2), (0, 0)] [] m2 Q)) ∧ (r1 = 0 → Q (-1) m1)))) : zC (d + 1) K_Mo_judge [(2, Int.ofNat 122), (0, a1)] mem Q := by
  exact zC_of ok_Mo_judge (by decide +kernel) (Nat.le_of_ble_eq_true rfl) rfl (Or.inr (Or.inl rfl)) (zent_ok ok_Mo_judge (cuts := [17]) (f := 52) (And.intro rfl (zC.post hS (fun r1 m1 hr1 => (zne (fun c3 => (zC.post (hr1.1 c3) (fun r2 m2 hr2 => (zall (zall (zG.mask [true, false, true, true] hr2)))))) (fun c3 => (hr1.2 c3)))))))
theorem v_Mo_judge_17 {d : Nat} {l2 l3 : Int} {mem : zMem} {Q : Int → zMem → Prop}  (hS : ((mem 123 86 ≤ l3 → Q (-4) mem) ∧ (l3 < mem 123 86 → ((0 ≤ zadd 74 l3 ∧ zadd 74 l3 < 264) ∧ zC d K_Mo_isDoor [(2, Int.ofNat 122), (0, mem 123 (zadd 74 l3).toNat)] mem (fun r1 m1 => ((r1 = 0 → Q l3 m1) ∧ (r1 ≠ 0 → ((0 ≤ zadd 74 l3 ∧ zadd 74 l3 < 264) ∧ zC d K_Mo_stepped [(2, Int.ofNat 122), (0, l2), (0, m1 123 (zadd 74 l3).toNat)] m1 (fun r2 m2 => ((r2 ≠ -4 → ∀ x3 : Int, x3 = zadd l3 1 → zG (d + 1) M_Mo_judge 17 [(2, Int.ofNat 122), (9, 0), (0, r2), (0, x3)] [] m2 Q) ∧ (r2 = -4 → Q l3 m2))))))))))) : zG (d + 1) M_Mo_judge 17 [(2, Int.ofNat 122), (9, 0), (0, l2), (0, l3)] [] mem Q := by
  exact zent_ok ok_Mo_judge (cuts := [17]) (f := 52) (And.intro rfl (And.intro (zbd rfl rfl (by decide)) (zge (fun c6 => (hS.1 c6)) (fun c6 => (And.intro rfl (And.intro (zbd rfl rfl (hS.2 c6).1) (And.intro rfl (zC.post (hS.2 c6).2 (fun r1 m1 hr1 => (zeq (fun c5 => (zall (zne (fun q => absurd q (by decide)) (fun _ => (hr1.1 c5))))) (fun c5 => (And.intro rfl (And.intro (zbd rfl rfl (hr1.2 c5).1) (And.intro rfl (zC.post (hr1.2 c5).2 (fun r2 m2 hr2 => (zall (zne (fun c4 => (fun x3 ex3 => ((hr2.1 c4) x3 ex3))) (fun c4 => (hr2.2 c4))))))))))))))))))))
theorem v_Mo_ajar {d : Nat} {a1 a2 a3 a4 : Int} {mem : zMem} {Q : Int → zMem → Prop}  (hS : zC d K_Mo_isRoom [(2, Int.ofNat 122), (0, a1)] mem (fun r1 m1 => ((r1 = 0 → Q (-1) m1) ∧ (r1 ≠ 0 → zC d K_Mo_in [(1, a2), (1, 0), (1, 6)] m1 (fun r2 m2 => ((r2 = 0 → Q (-1) m2) ∧ (r2 ≠ 0 → zC d K_Mo_doorMany [(2, Int.ofNat 122)] m2 (fun r3 m3 => zC d K_Mo_in [(1, a3), (1, 0), (1, zsub (zshl 1 r3) 1)] m3 (fun r4 m4 => ((r4 = 0 → Q (-1) m4) ∧ (r4 ≠ 0 → zC d K_Mo_in [(1, a4), (1, 0), (1, 1)] m4 (fun r5 m5 => ((r5 ≠ 0 → zC d K_Mo_newIn [(0, a1)] m5 (fun r6 m6 => zC d K_Mo_layWays [(2, Int.ofNat 122), (0, r6), (0, a2), (0, a3), (0, a3)] m6 (fun r7 m7 => ((a4 ≠ 0 → ((a4 ≠ 1 → ((zlcmp r7 0 = 0 → Q (-4) m7) ∧ (zlcmp r7 0 ≠ 0 → ((zsub a4 10 < a2 → zG (d + 1) M_Mo_ajar 176 [(2, Int.ofNat 122), (9, 0), (0, a2), (0, a3), (0, a4), (0, r6), (9, 0), (9, 0), (0, a3), (0, -4), (0, 0)] [] m7 Q) ∧ (a2 ≤ zsub a4 10 → Q (-4) m7))))) ∧ (a4 = 1 → zG (d + 1) M_Mo_ajar 104 [(2, Int.ofNat 122), (9, 0), (9, 0), (9, 0), (9, 0), (9, 0), (9, 0), (9, 0), (0, 0), (0, 0), (9, 0)] [] m7 Q))) ∧ (a4 = 0 → Q (zl2i r7) m7))))) ∧ (r5 = 0 → zC d K_Mo_in [(1, a4), (1, 10), (1, 15)] m5 (fun r12 m8 => ((r12 ≠ 0 → zC d K_Mo_newIn [(0, a1)] m8 (fun r13 m9 => zC d K_Mo_layWays [(2, Int.ofNat 122), (0, r13), (0, a2), (0, a3), (0, a3)] m9 (fun r14 m10 => ((a4 ≠ 0 → ((a4 ≠ 1 → ((zlcmp r14 0 = 0 → Q (-4) m10) ∧ (zlcmp r14 0 ≠ 0 → ((zsub a4 10 < a2 → zG (d + 1) M_Mo_ajar 176 [(2, Int.ofNat 122), (9, 0), (0, a2), (0, a3), (0, a4), (0, r13), (9, 0), (9, 0), (0, a3), (0, -4), (0, 0)] [] m10 Q) ∧ (a2 ≤ zsub a4 10 → Q (-4) m10))))) ∧ (a4 = 1 → zG (d + 1) M_Mo_ajar 104 [(2, Int.ofNat 122), (9, 0), (9, 0), (9, 0), (9, 0), (9, 0), (9, 0), (9, 0), (0, 0), (0, 0), (9, 0)] [] m10 Q))) ∧ (a4 = 0 → Q (zl2i r14) m10))))) ∧ (r12 = 0 → Q (-1) m8))))))))))))))))) : zC (d + 1) K_Mo_ajar [(2, Int.ofNat 122), (0, a1), (0, a2), (0, a3), (0, a4)] mem Q := by
  exact zC_of ok_Mo_ajar (by decide +kernel) (Nat.le_of_ble_eq_true rfl) rfl (Or.inr (Or.inl rfl)) (zent_ok ok_Mo_ajar (cuts := [104, 176, 189]) (f := 163) (And.intro rfl (zC.post hS (fun r1 m1 hr1 => (zeq (fun c23 => (hr1.1 c23)) (fun c23 => (zC.post (hr1.2 c23) (fun r2 m2 hr2 => (zeq (fun c22 => (hr2.1 c22)) (fun c22 => (And.intro rfl (zC.post (hr2.2 c22) (fun r3 m3 hr3 => (zC.post hr3 (fun r4 m4 hr4 => (zeq (fun c21 => (hr4.1 c21)) (fun c21 => (zC.post (hr4.2 c21) (fun r5 m5 hr5 => (zne (fun c20 => (zC.post (hr5.1 c20) (fun r6 m6 hr6 => (zall (And.intro rfl (zC.post hr6 (fun r7 m7 hr7 => (zall (zne (fun c11 => (zne (fun c10 => (zeq (fun c9 => (((hr7.1 c11).1 c10).1 c9)) (fun c9 => (zlt (fun c8 => (zall (zall (zall (zG.mask [true, false, true, true, true, true, false, false, true, true, true] ((((hr7.1 c11).1 c10).2 c9).1 c8)))))) (fun c8 => ((((hr7.1 c11).1 c10).2 c9).2 c8)))))) (fun c10 => (zall (zall (zG.mask [true, false, false, false, false, false, false, false, true, true, false] ((hr7.1 c11).2 c10))))))) (fun c11 => (hr7.2 c11))))))))))) (fun c20 => (zC.post (hr5.2 c20) (fun r12 m8 hr12 => (zne (fun c19 => (zC.post (hr12.1 c19) (fun r13 m9 hr13 => (zall (And.intro rfl (zC.post hr13 (fun r14 m10 hr14 => (zall (zne (fun c18 => (zne (fun c17 => (zeq (fun c16 => (((hr14.1 c18).1 c17).1 c16)) (fun c16 => (zlt (fun c15 => (zall (zall (zall (zG.mask [true, false, true, true, true, true, false, false, true, true, true] ((((hr14.1 c18).1 c17).2 c16).1 c15)))))) (fun c15 => ((((hr14.1 c18).1 c17).2 c16).2 c15)))))) (fun c17 => (zall (zall (zG.mask [true, false, false, false, false, false, false, false, true, true, false] ((hr14.1 c18).2 c17))))))) (fun c18 => (hr14.2 c18))))))))))) (fun c19 => (hr12.2 c19))))))))))))))))))))))))))
theorem v_Mo_ajar_176 {d : Nat} {l2 l3 l4 l5 l8 l9 l10 : Int} {mem : zMem} {Q : Int → zMem → Prop}  (hS : ((zsub l4 10 < l10 → Q l9 mem) ∧ (l10 ≤ zsub l4 10 → zG (d + 1) M_Mo_ajar 189 [(2, Int.ofNat 122), (9, 0), (0, l2), (0, l3), (0, l4), (0, l5), (9, 0), (9, 0), (0, l8), (0, 0), (0, l10)] [] mem Q))) : zG (d + 1) M_Mo_ajar 176 [(2, Int.ofNat 122), (9, 0), (0, l2), (0, l3), (0, l4), (0, l5), (9, 0), (9, 0), (0, l8), (0, l9), (0, l10)] [] mem Q := by
  exact zent_ok ok_Mo_ajar (cuts := [104, 176, 189]) (f := 163) (zgt (fun c1 => (hS.1 c1)) (fun c1 => (zall (hS.2 c1))))
theorem v_Mo_ajar_104 {d : Nat} {l8 l9 : Int} {mem : zMem} {Q : Int → zMem → Prop}  (hS : ((mem 122 1 ≤ l9 → Q l8 mem) ∧ (l9 < mem 122 1 → ((0 ≤ l9 ∧ l9 < 10) ∧ ((zlcmp (mem 141 l9.toNat) 0 ≤ 0 → ∀ x1 : Int, x1 = zor l8 0 → ∀ x2 : Int, x2 = zadd l9 1 → zG (d + 1) M_Mo_ajar 104 [(2, Int.ofNat 122), (9, 0), (9, 0), (9, 0), (9, 0), (9, 0), (9, 0), (9, 0), (0, x1), (0, x2), (9, 0)] [] mem Q) ∧ (0 < zlcmp (mem 141 l9.toNat) 0 → ∀ x3 : Int, x3 = zor l8 (zshl 1 l9) → ∀ x4 : Int, x4 = zadd l9 1 → zG (d + 1) M_Mo_ajar 104 [(2, Int.ofNat 122), (9, 0), (9, 0), (9, 0), (9, 0), (9, 0), (9, 0), (9, 0), (0, x3), (0, x4), (9, 0)] [] mem Q)))))) : zG (d + 1) M_Mo_ajar 104 [(2, Int.ofNat 122), (9, 0), (9, 0), (9, 0), (9, 0), (9, 0), (9, 0), (9, 0), (0, l8), (0, l9), (9, 0)] [] mem Q := by
  exact zent_ok ok_Mo_ajar (cuts := [104, 176, 189]) (f := 163) (And.intro rfl (zge (fun c6 => (hS.1 c6)) (fun c6 => (And.intro rfl (And.intro (zbd rfl rfl (hS.2 c6).1) (zle (fun c5 => (fun x1 ex1 => (fun x2 ex2 => ((((hS.2 c6).2.1 c5) x1 ex1) x2 ex2)))) (fun c5 => (fun x3 ex3 => (fun x4 ex4 => ((((hS.2 c6).2.2 c5) x3 ex3) x4 ex4))))))))))
theorem v_Mo_ajar_189 {d : Nat} {l2 l3 l4 l5 l8 l9 l10 : Int} {mem : zMem} {Q : Int → zMem → Prop}  (hS : ((zand (zshr l3 l9) 1 = 0 → ∀ x1 : Int, x1 = zadd l9 1 → zG (d + 1) M_Mo_ajar 189 [(2, Int.ofNat 122), (9, 0), (0, l2), (0, l3), (0, l4), (0, l5), (9, 0), (9, 0), (0, l8), (0, x1), (0, l10)] [] mem Q) ∧ (zand (zshr l3 l9) 1 ≠ 0 → zC d K_Mo_stepped [(2, Int.ofNat 122), (0, l5), (0, l9)] mem (fun r2 m1 => ((r2 = -4 → ∀ x3 : Int, x3 = zadd l9 1 → zG (d + 1) M_Mo_ajar 189 [(2, Int.ofNat 122), (9, 0), (0, l2), (0, l3), (0, l4), (0, l5), (9, 0), (9, 0), (0, l8), (0, x3), (0, l10)] [] m1 Q) ∧ (r2 ≠ -4 → zC d K_Mo_stepped [(2, Int.ofNat 122), (0, l5), (0, l9)] m1 (fun r4 m2 => zC d K_Mo_layWays [(2, Int.ofNat 122), (0, r4), (0, zsub (zsub l2 l10) 1), (0, l3), (0, zand l8 (zxor (zshl 1 l9) (-1)))] m2 (fun r5 m3 => ((zlcmp r5 0 ≠ 0 → zC d K_Mo_stepped [(2, Int.ofNat 122), (0, l5), (0, l9)] m3 (fun r6 m4 => ∀ x7 : Int, x7 = zand l8 (zxor (zshl 1 l9) (-1)) → ∀ x8 : Int, x8 = zadd l10 1 → zG (d + 1) M_Mo_ajar 176 [(2, Int.ofNat 122), (9, 0), (0, l2), (0, l3), (0, l4), (0, r6), (9, 0), (9, 0), (0, x7), (0, l9), (0, x8)] [] m4 Q)) ∧ (zlcmp r5 0 = 0 → ∀ x9 : Int, x9 = zadd l9 1 → zG (d + 1) M_Mo_ajar 189 [(2, Int.ofNat 122), (9, 0), (0, l2), (0, l3), (0, l4), (0, l5), (9, 0), (9, 0), (0, l8), (0, x9), (0, l10)] [] m3 Q)))))))))) : zG (d + 1) M_Mo_ajar 189 [(2, Int.ofNat 122), (9, 0), (0, l2), (0, l3), (0, l4), (0, l5), (9, 0), (9, 0), (0, l8), (0, l9), (0, l10)] [] mem Q := by
  exact zent_ok ok_Mo_ajar (cuts := [104, 176, 189]) (f := 163) (zeq (fun c12 => (fun x1 ex1 => ((hS.1 c12) x1 ex1))) (fun c12 => (And.intro rfl (zC.post (hS.2 c12) (fun r2 m1 hr2 => (zeq (fun c11 => (fun x3 ex3 => ((hr2.1 c11) x3 ex3))) (fun c11 => (And.intro rfl (zC.post (hr2.2 c11) (fun r4 m2 hr4 => (And.intro rfl (zC.post hr4 (fun r5 m3 hr5 => (zne (fun c10 => (And.intro rfl (zC.post (hr5.1 c10) (fun r6 m4 hr6 => (zall (fun x7 ex7 => (fun x8 ex8 => ((hr6 x7 ex7) x8 ex8)))))))) (fun c10 => (fun x9 ex9 => ((hr5.2 c10) x9 ex9)))))))))))))))))
theorem v_Mo_layWays {d : Nat} {a1 a2 a3 a4 : Int} {mem : zMem} {Q : Int → zMem → Prop}  (hS : zG (d + 1) M_Mo_layWays 3 [(2, Int.ofNat 122), (0, a1), (0, a2), (0, a3), (0, a4), (0, 0), (9, 0), (9, 0)] [] mem Q) : zC (d + 1) K_Mo_layWays [(2, Int.ofNat 122), (0, a1), (0, a2), (0, a3), (0, a4)] mem Q := by
  exact zC_of ok_Mo_layWays (by decide +kernel) (Nat.le_of_ble_eq_true rfl) rfl (Or.inr (Or.inr (Or.inr rfl))) (zent_ok ok_Mo_layWays (cuts := [3, 40, 102]) (f := 75) (zall hS))
theorem v_Mo_layWays_3 {d : Nat} {l1 l2 l3 l4 l5 : Int} {mem : zMem} {Q : Int → zMem → Prop}  (hS : ((10 ≤ l5 → zC d K_Mo_bitsOf [(0, l4)] mem (fun r1 m1 => ((l2 < r1 → zG (d + 1) M_Mo_layWays 102 [(2, Int.ofNat 122), (9, 0), (9, 0), (9, 0), (9, 0), (1, 0), (9, 0), (0, 0)] [] m1 Q) ∧ (r1 ≤ l2 → zG (d + 1) M_Mo_layWays 40 [(2, Int.ofNat 122), (0, l1), (0, l2), (0, l3), (0, l4), (0, l4), (0, 1), (9, 0)] [] m1 Q)))) ∧ (l5 < 10 → ((0 ≤ l5 ∧ l5 < 10) ∧ ∀ m2 : zMem, m2 = zup mem 141 l5.toNat 0 → ∀ x3 : Int, x3 = zadd l5 1 → zG (d + 1) M_Mo_layWays 3 [(2, Int.ofNat 122), (0, l1), (0, l2), (0, l3), (0, l4), (0, x3), (9, 0), (9, 0)] [] m2 Q)))) : zG (d + 1) M_Mo_layWays 3 [(2, Int.ofNat 122), (0, l1), (0, l2), (0, l3), (0, l4), (0, l5), (9, 0), (9, 0)] [] mem Q := by
  exact zent_ok ok_Mo_layWays (cuts := [3, 40, 102]) (f := 75) (zge (fun c4 => (zC.post (hS.1 c4) (fun r1 m1 hr1 => (zgt (fun c2 => (zall (zall (zG.mask [true, false, false, false, false, true, false, true] (hr1.1 c2))))) (fun c2 => (zall (zall (hr1.2 c2)))))))) (fun c4 => (And.intro rfl (And.intro (zbd rfl rfl (hS.2 c4).1) (fun m2 em2 => (fun x3 ex3 => (((hS.2 c4).2 m2 em2) x3 ex3)))))))
theorem v_Mo_layWays_102 {d : Nat} {l5 l7 : Int} {mem : zMem} {Q : Int → zMem → Prop}  (hS : ((10 ≤ l7 → Q l5 mem) ∧ (l7 < 10 → ((0 ≤ l7 ∧ l7 < 10) ∧ ∀ x1 : Int, x1 = zladd l5 (mem 141 l7.toNat) → ∀ x2 : Int, x2 = zadd l7 1 → zG (d + 1) M_Mo_layWays 102 [(2, Int.ofNat 122), (9, 0), (9, 0), (9, 0), (9, 0), (1, x1), (9, 0), (0, x2)] [] mem Q)))) : zG (d + 1) M_Mo_layWays 102 [(2, Int.ofNat 122), (9, 0), (9, 0), (9, 0), (9, 0), (1, l5), (9, 0), (0, l7)] [] mem Q := by
  exact zent_ok ok_Mo_layWays (cuts := [3, 40, 102]) (f := 75) (zge (fun c3 => (hS.1 c3)) (fun c3 => (And.intro rfl (And.intro (zbd rfl rfl (hS.2 c3).1) (fun x1 ex1 => (fun x2 ex2 => (((hS.2 c3).2 x1 ex1) x2 ex2)))))))
theorem v_Mo_layWays_40 {d : Nat} {l1 l2 l3 l4 l5 l6 : Int} {mem : zMem} {Q : Int → zMem → Prop}  (hS : ((l6 = 0 → zG (d + 1) M_Mo_layWays 102 [(2, Int.ofNat 122), (9, 0), (9, 0), (9, 0), (9, 0), (1, 0), (9, 0), (0, 0)] [] mem Q) ∧ (l6 ≠ 0 → zC d K_Mo_bitsOf [(0, l5)] mem (fun r1 m1 => ((zrem r1 2 ≠ 0 → zC d K_Mo_addWays [(2, Int.ofNat 122), (0, l1), (0, l2), (0, zand l3 (zxor l5 (-1))), (0, -1)] m1 (fun r2 m2 => ((l5 = 0 → ∀ x3 : Int, x3 = zand (zsub l5 1) l4 → zG (d + 1) M_Mo_layWays 40 [(2, Int.ofNat 122), (0, l1), (0, l2), (0, l3), (0, l4), (0, x3), (0, 0), (9, 0)] [] m2 Q) ∧ (l5 ≠ 0 → ∀ x4 : Int, x4 = zand (zsub l5 1) l4 → zG (d + 1) M_Mo_layWays 40 [(2, Int.ofNat 122), (0, l1), (0, l2), (0, l3), (0, l4), (0, x4), (0, 1), (9, 0)] [] m2 Q)))) ∧ (zrem r1 2 = 0 → zC d K_Mo_addWays [(2, Int.ofNat 122), (0, l1), (0, l2), (0, zand l3 (zxor l5 (-1))), (0, 1)] m1 (fun r6 m3 => ((l5 = 0 → ∀ x7 : Int, x7 = zand (zsub l5 1) l4 → zG (d + 1) M_Mo_layWays 40 [(2, Int.ofNat 122), (0, l1), (0, l2), (0, l3), (0, l4), (0, x7), (0, 0), (9, 0)] [] m3 Q) ∧ (l5 ≠ 0 → ∀ x8 : Int, x8 = zand (zsub l5 1) l4 → zG (d + 1) M_Mo_layWays 40 [(2, Int.ofNat 122), (0, l1), (0, l2), (0, l3), (0, l4), (0, x8), (0, 1), (9, 0)] [] m3 Q))))))))) : zG (d + 1) M_Mo_layWays 40 [(2, Int.ofNat 122), (0, l1), (0, l2), (0, l3), (0, l4), (0, l5), (0, l6), (9, 0)] [] mem Q := by
  exact zent_ok ok_Mo_layWays (cuts := [3, 40, 102]) (f := 75) (zeq (fun c11 => (zall (zall (zG.mask [true, false, false, false, false, true, false, true] (hS.1 c11))))) (fun c11 => (zC.post (hS.2 c11) (fun r1 m1 hr1 => (And.intro (by decide) (zne (fun c10 => (And.intro rfl (zC.post (hr1.1 c10) (fun r2 m2 hr2 => (zeq (fun c5 => (zall (fun x3 ex3 => ((hr2.1 c5) x3 ex3)))) (fun c5 => (zall (fun x4 ex4 => ((hr2.2 c5) x4 ex4))))))))) (fun c10 => (And.intro rfl (zC.post (hr1.2 c10) (fun r6 m3 hr6 => (zeq (fun c9 => (zall (fun x7 ex7 => ((hr6.1 c9) x7 ex7)))) (fun c9 => (zall (fun x8 ex8 => ((hr6.2 c9) x8 ex8)))))))))))))))
theorem v_Mo_addWays {d : Nat} {a1 a2 a3 a4 : Int} {mem : zMem} {Q : Int → zMem → Prop}  (hS : zG (d + 1) M_Mo_addWays 3 [(2, Int.ofNat 122), (0, a1), (0, a2), (0, a3), (0, a4), (0, 0), (9, 0), (9, 0), (9, 0)] [] mem Q) : zC (d + 1) K_Mo_addWays [(2, Int.ofNat 122), (0, a1), (0, a2), (0, a3), (0, a4)] mem Q := by
  exact zC_of ok_Mo_addWays (by decide +kernel) (Nat.le_of_ble_eq_true rfl) rfl (Or.inl rfl) (zent_ok ok_Mo_addWays (cuts := [3, 38, 47, 72, 83, 168, 205]) (f := 137) (zall hS))
theorem v_Mo_addWays_3 {d : Nat} {l1 l2 l3 l4 l5 : Int} {mem : zMem} {Q : Int → zMem → Prop}  (hS : ((570 ≤ l5 → zG (d + 1) M_Mo_addWays 38 [(2, Int.ofNat 122), (9, 0), (0, l2), (0, l3), (0, l4), (0, 0), (9, 0), (9, 0), (9, 0)] [] mem Q) ∧ (l5 < 570 → ((l5 ≠ l1 → ((0 ≤ l5 ∧ l5 < 570) ∧ ∀ m1 : zMem, m1 = zup mem 139 l5.toNat 0 → ∀ x1 : Int, x1 = zadd l5 1 → zG (d + 1) M_Mo_addWays 3 [(2, Int.ofNat 122), (0, l1), (0, l2), (0, l3), (0, l4), (0, x1), (9, 0), (9, 0), (9, 0)] [] m1 Q)) ∧ (l5 = l1 → ((0 ≤ l5 ∧ l5 < 570) ∧ ∀ m2 : zMem, m2 = zup mem 139 l5.toNat 1 → ∀ x2 : Int, x2 = zadd l5 1 → zG (d + 1) M_Mo_addWays 3 [(2, Int.ofNat 122), (0, l1), (0, l2), (0, l3), (0, l4), (0, x2), (9, 0), (9, 0), (9, 0)] [] m2 Q)))))) : zG (d + 1) M_Mo_addWays 3 [(2, Int.ofNat 122), (0, l1), (0, l2), (0, l3), (0, l4), (0, l5), (9, 0), (9, 0), (9, 0)] [] mem Q := by
  exact zent_ok ok_Mo_addWays (cuts := [3, 38, 47, 72, 83, 168, 205]) (f := 137) (zge (fun c4 => (zall (zG.mask [true, false, true, true, true, true, false, false, false] (hS.1 c4)))) (fun c4 => (And.intro rfl (zne (fun c3 => (And.intro (zbd rfl rfl ((hS.2 c4).1 c3).1) (fun m1 em1 => (fun x1 ex1 => ((((hS.2 c4).1 c3).2 m1 em1) x1 ex1))))) (fun c3 => (And.intro (zbd rfl rfl ((hS.2 c4).2 c3).1) (fun m2 em2 => (fun x2 ex2 => ((((hS.2 c4).2 c3).2 m2 em2) x2 ex2)))))))))
theorem v_Mo_addWays_38 {d : Nat} {l2 l3 l4 l5 : Int} {mem : zMem} {Q : Int → zMem → Prop}  (hS : ((l2 ≤ l5 → zG (d + 1) M_Mo_addWays 205 [(2, Int.ofNat 122), (9, 0), (9, 0), (9, 0), (0, l4), (0, 0), (9, 0), (9, 0), (9, 0)] [] mem Q) ∧ (l5 < l2 → zG (d + 1) M_Mo_addWays 47 [(2, Int.ofNat 122), (9, 0), (0, l2), (0, l3), (0, l4), (0, l5), (0, 0), (9, 0), (9, 0)] [] mem Q))) : zG (d + 1) M_Mo_addWays 38 [(2, Int.ofNat 122), (9, 0), (0, l2), (0, l3), (0, l4), (0, l5), (9, 0), (9, 0), (9, 0)] [] mem Q := by
  exact zent_ok ok_Mo_addWays (cuts := [3, 38, 47, 72, 83, 168, 205]) (f := 137) (zge (fun c1 => (zall (zG.mask [true, false, false, false, true, true, false, false, false] (hS.1 c1)))) (fun c1 => (zall (hS.2 c1))))
theorem v_Mo_addWays_205 {d : Nat} {l4 l5 : Int} {mem : zMem} {Q : Int → zMem → Prop}  (hS : ((570 ≤ l5 → Q 0 mem) ∧ (l5 < 570 → ((0 ≤ l5 ∧ l5 < 570) ∧ ((zlcmp (mem 139 l5.toNat) 0 ≤ 0 → ∀ x1 : Int, x1 = zadd l5 1 → zG (d + 1) M_Mo_addWays 205 [(2, Int.ofNat 122), (9, 0), (9, 0), (9, 0), (0, l4), (0, x1), (9, 0), (9, 0), (9, 0)] [] mem Q) ∧ (0 < zlcmp (mem 139 l5.toNat) 0 → zC d K_Mo_roomAt [(2, Int.ofNat 122), (0, l5)] mem (fun r2 m1 => ((0 ≤ r2 ∧ r2 < 10) ∧ ((0 ≤ l5 ∧ l5 < 570) ∧ ((0 ≤ r2 ∧ r2 < 10) ∧ ∀ m2 : zMem, m2 = zup m1 141 r2.toNat (zladd (m1 141 r2.toNat) (zlmul l4 (m1 139 l5.toNat))) → ∀ x3 : Int, x3 = zadd l5 1 → zG (d + 1) M_Mo_addWays 205 [(2, Int.ofNat 122), (9, 0), (9, 0), (9, 0), (0, l4), (0, x3), (9, 0), (9, 0), (9, 0)] [] m2 Q)))))))))) : zG (d + 1) M_Mo_addWays 205 [(2, Int.ofNat 122), (9, 0), (9, 0), (9, 0), (0, l4), (0, l5), (9, 0), (9, 0), (9, 0)] [] mem Q := by
  exact zent_ok ok_Mo_addWays (cuts := [3, 38, 47, 72, 83, 168, 205]) (f := 137) (zge (fun c5 => (hS.1 c5)) (fun c5 => (And.intro rfl (And.intro (zbd rfl rfl (hS.2 c5).1) (zle (fun c4 => (fun x1 ex1 => (((hS.2 c5).2.1 c4) x1 ex1))) (fun c4 => (And.intro rfl (And.intro rfl (zC.post ((hS.2 c5).2.2 c4) (fun r2 m1 hr2 => (And.intro (zbd rfl rfl hr2.1) (And.intro rfl (And.intro (zbd rfl rfl hr2.2.1) (And.intro (zbd rfl rfl hr2.2.2.1) (fun m2 em2 => (fun x3 ex3 => ((hr2.2.2.2 m2 em2) x3 ex3)))))))))))))))))
theorem v_Mo_addWays_47 {d : Nat} {l2 l3 l4 l5 l6 : Int} {mem : zMem} {Q : Int → zMem → Prop}  (hS : ((570 ≤ l6 → zG (d + 1) M_Mo_addWays 72 [(2, Int.ofNat 122), (9, 0), (0, l2), (0, l3), (0, l4), (0, l5), (0, 0), (9, 0), (9, 0)] [] mem Q) ∧ (l6 < 570 → ((0 ≤ l6 ∧ l6 < 570) ∧ ∀ m1 : zMem, m1 = zup mem 140 l6.toNat 0 → ∀ x1 : Int, x1 = zadd l6 1 → zG (d + 1) M_Mo_addWays 47 [(2, Int.ofNat 122), (9, 0), (0, l2), (0, l3), (0, l4), (0, l5), (0, x1), (9, 0), (9, 0)] [] m1 Q)))) : zG (d + 1) M_Mo_addWays 47 [(2, Int.ofNat 122), (9, 0), (0, l2), (0, l3), (0, l4), (0, l5), (0, l6), (9, 0), (9, 0)] [] mem Q := by
  exact zent_ok ok_Mo_addWays (cuts := [3, 38, 47, 72, 83, 168, 205]) (f := 137) (zge (fun c2 => (zall (hS.1 c2))) (fun c2 => (And.intro rfl (And.intro (zbd rfl rfl (hS.2 c2).1) (fun m1 em1 => (fun x1 ex1 => (((hS.2 c2).2 m1 em1) x1 ex1)))))))
theorem v_Mo_addWays_72 {d : Nat} {l2 l3 l4 l5 l6 : Int} {mem : zMem} {Q : Int → zMem → Prop}  (hS : ((570 ≤ l6 → zG (d + 1) M_Mo_addWays 168 [(2, Int.ofNat 122), (9, 0), (0, l2), (0, l3), (0, l4), (0, l5), (0, 0), (9, 0), (9, 0)] [] mem Q) ∧ (l6 < 570 → zG (d + 1) M_Mo_addWays 83 [(2, Int.ofNat 122), (9, 0), (0, l2), (0, l3), (0, l4), (0, l5), (0, l6), (0, 0), (9, 0)] [] mem Q))) : zG (d + 1) M_Mo_addWays 72 [(2, Int.ofNat 122), (9, 0), (0, l2), (0, l3), (0, l4), (0, l5), (0, l6), (9, 0), (9, 0)] [] mem Q := by
  exact zent_ok ok_Mo_addWays (cuts := [3, 38, 47, 72, 83, 168, 205]) (f := 137) (zge (fun c1 => (zall (hS.1 c1))) (fun c1 => (zall (hS.2 c1))))
theorem v_Mo_addWays_168 {d : Nat} {l2 l3 l4 l5 l6 : Int} {mem : zMem} {Q : Int → zMem → Prop}  (hS : ((570 ≤ l6 → ∀ x1 : Int, x1 = zadd l5 1 → zG (d + 1) M_Mo_addWays 38 [(2, Int.ofNat 122), (9, 0), (0, l2), (0, l3), (0, l4), (0, x1), (9, 0), (9, 0), (9, 0)] [] mem Q) ∧ (l6 < 570 → ((0 ≤ l6 ∧ l6 < 570) ∧ ((0 ≤ l6 ∧ l6 < 570) ∧ ∀ m1 : zMem, m1 = zup mem 139 l6.toNat (mem 140 l6.toNat) → ∀ x2 : Int, x2 = zadd l6 1 → zG (d + 1) M_Mo_addWays 168 [(2, Int.ofNat 122), (9, 0), (0, l2), (0, l3), (0, l4), (0, l5), (0, x2), (9, 0), (9, 0)] [] m1 Q))))) : zG (d + 1) M_Mo_addWays 168 [(2, Int.ofNat 122), (9, 0), (0, l2), (0, l3), (0, l4), (0, l5), (0, l6), (9, 0), (9, 0)] [] mem Q := by
  exact zent_ok ok_Mo_addWays (cuts := [3, 38, 47, 72, 83, 168, 205]) (f := 137) (zge (fun c3 => (fun x1 ex1 => (zG.mask [true, false, true, true, true, true, false, false, false] ((hS.1 c3) x1 ex1)))) (fun c3 => (And.intro rfl (And.intro rfl (And.intro (zbd rfl rfl (hS.2 c3).1) (And.intro (zbd rfl rfl (hS.2 c3).2.1) (fun m1 em1 => (fun x2 ex2 => (((hS.2 c3).2.2 m1 em1) x2 ex2)))))))))
theorem v_Mo_addWays_83 {d : Nat} {l2 l3 l4 l5 l6 l7 : Int} {mem : zMem} {Q : Int → zMem → Prop}  (hS : zC d K_Mo_doorMany [(2, Int.ofNat 122)] mem (fun r1 m1 => ((r1 ≤ l7 → ∀ x2 : Int, x2 = zadd l6 1 → zG (d + 1) M_Mo_addWays 72 [(2, Int.ofNat 122), (9, 0), (0, l2), (0, l3), (0, l4), (0, l5), (0, x2), (9, 0), (9, 0)] [] m1 Q) ∧ (l7 < r1 → ((0 ≤ l6 ∧ l6 < 570) ∧ ((zlcmp (m1 139 l6.toNat) 0 ≤ 0 → ∀ x3 : Int, x3 = zadd l6 1 → zG (d + 1) M_Mo_addWays 72 [(2, Int.ofNat 122), (9, 0), (0, l2), (0, l3), (0, l4), (0, l5), (0, x3), (9, 0), (9, 0)] [] m1 Q) ∧ (0 < zlcmp (m1 139 l6.toNat) 0 → ((zand (zshr l3 l7) 1 ≠ 1 → ∀ x4 : Int, x4 = zadd l7 1 → zG (d + 1) M_Mo_addWays 83 [(2, Int.ofNat 122), (9, 0), (0, l2), (0, l3), (0, l4), (0, l5), (0, l6), (0, x4), (9, 0)] [] m1 Q) ∧ (zand (zshr l3 l7) 1 = 1 → zC d K_Mo_stepped [(2, Int.ofNat 122), (0, l6), (0, l7)] m1 (fun r5 m2 => ((r5 = -4 → ∀ x6 : Int, x6 = zadd l7 1 → zG (d + 1) M_Mo_addWays 83 [(2, Int.ofNat 122), (9, 0), (0, l2), (0, l3), (0, l4), (0, l5), (0, l6), (0, x6), (9, 0)] [] m2 Q) ∧ (r5 ≠ -4 → ((0 ≤ r5 ∧ r5 < 570) ∧ ((0 ≤ l6 ∧ l6 < 570) ∧ ((0 ≤ r5 ∧ r5 < 570) ∧ ∀ m3 : zMem, m3 = zup m2 140 r5.toNat (zladd (m2 140 r5.toNat) (m2 139 l6.toNat)) → ∀ x7 : Int, x7 = zadd l7 1 → zG (d + 1) M_Mo_addWays 83 [(2, Int.ofNat 122), (9, 0), (0, l2), (0, l3), (0, l4), (0, l5), (0, l6), (0, x7), (9, 0)] [] m3 Q))))))))))))))) : zG (d + 1) M_Mo_addWays 83 [(2, Int.ofNat 122), (9, 0), (0, l2), (0, l3), (0, l4), (0, l5), (0, l6), (0, l7), (9, 0)] [] mem Q := by
  exact zent_ok ok_Mo_addWays (cuts := [3, 38, 47, 72, 83, 168, 205]) (f := 137) (And.intro rfl (zC.post hS (fun r1 m1 hr1 => (zge (fun c11 => (fun x2 ex2 => (zG.mask [true, false, true, true, true, true, true, false, false] ((hr1.1 c11) x2 ex2)))) (fun c11 => (And.intro rfl (And.intro (zbd rfl rfl (hr1.2 c11).1) (zle (fun c10 => (fun x3 ex3 => (zG.mask [true, false, true, true, true, true, true, false, false] (((hr1.2 c11).2.1 c10) x3 ex3)))) (fun c10 => (zne (fun c9 => (zall (zeq (fun _ => (fun x4 ex4 => (zG.mask [true, false, true, true, true, true, true, true, false] ((((hr1.2 c11).2.2 c10).1 c9) x4 ex4)))) (fun q => absurd q (by decide))))) (fun c9 => (And.intro rfl (zC.post (((hr1.2 c11).2.2 c10).2 c9) (fun r5 m2 hr5 => (zall (zeq (fun c8 => (fun x6 ex6 => (zG.mask [true, false, true, true, true, true, true, true, false] ((hr5.1 c8) x6 ex6)))) (fun c8 => (And.intro rfl (And.intro (zbd rfl rfl (hr5.2 c8).1) (And.intro rfl (And.intro (zbd rfl rfl (hr5.2 c8).2.1) (And.intro (zbd rfl rfl (hr5.2 c8).2.2.1) (fun m3 em3 => (fun x7 ex7 => (zG.mask [true, false, true, true, true, true, true, true, false] (((hr5.2 c8).2.2.2 m3 em3) x7 ex7))))))))))))))))))))))))))
theorem v_Mo_keep {d : Nat} {a1 : Int} {mem : zMem} {Q : Int → zMem → Prop}  (hS : zC d K_Mo_in [(1, a1), (1, 0), (1, 1)] mem (fun r1 m1 => ((r1 ≠ 0 → zC d K_Mo_copies [(2, Int.ofNat 122), (0, 0), (0, zmul 88 (zadd a1 1))] m1 (fun r2 m2 => ((0 ≤ a1 ∧ a1 < 2) ∧ ((m2 142 a1.toNat = 0 → ((0 ≤ a1 ∧ a1 < 2) ∧ ∀ m3 : zMem, m3 = zup m2 142 a1.toNat 1 → Q 0 m3)) ∧ (m2 142 a1.toNat ≠ 0 → ((0 ≤ a1 ∧ a1 < 2) ∧ ∀ m4 : zMem, m4 = zup m2 142 a1.toNat 1 → Q 1 m4)))))) ∧ (r1 = 0 → Q (-1) m1)))) : zC (d + 1) K_Mo_keep [(2, Int.ofNat 122), (0, a1)] mem Q := by
  exact zC_of ok_Mo_keep (by decide +kernel) (Nat.le_of_ble_eq_true rfl) rfl (Or.inr (Or.inl rfl)) (zent_ok ok_Mo_keep (cuts := []) (f := 37) (zC.post hS (fun r1 m1 hr1 => (zne (fun c4 => (And.intro rfl (zC.post (hr1.1 c4) (fun r2 m2 hr2 => (And.intro rfl (And.intro (zbd (Or.inr rfl) rfl hr2.1) (zeq (fun c3 => (zall (And.intro rfl (And.intro (zbd (Or.inr ⟨rfl, Or.inr rfl⟩) rfl (hr2.2.1 c3).1) (fun m3 em3 => ((hr2.2.1 c3).2 m3 em3)))))) (fun c3 => (zall (And.intro rfl (And.intro (zbd (Or.inr ⟨rfl, Or.inr rfl⟩) rfl (hr2.2.2 c3).1) (fun m4 em4 => ((hr2.2.2 c3).2 m4 em4))))))))))))) (fun c4 => (hr1.2 c4))))))
theorem v_Mo_copies {d : Nat} {a1 a2 : Int} {mem : zMem} {Q : Int → zMem → Prop}  (hS : zG (d + 1) M_Mo_copies 2 [(2, Int.ofNat 122), (0, a1), (0, a2), (0, 0)] [] mem Q) : zC (d + 1) K_Mo_copies [(2, Int.ofNat 122), (0, a1), (0, a2)] mem Q := by
  exact zC_of ok_Mo_copies (by decide +kernel) (Nat.le_of_ble_eq_true rfl) rfl (Or.inl rfl) (zent_ok ok_Mo_copies (cuts := [2]) (f := 25) (zall hS))
theorem v_Mo_copies_2 {d : Nat} {l1 l2 l3 : Int} {mem : zMem} {Q : Int → zMem → Prop}  (hS : ((88 ≤ l3 → Q 0 mem) ∧ (l3 < 88 → ((0 ≤ zadd l1 l3 ∧ zadd l1 l3 < 264) ∧ ((0 ≤ zadd l2 l3 ∧ zadd l2 l3 < 264) ∧ ∀ m1 : zMem, m1 = zup mem 123 (zadd l2 l3).toNat (mem 123 (zadd l1 l3).toNat) → ∀ x1 : Int, x1 = zadd l3 1 → zG (d + 1) M_Mo_copies 2 [(2, Int.ofNat 122), (0, l1), (0, l2), (0, x1)] [] m1 Q))))) : zG (d + 1) M_Mo_copies 2 [(2, Int.ofNat 122), (0, l1), (0, l2), (0, l3)] [] mem Q := by
  exact zent_ok ok_Mo_copies (cuts := [2]) (f := 25) (zge (fun c2 => (hS.1 c2)) (fun c2 => (And.intro rfl (And.intro rfl (And.intro (zbd rfl rfl (hS.2 c2).1) (And.intro (zbd rfl rfl (hS.2 c2).2.1) (fun m1 em1 => (fun x1 ex1 => (((hS.2 c2).2.2 m1 em1) x1 ex1)))))))))
theorem v_Mo_back {d : Nat} {a1 : Int} {mem : zMem} {Q : Int → zMem → Prop}  (hS : zC d K_Mo_in [(1, a1), (1, 0), (1, 1)] mem (fun r1 m1 => ((r1 ≠ 0 → ((0 ≤ a1 ∧ a1 < 2) ∧ ((m1 142 a1.toNat ≠ 0 → zC d K_Mo_copies [(2, Int.ofNat 122), (0, zmul 88 (zadd a1 1)), (0, 0)] m1 (fun r2 m2 => zC d K_Mo_doorMany [(2, Int.ofNat 122)] m2 (fun r3 m3 => Q r3 m3))) ∧ (m1 142 a1.toNat = 0 → Q (-2) m1)))) ∧ (r1 = 0 → Q (-1) m1)))) : zC (d + 1) K_Mo_back [(2, Int.ofNat 122), (0, a1)] mem Q := by
  exact zC_of ok_Mo_back (by decide +kernel) (Nat.le_of_ble_eq_true rfl) rfl (Or.inr (Or.inl rfl)) (zent_ok ok_Mo_back (cuts := []) (f := 31) (zC.post hS (fun r1 m1 hr1 => (zne (fun c5 => (And.intro rfl (And.intro (zbd (Or.inr rfl) rfl (hr1.1 c5).1) (zne (fun c4 => (And.intro rfl (zC.post ((hr1.1 c5).2.1 c4) (fun r2 m2 hr2 => (And.intro rfl (zC.post hr2 (fun r3 m3 hr3 => hr3))))))) (fun c4 => ((hr1.1 c5).2.2 c4)))))) (fun c5 => (hr1.2 c5))))))
theorem v_Mo_sheet {d : Nat} {a1 a2 a3 : Int} {mem : zMem} {Q : Int → zMem → Prop}  (hS : zC d K_Mo_in [(1, a1), (1, 0), (1, 3)] mem (fun r1 m1 => ((r1 = 0 → Q (-1) m1) ∧ (r1 ≠ 0 → zC d K_Mo_in [(1, a2), (1, 0), (1, 2)] m1 (fun r2 m2 => ((r2 = 0 → Q (-1) m2) ∧ (r2 ≠ 0 → ((a3 ≤ 40 → ((0 ≤ a3 → ((0 ≤ a1 ∧ a1 < 4) ∧ ∀ m3 : zMem, m3 = zup m2 143 a1.toNat a2 → ((0 ≤ a1 ∧ a1 < 4) ∧ ∀ m4 : zMem, m4 = zup m3 144 a1.toNat a3 → zG (d + 1) M_Mo_sheet 56 [(2, Int.ofNat 122), (0, a1), (9, 0), (9, 0), (0, 0)] [] m4 Q))) ∧ (a3 < 0 → Q (-14) m2))) ∧ (40 < a3 → Q (-1) m2))))))))) : zC (d + 1) K_Mo_sheet [(2, Int.ofNat 122), (0, a1), (0, a2), (0, a3)] mem Q := by
  exact zC_of ok_Mo_sheet (by decide +kernel) (Nat.le_of_ble_eq_true rfl) rfl (Or.inr (Or.inl rfl)) (zent_ok ok_Mo_sheet (cuts := [56]) (f := 54) (zC.post hS (fun r1 m1 hr1 => (zeq (fun c6 => (hr1.1 c6)) (fun c6 => (zC.post (hr1.2 c6) (fun r2 m2 hr2 => (zeq (fun c5 => (hr2.1 c5)) (fun c5 => (zle (fun c4 => (zge (fun c3 => (And.intro rfl (And.intro (zbd rfl rfl (((hr2.2 c5).1 c4).1 c3).1) (fun m3 em3 => (And.intro rfl (And.intro (zbd rfl rfl ((((hr2.2 c5).1 c4).1 c3).2 m3 em3).1) (fun m4 em4 => (zall (zG.mask [true, true, false, false, true] (((((hr2.2 c5).1 c4).1 c3).2 m3 em3).2 m4 em4)))))))))) (fun c3 => (((hr2.2 c5).1 c4).2 c3)))) (fun c4 => ((hr2.2 c5).2 c4))))))))))))
theorem v_Mo_sheet_56 {d : Nat} {l1 l4 : Int} {mem : zMem} {Q : Int → zMem → Prop}  (hS : ((40 ≤ l4 → Q 1 mem) ∧ (l4 < 40 → ((0 ≤ zadd (zmul 40 l1) l4 ∧ zadd (zmul 40 l1) l4 < 160) ∧ ∀ m1 : zMem, m1 = zup mem 145 (zadd (zmul 40 l1) l4).toNat 0 → ∀ x1 : Int, x1 = zadd l4 1 → zG (d + 1) M_Mo_sheet 56 [(2, Int.ofNat 122), (0, l1), (9, 0), (9, 0), (0, x1)] [] m1 Q)))) : zG (d + 1) M_Mo_sheet 56 [(2, Int.ofNat 122), (0, l1), (9, 0), (9, 0), (0, l4)] [] mem Q := by
  exact zent_ok ok_Mo_sheet (cuts := [56]) (f := 54) (zge (fun c2 => (hS.1 c2)) (fun c2 => (And.intro rfl (And.intro (zbd rfl rfl (hS.2 c2).1) (fun m1 em1 => (fun x1 ex1 => (((hS.2 c2).2 m1 em1) x1 ex1)))))))
theorem v_Mo_lay {d : Nat} {a1 a2 a3 : Int} {mem : zMem} {Q : Int → zMem → Prop}  (hS : zC d K_Mo_in [(1, a1), (1, 0), (1, 3)] mem (fun r1 m1 => ((r1 ≠ 0 → ((0 ≤ a1 ∧ a1 < 4) ∧ ((m1 143 a1.toNat ≠ -4 → ((0 ≤ a1 ∧ a1 < 4) ∧ zC d K_Mo_in [(1, a2), (1, 0), (1, zsub (m1 144 a1.toNat) 1)] m1 (fun r2 m2 => ((r2 ≠ 0 → ((0 ≤ a1 ∧ a1 < 4) ∧ ((m2 143 a1.toNat ≠ 0 → ((0 ≤ a1 ∧ a1 < 4) ∧ ((m2 143 a1.toNat ≠ 1 → ((0 ≤ zadd (zmul 40 a1) a2 ∧ zadd (zmul 40 a1) a2 < 160) ∧ ∀ m3 : zMem, m3 = zup m2 145 (zadd (zmul 40 a1) a2).toNat a3 → Q 1 m3)) ∧ (m2 143 a1.toNat = 1 → ((0 ≤ zadd (zmul 40 a1) a2 ∧ zadd (zmul 40 a1) a2 < 160) ∧ ∀ m4 : zMem, m4 = zup m2 145 (zadd (zmul 40 a1) a2).toNat (zshr (zshl a3 16) 16) → Q 1 m4))))) ∧ (m2 143 a1.toNat = 0 → ((0 ≤ zadd (zmul 40 a1) a2 ∧ zadd (zmul 40 a1) a2 < 160) ∧ ∀ m5 : zMem, m5 = zup m2 145 (zadd (zmul 40 a1) a2).toNat (zshr (zshl a3 24) 24) → Q 1 m5))))) ∧ (r2 = 0 → Q (-12) m2))))) ∧ (m1 143 a1.toNat = -4 → Q (-11) m1)))) ∧ (r1 = 0 → Q (-1) m1)))) : zC (d + 1) K_Mo_lay [(2, Int.ofNat 122), (0, a1), (0, a2), (0, a3)] mem Q := by
  exact zC_of ok_Mo_lay (by decide +kernel) (Nat.le_of_ble_eq_true rfl) rfl (Or.inr (Or.inl rfl)) (zent_ok ok_Mo_lay (cuts := []) (f := 69) (zC.post hS (fun r1 m1 hr1 => (zne (fun c7 => (And.intro rfl (And.intro (zbd rfl rfl (hr1.1 c7).1) (zne (fun c6 => (And.intro rfl (And.intro (zbd rfl rfl ((hr1.1 c7).2.1 c6).1) (zC.post ((hr1.1 c7).2.1 c6).2 (fun r2 m2 hr2 => (zne (fun c5 => (And.intro rfl (And.intro rfl (And.intro (zbd rfl rfl (hr2.1 c5).1) (zne (fun c4 => (And.intro rfl (And.intro (zbd rfl rfl ((hr2.1 c5).2.1 c4).1) (zne (fun c3 => (And.intro (zbd rfl rfl (((hr2.1 c5).2.1 c4).2.1 c3).1) (fun m3 em3 => ((((hr2.1 c5).2.1 c4).2.1 c3).2 m3 em3)))) (fun c3 => (And.intro (zbd rfl rfl (((hr2.1 c5).2.1 c4).2.2 c3).1) (fun m4 em4 => ((((hr2.1 c5).2.1 c4).2.2 c3).2 m4 em4)))))))) (fun c4 => (And.intro (zbd rfl rfl ((hr2.1 c5).2.2 c4).1) (fun m5 em5 => (((hr2.1 c5).2.2 c4).2 m5 em5))))))))) (fun c5 => (hr2.2 c5)))))))) (fun c6 => ((hr1.1 c7).2.2 c6)))))) (fun c7 => (hr1.2 c7))))))
theorem v_Mo_read {d : Nat} {a1 a2 a3 a4 a5 : Int} {mem : zMem} {Q : Int → zMem → Prop}  (hS : zC d K_Mo_in [(1, a1), (1, 0), (1, 3)] mem (fun r1 m1 => ((r1 = 0 → Q (-1) m1) ∧ (r1 ≠ 0 → zC d K_Mo_in [(1, a2), (1, 0), (1, 2)] m1 (fun r2 m2 => ((r2 = 0 → Q (-1) m2) ∧ (r2 ≠ 0 → zC d K_Mo_in [(1, a5), (1, 0), (1, 12)] m2 (fun r3 m3 => ((r3 = 0 → Q (-1) m3) ∧ (r3 ≠ 0 → zC d K_Mo_isOne [(2, Int.ofNat 122), (0, a3)] m3 (fun r4 m4 => ((r4 ≠ 0 → ∀ x5 : Int, x5 = zadd 57 (zmul 3 a3) → ((0 ≤ x5 ∧ x5 < 264) ∧ ∀ x6 : Int, x6 = m4 123 x5.toNat → ((0 ≤ zadd x5 1 ∧ zadd x5 1 < 264) ∧ ∀ x7 : Int, x7 = m4 123 (zadd x5 1).toNat → ((0 ≤ zadd x5 2 ∧ zadd x5 2 < 264) ∧ ∀ x8 : Int, x8 = m4 123 (zadd x5 2).toNat → zG (d + 1) M_Mo_read 92 [(2, Int.ofNat 122), (0, a1), (0, a2), (0, a3), (0, a4), (0, a5), (0, x5), (0, x6), (0, x7), (0, x8), (0, 0), (0, 0)] [] m4 Q)))) ∧ (r4 = 0 → Q (-1) m4))))))))))))) : zC (d + 1) K_Mo_read [(2, Int.ofNat 122), (0, a1), (0, a2), (0, a3), (0, a4), (0, a5)] mem Q := by
  exact zC_of ok_Mo_read (by decide +kernel) (Nat.le_of_ble_eq_true rfl) rfl (Or.inr (Or.inl rfl)) (zent_ok ok_Mo_read (cuts := [92]) (f := 144) (zC.post hS (fun r1 m1 hr1 => (zeq (fun c12 => (hr1.1 c12)) (fun c12 => (zC.post (hr1.2 c12) (fun r2 m2 hr2 => (zeq (fun c11 => (hr2.1 c11)) (fun c11 => (zC.post (hr2.2 c11) (fun r3 m3 hr3 => (zeq (fun c10 => (hr3.1 c10)) (fun c10 => (And.intro rfl (zC.post (hr3.2 c10) (fun r4 m4 hr4 => (zne (fun c9 => (fun x5 ex5 => (And.intro rfl (And.intro (zbd rfl rfl ((hr4.1 c9) x5 ex5).1) (fun x6 ex6 => (And.intro rfl (And.intro (zbd rfl rfl (((hr4.1 c9) x5 ex5).2 x6 ex6).1) (fun x7 ex7 => (And.intro rfl (And.intro (zbd rfl rfl ((((hr4.1 c9) x5 ex5).2 x6 ex6).2 x7 ex7).1) (fun x8 ex8 => (zall (zall (((((hr4.1 c9) x5 ex5).2 x6 ex6).2 x7 ex7).2 x8 ex8)))))))))))))) (fun c9 => (hr4.2 c9)))))))))))))))))))
theorem v_Mo_read_92 {d : Nat} {l1 l2 l3 l4 l5 l6 l7 l8 l9 l10 l11 : Int} {mem : zMem} {Q : Int → zMem → Prop}  (hS : ((l5 ≤ l11 → ∀ m1 : zMem, m1 = zup mem 122 43 l10 → Q l11 m1) ∧ (l11 < l5 → ((l10 ≠ 0 → ∀ m2 : zMem, m2 = zup mem 122 43 l10 → Q l11 m2) ∧ (l10 = 0 → ((0 ≤ l1 ∧ l1 < 4) ∧ ((mem 143 l1.toNat ≠ -4 → ((0 ≤ l1 ∧ l1 < 4) ∧ ((mem 143 l1.toNat = l2 → ((0 ≤ l1 ∧ l1 < 4) ∧ zC d K_Mo_in [(1, zladd l4 l11), (1, 0), (1, zsub (mem 144 l1.toNat) 1)] mem (fun r1 m3 => ((r1 ≠ 0 → ((0 ≤ zadd (zadd (zmul 40 l1) l4) l11 ∧ zadd (zadd (zmul 40 l1) l4) l11 < 160) ∧ zC d K_Mo_goes [(2, Int.ofNat 122), (0, l3), (0, m3 145 (zadd (zadd (zmul 40 l1) l4) l11).toNat)] m3 (fun r2 m4 => ((0 ≤ r2 → ∀ x3 : Int, x3 = zadd l11 1 → zG (d + 1) M_Mo_read 92 [(2, Int.ofNat 122), (0, l1), (0, l2), (0, l3), (0, l4), (0, l5), (0, l6), (0, l7), (0, l8), (0, l9), (0, 0), (0, x3)] [] m4 Q) ∧ (r2 < 0 → ((0 ≤ l6 ∧ l6 < 264) ∧ ∀ m5 : zMem, m5 = zup m4 123 l6.toNat l7 → ((0 ≤ zadd l6 1 ∧ zadd l6 1 < 264) ∧ ∀ m6 : zMem, m6 = zup m5 123 (zadd l6 1).toNat l8 → ((0 ≤ zadd l6 2 ∧ zadd l6 2 < 264) ∧ ∀ m7 : zMem, m7 = zup m6 123 (zadd l6 2).toNat l9 → Q (zsub (-20) l11) m7)))))))) ∧ (r1 = 0 → zG (d + 1) M_Mo_read 92 [(2, Int.ofNat 122), (0, l1), (0, l2), (0, l3), (0, l4), (0, l5), (0, l6), (0, l7), (0, l8), (0, l9), (0, 2), (0, l11)] [] m3 Q))))) ∧ (mem 143 l1.toNat ≠ l2 → zG (d + 1) M_Mo_read 92 [(2, Int.ofNat 122), (0, l1), (0, l2), (0, l3), (0, l4), (0, l5), (0, l6), (0, l7), (0, l8), (0, l9), (0, 3), (0, l11)] [] mem Q)))) ∧ (mem 143 l1.toNat = -4 → zG (d + 1) M_Mo_read 92 [(2, Int.ofNat 122), (0, l1), (0, l2), (0, l3), (0, l4), (0, l5), (0, l6), (0, l7), (0, l8), (0, l9), (0, 1), (0, l11)] [] mem Q)))))))) : zG (d + 1) M_Mo_read 92 [(2, Int.ofNat 122), (0, l1), (0, l2), (0, l3), (0, l4), (0, l5), (0, l6), (0, l7), (0, l8), (0, l9), (0, l10), (0, l11)] [] mem Q := by
  exact zent_ok ok_Mo_read (cuts := [92]) (f := 144) (zge (fun c9 => (And.intro rfl (fun m1 em1 => ((hS.1 c9) m1 em1)))) (fun c9 => (zne (fun c8 => (And.intro rfl (fun m2 em2 => (((hS.2 c9).1 c8) m2 em2)))) (fun c8 => (And.intro rfl (And.intro (zbd rfl rfl ((hS.2 c9).2 c8).1) (zne (fun c7 => (And.intro rfl (And.intro (zbd rfl rfl (((hS.2 c9).2 c8).2.1 c7).1) (zeq (fun c6 => (And.intro rfl (And.intro (zbd rfl rfl ((((hS.2 c9).2 c8).2.1 c7).2.1 c6).1) (zC.post ((((hS.2 c9).2 c8).2.1 c7).2.1 c6).2 (fun r1 m3 hr1 => (zne (fun c5 => (zall (zne (fun q => absurd q (by decide)) (fun _ => (And.intro rfl (And.intro (zbd rfl rfl (hr1.1 c5).1) (And.intro rfl (zC.post (hr1.1 c5).2 (fun r2 m4 hr2 => (zge (fun c4 => (fun x3 ex3 => ((hr2.1 c4) x3 ex3))) (fun c4 => (And.intro rfl (And.intro (zbd rfl rfl (hr2.2 c4).1) (fun m5 em5 => (And.intro rfl (And.intro (zbd rfl rfl ((hr2.2 c4).2 m5 em5).1) (fun m6 em6 => (And.intro rfl (And.intro (zbd rfl rfl (((hr2.2 c4).2 m5 em5).2 m6 em6).1) (fun m7 em7 => ((((hr2.2 c4).2 m5 em5).2 m6 em6).2 m7 em7))))))))))))))))))))) (fun c5 => (zall (zne (fun _ => (hr1.2 c5)) (fun q => absurd q (by decide))))))))))) (fun c6 => (zall (zne (fun _ => ((((hS.2 c9).2 c8).2.1 c7).2.2 c6)) (fun q => absurd q (by decide))))))))) (fun c7 => (zall (zne (fun _ => (((hS.2 c9).2 c8).2.2 c7)) (fun q => absurd q (by decide))))))))))))
theorem v_Mo_torn {d : Nat}  {mem : zMem} {Q : Int → zMem → Prop}  (hS : Q (mem 122 43) mem) : zC (d + 1) K_Mo_torn [(2, Int.ofNat 122)] mem Q := by
  exact zC_of ok_Mo_torn (by decide +kernel) (Nat.le_of_ble_eq_true rfl) rfl (Or.inr (Or.inl rfl)) (zent_ok ok_Mo_torn (cuts := []) (f := 8) (And.intro rfl hS))
theorem v_Mo_count {d : Nat} {a1 : Int} {mem : zMem} {Q : Int → zMem → Prop}  (hS : zC d K_Mo_layOpens [(2, Int.ofNat 122)] mem (fun r1 m1 => zG (d + 1) M_Mo_count 8 [(2, Int.ofNat 122), (0, a1), (0, 0), (0, 0)] [] m1 Q)) : zC (d + 1) K_Mo_count [(2, Int.ofNat 122), (0, a1)] mem Q := by
  exact zC_of ok_Mo_count (by decide +kernel) (Nat.le_of_ble_eq_true rfl) rfl (Or.inr (Or.inl rfl)) (zent_ok ok_Mo_count (cuts := [8]) (f := 77) (And.intro rfl (zC.post hS (fun r1 m1 hr1 => (zall (zall hr1))))))
theorem v_Mo_count_8 {d : Nat} {l1 l2 l3 : Int} {mem : zMem} {Q : Int → zMem → Prop}  (hS : zC d K_Mo_ones [(2, Int.ofNat 122)] mem (fun r1 m1 => ((r1 ≤ l3 → ((l1 = 0 → Q (m1 122 29) m1) ∧ (l1 = 1 → Q l2 m1) ∧ (l1 = 2 → Q (m1 123 86) m1) ∧ (l1 = 3 → ((m1 142 0 = 0 → ((m1 142 1 = 0 → Q (zadd 0 0) m1) ∧ (m1 142 1 ≠ 0 → Q (zadd 0 1) m1))) ∧ (m1 142 0 ≠ 0 → ((m1 142 1 = 0 → Q (zadd 1 0) m1) ∧ (m1 142 1 ≠ 0 → Q (zadd 1 1) m1))))) ∧ (l1 = 4 → Q (m1 122 10) m1) ∧ (l1 = 5 → ((m1 143 0 ≠ -4 → Q (m1 144 0) m1) ∧ (m1 143 0 = -4 → Q (-4) m1))) ∧ (l1 < 0 ∨ 5 < l1 → Q (-1) m1))) ∧ (l3 < r1 → zC d K_Mo_placeOfOne [(2, Int.ofNat 122), (0, l3)] m1 (fun r7 m2 => zC d K_Mo_isLost [(2, Int.ofNat 122), (0, r7)] m2 (fun r8 m3 => ((r8 = 0 → ∀ x9 : Int, x9 = zadd l2 0 → ∀ x10 : Int, x10 = zadd l3 1 → zG (d + 1) M_Mo_count 8 [(2, Int.ofNat 122), (0, l1), (0, x9), (0, x10)] [] m3 Q) ∧ (r8 ≠ 0 → ∀ x11 : Int, x11 = zadd l2 1 → ∀ x12 : Int, x12 = zadd l3 1 → zG (d + 1) M_Mo_count 8 [(2, Int.ofNat 122), (0, l1), (0, x11), (0, x12)] [] m3 Q)))))))) : zG (d + 1) M_Mo_count 8 [(2, Int.ofNat 122), (0, l1), (0, l2), (0, l3)] [] mem Q := by
  exact zent_ok ok_Mo_count (cuts := [8]) (f := 77) (And.intro rfl (zC.post hS (fun r1 m1 hr1 => (zge (fun c14 => (And.intro (And.intro (fun c6 => (And.intro rfl ((hr1.1 c14).1 c6))) (And.intro (fun c6 => ((hr1.1 c14).2.1 c6)) (And.intro (fun c6 => (And.intro rfl (And.intro (zbd rfl rfl (by decide)) ((hr1.1 c14).2.2.1 c6)))) (And.intro (fun c6 => (And.intro rfl (And.intro (zbd (Or.inr rfl) rfl (by decide)) (zeq (fun c4 => (And.intro rfl (And.intro (zbd (Or.inr rfl) rfl (by decide)) (zeq (fun c2 => ((((hr1.1 c14).2.2.2.1 c6).1 c4).1 c2)) (fun c2 => ((((hr1.1 c14).2.2.2.1 c6).1 c4).2 c2)))))) (fun c4 => (And.intro rfl (And.intro (zbd (Or.inr rfl) rfl (by decide)) (zeq (fun c3 => ((((hr1.1 c14).2.2.2.1 c6).2 c4).1 c3)) (fun c3 => ((((hr1.1 c14).2.2.2.1 c6).2 c4).2 c3)))))))))) (And.intro (fun c6 => (And.intro rfl ((hr1.1 c14).2.2.2.2.1 c6))) (And.intro (fun c6 => (And.intro rfl (And.intro (zbd rfl rfl (by decide)) (zne (fun c5 => (And.intro rfl (And.intro (zbd rfl rfl (by decide)) (((hr1.1 c14).2.2.2.2.2.1 c6).1 c5)))) (fun c5 => (((hr1.1 c14).2.2.2.2.2.1 c6).2 c5)))))) trivial)))))) (fun c6 => ((hr1.1 c14).2.2.2.2.2.2 c6)))) (fun c14 => (And.intro rfl (zC.post (hr1.2 c14) (fun r7 m2 hr7 => (And.intro rfl (zC.post hr7 (fun r8 m3 hr8 => (zeq (fun c13 => (fun x9 ex9 => (fun x10 ex10 => (((hr8.1 c13) x9 ex9) x10 ex10)))) (fun c13 => (fun x11 ex11 => (fun x12 ex12 => (((hr8.2 c13) x11 ex11) x12 ex12))))))))))))))))
end
end
