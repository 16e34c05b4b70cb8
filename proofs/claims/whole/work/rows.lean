section
-- ===== PART A: goes FIRST, ahead of the names: the tables' words, and 'selects' of the private methods out of them =====
/-- a private method of a class that the tables say can be made, by its rows of tables_1 -/
def lw_okq (q : MethodName × Nat) : Prop := (q.1.cls ≠ "java/lang/invoke/MethodHandle" ∧ q.1.cls ≠ "java/lang/invoke/VarHandle") ∧ Cond.instantiable q.1.cls q.2 ∈ tables_1 ∧ Cond.privateMethod q.1 ∈ tables_1 ∧ Cond.instanceMethod q.1 ∈ tables_1
theorem lw_p0 : lw_okq (⟨"OtherDoor$Tape", "nextToken", "()V"⟩, 13) := ⟨⟨by decide +kernel, by decide +kernel⟩, List.mem_of_getElem? (i := 175) (by decide +kernel), List.mem_of_getElem? (i := 466) (by decide +kernel), List.mem_of_getElem? (i := 467) (by decide +kernel)⟩
theorem lw_p1 : lw_okq (⟨"OtherDoor$Tape", "behind", "(CC)I"⟩, 13) := ⟨⟨by decide +kernel, by decide +kernel⟩, List.mem_of_getElem? (i := 175) (by decide +kernel), List.mem_of_getElem? (i := 470) (by decide +kernel), List.mem_of_getElem? (i := 471) (by decide +kernel)⟩
theorem lw_p2 : lw_okq (⟨"OtherDoor$Tape", "takeFigures", "()V"⟩, 13) := ⟨⟨by decide +kernel, by decide +kernel⟩, List.mem_of_getElem? (i := 175) (by decide +kernel), List.mem_of_getElem? (i := 474) (by decide +kernel), List.mem_of_getElem? (i := 475) (by decide +kernel)⟩
theorem lw_p3 : lw_okq (⟨"OtherDoor$Tape", "refuse", "(II)Z"⟩, 13) := ⟨⟨by decide +kernel, by decide +kernel⟩, List.mem_of_getElem? (i := 175) (by decide +kernel), List.mem_of_getElem? (i := 478) (by decide +kernel), List.mem_of_getElem? (i := 479) (by decide +kernel)⟩
theorem lw_p4 : lw_okq (⟨"OtherDoor$Tape", "takeLine", "()Z"⟩, 13) := ⟨⟨by decide +kernel, by decide +kernel⟩, List.mem_of_getElem? (i := 175) (by decide +kernel), List.mem_of_getElem? (i := 482) (by decide +kernel), List.mem_of_getElem? (i := 483) (by decide +kernel)⟩
theorem lw_p5 : lw_okq (⟨"OtherDoor$Tape", "isWord", "(Ljava/lang/String;)Z"⟩, 13) := ⟨⟨by decide +kernel, by decide +kernel⟩, List.mem_of_getElem? (i := 175) (by decide +kernel), List.mem_of_getElem? (i := 487) (by decide +kernel), List.mem_of_getElem? (i := 488) (by decide +kernel)⟩
theorem lw_p6 : lw_okq (⟨"OtherDoor$Tape", "takeRooms", "()Z"⟩, 13) := ⟨⟨by decide +kernel, by decide +kernel⟩, List.mem_of_getElem? (i := 175) (by decide +kernel), List.mem_of_getElem? (i := 539) (by decide +kernel), List.mem_of_getElem? (i := 540) (by decide +kernel)⟩
theorem lw_p7 : lw_okq (⟨"OtherDoor$Tape", "takeNumber", "(II)Z"⟩, 13) := ⟨⟨by decide +kernel, by decide +kernel⟩, List.mem_of_getElem? (i := 175) (by decide +kernel), List.mem_of_getElem? (i := 543) (by decide +kernel), List.mem_of_getElem? (i := 544) (by decide +kernel)⟩
theorem lw_p8 : lw_okq (⟨"OtherDoor$Tape", "takeSign", "()Z"⟩, 13) := ⟨⟨by decide +kernel, by decide +kernel⟩, List.mem_of_getElem? (i := 175) (by decide +kernel), List.mem_of_getElem? (i := 547) (by decide +kernel), List.mem_of_getElem? (i := 548) (by decide +kernel)⟩
theorem lw_p9 : lw_okq (⟨"OtherDoor$Tape", "isSign", "()Z"⟩, 13) := ⟨⟨by decide +kernel, by decide +kernel⟩, List.mem_of_getElem? (i := 175) (by decide +kernel), List.mem_of_getElem? (i := 551) (by decide +kernel), List.mem_of_getElem? (i := 552) (by decide +kernel)⟩
theorem lw_p10 : lw_okq (⟨"OtherDoor$Tape", "takeLaw", "()Z"⟩, 13) := ⟨⟨by decide +kernel, by decide +kernel⟩, List.mem_of_getElem? (i := 175) (by decide +kernel), List.mem_of_getElem? (i := 556) (by decide +kernel), List.mem_of_getElem? (i := 557) (by decide +kernel)⟩
theorem lw_p11 : lw_okq (⟨"OtherDoor$Tape", "takeDoor", "()Z"⟩, 13) := ⟨⟨by decide +kernel, by decide +kernel⟩, List.mem_of_getElem? (i := 175) (by decide +kernel), List.mem_of_getElem? (i := 561) (by decide +kernel), List.mem_of_getElem? (i := 562) (by decide +kernel)⟩
theorem lw_p12 : lw_okq (⟨"OtherDoor$Tape", "colourTold", "()I"⟩, 13) := ⟨⟨by decide +kernel, by decide +kernel⟩, List.mem_of_getElem? (i := 175) (by decide +kernel), List.mem_of_getElem? (i := 565) (by decide +kernel), List.mem_of_getElem? (i := 566) (by decide +kernel)⟩
theorem lw_p13 : lw_okq (⟨"OtherDoor$Tape", "takeOne", "()Z"⟩, 13) := ⟨⟨by decide +kernel, by decide +kernel⟩, List.mem_of_getElem? (i := 175) (by decide +kernel), List.mem_of_getElem? (i := 577) (by decide +kernel), List.mem_of_getElem? (i := 578) (by decide +kernel)⟩
theorem lw_p14 : lw_okq (⟨"OtherDoor$Tape", "takeWalled", "()Z"⟩, 13) := ⟨⟨by decide +kernel, by decide +kernel⟩, List.mem_of_getElem? (i := 175) (by decide +kernel), List.mem_of_getElem? (i := 586) (by decide +kernel), List.mem_of_getElem? (i := 587) (by decide +kernel)⟩
theorem lw_p15 : lw_okq (⟨"OtherDoor$Tape", "closeText", "()Z"⟩, 13) := ⟨⟨by decide +kernel, by decide +kernel⟩, List.mem_of_getElem? (i := 175) (by decide +kernel), List.mem_of_getElem? (i := 590) (by decide +kernel), List.mem_of_getElem? (i := 591) (by decide +kernel)⟩
def lw_privs_1 : List (MethodName × Nat) := [(⟨"OtherDoor$Tape", "nextToken", "()V"⟩, 13), (⟨"OtherDoor$Tape", "behind", "(CC)I"⟩, 13), (⟨"OtherDoor$Tape", "takeFigures", "()V"⟩, 13), (⟨"OtherDoor$Tape", "refuse", "(II)Z"⟩, 13), (⟨"OtherDoor$Tape", "takeLine", "()Z"⟩, 13), (⟨"OtherDoor$Tape", "isWord", "(Ljava/lang/String;)Z"⟩, 13), (⟨"OtherDoor$Tape", "takeRooms", "()Z"⟩, 13), (⟨"OtherDoor$Tape", "takeNumber", "(II)Z"⟩, 13), (⟨"OtherDoor$Tape", "takeSign", "()Z"⟩, 13), (⟨"OtherDoor$Tape", "isSign", "()Z"⟩, 13), (⟨"OtherDoor$Tape", "takeLaw", "()Z"⟩, 13), (⟨"OtherDoor$Tape", "takeDoor", "()Z"⟩, 13), (⟨"OtherDoor$Tape", "colourTold", "()I"⟩, 13), (⟨"OtherDoor$Tape", "takeOne", "()Z"⟩, 13), (⟨"OtherDoor$Tape", "takeWalled", "()Z"⟩, 13), (⟨"OtherDoor$Tape", "closeText", "()Z"⟩, 13)]
theorem lw_r1 : ∀ q ∈ lw_privs_1, lw_okq q := List.forall_mem_cons.mpr ⟨lw_p0, List.forall_mem_cons.mpr ⟨lw_p1, List.forall_mem_cons.mpr ⟨lw_p2, List.forall_mem_cons.mpr ⟨lw_p3, List.forall_mem_cons.mpr ⟨lw_p4, List.forall_mem_cons.mpr ⟨lw_p5, List.forall_mem_cons.mpr ⟨lw_p6, List.forall_mem_cons.mpr ⟨lw_p7, List.forall_mem_cons.mpr ⟨lw_p8, List.forall_mem_cons.mpr ⟨lw_p9, List.forall_mem_cons.mpr ⟨lw_p10, List.forall_mem_cons.mpr ⟨lw_p11, List.forall_mem_cons.mpr ⟨lw_p12, List.forall_mem_cons.mpr ⟨lw_p13, List.forall_mem_cons.mpr ⟨lw_p14, List.forall_mem_cons.mpr ⟨lw_p15, fun _ h => absurd h List.not_mem_nil⟩⟩⟩⟩⟩⟩⟩⟩⟩⟩⟩⟩⟩⟩⟩⟩
theorem lw_p16 : lw_okq (⟨"OtherDoor$Ways", "begin", "(LOtherDoor$House;LOtherDoor$Walker;)V"⟩, 8) := ⟨⟨by decide +kernel, by decide +kernel⟩, List.mem_of_getElem? (i := 231) (by decide +kernel), List.mem_of_getElem? (i := 703) (by decide +kernel), List.mem_of_getElem? (i := 704) (by decide +kernel)⟩
theorem lw_p17 : lw_okq (⟨"OtherDoor$Ways", "spread", "(LOtherDoor$House;I)V"⟩, 8) := ⟨⟨by decide +kernel, by decide +kernel⟩, List.mem_of_getElem? (i := 231) (by decide +kernel), List.mem_of_getElem? (i := 712) (by decide +kernel), List.mem_of_getElem? (i := 713) (by decide +kernel)⟩
theorem lw_p18 : lw_okq (⟨"OtherDoor$Builders", "spreadNew", "(LOtherDoor$House;)V"⟩, 4) := ⟨⟨by decide +kernel, by decide +kernel⟩, List.mem_of_getElem? (i := 346) (by decide +kernel), List.mem_of_getElem? (i := 750) (by decide +kernel), List.mem_of_getElem? (i := 751) (by decide +kernel)⟩
theorem lw_p19 : lw_okq (⟨"OtherDoor$Builders", "enterBy", "(LOtherDoor$House;III)Z"⟩, 4) := ⟨⟨by decide +kernel, by decide +kernel⟩, List.mem_of_getElem? (i := 346) (by decide +kernel), List.mem_of_getElem? (i := 756) (by decide +kernel), List.mem_of_getElem? (i := 757) (by decide +kernel)⟩
theorem lw_p20 : lw_okq (⟨"OtherDoor$Builders", "comersTo", "(II)I"⟩, 4) := ⟨⟨by decide +kernel, by decide +kernel⟩, List.mem_of_getElem? (i := 346) (by decide +kernel), List.mem_of_getElem? (i := 760) (by decide +kernel), List.mem_of_getElem? (i := 761) (by decide +kernel)⟩
theorem lw_p21 : lw_okq (⟨"OtherDoor$House", "losesBySecond", "(I)Z"⟩, 9) := ⟨⟨by decide +kernel, by decide +kernel⟩, List.mem_of_getElem? (i := 36) (by decide +kernel), List.mem_of_getElem? (i := 801) (by decide +kernel), List.mem_of_getElem? (i := 802) (by decide +kernel)⟩
theorem lw_p22 : lw_okq (⟨"OtherDoor$House", "losesBehind", "(II)Z"⟩, 9) := ⟨⟨by decide +kernel, by decide +kernel⟩, List.mem_of_getElem? (i := 36) (by decide +kernel), List.mem_of_getElem? (i := 805) (by decide +kernel), List.mem_of_getElem? (i := 806) (by decide +kernel)⟩
theorem lw_p23 : lw_okq (⟨"OtherDoor$Rounds", "begin", "(II)V"⟩, 7) := ⟨⟨by decide +kernel, by decide +kernel⟩, List.mem_of_getElem? (i := 262) (by decide +kernel), List.mem_of_getElem? (i := 819) (by decide +kernel), List.mem_of_getElem? (i := 820) (by decide +kernel)⟩
theorem lw_p24 : lw_okq (⟨"OtherDoor$Rounds", "put", "(III)V"⟩, 7) := ⟨⟨by decide +kernel, by decide +kernel⟩, List.mem_of_getElem? (i := 262) (by decide +kernel), List.mem_of_getElem? (i := 825) (by decide +kernel), List.mem_of_getElem? (i := 826) (by decide +kernel)⟩
theorem lw_p25 : lw_okq (⟨"OtherDoor$Rounds", "spreadLevel", "(LOtherDoor$House;I)Z"⟩, 7) := ⟨⟨by decide +kernel, by decide +kernel⟩, List.mem_of_getElem? (i := 262) (by decide +kernel), List.mem_of_getElem? (i := 829) (by decide +kernel), List.mem_of_getElem? (i := 830) (by decide +kernel)⟩
theorem lw_p26 : lw_okq (⟨"OtherDoor$Rounds", "spread", "(LOtherDoor$House;III)Z"⟩, 7) := ⟨⟨by decide +kernel, by decide +kernel⟩, List.mem_of_getElem? (i := 262) (by decide +kernel), List.mem_of_getElem? (i := 833) (by decide +kernel), List.mem_of_getElem? (i := 834) (by decide +kernel)⟩
theorem lw_p27 : lw_okq (⟨"OtherDoor$Rounds", "withRoom", "(II)I"⟩, 7) := ⟨⟨by decide +kernel, by decide +kernel⟩, List.mem_of_getElem? (i := 262) (by decide +kernel), List.mem_of_getElem? (i := 843) (by decide +kernel), List.mem_of_getElem? (i := 844) (by decide +kernel)⟩
theorem lw_p28 : lw_okq (⟨"OtherDoor$Tours", "fill", "(LOtherDoor$House;I)V"⟩, 4) := ⟨⟨by decide +kernel, by decide +kernel⟩, List.mem_of_getElem? (i := 292) (by decide +kernel), List.mem_of_getElem? (i := 864) (by decide +kernel), List.mem_of_getElem? (i := 865) (by decide +kernel)⟩
theorem lw_p29 : lw_okq (⟨"OtherDoor$Tours", "roomBehind", "(LOtherDoor$House;I)I"⟩, 4) := ⟨⟨by decide +kernel, by decide +kernel⟩, List.mem_of_getElem? (i := 292) (by decide +kernel), List.mem_of_getElem? (i := 868) (by decide +kernel), List.mem_of_getElem? (i := 869) (by decide +kernel)⟩
theorem lw_p30 : lw_okq (⟨"OtherDoor$Tours", "through", "(LOtherDoor$House;IIII)I"⟩, 4) := ⟨⟨by decide +kernel, by decide +kernel⟩, List.mem_of_getElem? (i := 292) (by decide +kernel), List.mem_of_getElem? (i := 872) (by decide +kernel), List.mem_of_getElem? (i := 873) (by decide +kernel)⟩
theorem lw_p31 : lw_okq (⟨"OtherDoor$Two", "addSpot", "(LOtherDoor$House;III)V"⟩, 9) := ⟨⟨by decide +kernel, by decide +kernel⟩, List.mem_of_getElem? (i := 311) (by decide +kernel), List.mem_of_getElem? (i := 896) (by decide +kernel), List.mem_of_getElem? (i := 897) (by decide +kernel)⟩
def lw_privs_2 : List (MethodName × Nat) := [(⟨"OtherDoor$Ways", "begin", "(LOtherDoor$House;LOtherDoor$Walker;)V"⟩, 8), (⟨"OtherDoor$Ways", "spread", "(LOtherDoor$House;I)V"⟩, 8), (⟨"OtherDoor$Builders", "spreadNew", "(LOtherDoor$House;)V"⟩, 4), (⟨"OtherDoor$Builders", "enterBy", "(LOtherDoor$House;III)Z"⟩, 4), (⟨"OtherDoor$Builders", "comersTo", "(II)I"⟩, 4), (⟨"OtherDoor$House", "losesBySecond", "(I)Z"⟩, 9), (⟨"OtherDoor$House", "losesBehind", "(II)Z"⟩, 9), (⟨"OtherDoor$Rounds", "begin", "(II)V"⟩, 7), (⟨"OtherDoor$Rounds", "put", "(III)V"⟩, 7), (⟨"OtherDoor$Rounds", "spreadLevel", "(LOtherDoor$House;I)Z"⟩, 7), (⟨"OtherDoor$Rounds", "spread", "(LOtherDoor$House;III)Z"⟩, 7), (⟨"OtherDoor$Rounds", "withRoom", "(II)I"⟩, 7), (⟨"OtherDoor$Tours", "fill", "(LOtherDoor$House;I)V"⟩, 4), (⟨"OtherDoor$Tours", "roomBehind", "(LOtherDoor$House;I)I"⟩, 4), (⟨"OtherDoor$Tours", "through", "(LOtherDoor$House;IIII)I"⟩, 4), (⟨"OtherDoor$Two", "addSpot", "(LOtherDoor$House;III)V"⟩, 9)]
theorem lw_r2 : ∀ q ∈ lw_privs_2, lw_okq q := List.forall_mem_cons.mpr ⟨lw_p16, List.forall_mem_cons.mpr ⟨lw_p17, List.forall_mem_cons.mpr ⟨lw_p18, List.forall_mem_cons.mpr ⟨lw_p19, List.forall_mem_cons.mpr ⟨lw_p20, List.forall_mem_cons.mpr ⟨lw_p21, List.forall_mem_cons.mpr ⟨lw_p22, List.forall_mem_cons.mpr ⟨lw_p23, List.forall_mem_cons.mpr ⟨lw_p24, List.forall_mem_cons.mpr ⟨lw_p25, List.forall_mem_cons.mpr ⟨lw_p26, List.forall_mem_cons.mpr ⟨lw_p27, List.forall_mem_cons.mpr ⟨lw_p28, List.forall_mem_cons.mpr ⟨lw_p29, List.forall_mem_cons.mpr ⟨lw_p30, List.forall_mem_cons.mpr ⟨lw_p31, fun _ h => absurd h List.not_mem_nil⟩⟩⟩⟩⟩⟩⟩⟩⟩⟩⟩⟩⟩⟩⟩⟩
theorem lw_p32 : lw_okq (⟨"OtherDoor$Two", "together", "()Z"⟩, 9) := ⟨⟨by decide +kernel, by decide +kernel⟩, List.mem_of_getElem? (i := 311) (by decide +kernel), List.mem_of_getElem? (i := 907) (by decide +kernel), List.mem_of_getElem? (i := 908) (by decide +kernel)⟩
theorem lw_p33 : lw_okq (⟨"OtherDoor$Two", "put", "(III)V"⟩, 9) := ⟨⟨by decide +kernel, by decide +kernel⟩, List.mem_of_getElem? (i := 311) (by decide +kernel), List.mem_of_getElem? (i := 911) (by decide +kernel), List.mem_of_getElem? (i := 912) (by decide +kernel)⟩
theorem lw_p34 : lw_okq (⟨"OtherDoor$Two", "turnMinute", "()V"⟩, 9) := ⟨⟨by decide +kernel, by decide +kernel⟩, List.mem_of_getElem? (i := 311) (by decide +kernel), List.mem_of_getElem? (i := 915) (by decide +kernel), List.mem_of_getElem? (i := 916) (by decide +kernel)⟩
theorem lw_p35 : lw_okq (⟨"OtherDoor$Two", "talkMinute", "(I)Z"⟩, 9) := ⟨⟨by decide +kernel, by decide +kernel⟩, List.mem_of_getElem? (i := 311) (by decide +kernel), List.mem_of_getElem? (i := 920) (by decide +kernel), List.mem_of_getElem? (i := 921) (by decide +kernel)⟩
theorem lw_p36 : lw_okq (⟨"OtherDoor$Two", "talkStep", "(III)Z"⟩, 9) := ⟨⟨by decide +kernel, by decide +kernel⟩, List.mem_of_getElem? (i := 311) (by decide +kernel), List.mem_of_getElem? (i := 924) (by decide +kernel), List.mem_of_getElem? (i := 925) (by decide +kernel)⟩
theorem lw_p37 : lw_okq (⟨"OtherDoor$Two", "nextOf", "(I)I"⟩, 9) := ⟨⟨by decide +kernel, by decide +kernel⟩, List.mem_of_getElem? (i := 311) (by decide +kernel), List.mem_of_getElem? (i := 928) (by decide +kernel), List.mem_of_getElem? (i := 929) (by decide +kernel)⟩
theorem lw_p38 : lw_okq (⟨"OtherDoor$Two", "cupMinute", "(I)Z"⟩, 9) := ⟨⟨by decide +kernel, by decide +kernel⟩, List.mem_of_getElem? (i := 311) (by decide +kernel), List.mem_of_getElem? (i := 940) (by decide +kernel), List.mem_of_getElem? (i := 941) (by decide +kernel)⟩
theorem lw_p39 : lw_okq (⟨"OtherDoor$Two", "cupStep", "(III)Z"⟩, 9) := ⟨⟨by decide +kernel, by decide +kernel⟩, List.mem_of_getElem? (i := 311) (by decide +kernel), List.mem_of_getElem? (i := 944) (by decide +kernel), List.mem_of_getElem? (i := 945) (by decide +kernel)⟩
theorem lw_p40 : lw_okq (⟨"OtherDoor$Builders", "tryMore", "(LOtherDoor$House;II)V"⟩, 4) := ⟨⟨by decide +kernel, by decide +kernel⟩, List.mem_of_getElem? (i := 346) (by decide +kernel), List.mem_of_getElem? (i := 957) (by decide +kernel), List.mem_of_getElem? (i := 958) (by decide +kernel)⟩
theorem lw_p41 : lw_okq (⟨"OtherDoor$Builders", "mendByOne", "(LOtherDoor$House;III)Z"⟩, 4) := ⟨⟨by decide +kernel, by decide +kernel⟩, List.mem_of_getElem? (i := 346) (by decide +kernel), List.mem_of_getElem? (i := 988) (by decide +kernel), List.mem_of_getElem? (i := 989) (by decide +kernel)⟩
theorem lw_p42 : lw_okq (⟨"OtherDoor$Builders", "mendByTwo", "(LOtherDoor$House;I)Z"⟩, 4) := ⟨⟨by decide +kernel, by decide +kernel⟩, List.mem_of_getElem? (i := 346) (by decide +kernel), List.mem_of_getElem? (i := 999) (by decide +kernel), List.mem_of_getElem? (i := 1000) (by decide +kernel)⟩
theorem lw_p43 : lw_okq (⟨"OtherDoor$Trails", "follow", "(LOtherDoor$House;IIIII)V"⟩, 6) := ⟨⟨by decide +kernel, by decide +kernel⟩, List.mem_of_getElem? (i := 367) (by decide +kernel), List.mem_of_getElem? (i := 1023) (by decide +kernel), List.mem_of_getElem? (i := 1024) (by decide +kernel)⟩
theorem lw_p44 : lw_okq (⟨"OtherDoor$Trails", "note", "(I)V"⟩, 6) := ⟨⟨by decide +kernel, by decide +kernel⟩, List.mem_of_getElem? (i := 367) (by decide +kernel), List.mem_of_getElem? (i := 1028) (by decide +kernel), List.mem_of_getElem? (i := 1029) (by decide +kernel)⟩
theorem lw_p45 : lw_okq (⟨"OtherDoor$Trails", "branch", "(LOtherDoor$House;IIIII)V"⟩, 6) := ⟨⟨by decide +kernel, by decide +kernel⟩, List.mem_of_getElem? (i := 367) (by decide +kernel), List.mem_of_getElem? (i := 1033) (by decide +kernel), List.mem_of_getElem? (i := 1034) (by decide +kernel)⟩
theorem lw_p46 : lw_okq (⟨"OtherDoorModel", "step", "()V"⟩, 44) := ⟨⟨by decide +kernel, by decide +kernel⟩, List.mem_of_getElem? (i := 1092) (by decide +kernel), List.mem_of_getElem? (i := 1248) (by decide +kernel), List.mem_of_getElem? (i := 1249) (by decide +kernel)⟩
theorem lw_p47 : lw_okq (⟨"OtherDoorModel", "byteAt", "(I)I"⟩, 44) := ⟨⟨by decide +kernel, by decide +kernel⟩, List.mem_of_getElem? (i := 1092) (by decide +kernel), List.mem_of_getElem? (i := 1252) (by decide +kernel), List.mem_of_getElem? (i := 1253) (by decide +kernel)⟩
def lw_privs_3 : List (MethodName × Nat) := [(⟨"OtherDoor$Two", "together", "()Z"⟩, 9), (⟨"OtherDoor$Two", "put", "(III)V"⟩, 9), (⟨"OtherDoor$Two", "turnMinute", "()V"⟩, 9), (⟨"OtherDoor$Two", "talkMinute", "(I)Z"⟩, 9), (⟨"OtherDoor$Two", "talkStep", "(III)Z"⟩, 9), (⟨"OtherDoor$Two", "nextOf", "(I)I"⟩, 9), (⟨"OtherDoor$Two", "cupMinute", "(I)Z"⟩, 9), (⟨"OtherDoor$Two", "cupStep", "(III)Z"⟩, 9), (⟨"OtherDoor$Builders", "tryMore", "(LOtherDoor$House;II)V"⟩, 4), (⟨"OtherDoor$Builders", "mendByOne", "(LOtherDoor$House;III)Z"⟩, 4), (⟨"OtherDoor$Builders", "mendByTwo", "(LOtherDoor$House;I)Z"⟩, 4), (⟨"OtherDoor$Trails", "follow", "(LOtherDoor$House;IIIII)V"⟩, 6), (⟨"OtherDoor$Trails", "note", "(I)V"⟩, 6), (⟨"OtherDoor$Trails", "branch", "(LOtherDoor$House;IIIII)V"⟩, 6), (⟨"OtherDoorModel", "step", "()V"⟩, 44), (⟨"OtherDoorModel", "byteAt", "(I)I"⟩, 44)]
theorem lw_r3 : ∀ q ∈ lw_privs_3, lw_okq q := List.forall_mem_cons.mpr ⟨lw_p32, List.forall_mem_cons.mpr ⟨lw_p33, List.forall_mem_cons.mpr ⟨lw_p34, List.forall_mem_cons.mpr ⟨lw_p35, List.forall_mem_cons.mpr ⟨lw_p36, List.forall_mem_cons.mpr ⟨lw_p37, List.forall_mem_cons.mpr ⟨lw_p38, List.forall_mem_cons.mpr ⟨lw_p39, List.forall_mem_cons.mpr ⟨lw_p40, List.forall_mem_cons.mpr ⟨lw_p41, List.forall_mem_cons.mpr ⟨lw_p42, List.forall_mem_cons.mpr ⟨lw_p43, List.forall_mem_cons.mpr ⟨lw_p44, List.forall_mem_cons.mpr ⟨lw_p45, List.forall_mem_cons.mpr ⟨lw_p46, List.forall_mem_cons.mpr ⟨lw_p47, fun _ h => absurd h List.not_mem_nil⟩⟩⟩⟩⟩⟩⟩⟩⟩⟩⟩⟩⟩⟩⟩⟩
theorem lw_p48 : lw_okq (⟨"OtherDoorModel", "fails", "(I)V"⟩, 44) := ⟨⟨by decide +kernel, by decide +kernel⟩, List.mem_of_getElem? (i := 1092) (by decide +kernel), List.mem_of_getElem? (i := 1260) (by decide +kernel), List.mem_of_getElem? (i := 1261) (by decide +kernel)⟩
theorem lw_p49 : lw_okq (⟨"OtherDoorModel", "readLine", "()V"⟩, 44) := ⟨⟨by decide +kernel, by decide +kernel⟩, List.mem_of_getElem? (i := 1092) (by decide +kernel), List.mem_of_getElem? (i := 1264) (by decide +kernel), List.mem_of_getElem? (i := 1265) (by decide +kernel)⟩
theorem lw_p50 : lw_okq (⟨"OtherDoorModel", "nameHere", "()I"⟩, 44) := ⟨⟨by decide +kernel, by decide +kernel⟩, List.mem_of_getElem? (i := 1092) (by decide +kernel), List.mem_of_getElem? (i := 1268) (by decide +kernel), List.mem_of_getElem? (i := 1269) (by decide +kernel)⟩
theorem lw_p51 : lw_okq (⟨"OtherDoorModel", "readDoor", "()V"⟩, 44) := ⟨⟨by decide +kernel, by decide +kernel⟩, List.mem_of_getElem? (i := 1092) (by decide +kernel), List.mem_of_getElem? (i := 1273) (by decide +kernel), List.mem_of_getElem? (i := 1274) (by decide +kernel)⟩
theorem lw_p52 : lw_okq (⟨"OtherDoorModel", "room", "(I)I"⟩, 44) := ⟨⟨by decide +kernel, by decide +kernel⟩, List.mem_of_getElem? (i := 1092) (by decide +kernel), List.mem_of_getElem? (i := 1277) (by decide +kernel), List.mem_of_getElem? (i := 1278) (by decide +kernel)⟩
theorem lw_p53 : lw_okq (⟨"OtherDoorModel", "looks", "(II)V"⟩, 44) := ⟨⟨by decide +kernel, by decide +kernel⟩, List.mem_of_getElem? (i := 1092) (by decide +kernel), List.mem_of_getElem? (i := 1281) (by decide +kernel), List.mem_of_getElem? (i := 1282) (by decide +kernel)⟩
theorem lw_p54 : lw_okq (⟨"OtherDoorModel", "number", "(II)I"⟩, 44) := ⟨⟨by decide +kernel, by decide +kernel⟩, List.mem_of_getElem? (i := 1092) (by decide +kernel), List.mem_of_getElem? (i := 1285) (by decide +kernel), List.mem_of_getElem? (i := 1286) (by decide +kernel)⟩
theorem lw_p55 : lw_okq (⟨"OtherDoorModel", "readOne", "()V"⟩, 44) := ⟨⟨by decide +kernel, by decide +kernel⟩, List.mem_of_getElem? (i := 1092) (by decide +kernel), List.mem_of_getElem? (i := 1289) (by decide +kernel), List.mem_of_getElem? (i := 1290) (by decide +kernel)⟩
theorem lw_p56 : lw_okq (⟨"OtherDoorModel", "readWalled", "()V"⟩, 44) := ⟨⟨by decide +kernel, by decide +kernel⟩, List.mem_of_getElem? (i := 1092) (by decide +kernel), List.mem_of_getElem? (i := 1293) (by decide +kernel), List.mem_of_getElem? (i := 1294) (by decide +kernel)⟩
theorem lw_p57 : lw_okq (⟨"OtherDoorModel", "doorMany", "()I"⟩, 44) := ⟨⟨by decide +kernel, by decide +kernel⟩, List.mem_of_getElem? (i := 1092) (by decide +kernel), List.mem_of_getElem? (i := 1297) (by decide +kernel), List.mem_of_getElem? (i := 1298) (by decide +kernel)⟩
theorem lw_p58 : lw_okq (⟨"OtherDoorModel", "ones", "()I"⟩, 44) := ⟨⟨by decide +kernel, by decide +kernel⟩, List.mem_of_getElem? (i := 1092) (by decide +kernel), List.mem_of_getElem? (i := 1309) (by decide +kernel), List.mem_of_getElem? (i := 1310) (by decide +kernel)⟩
theorem lw_p59 : lw_okq (⟨"OtherDoorModel", "isDoor", "(I)Z"⟩, 44) := ⟨⟨by decide +kernel, by decide +kernel⟩, List.mem_of_getElem? (i := 1092) (by decide +kernel), List.mem_of_getElem? (i := 1317) (by decide +kernel), List.mem_of_getElem? (i := 1318) (by decide +kernel)⟩
theorem lw_p60 : lw_okq (⟨"OtherDoorModel", "isOne", "(I)Z"⟩, 44) := ⟨⟨by decide +kernel, by decide +kernel⟩, List.mem_of_getElem? (i := 1092) (by decide +kernel), List.mem_of_getElem? (i := 1326) (by decide +kernel), List.mem_of_getElem? (i := 1327) (by decide +kernel)⟩
theorem lw_p61 : lw_okq (⟨"OtherDoorModel", "placeOfOne", "(I)I"⟩, 44) := ⟨⟨by decide +kernel, by decide +kernel⟩, List.mem_of_getElem? (i := 1092) (by decide +kernel), List.mem_of_getElem? (i := 1330) (by decide +kernel), List.mem_of_getElem? (i := 1331) (by decide +kernel)⟩
theorem lw_p62 : lw_okq (⟨"OtherDoorModel", "mayTake", "(I)I"⟩, 44) := ⟨⟨by decide +kernel, by decide +kernel⟩, List.mem_of_getElem? (i := 1092) (by decide +kernel), List.mem_of_getElem? (i := 1337) (by decide +kernel), List.mem_of_getElem? (i := 1338) (by decide +kernel)⟩
theorem lw_p63 : lw_okq (⟨"OtherDoorModel", "stepped", "(II)I"⟩, 44) := ⟨⟨by decide +kernel, by decide +kernel⟩, List.mem_of_getElem? (i := 1092) (by decide +kernel), List.mem_of_getElem? (i := 1341) (by decide +kernel), List.mem_of_getElem? (i := 1342) (by decide +kernel)⟩
def lw_privs_4 : List (MethodName × Nat) := [(⟨"OtherDoorModel", "fails", "(I)V"⟩, 44), (⟨"OtherDoorModel", "readLine", "()V"⟩, 44), (⟨"OtherDoorModel", "nameHere", "()I"⟩, 44), (⟨"OtherDoorModel", "readDoor", "()V"⟩, 44), (⟨"OtherDoorModel", "room", "(I)I"⟩, 44), (⟨"OtherDoorModel", "looks", "(II)V"⟩, 44), (⟨"OtherDoorModel", "number", "(II)I"⟩, 44), (⟨"OtherDoorModel", "readOne", "()V"⟩, 44), (⟨"OtherDoorModel", "readWalled", "()V"⟩, 44), (⟨"OtherDoorModel", "doorMany", "()I"⟩, 44), (⟨"OtherDoorModel", "ones", "()I"⟩, 44), (⟨"OtherDoorModel", "isDoor", "(I)Z"⟩, 44), (⟨"OtherDoorModel", "isOne", "(I)Z"⟩, 44), (⟨"OtherDoorModel", "placeOfOne", "(I)I"⟩, 44), (⟨"OtherDoorModel", "mayTake", "(I)I"⟩, 44), (⟨"OtherDoorModel", "stepped", "(II)I"⟩, 44)]
theorem lw_r4 : ∀ q ∈ lw_privs_4, lw_okq q := List.forall_mem_cons.mpr ⟨lw_p48, List.forall_mem_cons.mpr ⟨lw_p49, List.forall_mem_cons.mpr ⟨lw_p50, List.forall_mem_cons.mpr ⟨lw_p51, List.forall_mem_cons.mpr ⟨lw_p52, List.forall_mem_cons.mpr ⟨lw_p53, List.forall_mem_cons.mpr ⟨lw_p54, List.forall_mem_cons.mpr ⟨lw_p55, List.forall_mem_cons.mpr ⟨lw_p56, List.forall_mem_cons.mpr ⟨lw_p57, List.forall_mem_cons.mpr ⟨lw_p58, List.forall_mem_cons.mpr ⟨lw_p59, List.forall_mem_cons.mpr ⟨lw_p60, List.forall_mem_cons.mpr ⟨lw_p61, List.forall_mem_cons.mpr ⟨lw_p62, List.forall_mem_cons.mpr ⟨lw_p63, fun _ h => absurd h List.not_mem_nil⟩⟩⟩⟩⟩⟩⟩⟩⟩⟩⟩⟩⟩⟩⟩⟩
theorem lw_p64 : lw_okq (⟨"OtherDoorModel", "roomAt", "(I)I"⟩, 44) := ⟨⟨by decide +kernel, by decide +kernel⟩, List.mem_of_getElem? (i := 1092) (by decide +kernel), List.mem_of_getElem? (i := 1345) (by decide +kernel), List.mem_of_getElem? (i := 1346) (by decide +kernel)⟩
theorem lw_p65 : lw_okq (⟨"OtherDoorModel", "isRoom", "(I)Z"⟩, 44) := ⟨⟨by decide +kernel, by decide +kernel⟩, List.mem_of_getElem? (i := 1092) (by decide +kernel), List.mem_of_getElem? (i := 1356) (by decide +kernel), List.mem_of_getElem? (i := 1357) (by decide +kernel)⟩
theorem lw_p66 : lw_okq (⟨"OtherDoorModel", "doorsOf", "(I)I"⟩, 44) := ⟨⟨by decide +kernel, by decide +kernel⟩, List.mem_of_getElem? (i := 1092) (by decide +kernel), List.mem_of_getElem? (i := 1360) (by decide +kernel), List.mem_of_getElem? (i := 1361) (by decide +kernel)⟩
theorem lw_p67 : lw_okq (⟨"OtherDoorModel", "addDoor", "(III)V"⟩, 44) := ⟨⟨by decide +kernel, by decide +kernel⟩, List.mem_of_getElem? (i := 1092) (by decide +kernel), List.mem_of_getElem? (i := 1372) (by decide +kernel), List.mem_of_getElem? (i := 1373) (by decide +kernel)⟩
theorem lw_p68 : lw_okq (⟨"OtherDoorModel", "goes", "(II)I"⟩, 44) := ⟨⟨by decide +kernel, by decide +kernel⟩, List.mem_of_getElem? (i := 1092) (by decide +kernel), List.mem_of_getElem? (i := 1388) (by decide +kernel), List.mem_of_getElem? (i := 1389) (by decide +kernel)⟩
theorem lw_p69 : lw_okq (⟨"OtherDoorModel", "laysFrom", "(I)V"⟩, 44) := ⟨⟨by decide +kernel, by decide +kernel⟩, List.mem_of_getElem? (i := 1092) (by decide +kernel), List.mem_of_getElem? (i := 1396) (by decide +kernel), List.mem_of_getElem? (i := 1397) (by decide +kernel)⟩
theorem lw_p70 : lw_okq (⟨"OtherDoorModel", "begins", "()V"⟩, 44) := ⟨⟨by decide +kernel, by decide +kernel⟩, List.mem_of_getElem? (i := 1092) (by decide +kernel), List.mem_of_getElem? (i := 1400) (by decide +kernel), List.mem_of_getElem? (i := 1401) (by decide +kernel)⟩
theorem lw_p71 : lw_okq (⟨"OtherDoorModel", "finds", "(IIII)V"⟩, 44) := ⟨⟨by decide +kernel, by decide +kernel⟩, List.mem_of_getElem? (i := 1092) (by decide +kernel), List.mem_of_getElem? (i := 1404) (by decide +kernel), List.mem_of_getElem? (i := 1405) (by decide +kernel)⟩
theorem lw_p72 : lw_okq (⟨"OtherDoorModel", "spreads", "()V"⟩, 44) := ⟨⟨by decide +kernel, by decide +kernel⟩, List.mem_of_getElem? (i := 1092) (by decide +kernel), List.mem_of_getElem? (i := 1408) (by decide +kernel), List.mem_of_getElem? (i := 1409) (by decide +kernel)⟩
theorem lw_p73 : lw_okq (⟨"OtherDoorModel", "foundIn", "(I)I"⟩, 44) := ⟨⟨by decide +kernel, by decide +kernel⟩, List.mem_of_getElem? (i := 1092) (by decide +kernel), List.mem_of_getElem? (i := 1412) (by decide +kernel), List.mem_of_getElem? (i := 1413) (by decide +kernel)⟩
theorem lw_p74 : lw_okq (⟨"OtherDoorModel", "foundRooms", "()I"⟩, 44) := ⟨⟨by decide +kernel, by decide +kernel⟩, List.mem_of_getElem? (i := 1092) (by decide +kernel), List.mem_of_getElem? (i := 1424) (by decide +kernel), List.mem_of_getElem? (i := 1425) (by decide +kernel)⟩
theorem lw_p75 : lw_okq (⟨"OtherDoorModel", "pairsNow", "()I"⟩, 44) := ⟨⟨by decide +kernel, by decide +kernel⟩, List.mem_of_getElem? (i := 1092) (by decide +kernel), List.mem_of_getElem? (i := 1439) (by decide +kernel), List.mem_of_getElem? (i := 1440) (by decide +kernel)⟩
theorem lw_p76 : lw_okq (⟨"OtherDoorModel", "isTrap", "(II)Z"⟩, 44) := ⟨⟨by decide +kernel, by decide +kernel⟩, List.mem_of_getElem? (i := 1092) (by decide +kernel), List.mem_of_getElem? (i := 1450) (by decide +kernel), List.mem_of_getElem? (i := 1451) (by decide +kernel)⟩
theorem lw_p77 : lw_okq (⟨"OtherDoorModel", "isLost", "(I)Z"⟩, 44) := ⟨⟨by decide +kernel, by decide +kernel⟩, List.mem_of_getElem? (i := 1092) (by decide +kernel), List.mem_of_getElem? (i := 1454) (by decide +kernel), List.mem_of_getElem? (i := 1455) (by decide +kernel)⟩
theorem lw_p78 : lw_okq (⟨"OtherDoorModel", "isSafe", "()Z"⟩, 44) := ⟨⟨by decide +kernel, by decide +kernel⟩, List.mem_of_getElem? (i := 1092) (by decide +kernel), List.mem_of_getElem? (i := 1470) (by decide +kernel), List.mem_of_getElem? (i := 1471) (by decide +kernel)⟩
theorem lw_p79 : lw_okq (⟨"OtherDoorModel", "isRound", "(II)Z"⟩, 44) := ⟨⟨by decide +kernel, by decide +kernel⟩, List.mem_of_getElem? (i := 1092) (by decide +kernel), List.mem_of_getElem? (i := 1481) (by decide +kernel), List.mem_of_getElem? (i := 1482) (by decide +kernel)⟩
def lw_privs_5 : List (MethodName × Nat) := [(⟨"OtherDoorModel", "roomAt", "(I)I"⟩, 44), (⟨"OtherDoorModel", "isRoom", "(I)Z"⟩, 44), (⟨"OtherDoorModel", "doorsOf", "(I)I"⟩, 44), (⟨"OtherDoorModel", "addDoor", "(III)V"⟩, 44), (⟨"OtherDoorModel", "goes", "(II)I"⟩, 44), (⟨"OtherDoorModel", "laysFrom", "(I)V"⟩, 44), (⟨"OtherDoorModel", "begins", "()V"⟩, 44), (⟨"OtherDoorModel", "finds", "(IIII)V"⟩, 44), (⟨"OtherDoorModel", "spreads", "()V"⟩, 44), (⟨"OtherDoorModel", "foundIn", "(I)I"⟩, 44), (⟨"OtherDoorModel", "foundRooms", "()I"⟩, 44), (⟨"OtherDoorModel", "pairsNow", "()I"⟩, 44), (⟨"OtherDoorModel", "isTrap", "(II)Z"⟩, 44), (⟨"OtherDoorModel", "isLost", "(I)Z"⟩, 44), (⟨"OtherDoorModel", "isSafe", "()Z"⟩, 44), (⟨"OtherDoorModel", "isRound", "(II)Z"⟩, 44)]
theorem lw_r5 : ∀ q ∈ lw_privs_5, lw_okq q := List.forall_mem_cons.mpr ⟨lw_p64, List.forall_mem_cons.mpr ⟨lw_p65, List.forall_mem_cons.mpr ⟨lw_p66, List.forall_mem_cons.mpr ⟨lw_p67, List.forall_mem_cons.mpr ⟨lw_p68, List.forall_mem_cons.mpr ⟨lw_p69, List.forall_mem_cons.mpr ⟨lw_p70, List.forall_mem_cons.mpr ⟨lw_p71, List.forall_mem_cons.mpr ⟨lw_p72, List.forall_mem_cons.mpr ⟨lw_p73, List.forall_mem_cons.mpr ⟨lw_p74, List.forall_mem_cons.mpr ⟨lw_p75, List.forall_mem_cons.mpr ⟨lw_p76, List.forall_mem_cons.mpr ⟨lw_p77, List.forall_mem_cons.mpr ⟨lw_p78, List.forall_mem_cons.mpr ⟨lw_p79, fun _ h => absurd h List.not_mem_nil⟩⟩⟩⟩⟩⟩⟩⟩⟩⟩⟩⟩⟩⟩⟩⟩
theorem lw_p80 : lw_okq (⟨"OtherDoorModel", "goesRound", "(I)Z"⟩, 44) := ⟨⟨by decide +kernel, by decide +kernel⟩, List.mem_of_getElem? (i := 1092) (by decide +kernel), List.mem_of_getElem? (i := 1485) (by decide +kernel), List.mem_of_getElem? (i := 1486) (by decide +kernel)⟩
theorem lw_p81 : lw_okq (⟨"OtherDoorModel", "layOpens", "()V"⟩, 44) := ⟨⟨by decide +kernel, by decide +kernel⟩, List.mem_of_getElem? (i := 1092) (by decide +kernel), List.mem_of_getElem? (i := 1498) (by decide +kernel), List.mem_of_getElem? (i := 1499) (by decide +kernel)⟩
theorem lw_p82 : lw_okq (⟨"OtherDoorModel", "layTours", "()V"⟩, 44) := ⟨⟨by decide +kernel, by decide +kernel⟩, List.mem_of_getElem? (i := 1092) (by decide +kernel), List.mem_of_getElem? (i := 1502) (by decide +kernel), List.mem_of_getElem? (i := 1503) (by decide +kernel)⟩
theorem lw_p83 : lw_okq (⟨"OtherDoorModel", "onward", "(II)I"⟩, 44) := ⟨⟨by decide +kernel, by decide +kernel⟩, List.mem_of_getElem? (i := 1092) (by decide +kernel), List.mem_of_getElem? (i := 1506) (by decide +kernel), List.mem_of_getElem? (i := 1507) (by decide +kernel)⟩
theorem lw_p84 : lw_okq (⟨"OtherDoorModel", "beginsTwo", "()V"⟩, 44) := ⟨⟨by decide +kernel, by decide +kernel⟩, List.mem_of_getElem? (i := 1092) (by decide +kernel), List.mem_of_getElem? (i := 1515) (by decide +kernel), List.mem_of_getElem? (i := 1516) (by decide +kernel)⟩
theorem lw_p85 : lw_okq (⟨"OtherDoorModel", "findsTwo", "(II)V"⟩, 44) := ⟨⟨by decide +kernel, by decide +kernel⟩, List.mem_of_getElem? (i := 1092) (by decide +kernel), List.mem_of_getElem? (i := 1519) (by decide +kernel), List.mem_of_getElem? (i := 1520) (by decide +kernel)⟩
theorem lw_p86 : lw_okq (⟨"OtherDoorModel", "layTalk", "(II)V"⟩, 44) := ⟨⟨by decide +kernel, by decide +kernel⟩, List.mem_of_getElem? (i := 1092) (by decide +kernel), List.mem_of_getElem? (i := 1523) (by decide +kernel), List.mem_of_getElem? (i := 1524) (by decide +kernel)⟩
theorem lw_p87 : lw_okq (⟨"OtherDoorModel", "stays", "(I)I"⟩, 44) := ⟨⟨by decide +kernel, by decide +kernel⟩, List.mem_of_getElem? (i := 1092) (by decide +kernel), List.mem_of_getElem? (i := 1527) (by decide +kernel), List.mem_of_getElem? (i := 1528) (by decide +kernel)⟩
theorem lw_p88 : lw_okq (⟨"OtherDoorModel", "doneBy", "(II)I"⟩, 44) := ⟨⟨by decide +kernel, by decide +kernel⟩, List.mem_of_getElem? (i := 1092) (by decide +kernel), List.mem_of_getElem? (i := 1531) (by decide +kernel), List.mem_of_getElem? (i := 1532) (by decide +kernel)⟩
theorem lw_p89 : lw_okq (⟨"OtherDoorModel", "doing", "(II)I"⟩, 44) := ⟨⟨by decide +kernel, by decide +kernel⟩, List.mem_of_getElem? (i := 1092) (by decide +kernel), List.mem_of_getElem? (i := 1535) (by decide +kernel), List.mem_of_getElem? (i := 1536) (by decide +kernel)⟩
theorem lw_p90 : lw_okq (⟨"OtherDoorModel", "findsCup", "(IIII)V"⟩, 44) := ⟨⟨by decide +kernel, by decide +kernel⟩, List.mem_of_getElem? (i := 1092) (by decide +kernel), List.mem_of_getElem? (i := 1543) (by decide +kernel), List.mem_of_getElem? (i := 1544) (by decide +kernel)⟩
theorem lw_p91 : lw_okq (⟨"OtherDoorModel", "layMend", "()I"⟩, 44) := ⟨⟨by decide +kernel, by decide +kernel⟩, List.mem_of_getElem? (i := 1092) (by decide +kernel), List.mem_of_getElem? (i := 1560) (by decide +kernel), List.mem_of_getElem? (i := 1561) (by decide +kernel)⟩
theorem lw_p92 : lw_okq (⟨"OtherDoorModel", "mendsOne", "(Z)Z"⟩, 44) := ⟨⟨by decide +kernel, by decide +kernel⟩, List.mem_of_getElem? (i := 1092) (by decide +kernel), List.mem_of_getElem? (i := 1564) (by decide +kernel), List.mem_of_getElem? (i := 1565) (by decide +kernel)⟩
theorem lw_p93 : lw_okq (⟨"OtherDoorModel", "layWays", "(IIII)J"⟩, 44) := ⟨⟨by decide +kernel, by decide +kernel⟩, List.mem_of_getElem? (i := 1092) (by decide +kernel), List.mem_of_getElem? (i := 1586) (by decide +kernel), List.mem_of_getElem? (i := 1587) (by decide +kernel)⟩
theorem lw_p94 : lw_okq (⟨"OtherDoorModel", "addWays", "(IIII)V"⟩, 44) := ⟨⟨by decide +kernel, by decide +kernel⟩, List.mem_of_getElem? (i := 1092) (by decide +kernel), List.mem_of_getElem? (i := 1590) (by decide +kernel), List.mem_of_getElem? (i := 1591) (by decide +kernel)⟩
theorem lw_p95 : lw_okq (⟨"OtherDoorModel", "copies", "(II)V"⟩, 44) := ⟨⟨by decide +kernel, by decide +kernel⟩, List.mem_of_getElem? (i := 1092) (by decide +kernel), List.mem_of_getElem? (i := 1598) (by decide +kernel), List.mem_of_getElem? (i := 1599) (by decide +kernel)⟩
def lw_privs_6 : List (MethodName × Nat) := [(⟨"OtherDoorModel", "goesRound", "(I)Z"⟩, 44), (⟨"OtherDoorModel", "layOpens", "()V"⟩, 44), (⟨"OtherDoorModel", "layTours", "()V"⟩, 44), (⟨"OtherDoorModel", "onward", "(II)I"⟩, 44), (⟨"OtherDoorModel", "beginsTwo", "()V"⟩, 44), (⟨"OtherDoorModel", "findsTwo", "(II)V"⟩, 44), (⟨"OtherDoorModel", "layTalk", "(II)V"⟩, 44), (⟨"OtherDoorModel", "stays", "(I)I"⟩, 44), (⟨"OtherDoorModel", "doneBy", "(II)I"⟩, 44), (⟨"OtherDoorModel", "doing", "(II)I"⟩, 44), (⟨"OtherDoorModel", "findsCup", "(IIII)V"⟩, 44), (⟨"OtherDoorModel", "layMend", "()I"⟩, 44), (⟨"OtherDoorModel", "mendsOne", "(Z)Z"⟩, 44), (⟨"OtherDoorModel", "layWays", "(IIII)J"⟩, 44), (⟨"OtherDoorModel", "addWays", "(IIII)V"⟩, 44), (⟨"OtherDoorModel", "copies", "(II)V"⟩, 44)]
theorem lw_r6 : ∀ q ∈ lw_privs_6, lw_okq q := List.forall_mem_cons.mpr ⟨lw_p80, List.forall_mem_cons.mpr ⟨lw_p81, List.forall_mem_cons.mpr ⟨lw_p82, List.forall_mem_cons.mpr ⟨lw_p83, List.forall_mem_cons.mpr ⟨lw_p84, List.forall_mem_cons.mpr ⟨lw_p85, List.forall_mem_cons.mpr ⟨lw_p86, List.forall_mem_cons.mpr ⟨lw_p87, List.forall_mem_cons.mpr ⟨lw_p88, List.forall_mem_cons.mpr ⟨lw_p89, List.forall_mem_cons.mpr ⟨lw_p90, List.forall_mem_cons.mpr ⟨lw_p91, List.forall_mem_cons.mpr ⟨lw_p92, List.forall_mem_cons.mpr ⟨lw_p93, List.forall_mem_cons.mpr ⟨lw_p94, List.forall_mem_cons.mpr ⟨lw_p95, fun _ h => absurd h List.not_mem_nil⟩⟩⟩⟩⟩⟩⟩⟩⟩⟩⟩⟩⟩⟩⟩⟩
def lw_privs : List (MethodName × Nat) := lw_privs_1 ++ (lw_privs_2 ++ (lw_privs_3 ++ (lw_privs_4 ++ (lw_privs_5 ++ (lw_privs_6)))))
def lw_tbl : List Cond := k2_sels lw_privs ++ tables_1
theorem lw_privs_ok : ∀ q ∈ lw_privs, lw_okq q := by
  show ∀ q ∈ lw_privs_1 ++ (lw_privs_2 ++ (lw_privs_3 ++ (lw_privs_4 ++ (lw_privs_5 ++ (lw_privs_6))))), lw_okq q
  exact List.forall_mem_append.mpr ⟨lw_r1, List.forall_mem_append.mpr ⟨lw_r2, List.forall_mem_append.mpr ⟨lw_r3, List.forall_mem_append.mpr ⟨lw_r4, List.forall_mem_append.mpr ⟨lw_r5, lw_r6⟩⟩⟩⟩⟩
end
section
def RX0 : String := "OtherDoor$Builders"
def TX0 : u_T := fun k => match k with
  | 0 => ("OtherDoor$Builders", "entered", "[[I", true)
  | 1 => ("OtherDoor$Builders", "row", "[I", true)
  | 2 => ("OtherDoor$Builders", "best", "I", false)
  | _ => ("OtherDoor$Builders", "bestPairs", "I", false)
def tyX0 : Nat → FieldType := fun k => match k with
  | 0 => .array (.array .int)
  | 1 => .array .int
  | 2 => .int
  | _ => .int
abbrev wsX00 : List Cond := u_ws RX0 TX0 4
theorem nmX0 : ∀ a, a < 4 → ∀ b, b < 4 → a ≠ b → (TX0 a).2.1 ≠ (TX0 b).2.1 := by decide +kernel
theorem tyX0_ok : ∀ k, k < 4 → parseFieldDescriptor (TX0 k).2.2.1 = some (tyX0 k) := by decide +kernel
abbrev cX0_init : ByteArray := prog_2_method_1_code
def yX0_init : MethodName := ⟨RX0, "<init>", "()V"⟩
abbrev cX0_answer : ByteArray := prog_2_method_2_code
def yX0_answer : MethodName := ⟨RX0, "answer", "(I)I"⟩
abbrev cX0_pairsOf : ByteArray := prog_2_method_3_code
def yX0_pairsOf : MethodName := ⟨RX0, "pairsOf", "(LOtherDoor$House;)I"⟩
abbrev cX0_spreadNew : ByteArray := prog_2_method_4_code
def yX0_spreadNew : MethodName := ⟨RX0, "spreadNew", "(LOtherDoor$House;)V"⟩
abbrev cX0_enterBy : ByteArray := prog_2_method_5_code
def yX0_enterBy : MethodName := ⟨RX0, "enterBy", "(LOtherDoor$House;III)Z"⟩
abbrev cX0_comersTo : ByteArray := prog_2_method_6_code
def yX0_comersTo : MethodName := ⟨RX0, "comersTo", "(II)I"⟩
abbrev cX0_seekMore : ByteArray := prog_2_method_7_code
def yX0_seekMore : MethodName := ⟨RX0, "seekMore", "(LOtherDoor$House;)V"⟩
abbrev cX0_tryMore : ByteArray := prog_2_method_8_code
def yX0_tryMore : MethodName := ⟨RX0, "tryMore", "(LOtherDoor$House;II)V"⟩
abbrev cX0_seekWorst : ByteArray := prog_2_method_9_code
def yX0_seekWorst : MethodName := ⟨RX0, "seekWorst", "(LOtherDoor$House;)V"⟩
abbrev cX0_seekMend : ByteArray := prog_2_method_10_code
def yX0_seekMend : MethodName := ⟨RX0, "seekMend", "(LOtherDoor$House;)I"⟩
abbrev cX0_mendByTwo : ByteArray := prog_2_method_11_code
def yX0_mendByTwo : MethodName := ⟨RX0, "mendByTwo", "(LOtherDoor$House;I)Z"⟩
abbrev cX0_mendByOne : ByteArray := prog_2_method_12_code
def yX0_mendByOne : MethodName := ⟨RX0, "mendByOne", "(LOtherDoor$House;III)Z"⟩
abbrev cX0_isPair : ByteArray := prog_2_method_13_code
def yX0_isPair : MethodName := ⟨RX0, "isPair", "(LOtherDoor$House;I)Z"⟩
abbrev cX0_roomsOf : ByteArray := prog_2_method_14_code
def yX0_roomsOf : MethodName := ⟨RX0, "roomsOf", "(I)I"⟩
def RX1 : String := "OtherDoor$House"
def TX1 : u_T := fun k => match k with
  | 0 => ("OtherDoor$House", "rooms", "I", false)
  | 1 => ("OtherDoor$House", "law", "I", false)
  | 2 => ("OtherDoor$House", "size", "I", false)
  | 3 => ("OtherDoor$House", "walled", "I", false)
  | 4 => ("OtherDoor$House", "first", "[I", true)
  | 5 => ("OtherDoor$House", "second", "[I", true)
  | 6 => ("OtherDoor$House", "colour", "[I", true)
  | 7 => ("OtherDoor$House", "open", "[I", true)
  | _ => ("OtherDoor$House", "painted", "[I", true)
def tyX1 : Nat → FieldType := fun k => match k with
  | 0 => .int
  | 1 => .int
  | 2 => .int
  | 3 => .int
  | 4 => .array .int
  | 5 => .array .int
  | 6 => .array .int
  | 7 => .array .int
  | _ => .array .int
abbrev wsX10 : List Cond := u_ws RX1 TX1 9
theorem nmX1 : ∀ a, a < 9 → ∀ b, b < 9 → a ≠ b → (TX1 a).2.1 ≠ (TX1 b).2.1 := by decide +kernel
theorem tyX1_ok : ∀ k, k < 9 → parseFieldDescriptor (TX1 k).2.2.1 = some (tyX1 k) := by decide +kernel
abbrev cX1_init : ByteArray := prog_3_method_1_code
def yX1_init : MethodName := ⟨RX1, "<init>", "()V"⟩
abbrev cX1_clear : ByteArray := prog_3_method_2_code
def yX1_clear : MethodName := ⟨RX1, "clear", "()V"⟩
abbrev cX1_take : ByteArray := prog_3_method_3_code
def yX1_take : MethodName := ⟨RX1, "take", "(LOtherDoor$House;)V"⟩
abbrev cX1_hasRoom : ByteArray := prog_3_method_4_code
def yX1_hasRoom : MethodName := ⟨RX1, "hasRoom", "(I)Z"⟩
abbrev cX1_hasDoor : ByteArray := prog_3_method_5_code
def yX1_hasDoor : MethodName := ⟨RX1, "hasDoor", "(I)Z"⟩
abbrev cX1_isWalled : ByteArray := prog_3_method_6_code
def yX1_isWalled : MethodName := ⟨RX1, "isWalled", "(I)Z"⟩
abbrev cX1_isOf : ByteArray := prog_3_method_7_code
def yX1_isOf : MethodName := ⟨RX1, "isOf", "(II)Z"⟩
abbrev cX1_beyond : ByteArray := prog_3_method_8_code
def yX1_beyond : MethodName := ⟨RX1, "beyond", "(II)I"⟩
abbrev cX1_sideBeyond : ByteArray := prog_3_method_9_code
def yX1_sideBeyond : MethodName := ⟨RX1, "sideBeyond", "(II)I"⟩
abbrev cX1_sideAt : ByteArray := prog_3_method_10_code
def yX1_sideAt : MethodName := ⟨RX1, "sideAt", "(II)I"⟩
abbrev cX1_roomOfSide : ByteArray := prog_3_method_11_code
def yX1_roomOfSide : MethodName := ⟨RX1, "roomOfSide", "(I)I"⟩
abbrev cX1_openDoors : ByteArray := prog_3_method_12_code
def yX1_openDoors : MethodName := ⟨RX1, "openDoors", "()I"⟩
abbrev cX1_add : ByteArray := prog_3_method_13_code
def yX1_add : MethodName := ⟨RX1, "add", "(III)Z"⟩
abbrev cX1_dropLatest : ByteArray := prog_3_method_14_code
def yX1_dropLatest : MethodName := ⟨RX1, "dropLatest", "()V"⟩
abbrev cX1_setWalled : ByteArray := prog_3_method_15_code
def yX1_setWalled : MethodName := ⟨RX1, "setWalled", "(IZ)V"⟩
abbrev cX1_choices : ByteArray := prog_3_method_16_code
def yX1_choices : MethodName := ⟨RX1, "choices", "(III)I"⟩
abbrev cX1_isForLife : ByteArray := prog_3_method_17_code
def yX1_isForLife : MethodName := ⟨RX1, "isForLife", "(I)Z"⟩
abbrev cX1_losing : ByteArray := prog_3_method_18_code
def yX1_losing : MethodName := ⟨RX1, "losing", "()I"⟩
abbrev cX1_losesBySecond : ByteArray := prog_3_method_19_code
def yX1_losesBySecond : MethodName := ⟨RX1, "losesBySecond", "(I)Z"⟩
abbrev cX1_losesBehind : ByteArray := prog_3_method_20_code
def yX1_losesBehind : MethodName := ⟨RX1, "losesBehind", "(II)Z"⟩
def RX2 : String := "OtherDoor$Palace"
def TX2 : u_T := fun k => match k with
  | 0 => ("OtherDoor$Palace", "house", "LOtherDoor$House;", true)
  | 1 => ("OtherDoor$Palace", "ones", "[LOtherDoor$Walker;", true)
  | 2 => ("OtherDoor$Palace", "people", "I", false)
  | 3 => ("OtherDoor$Palace", "told", "[I", true)
  | _ => ("OtherDoor$Palace", "toldSize", "I", false)
def tyX2 : Nat → FieldType := fun k => match k with
  | 0 => .object "OtherDoor$House"
  | 1 => .array (.object "OtherDoor$Walker")
  | 2 => .int
  | 3 => .array .int
  | _ => .int
abbrev wsX20 : List Cond := u_ws RX2 TX2 5
theorem nmX2 : ∀ a, a < 5 → ∀ b, b < 5 → a ≠ b → (TX2 a).2.1 ≠ (TX2 b).2.1 := by decide +kernel
theorem tyX2_ok : ∀ k, k < 5 → parseFieldDescriptor (TX2 k).2.2.1 = some (tyX2 k) := by decide +kernel
abbrev cX2_init : ByteArray := prog_4_method_1_code
def yX2_init : MethodName := ⟨RX2, "<init>", "()V"⟩
abbrev cX2_clear : ByteArray := prog_4_method_2_code
def yX2_clear : MethodName := ⟨RX2, "clear", "()V"⟩
abbrev cX2_take : ByteArray := prog_4_method_3_code
def yX2_take : MethodName := ⟨RX2, "take", "(LOtherDoor$Palace;)V"⟩
abbrev cX2_hasOne : ByteArray := prog_4_method_4_code
def yX2_hasOne : MethodName := ⟨RX2, "hasOne", "(I)Z"⟩
abbrev cX2_lost : ByteArray := prog_4_method_5_code
def yX2_lost : MethodName := ⟨RX2, "lost", "()I"⟩
def RX3 : String := "OtherDoor$Rounds"
def TX3 : u_T := fun k => match k with
  | 0 => ("OtherDoor$Rounds", "order", "[I", true)
  | 1 => ("OtherDoor$Rounds", "met", "[I", true)
  | 2 => ("OtherDoor$Rounds", "fresh", "[[I", true)
  | 3 => ("OtherDoor$Rounds", "spots", "[[I", true)
  | 4 => ("OtherDoor$Rounds", "sizes", "[I", true)
  | 5 => ("OtherDoor$Rounds", "home", "I", false)
  | _ => ("OtherDoor$Rounds", "all", "I", false)
def tyX3 : Nat → FieldType := fun k => match k with
  | 0 => .array .int
  | 1 => .array .int
  | 2 => .array (.array .int)
  | 3 => .array (.array .int)
  | 4 => .array .int
  | 5 => .int
  | _ => .int
abbrev wsX30 : List Cond := u_ws RX3 TX3 7
theorem nmX3 : ∀ a, a < 7 → ∀ b, b < 7 → a ≠ b → (TX3 a).2.1 ≠ (TX3 b).2.1 := by decide +kernel
theorem tyX3_ok : ∀ k, k < 7 → parseFieldDescriptor (TX3 k).2.2.1 = some (tyX3 k) := by decide +kernel
abbrev cX3_init : ByteArray := prog_5_method_1_code
def yX3_init : MethodName := ⟨RX3, "<init>", "()V"⟩
abbrev cX3_least : ByteArray := prog_5_method_2_code
def yX3_least : MethodName := ⟨RX3, "least", "(LOtherDoor$House;LOtherDoor$Walker;I)I"⟩
abbrev cX3_begin : ByteArray := prog_5_method_3_code
def yX3_begin : MethodName := ⟨RX3, "begin", "(II)V"⟩
abbrev cX3_put : ByteArray := prog_5_method_4_code
def yX3_put : MethodName := ⟨RX3, "put", "(III)V"⟩
abbrev cX3_spreadLevel : ByteArray := prog_5_method_5_code
def yX3_spreadLevel : MethodName := ⟨RX3, "spreadLevel", "(LOtherDoor$House;I)Z"⟩
abbrev cX3_spread : ByteArray := prog_5_method_6_code
def yX3_spread : MethodName := ⟨RX3, "spread", "(LOtherDoor$House;III)Z"⟩
abbrev cX3_withRoom : ByteArray := prog_5_method_7_code
def yX3_withRoom : MethodName := ⟨RX3, "withRoom", "(II)I"⟩
def RX4 : String := "OtherDoor$Sheet"
def TX4 : u_T := fun k => match k with
  | 0 => ("OtherDoor$Sheet", "cells", "[I", true)
  | 1 => ("OtherDoor$Sheet", "lane", "I", false)
  | _ => ("OtherDoor$Sheet", "size", "I", false)
def tyX4 : Nat → FieldType := fun k => match k with
  | 0 => .array .int
  | 1 => .int
  | _ => .int
abbrev wsX40 : List Cond := u_ws RX4 TX4 3
theorem nmX4 : ∀ a, a < 3 → ∀ b, b < 3 → a ≠ b → (TX4 a).2.1 ≠ (TX4 b).2.1 := by decide +kernel
theorem tyX4_ok : ∀ k, k < 3 → parseFieldDescriptor (TX4 k).2.2.1 = some (tyX4 k) := by decide +kernel
abbrev cX4_init : ByteArray := prog_6_method_1_code
def yX4_init : MethodName := ⟨RX4, "<init>", "()V"⟩
abbrev cX4_renew : ByteArray := prog_6_method_2_code
def yX4_renew : MethodName := ⟨RX4, "renew", "(II)V"⟩
abbrev cX4_faultAt : ByteArray := prog_6_method_3_code
def yX4_faultAt : MethodName := ⟨RX4, "faultAt", "(II)I"⟩
abbrev cX4_put : ByteArray := prog_6_method_4_code
def yX4_put : MethodName := ⟨RX4, "put", "(II)V"⟩
def RX5 : String := "OtherDoor$Tape"
def TX5 : u_T := fun k => match k with
  | 0 => ("OtherDoor$Tape", "bytes", "[B", true)
  | 1 => ("OtherDoor$Tape", "draft", "LOtherDoor$Palace;", true)
  | 2 => ("OtherDoor$Tape", "length", "I", false)
  | 3 => ("OtherDoor$Tape", "lines", "I", false)
  | 4 => ("OtherDoor$Tape", "fault", "I", false)
  | 5 => ("OtherDoor$Tape", "faultPlace", "I", false)
  | 6 => ("OtherDoor$Tape", "place", "I", false)
  | 7 => ("OtherDoor$Tape", "start", "I", false)
  | 8 => ("OtherDoor$Tape", "kind", "I", false)
  | 9 => ("OtherDoor$Tape", "number", "I", false)
  | 10 => ("OtherDoor$Tape", "hasRooms", "Z", false)
  | 11 => ("OtherDoor$Tape", "hasLaw", "Z", false)
  | _ => ("OtherDoor$Tape", "walls", "I", false)
def tyX5 : Nat → FieldType := fun k => match k with
  | 0 => .array .byte
  | 1 => .object "OtherDoor$Palace"
  | 2 => .int
  | 3 => .int
  | 4 => .int
  | 5 => .int
  | 6 => .int
  | 7 => .int
  | 8 => .int
  | 9 => .int
  | 10 => .boolean
  | 11 => .boolean
  | _ => .int
abbrev wsX50 : List Cond := u_ws RX5 TX5 13
theorem nmX5 : ∀ a, a < 13 → ∀ b, b < 13 → a ≠ b → (TX5 a).2.1 ≠ (TX5 b).2.1 := by decide +kernel
theorem tyX5_ok : ∀ k, k < 13 → parseFieldDescriptor (TX5 k).2.2.1 = some (tyX5 k) := by decide +kernel
abbrev cX5_init : ByteArray := prog_7_method_1_code
def yX5_init : MethodName := ⟨RX5, "<init>", "()V"⟩
abbrev cX5_append : ByteArray := prog_7_method_2_code
def yX5_append : MethodName := ⟨RX5, "append", "(J)Z"⟩
abbrev cX5_understand : ByteArray := prog_7_method_3_code
def yX5_understand : MethodName := ⟨RX5, "understand", "()Z"⟩
abbrev cX5_refuse : ByteArray := prog_7_method_4_code
def yX5_refuse : MethodName := ⟨RX5, "refuse", "(II)Z"⟩
abbrev cX5_nextToken : ByteArray := prog_7_method_5_code
def yX5_nextToken : MethodName := ⟨RX5, "nextToken", "()V"⟩
abbrev cX5_behind : ByteArray := prog_7_method_6_code
def yX5_behind : MethodName := ⟨RX5, "behind", "(CC)I"⟩
abbrev cX5_takeFigures : ByteArray := prog_7_method_7_code
def yX5_takeFigures : MethodName := ⟨RX5, "takeFigures", "()V"⟩
abbrev cX5_isWord : ByteArray := prog_7_method_8_code
def yX5_isWord : MethodName := ⟨RX5, "isWord", "(Ljava/lang/String;)Z"⟩
abbrev cX5_takeLine : ByteArray := prog_7_method_9_code
def yX5_takeLine : MethodName := ⟨RX5, "takeLine", "()Z"⟩
abbrev cX5_takeNumber : ByteArray := prog_7_method_10_code
def yX5_takeNumber : MethodName := ⟨RX5, "takeNumber", "(II)Z"⟩
abbrev cX5_takeSign : ByteArray := prog_7_method_11_code
def yX5_takeSign : MethodName := ⟨RX5, "takeSign", "()Z"⟩
abbrev cX5_isSign : ByteArray := prog_7_method_12_code
def yX5_isSign : MethodName := ⟨RX5, "isSign", "()Z"⟩
abbrev cX5_takeRooms : ByteArray := prog_7_method_13_code
def yX5_takeRooms : MethodName := ⟨RX5, "takeRooms", "()Z"⟩
abbrev cX5_takeLaw : ByteArray := prog_7_method_14_code
def yX5_takeLaw : MethodName := ⟨RX5, "takeLaw", "()Z"⟩
abbrev cX5_takeDoor : ByteArray := prog_7_method_15_code
def yX5_takeDoor : MethodName := ⟨RX5, "takeDoor", "()Z"⟩
abbrev cX5_colourTold : ByteArray := prog_7_method_16_code
def yX5_colourTold : MethodName := ⟨RX5, "colourTold", "()I"⟩
abbrev cX5_takeOne : ByteArray := prog_7_method_17_code
def yX5_takeOne : MethodName := ⟨RX5, "takeOne", "()Z"⟩
abbrev cX5_takeWalled : ByteArray := prog_7_method_18_code
def yX5_takeWalled : MethodName := ⟨RX5, "takeWalled", "()Z"⟩
abbrev cX5_closeText : ByteArray := prog_7_method_19_code
def yX5_closeText : MethodName := ⟨RX5, "closeText", "()Z"⟩
def RX6 : String := "OtherDoor$Tours"
def TX6 : u_T := fun k => match k with
  | 0 => ("OtherDoor$Tours", "doors", "[I", true)
  | 1 => ("OtherDoor$Tours", "rest", "[I", true)
  | 2 => ("OtherDoor$Tours", "size", "I", false)
  | _ => ("OtherDoor$Tours", "start", "I", false)
def tyX6 : Nat → FieldType := fun k => match k with
  | 0 => .array .int
  | 1 => .array .int
  | 2 => .int
  | _ => .int
abbrev wsX60 : List Cond := u_ws RX6 TX6 4
theorem nmX6 : ∀ a, a < 4 → ∀ b, b < 4 → a ≠ b → (TX6 a).2.1 ≠ (TX6 b).2.1 := by decide +kernel
theorem tyX6_ok : ∀ k, k < 4 → parseFieldDescriptor (TX6 k).2.2.1 = some (tyX6 k) := by decide +kernel
abbrev cX6_init : ByteArray := prog_8_method_1_code
def yX6_init : MethodName := ⟨RX6, "<init>", "()V"⟩
abbrev cX6_prepare : ByteArray := prog_8_method_2_code
def yX6_prepare : MethodName := ⟨RX6, "prepare", "(LOtherDoor$House;I)V"⟩
abbrev cX6_all : ByteArray := prog_8_method_3_code
def yX6_all : MethodName := ⟨RX6, "all", "()I"⟩
abbrev cX6_stepOf : ByteArray := prog_8_method_4_code
def yX6_stepOf : MethodName := ⟨RX6, "stepOf", "(LOtherDoor$House;I)I"⟩
abbrev cX6_fill : ByteArray := prog_8_method_5_code
def yX6_fill : MethodName := ⟨RX6, "fill", "(LOtherDoor$House;I)V"⟩
abbrev cX6_through : ByteArray := prog_8_method_6_code
def yX6_through : MethodName := ⟨RX6, "through", "(LOtherDoor$House;IIII)I"⟩
abbrev cX6_roomBehind : ByteArray := prog_8_method_7_code
def yX6_roomBehind : MethodName := ⟨RX6, "roomBehind", "(LOtherDoor$House;I)I"⟩
def RX7 : String := "OtherDoor$Trails"
def TX7 : u_T := fun k => match k with
  | 0 => ("OtherDoor$Trails", "first", "[I", true)
  | 1 => ("OtherDoor$Trails", "trail", "[I", true)
  | 2 => ("OtherDoor$Trails", "found", "I", false)
  | 3 => ("OtherDoor$Trails", "ends", "I", false)
  | 4 => ("OtherDoor$Trails", "some", "I", false)
  | _ => ("OtherDoor$Trails", "steps", "I", false)
def tyX7 : Nat → FieldType := fun k => match k with
  | 0 => .array .int
  | 1 => .array .int
  | 2 => .int
  | 3 => .int
  | 4 => .int
  | _ => .int
abbrev wsX70 : List Cond := u_ws RX7 TX7 6
theorem nmX7 : ∀ a, a < 6 → ∀ b, b < 6 → a ≠ b → (TX7 a).2.1 ≠ (TX7 b).2.1 := by decide +kernel
theorem tyX7_ok : ∀ k, k < 6 → parseFieldDescriptor (TX7 k).2.2.1 = some (tyX7 k) := by decide +kernel
abbrev cX7_init : ByteArray := prog_9_method_1_code
def yX7_init : MethodName := ⟨RX7, "<init>", "()V"⟩
abbrev cX7_seek : ByteArray := prog_9_method_2_code
def yX7_seek : MethodName := ⟨RX7, "seek", "(LOtherDoor$House;III)V"⟩
abbrev cX7_follow : ByteArray := prog_9_method_3_code
def yX7_follow : MethodName := ⟨RX7, "follow", "(LOtherDoor$House;IIIII)V"⟩
abbrev cX7_branch : ByteArray := prog_9_method_4_code
def yX7_branch : MethodName := ⟨RX7, "branch", "(LOtherDoor$House;IIIII)V"⟩
abbrev cX7_note : ByteArray := prog_9_method_5_code
def yX7_note : MethodName := ⟨RX7, "note", "(I)V"⟩
def RX8 : String := "OtherDoor$Two"
def TX8 : u_T := fun k => match k with
  | 0 => ("OtherDoor$Two", "roomOf", "[I", true)
  | 1 => ("OtherDoor$Two", "next", "[I", true)
  | 2 => ("OtherDoor$Two", "inRoom", "[I", true)
  | 3 => ("OtherDoor$Two", "met", "[[I", true)
  | 4 => ("OtherDoor$Two", "fresh", "[[I", true)
  | 5 => ("OtherDoor$Two", "coming", "[[I", true)
  | 6 => ("OtherDoor$Two", "firstSpot", "I", false)
  | 7 => ("OtherDoor$Two", "secondSpot", "I", false)
  | _ => ("OtherDoor$Two", "anyComing", "Z", false)
def tyX8 : Nat → FieldType := fun k => match k with
  | 0 => .array .int
  | 1 => .array .int
  | 2 => .array .int
  | 3 => .array (.array .int)
  | 4 => .array (.array .int)
  | 5 => .array (.array .int)
  | 6 => .int
  | 7 => .int
  | _ => .boolean
abbrev wsX80 : List Cond := u_ws RX8 TX8 9
theorem nmX8 : ∀ a, a < 9 → ∀ b, b < 9 → a ≠ b → (TX8 a).2.1 ≠ (TX8 b).2.1 := by decide +kernel
theorem tyX8_ok : ∀ k, k < 9 → parseFieldDescriptor (TX8 k).2.2.1 = some (tyX8 k) := by decide +kernel
abbrev cX8_init : ByteArray := prog_10_method_1_code
def yX8_init : MethodName := ⟨RX8, "<init>", "()V"⟩
abbrev cX8_prepare : ByteArray := prog_10_method_2_code
def yX8_prepare : MethodName := ⟨RX8, "prepare", "(LOtherDoor$House;LOtherDoor$Walker;LOtherDoor$Walker;)V"⟩
abbrev cX8_addSpot : ByteArray := prog_10_method_3_code
def yX8_addSpot : MethodName := ⟨RX8, "addSpot", "(LOtherDoor$House;III)V"⟩
abbrev cX8_together : ByteArray := prog_10_method_4_code
def yX8_together : MethodName := ⟨RX8, "together", "()Z"⟩
abbrev cX8_untilTalked : ByteArray := prog_10_method_5_code
def yX8_untilTalked : MethodName := ⟨RX8, "untilTalked", "(I)I"⟩
abbrev cX8_talkMinute : ByteArray := prog_10_method_6_code
def yX8_talkMinute : MethodName := ⟨RX8, "talkMinute", "(I)Z"⟩
abbrev cX8_talkStep : ByteArray := prog_10_method_7_code
def yX8_talkStep : MethodName := ⟨RX8, "talkStep", "(III)Z"⟩
abbrev cX8_untilCupIn : ByteArray := prog_10_method_8_code
def yX8_untilCupIn : MethodName := ⟨RX8, "untilCupIn", "(I)I"⟩
abbrev cX8_cupMinute : ByteArray := prog_10_method_9_code
def yX8_cupMinute : MethodName := ⟨RX8, "cupMinute", "(I)Z"⟩
abbrev cX8_cupStep : ByteArray := prog_10_method_10_code
def yX8_cupStep : MethodName := ⟨RX8, "cupStep", "(III)Z"⟩
abbrev cX8_nextOf : ByteArray := prog_10_method_11_code
def yX8_nextOf : MethodName := ⟨RX8, "nextOf", "(I)I"⟩
abbrev cX8_put : ByteArray := prog_10_method_12_code
def yX8_put : MethodName := ⟨RX8, "put", "(III)V"⟩
abbrev cX8_turnMinute : ByteArray := prog_10_method_13_code
def yX8_turnMinute : MethodName := ⟨RX8, "turnMinute", "()V"⟩
def RX9 : String := "OtherDoor$Walker"
def TX9 : u_T := fun k => match k with
  | 0 => ("OtherDoor$Walker", "room", "I", false)
  | 1 => ("OtherDoor$Walker", "last", "I", false)
  | _ => ("OtherDoor$Walker", "ahead", "I", false)
def tyX9 : Nat → FieldType := fun k => match k with
  | 0 => .int
  | 1 => .int
  | _ => .int
abbrev wsX90 : List Cond := u_ws RX9 TX9 3
theorem nmX9 : ∀ a, a < 3 → ∀ b, b < 3 → a ≠ b → (TX9 a).2.1 ≠ (TX9 b).2.1 := by decide +kernel
theorem tyX9_ok : ∀ k, k < 3 → parseFieldDescriptor (TX9 k).2.2.1 = some (tyX9 k) := by decide +kernel
abbrev cX9_init : ByteArray := prog_11_method_1_code
def yX9_init : MethodName := ⟨RX9, "<init>", "()V"⟩
abbrev cX9_standNew : ByteArray := prog_11_method_2_code
def yX9_standNew : MethodName := ⟨RX9, "standNew", "(I)V"⟩
abbrev cX9_take : ByteArray := prog_11_method_3_code
def yX9_take : MethodName := ⟨RX9, "take", "(LOtherDoor$Walker;)V"⟩
abbrev cX9_choices : ByteArray := prog_11_method_4_code
def yX9_choices : MethodName := ⟨RX9, "choices", "(LOtherDoor$House;)I"⟩
abbrev cX9_step : ByteArray := prog_11_method_5_code
def yX9_step : MethodName := ⟨RX9, "step", "(LOtherDoor$House;I)Z"⟩
def RX10 : String := "OtherDoor$Ways"
def TX10 : u_T := fun k => match k with
  | 0 => ("OtherDoor$Ways", "room", "[I", true)
  | 1 => ("OtherDoor$Ways", "last", "[I", true)
  | 2 => ("OtherDoor$Ways", "ahead", "[I", true)
  | 3 => ("OtherDoor$Ways", "from", "[I", true)
  | 4 => ("OtherDoor$Ways", "length", "[I", true)
  | 5 => ("OtherDoor$Ways", "met", "[I", true)
  | 6 => ("OtherDoor$Ways", "size", "I", false)
  | _ => ("OtherDoor$Ways", "goal", "I", false)
def tyX10 : Nat → FieldType := fun k => match k with
  | 0 => .array .int
  | 1 => .array .int
  | 2 => .array .int
  | 3 => .array .int
  | 4 => .array .int
  | 5 => .array .int
  | 6 => .int
  | _ => .int
abbrev wsX100 : List Cond := u_ws RX10 TX10 8
theorem nmX10 : ∀ a, a < 8 → ∀ b, b < 8 → a ≠ b → (TX10 a).2.1 ≠ (TX10 b).2.1 := by decide +kernel
theorem tyX10_ok : ∀ k, k < 8 → parseFieldDescriptor (TX10 k).2.2.1 = some (tyX10 k) := by decide +kernel
abbrev cX10_init : ByteArray := prog_12_method_1_code
def yX10_init : MethodName := ⟨RX10, "<init>", "()V"⟩
abbrev cX10_leastTo : ByteArray := prog_12_method_2_code
def yX10_leastTo : MethodName := ⟨RX10, "leastTo", "(LOtherDoor$House;LOtherDoor$Walker;I)I"⟩
abbrev cX10_stepOf : ByteArray := prog_12_method_3_code
def yX10_stepOf : MethodName := ⟨RX10, "stepOf", "(I)I"⟩
abbrev cX10_roomsOf : ByteArray := prog_12_method_4_code
def yX10_roomsOf : MethodName := ⟨RX10, "roomsOf", "(LOtherDoor$House;LOtherDoor$Walker;)I"⟩
abbrev cX10_begin : ByteArray := prog_12_method_5_code
def yX10_begin : MethodName := ⟨RX10, "begin", "(LOtherDoor$House;LOtherDoor$Walker;)V"⟩
abbrev cX10_spread : ByteArray := prog_12_method_6_code
def yX10_spread : MethodName := ⟨RX10, "spread", "(LOtherDoor$House;I)V"⟩
def RX11 : String := "OtherDoor"
def TX11 : u_T := fun k => match k with
  | 0 => ("OtherDoor", "now", "LOtherDoor$Palace;", true)
  | 1 => ("OtherDoor", "images", "[LOtherDoor$Palace;", true)
  | 2 => ("OtherDoor", "sheets", "[LOtherDoor$Sheet;", true)
  | 3 => ("OtherDoor", "tape", "LOtherDoor$Tape;", true)
  | 4 => ("OtherDoor", "scratch", "LOtherDoor$Walker;", true)
  | 5 => ("OtherDoor", "ways", "LOtherDoor$Ways;", true)
  | 6 => ("OtherDoor", "rounds", "LOtherDoor$Rounds;", true)
  | 7 => ("OtherDoor", "tours", "LOtherDoor$Tours;", true)
  | 8 => ("OtherDoor", "two", "LOtherDoor$Two;", true)
  | 9 => ("OtherDoor", "builders", "LOtherDoor$Builders;", true)
  | 10 => ("OtherDoor", "trails", "LOtherDoor$Trails;", true)
  | 11 => ("OtherDoor", "kept", "I", false)
  | _ => ("OtherDoor", "lastTorn", "I", false)
def tyX11 : Nat → FieldType := fun k => match k with
  | 0 => .object "OtherDoor$Palace"
  | 1 => .array (.object "OtherDoor$Palace")
  | 2 => .array (.object "OtherDoor$Sheet")
  | 3 => .object "OtherDoor$Tape"
  | 4 => .object "OtherDoor$Walker"
  | 5 => .object "OtherDoor$Ways"
  | 6 => .object "OtherDoor$Rounds"
  | 7 => .object "OtherDoor$Tours"
  | 8 => .object "OtherDoor$Two"
  | 9 => .object "OtherDoor$Builders"
  | 10 => .object "OtherDoor$Trails"
  | 11 => .int
  | _ => .int
abbrev wsX110 : List Cond := u_ws RX11 TX11 13
theorem nmX11 : ∀ a, a < 13 → ∀ b, b < 13 → a ≠ b → (TX11 a).2.1 ≠ (TX11 b).2.1 := by decide +kernel
theorem tyX11_ok : ∀ k, k < 13 → parseFieldDescriptor (TX11 k).2.2.1 = some (tyX11 k) := by decide +kernel
abbrev cX11_init : ByteArray := prog_1_method_1_code
def yX11_init : MethodName := ⟨RX11, "<init>", "()V"⟩
abbrev cX11_feed : ByteArray := prog_1_method_2_code
def yX11_feed : MethodName := ⟨RX11, "feed", "(J)I"⟩
abbrev cX11_end : ByteArray := prog_1_method_3_code
def yX11_end : MethodName := ⟨RX11, "end", "(I)I"⟩
abbrev cX11_palace : ByteArray := prog_1_method_4_code
def yX11_palace : MethodName := ⟨RX11, "palace", "()I"⟩
abbrev cX11_fault : ByteArray := prog_1_method_5_code
def yX11_fault : MethodName := ⟨RX11, "fault", "()I"⟩
abbrev cX11_rule : ByteArray := prog_1_method_6_code
def yX11_rule : MethodName := ⟨RX11, "rule", "(I)I"⟩
abbrev cX11_door : ByteArray := prog_1_method_7_code
def yX11_door : MethodName := ⟨RX11, "door", "(II)I"⟩
abbrev cX11_one : ByteArray := prog_1_method_8_code
def yX11_one : MethodName := ⟨RX11, "one", "(II)I"⟩
abbrev cX11_orNone : ByteArray := prog_1_method_9_code
def yX11_orNone : MethodName := ⟨RX11, "orNone", "(I)I"⟩
abbrev cX11_doors : ByteArray := prog_1_method_10_code
def yX11_doors : MethodName := ⟨RX11, "doors", "(I)I"⟩
abbrev cX11_law : ByteArray := prog_1_method_11_code
def yX11_law : MethodName := ⟨RX11, "law", "(I)I"⟩
abbrev cX11_build : ByteArray := prog_1_method_12_code
def yX11_build : MethodName := ⟨RX11, "build", "(III)I"⟩
abbrev cX11_wall : ByteArray := prog_1_method_13_code
def yX11_wall : MethodName := ⟨RX11, "wall", "(IZ)I"⟩
abbrev cX11_stand : ByteArray := prog_1_method_14_code
def yX11_stand : MethodName := ⟨RX11, "stand", "(II)I"⟩
abbrev cX11_go : ByteArray := prog_1_method_15_code
def yX11_go : MethodName := ⟨RX11, "go", "(II)I"⟩
abbrev cX11_far : ByteArray := prog_1_method_16_code
def yX11_far : MethodName := ⟨RX11, "far", "(II)I"⟩
abbrev cX11_way : ByteArray := prog_1_method_17_code
def yX11_way : MethodName := ⟨RX11, "way", "(III)I"⟩
abbrev cX11_can : ByteArray := prog_1_method_18_code
def yX11_can : MethodName := ⟨RX11, "can", "(I)I"⟩
abbrev cX11_path : ByteArray := prog_1_method_19_code
def yX11_path : MethodName := ⟨RX11, "path", "(II)I"⟩
abbrev cX11_pairs : ByteArray := prog_1_method_20_code
def yX11_pairs : MethodName := ⟨RX11, "pairs", "()I"⟩
abbrev cX11_life : ByteArray := prog_1_method_21_code
def yX11_life : MethodName := ⟨RX11, "life", "()I"⟩
abbrev cX11_trap : ByteArray := prog_1_method_22_code
def yX11_trap : MethodName := ⟨RX11, "trap", "(II)I"⟩
abbrev cX11_secret : ByteArray := prog_1_method_23_code
def yX11_secret : MethodName := ⟨RX11, "secret", "()I"⟩
abbrev cX11_safe : ByteArray := prog_1_method_24_code
def yX11_safe : MethodName := ⟨RX11, "safe", "()I"⟩
abbrev cX11_round : ByteArray := prog_1_method_25_code
def yX11_round : MethodName := ⟨RX11, "round", "(II)I"⟩
abbrev cX11_tour : ByteArray := prog_1_method_26_code
def yX11_tour : MethodName := ⟨RX11, "tour", "(II)I"⟩
abbrev cX11_talk : ByteArray := prog_1_method_27_code
def yX11_talk : MethodName := ⟨RX11, "talk", "(III)I"⟩
abbrev cX11_cup : ByteArray := prog_1_method_28_code
def yX11_cup : MethodName := ⟨RX11, "cup", "(III)I"⟩
abbrev cX11_more : ByteArray := prog_1_method_29_code
def yX11_more : MethodName := ⟨RX11, "more", "(I)I"⟩
abbrev cX11_worst : ByteArray := prog_1_method_30_code
def yX11_worst : MethodName := ⟨RX11, "worst", "(I)I"⟩
abbrev cX11_mend : ByteArray := prog_1_method_31_code
def yX11_mend : MethodName := ⟨RX11, "mend", "(I)I"⟩
abbrev cX11_tell : ByteArray := prog_1_method_32_code
def yX11_tell : MethodName := ⟨RX11, "tell", "(I)I"⟩
abbrev cX11_forget : ByteArray := prog_1_method_33_code
def yX11_forget : MethodName := ⟨RX11, "forget", "()I"⟩
abbrev cX11_judge : ByteArray := prog_1_method_34_code
def yX11_judge : MethodName := ⟨RX11, "judge", "(I)I"⟩
abbrev cX11_ajar : ByteArray := prog_1_method_35_code
def yX11_ajar : MethodName := ⟨RX11, "ajar", "(IIII)I"⟩
abbrev cX11_keep : ByteArray := prog_1_method_36_code
def yX11_keep : MethodName := ⟨RX11, "keep", "(I)I"⟩
abbrev cX11_back : ByteArray := prog_1_method_37_code
def yX11_back : MethodName := ⟨RX11, "back", "(I)I"⟩
abbrev cX11_sheet : ByteArray := prog_1_method_38_code
def yX11_sheet : MethodName := ⟨RX11, "sheet", "(III)I"⟩
abbrev cX11_isSheet : ByteArray := prog_1_method_39_code
def yX11_isSheet : MethodName := ⟨RX11, "isSheet", "(I)Z"⟩
abbrev cX11_isLane : ByteArray := prog_1_method_40_code
def yX11_isLane : MethodName := ⟨RX11, "isLane", "(I)Z"⟩
abbrev cX11_lay : ByteArray := prog_1_method_41_code
def yX11_lay : MethodName := ⟨RX11, "lay", "(III)I"⟩
abbrev cX11_read : ByteArray := prog_1_method_42_code
def yX11_read : MethodName := ⟨RX11, "read", "(IIIII)I"⟩
abbrev cX11_torn : ByteArray := prog_1_method_43_code
def yX11_torn : MethodName := ⟨RX11, "torn", "()I"⟩
abbrev cX11_count : ByteArray := prog_1_method_44_code
def yX11_count : MethodName := ⟨RX11, "count", "(I)I"⟩
def RX12 : String := "OtherDoorModel"
def TX12 : u_T := fun k => match k with
  | 0 => ("OtherDoorModel", "state", "[I", true)
  | 1 => ("OtherDoorModel", "rooms", "I", false)
  | 2 => ("OtherDoorModel", "readPage", "[I", true)
  | 3 => ("OtherDoorModel", "readRooms", "I", false)
  | 4 => ("OtherDoorModel", "hasRooms", "Z", false)
  | 5 => ("OtherDoorModel", "hasLaw", "Z", false)
  | 6 => ("OtherDoorModel", "toldWalls", "I", false)
  | 7 => ("OtherDoorModel", "highRoom", "I", false)
  | 8 => ("OtherDoorModel", "highDoor", "I", false)
  | 9 => ("OtherDoorModel", "tape", "[I", true)
  | 10 => ("OtherDoorModel", "taped", "I", false)
  | 11 => ("OtherDoorModel", "fault", "I", false)
  | 12 => ("OtherDoorModel", "broken", "I", false)
  | 13 => ("OtherDoorModel", "brokenAt", "I", false)
  | 14 => ("OtherDoorModel", "spot", "I", false)
  | 15 => ("OtherDoorModel", "here", "I", false)
  | 16 => ("OtherDoorModel", "token", "I", false)
  | 17 => ("OtherDoorModel", "value", "I", false)
  | 18 => ("OtherDoorModel", "cuts", "[I", true)
  | 19 => ("OtherDoorModel", "letters", "[I", true)
  | 20 => ("OtherDoorModel", "fars", "[I", true)
  | 21 => ("OtherDoorModel", "froms", "[I", true)
  | 22 => ("OtherDoorModel", "bys", "[I", true)
  | 23 => ("OtherDoorModel", "found", "[I", true)
  | 24 => ("OtherDoorModel", "foundMany", "I", false)
  | 25 => ("OtherDoorModel", "been", "[I", true)
  | 26 => ("OtherDoorModel", "now", "[I", true)
  | 27 => ("OtherDoorModel", "then", "[I", true)
  | 28 => ("OtherDoorModel", "opens", "[I", true)
  | 29 => ("OtherDoorModel", "openMany", "I", false)
  | 30 => ("OtherDoorModel", "tours", "[I", true)
  | 31 => ("OtherDoorModel", "both", "[I", true)
  | 32 => ("OtherDoorModel", "queue", "[I", true)
  | 33 => ("OtherDoorModel", "queued", "I", false)
  | 34 => ("OtherDoorModel", "mendFirst", "I", false)
  | 35 => ("OtherDoorModel", "mendSecond", "I", false)
  | 36 => ("OtherDoorModel", "waysNow", "[J", true)
  | 37 => ("OtherDoorModel", "waysThen", "[J", true)
  | 38 => ("OtherDoorModel", "waysIn", "[J", true)
  | 39 => ("OtherDoorModel", "isKept", "[Z", true)
  | 40 => ("OtherDoorModel", "lanes", "[I", true)
  | 41 => ("OtherDoorModel", "lengths", "[I", true)
  | 42 => ("OtherDoorModel", "cells", "[I", true)
  | _ => ("OtherDoorModel", "torn", "I", false)
def tyX12 : Nat → FieldType := fun k => match k with
  | 0 => .array .int
  | 1 => .int
  | 2 => .array .int
  | 3 => .int
  | 4 => .boolean
  | 5 => .boolean
  | 6 => .int
  | 7 => .int
  | 8 => .int
  | 9 => .array .int
  | 10 => .int
  | 11 => .int
  | 12 => .int
  | 13 => .int
  | 14 => .int
  | 15 => .int
  | 16 => .int
  | 17 => .int
  | 18 => .array .int
  | 19 => .array .int
  | 20 => .array .int
  | 21 => .array .int
  | 22 => .array .int
  | 23 => .array .int
  | 24 => .int
  | 25 => .array .int
  | 26 => .array .int
  | 27 => .array .int
  | 28 => .array .int
  | 29 => .int
  | 30 => .array .int
  | 31 => .array .int
  | 32 => .array .int
  | 33 => .int
  | 34 => .int
  | 35 => .int
  | 36 => .array .long
  | 37 => .array .long
  | 38 => .array .long
  | 39 => .array .boolean
  | 40 => .array .int
  | 41 => .array .int
  | 42 => .array .int
  | _ => .int
abbrev wsX120 : List Cond := u_ws RX12 TX12 44
theorem nmX12 : ∀ a, a < 44 → ∀ b, b < 44 → a ≠ b → (TX12 a).2.1 ≠ (TX12 b).2.1 := by decide +kernel
theorem tyX12_ok : ∀ k, k < 44 → parseFieldDescriptor (TX12 k).2.2.1 = some (tyX12 k) := by decide +kernel
abbrev cX12_init : ByteArray := prog_14_method_1_code
def yX12_init : MethodName := ⟨RX12, "<init>", "()V"⟩
abbrev cX12_in : ByteArray := prog_14_method_3_code
def yX12_in : MethodName := ⟨RX12, "in", "(JJJ)Z"⟩
abbrev cX12_feed : ByteArray := prog_14_method_4_code
def yX12_feed : MethodName := ⟨RX12, "feed", "(J)I"⟩
abbrev cX12_end : ByteArray := prog_14_method_5_code
def yX12_end : MethodName := ⟨RX12, "end", "(I)I"⟩
abbrev cX12_byteAt : ByteArray := prog_14_method_6_code
def yX12_byteAt : MethodName := ⟨RX12, "byteAt", "(I)I"⟩
abbrev cX12_fails : ByteArray := prog_14_method_7_code
def yX12_fails : MethodName := ⟨RX12, "fails", "(I)V"⟩
abbrev cX12_nameHere : ByteArray := prog_14_method_8_code
def yX12_nameHere : MethodName := ⟨RX12, "nameHere", "()I"⟩
abbrev cX12_step : ByteArray := prog_14_method_9_code
def yX12_step : MethodName := ⟨RX12, "step", "()V"⟩
abbrev cX12_looks : ByteArray := prog_14_method_10_code
def yX12_looks : MethodName := ⟨RX12, "looks", "(II)V"⟩
abbrev cX12_number : ByteArray := prog_14_method_11_code
def yX12_number : MethodName := ⟨RX12, "number", "(II)I"⟩
abbrev cX12_room : ByteArray := prog_14_method_12_code
def yX12_room : MethodName := ⟨RX12, "room", "(I)I"⟩
abbrev cX12_readDoor : ByteArray := prog_14_method_13_code
def yX12_readDoor : MethodName := ⟨RX12, "readDoor", "()V"⟩
abbrev cX12_readOne : ByteArray := prog_14_method_14_code
def yX12_readOne : MethodName := ⟨RX12, "readOne", "()V"⟩
abbrev cX12_readWalled : ByteArray := prog_14_method_15_code
def yX12_readWalled : MethodName := ⟨RX12, "readWalled", "()V"⟩
abbrev cX12_readLine : ByteArray := prog_14_method_16_code
def yX12_readLine : MethodName := ⟨RX12, "readLine", "()V"⟩
abbrev cX12_palace : ByteArray := prog_14_method_17_code
def yX12_palace : MethodName := ⟨RX12, "palace", "()I"⟩
abbrev cX12_fault : ByteArray := prog_14_method_18_code
def yX12_fault : MethodName := ⟨RX12, "fault", "()I"⟩
abbrev cX12_doorMany : ByteArray := prog_14_method_19_code
def yX12_doorMany : MethodName := ⟨RX12, "doorMany", "()I"⟩
abbrev cX12_ones : ByteArray := prog_14_method_20_code
def yX12_ones : MethodName := ⟨RX12, "ones", "()I"⟩
abbrev cX12_isRoom : ByteArray := prog_14_method_21_code
def yX12_isRoom : MethodName := ⟨RX12, "isRoom", "(I)Z"⟩
abbrev cX12_isDoor : ByteArray := prog_14_method_22_code
def yX12_isDoor : MethodName := ⟨RX12, "isDoor", "(I)Z"⟩
abbrev cX12_isOne : ByteArray := prog_14_method_23_code
def yX12_isOne : MethodName := ⟨RX12, "isOne", "(I)Z"⟩
abbrev cX12_rule : ByteArray := prog_14_method_24_code
def yX12_rule : MethodName := ⟨RX12, "rule", "(I)I"⟩
abbrev cX12_door : ByteArray := prog_14_method_25_code
def yX12_door : MethodName := ⟨RX12, "door", "(II)I"⟩
abbrev cX12_placeOf : ByteArray := prog_14_method_26_code
def yX12_placeOf : MethodName := ⟨RX12, "placeOf", "(IIII)I"⟩
abbrev cX12_placeOfOne : ByteArray := prog_14_method_27_code
def yX12_placeOfOne : MethodName := ⟨RX12, "placeOfOne", "(I)I"⟩
abbrev cX12_roomAt : ByteArray := prog_14_method_28_code
def yX12_roomAt : MethodName := ⟨RX12, "roomAt", "(I)I"⟩
abbrev cX12_lastAt : ByteArray := prog_14_method_29_code
def yX12_lastAt : MethodName := ⟨RX12, "lastAt", "(I)I"⟩
abbrev cX12_stepped : ByteArray := prog_14_method_30_code
def yX12_stepped : MethodName := ⟨RX12, "stepped", "(II)I"⟩
abbrev cX12_mayTake : ByteArray := prog_14_method_31_code
def yX12_mayTake : MethodName := ⟨RX12, "mayTake", "(I)I"⟩
abbrev cX12_isLost : ByteArray := prog_14_method_32_code
def yX12_isLost : MethodName := ⟨RX12, "isLost", "(I)Z"⟩
abbrev cX12_one : ByteArray := prog_14_method_33_code
def yX12_one : MethodName := ⟨RX12, "one", "(II)I"⟩
abbrev cX12_doorsOf : ByteArray := prog_14_method_34_code
def yX12_doorsOf : MethodName := ⟨RX12, "doorsOf", "(I)I"⟩
abbrev cX12_doors : ByteArray := prog_14_method_35_code
def yX12_doors : MethodName := ⟨RX12, "doors", "(I)I"⟩
abbrev cX12_law : ByteArray := prog_14_method_36_code
def yX12_law : MethodName := ⟨RX12, "law", "(I)I"⟩
abbrev cX12_addDoor : ByteArray := prog_14_method_37_code
def yX12_addDoor : MethodName := ⟨RX12, "addDoor", "(III)V"⟩
abbrev cX12_build : ByteArray := prog_14_method_38_code
def yX12_build : MethodName := ⟨RX12, "build", "(III)I"⟩
abbrev cX12_wall : ByteArray := prog_14_method_39_code
def yX12_wall : MethodName := ⟨RX12, "wall", "(IZ)I"⟩
abbrev cX12_stand : ByteArray := prog_14_method_40_code
def yX12_stand : MethodName := ⟨RX12, "stand", "(II)I"⟩
abbrev cX12_goes : ByteArray := prog_14_method_41_code
def yX12_goes : MethodName := ⟨RX12, "goes", "(II)I"⟩
abbrev cX12_go : ByteArray := prog_14_method_42_code
def yX12_go : MethodName := ⟨RX12, "go", "(II)I"⟩
abbrev cX12_begins : ByteArray := prog_14_method_43_code
def yX12_begins : MethodName := ⟨RX12, "begins", "()V"⟩
abbrev cX12_finds : ByteArray := prog_14_method_44_code
def yX12_finds : MethodName := ⟨RX12, "finds", "(IIII)V"⟩
abbrev cX12_spreads : ByteArray := prog_14_method_45_code
def yX12_spreads : MethodName := ⟨RX12, "spreads", "()V"⟩
abbrev cX12_laysFrom : ByteArray := prog_14_method_46_code
def yX12_laysFrom : MethodName := ⟨RX12, "laysFrom", "(I)V"⟩
abbrev cX12_foundIn : ByteArray := prog_14_method_47_code
def yX12_foundIn : MethodName := ⟨RX12, "foundIn", "(I)I"⟩
abbrev cX12_foundRooms : ByteArray := prog_14_method_48_code
def yX12_foundRooms : MethodName := ⟨RX12, "foundRooms", "()I"⟩
abbrev cX12_far : ByteArray := prog_14_method_49_code
def yX12_far : MethodName := ⟨RX12, "far", "(II)I"⟩
abbrev cX12_way : ByteArray := prog_14_method_50_code
def yX12_way : MethodName := ⟨RX12, "way", "(III)I"⟩
abbrev cX12_can : ByteArray := prog_14_method_51_code
def yX12_can : MethodName := ⟨RX12, "can", "(I)I"⟩
abbrev cX12_newIn : ByteArray := prog_14_method_52_code
def yX12_newIn : MethodName := ⟨RX12, "newIn", "(I)I"⟩
abbrev cX12_path : ByteArray := prog_14_method_53_code
def yX12_path : MethodName := ⟨RX12, "path", "(II)I"⟩
abbrev cX12_bitsOf : ByteArray := prog_14_method_54_code
def yX12_bitsOf : MethodName := ⟨RX12, "bitsOf", "(I)I"⟩
abbrev cX12_pairsNow : ByteArray := prog_14_method_55_code
def yX12_pairsNow : MethodName := ⟨RX12, "pairsNow", "()I"⟩
abbrev cX12_pairs : ByteArray := prog_14_method_56_code
def yX12_pairs : MethodName := ⟨RX12, "pairs", "()I"⟩
abbrev cX12_isTrap : ByteArray := prog_14_method_57_code
def yX12_isTrap : MethodName := ⟨RX12, "isTrap", "(II)Z"⟩
abbrev cX12_life : ByteArray := prog_14_method_58_code
def yX12_life : MethodName := ⟨RX12, "life", "()I"⟩
abbrev cX12_trap : ByteArray := prog_14_method_59_code
def yX12_trap : MethodName := ⟨RX12, "trap", "(II)I"⟩
abbrev cX12_secret : ByteArray := prog_14_method_60_code
def yX12_secret : MethodName := ⟨RX12, "secret", "()I"⟩
abbrev cX12_isSafe : ByteArray := prog_14_method_61_code
def yX12_isSafe : MethodName := ⟨RX12, "isSafe", "()Z"⟩
abbrev cX12_safe : ByteArray := prog_14_method_62_code
def yX12_safe : MethodName := ⟨RX12, "safe", "()I"⟩
abbrev cX12_askedBit : ByteArray := prog_14_method_63_code
def yX12_askedBit : MethodName := ⟨RX12, "askedBit", "(II)I"⟩
abbrev cX12_withRoom : ByteArray := prog_14_method_64_code
def yX12_withRoom : MethodName := ⟨RX12, "withRoom", "(II)I"⟩
abbrev cX12_goesRound : ByteArray := prog_14_method_65_code
def yX12_goesRound : MethodName := ⟨RX12, "goesRound", "(I)Z"⟩
abbrev cX12_isRound : ByteArray := prog_14_method_66_code
def yX12_isRound : MethodName := ⟨RX12, "isRound", "(II)Z"⟩
abbrev cX12_round : ByteArray := prog_14_method_67_code
def yX12_round : MethodName := ⟨RX12, "round", "(II)I"⟩
abbrev cX12_layOpens : ByteArray := prog_14_method_68_code
def yX12_layOpens : MethodName := ⟨RX12, "layOpens", "()V"⟩
abbrev cX12_onward : ByteArray := prog_14_method_69_code
def yX12_onward : MethodName := ⟨RX12, "onward", "(II)I"⟩
abbrev cX12_layTours : ByteArray := prog_14_method_70_code
def yX12_layTours : MethodName := ⟨RX12, "layTours", "()V"⟩
abbrev cX12_tour : ByteArray := prog_14_method_71_code
def yX12_tour : MethodName := ⟨RX12, "tour", "(II)I"⟩
abbrev cX12_beginsTwo : ByteArray := prog_14_method_72_code
def yX12_beginsTwo : MethodName := ⟨RX12, "beginsTwo", "()V"⟩
abbrev cX12_findsTwo : ByteArray := prog_14_method_73_code
def yX12_findsTwo : MethodName := ⟨RX12, "findsTwo", "(II)V"⟩
abbrev cX12_doing : ByteArray := prog_14_method_74_code
def yX12_doing : MethodName := ⟨RX12, "doing", "(II)I"⟩
abbrev cX12_talk : ByteArray := prog_14_method_75_code
def yX12_talk : MethodName := ⟨RX12, "talk", "(III)I"⟩
abbrev cX12_stays : ByteArray := prog_14_method_76_code
def yX12_stays : MethodName := ⟨RX12, "stays", "(I)I"⟩
abbrev cX12_doneBy : ByteArray := prog_14_method_77_code
def yX12_doneBy : MethodName := ⟨RX12, "doneBy", "(II)I"⟩
abbrev cX12_layTalk : ByteArray := prog_14_method_78_code
def yX12_layTalk : MethodName := ⟨RX12, "layTalk", "(II)V"⟩
abbrev cX12_cup : ByteArray := prog_14_method_79_code
def yX12_cup : MethodName := ⟨RX12, "cup", "(III)I"⟩
abbrev cX12_findsCup : ByteArray := prog_14_method_80_code
def yX12_findsCup : MethodName := ⟨RX12, "findsCup", "(IIII)V"⟩
abbrev cX12_more : ByteArray := prog_14_method_81_code
def yX12_more : MethodName := ⟨RX12, "more", "(I)I"⟩
abbrev cX12_worst : ByteArray := prog_14_method_82_code
def yX12_worst : MethodName := ⟨RX12, "worst", "(I)I"⟩
abbrev cX12_mendsOne : ByteArray := prog_14_method_83_code
def yX12_mendsOne : MethodName := ⟨RX12, "mendsOne", "(Z)Z"⟩
abbrev cX12_layMend : ByteArray := prog_14_method_84_code
def yX12_layMend : MethodName := ⟨RX12, "layMend", "()I"⟩
abbrev cX12_mend : ByteArray := prog_14_method_85_code
def yX12_mend : MethodName := ⟨RX12, "mend", "(I)I"⟩
abbrev cX12_tell : ByteArray := prog_14_method_86_code
def yX12_tell : MethodName := ⟨RX12, "tell", "(I)I"⟩
abbrev cX12_forget : ByteArray := prog_14_method_87_code
def yX12_forget : MethodName := ⟨RX12, "forget", "()I"⟩
abbrev cX12_judge : ByteArray := prog_14_method_88_code
def yX12_judge : MethodName := ⟨RX12, "judge", "(I)I"⟩
abbrev cX12_addWays : ByteArray := prog_14_method_89_code
def yX12_addWays : MethodName := ⟨RX12, "addWays", "(IIII)V"⟩
abbrev cX12_layWays : ByteArray := prog_14_method_90_code
def yX12_layWays : MethodName := ⟨RX12, "layWays", "(IIII)J"⟩
abbrev cX12_ajar : ByteArray := prog_14_method_91_code
def yX12_ajar : MethodName := ⟨RX12, "ajar", "(IIII)I"⟩
abbrev cX12_copies : ByteArray := prog_14_method_92_code
def yX12_copies : MethodName := ⟨RX12, "copies", "(II)V"⟩
abbrev cX12_keep : ByteArray := prog_14_method_93_code
def yX12_keep : MethodName := ⟨RX12, "keep", "(I)I"⟩
abbrev cX12_back : ByteArray := prog_14_method_94_code
def yX12_back : MethodName := ⟨RX12, "back", "(I)I"⟩
abbrev cX12_sheet : ByteArray := prog_14_method_95_code
def yX12_sheet : MethodName := ⟨RX12, "sheet", "(III)I"⟩
abbrev cX12_lay : ByteArray := prog_14_method_96_code
def yX12_lay : MethodName := ⟨RX12, "lay", "(III)I"⟩
abbrev cX12_read : ByteArray := prog_14_method_97_code
def yX12_read : MethodName := ⟨RX12, "read", "(IIIII)I"⟩
abbrev cX12_torn : ByteArray := prog_14_method_98_code
def yX12_torn : MethodName := ⟨RX12, "torn", "()I"⟩
abbrev cX12_count : ByteArray := prog_14_method_99_code
def yX12_count : MethodName := ⟨RX12, "count", "(I)I"⟩
def RJx145de : String := "java/io/Serializable"
def TJx145de : u_T := fun k => match k with
  | _ => ("", "", "", false)
def tyJx145de : Nat → FieldType := fun k => match k with
  | _ => .int
abbrev wsJx145de0 : List Cond := u_ws RJx145de TJx145de 0
theorem nmJx145de : ∀ a, a < 0 → ∀ b, b < 0 → a ≠ b → (TJx145de a).2.1 ≠ (TJx145de b).2.1 := by decide +kernel
theorem tyJx145de_ok : ∀ k, k < 0 → parseFieldDescriptor (TJx145de k).2.2.1 = some (tyJx145de k) := by decide +kernel
def RJx9f9b0 : String := "java/lang/CharSequence"
def TJx9f9b0 : u_T := fun k => match k with
  | _ => ("", "", "", false)
def tyJx9f9b0 : Nat → FieldType := fun k => match k with
  | _ => .int
abbrev wsJx9f9b00 : List Cond := u_ws RJx9f9b0 TJx9f9b0 0
theorem nmJx9f9b0 : ∀ a, a < 0 → ∀ b, b < 0 → a ≠ b → (TJx9f9b0 a).2.1 ≠ (TJx9f9b0 b).2.1 := by decide +kernel
theorem tyJx9f9b0_ok : ∀ k, k < 0 → parseFieldDescriptor (TJx9f9b0 k).2.2.1 = some (tyJx9f9b0 k) := by decide +kernel
def RJxb160c : String := "java/lang/Comparable"
def TJxb160c : u_T := fun k => match k with
  | _ => ("", "", "", false)
def tyJxb160c : Nat → FieldType := fun k => match k with
  | _ => .int
abbrev wsJxb160c0 : List Cond := u_ws RJxb160c TJxb160c 0
theorem nmJxb160c : ∀ a, a < 0 → ∀ b, b < 0 → a ≠ b → (TJxb160c a).2.1 ≠ (TJxb160c b).2.1 := by decide +kernel
theorem tyJxb160c_ok : ∀ k, k < 0 → parseFieldDescriptor (TJxb160c k).2.2.1 = some (tyJxb160c k) := by decide +kernel
def RJ6 : String := "java/lang/Integer"
def TJ6 : u_T := fun k => match k with
  | _ => ("", "", "", false)
def tyJ6 : Nat → FieldType := fun k => match k with
  | _ => .int
abbrev wsJ60 : List Cond := u_ws RJ6 TJ6 0
theorem nmJ6 : ∀ a, a < 0 → ∀ b, b < 0 → a ≠ b → (TJ6 a).2.1 ≠ (TJ6 b).2.1 := by decide +kernel
theorem tyJ6_ok : ∀ k, k < 0 → parseFieldDescriptor (TJ6 k).2.2.1 = some (tyJ6 k) := by decide +kernel
abbrev cJ6_bitCount_0f7a4 : ByteArray := prog_15_method_49_code
def yJ6_bitCount_0f7a4 : MethodName := ⟨RJ6, "bitCount", "(I)I"⟩
def RJ0 : String := "java/lang/String"
def TJ0 : u_T := fun k => match k with
  | _ => ("", "", "", false)
def tyJ0 : Nat → FieldType := fun k => match k with
  | _ => .int
abbrev wsJ00 : List Cond := u_ws RJ0 TJ0 0
theorem nmJ0 : ∀ a, a < 0 → ∀ b, b < 0 → a ≠ b → (TJ0 a).2.1 ≠ (TJ0 b).2.1 := by decide +kernel
theorem tyJ0_ok : ∀ k, k < 0 → parseFieldDescriptor (TJ0 k).2.2.1 = some (tyJ0 k) := by decide +kernel
abbrev cJ0_length_8abf5 : ByteArray := prog_16_method_54_code
def yJ0_length_8abf5 : MethodName := ⟨RJ0, "length", "()I"⟩
abbrev cJ0_charAt_5068e : ByteArray := prog_16_method_56_code
def yJ0_charAt_5068e : MethodName := ⟨RJ0, "charAt", "(I)C"⟩
abbrev cJ0_coder_7d493 : ByteArray := prog_16_method_152_code
def yJ0_coder_7d493 : MethodName := ⟨RJ0, "coder", "()B"⟩
abbrev cJ0_isLatin1_aae02 : ByteArray := prog_16_method_154_code
def yJ0_isLatin1_aae02 : MethodName := ⟨RJ0, "isLatin1", "()Z"⟩
abbrev cJ0_checkIndex_df160 : ByteArray := prog_16_method_155_code
def yJ0_checkIndex_df160 : MethodName := ⟨RJ0, "checkIndex", "(II)V"⟩
def RJ1 : String := "java/lang/StringLatin1"
def TJ1 : u_T := fun k => match k with
  | _ => ("", "", "", false)
def tyJ1 : Nat → FieldType := fun k => match k with
  | _ => .int
abbrev wsJ10 : List Cond := u_ws RJ1 TJ1 0
theorem nmJ1 : ∀ a, a < 0 → ∀ b, b < 0 → a ≠ b → (TJ1 a).2.1 ≠ (TJ1 b).2.1 := by decide +kernel
theorem tyJ1_ok : ∀ k, k < 0 → parseFieldDescriptor (TJ1 k).2.2.1 = some (tyJ1 k) := by decide +kernel
abbrev cJ1_charAt_3b067 : ByteArray := prog_17_method_2_code
def yJ1_charAt_3b067 : MethodName := ⟨RJ1, "charAt", "([BI)C"⟩
def RJ2 : String := "java/lang/StringUTF16"
def TJ2 : u_T := fun k => match k with
  | _ => ("", "", "", false)
def tyJ2 : Nat → FieldType := fun k => match k with
  | _ => .int
abbrev wsJ20 : List Cond := u_ws RJ2 TJ2 0
theorem nmJ2 : ∀ a, a < 0 → ∀ b, b < 0 → a ≠ b → (TJ2 a).2.1 ≠ (TJ2 b).2.1 := by decide +kernel
theorem tyJ2_ok : ∀ k, k < 0 → parseFieldDescriptor (TJ2 k).2.2.1 = some (tyJ2 k) := by decide +kernel
abbrev cJ2_getChar_3b067 : ByteArray := prog_18_method_5_code
def yJ2_getChar_3b067 : MethodName := ⟨RJ2, "getChar", "([BI)C"⟩
abbrev cJ2_length_9d52b : ByteArray := prog_18_method_6_code
def yJ2_length_9d52b : MethodName := ⟨RJ2, "length", "([B)I"⟩
abbrev cJ2_charAt_3b067 : ByteArray := prog_18_method_83_code
def yJ2_charAt_3b067 : MethodName := ⟨RJ2, "charAt", "([BI)C"⟩
abbrev cJ2_checkIndex_2214a : ByteArray := prog_18_method_91_code
def yJ2_checkIndex_2214a : MethodName := ⟨RJ2, "checkIndex", "(I[B)V"⟩
def RJ10 : String := "java/lang/System"
def TJ10 : u_T := fun k => match k with
  | _ => ("", "", "", false)
def tyJ10 : Nat → FieldType := fun k => match k with
  | _ => .int
abbrev wsJ100 : List Cond := u_ws RJ10 TJ10 0
theorem nmJ10 : ∀ a, a < 0 → ∀ b, b < 0 → a ≠ b → (TJ10 a).2.1 ≠ (TJ10 b).2.1 := by decide +kernel
theorem tyJ10_ok : ∀ k, k < 0 → parseFieldDescriptor (TJ10 k).2.2.1 = some (tyJ10 k) := by decide +kernel
def RJxfd54e : String := "java/lang/constant/Constable"
def TJxfd54e : u_T := fun k => match k with
  | _ => ("", "", "", false)
def tyJxfd54e : Nat → FieldType := fun k => match k with
  | _ => .int
abbrev wsJxfd54e0 : List Cond := u_ws RJxfd54e TJxfd54e 0
theorem nmJxfd54e : ∀ a, a < 0 → ∀ b, b < 0 → a ≠ b → (TJxfd54e a).2.1 ≠ (TJxfd54e b).2.1 := by decide +kernel
theorem tyJxfd54e_ok : ∀ k, k < 0 → parseFieldDescriptor (TJxfd54e k).2.2.1 = some (tyJxfd54e k) := by decide +kernel
def RJx3cf43 : String := "java/lang/constant/ConstantDesc"
def TJx3cf43 : u_T := fun k => match k with
  | _ => ("", "", "", false)
def tyJx3cf43 : Nat → FieldType := fun k => match k with
  | _ => .int
abbrev wsJx3cf430 : List Cond := u_ws RJx3cf43 TJx3cf43 0
theorem nmJx3cf43 : ∀ a, a < 0 → ∀ b, b < 0 → a ≠ b → (TJx3cf43 a).2.1 ≠ (TJx3cf43 b).2.1 := by decide +kernel
theorem tyJx3cf43_ok : ∀ k, k < 0 → parseFieldDescriptor (TJx3cf43 k).2.2.1 = some (tyJx3cf43 k) := by decide +kernel
def RJ7 : String := "java/util/Arrays"
def TJ7 : u_T := fun k => match k with
  | _ => ("", "", "", false)
def tyJ7 : Nat → FieldType := fun k => match k with
  | _ => .int
abbrev wsJ70 : List Cond := u_ws RJ7 TJ7 0
theorem nmJ7 : ∀ a, a < 0 → ∀ b, b < 0 → a ≠ b → (TJ7 a).2.1 ≠ (TJ7 b).2.1 := by decide +kernel
theorem tyJ7_ok : ∀ k, k < 0 → parseFieldDescriptor (TJ7 k).2.2.1 = some (tyJ7 k) := by decide +kernel
abbrev cJ7_fill_53178 : ByteArray := prog_20_method_103_code
def yJ7_fill_53178 : MethodName := ⟨RJ7, "fill", "([II)V"⟩
def RJ3 : String := "jdk/internal/util/Preconditions"
def TJ3 : u_T := fun k => match k with
  | _ => ("", "", "", false)
def tyJ3 : Nat → FieldType := fun k => match k with
  | _ => .int
abbrev wsJ30 : List Cond := u_ws RJ3 TJ3 0
theorem nmJ3 : ∀ a, a < 0 → ∀ b, b < 0 → a ≠ b → (TJ3 a).2.1 ≠ (TJ3 b).2.1 := by decide +kernel
theorem tyJ3_ok : ∀ k, k < 0 → parseFieldDescriptor (TJ3 k).2.2.1 = some (tyJ3 k) := by decide +kernel
abbrev cJ3_checkIndex_8e157 : ByteArray := prog_21_method_11_code
def yJ3_checkIndex_8e157 : MethodName := ⟨RJ3, "checkIndex", "(IILjava/util/function/BiFunction;)I"⟩
def RL : String := "OtherDoorLaw"
abbrev cL_law : ByteArray := code
def yL_law : MethodName := ⟨RL, "law", "([I)Z"⟩
abbrev vwCl : List vw_C := [(RX0, TX0, 4), (RX1, TX1, 9), (RX2, TX2, 5), (RX3, TX3, 7), (RX4, TX4, 3), (RX5, TX5, 13), (RX6, TX6, 4), (RX7, TX7, 6), (RX8, TX8, 9), (RX9, TX9, 3), (RX10, TX10, 8), (RX11, TX11, 13), (RX12, TX12, 44)]
end
section
section
/-! The numbers of the mini machine: an int is an Int in range, an operation goes by way of Int32. -/
def zI (z : Int) : Prop := -2147483648 ≤ z ∧ z < 2147483648
def zJ (z : Int) : Prop := -9223372036854775808 ≤ z ∧ z < 9223372036854775808
def w32 (z : Int) : Int := (z + 2147483648) % 4294967296 - 2147483648
def w64 (z : Int) : Int := (z + 9223372036854775808) % 18446744073709551616 - 9223372036854775808
theorem zI_to {z : Int} (h : zI z) : (Int32.ofInt z).toInt = z := Int32.toInt_ofInt_of_le h.1 h.2
theorem zJ_to {z : Int} (h : zJ z) : (Int64.ofInt z).toInt = z := Int64.toInt_ofInt_of_le h.1 h.2
theorem zI_of (x : Int32) : zI x.toInt := ⟨x.le_toInt, x.toInt_lt⟩
theorem zJ_of (x : Int64) : zJ x.toInt := ⟨x.le_toInt, x.toInt_lt⟩
theorem w32_bmod (z : Int) : z.bmod 4294967296 = w32 z := by
  unfold w32
  rw [Int.bmod_def]
  split <;> omega
theorem w64_bmod (z : Int) : z.bmod 18446744073709551616 = w64 z := by
  unfold w64
  rw [Int.bmod_def]
  split <;> omega
theorem w32_I (z : Int) : zI (w32 z) := by unfold w32 zI; omega
theorem w64_J (z : Int) : zJ (w64 z) := by unfold w64 zJ; omega
theorem w32_id {z : Int} (h : zI z) : w32 z = z := by unfold zI at h; unfold w32; omega
theorem w64_id {z : Int} (h : zJ z) : w64 z = z := by unfold zJ at h; unfold w64; omega
theorem zO (z : Int) : (Int32.ofInt z).toInt = w32 z := by rw [Int32.toInt_ofInt]; exact w32_bmod z
theorem zOl (z : Int) : (Int64.ofInt z).toInt = w64 z := by rw [Int64.toInt_ofInt]; exact w64_bmod z
def zadd (x y : Int) : Int := (Int32.ofInt x + Int32.ofInt y).toInt
def zsub (x y : Int) : Int := (Int32.ofInt x - Int32.ofInt y).toInt
def zmul (x y : Int) : Int := (Int32.ofInt x * Int32.ofInt y).toInt
def zneg (x : Int) : Int := (-Int32.ofInt x).toInt
def zdiv (x y : Int) : Int := (Int32.ofInt x / Int32.ofInt y).toInt
def zrem (x y : Int) : Int := (Int32.ofInt x - Int32.ofInt x / Int32.ofInt y * Int32.ofInt y).toInt
def zand (x y : Int) : Int := (Int32.ofInt x &&& Int32.ofInt y).toInt
def zor (x y : Int) : Int := (Int32.ofInt x ||| Int32.ofInt y).toInt
def zxor (x y : Int) : Int := (Int32.ofInt x ^^^ Int32.ofInt y).toInt
def zshl (x y : Int) : Int := (Int32.ofInt x <<< (Int32.ofInt y &&& 31)).toInt
def zshr (x y : Int) : Int := (Int32.ofInt x >>> (Int32.ofInt y &&& 31)).toInt
def zushr (x y : Int) : Int := (((Int32.ofInt x).toUInt32 >>> ((Int32.ofInt y).toUInt32 &&& Int32.toUInt32 31)).toInt32).toInt
def zi2b (x : Int) : Int := (Int32.ofInt x).toInt8.toInt32.toInt
def zi2s (x : Int) : Int := (Int32.ofInt x).toInt16.toInt32.toInt
def zi2c (x : Int) : Int := ((Int32.ofInt x).toUInt32 % 65536).toInt32.toInt
def zl2i (x : Int) : Int := (Int64.ofInt x).toInt32.toInt
def zladd (x y : Int) : Int := (Int64.ofInt x + Int64.ofInt y).toInt
def zlmul (x y : Int) : Int := (Int64.ofInt x * Int64.ofInt y).toInt
def zland (x y : Int) : Int := (Int64.ofInt x &&& Int64.ofInt y).toInt
def zlor (x y : Int) : Int := (Int64.ofInt x ||| Int64.ofInt y).toInt
def zlshl (x y : Int) : Int := (Int64.ofInt x <<< ((Int32.ofInt y).toInt64 &&& 63)).toInt
def zlshr (x y : Int) : Int := (Int64.ofInt x >>> ((Int32.ofInt y).toInt64 &&& 63)).toInt
def zlushr (x y : Int) : Int := (((Int64.ofInt x).toUInt64 >>> ((Int32.ofInt y).toInt64.toUInt64 &&& Int64.toUInt64 63)).toInt64).toInt
def zlcmp (x y : Int) : Int := (lg_cmp (Int64.ofInt x) (Int64.ofInt y)).toInt
theorem zadd_w (x y : Int) : zadd x y = w32 (x + y) := by
  unfold zadd
  rw [← Int32.ofInt_add, zO]
theorem zsub_w (x y : Int) : zsub x y = w32 (x - y) := by
  unfold zsub
  rw [← Int32.ofInt_sub, zO]
theorem zmul_w (x y : Int) : zmul x y = w32 (x * y) := by
  unfold zmul
  rw [← Int32.ofInt_mul, zO]
theorem zneg_w (x : Int) : zneg x = w32 (-x) := by
  unfold zneg
  rw [← Int32.ofInt_neg, zO]
theorem zladd_w (x y : Int) : zladd x y = w64 (x + y) := by
  unfold zladd
  rw [← Int64.ofInt_add, zOl]
theorem zlmul_w (x y : Int) : zlmul x y = w64 (x * y) := by
  unfold zlmul
  rw [← Int64.ofInt_mul, zOl]
theorem zadd_n {x y : Int} (h : zI (x + y)) : zadd x y = x + y := by rw [zadd_w, w32_id h]
theorem zsub_n {x y : Int} (h : zI (x - y)) : zsub x y = x - y := by rw [zsub_w, w32_id h]
theorem zmul_n {x y : Int} (h : zI (x * y)) : zmul x y = x * y := by rw [zmul_w, w32_id h]
theorem zlt_i {x y : Int} (hx : zI x) (hy : zI y) : Int32.ofInt x < Int32.ofInt y ↔ x < y := by rw [Int32.lt_iff_toInt_lt, zI_to hx, zI_to hy]
theorem zle_i {x y : Int} (hx : zI x) (hy : zI y) : Int32.ofInt x ≤ Int32.ofInt y ↔ x ≤ y := by rw [Int32.le_iff_toInt_le, zI_to hx, zI_to hy]
theorem zeq_i {x y : Int} (hx : zI x) (hy : zI y) : Int32.ofInt x = Int32.ofInt y ↔ x = y := by rw [← Int32.toInt_inj, zI_to hx, zI_to hy]
theorem z0_i : (0 : Int32) = Int32.ofInt 0 := by decide +kernel
theorem zin_i {x : Int} (hx : zI x) {n : Nat} (h0 : 0 ≤ x) (hn : x < n) : vp_in (Int32.ofInt x) n := by
  rw [vp_in_iff, zI_to hx]
  exact ⟨h0, hn⟩
theorem zcl_i {x : Int} (hx : zI x) : (Int32.ofInt x).toNatClampNeg = x.toNat := by
  show (Int32.ofInt x).toInt.toNat = x.toNat
  rw [zI_to hx]
theorem zi2l_i {x : Int} (hx : zI x) : (Int32.ofInt x).toInt64 = Int64.ofInt x := by
  rw [← Int64.toInt_inj, Int32.toInt_toInt64, zI_to hx, zJ_to]
  unfold zI at hx
  unfold zJ
  omega
end
end
section
section
/-! The block: the cells that the two constructors make, in the order in which they are made (printed by wip/whole/gen_shape.py). -/
/-- kind and size of each cell: below 100 an object of that class (its place in vwCl); 100 int[], 101 byte[], 102 boolean[], 103 long[], 110.. rows of references -/
def zSH : List (Nat × Nat) := [(11, 13), (2, 5), (1, 9), (100, 14), (100, 14), (100, 14), (100, 10), (100, 4), (110, 5), (9, 3), (9, 3), (9, 3), (9, 3), (9, 3), (100, 12), (111, 2), (2, 5), (1, 9), (100, 14), (100, 14), (100, 14), (100, 10), (100, 4), (110, 5), (9, 3), (9, 3), (9, 3), (9, 3), (9, 3), (100, 12), (2, 5), (1, 9), (100, 14), (100, 14), (100, 14), (100, 10), (100, 4), (110, 5), (9, 3), (9, 3), (9, 3), (9, 3), (9, 3), (100, 12), (112, 4), (4, 3), (100, 40), (4, 3), (100, 40), (4, 3), (100, 40), (4, 3), (100, 40), (5, 13), (101, 320), (2, 5), (1, 9), (100, 14), (100, 14), (100, 14), (100, 10), (100, 4), (110, 5), (9, 3), (9, 3), (9, 3), (9, 3), (9, 3), (100, 12), (9, 3), (10, 8), (100, 421), (100, 421), (100, 421), (100, 421), (100, 421), (100, 28), (3, 7), (100, 10), (100, 421), (113, 2), (100, 421), (100, 421), (113, 2), (100, 421), (100, 421), (100, 2), (6, 4), (100, 8), (100, 1280), (8, 9), (100, 30), (100, 30), (100, 10), (113, 5), (100, 30), (100, 30), (100, 30), (100, 30), (100, 30), (113, 5), (100, 30), (100, 30), (100, 30), (100, 30), (100, 30), (113, 5), (100, 30), (100, 30), (100, 30), (100, 30), (100, 30), (0, 4), (113, 4), (100, 10), (100, 10), (100, 10), (100, 10), (100, 2), (7, 6), (100, 6), (100, 6), (12, 44), (100, 264), (100, 88), (100, 320), (100, 9), (100, 33), (100, 570), (100, 570), (100, 570), (100, 570), (100, 570), (100, 570), (100, 570), (100, 14), (100, 7680), (100, 8664), (100, 8664), (103, 570), (103, 570), (103, 10), (102, 2), (100, 4), (100, 4), (100, 160)]
/-- where the references of a cell lead -/
def zRL : List (List Nat) := [[1, 15, 44, 53, 69, 70, 77, 87, 90, 112, 119, 0, 0], [2, 8, 0, 14, 0], [0, 0, 0, 0, 3, 4, 5, 6, 7], [], [], [], [], [], [9, 10, 11, 12, 13], [], [], [], [], [], [], [16, 30], [17, 23, 0, 29, 0], [0, 0, 0, 0, 18, 19, 20, 21, 22], [], [], [], [], [], [24, 25, 26, 27, 28], [], [], [], [], [], [], [31, 37, 0, 43, 0], [0, 0, 0, 0, 32, 33, 34, 35, 36], [], [], [], [], [], [38, 39, 40, 41, 42], [], [], [], [], [], [], [45, 47, 49, 51], [46, 0, 0], [], [48, 0, 0], [], [50, 0, 0], [], [52, 0, 0], [], [54, 55, 0, 0, 0, 0, 0, 0, 0, 0, 0, 0, 0], [], [56, 62, 0, 68, 0], [0, 0, 0, 0, 57, 58, 59, 60, 61], [], [], [], [], [], [63, 64, 65, 66, 67], [], [], [], [], [], [], [], [71, 72, 73, 74, 75, 76, 0, 0], [], [], [], [], [], [], [78, 79, 80, 83, 86, 0, 0], [], [], [81, 82], [], [], [84, 85], [], [], [], [88, 89, 0, 0], [], [], [91, 92, 93, 94, 100, 106, 0, 0, 0], [], [], [], [95, 96, 97, 98, 99], [], [], [], [], [], [101, 102, 103, 104, 105], [], [], [], [], [], [107, 108, 109, 110, 111], [], [], [], [], [], [113, 118, 0, 0], [114, 115, 116, 117], [], [], [], [], [], [120, 121, 0, 0, 0, 0], [], [], [123, 0, 124, 0, 0, 0, 0, 0, 0, 125, 0, 0, 0, 0, 0, 0, 0, 0, 126, 127, 128, 129, 130, 131, 0, 132, 133, 134, 135, 0, 136, 137, 138, 0, 0, 0, 139, 140, 141, 142, 143, 144, 145, 0], [], [], [], [], [], [], [], [], [], [], [], [], [], [], [], [], [], [], [], [], [], [], []]
/-- the fields of each class: 0 an int, 1 a boolean, 2 a reference -/
def zFL : List (List Nat) := [[2, 2, 0, 0], [0, 0, 0, 0, 2, 2, 2, 2, 2], [2, 2, 0, 2, 0], [2, 2, 2, 2, 2, 0, 0], [2, 0, 0], [2, 2, 0, 0, 0, 0, 0, 0, 0, 0, 1, 1, 0], [2, 2, 0, 0], [2, 2, 0, 0, 0, 0], [2, 2, 2, 2, 2, 2, 0, 0, 1], [0, 0, 0], [2, 2, 2, 2, 2, 2, 0, 0], [2, 2, 2, 2, 2, 2, 2, 2, 2, 2, 2, 0, 0], [2, 0, 2, 0, 1, 1, 0, 0, 0, 2, 0, 0, 0, 0, 0, 0, 0, 0, 2, 2, 2, 2, 2, 2, 0, 2, 2, 2, 2, 0, 2, 2, 2, 0, 0, 0, 2, 2, 2, 2, 2, 2, 2, 0]]
abbrev zNC : Nat := 146
def zsh (k : Nat) : Nat × Nat := zSH.getD k (999, 0)
def zkd (k : Nat) : Nat := (zsh k).1
def zln (k : Nat) : Nat := (zsh k).2
def zrt (k j : Nat) : Nat := (zRL.getD k []).getD j 0
def zfk (c j : Nat) : Nat := (zFL.getD c []).getD j 0
/-- what stands in the cells behind the constructors -/
def zIL : List (List Int) := [[], [], [4], [], [], [], [], [], [], [0, -1, -1], [0, -1, -1], [0, -1, -1], [0, -1, -1], [0, -1, -1], [], [], [], [4], [], [], [], [], [], [], [0, -1, -1], [0, -1, -1], [0, -1, -1], [0, -1, -1], [0, -1, -1], [], [], [4], [], [], [], [], [], [], [0, -1, -1], [0, -1, -1], [0, -1, -1], [0, -1, -1], [0, -1, -1], [], [], [0, -1], [], [0, -1], [], [0, -1], [], [0, -1], [], [0, 0, 0, 0, 0, 0, 0, 0, 1], [], [], [4], [], [], [], [], [], [], [0, -1, -1], [0, -1, -1], [0, -1, -1], [0, -1, -1], [0, -1, -1], [], [0, -1, -1], [], [], [], [], [], [], [], [], [], [], [], [], [], [], [], [], [], [], [], [], [], [], [], [], [], [], [], [], [], [], [], [], [], [], [], [], [], [], [], [], [], [], [0, 0, -4, -4], [], [], [], [], [], [], [], [], [], [0, 4], [], [], [], [0, 5, 8, 12, 15, 21, 24, 29, 33], [114, 111, 111, 109, 115, 108, 97, 119, 100, 111, 111, 114, 111, 110, 101, 119, 97, 108, 108, 101, 100, 114, 101, 100, 103, 114, 101, 101, 110, 98, 108, 117, 101], [], [], [], [], [], [], [], [], [], [], [], [], [], [], [], [-4, -4, -4, -4], [], []]
def zm0 : Nat → Nat → Int := fun k j => (zIL.getD k []).getD j 0
end
end
section
section
/-! The mini machine's world: values, memory, and how a heap holds them. -/
abbrev zV : Type := Nat × Int
abbrev zMem : Type := Nat → Nat → Int
abbrev zKey : Type := MethodName × ByteArray × Nat × Option FieldType
/-- the block's first address; classes and slots; array classes by kind; the string constants and their bytes; HAVING's address; the script's address, length, ints -/
abbrev zEnv : Type := Nat × va_G × (Nat → ClassId) × (Nat → Nat) × (Nat → Nat) × Nat × Nat × Nat × (Nat → Int32)
def zEb (E : zEnv) : Nat := E.1
def zED (E : zEnv) : va_G := E.2.1
def zEc (E : zEnv) : Nat → ClassId := E.2.2.1
def zEk (E : zEnv) : Nat → Nat := E.2.2.2.1
def zEv (E : zEnv) : Nat → Nat := E.2.2.2.2.1
def zEh (E : zEnv) : Nat := E.2.2.2.2.2.1
def zEs (E : zEnv) : Nat := E.2.2.2.2.2.2.1
def zEl (E : zEnv) : Nat := E.2.2.2.2.2.2.2.1
def zEx (E : zEnv) : Nat → Int32 := E.2.2.2.2.2.2.2.2
/-- a value: tag 0 an int, 1 a long, 2 a cell of the block, 3 a string constant, 4 HAVING, 5 the script; 9: nothing is known -/
def zv (E : zEnv) : zV → Value
  | (0, x) => .int (Int32.ofInt x)
  | (1, x) => .long (Int64.ofInt x)
  | (2, x) => .ref (zEb E + x.toNat)
  | (3, x) => .ref (zEk E x.toNat)
  | (4, _) => .ref (zEh E)
  | (5, _) => .ref (zEs E)
  | (_, _) => .null
def zok : zV → Prop
  | (0, x) => zI x
  | (1, x) => zJ x
  | (_, _) => True
def zcat : Nat → Nat
  | 1 => 2
  | _ => 1
theorem zv_cat (E : zEnv) (v : zV) : (zv E v).category = zcat v.1 := by
  obtain ⟨t, x⟩ := v
  match t with
  | 0 => rfl
  | 1 => rfl
  | 2 => rfl
  | 3 => rfl
  | 4 => rfl
  | 5 => rfl
  | t + 6 => rfl
def zfv (E : zEnv) (k j : Nat) (x : Int) : Value := if zfk (zkd k) j = 2 then .ref (zEb E + zrt k j) else .int (Int32.ofInt x)
def zel (E : zEnv) (k : Nat) (f : Nat → Int) : va_E :=
  if zkd k < 100 then .inr (zkd k, (List.range (zln k)).map fun j => zfv E k j (f j))
  else .inl (zEc E (zkd k), zln k, if zkd k < 103 then .inl (fun j => Int32.ofInt (f j)) else if zkd k = 103 then .inr (.inl fun j => Int64.ofInt (f j)) else .inr (.inr (.inr (.inr fun j => some (zEb E + zrt k j)))))
def zws (E : zEnv) (mem : zMem) : va_W := (List.range zNC).map fun k => (zEb E + k, zel E k (mem k))
def zA (E : zEnv) : Nat → Prop := fun q => zEb E ≤ q ∧ q < zEb E + zNC
def zrg (mem : zMem) : Prop := ∀ k j, (zkd k = 103 → zJ (mem k j)) ∧ (zkd k ≠ 103 → zI (mem k j))
def zup (mem : zMem) (k j : Nat) (v : Int) : zMem := fun a i => if a = k ∧ i = j then v else mem a i
/-- a row's places dp.. of cell t become the places sp.. of cell k -/
def zcp (mem : zMem) (k sp t dp n : Nat) : zMem := fun a i => if a = t ∧ dp ≤ i ∧ i < dp + n then mem k (sp + (i - dp)) else mem a i
def ztys (E : zEnv) : List (ClassId × FieldType) := [(zEc E 100, .int), (zEc E 101, .byte), (zEc E 102, .boolean), (zEc E 103, .long), (zEc E 110, .object "OtherDoor$Walker"), (zEc E 111, .object "OtherDoor$Palace"), (zEc E 112, .object "OtherDoor$Sheet"), (zEc E 113, .array .int)]
theorem zws_at (E : zEnv) (mem : zMem) {k : Nat} (hk : k < zNC) : (zws E mem)[k]? = some (zEb E + k, zel E k (mem k)) := by
  unfold zws
  rw [List.getElem?_map, List.getElem?_range hk]
  rfl
theorem zws_of {E : zEnv} {mem : zMem} {k : Nat} {q : Nat × va_E} (h : (zws E mem)[k]? = some q) : k < zNC ∧ q = (zEb E + k, zel E k (mem k)) := by
  have hk : k < zNC := by
    have h1 := (List.getElem?_eq_some_iff.mp h).1
    unfold zws at h1
    rw [List.length_map, List.length_range] at h1
    exact h1
  rw [zws_at E mem hk] at h
  exact ⟨hk, (Option.some.inj h).symm⟩
theorem zws_D (E : zEnv) (mem : zMem) : va_D (zA E) (zws E mem) := by
  refine ⟨fun i j p q hi hj h => ?_, fun k q hk => ?_⟩
  · obtain ⟨-, rfl⟩ := zws_of hi
    obtain ⟨-, rfl⟩ := zws_of hj
    exact Nat.add_left_cancel h
  · obtain ⟨h1, rfl⟩ := zws_of hk
    exact ⟨Nat.le_add_right _ _, Nat.add_lt_add_left h1 _⟩
theorem zws_set (E : zEnv) (mem mem' : zMem) {k : Nat} (hk : k < zNC) (ho : ∀ a, a ≠ k → mem' a = mem a) : (zws E mem).set k (zEb E + k, zel E k (mem' k)) = zws E mem' := by
  apply List.ext_getElem?
  intro i
  by_cases hik : i = k
  · subst hik
    rw [zws_at E mem' hk, List.getElem?_set_self]
    unfold zws
    rw [List.length_map, List.length_range]
    exact hk
  · rw [List.getElem?_set_ne (Ne.symm hik)]
    by_cases hi : i < zNC
    · rw [zws_at E mem hi, zws_at E mem' hi, ho i hik]
    · rw [List.getElem?_eq_none, List.getElem?_eq_none] <;> · unfold zws; rw [List.length_map, List.length_range]; omega
theorem zup_o (mem : zMem) (k j : Nat) (v : Int) (a : Nat) (h : a ≠ k) : zup mem k j v a = mem a := by
  funext i
  unfold zup
  rw [if_neg (fun q => h q.1)]
theorem zcp_o (mem : zMem) (k sp t dp n : Nat) (a : Nat) (h : a ≠ t) : zcp mem k sp t dp n a = mem a := by
  funext i
  unfold zcp
  rw [if_neg (fun q => h q.1)]
theorem zup_rg {mem : zMem} {k j : Nat} {v : Int} (h : zrg mem) (h1 : zkd k = 103 → zJ v) (h2 : zkd k ≠ 103 → zI v) : zrg (zup mem k j v) := by
  intro a i
  unfold zup
  by_cases hq : a = k ∧ i = j
  · rw [if_pos hq, hq.1]
    exact ⟨h1, h2⟩
  · rw [if_neg hq]
    exact h a i
theorem zcp_rg {mem : zMem} {k sp t dp n : Nat} (h : zrg mem) (hk : zkd k = zkd t) : zrg (zcp mem k sp t dp n) := by
  intro a i
  unfold zcp
  by_cases hq : a = t ∧ dp ≤ i ∧ i < dp + n
  · rw [if_pos hq, hq.1, ← hk]
    exact h k _
  · rw [if_neg hq]
    exact h a i
theorem zkd_lt {k : Nat} (h : zkd k < 999) : k < zNC := by
  rcases Nat.lt_or_ge k zNC with h1 | h1
  · exact h1
  · exfalso
    have h2 : zSH.length ≤ k := h1
    unfold zkd zsh at h
    have h3 : zSH[k]? = none := List.getElem?_eq_none h2
    simp [List.getD, h3] at h
theorem zel_o {k : Nat} (E : zEnv) (f : Nat → Int) (h : zkd k < 100) : zel E k f = .inr (zkd k, (List.range (zln k)).map fun j => zfv E k j (f j)) := if_pos h
theorem zel_i {k : Nat} (E : zEnv) (f : Nat → Int) (h1 : 100 ≤ zkd k) (h2 : zkd k < 103) : zel E k f = .inl (zEc E (zkd k), zln k, .inl fun j => Int32.ofInt (f j)) := by
  unfold zel
  rw [if_neg (by omega), if_pos h2]
theorem zel_l {k : Nat} (E : zEnv) (f : Nat → Int) (h : zkd k = 103) : zel E k f = .inl (zEc E 103, zln k, .inr (.inl fun j => Int64.ofInt (f j))) := by
  unfold zel
  rw [if_neg (by omega), if_neg (by omega), if_pos h, h]
theorem zel_r {k : Nat} (E : zEnv) (f : Nat → Int) (h : 110 ≤ zkd k) : zel E k f = .inl (zEc E (zkd k), zln k, .inr (.inr (.inr (.inr fun j => some (zEb E + zrt k j))))) := by
  unfold zel
  rw [if_neg (by omega), if_neg (by omega), if_neg (by omega)]
/-- every class's number stands for as many fields as the block's cells of that kind have -/
theorem zsh_cl : ∀ k, k < zNC → zkd k < 100 → (vwCl.getD (zkd k) ("", (fun _ => ("", "", "", false)), 0)).2.2 = zln k := by decide +kernel
end
end
section
section
/-! The mini machine: one instruction ('zone'), a piece of code up to cuts ('zseg'), contracts ('zC'), the rest of a method ('zG'). -/
/-- a method: key; class; code (pc, instruction, length); fields (index, class, slot, place of the word); calls (index, key, kind, arguments, places); constants (index, kind as a value's tag, value, place); the script's length and one, and its ints, for the law alone. Kinds of calls: below 100 on an object of that class; 100 static; 101 arraycopy; 102 on a string -/
abbrev zMt : Type := zKey × String × List (Nat × Instr × Nat) × List (Nat × Nat × Nat × Nat) × List (Nat × zKey × Nat × Nat × List Nat) × List (Nat × Nat × Int × Nat) × Nat × (Nat → Int)
def zMk (M : zMt) : zKey := M.1
def zMo (M : zMt) : String := M.2.1
def zMc (M : zMt) : List (Nat × Instr × Nat) := M.2.2.1
def zMf (M : zMt) : List (Nat × Nat × Nat × Nat) := M.2.2.2.1
def zMm (M : zMt) : List (Nat × zKey × Nat × Nat × List Nat) := M.2.2.2.2.1
def zMn (M : zMt) : List (Nat × Nat × Int × Nat) := M.2.2.2.2.2.1
def zMx (M : zMt) : Nat × (Nat → Int) := M.2.2.2.2.2.2
def zKy (K : zKey) : MethodName := K.1
def zKb (K : zKey) : ByteArray := K.2.1
def zKl (K : zKey) : Nat := K.2.2.1
def zKr (K : zKey) : Option FieldType := K.2.2.2
def zat {α : Type} : List (Nat × α) → Nat → Option α
  | [], _ => none
  | (i, a) :: r, k => match Nat.beq i k with
    | true => some a
    | false => zat r k
def zgood : List Cond := lw_tbl.filter goodWord
def zW (K : zKey) : List Cond := Cond.code (zKy K) (zKb K) (zKl K) (zKr K) :: zgood
def zRm (d : Nat) : Room := { frames := d, cells := 0, slots := 0, locals := 100 * d }
/-- the string constants: index in Tape's file, text, bytes -/
def zSi : List Nat := [90, 99, 104, 109, 114, 148, 150, 152]
def zSt : List String := ["rooms", "law", "door", "one", "walled", "red", "green", "blue"]
def zSb : List (List Int32) := [[114, 111, 111, 109, 115], [108, 97, 119], [100, 111, 111, 114], [111, 110, 101], [119, 97, 108, 108, 101, 100], [114, 101, 100], [103, 114, 101, 101, 110], [98, 108, 117, 101]]
def zSl : List Nat := [5, 3, 4, 3, 6, 3, 5, 4]
def zHV : List Int := [-1431655766, -858993460, -252645136, -16711936, -65536]
/-- what lies outside the block: strings, HAVING, the script, statics of the JDK -/
def zXt (E : zEnv) (U : State) (H : Heap) : Prop :=
  vk_S 8 zSl zSb (zEk E) (zEv E) (zA E) U H ∧ (∀ i, i < 8 → vk_R "OtherDoor$Tape" (zSi.getD i 0) (zSt.getD i "") (zEk E i) U) ∧
  va_Z "OtherDoor$Rounds" "HAVING" "[I" (.ref (zEh E)) (zA E) U H ∧ va_T .int (zEh E) 5 (fun j => .int (Int32.ofInt (zHV.getD j 0))) (zA E) U H ∧
  (va_X (zEs E) (zEl E) (zEx E) U H ∧ zEl E ≤ 3072 ∧ ¬ zA E (zEs E)) ∧
  va_Z "java/lang/String" "COMPACT_STRINGS" "Z" (.int 1) (zA E) U H ∧ va_Zq "jdk/internal/util/Preconditions" "SIOOBE_FORMATTER" "Ljava/util/function/BiFunction;" (zA E) U H
def zOn (E : zEnv) (U : State) : Prop := va_K (zED E) vwCl (ztys E) U ∧ zXt E U U.heap
def zHp (E : zEnv) (mem : zMem) (H : Heap) : Prop := zrg mem ∧ va_P (zED E) vwCl (zws E mem) H
def zPc (E : zEnv) (av : List zV) (mem : zMem) : Array Value → State → Prop := fun v U => v = (av.map (zv E)).toArray ∧ (∀ x ∈ av, zok x) ∧ zOn E U ∧ zHp E mem U.heap
/-- the tag of a result -/
def zrtag : Option FieldType → Nat
  | none => 9
  | some .long => 1
  | some _ => 0
def zret (E : zEnv) (r : Option FieldType) (x : Int) : Option Value := match r with
  | none => none
  | some .long => some (.long (Int64.ofInt x))
  | some _ => some (.int (Int32.ofInt x))
def zQc (E : zEnv) (r : Option FieldType) (Q : Int → zMem → Prop) : Array Value → State → Outcome → State → Prop := fun _ st o t =>
  (∃ (x : Int) (mem' : zMem), o = .returned (zret E r x) ∧ zok (zrtag r, x) ∧ Q x mem' ∧ zHp E mem' t.heap) ∧ va_F (zA E) st t
/-- THE CONTRACT of a method: called with av in a world that holds mem, at d frames and more, it returns, and Q holds of its answer and of the memory behind it -/
def zC (d : Nat) (K : zKey) (av : List zV) (mem : zMem) (Q : Int → zMem → Prop) : Prop :=
  ∀ (l : Launch) (E : zEnv) (d' : Nat), d ≤ d' → Met l (zKy K) (zW K) (zRm d') (zPc E av mem) (zQc E (zKr K) Q) 0 0 (zA E)
def zCk (d : Nat) (K : zKey) (av : List zV) (mem : zMem) (Q : Int → zMem → Prop) : Prop := match d with
  | 0 => False
  | e + 1 => zC e K av mem Q
/-- what a method's body knows of its place -/
def zCx (d : Nat) (M : zMt) (E : zEnv) (p : Program) (R : Room) (s : State) (m : MethodId) (args : Array Value) (meth : Method) (c : Code) : Prop :=
  p.tables.exec = Jvm.exec ∧ c.code = zKb (zMk M) ∧ c.maxLocals = zKl (zMk M) ∧ s.vm.findClass (zMo M) = some m.cls ∧ (∀ w ∈ zgood, w.before args s = true) ∧ d ≤ R.frames ∧ 100 * d ≤ R.locals ∧ zOn E s ∧ ((zMx M).1 = 0 ∨ zMx M = (zEl E + 1, fun j => (zEx E j).toInt))
/-- the locals, as far as they are known -/
def zLo (E : zEnv) (n : Nat) (ls : List zV) (lj : Array Slot) : Prop :=
  lj.size = n ∧ ls.length ≤ n ∧ lv_wf lj ∧ ∀ (i : Nat) (v : zV), ls[i]? = some v → v.1 < 9 → lj[i]? = some (.val (zv E v))
/-- the method's end is answered for: at a return instruction with an answer for which Q holds -/
def zRt (M : zMt) (E : zEnv) (Q : Int → zMem → Prop) (p : Program) (l : Launch) (e : Env) (R : Room) (s : State) (m : MethodId) (args : Array Value) (below : List Frame) (meth : Method) (c : Code) (cells slots : Nat) (Qf : State → Prop) : Prop :=
  ∀ (x : Int) (mem' : zMem) (H' : Heap) (locs' : List Loc) (pc : Nat) (lj : Array Slot) (i : Instr), Q x mem' → zok (zrtag (zKr (zMk M)), x) → (zKr (zMk M) = some .boolean → x = 0 ∨ x = 1) → zHp E mem' H' → va_S (zA E) s.heap H' locs' →
    decode (zKb (zMk M)) pc = .ok (i, 1) → ((zKr (zMk M) = none ∧ i = .return_) ∨ (zKr (zMk M) = some .long ∧ i = .lreturn) ∨ ((zKr (zMk M) = some .int ∨ zKr (zMk M) = some .boolean) ∧ i = .ireturn)) →
    W p l e R s m args below meth c H' locs' cells slots Qf (F0 m pc lj (zret E (zKr (zMk M)) x).toList)
/-- THE REST of a method: from pc, with locals ls, stack st and memory mem, it returns, and Q holds -/
def zG (d : Nat) (M : zMt) (pc : Nat) (ls st : List zV) (mem : zMem) (Q : Int → zMem → Prop) : Prop :=
  ∀ (p : Program) (l : Launch) (e : Env) (R : Room) (s : State) (m : MethodId) (args : Array Value) (below : List Frame) (meth : Method) (c : Code) (H : Heap) (locs : List Loc) (cells slots : Nat) (Qf : State → Prop) (E : zEnv) (lj : Array Slot),
    zCx d M E p R s m args meth c → cells ≤ R.cells → slots ≤ R.slots → zHp E mem H → va_S (zA E) s.heap H locs → zLo E (zKl (zMk M)) ls lj → (∀ v ∈ ls, zok v) → (∀ v ∈ st, zok v) → zRt M E Q p l e R s m args below meth c cells slots Qf →
    W p l e R s m args below meth c H locs cells slots Qf (F0 m pc lj (st.map (zv E)))
def zcmp : ClassFile.Cond → Int → Int → Prop
  | .eq, x, y => x = y
  | .ne, x, y => x ≠ y
  | .lt, x, y => x < y
  | .ge, x, y => y ≤ x
  | .gt, x, y => y < x
  | .le, x, y => x ≤ y
def ztgt (pc : Nat) (off : Int) : Nat := ((pc : Int) + off).toNat
def ztk : Nat → List zV → List zV → Option (List zV × List zV)
  | 0, st, acc => some (acc, st)
  | n + 1, v :: st, acc => ztk n st (v :: acc)
  | _ + 1, [], _ => none
def zpsh (t : Nat) (x : Int) (st : List zV) : List zV := match t with
  | 9 => st
  | t => (t, x) :: st
/-- a switch: the places in their order -/
def zsw (pc : Nat) (x : Int) (k : Nat → Prop) : List Int → Int → Prop
  | [], _ => True
  | o :: r, lo => (x = lo → k (ztgt pc o)) ∧ zsw pc x k r (lo + 1)
/-- the value that is stored in local i: what stood there goes; a long ahead of it must not be cut -/
def zst (ls : List zV) (i : Nat) (v : zV) (k : List zV → Prop) : Prop := match ls[i]? with
  | none => False
  | some _ => match i with
    | 0 => k (ls.set i v)
    | j + 1 => match (ls.getD j (9, 0)).1 with
      | 1 => False
      | _ => k (ls.set i v)
def zld (t : Nat) (ls : List zV) (i : Nat) (k : zV → Prop) : Prop := match ls[i]? with
  | some (s, x) => match Nat.beq s t with
    | true => k (s, x)
    | false => False
  | none => False
def zlda (ls : List zV) (i : Nat) (k : zV → Prop) : Prop := match ls[i]? with
  | some (2, x) => k (2, x)
  | some (3, x) => k (3, x)
  | some (5, x) => k (5, x)
  | _ => False
def zbin (st : List zV) (f : Int → Int → Int) (k : List zV → Prop) : Prop := match st with
  | (0, y) :: (0, x) :: r => k ((0, f x y) :: r)
  | _ => False
def zun (st : List zV) (f : Int → Int) (k : List zV → Prop) : Prop := match st with
  | (0, x) :: r => k ((0, f x) :: r)
  | _ => False
def zlbin (st : List zV) (f : Int → Int → Int) (k : List zV → Prop) : Prop := match st with
  | (1, y) :: (1, x) :: r => k ((1, f x y) :: r)
  | _ => False
def zlsh (st : List zV) (f : Int → Int → Int) (k : List zV → Prop) : Prop := match st with
  | (0, y) :: (1, x) :: r => k ((1, f x y) :: r)
  | _ => False
def zsm : List zV → Nat
  | [] => 0
  | (t, _) :: r => zcat t + zsm r
/-- the stack that waits below a call is short -/
def zrm (r : List zV) (P : Prop) : Prop := match Nat.ble (zsm r) 8 with
  | true => P
  | false => False
/-- ONE INSTRUCTION, goal first -/
def zone (d : Nat) (M : zMt) (Q : Int → zMem → Prop) (i : Instr) (pc : Nat) (ls st : List zV) (mem : zMem) (k : Nat → List zV → List zV → zMem → Prop) : Prop :=
  match i with
  | .iconst n => k (pc + 1) ls ((0, n) :: st) mem
  | .bipush n => k (pc + 2) ls ((0, n) :: st) mem
  | .sipush n => k (pc + 3) ls ((0, n) :: st) mem
  | .lconst n => k (pc + 1) ls ((1, Int.ofNat n.val) :: st) mem
  | .iload_n n => zld 0 ls n.val (fun v => k (pc + 1) ls (v :: st) mem)
  | .iload n => zld 0 ls n (fun v => k (pc + 2) ls (v :: st) mem)
  | .lload_n n => zld 1 ls n.val (fun v => k (pc + 1) ls (v :: st) mem)
  | .lload n => zld 1 ls n (fun v => k (pc + 2) ls (v :: st) mem)
  | .aload_n n => zlda ls n.val (fun v => k (pc + 1) ls (v :: st) mem)
  | .aload n => zlda ls n (fun v => k (pc + 2) ls (v :: st) mem)
  | .istore_n n => match st with
    | (0, x) :: r => ∀ z : Int, z = x → zst ls n.val (0, z) (fun l => k (pc + 1) l r mem)
    | _ => False
  | .istore n => match st with
    | (0, x) :: r => ∀ z : Int, z = x → zst ls n (0, z) (fun l => k (pc + 2) l r mem)
    | _ => False
  | .astore_n n => match st with
    | (2, x) :: r => zst ls n.val (2, x) (fun l => k (pc + 1) l r mem)
    | _ => False
  | .astore n => match st with
    | (2, x) :: r => zst ls n (2, x) (fun l => k (pc + 2) l r mem)
    | _ => False
  | .lstore_n n => match st with
    | (1, x) :: r => ∀ z : Int, z = x → zst ls n.val (1, z) (fun l => match l[n.val + 1]? with
      | none => False
      | some _ => k (pc + 1) (l.set (n.val + 1) (9, 0)) r mem)
    | _ => False
  | .lstore n => match st with
    | (1, x) :: r => ∀ z : Int, z = x → zst ls n (1, z) (fun l => match l[n + 1]? with
      | none => False
      | some _ => k (pc + 2) (l.set (n + 1) (9, 0)) r mem)
    | _ => False
  | .iinc n c => zld 0 ls n (fun v => ∀ z : Int, z = zadd v.2 c → zst ls n (0, z) (fun l => k (pc + 3) l st mem))
  | .iadd => zbin st zadd (fun t => k (pc + 1) ls t mem)
  | .isub => zbin st zsub (fun t => k (pc + 1) ls t mem)
  | .imul => zbin st zmul (fun t => k (pc + 1) ls t mem)
  | .iand => zbin st zand (fun t => k (pc + 1) ls t mem)
  | .ior => zbin st zor (fun t => k (pc + 1) ls t mem)
  | .ixor => zbin st zxor (fun t => k (pc + 1) ls t mem)
  | .ishl => zbin st zshl (fun t => k (pc + 1) ls t mem)
  | .ishr => zbin st zshr (fun t => k (pc + 1) ls t mem)
  | .iushr => zbin st zushr (fun t => k (pc + 1) ls t mem)
  | .idiv => match st with
    | (0, y) :: (0, x) :: r => y ≠ 0 ∧ k (pc + 1) ls ((0, zdiv x y) :: r) mem
    | _ => False
  | .irem => match st with
    | (0, y) :: (0, x) :: r => y ≠ 0 ∧ k (pc + 1) ls ((0, zrem x y) :: r) mem
    | _ => False
  | .ineg => zun st zneg (fun t => k (pc + 1) ls t mem)
  | .i2b => zun st zi2b (fun t => k (pc + 1) ls t mem)
  | .i2s => zun st zi2s (fun t => k (pc + 1) ls t mem)
  | .i2c => zun st zi2c (fun t => k (pc + 1) ls t mem)
  | .i2l => match st with
    | (0, x) :: r => k (pc + 1) ls ((1, x) :: r) mem
    | _ => False
  | .l2i => match st with
    | (1, x) :: r => k (pc + 1) ls ((0, zl2i x) :: r) mem
    | _ => False
  | .ladd => zlbin st zladd (fun t => k (pc + 1) ls t mem)
  | .lmul => zlbin st zlmul (fun t => k (pc + 1) ls t mem)
  | .land => zlbin st zland (fun t => k (pc + 1) ls t mem)
  | .lor => zlbin st zlor (fun t => k (pc + 1) ls t mem)
  | .lshl => zlsh st zlshl (fun t => k (pc + 1) ls t mem)
  | .lshr => zlsh st zlshr (fun t => k (pc + 1) ls t mem)
  | .lushr => zlsh st zlushr (fun t => k (pc + 1) ls t mem)
  | .lcmp => match st with
    | (1, y) :: (1, x) :: r => k (pc + 1) ls ((0, zlcmp x y) :: r) mem
    | _ => False
  | .dup => match st with
    | (0, x) :: r => k (pc + 1) ls ((0, x) :: (0, x) :: r) mem
    | (2, x) :: r => k (pc + 1) ls ((2, x) :: (2, x) :: r) mem
    | _ => False
  | .dup2 => match st with
    | (0, x) :: (2, y) :: r => k (pc + 1) ls ((0, x) :: (2, y) :: (0, x) :: (2, y) :: r) mem
    | _ => False
  | .pop => match st with
    | (0, _) :: r => k (pc + 1) ls r mem
    | (2, _) :: r => k (pc + 1) ls r mem
    | _ => False
  | .goto off => k (ztgt pc off) ls st mem
  | .ifCond c off => match st with
    | (0, x) :: r => (zcmp c x 0 → k (ztgt pc off) ls r mem) ∧ (¬ zcmp c x 0 → k (pc + 3) ls r mem)
    | _ => False
  | .if_icmp c off => match st with
    | (0, y) :: (0, x) :: r => (zcmp c x y → k (ztgt pc off) ls r mem) ∧ (¬ zcmp c x y → k (pc + 3) ls r mem)
    | _ => False
  | .tableswitch df lo hi offs => match st with
    | (0, x) :: r => zsw pc x (fun t => k t ls r mem) offs.toList lo ∧ (x < lo ∨ hi < x → k (ztgt pc df) ls r mem)
    | _ => False
  | .getfield idx => match st with
    | (2, h) :: r => match zat (zMf M) idx with
      | some (ci, sl, _) => zkd h.toNat = ci ∧ (match zfk ci sl with
        | 2 => k (pc + 3) ls ((2, Int.ofNat (zrt h.toNat sl)) :: r) mem
        | _ => k (pc + 3) ls ((0, mem h.toNat sl) :: r) mem)
      | none => False
    | _ => False
  | .putfield idx => match st with
    | (0, x) :: (2, h) :: r => match zat (zMf M) idx with
      | some (ci, sl, _) => zkd h.toNat = ci ∧ (match zfk ci sl with
        | 0 => ∀ mem' : zMem, mem' = zup mem h.toNat sl x → k (pc + 3) ls r mem'
        | 1 => (x = 0 ∨ x = 1) ∧ ∀ mem' : zMem, mem' = zup mem h.toNat sl x → k (pc + 3) ls r mem'
        | _ => False)
      | none => False
    | _ => False
  | .iaload => match st with
    | (0, i) :: (2, a) :: r => (zkd a.toNat = 100 ∧ 0 ≤ i ∧ i < zln a.toNat) ∧ k (pc + 1) ls ((0, mem a.toNat i.toNat) :: r) mem
    | (0, i) :: (4, _) :: r => (0 ≤ i ∧ i < 5) ∧ k (pc + 1) ls ((0, zHV.getD i.toNat 0) :: r) mem
    | (0, i) :: (5, _) :: r => (0 ≤ i ∧ i + 1 < (zMx M).1) ∧ k (pc + 1) ls ((0, (zMx M).2 i.toNat) :: r) mem
    | _ => False
  | .baload => match st with
    | (0, i) :: (2, a) :: r => ((zkd a.toNat = 101 ∨ zkd a.toNat = 102) ∧ 0 ≤ i ∧ i < zln a.toNat) ∧ k (pc + 1) ls ((0, mem a.toNat i.toNat) :: r) mem
    | _ => False
  | .laload => match st with
    | (0, i) :: (2, a) :: r => (zkd a.toNat = 103 ∧ 0 ≤ i ∧ i < zln a.toNat) ∧ k (pc + 1) ls ((1, mem a.toNat i.toNat) :: r) mem
    | _ => False
  | .aaload => match st with
    | (0, i) :: (2, a) :: r => (110 ≤ zkd a.toNat ∧ zkd a.toNat ≤ 113 ∧ 0 ≤ i ∧ i < zln a.toNat) ∧ k (pc + 1) ls ((2, Int.ofNat (zrt a.toNat i.toNat)) :: r) mem
    | _ => False
  | .iastore => match st with
    | (0, x) :: (0, i) :: (2, a) :: r => (zkd a.toNat = 100 ∧ 0 ≤ i ∧ i < zln a.toNat) ∧ ∀ mem' : zMem, mem' = zup mem a.toNat i.toNat x → k (pc + 1) ls r mem'
    | _ => False
  | .bastore => match st with
    | (0, x) :: (0, i) :: (2, a) :: r => ((zkd a.toNat = 101 ∧ -128 ≤ x ∧ x < 128 ∨ zkd a.toNat = 102 ∧ (x = 0 ∨ x = 1)) ∧ 0 ≤ i ∧ i < zln a.toNat) ∧ ∀ mem' : zMem, mem' = zup mem a.toNat i.toNat x → k (pc + 1) ls r mem'
    | _ => False
  | .lastore => match st with
    | (1, x) :: (0, i) :: (2, a) :: r => (zkd a.toNat = 103 ∧ 0 ≤ i ∧ i < zln a.toNat) ∧ ∀ mem' : zMem, mem' = zup mem a.toNat i.toNat x → k (pc + 1) ls r mem'
    | _ => False
  | .arraylength => match st with
    | (2, a) :: r => (100 ≤ zkd a.toNat ∧ zkd a.toNat ≤ 103) ∧ k (pc + 1) ls ((0, (zln a.toNat : Int)) :: r) mem
    | (5, _) :: r => (zMx M).1 ≠ 0 ∧ k (pc + 1) ls ((0, ((zMx M).1 : Int) - 1) :: r) mem
    | _ => False
  | .ldc_w idx => match zat (zMn M) idx with
    | some (0, v, _) => k (pc + 3) ls ((0, v) :: st) mem
    | _ => False
  | .ldc2_w idx => match zat (zMn M) idx with
    | some (1, v, _) => k (pc + 3) ls ((1, v) :: st) mem
    | _ => False
  | .ldc idx => match zat (zMn M) idx with
    | some (3, v, _) => k (pc + 2) ls ((3, v) :: st) mem
    | _ => False
  | .getstatic idx => match zat (zMn M) idx with
    | some (4, _, _) => k (pc + 3) ls ((4, 0) :: st) mem
    | _ => False
  | .invokevirtual idx => match zat (zMm M) idx with
    | some (K, kd, n, _) => match ztk (n + 1) st [] with
      | some ((2, h) :: as, r) => match Nat.blt kd 100 with
        | true => zkd h.toNat = kd ∧ zrm r (zCk d K ((2, h) :: as) mem (fun x mem' => k (pc + 3) ls (zpsh (zrtag (zKr K)) x r) mem'))
        | false => False
      | some ((3, h) :: as, r) => (kd = 102 ∧ 0 ≤ h ∧ h < 8) ∧ zrm r (zCk d K ((3, h) :: as) mem (fun x mem' => k (pc + 3) ls (zpsh (zrtag (zKr K)) x r) mem'))
      | _ => False
    | none => False
  | .invokestatic idx => match zat (zMm M) idx with
    | some (K, 100, n, _) => match ztk n st [] with
      | some (as, r) => zrm r (zCk d K as mem (fun x mem' => k (pc + 3) ls (zpsh (zrtag (zKr K)) x r) mem'))
      | none => False
    | some (_, 101, _, _) => match st with
      | (0, n) :: (0, dp) :: (2, t) :: (0, sp) :: (2, a) :: r => (zkd a.toNat = 100 ∧ zkd t.toNat = 100 ∧ 0 ≤ sp ∧ 0 ≤ dp ∧ 0 ≤ n ∧ sp + n ≤ zln a.toNat ∧ dp + n ≤ zln t.toNat) ∧ zrm r (d ≠ 0 ∧ ∀ mem' : zMem, mem' = zcp mem a.toNat sp.toNat t.toNat dp.toNat n.toNat → k (pc + 3) ls r mem')
      | _ => False
    | _ => False
  | .ireturn => match st with
    | [(0, x)] => match zKr (zMk M) with
      | some .int => Q x mem
      | some .boolean => (x = 0 ∨ x = 1) ∧ Q x mem
      | _ => False
    | _ => False
  | .lreturn => match st with
    | [(1, x)] => match zKr (zMk M) with
      | some .long => Q x mem
      | _ => False
    | _ => False
  | .return_ => match st with
    | [] => match zKr (zMk M) with
      | none => Q 0 mem
      | _ => False
    | _ => False
  | _ => False
/-- a piece of code, up to a cut -/
def zseg (d : Nat) (M : zMt) (Q : Int → zMem → Prop) (cuts : List Nat) : Nat → Nat → List zV → List zV → zMem → Prop
  | 0, pc, ls, st, mem => zG d M pc ls st mem Q
  | f + 1, pc, ls, st, mem => match cuts.elem pc with
    | true => zG d M pc ls st mem Q
    | false => match zat (zMc M) pc with
      | some (i, _) => zone d M Q i pc ls st mem (zseg d M Q cuts f)
      | none => False
/-- from a cut on to the next ones -/
def zent (d : Nat) (M : zMt) (Q : Int → zMem → Prop) (cuts : List Nat) (f pc : Nat) (ls st : List zV) (mem : zMem) : Prop := match zat (zMc M) pc with
  | some (i, _) => zone d M Q i pc ls st mem (zseg d M Q cuts f)
  | none => False
end
end
section
section
/-! Each instruction of the mini machine is what the machine does (printed by wip/whole/gen_sound.py). -/
theorem zoc {v : zV} {r : List zV} (h : zok v) (hr : ∀ u ∈ r, zok u) : ∀ u ∈ v :: r, zok u := List.forall_mem_cons.mpr ⟨h, hr⟩
theorem zot {v : zV} {r : List zV} (h : ∀ u ∈ v :: r, zok u) : ∀ u ∈ r, zok u := (List.forall_mem_cons.mp h).2
theorem zoh {v : zV} {r : List zV} (h : ∀ u ∈ v :: r, zok u) : zok v := (List.forall_mem_cons.mp h).1
variable {d : Nat} {M : zMt} {Q : Int → zMem → Prop} {pc : Nat} {ls st : List zV} {mem : zMem} {k : Nat → List zV → List zV → zMem → Prop}
theorem zs_iconst {n : Int} (hd : decode (zKb (zMk M)) pc = .ok (.iconst n, 1)) (hn : zI n) (hk : ∀ pc ls st mem, k pc ls st mem → zG d M pc ls st mem Q) (h : k (pc + 1) ls ((0, n) :: st) mem) : zG d M pc ls st mem Q := by
  intro p l e R s m args below meth c H locs cells slots Qf E lj C hc hs hH hS hL hl hst hR
  obtain ⟨hx, hb, hml, hown, hts, hfr, hlo, hOn, hscr⟩ := id C
  exact lv_iconst hx hb hd rfl (hk _ _ _ _ h p l e R s m args below meth c _ _ cells slots Qf E _ C hc hs hH hS hL hl (zoc hn hst) hR)
theorem zb8 {n : Int} (h : -128 ≤ n ∧ n < 128) : (Int8.ofInt n).toInt32 = Int32.ofInt n := by
  rw [← Int32.toInt_inj, Int8.toInt_toInt32, Int8.toInt_ofInt_of_le (by omega) (by omega), zI_to (by unfold zI; omega)]
theorem zb16 {n : Int} (h : -32768 ≤ n ∧ n < 32768) : (Int16.ofInt n).toInt32 = Int32.ofInt n := by
  rw [← Int32.toInt_inj, Int16.toInt_toInt32, Int16.toInt_ofInt_of_le (by omega) (by omega), zI_to (by unfold zI; omega)]
theorem zs_bipush {n : Int} (hd : decode (zKb (zMk M)) pc = .ok (.bipush n, 2)) (hn : -128 ≤ n ∧ n < 128) (hk : ∀ pc ls st mem, k pc ls st mem → zG d M pc ls st mem Q) (h : k (pc + 2) ls ((0, n) :: st) mem) : zG d M pc ls st mem Q := by
  intro p l e R s m args below meth c H locs cells slots Qf E lj C hc hs hH hS hL hl hst hR
  obtain ⟨hx, hb, hml, hown, hts, hfr, hlo, hOn, hscr⟩ := id C
  exact lv_bipush hx hb hd (zb8 hn) (hk _ _ _ _ h p l e R s m args below meth c _ _ cells slots Qf E _ C hc hs hH hS hL hl (zoc (show zI n by unfold zI; omega) hst) hR)
theorem zs_sipush {n : Int} (hd : decode (zKb (zMk M)) pc = .ok (.sipush n, 3)) (hn : -32768 ≤ n ∧ n < 32768) (hk : ∀ pc ls st mem, k pc ls st mem → zG d M pc ls st mem Q) (h : k (pc + 3) ls ((0, n) :: st) mem) : zG d M pc ls st mem Q := by
  intro p l e R s m args below meth c H locs cells slots Qf E lj C hc hs hH hS hL hl hst hR
  obtain ⟨hx, hb, hml, hown, hts, hfr, hlo, hOn, hscr⟩ := id C
  exact lv_sipush hx hb hd (zb16 hn) (hk _ _ _ _ h p l e R s m args below meth c _ _ cells slots Qf E _ C hc hs hH hS hL hl (zoc (show zI n by unfold zI; omega) hst) hR)
theorem zs_lconst {n : Fin 2} (hd : decode (zKb (zMk M)) pc = .ok (.lconst n, 1)) (hk : ∀ pc ls st mem, k pc ls st mem → zG d M pc ls st mem Q) (h : k (pc + 1) ls ((1, Int.ofNat n.val) :: st) mem) : zG d M pc ls st mem Q := by
  intro p l e R s m args below meth c H locs cells slots Qf E lj C hc hs hH hS hL hl hst hR
  obtain ⟨hx, hb, hml, hown, hts, hfr, hlo, hOn, hscr⟩ := id C
  refine lv_lconst hx hb hd (v := Int64.ofInt (Int.ofNat n.val)) ?_ (hk _ _ _ _ h p l e R s m args below meth c _ _ cells slots Qf E _ C hc hs hH hS hL hl (zoc (show zJ _ by unfold zJ; have := n.isLt; simp only [Int.ofNat_eq_natCast]; omega) hst) hR)
  rcases n with ⟨n, hn⟩
  rcases (show n = 0 ∨ n = 1 by omega) with rfl | rfl
  · show Int64.ofNat 0 = Int64.ofInt (Int.ofNat 0)
    decide +kernel
  · show Int64.ofNat 1 = Int64.ofInt (Int.ofNat 1)
    decide +kernel
theorem zLo_at {E : zEnv} {n i : Nat} {ls : List zV} {lj : Array Slot} {v : zV} (h : zLo E n ls lj) (hi : ls[i]? = some v) (hv : v.1 < 9) : lj[i]? = some (.val (zv E v)) := h.2.2.2 i v hi hv
theorem zok_at {i : Nat} {ls : List zV} {v : zV} (h : ∀ u ∈ ls, zok u) (hi : ls[i]? = some v) : zok v := h v (List.mem_of_getElem? hi)
theorem zld_spec {t : Nat} {ls : List zV} {i : Nat} {k : zV → Prop} (h : zld t ls i k) : ∃ x, ls[i]? = some (t, x) ∧ k (t, x) := by
  unfold zld at h
  split at h
  · rename_i s x hs
    split at h
    · rename_i hb
      have := Nat.eq_of_beq_eq_true hb
      subst this
      exact ⟨x, hs, h⟩
    · exact h.elim
  · exact h.elim
theorem zlda_spec {ls : List zV} {i : Nat} {k : zV → Prop} (h : zlda ls i k) : ∃ t x, ls[i]? = some (t, x) ∧ (t = 2 ∨ t = 3 ∨ t = 5) ∧ k (t, x) := by
  unfold zlda at h
  split at h
  · rename_i x hs
    exact ⟨2, x, hs, Or.inl rfl, h⟩
  · rename_i x hs
    exact ⟨3, x, hs, Or.inr (Or.inl rfl), h⟩
  · rename_i x hs
    exact ⟨5, x, hs, Or.inr (Or.inr rfl), h⟩
  · exact h.elim
theorem zs_iload_n {n : Fin 4} (hd : decode (zKb (zMk M)) pc = .ok (.iload_n n, 1)) (hk : ∀ pc ls st mem, k pc ls st mem → zG d M pc ls st mem Q) (h : zld 0 ls n.val (fun v => k (pc + 1) ls (v :: st) mem)) : zG d M pc ls st mem Q := by
  intro p l e R s m args below meth c H locs cells slots Qf E lj C hc hs hH hS hL hl hst hR
  obtain ⟨hx, hb, hml, hown, hts, hfr, hlo, hOn, hscr⟩ := id C
  obtain ⟨x, hi, h⟩ := zld_spec h
  exact lv_iload_n hx hb hd rfl (zLo_at hL hi (by show _ < 9; omega)) (hk _ _ _ _ h p l e R s m args below meth c _ _ cells slots Qf E _ C hc hs hH hS hL hl (zoc (zok_at hl hi) hst) hR)
theorem zs_iload {n : Nat} (hd : decode (zKb (zMk M)) pc = .ok (.iload n, 2)) (hk : ∀ pc ls st mem, k pc ls st mem → zG d M pc ls st mem Q) (h : zld 0 ls n (fun v => k (pc + 2) ls (v :: st) mem)) : zG d M pc ls st mem Q := by
  intro p l e R s m args below meth c H locs cells slots Qf E lj C hc hs hH hS hL hl hst hR
  obtain ⟨hx, hb, hml, hown, hts, hfr, hlo, hOn, hscr⟩ := id C
  obtain ⟨x, hi, h⟩ := zld_spec h
  exact lv_iload hx hb hd (zLo_at hL hi (by show _ < 9; omega)) (hk _ _ _ _ h p l e R s m args below meth c _ _ cells slots Qf E _ C hc hs hH hS hL hl (zoc (zok_at hl hi) hst) hR)
theorem zs_lload_n {n : Fin 4} (hd : decode (zKb (zMk M)) pc = .ok (.lload_n n, 1)) (hk : ∀ pc ls st mem, k pc ls st mem → zG d M pc ls st mem Q) (h : zld 1 ls n.val (fun v => k (pc + 1) ls (v :: st) mem)) : zG d M pc ls st mem Q := by
  intro p l e R s m args below meth c H locs cells slots Qf E lj C hc hs hH hS hL hl hst hR
  obtain ⟨hx, hb, hml, hown, hts, hfr, hlo, hOn, hscr⟩ := id C
  obtain ⟨x, hi, h⟩ := zld_spec h
  exact lv_lload_n hx hb hd rfl (zLo_at hL hi (by show _ < 9; omega)) (hk _ _ _ _ h p l e R s m args below meth c _ _ cells slots Qf E _ C hc hs hH hS hL hl (zoc (zok_at hl hi) hst) hR)
theorem zs_lload {n : Nat} (hd : decode (zKb (zMk M)) pc = .ok (.lload n, 2)) (hk : ∀ pc ls st mem, k pc ls st mem → zG d M pc ls st mem Q) (h : zld 1 ls n (fun v => k (pc + 2) ls (v :: st) mem)) : zG d M pc ls st mem Q := by
  intro p l e R s m args below meth c H locs cells slots Qf E lj C hc hs hH hS hL hl hst hR
  obtain ⟨hx, hb, hml, hown, hts, hfr, hlo, hOn, hscr⟩ := id C
  obtain ⟨x, hi, h⟩ := zld_spec h
  exact lv_lload hx hb hd (zLo_at hL hi (by show _ < 9; omega)) (hk _ _ _ _ h p l e R s m args below meth c _ _ cells slots Qf E _ C hc hs hH hS hL hl (zoc (zok_at hl hi) hst) hR)
theorem zs_aload_n {n : Fin 4} (hd : decode (zKb (zMk M)) pc = .ok (.aload_n n, 1)) (hk : ∀ pc ls st mem, k pc ls st mem → zG d M pc ls st mem Q) (h : zlda ls n.val (fun v => k (pc + 1) ls (v :: st) mem)) : zG d M pc ls st mem Q := by
  intro p l e R s m args below meth c H locs cells slots Qf E lj C hc hs hH hS hL hl hst hR
  obtain ⟨hx, hb, hml, hown, hts, hfr, hlo, hOn, hscr⟩ := id C
  obtain ⟨t, x, hi, ht, h⟩ := zlda_spec h
  rcases ht with rfl | rfl | rfl <;> exact lv_aload_n hx hb hd rfl (zLo_at hL hi (by show _ < 9; omega)) (hk _ _ _ _ h p l e R s m args below meth c _ _ cells slots Qf E _ C hc hs hH hS hL hl (zoc (zok_at hl hi) hst) hR)
theorem zs_aload {n : Nat} (hd : decode (zKb (zMk M)) pc = .ok (.aload n, 2)) (hk : ∀ pc ls st mem, k pc ls st mem → zG d M pc ls st mem Q) (h : zlda ls n (fun v => k (pc + 2) ls (v :: st) mem)) : zG d M pc ls st mem Q := by
  intro p l e R s m args below meth c H locs cells slots Qf E lj C hc hs hH hS hL hl hst hR
  obtain ⟨hx, hb, hml, hown, hts, hfr, hlo, hOn, hscr⟩ := id C
  obtain ⟨t, x, hi, ht, h⟩ := zlda_spec h
  rcases ht with rfl | rfl | rfl <;> exact lv_aload hx hb hd (zLo_at hL hi (by show _ < 9; omega)) (hk _ _ _ _ h p l e R s m args below meth c _ _ cells slots Qf E _ C hc hs hH hS hL hl (zoc (zok_at hl hi) hst) hR)
theorem zs_iadd (hd : decode (zKb (zMk M)) pc = .ok (.iadd, 1)) (hk : ∀ pc ls st mem, k pc ls st mem → zG d M pc ls st mem Q) (h : zbin st zadd (fun t => k (pc + 1) ls t mem)) : zG d M pc ls st mem Q := by
  intro p l e R s m args below meth c H locs cells slots Qf E lj C hc hs hH hS hL hl hst hR
  obtain ⟨hx, hb, hml, hown, hts, hfr, hlo, hOn, hscr⟩ := id C
  unfold zbin at h
  split at h
  · rename_i y x r
    have hg := hk _ _ _ _ h p l e R s m args below meth c _ _ cells slots Qf E _ C hc hs hH hS hL hl (zoc (zI_of _) (zot (zot hst))) hR
    refine lv_iadd hx hb hd ?_
    rw [List.map_cons, show zv E (0, zadd x y) = .int (Int32.ofInt (zadd x y)) from rfl, show Int32.ofInt (zadd x y) = _ from Int32.ofInt_toInt _] at hg
    exact hg
  · exact h.elim
theorem zs_isub (hd : decode (zKb (zMk M)) pc = .ok (.isub, 1)) (hk : ∀ pc ls st mem, k pc ls st mem → zG d M pc ls st mem Q) (h : zbin st zsub (fun t => k (pc + 1) ls t mem)) : zG d M pc ls st mem Q := by
  intro p l e R s m args below meth c H locs cells slots Qf E lj C hc hs hH hS hL hl hst hR
  obtain ⟨hx, hb, hml, hown, hts, hfr, hlo, hOn, hscr⟩ := id C
  unfold zbin at h
  split at h
  · rename_i y x r
    have hg := hk _ _ _ _ h p l e R s m args below meth c _ _ cells slots Qf E _ C hc hs hH hS hL hl (zoc (zI_of _) (zot (zot hst))) hR
    refine lv_isub hx hb hd ?_
    rw [List.map_cons, show zv E (0, zsub x y) = .int (Int32.ofInt (zsub x y)) from rfl, show Int32.ofInt (zsub x y) = _ from Int32.ofInt_toInt _] at hg
    exact hg
  · exact h.elim
theorem zs_imul (hd : decode (zKb (zMk M)) pc = .ok (.imul, 1)) (hk : ∀ pc ls st mem, k pc ls st mem → zG d M pc ls st mem Q) (h : zbin st zmul (fun t => k (pc + 1) ls t mem)) : zG d M pc ls st mem Q := by
  intro p l e R s m args below meth c H locs cells slots Qf E lj C hc hs hH hS hL hl hst hR
  obtain ⟨hx, hb, hml, hown, hts, hfr, hlo, hOn, hscr⟩ := id C
  unfold zbin at h
  split at h
  · rename_i y x r
    have hg := hk _ _ _ _ h p l e R s m args below meth c _ _ cells slots Qf E _ C hc hs hH hS hL hl (zoc (zI_of _) (zot (zot hst))) hR
    refine lv_imul hx hb hd ?_
    rw [List.map_cons, show zv E (0, zmul x y) = .int (Int32.ofInt (zmul x y)) from rfl, show Int32.ofInt (zmul x y) = _ from Int32.ofInt_toInt _] at hg
    exact hg
  · exact h.elim
theorem zs_iand (hd : decode (zKb (zMk M)) pc = .ok (.iand, 1)) (hk : ∀ pc ls st mem, k pc ls st mem → zG d M pc ls st mem Q) (h : zbin st zand (fun t => k (pc + 1) ls t mem)) : zG d M pc ls st mem Q := by
  intro p l e R s m args below meth c H locs cells slots Qf E lj C hc hs hH hS hL hl hst hR
  obtain ⟨hx, hb, hml, hown, hts, hfr, hlo, hOn, hscr⟩ := id C
  unfold zbin at h
  split at h
  · rename_i y x r
    have hg := hk _ _ _ _ h p l e R s m args below meth c _ _ cells slots Qf E _ C hc hs hH hS hL hl (zoc (zI_of _) (zot (zot hst))) hR
    refine lv_iand hx hb hd ?_
    rw [List.map_cons, show zv E (0, zand x y) = .int (Int32.ofInt (zand x y)) from rfl, show Int32.ofInt (zand x y) = _ from Int32.ofInt_toInt _] at hg
    exact hg
  · exact h.elim
theorem zs_ior (hd : decode (zKb (zMk M)) pc = .ok (.ior, 1)) (hk : ∀ pc ls st mem, k pc ls st mem → zG d M pc ls st mem Q) (h : zbin st zor (fun t => k (pc + 1) ls t mem)) : zG d M pc ls st mem Q := by
  intro p l e R s m args below meth c H locs cells slots Qf E lj C hc hs hH hS hL hl hst hR
  obtain ⟨hx, hb, hml, hown, hts, hfr, hlo, hOn, hscr⟩ := id C
  unfold zbin at h
  split at h
  · rename_i y x r
    have hg := hk _ _ _ _ h p l e R s m args below meth c _ _ cells slots Qf E _ C hc hs hH hS hL hl (zoc (zI_of _) (zot (zot hst))) hR
    refine lv_ior hx hb hd ?_
    rw [List.map_cons, show zv E (0, zor x y) = .int (Int32.ofInt (zor x y)) from rfl, show Int32.ofInt (zor x y) = _ from Int32.ofInt_toInt _] at hg
    exact hg
  · exact h.elim
theorem zs_ixor (hd : decode (zKb (zMk M)) pc = .ok (.ixor, 1)) (hk : ∀ pc ls st mem, k pc ls st mem → zG d M pc ls st mem Q) (h : zbin st zxor (fun t => k (pc + 1) ls t mem)) : zG d M pc ls st mem Q := by
  intro p l e R s m args below meth c H locs cells slots Qf E lj C hc hs hH hS hL hl hst hR
  obtain ⟨hx, hb, hml, hown, hts, hfr, hlo, hOn, hscr⟩ := id C
  unfold zbin at h
  split at h
  · rename_i y x r
    have hg := hk _ _ _ _ h p l e R s m args below meth c _ _ cells slots Qf E _ C hc hs hH hS hL hl (zoc (zI_of _) (zot (zot hst))) hR
    refine lv_ixor hx hb hd ?_
    rw [List.map_cons, show zv E (0, zxor x y) = .int (Int32.ofInt (zxor x y)) from rfl, show Int32.ofInt (zxor x y) = _ from Int32.ofInt_toInt _] at hg
    exact hg
  · exact h.elim
theorem zs_ishl (hd : decode (zKb (zMk M)) pc = .ok (.ishl, 1)) (hk : ∀ pc ls st mem, k pc ls st mem → zG d M pc ls st mem Q) (h : zbin st zshl (fun t => k (pc + 1) ls t mem)) : zG d M pc ls st mem Q := by
  intro p l e R s m args below meth c H locs cells slots Qf E lj C hc hs hH hS hL hl hst hR
  obtain ⟨hx, hb, hml, hown, hts, hfr, hlo, hOn, hscr⟩ := id C
  unfold zbin at h
  split at h
  · rename_i y x r
    have hg := hk _ _ _ _ h p l e R s m args below meth c _ _ cells slots Qf E _ C hc hs hH hS hL hl (zoc (zI_of _) (zot (zot hst))) hR
    refine lv_ishl hx hb hd ?_
    rw [List.map_cons, show zv E (0, zshl x y) = .int (Int32.ofInt (zshl x y)) from rfl, show Int32.ofInt (zshl x y) = _ from Int32.ofInt_toInt _] at hg
    exact hg
  · exact h.elim
theorem zs_ishr (hd : decode (zKb (zMk M)) pc = .ok (.ishr, 1)) (hk : ∀ pc ls st mem, k pc ls st mem → zG d M pc ls st mem Q) (h : zbin st zshr (fun t => k (pc + 1) ls t mem)) : zG d M pc ls st mem Q := by
  intro p l e R s m args below meth c H locs cells slots Qf E lj C hc hs hH hS hL hl hst hR
  obtain ⟨hx, hb, hml, hown, hts, hfr, hlo, hOn, hscr⟩ := id C
  unfold zbin at h
  split at h
  · rename_i y x r
    have hg := hk _ _ _ _ h p l e R s m args below meth c _ _ cells slots Qf E _ C hc hs hH hS hL hl (zoc (zI_of _) (zot (zot hst))) hR
    refine lv_ishr hx hb hd ?_
    rw [List.map_cons, show zv E (0, zshr x y) = .int (Int32.ofInt (zshr x y)) from rfl, show Int32.ofInt (zshr x y) = _ from Int32.ofInt_toInt _] at hg
    exact hg
  · exact h.elim
theorem zs_iushr (hd : decode (zKb (zMk M)) pc = .ok (.iushr, 1)) (hk : ∀ pc ls st mem, k pc ls st mem → zG d M pc ls st mem Q) (h : zbin st zushr (fun t => k (pc + 1) ls t mem)) : zG d M pc ls st mem Q := by
  intro p l e R s m args below meth c H locs cells slots Qf E lj C hc hs hH hS hL hl hst hR
  obtain ⟨hx, hb, hml, hown, hts, hfr, hlo, hOn, hscr⟩ := id C
  unfold zbin at h
  split at h
  · rename_i y x r
    exact lv_iushr hx hb hd (Int32.ofInt_toInt _).symm (hk _ _ _ _ h p l e R s m args below meth c _ _ cells slots Qf E _ C hc hs hH hS hL hl (zoc (zI_of _) (zot (zot hst))) hR)
  · exact h.elim
theorem zs_idiv (hd : decode (zKb (zMk M)) pc = .ok (.idiv, 1)) (hk : ∀ pc ls st mem, k pc ls st mem → zG d M pc ls st mem Q) (h : match st with
    | (0, y) :: (0, x) :: r => y ≠ 0 ∧ k (pc + 1) ls ((0, zdiv x y) :: r) mem
    | _ => False) : zG d M pc ls st mem Q := by
  intro p l e R s m args below meth c H locs cells slots Qf E lj C hc hs hH hS hL hl hst hR
  obtain ⟨hx, hb, hml, hown, hts, hfr, hlo, hOn, hscr⟩ := id C
  split at h
  · rename_i y x r
    obtain ⟨hy, h⟩ := h
    have hg := hk _ _ _ _ h p l e R s m args below meth c _ _ cells slots Qf E _ C hc hs hH hS hL hl (zoc (zI_of _) (zot (zot hst))) hR
    refine lv_idiv hx hb hd (fun q => hy ?_) ?_
    · rw [z0_i, zeq_i (zoh hst) (by unfold zI; omega)] at q
      exact q
    rw [List.map_cons, show zv E (0, zdiv x y) = .int (Int32.ofInt (zdiv x y)) from rfl, show Int32.ofInt (zdiv x y) = _ from Int32.ofInt_toInt _] at hg
    exact hg
  · exact h.elim
theorem zs_irem (hd : decode (zKb (zMk M)) pc = .ok (.irem, 1)) (hk : ∀ pc ls st mem, k pc ls st mem → zG d M pc ls st mem Q) (h : match st with
    | (0, y) :: (0, x) :: r => y ≠ 0 ∧ k (pc + 1) ls ((0, zrem x y) :: r) mem
    | _ => False) : zG d M pc ls st mem Q := by
  intro p l e R s m args below meth c H locs cells slots Qf E lj C hc hs hH hS hL hl hst hR
  obtain ⟨hx, hb, hml, hown, hts, hfr, hlo, hOn, hscr⟩ := id C
  split at h
  · rename_i y x r
    obtain ⟨hy, h⟩ := h
    have hg := hk _ _ _ _ h p l e R s m args below meth c _ _ cells slots Qf E _ C hc hs hH hS hL hl (zoc (zI_of _) (zot (zot hst))) hR
    refine lv_irem hx hb hd (fun q => hy ?_) ?_
    · rw [z0_i, zeq_i (zoh hst) (by unfold zI; omega)] at q
      exact q
    rw [List.map_cons, show zv E (0, zrem x y) = .int (Int32.ofInt (zrem x y)) from rfl, show Int32.ofInt (zrem x y) = _ from Int32.ofInt_toInt _] at hg
    exact hg
  · exact h.elim
theorem zs_ineg (hd : decode (zKb (zMk M)) pc = .ok (.ineg, 1)) (hk : ∀ pc ls st mem, k pc ls st mem → zG d M pc ls st mem Q) (h : zun st zneg (fun t => k (pc + 1) ls t mem)) : zG d M pc ls st mem Q := by
  intro p l e R s m args below meth c H locs cells slots Qf E lj C hc hs hH hS hL hl hst hR
  obtain ⟨hx, hb, hml, hown, hts, hfr, hlo, hOn, hscr⟩ := id C
  unfold zun at h
  split at h
  · rename_i x r
    have hg := hk _ _ _ _ h p l e R s m args below meth c _ _ cells slots Qf E _ C hc hs hH hS hL hl (zoc (zI_of _) (zot hst)) hR
    refine lv_ineg hx hb hd ?_
    rw [List.map_cons, show zv E (0, zneg x) = .int (Int32.ofInt (zneg x)) from rfl, show Int32.ofInt (zneg x) = _ from Int32.ofInt_toInt _] at hg
    exact hg
  · exact h.elim
theorem zs_i2b (hd : decode (zKb (zMk M)) pc = .ok (.i2b, 1)) (hk : ∀ pc ls st mem, k pc ls st mem → zG d M pc ls st mem Q) (h : zun st zi2b (fun t => k (pc + 1) ls t mem)) : zG d M pc ls st mem Q := by
  intro p l e R s m args below meth c H locs cells slots Qf E lj C hc hs hH hS hL hl hst hR
  obtain ⟨hx, hb, hml, hown, hts, hfr, hlo, hOn, hscr⟩ := id C
  unfold zun at h
  split at h
  · rename_i x r
    exact lv_i2b hx hb hd (Int32.ofInt_toInt _).symm (hk _ _ _ _ h p l e R s m args below meth c _ _ cells slots Qf E _ C hc hs hH hS hL hl (zoc (zI_of _) (zot hst)) hR)
  · exact h.elim
theorem zs_i2s (hd : decode (zKb (zMk M)) pc = .ok (.i2s, 1)) (hk : ∀ pc ls st mem, k pc ls st mem → zG d M pc ls st mem Q) (h : zun st zi2s (fun t => k (pc + 1) ls t mem)) : zG d M pc ls st mem Q := by
  intro p l e R s m args below meth c H locs cells slots Qf E lj C hc hs hH hS hL hl hst hR
  obtain ⟨hx, hb, hml, hown, hts, hfr, hlo, hOn, hscr⟩ := id C
  unfold zun at h
  split at h
  · rename_i x r
    exact lv_i2s hx hb hd (Int32.ofInt_toInt _).symm (hk _ _ _ _ h p l e R s m args below meth c _ _ cells slots Qf E _ C hc hs hH hS hL hl (zoc (zI_of _) (zot hst)) hR)
  · exact h.elim
theorem zs_i2c (hd : decode (zKb (zMk M)) pc = .ok (.i2c, 1)) (hk : ∀ pc ls st mem, k pc ls st mem → zG d M pc ls st mem Q) (h : zun st zi2c (fun t => k (pc + 1) ls t mem)) : zG d M pc ls st mem Q := by
  intro p l e R s m args below meth c H locs cells slots Qf E lj C hc hs hH hS hL hl hst hR
  obtain ⟨hx, hb, hml, hown, hts, hfr, hlo, hOn, hscr⟩ := id C
  unfold zun at h
  split at h
  · rename_i x r
    exact lv_i2c hx hb hd (Int32.ofInt_toInt _).symm (hk _ _ _ _ h p l e R s m args below meth c _ _ cells slots Qf E _ C hc hs hH hS hL hl (zoc (zI_of _) (zot hst)) hR)
  · exact h.elim
theorem zs_i2l (hd : decode (zKb (zMk M)) pc = .ok (.i2l, 1)) (hk : ∀ pc ls st mem, k pc ls st mem → zG d M pc ls st mem Q) (h : match st with
    | (0, x) :: r => k (pc + 1) ls ((1, x) :: r) mem
    | _ => False) : zG d M pc ls st mem Q := by
  intro p l e R s m args below meth c H locs cells slots Qf E lj C hc hs hH hS hL hl hst hR
  obtain ⟨hx, hb, hml, hown, hts, hfr, hlo, hOn, hscr⟩ := id C
  split at h
  · rename_i x r
    have hxx : zI x := zoh hst
    exact lv_i2l hx hb hd (zi2l_i hxx) (hk _ _ _ _ h p l e R s m args below meth c _ _ cells slots Qf E _ C hc hs hH hS hL hl (zoc (show zJ x by unfold zI at hxx; unfold zJ; omega) (zot hst)) hR)
  · exact h.elim
theorem zs_l2i (hd : decode (zKb (zMk M)) pc = .ok (.l2i, 1)) (hk : ∀ pc ls st mem, k pc ls st mem → zG d M pc ls st mem Q) (h : match st with
    | (1, x) :: r => k (pc + 1) ls ((0, zl2i x) :: r) mem
    | _ => False) : zG d M pc ls st mem Q := by
  intro p l e R s m args below meth c H locs cells slots Qf E lj C hc hs hH hS hL hl hst hR
  obtain ⟨hx, hb, hml, hown, hts, hfr, hlo, hOn, hscr⟩ := id C
  split at h
  · rename_i x r
    exact lv_l2i hx hb hd (Int32.ofInt_toInt _).symm (hk _ _ _ _ h p l e R s m args below meth c _ _ cells slots Qf E _ C hc hs hH hS hL hl (zoc (zI_of _) (zot hst)) hR)
  · exact h.elim
theorem zs_ladd (hd : decode (zKb (zMk M)) pc = .ok (.ladd, 1)) (hk : ∀ pc ls st mem, k pc ls st mem → zG d M pc ls st mem Q) (h : zlbin st zladd (fun t => k (pc + 1) ls t mem)) : zG d M pc ls st mem Q := by
  intro p l e R s m args below meth c H locs cells slots Qf E lj C hc hs hH hS hL hl hst hR
  obtain ⟨hx, hb, hml, hown, hts, hfr, hlo, hOn, hscr⟩ := id C
  unfold zlbin at h
  split at h
  · rename_i y x r
    have hg := hk _ _ _ _ h p l e R s m args below meth c _ _ cells slots Qf E _ C hc hs hH hS hL hl (zoc (zJ_of _) (zot (zot hst))) hR
    refine lv_ladd hx hb hd ?_
    rw [List.map_cons, show zv E (1, zladd x y) = .long (Int64.ofInt (zladd x y)) from rfl, show Int64.ofInt (zladd x y) = _ from Int64.ofInt_toInt _] at hg
    exact hg
  · exact h.elim
theorem zs_lmul (hd : decode (zKb (zMk M)) pc = .ok (.lmul, 1)) (hk : ∀ pc ls st mem, k pc ls st mem → zG d M pc ls st mem Q) (h : zlbin st zlmul (fun t => k (pc + 1) ls t mem)) : zG d M pc ls st mem Q := by
  intro p l e R s m args below meth c H locs cells slots Qf E lj C hc hs hH hS hL hl hst hR
  obtain ⟨hx, hb, hml, hown, hts, hfr, hlo, hOn, hscr⟩ := id C
  unfold zlbin at h
  split at h
  · rename_i y x r
    have hg := hk _ _ _ _ h p l e R s m args below meth c _ _ cells slots Qf E _ C hc hs hH hS hL hl (zoc (zJ_of _) (zot (zot hst))) hR
    refine lv_lmul hx hb hd ?_
    rw [List.map_cons, show zv E (1, zlmul x y) = .long (Int64.ofInt (zlmul x y)) from rfl, show Int64.ofInt (zlmul x y) = _ from Int64.ofInt_toInt _] at hg
    exact hg
  · exact h.elim
theorem zs_land (hd : decode (zKb (zMk M)) pc = .ok (.land, 1)) (hk : ∀ pc ls st mem, k pc ls st mem → zG d M pc ls st mem Q) (h : zlbin st zland (fun t => k (pc + 1) ls t mem)) : zG d M pc ls st mem Q := by
  intro p l e R s m args below meth c H locs cells slots Qf E lj C hc hs hH hS hL hl hst hR
  obtain ⟨hx, hb, hml, hown, hts, hfr, hlo, hOn, hscr⟩ := id C
  unfold zlbin at h
  split at h
  · rename_i y x r
    have hg := hk _ _ _ _ h p l e R s m args below meth c _ _ cells slots Qf E _ C hc hs hH hS hL hl (zoc (zJ_of _) (zot (zot hst))) hR
    refine lv_land hx hb hd ?_
    rw [List.map_cons, show zv E (1, zland x y) = .long (Int64.ofInt (zland x y)) from rfl, show Int64.ofInt (zland x y) = _ from Int64.ofInt_toInt _] at hg
    exact hg
  · exact h.elim
theorem zs_lor (hd : decode (zKb (zMk M)) pc = .ok (.lor, 1)) (hk : ∀ pc ls st mem, k pc ls st mem → zG d M pc ls st mem Q) (h : zlbin st zlor (fun t => k (pc + 1) ls t mem)) : zG d M pc ls st mem Q := by
  intro p l e R s m args below meth c H locs cells slots Qf E lj C hc hs hH hS hL hl hst hR
  obtain ⟨hx, hb, hml, hown, hts, hfr, hlo, hOn, hscr⟩ := id C
  unfold zlbin at h
  split at h
  · rename_i y x r
    have hg := hk _ _ _ _ h p l e R s m args below meth c _ _ cells slots Qf E _ C hc hs hH hS hL hl (zoc (zJ_of _) (zot (zot hst))) hR
    refine lv_lor hx hb hd ?_
    rw [List.map_cons, show zv E (1, zlor x y) = .long (Int64.ofInt (zlor x y)) from rfl, show Int64.ofInt (zlor x y) = _ from Int64.ofInt_toInt _] at hg
    exact hg
  · exact h.elim
theorem zs_lshl (hd : decode (zKb (zMk M)) pc = .ok (.lshl, 1)) (hk : ∀ pc ls st mem, k pc ls st mem → zG d M pc ls st mem Q) (h : zlsh st zlshl (fun t => k (pc + 1) ls t mem)) : zG d M pc ls st mem Q := by
  intro p l e R s m args below meth c H locs cells slots Qf E lj C hc hs hH hS hL hl hst hR
  obtain ⟨hx, hb, hml, hown, hts, hfr, hlo, hOn, hscr⟩ := id C
  unfold zlsh at h
  split at h
  · rename_i y x r
    exact lv_lshl hx hb hd (Int64.ofInt_toInt _).symm (hk _ _ _ _ h p l e R s m args below meth c _ _ cells slots Qf E _ C hc hs hH hS hL hl (zoc (zJ_of _) (zot (zot hst))) hR)
  · exact h.elim
theorem zs_lshr (hd : decode (zKb (zMk M)) pc = .ok (.lshr, 1)) (hk : ∀ pc ls st mem, k pc ls st mem → zG d M pc ls st mem Q) (h : zlsh st zlshr (fun t => k (pc + 1) ls t mem)) : zG d M pc ls st mem Q := by
  intro p l e R s m args below meth c H locs cells slots Qf E lj C hc hs hH hS hL hl hst hR
  obtain ⟨hx, hb, hml, hown, hts, hfr, hlo, hOn, hscr⟩ := id C
  unfold zlsh at h
  split at h
  · rename_i y x r
    exact lv_lshr hx hb hd (Int64.ofInt_toInt _).symm (hk _ _ _ _ h p l e R s m args below meth c _ _ cells slots Qf E _ C hc hs hH hS hL hl (zoc (zJ_of _) (zot (zot hst))) hR)
  · exact h.elim
theorem zs_lushr (hd : decode (zKb (zMk M)) pc = .ok (.lushr, 1)) (hk : ∀ pc ls st mem, k pc ls st mem → zG d M pc ls st mem Q) (h : zlsh st zlushr (fun t => k (pc + 1) ls t mem)) : zG d M pc ls st mem Q := by
  intro p l e R s m args below meth c H locs cells slots Qf E lj C hc hs hH hS hL hl hst hR
  obtain ⟨hx, hb, hml, hown, hts, hfr, hlo, hOn, hscr⟩ := id C
  unfold zlsh at h
  split at h
  · rename_i y x r
    exact lv_lushr hx hb hd (Int64.ofInt_toInt _).symm (hk _ _ _ _ h p l e R s m args below meth c _ _ cells slots Qf E _ C hc hs hH hS hL hl (zoc (zJ_of _) (zot (zot hst))) hR)
  · exact h.elim
theorem zs_lcmp (hd : decode (zKb (zMk M)) pc = .ok (.lcmp, 1)) (hk : ∀ pc ls st mem, k pc ls st mem → zG d M pc ls st mem Q) (h : match st with
    | (1, y) :: (1, x) :: r => k (pc + 1) ls ((0, zlcmp x y) :: r) mem
    | _ => False) : zG d M pc ls st mem Q := by
  intro p l e R s m args below meth c H locs cells slots Qf E lj C hc hs hH hS hL hl hst hR
  obtain ⟨hx, hb, hml, hown, hts, hfr, hlo, hOn, hscr⟩ := id C
  split at h
  · rename_i y x r
    have hg := hk _ _ _ _ h p l e R s m args below meth c _ _ cells slots Qf E _ C hc hs hH hS hL hl (zoc (zI_of _) (zot (zot hst))) hR
    refine W.lcmp hx hb hd ?_
    rw [List.map_cons, show zv E (0, zlcmp x y) = .int (Int32.ofInt (zlcmp x y)) from rfl, show Int32.ofInt (zlcmp x y) = _ from Int32.ofInt_toInt _] at hg
    exact hg
  · exact h.elim
theorem zs_dup (hd : decode (zKb (zMk M)) pc = .ok (.dup, 1)) (hk : ∀ pc ls st mem, k pc ls st mem → zG d M pc ls st mem Q) (h : match st with
    | (0, x) :: r => k (pc + 1) ls ((0, x) :: (0, x) :: r) mem
    | (2, x) :: r => k (pc + 1) ls ((2, x) :: (2, x) :: r) mem
    | _ => False) : zG d M pc ls st mem Q := by
  intro p l e R s m args below meth c H locs cells slots Qf E lj C hc hs hH hS hL hl hst hR
  obtain ⟨hx, hb, hml, hown, hts, hfr, hlo, hOn, hscr⟩ := id C
  split at h
  · exact lv_dup hx hb hd rfl (hk _ _ _ _ h p l e R s m args below meth c _ _ cells slots Qf E _ C hc hs hH hS hL hl (zoc (zoh hst) hst) hR)
  · exact lv_dup hx hb hd rfl (hk _ _ _ _ h p l e R s m args below meth c _ _ cells slots Qf E _ C hc hs hH hS hL hl (zoc (zoh hst) hst) hR)
  · exact h.elim
theorem zs_dup2 (hd : decode (zKb (zMk M)) pc = .ok (.dup2, 1)) (hk : ∀ pc ls st mem, k pc ls st mem → zG d M pc ls st mem Q) (h : match st with
    | (0, x) :: (2, y) :: r => k (pc + 1) ls ((0, x) :: (2, y) :: (0, x) :: (2, y) :: r) mem
    | _ => False) : zG d M pc ls st mem Q := by
  intro p l e R s m args below meth c H locs cells slots Qf E lj C hc hs hH hS hL hl hst hR
  obtain ⟨hx, hb, hml, hown, hts, hfr, hlo, hOn, hscr⟩ := id C
  split at h
  · exact lv_dup2_11 hx hb hd rfl rfl (hk _ _ _ _ h p l e R s m args below meth c _ _ cells slots Qf E _ C hc hs hH hS hL hl (zoc (zoh hst) (zoc (zoh (zot hst)) hst)) hR)
  · exact h.elim
theorem zs_pop (hd : decode (zKb (zMk M)) pc = .ok (.pop, 1)) (hk : ∀ pc ls st mem, k pc ls st mem → zG d M pc ls st mem Q) (h : match st with
    | (0, _) :: r => k (pc + 1) ls r mem
    | (2, _) :: r => k (pc + 1) ls r mem
    | _ => False) : zG d M pc ls st mem Q := by
  intro p l e R s m args below meth c H locs cells slots Qf E lj C hc hs hH hS hL hl hst hR
  obtain ⟨hx, hb, hml, hown, hts, hfr, hlo, hOn, hscr⟩ := id C
  split at h
  · exact lv_pop hx hb hd rfl (hk _ _ _ _ h p l e R s m args below meth c _ _ cells slots Qf E _ C hc hs hH hS hL hl (zot hst) hR)
  · exact lv_pop hx hb hd rfl (hk _ _ _ _ h p l e R s m args below meth c _ _ cells slots Qf E _ C hc hs hH hS hL hl (zot hst) hR)
  · exact h.elim
end
end
section
section
variable {d : Nat} {M : zMt} {Q : Int → zMem → Prop} {pc : Nat} {ls st : List zV} {mem : zMem} {k : Nat → List zV → List zV → zMem → Prop}
def zlv (E : zEnv) (ls : List zV) : List (Nat × Value) := (List.range ls.length).filterMap (fun i => match ls[i]? with
  | some v => if v.1 < 9 then some (i, zv E v) else none
  | none => none)
theorem zlv_mem {E : zEnv} {ls : List zV} {q : Nat × Value} (h : q ∈ zlv E ls) : ∃ v, ls[q.1]? = some v ∧ v.1 < 9 ∧ q.2 = zv E v := by
  obtain ⟨i, -, hi⟩ := List.mem_filterMap.mp h
  cases hv : ls[i]? with
  | none => simp [hv] at hi
  | some v =>
    simp only [hv] at hi
    split at hi
    · cases hi
      exact ⟨v, hv, by assumption, rfl⟩
    · cases hi
theorem zlv_in {E : zEnv} {ls : List zV} {i : Nat} {v : zV} (h : ls[i]? = some v) (hv : v.1 < 9) : (i, zv E v) ∈ zlv E ls := by
  refine List.mem_filterMap.mpr ⟨i, List.mem_range.mpr (List.getElem?_eq_some_iff.mp h).1, ?_⟩
  simp only [h, hv, if_true]
theorem zLo_has {E : zEnv} {n : Nat} {ls : List zV} {lj : Array Slot} (h : zLo E n ls lj) : lv_has lj n (zlv E ls) := by
  refine ⟨h.1, h.2.2.1, fun q hq => ?_⟩
  obtain ⟨v, h1, h2, h3⟩ := zlv_mem hq
  rw [h3]
  exact h.2.2.2 _ _ h1 h2
theorem zst_spec {ls : List zV} {i : Nat} {v : zV} {k : List zV → Prop} (h : zst ls i v k) : i < ls.length ∧ (∀ j u, i = j + 1 → ls[j]? = some u → u.1 ≠ 1) ∧ k (ls.set i v) := by
  unfold zst at h
  split at h
  · exact h.elim
  · rename_i w hw
    have hlt := (List.getElem?_eq_some_iff.mp hw).1
    split at h
    · exact ⟨hlt, fun j u e => by omega, h⟩
    · rename_i j
      split at h
      · exact h.elim
      · rename_i hne
        refine ⟨hlt, fun j' u e hu he => ?_, h⟩
        have : j' = j := by omega
        subst this
        apply hne
        rw [List.getD_eq_getElem?_getD, hu]
        exact he
theorem zlen_set {ls : List zV} {i n : Nat} {v : zV} (h : ls.length ≤ n) : (ls.set i v).length ≤ n := by rw [List.length_set]; exact h
theorem zok_set {ls : List zV} {i : Nat} {v : zV} (h : ∀ u ∈ ls, zok u) (hv : zok v) : ∀ u ∈ ls.set i v, zok u := by
  intro u hu
  rcases List.mem_or_eq_of_mem_set hu with h1 | h1
  · exact h u h1
  · rw [h1]; exact hv
theorem zLo_st {E : zEnv} {n : Nat} {ls : List zV} {lj lj' : Array Slot} {i : Nat} {v : zV} (hL : zLo E n ls lj) (hi : i < ls.length) (hp : ∀ j u, i = j + 1 → ls[j]? = some u → u.1 ≠ 1) (lv : List (Nat × Value)) (hlv : ∀ q ∈ zlv E ls, q ∈ lv)
    (h : lv_has lj' n ((i, zv E v) :: lv.filter (fun q => !(q.1 == i) && !(q.1 + 1 == i && q.2.category == 2)))) : zLo E n (ls.set i v) lj' := by
  refine ⟨h.1, zlen_set hL.2.1, h.2.1, fun j u hj hu => ?_⟩
  by_cases hji : j = i
  · subst hji
    rw [List.getElem?_set_self hi] at hj
    cases hj
    exact h.2.2 _ List.mem_cons_self
  · rw [List.getElem?_set_ne (Ne.symm hji)] at hj
    refine h.2.2 (j, zv E u) (List.mem_cons_of_mem _ (List.mem_filter.mpr ⟨hlv _ (zlv_in hj hu), ?_⟩))
    have h1 : (j == i) = false := by simp [hji]
    simp only [h1, Bool.not_false, Bool.true_and, Bool.not_eq_true', Bool.and_eq_false_iff]
    by_cases hj1 : j + 1 = i
    · right
      have := hp j u hj1.symm hj
      rw [zv_cat]
      simp only [beq_eq_false_iff_ne, ne_eq]
      unfold zcat
      split
      · rename_i e
        exact absurd e this
      · omega
    · left
      simp [hj1]
theorem zLo_st2 {E : zEnv} {n : Nat} {ls : List zV} {lj lj' : Array Slot} {i : Nat} {x : Int} (hL : zLo E n ls lj) (hi : i + 1 < ls.length) (hp : ∀ j u, i = j + 1 → ls[j]? = some u → u.1 ≠ 1)
    (h : lv_has lj' n ((i, zv E (1, x)) :: (zlv E ls).filter (fun q => !(q.1 == i) && (!(q.1 == i + 1) && !(q.1 + 1 == i && q.2.category == 2))))) : zLo E n ((ls.set i (1, x)).set (i + 1) (9, 0)) lj' := by
  refine ⟨h.1, zlen_set (zlen_set hL.2.1), h.2.1, fun j u hj hu => ?_⟩
  by_cases hj1 : j = i + 1
  · subst hj1
    rw [List.getElem?_set_self (by rw [List.length_set]; exact hi)] at hj
    cases hj
    exact absurd hu (by decide)
  rw [List.getElem?_set_ne (Ne.symm hj1)] at hj
  by_cases hji : j = i
  · subst hji
    rw [List.getElem?_set_self (by omega)] at hj
    cases hj
    exact h.2.2 _ List.mem_cons_self
  · rw [List.getElem?_set_ne (Ne.symm hji)] at hj
    refine h.2.2 (j, zv E u) (List.mem_cons_of_mem _ (List.mem_filter.mpr ⟨zlv_in hj hu, ?_⟩))
    have h1 : (j == i) = false := by simp [hji]
    have h2 : (j == i + 1) = false := by simp [hj1]
    simp only [h1, h2, Bool.not_false, Bool.true_and, Bool.not_eq_true', Bool.and_eq_false_iff]
    by_cases hj1 : j + 1 = i
    · right
      have := hp j u hj1.symm hj
      rw [zv_cat]
      simp only [beq_eq_false_iff_ne, ne_eq]
      unfold zcat
      split
      · rename_i e
        exact absurd e this
      · omega
    · left
      simp [hj1]
theorem zs_istore_n {n : Fin 4} (hd : decode (zKb (zMk M)) pc = .ok (.istore_n n, 1)) (hk : ∀ pc ls st mem, k pc ls st mem → zG d M pc ls st mem Q) (h : match st with
    | (0, x) :: r => ∀ z : Int, z = x → zst ls n.val (0, z) (fun l => k (pc + 1) l r mem)
    | _ => False) : zG d M pc ls st mem Q := by
  intro p l e R s m args below meth c H locs cells slots Qf E lj C hc hs hH hS hL hl hst hR
  obtain ⟨hx, hb, hml, hown, hts, hfr, hlo, hOn, hscr⟩ := id C
  split at h
  · rename_i x r
    obtain ⟨h1, h2, h⟩ := zst_spec (h x rfl)
    exact lv_istore_n hx hb hd rfl (zLo_has hL) (Nat.lt_of_lt_of_le h1 hL.2.1) rfl (fun lj' hj => hk _ _ _ _ h p l e R s m args below meth c _ _ cells slots Qf E _ C hc hs hH hS (zLo_st (v := (0, x)) hL h1 h2 _ (fun _ q => q) hj) (zok_set hl (zoh hst)) (zot hst) hR)
  · exact h.elim
theorem zs_istore {n : Nat} (hd : decode (zKb (zMk M)) pc = .ok (.istore n, 2)) (hk : ∀ pc ls st mem, k pc ls st mem → zG d M pc ls st mem Q) (h : match st with
    | (0, x) :: r => ∀ z : Int, z = x → zst ls n (0, z) (fun l => k (pc + 2) l r mem)
    | _ => False) : zG d M pc ls st mem Q := by
  intro p l e R s m args below meth c H locs cells slots Qf E lj C hc hs hH hS hL hl hst hR
  obtain ⟨hx, hb, hml, hown, hts, hfr, hlo, hOn, hscr⟩ := id C
  split at h
  · rename_i x r
    obtain ⟨h1, h2, h⟩ := zst_spec (h x rfl)
    exact lv_istore hx hb hd (zLo_has hL) (Nat.lt_of_lt_of_le h1 hL.2.1) rfl (fun lj' hj => hk _ _ _ _ h p l e R s m args below meth c _ _ cells slots Qf E _ C hc hs hH hS (zLo_st (v := (0, x)) hL h1 h2 _ (fun _ q => q) hj) (zok_set hl (zoh hst)) (zot hst) hR)
  · exact h.elim
theorem zs_astore_n {n : Fin 4} (hd : decode (zKb (zMk M)) pc = .ok (.astore_n n, 1)) (hk : ∀ pc ls st mem, k pc ls st mem → zG d M pc ls st mem Q) (h : match st with
    | (2, x) :: r => zst ls n.val (2, x) (fun l => k (pc + 1) l r mem)
    | _ => False) : zG d M pc ls st mem Q := by
  intro p l e R s m args below meth c H locs cells slots Qf E lj C hc hs hH hS hL hl hst hR
  obtain ⟨hx, hb, hml, hown, hts, hfr, hlo, hOn, hscr⟩ := id C
  split at h
  · rename_i x r
    obtain ⟨h1, h2, h⟩ := zst_spec h
    exact lv_astore_n hx hb hd rfl (zLo_has hL) (Nat.lt_of_lt_of_le h1 hL.2.1) rfl (fun lj' hj => hk _ _ _ _ h p l e R s m args below meth c _ _ cells slots Qf E _ C hc hs hH hS (zLo_st (v := (2, x)) hL h1 h2 _ (fun _ q => q) hj) (zok_set hl (zoh hst)) (zot hst) hR)
  · exact h.elim
theorem zs_astore {n : Nat} (hd : decode (zKb (zMk M)) pc = .ok (.astore n, 2)) (hk : ∀ pc ls st mem, k pc ls st mem → zG d M pc ls st mem Q) (h : match st with
    | (2, x) :: r => zst ls n (2, x) (fun l => k (pc + 2) l r mem)
    | _ => False) : zG d M pc ls st mem Q := by
  intro p l e R s m args below meth c H locs cells slots Qf E lj C hc hs hH hS hL hl hst hR
  obtain ⟨hx, hb, hml, hown, hts, hfr, hlo, hOn, hscr⟩ := id C
  split at h
  · rename_i x r
    obtain ⟨h1, h2, h⟩ := zst_spec h
    exact lv_astore hx hb hd (zLo_has hL) (Nat.lt_of_lt_of_le h1 hL.2.1) rfl (fun lj' hj => hk _ _ _ _ h p l e R s m args below meth c _ _ cells slots Qf E _ C hc hs hH hS (zLo_st (v := (2, x)) hL h1 h2 _ (fun _ q => q) hj) (zok_set hl (zoh hst)) (zot hst) hR)
  · exact h.elim
theorem zs_lstore_n {n : Fin 4} (hd : decode (zKb (zMk M)) pc = .ok (.lstore_n n, 1)) (hk : ∀ pc ls st mem, k pc ls st mem → zG d M pc ls st mem Q) (h : match st with
    | (1, x) :: r => ∀ z : Int, z = x → zst ls n.val (1, z) (fun l => match l[n.val + 1]? with
      | none => False
      | some _ => k (pc + 1) (l.set (n.val + 1) (9, 0)) r mem)
    | _ => False) : zG d M pc ls st mem Q := by
  intro p l e R s m args below meth c H locs cells slots Qf E lj C hc hs hH hS hL hl hst hR
  obtain ⟨hx, hb, hml, hown, hts, hfr, hlo, hOn, hscr⟩ := id C
  split at h
  · rename_i x r
    obtain ⟨h1, h2, h⟩ := zst_spec (h x rfl)
    split at h
    · exact h.elim
    · rename_i w hw
      have h3 : n.val + 1 < ls.length := by
        have := (List.getElem?_eq_some_iff.mp hw).1
        rw [List.length_set] at this
        exact this
      exact lv_lstore_n hx hb hd rfl (zLo_has hL) (Nat.lt_of_lt_of_le h3 hL.2.1) rfl (fun lj' hj => hk _ _ _ _ h p l e R s m args below meth c _ _ cells slots Qf E _ C hc hs hH hS (zLo_st2 hL h3 h2 hj) (zok_set (zok_set hl (zoh hst)) trivial) (zot hst) hR)
  · exact h.elim
theorem zs_lstore {n : Nat} (hd : decode (zKb (zMk M)) pc = .ok (.lstore n, 2)) (hk : ∀ pc ls st mem, k pc ls st mem → zG d M pc ls st mem Q) (h : match st with
    | (1, x) :: r => ∀ z : Int, z = x → zst ls n (1, z) (fun l => match l[n + 1]? with
      | none => False
      | some _ => k (pc + 2) (l.set (n + 1) (9, 0)) r mem)
    | _ => False) : zG d M pc ls st mem Q := by
  intro p l e R s m args below meth c H locs cells slots Qf E lj C hc hs hH hS hL hl hst hR
  obtain ⟨hx, hb, hml, hown, hts, hfr, hlo, hOn, hscr⟩ := id C
  split at h
  · rename_i x r
    obtain ⟨h1, h2, h⟩ := zst_spec (h x rfl)
    split at h
    · exact h.elim
    · rename_i w hw
      have h3 : n + 1 < ls.length := by
        have := (List.getElem?_eq_some_iff.mp hw).1
        rw [List.length_set] at this
        exact this
      exact lv_lstore hx hb hd (zLo_has hL) (Nat.lt_of_lt_of_le h3 hL.2.1) rfl (fun lj' hj => hk _ _ _ _ h p l e R s m args below meth c _ _ cells slots Qf E _ C hc hs hH hS (zLo_st2 hL h3 h2 hj) (zok_set (zok_set hl (zoh hst)) trivial) (zot hst) hR)
  · exact h.elim
theorem zs_iinc {n : Nat} {c0 : Int} (hd : decode (zKb (zMk M)) pc = .ok (.iinc n c0, 3)) (hk : ∀ pc ls st mem, k pc ls st mem → zG d M pc ls st mem Q) (h : zld 0 ls n (fun v => ∀ z : Int, z = zadd v.2 c0 → zst ls n (0, z) (fun l => k (pc + 3) l st mem))) : zG d M pc ls st mem Q := by
  intro p l e R s m args below meth c H locs cells slots Qf E lj C hc hs hH hS hL hl hst hR
  obtain ⟨hx, hb, hml, hown, hts, hfr, hlo, hOn, hscr⟩ := id C
  obtain ⟨x, hi, h⟩ := zld_spec h
  obtain ⟨h1, h2, h⟩ := zst_spec (h _ rfl)
  have hv := hL.2.2.2 _ _ hi (show 0 < 9 by decide)
  refine lv_iinc (lv := (n, zv E (0, x)) :: zlv E ls) (k := 0) hx hb hd ⟨(zLo_has hL).1, (zLo_has hL).2.1, fun q hq => ?_⟩ rfl (Int32.ofInt_toInt _).symm (Nat.lt_of_lt_of_le h1 hL.2.1) rfl (fun lj' hj => hk _ _ _ _ h p l e R s m args below meth c _ _ cells slots Qf E _ C hc hs hH hS (zLo_st (v := (0, zadd x c0)) hL h1 h2 _ (fun _ q => List.mem_cons_of_mem _ q) hj) (zok_set hl (zI_of _)) hst hR)
  rcases List.mem_cons.mp hq with rfl | hq
  · exact hv
  · exact (zLo_has hL).2.2 q hq
theorem ztgt_eq {pc : Nat} {off : Int} (h : 0 ≤ (pc : Int) + off) : (pc : Int) + off = (ztgt pc off : Int) := by unfold ztgt; omega
theorem zs_goto {off : Int} (hd : decode (zKb (zMk M)) pc = .ok (.goto off, 3)) (ho : 0 ≤ (pc : Int) + off) (hk : ∀ pc ls st mem, k pc ls st mem → zG d M pc ls st mem Q) (h : k (ztgt pc off) ls st mem) : zG d M pc ls st mem Q := by
  intro p l e R s m args below meth c H locs cells slots Qf E lj C hc hs hH hS hL hl hst hR
  obtain ⟨hx, hb, hml, hown, hts, hfr, hlo, hOn, hscr⟩ := id C
  exact lv_goto hx hb hd (ztgt_eq ho) (hk _ _ _ _ h p l e R s m args below meth c _ _ cells slots Qf E _ C hc hs hH hS hL hl hst hR)
theorem zs_icmp {c0 : ClassFile.Cond} {off : Int} (hd : decode (zKb (zMk M)) pc = .ok (.if_icmp c0 off, 3)) (ho : 0 ≤ (pc : Int) + off) (hk : ∀ pc ls st mem, k pc ls st mem → zG d M pc ls st mem Q) (h : match st with
    | (0, y) :: (0, x) :: r => (zcmp c0 x y → k (ztgt pc off) ls r mem) ∧ (¬ zcmp c0 x y → k (pc + 3) ls r mem)
    | _ => False) : zG d M pc ls st mem Q := by
  intro p l e R s m args below meth c H locs cells slots Qf E lj C hc hs hH hS hL hl hst hR
  obtain ⟨hx, hb, hml, hown, hts, hfr, hlo, hOn, hscr⟩ := id C
  split at h
  · rename_i y x r
    obtain ⟨h1, h2⟩ := h
    have hy : zI y := zoh hst
    have hxx : zI x := zoh (zot hst)
    have g1 := fun q => hk _ _ _ _ (h1 q) p l e R s m args below meth c _ _ cells slots Qf E _ C hc hs hH hS hL hl (zot (zot hst)) hR
    have g2 := fun q => hk _ _ _ _ (h2 q) p l e R s m args below meth c _ _ cells slots Qf E _ C hc hs hH hS hL hl (zot (zot hst)) hR
    cases c0
    case eq => exact lv_icmp_eq hx hb hd (ztgt_eq ho) (fun q => g1 ((zeq_i hxx hy).mp q)) (fun q => g2 (fun e => q ((zeq_i hxx hy).mpr e)))
    case ne => exact lv_icmp_ne hx hb hd (ztgt_eq ho) (fun q => g1 (fun e => q ((zeq_i hxx hy).mpr e))) (fun q => g2 (fun e => e ((zeq_i hxx hy).mp q)))
    case lt => exact lv_icmp_lt hx hb hd (ztgt_eq ho) (fun q => g1 ((zlt_i hxx hy).mp q)) (fun q => g2 (fun e => q ((zlt_i hxx hy).mpr e)))
    case ge => exact lv_icmp_ge hx hb hd (ztgt_eq ho) (fun q => g1 ((zle_i hy hxx).mp q)) (fun q => g2 (fun e => q ((zle_i hy hxx).mpr e)))
    case gt => exact lv_icmp_gt hx hb hd (ztgt_eq ho) (fun q => g1 ((zlt_i hy hxx).mp q)) (fun q => g2 (fun e => q ((zlt_i hy hxx).mpr e)))
    case le => exact lv_icmp_le hx hb hd (ztgt_eq ho) (fun q => g1 ((zle_i hxx hy).mp q)) (fun q => g2 (fun e => q ((zle_i hxx hy).mpr e)))
  · exact h.elim
theorem zs_if {c0 : ClassFile.Cond} {off : Int} (hd : decode (zKb (zMk M)) pc = .ok (.ifCond c0 off, 3)) (ho : 0 ≤ (pc : Int) + off) (hk : ∀ pc ls st mem, k pc ls st mem → zG d M pc ls st mem Q) (h : match st with
    | (0, x) :: r => (zcmp c0 x 0 → k (ztgt pc off) ls r mem) ∧ (¬ zcmp c0 x 0 → k (pc + 3) ls r mem)
    | _ => False) : zG d M pc ls st mem Q := by
  intro p l e R s m args below meth c H locs cells slots Qf E lj C hc hs hH hS hL hl hst hR
  obtain ⟨hx, hb, hml, hown, hts, hfr, hlo, hOn, hscr⟩ := id C
  split at h
  · rename_i x r
    obtain ⟨h1, h2⟩ := h
    have hxx : zI x := zoh hst
    have hy : zI 0 := by unfold zI; omega
    have g1 := fun q => hk _ _ _ _ (h1 q) p l e R s m args below meth c _ _ cells slots Qf E _ C hc hs hH hS hL hl (zot hst) hR
    have g2 := fun q => hk _ _ _ _ (h2 q) p l e R s m args below meth c _ _ cells slots Qf E _ C hc hs hH hS hL hl (zot hst) hR
    cases c0
    case eq => exact lv_if_eq hx hb hd (ztgt_eq ho) (fun q => g1 ((zeq_i hxx hy).mp q)) (fun q => g2 (fun e => q ((zeq_i hxx hy).mpr e)))
    case ne => exact lv_if_ne hx hb hd (ztgt_eq ho) (fun q => g1 (fun e => q ((zeq_i hxx hy).mpr e))) (fun q => g2 (fun e => e ((zeq_i hxx hy).mp q)))
    case lt => exact lv_if_lt hx hb hd (ztgt_eq ho) (fun q => g1 ((zlt_i hxx hy).mp q)) (fun q => g2 (fun e => q ((zlt_i hxx hy).mpr e)))
    case ge => exact lv_if_ge hx hb hd (ztgt_eq ho) (fun q => g1 ((zle_i hy hxx).mp q)) (fun q => g2 (fun e => q ((zle_i hy hxx).mpr e)))
    case gt => exact lv_if_gt hx hb hd (ztgt_eq ho) (fun q => g1 ((zlt_i hy hxx).mp q)) (fun q => g2 (fun e => q ((zlt_i hy hxx).mpr e)))
    case le => exact lv_if_le hx hb hd (ztgt_eq ho) (fun q => g1 ((zle_i hxx hy).mp q)) (fun q => g2 (fun e => q ((zle_i hxx hy).mpr e)))
  · exact h.elim
theorem zsw_spec {pc : Nat} {x : Int} {k : Nat → Prop} : ∀ {l : List Int} {lo : Int}, zsw pc x k l lo → ∀ (j : Nat) (o : Int), l[j]? = some o → x = lo + j → k (ztgt pc o)
  | [], lo, _, j, o, h, _ => by simp at h
  | a :: l, lo, h, 0, o, hj, e => by
    have : a = o := by simpa using hj
    subst this
    exact h.1 (by simpa using e)
  | a :: l, lo, h, j + 1, o, hj, e => zsw_spec h.2 j o (by simpa using hj) (by rw [e]; push_cast; omega)
theorem zs_switch {df lo hi : Int} {offs : Array Int} {len : Nat} (hd : decode (zKb (zMk M)) pc = .ok (.tableswitch df lo hi offs, len)) (h0 : 0 ≤ (pc : Int) + df) (h1 : ∀ o ∈ offs, 0 ≤ (pc : Int) + o) (hn : (offs.size : Int) = hi - lo + 1) (hk : ∀ pc ls st mem, k pc ls st mem → zG d M pc ls st mem Q) (h : match st with
    | (0, x) :: r => zsw pc x (fun t => k t ls r mem) offs.toList lo ∧ (x < lo ∨ hi < x → k (ztgt pc df) ls r mem)
    | _ => False) : zG d M pc ls st mem Q := by
  intro p l e R s m args below meth c H locs cells slots Qf E lj C hc hs hH hS hL hl hst hR
  obtain ⟨hx, hb, hml, hown, hts, hfr, hlo, hOn, hscr⟩ := id C
  split at h
  · rename_i x r
    obtain ⟨ha, hb2⟩ := h
    have hxx : zI x := zoh hst
    by_cases hc2 : x < lo ∨ hi < x
    · have h := hb2 hc2
      exact lv_tableOut hx hb hd (by rw [zI_to hxx]; exact hc2) (ztgt_eq h0) (hk _ _ _ _ h p l e R s m args below meth c _ _ cells slots Qf E _ C hc hs hH hS hL hl (zot hst) hR)
    · have hlt : (x - lo).toNat < offs.size := by omega
      have ho : offs[(x - lo).toNat]? = some offs[(x - lo).toNat] := Array.getElem?_eq_getElem hlt
      have h := zsw_spec ha (x - lo).toNat _ (by rw [Array.getElem?_toList]; exact ho) (by omega)
      exact lv_tableIn hx hb hd (by rw [zI_to hxx]; omega) (by rw [zI_to hxx]; omega) (by rw [zI_to hxx]; exact ho) (ztgt_eq (h1 _ (Array.getElem_mem hlt))) (hk _ _ _ _ h p l e R s m args below meth c _ _ cells slots Qf E _ C hc hs hH hS hL hl (zot hst) hR)
  · exact h.elim
end
end
section
section
variable {d : Nat} {M : zMt} {Q : Int → zMem → Prop} {pc : Nat} {ls st : List zV} {mem : zMem} {k : Nat → List zV → List zV → zMem → Prop}
theorem zgood_of {w : Cond} (h : w ∈ lw_tbl) (g : goodWord w = true) : w ∈ zgood := List.mem_filter.mpr ⟨h, g⟩
theorem zgood_in {w : Cond} (h : w ∈ zgood) : (w.onTables && w.keeps) = true ∨ ∃ ty, w = .arrayClass ty := good_of_word (List.mem_filter.mp h).2
/-- a class's words and types -/
def zCF (ci : Nat) (q : vw_C) (ty : Nat → FieldType) : Prop := (∀ w ∈ u_ws q.1 q.2.1 q.2.2, w ∈ zgood) ∧ (∀ k, k < q.2.2 → parseFieldDescriptor (q.2.1 k).2.2.1 = some (ty k)) ∧ (∀ a, a < q.2.2 → ∀ b, b < q.2.2 → a ≠ b → (q.2.1 a).2.1 ≠ (q.2.1 b).2.1) ∧
  (∀ k, k < q.2.2 → zfk ci k = 0 → ty k = .int ∧ (q.2.1 k).2.2.2 = false) ∧ (∀ k, k < q.2.2 → zfk ci k = 1 → ty k = .boolean ∧ (q.2.1 k).2.2.2 = false)
/-- a field's row: its class is known, its link's word is there -/
def zFf (own : String) (f : Nat × Nat × Nat × Nat) : Prop := ∃ q ty, vwCl[f.2.1]? = some q ∧ f.2.1 < 100 ∧ f.2.2.1 < q.2.2 ∧ zCF f.2.1 q ty ∧ Cond.fieldLink own f.1 (q.2.1 f.2.2.1).1 (q.2.1 f.2.2.1).2.1 (q.2.1 f.2.2.1).2.2.1 ∈ zgood
theorem zat_mem {α : Type} {l : List (Nat × α)} {k : Nat} {a : α} (h : zat l k = some a) : (k, a) ∈ l := by
  induction l with
  | nil => cases h
  | cons x l ih =>
    obtain ⟨i, b⟩ := x
    unfold zat at h
    split at h
    · rename_i hb
      have := Nat.eq_of_beq_eq_true hb
      subst this
      cases h
      exact List.mem_cons_self
    · exact List.mem_cons_of_mem _ (ih h)
theorem zfs_at (E : zEnv) (k : Nat) (f : Nat → Int) {j : Nat} (hj : j < zln k) : ((List.range (zln k)).map fun j => zfv E k j (f j))[j]? = some (zfv E k j (f j)) := by
  rw [List.getElem?_map, List.getElem?_range hj]
  rfl
theorem zfs_set (E : zEnv) (k : Nat) (f g : Nat → Int) {j : Nat} (hj : j < zln k) (ho : ∀ i, i ≠ j → g i = f i) : ((List.range (zln k)).map fun j => zfv E k j (f j)).set j (zfv E k j (g j)) = (List.range (zln k)).map fun j => zfv E k j (g j) := by
  apply List.ext_getElem?
  intro i
  by_cases hij : i = j
  · subst hij
    rw [zfs_at E k g hj, List.getElem?_set_self]
    rw [List.length_map, List.length_range]
    exact hj
  · rw [List.getElem?_set_ne (Ne.symm hij)]
    by_cases hi : i < zln k
    · rw [zfs_at E k f hi, zfs_at E k g hi, ho i hij]
    · rw [List.getElem?_eq_none, List.getElem?_eq_none] <;> · rw [List.length_map, List.length_range]; omega
theorem zsz {k : Nat} {q : vw_C} (h : zkd k < 100) (hq : vwCl[zkd k]? = some q) : q.2.2 = zln k := by
  have h1 := zsh_cl k (zkd_lt (by omega)) h
  rw [List.getD_eq_getElem?_getD, hq] at h1
  exact h1
theorem zHp_at {E : zEnv} {mem : zMem} {H : Heap} (h : zHp E mem H) {k : Nat} (hk : k < zNC) : (zws E mem)[k]? = some (zEb E + k, zel E k (mem k)) := zws_at E mem hk
theorem zs_getfield {idx : Nat} (hd : decode (zKb (zMk M)) pc = .ok (.getfield idx, 3)) (hF : ∀ f ∈ zMf M, zFf (zMo M) f) (hk : ∀ pc ls st mem, k pc ls st mem → zG d M pc ls st mem Q) (h : match st with
    | (2, h) :: r => match zat (zMf M) idx with
      | some (ci, sl, _) => zkd h.toNat = ci ∧ (match zfk ci sl with
        | 2 => k (pc + 3) ls ((2, Int.ofNat (zrt h.toNat sl)) :: r) mem
        | _ => k (pc + 3) ls ((0, mem h.toNat sl) :: r) mem)
      | none => False
    | _ => False) : zG d M pc ls st mem Q := by
  intro p l e R s m args below meth c H locs cells slots Qf E lj C hc hs hH hS hL hl hst hR
  obtain ⟨hx, hb, hml, hown, hts, hfr, hlo, hOn, hscr⟩ := id C
  split at h
  · rename_i q r
    split at h
    · rename_i ci sl pl hat
      obtain ⟨rfl, h⟩ := h
      obtain ⟨⟨C1, T1, N1⟩, ty, hq1, hq2, hq3, hq4, hq5⟩ := hF _ (zat_mem hat)
      dsimp only at hq1 hq2 hq3 hq4 hq5
      have hN : N1 = zln q.toNat := zsz (q := (C1, T1, N1)) hq2 hq1
      have he := zws_at E mem (zkd_lt (k := q.toNat) (by omega))
      rw [zel_o E _ hq2] at he
      have hv := zfs_at E q.toNat (mem q.toNat) (j := sl) (by rw [← hN]; exact hq3)
      refine va_get (C := C1) (T := T1) (N := N1) (own := zMo M) (ref := (T1 sl).1) hx hb hts hq4.1 hown hOn.1 hH.2 q.toNat he hq1 sl hq3 (hts _ hq5) (fun x hx => hx) hv hd ?_
      unfold zfv
      split at h
      · rename_i h2
        rw [if_pos h2]
        exact hk _ _ _ _ h p l e R s m args below meth c _ _ cells slots Qf E _ C hc hs hH hS hL hl (zoc (show zok (2, _) from trivial) (zot hst)) hR
      · rename_i h2
        rw [if_neg h2]
        exact hk _ _ _ _ h p l e R s m args below meth c _ _ cells slots Qf E _ C hc hs hH hS hL hl (zoc (show zI _ from (hH.1 _ _).2 (by omega)) (zot hst)) hR
    · exact h.elim
  · exact h.elim
theorem zHp_set {E : zEnv} {mem mem' : zMem} {H1 : Heap} {k : Nat} {e : va_E} (hk : k < zNC) (hr : zrg mem') (ho : ∀ a, a ≠ k → mem' a = mem a) (he : e = zel E k (mem' k)) (hP : va_P (zED E) vwCl ((zws E mem).set k (zEb E + k, e)) H1) : zHp E mem' H1 := by
  subst he
  rw [zws_set E mem mem' hk ho] at hP
  exact ⟨hr, hP⟩
theorem zup_s (mem : zMem) (k j : Nat) (v : Int) : zup mem k j v k j = v := by unfold zup; rw [if_pos ⟨rfl, rfl⟩]
theorem zup_n (mem : zMem) (k j : Nat) (v : Int) {i : Nat} (h : i ≠ j) : zup mem k j v k i = mem k i := by unfold zup; rw [if_neg (fun q => h q.2)]
theorem zbool {x : Int} (h : x = 0 ∨ x = 1) : narrow .boolean (.int (Int32.ofInt x)) = .int (Int32.ofInt x) ∧ fits .boolean (.int (Int32.ofInt x)) = true ∧ zI x := by
  rcases h with rfl | rfl
  · exact ⟨by decide +kernel, by decide +kernel, by unfold zI; omega⟩
  · exact ⟨by decide +kernel, by decide +kernel, by unfold zI; omega⟩
theorem zs_putfield {idx : Nat} (hd : decode (zKb (zMk M)) pc = .ok (.putfield idx, 3)) (hF : ∀ f ∈ zMf M, zFf (zMo M) f) (hk : ∀ pc ls st mem, k pc ls st mem → zG d M pc ls st mem Q) (h : match st with
    | (0, x) :: (2, h) :: r => match zat (zMf M) idx with
      | some (ci, sl, _) => zkd h.toNat = ci ∧ (match zfk ci sl with
        | 0 => ∀ mem' : zMem, mem' = zup mem h.toNat sl x → k (pc + 3) ls r mem'
        | 1 => (x = 0 ∨ x = 1) ∧ ∀ mem' : zMem, mem' = zup mem h.toNat sl x → k (pc + 3) ls r mem'
        | _ => False)
      | none => False
    | _ => False) : zG d M pc ls st mem Q := by
  intro p l e R s m args below meth c H locs cells slots Qf E lj C hc hs hH hS hL hl hst hR
  obtain ⟨hx, hb, hml, hown, hts, hfr, hlo, hOn, hscr⟩ := id C
  split at h
  · rename_i x q r
    split at h
    · rename_i ci sl pl hat
      obtain ⟨rfl, h⟩ := h
      obtain ⟨⟨C1, T1, N1⟩, ty, hq1, hq2, hq3, hq4, hq5⟩ := hF _ (zat_mem hat)
      dsimp only at hq1 hq2 hq3 hq4 hq5
      have hN : N1 = zln q.toNat := zsz (q := (C1, T1, N1)) hq2 hq1
      have he := zws_at E mem (zkd_lt (k := q.toNat) (by omega))
      rw [zel_o E _ hq2] at he
      split at h
      · rename_i h2
        have hfi := hq4.2.2.2.1 sl hq3 h2
        refine va_put (C := C1) (T := T1) (N := N1) (own := zMo M) (ref := (T1 sl).1) (ty := .int) hx hb hts hq4.1 ty hq4.2.1 hq4.2.2.1 hown hOn.1 hH.2 (zws_D E mem) hS q.toNat he hq1 sl hq3 (hts _ hq5) (fun x hx => hx) hfi.2 (by rw [hq4.2.1 sl hq3, hfi.1]) rfl rfl (by rw [List.length_map, List.length_range, ← hN]; exact hq3) hd (fun H1 locs1 hP1 _ hS1 => ?_)
        have h := h _ rfl
        have hv : zfv E q.toNat sl x = .int (Int32.ofInt x) := by unfold zfv; rw [if_neg (by omega)]
        refine hk _ _ _ _ h p l e R s m args below meth c _ _ cells slots Qf E _ C hc hs (zHp_set (zkd_lt (by omega)) (zup_rg hH.1 (fun q => by omega) (fun _ => zoh hst)) (zup_o _ _ _ _) ?_ hP1) hS1 hL hl (zot (zot hst)) hR
        rw [zel_o E _ hq2, ← zfs_set E q.toNat (mem q.toNat) (zup mem q.toNat sl x q.toNat) (j := sl) (by rw [← hN]; exact hq3) (fun i hi => zup_n _ _ _ _ hi), zup_s, hv]
        rfl
      · rename_i h2
        have hfi := hq4.2.2.2.2 sl hq3 h2
        obtain ⟨hx01, h⟩ := h
        refine va_put (C := C1) (T := T1) (N := N1) (own := zMo M) (ref := (T1 sl).1) (ty := .boolean) hx hb hts hq4.1 ty hq4.2.1 hq4.2.2.1 hown hOn.1 hH.2 (zws_D E mem) hS q.toNat he hq1 sl hq3 (hts _ hq5) (fun x hx => hx) hfi.2 (by rw [hq4.2.1 sl hq3, hfi.1]) (zbool hx01).1 (zbool hx01).2.1 (by rw [List.length_map, List.length_range, ← hN]; exact hq3) hd (fun H1 locs1 hP1 _ hS1 => ?_)
        have h := h _ rfl
        have hv : zfv E q.toNat sl x = .int (Int32.ofInt x) := by unfold zfv; rw [if_neg (by omega)]
        refine hk _ _ _ _ h p l e R s m args below meth c _ _ cells slots Qf E _ C hc hs (zHp_set (zkd_lt (by omega)) (zup_rg hH.1 (fun q => by omega) (fun _ => zoh hst)) (zup_o _ _ _ _) ?_ hP1) hS1 hL hl (zot (zot hst)) hR
        rw [zel_o E _ hq2, ← zfs_set E q.toNat (mem q.toNat) (zup mem q.toNat sl x q.toNat) (j := sl) (by rw [← hN]; exact hq3) (fun i hi => zup_n _ _ _ _ hi), zup_s, hv]
        rfl
      · exact h.elim
    · exact h.elim
  · exact h.elim
theorem zty (E : zEnv) : (ztys E)[0]? = some (zEc E 100, .int) ∧ (ztys E)[1]? = some (zEc E 101, .byte) ∧ (ztys E)[2]? = some (zEc E 102, .boolean) ∧ (ztys E)[3]? = some (zEc E 103, .long) := ⟨rfl, rfl, rfl, rfl⟩
theorem zs_iaload (hd : decode (zKb (zMk M)) pc = .ok (.iaload, 1)) (hk : ∀ pc ls st mem, k pc ls st mem → zG d M pc ls st mem Q) (h : match st with
    | (0, i) :: (2, a) :: r => (zkd a.toNat = 100 ∧ 0 ≤ i ∧ i < zln a.toNat) ∧ k (pc + 1) ls ((0, mem a.toNat i.toNat) :: r) mem
    | (0, i) :: (4, _) :: r => (0 ≤ i ∧ i < 5) ∧ k (pc + 1) ls ((0, zHV.getD i.toNat 0) :: r) mem
    | (0, i) :: (5, _) :: r => (0 ≤ i ∧ i + 1 < (zMx M).1) ∧ k (pc + 1) ls ((0, (zMx M).2 i.toNat) :: r) mem
    | _ => False) : zG d M pc ls st mem Q := by
  intro p l e R s m args below meth c H locs cells slots Qf E lj C hc hs hH hS hL hl hst hR
  obtain ⟨hx, hb, hml, hown, hts, hfr, hlo, hOn, hscr⟩ := id C
  split at h
  · rename_i i a r
    obtain ⟨⟨hk1, hk2, hk3⟩, h⟩ := h
    have he := zws_at E mem (zkd_lt (k := a.toNat) (by omega))
    rw [zel_i E _ (by omega) (by omega), hk1] at he
    have hi : zI i := zoh hst
    have hg := hk _ _ _ _ h p l e R s m args below meth c _ _ cells slots Qf E _ C hc hs hH hS hL hl (zoc (show zI _ from (hH.1 _ _).2 (by omega)) (zot (zot hst))) hR
    refine va_iald hx hb hOn.1 hH.2 a.toNat 0 he rfl (zin_i hi hk2 hk3) hd ?_
    rw [zcl_i hi]
    exact hg
  · rename_i i a r
    obtain ⟨⟨hk2, hk3⟩, h⟩ := h
    have hi : zI i := zoh hst
    have hz : zI (zHV.getD i.toNat 0) := by
      rcases (show i = 0 ∨ i = 1 ∨ i = 2 ∨ i = 3 ∨ i = 4 by omega) with rfl | rfl | rfl | rfl | rfl <;> (constructor <;> decide +kernel)
    refine va_ti hx hb hOn.2.2.2.2.1 hS (zin_i hi hk2 (by omega)) ?_ hd (hk _ _ _ _ h p l e R s m args below meth c _ _ cells slots Qf E _ C hc hs hH hS hL hl (zoc hz (zot (zot hst))) hR)
    rw [zcl_i hi]
    rfl
  · rename_i i a r
    obtain ⟨⟨hk2, hk3⟩, h⟩ := h
    rcases hscr with e0 | e0
    · rw [e0] at hk3; omega
    rw [e0] at h hk3
    have hi : zI i := zoh hst
    have hg := hk _ _ _ _ h p l e R s m args below meth c _ _ cells slots Qf E _ C hc hs hH hS hL hl (zoc (zI_of _) (zot (zot hst))) hR
    refine va_sld hx hb hOn.2.2.2.2.2.1.1 ?_ hOn.2.2.2.2.2.1.2.2 hS (zin_i hi hk2 (n := zEl E) (by omega)) hd ?_
    · obtain ⟨scr, hscr, -⟩ := hOn.2.2.2.2.2.1.1
      exact (Array.getElem?_eq_some_iff.mp hscr).1
    · rw [zcl_i hi]
      rw [List.map_cons, show zv E (0, (zEx E i.toNat).toInt) = .int (Int32.ofInt (zEx E i.toNat).toInt) from rfl, Int32.ofInt_toInt] at hg
      exact hg
  · exact h.elim
theorem zs_baload (hd : decode (zKb (zMk M)) pc = .ok (.baload, 1)) (hk : ∀ pc ls st mem, k pc ls st mem → zG d M pc ls st mem Q) (h : match st with
    | (0, i) :: (2, a) :: r => ((zkd a.toNat = 101 ∨ zkd a.toNat = 102) ∧ 0 ≤ i ∧ i < zln a.toNat) ∧ k (pc + 1) ls ((0, mem a.toNat i.toNat) :: r) mem
    | _ => False) : zG d M pc ls st mem Q := by
  intro p l e R s m args below meth c H locs cells slots Qf E lj C hc hs hH hS hL hl hst hR
  obtain ⟨hx, hb, hml, hown, hts, hfr, hlo, hOn, hscr⟩ := id C
  split at h
  · rename_i i a r
    obtain ⟨⟨hk1 | hk1, hk2, hk3⟩, h⟩ := h
    · have he := zws_at E mem (zkd_lt (k := a.toNat) (by omega))
      rw [zel_i E _ (by omega) (by omega), hk1] at he
      have hi : zI i := zoh hst
      have hg := hk _ _ _ _ h p l e R s m args below meth c _ _ cells slots Qf E _ C hc hs hH hS hL hl (zoc (show zI _ from (hH.1 _ _).2 (by omega)) (zot (zot hst))) hR
      refine va_bald hx hb hOn.1 hH.2 a.toNat 1 he rfl (zin_i hi hk2 hk3) hd ?_
      rw [zcl_i hi]
      exact hg
    · have he := zws_at E mem (zkd_lt (k := a.toNat) (by omega))
      rw [zel_i E _ (by omega) (by omega), hk1] at he
      have hi : zI i := zoh hst
      have hg := hk _ _ _ _ h p l e R s m args below meth c _ _ cells slots Qf E _ C hc hs hH hS hL hl (zoc (show zI _ from (hH.1 _ _).2 (by omega)) (zot (zot hst))) hR
      refine va_zald hx hb hOn.1 hH.2 a.toNat 2 he rfl (zin_i hi hk2 hk3) hd ?_
      rw [zcl_i hi]
      exact hg
  · exact h.elim
theorem zs_laload (hd : decode (zKb (zMk M)) pc = .ok (.laload, 1)) (hk : ∀ pc ls st mem, k pc ls st mem → zG d M pc ls st mem Q) (h : match st with
    | (0, i) :: (2, a) :: r => (zkd a.toNat = 103 ∧ 0 ≤ i ∧ i < zln a.toNat) ∧ k (pc + 1) ls ((1, mem a.toNat i.toNat) :: r) mem
    | _ => False) : zG d M pc ls st mem Q := by
  intro p l e R s m args below meth c H locs cells slots Qf E lj C hc hs hH hS hL hl hst hR
  obtain ⟨hx, hb, hml, hown, hts, hfr, hlo, hOn, hscr⟩ := id C
  split at h
  · rename_i i a r
    obtain ⟨⟨hk1, hk2, hk3⟩, h⟩ := h
    have he := zws_at E mem (zkd_lt (k := a.toNat) (by omega))
    rw [zel_l E _ hk1] at he
    have hi : zI i := zoh hst
    have hg := hk _ _ _ _ h p l e R s m args below meth c _ _ cells slots Qf E _ C hc hs hH hS hL hl (zoc (show zJ _ from (hH.1 _ _).1 hk1) (zot (zot hst))) hR
    refine va_lald hx hb hOn.1 hH.2 a.toNat 3 he rfl (zin_i hi hk2 hk3) hd ?_
    rw [zcl_i hi]
    exact hg
  · exact h.elim
theorem zs_aaload (hd : decode (zKb (zMk M)) pc = .ok (.aaload, 1)) (hk : ∀ pc ls st mem, k pc ls st mem → zG d M pc ls st mem Q) (h : match st with
    | (0, i) :: (2, a) :: r => (110 ≤ zkd a.toNat ∧ zkd a.toNat ≤ 113 ∧ 0 ≤ i ∧ i < zln a.toNat) ∧ k (pc + 1) ls ((2, Int.ofNat (zrt a.toNat i.toNat)) :: r) mem
    | _ => False) : zG d M pc ls st mem Q := by
  intro p l e R s m args below meth c H locs cells slots Qf E lj C hc hs hH hS hL hl hst hR
  obtain ⟨hx, hb, hml, hown, hts, hfr, hlo, hOn, hscr⟩ := id C
  split at h
  · rename_i i a r
    obtain ⟨⟨hk0, hk1, hk2, hk3⟩, h⟩ := h
    have he := zws_at E mem (zkd_lt (k := a.toNat) (by omega))
    rw [zel_r E _ hk0] at he
    have hi : zI i := zoh hst
    have hin := zin_i hi hk2 hk3
    have hlt : (Int32.ofInt i).toNatClampNeg < zln a.toNat := Nat.not_le.mp fun q => hin (Or.inr q)
    have hg := hk _ _ _ _ h p l e R s m args below meth c _ _ cells slots Qf E _ C hc hs hH hS hL hl (zoc (show zok (2, _) from trivial) (zot (zot hst))) hR
    have key : ∀ (t0 : Nat) (ty : FieldType), (ztys E)[t0]? = some (zEc E (zkd a.toNat), ty) → ty.isReference = true → W p l e R s m args below meth c H locs cells slots Qf (F0 m pc lj ((((0, i) :: (2, a) :: r) : List zV).map (zv E))) := by
      intro t0 ty ht hty
      refine W.aald (v := .ref (zEb E + zrt a.toNat i.toNat)) (ty := ty) (g := F0 m pc lj (.int (Int32.ofInt i) :: .ref (zEb E + a.toNat) :: r.map (zv E))) hx hb (hH.2 _ _ he) ((hOn.1.2 t0 _ ht).1 (zln a.toNat) (fun j => va_rf (some (zEb E + zrt a.toNat j)))) hty (fun q => by cases q) ?_ ?_ rfl rfl hd hg
      · show ¬ (_ ∨ (arrV _ _ _).slots.size ≤ _)
        rw [arrV_size]
        exact hin
      · show (arrV _ _ _).slots[_]? = _
        rw [arrV_read _ _ hlt, zcl_i hi]
        rfl
    rcases (show zkd a.toNat = 110 ∨ zkd a.toNat = 111 ∨ zkd a.toNat = 112 ∨ zkd a.toNat = 113 by omega) with q | q | q | q
    · exact key 4 _ (by rw [q]; rfl) rfl
    · exact key 5 _ (by rw [q]; rfl) rfl
    · exact key 6 _ (by rw [q]; rfl) rfl
    · exact key 7 _ (by rw [q]; rfl) rfl
  · exact h.elim
theorem zupd_i (mem : zMem) (k j : Nat) (x : Int) : upd (fun j => Int32.ofInt (mem k j)) j (Int32.ofInt x) = fun i => Int32.ofInt (zup mem k j x k i) := by
  funext i
  unfold upd
  by_cases h : i = j
  · subst h
    rw [zup_s]
    simp
  · rw [zup_n _ _ _ _ h]
    simp [h]
theorem zupd_l (mem : zMem) (k j : Nat) (x : Int) : vp_updL (fun j => Int64.ofInt (mem k j)) j (Int64.ofInt x) = fun i => Int64.ofInt (zup mem k j x k i) := by
  funext i
  unfold vp_updL
  by_cases h : i = j
  · subst h
    rw [zup_s]
    simp
  · rw [zup_n _ _ _ _ h]
    simp [h]
theorem znar_b {x : Int} (h : -128 ≤ x ∧ x < 128) : vp_nar .byte (Int32.ofInt x) = Int32.ofInt x := by
  rw [vp_nar_byte, ← Int32.toInt_inj, Int8.toInt_toInt32, Int32.toInt_toInt8, zI_to (by unfold zI; omega), Int.bmod_def]
  split <;> omega
theorem znar_z {x : Int} (h : x = 0 ∨ x = 1) : vp_nar .boolean (Int32.ofInt x) = Int32.ofInt x := by
  unfold vp_nar
  rw [(zbool h).1]
theorem zs_iastore (hd : decode (zKb (zMk M)) pc = .ok (.iastore, 1)) (hk : ∀ pc ls st mem, k pc ls st mem → zG d M pc ls st mem Q) (h : match st with
    | (0, x) :: (0, i) :: (2, a) :: r => (zkd a.toNat = 100 ∧ 0 ≤ i ∧ i < zln a.toNat) ∧ ∀ mem' : zMem, mem' = zup mem a.toNat i.toNat x → k (pc + 1) ls r mem'
    | _ => False) : zG d M pc ls st mem Q := by
  intro p l e R s m args below meth c H locs cells slots Qf E lj C hc hs hH hS hL hl hst hR
  obtain ⟨hx, hb, hml, hown, hts, hfr, hlo, hOn, hscr⟩ := id C
  split at h
  · rename_i x i a r
    obtain ⟨⟨hk1, hk2, hk3⟩, h⟩ := h
    have he := zws_at E mem (zkd_lt (k := a.toNat) (by omega))
    rw [zel_i E _ (by omega) (by omega), hk1] at he
    have hi : zI i := zoh (zot hst)
    refine va_iast hx hb hOn.1 hH.2 (zws_D E mem) hS a.toNat 0 he rfl (zin_i hi hk2 hk3) hd (fun H1 locs1 hP1 _ hS1 => ?_)
    have h := h _ rfl
    refine hk _ _ _ _ h p l e R s m args below meth c _ _ cells slots Qf E _ C hc hs (zHp_set (zkd_lt (by omega)) (zup_rg hH.1 (fun q => by omega) (fun _ => zoh hst)) (zup_o _ _ _ _) ?_ hP1) hS1 hL hl (zot (zot (zot hst))) hR
    rw [zel_i E _ (by omega) (by omega), hk1, zcl_i hi, zupd_i]
  · exact h.elim
theorem zs_bastore (hd : decode (zKb (zMk M)) pc = .ok (.bastore, 1)) (hk : ∀ pc ls st mem, k pc ls st mem → zG d M pc ls st mem Q) (h : match st with
    | (0, x) :: (0, i) :: (2, a) :: r => ((zkd a.toNat = 101 ∧ -128 ≤ x ∧ x < 128 ∨ zkd a.toNat = 102 ∧ (x = 0 ∨ x = 1)) ∧ 0 ≤ i ∧ i < zln a.toNat) ∧ ∀ mem' : zMem, mem' = zup mem a.toNat i.toNat x → k (pc + 1) ls r mem'
    | _ => False) : zG d M pc ls st mem Q := by
  intro p l e R s m args below meth c H locs cells slots Qf E lj C hc hs hH hS hL hl hst hR
  obtain ⟨hx, hb, hml, hown, hts, hfr, hlo, hOn, hscr⟩ := id C
  split at h
  · rename_i x i a r
    obtain ⟨⟨⟨hk1, hb8⟩ | ⟨hk1, hb8⟩, hk2, hk3⟩, h⟩ := h
    · have he := zws_at E mem (zkd_lt (k := a.toNat) (by omega))
      rw [zel_i E _ (by omega) (by omega), hk1] at he
      have hi : zI i := zoh (zot hst)
      refine va_bast hx hb hOn.1 hH.2 (zws_D E mem) hS a.toNat 1 he rfl (zin_i hi hk2 hk3) hd (fun H1 locs1 hP1 _ hS1 => ?_)
      have h := h _ rfl
      refine hk _ _ _ _ h p l e R s m args below meth c _ _ cells slots Qf E _ C hc hs (zHp_set (zkd_lt (by omega)) (zup_rg hH.1 (fun q => by omega) (fun _ => zoh hst)) (zup_o _ _ _ _) ?_ hP1) hS1 hL hl (zot (zot (zot hst))) hR
      rw [zel_i E _ (by omega) (by omega), hk1, znar_b hb8, zcl_i hi, zupd_i]
    · have he := zws_at E mem (zkd_lt (k := a.toNat) (by omega))
      rw [zel_i E _ (by omega) (by omega), hk1] at he
      have hi : zI i := zoh (zot hst)
      refine va_zast hx hb hOn.1 hH.2 (zws_D E mem) hS a.toNat 2 he rfl (zin_i hi hk2 hk3) hd (fun H1 locs1 hP1 _ hS1 => ?_)
      have h := h _ rfl
      refine hk _ _ _ _ h p l e R s m args below meth c _ _ cells slots Qf E _ C hc hs (zHp_set (zkd_lt (by omega)) (zup_rg hH.1 (fun q => by omega) (fun _ => zoh hst)) (zup_o _ _ _ _) ?_ hP1) hS1 hL hl (zot (zot (zot hst))) hR
      rw [zel_i E _ (by omega) (by omega), hk1, znar_z hb8, zcl_i hi, zupd_i]
  · exact h.elim
theorem zs_lastore (hd : decode (zKb (zMk M)) pc = .ok (.lastore, 1)) (hk : ∀ pc ls st mem, k pc ls st mem → zG d M pc ls st mem Q) (h : match st with
    | (1, x) :: (0, i) :: (2, a) :: r => (zkd a.toNat = 103 ∧ 0 ≤ i ∧ i < zln a.toNat) ∧ ∀ mem' : zMem, mem' = zup mem a.toNat i.toNat x → k (pc + 1) ls r mem'
    | _ => False) : zG d M pc ls st mem Q := by
  intro p l e R s m args below meth c H locs cells slots Qf E lj C hc hs hH hS hL hl hst hR
  obtain ⟨hx, hb, hml, hown, hts, hfr, hlo, hOn, hscr⟩ := id C
  split at h
  · rename_i x i a r
    obtain ⟨⟨hk1, hk2, hk3⟩, h⟩ := h
    have he := zws_at E mem (zkd_lt (k := a.toNat) (by omega))
    rw [zel_l E _ hk1] at he
    have hi : zI i := zoh (zot hst)
    refine va_last hx hb hOn.1 hH.2 (zws_D E mem) hS a.toNat 3 he rfl (zin_i hi hk2 hk3) hd (fun H1 locs1 hP1 _ hS1 => ?_)
    have h := h _ rfl
    refine hk _ _ _ _ h p l e R s m args below meth c _ _ cells slots Qf E _ C hc hs (zHp_set (zkd_lt (by omega)) (zup_rg hH.1 (fun _ => zoh hst) (fun q => absurd hk1 q)) (zup_o _ _ _ _) ?_ hP1) hS1 hL hl (zot (zot (zot hst))) hR
    rw [zel_l E _ hk1, zcl_i hi, zupd_l]
  · exact h.elim
theorem zofN (n : Nat) : Int32.ofNat n = Int32.ofInt (n : Int) := Int32.ofInt_eq_ofNat.symm
theorem zln_lt : ∀ k, k < zNC → zln k < 2147483648 := by decide +kernel
theorem zs_arraylength (hd : decode (zKb (zMk M)) pc = .ok (.arraylength, 1)) (hk : ∀ pc ls st mem, k pc ls st mem → zG d M pc ls st mem Q) (h : match st with
    | (2, a) :: r => (100 ≤ zkd a.toNat ∧ zkd a.toNat ≤ 103) ∧ k (pc + 1) ls ((0, (zln a.toNat : Int)) :: r) mem
    | (5, _) :: r => (zMx M).1 ≠ 0 ∧ k (pc + 1) ls ((0, ((zMx M).1 : Int) - 1) :: r) mem
    | _ => False) : zG d M pc ls st mem Q := by
  intro p l e R s m args below meth c H locs cells slots Qf E lj C hc hs hH hS hL hl hst hR
  obtain ⟨hx, hb, hml, hown, hts, hfr, hlo, hOn, hscr⟩ := id C
  split at h
  · rename_i a r
    obtain ⟨⟨hk0, hk1⟩, h⟩ := h
    have hlt := zln_lt a.toNat (zkd_lt (by omega))
    have he := zws_at E mem (zkd_lt (k := a.toNat) (by omega))
    have hg := hk _ _ _ _ h p l e R s m args below meth c _ _ cells slots Qf E _ C hc hs hH hS hL hl (zoc (show zI _ by unfold zI; omega) (zot hst)) hR
    have e32 : Int32.ofNat (zln a.toNat) = Int32.ofInt (zln a.toNat : Int) := zofN _
    rcases (show zkd a.toNat = 103 ∨ zkd a.toNat < 103 by omega) with q | q
    · rw [zel_l E _ q] at he
      exact va_alen hx hb hOn.1 hH.2 a.toNat 3 he rfl e32 hd hg
    · rw [zel_i E _ hk0 q] at he
      rcases (show zkd a.toNat = 100 ∨ zkd a.toNat = 101 ∨ zkd a.toNat = 102 by omega) with q | q | q <;> rw [q] at he
      · exact va_alen hx hb hOn.1 hH.2 a.toNat 0 he rfl e32 hd hg
      · exact va_alen hx hb hOn.1 hH.2 a.toNat 1 he rfl e32 hd hg
      · exact va_alen hx hb hOn.1 hH.2 a.toNat 2 he rfl e32 hd hg
  · rename_i a r
    obtain ⟨hk0, h⟩ := h
    rcases hscr with e0 | e0
    · exact absurd e0 hk0
    rw [e0] at h
    have e1 : (((zEl E + 1, fun j => (zEx E j).toInt) : Nat × (Nat → Int)).1 : Int) - 1 = (zEl E : Int) := by show ((zEl E + 1 : Nat) : Int) - 1 = _; omega
    rw [e1] at h
    have hL3 : zEl E ≤ 3072 := hOn.2.2.2.2.2.1.2.1
    have hg := hk _ _ _ _ h p l e R s m args below meth c _ _ cells slots Qf E _ C hc hs hH hS hL hl (zoc (show zI _ by unfold zI; omega) (zot hst)) hR
    refine va_slen hx hb hOn.2.2.2.2.2.1.1 ?_ hOn.2.2.2.2.2.1.2.2 hS hd (by rw [zofN]; exact hg)
    obtain ⟨scr, hscr, -⟩ := hOn.2.2.2.2.2.1.1
    exact (Array.getElem?_eq_some_iff.mp hscr).1
  · exact h.elim
end
end
section
section
variable {d : Nat} {M : zMt} {Q : Int → zMem → Prop} {pc : Nat} {ls st : List zV} {mem : zMem} {k : Nat → List zV → List zV → zMem → Prop}
/-- a constant's row -/
def zNf (own : String) (c : Nat × Nat × Int × Nat) : Prop := match c with
  | (i, 0, v, _) => Cond.constant own i (Int32.ofInt v) ∈ zgood ∧ zI v
  | (i, 1, v, _) => Cond.constantLong own i (Int64.ofInt v) ∈ zgood ∧ zJ v
  | (i, 3, v, _) => own = "OtherDoor$Tape" ∧ v.toNat < 8 ∧ zSi.getD v.toNat 0 = i
  | (i, 4, _, _) => Cond.fieldLink own i "OtherDoor$Rounds" "HAVING" "[I" ∈ zgood
  | _ => False
theorem zs_ldc_w {idx : Nat} (hd : decode (zKb (zMk M)) pc = .ok (.ldc_w idx, 3)) (hN : ∀ c ∈ zMn M, zNf (zMo M) c) (hk : ∀ pc ls st mem, k pc ls st mem → zG d M pc ls st mem Q) (h : match zat (zMn M) idx with
    | some (0, v, _) => k (pc + 3) ls ((0, v) :: st) mem
    | _ => False) : zG d M pc ls st mem Q := by
  intro p l e R s m args below meth c H locs cells slots Qf E lj C hc hs hH hS hL hl hst hR
  obtain ⟨hx, hb, hml, hown, hts, hfr, hlo, hOn, hscr⟩ := id C
  split at h
  · rename_i v pl hat
    obtain ⟨h1, h2⟩ := hN _ (zat_mem hat)
    exact lv_ldcw hx hb hown (hts _ h1) hd (hk _ _ _ _ h p l e R s m args below meth c _ _ cells slots Qf E _ C hc hs hH hS hL hl (zoc h2 hst) hR)
  · exact h.elim
theorem zs_ldc2_w {idx : Nat} (hd : decode (zKb (zMk M)) pc = .ok (.ldc2_w idx, 3)) (hN : ∀ c ∈ zMn M, zNf (zMo M) c) (hk : ∀ pc ls st mem, k pc ls st mem → zG d M pc ls st mem Q) (h : match zat (zMn M) idx with
    | some (1, v, _) => k (pc + 3) ls ((1, v) :: st) mem
    | _ => False) : zG d M pc ls st mem Q := by
  intro p l e R s m args below meth c H locs cells slots Qf E lj C hc hs hH hS hL hl hst hR
  obtain ⟨hx, hb, hml, hown, hts, hfr, hlo, hOn, hscr⟩ := id C
  split at h
  · rename_i v pl hat
    obtain ⟨h1, h2⟩ := hN _ (zat_mem hat)
    exact lv_ldc2 hx hb hown (hts _ h1) hd (hk _ _ _ _ h p l e R s m args below meth c _ _ cells slots Qf E _ C hc hs hH hS hL hl (zoc h2 hst) hR)
  · exact h.elim
theorem zs_ldc {idx : Nat} (hd : decode (zKb (zMk M)) pc = .ok (.ldc idx, 2)) (hN : ∀ c ∈ zMn M, zNf (zMo M) c) (hk : ∀ pc ls st mem, k pc ls st mem → zG d M pc ls st mem Q) (h : match zat (zMn M) idx with
    | some (3, v, _) => k (pc + 2) ls ((3, v) :: st) mem
    | _ => False) : zG d M pc ls st mem Q := by
  intro p l e R s m args below meth c H locs cells slots Qf E lj C hc hs hH hS hL hl hst hR
  obtain ⟨hx, hb, hml, hown, hts, hfr, hlo, hOn, hscr⟩ := id C
  split at h
  · rename_i v pl hat
    obtain ⟨h1, h2, h3⟩ := hN _ (zat_mem hat)
    have hr := hOn.2.2.1 _ h2
    rw [h3, ← h1] at hr
    exact va_ldcS hx hb hown hr hd (hk _ _ _ _ h p l e R s m args below meth c _ _ cells slots Qf E _ C hc hs hH hS hL hl (zoc (show zok (3, _) from trivial) hst) hR)
  · exact h.elim
theorem zs_getstatic {idx : Nat} (hd : decode (zKb (zMk M)) pc = .ok (.getstatic idx, 3)) (hN : ∀ c ∈ zMn M, zNf (zMo M) c) (hk : ∀ pc ls st mem, k pc ls st mem → zG d M pc ls st mem Q) (h : match zat (zMn M) idx with
    | some (4, _, _) => k (pc + 3) ls ((4, 0) :: st) mem
    | _ => False) : zG d M pc ls st mem Q := by
  intro p l e R s m args below meth c H locs cells slots Qf E lj C hc hs hH hS hL hl hst hR
  obtain ⟨hx, hb, hml, hown, hts, hfr, hlo, hOn, hscr⟩ := id C
  split at h
  · rename_i v pl hat
    have h1 := hN _ (zat_mem hat)
    exact va_gets hx hb hOn.2.2.2.1 hS hown (hts _ h1) (fun _ h => h) hd (hk _ _ _ _ h p l e R s m args below meth c _ _ cells slots Qf E _ C hc hs hH hS hL hl (zoc (show zok (4, _) from trivial) hst) hR)
  · exact h.elim
theorem zXt.kept {E : zEnv} {U : State} {H H1 : Heap} (h : zXt E U H) (hq : ∀ a : Nat, a < H.size → ¬ zA E a → H1[a]? = H[a]?) : zXt E U H1 := by
  obtain ⟨h1, h2, h3, h4, ⟨h5, h6, h7⟩, h8, h9⟩ := h
  refine ⟨h1.kept hq, h2, h3.kept hq, h4.kept hq, ⟨h5.kept ?_, h6, h7⟩, h8.kept hq, h9.kept hq⟩
  obtain ⟨scr, hs, -⟩ := h5
  exact hq _ (Array.getElem?_eq_some_iff.mp hs).1 h7
theorem zXt.warm {E : zEnv} {s U : State} {H : Heap} (hW : s.WarmedH U.vm) (h : zXt E s H) : zXt E U H := by
  obtain ⟨h1, h2, h3, h4, ⟨h5, h6, h7⟩, h8, h9⟩ := h
  exact ⟨h1.moved hW.alike, fun i hi => (h2 i hi).warm hW, h3.moved hW.alike, h4.moved hW.alike, ⟨h5.moved hW.alike, h6, h7⟩, h8.moved hW.alike, h9.moved hW.alike⟩
theorem zXt.same {E : zEnv} {s U : State} {H : Heap} (hv : U.vm = s.vm) (h : zXt E s H) : zXt E U H := by
  obtain ⟨h1, h2, h3, h4, ⟨h5, h6, h7⟩, h8, h9⟩ := h
  have ha : s.vm.Alike U.vm := by rw [hv]; exact Vm.Alike.refl _
  exact ⟨h1.moved ha, fun i hi => (h2 i hi).same hv, h3.moved ha, h4.moved ha, ⟨h5.moved ha, h6, h7⟩, h8.moved ha, h9.moved ha⟩
theorem zPc_blind (E : zEnv) (av : List zV) (mem : zMem) : FrameBlind (zPc E av mem) := by
  intro a U g mk h
  obtain ⟨h1, h2, ⟨h3, h4⟩, h5⟩ := h
  exact ⟨h1, h2, ⟨va_K.moved (u := U) (U := U.calling g mk a) (Vm.Alike.refl U.vm) h3, zXt.same (s := U) (U := U.calling g mk a) rfl h4⟩, h5⟩
theorem zPc_at {E : zEnv} {av : List zV} {mem : zMem} {s U : State} {H : Heap} {locs : List Loc} (hav : ∀ x ∈ av, zok x) (hOn : zOn E s) (hH : zHp E mem H) (hS : va_S (zA E) s.heap H locs) (hU : U.heap = H) (hW : s.WarmedH U.vm) : zPc E av mem (av.map (zv E)).toArray U :=
  ⟨rfl, hav, ⟨va_K.moved hW.alike hOn.1, by rw [hU]; exact (hOn.2.kept hS.2.1).warm hW⟩, by rw [hU]; exact hH⟩
theorem zcall {p : Program} {l : Launch} {e : Env} {R : Room} {s : State} {m : MethodId} {args : Array Value} {below : List Frame} {meth : Method} {c : Code} {H : Heap} {locs : List Loc} {cells slots : Nat} {Qf : State → Prop} {E : zEnv} {r : Option FieldType} {Q' : Int → zMem → Prop} {a : Array Value} {lj : Array Slot} {stJ rest : List Value}
    (hr : va_Run p l e R s m args below meth c H locs cells slots 0 0 (F0 m pc lj stJ) rest (zQc E r Q' a) (zA E)) (hS : va_S (zA E) s.heap H locs)
    (kk : ∀ (x : Int) (mem' : zMem) (H1 : Heap) (locs1 : List Loc), zok (zrtag r, x) → Q' x mem' → zHp E mem' H1 → va_S (zA E) s.heap H1 locs1 → W p l e R s m args below meth c H1 locs1 cells slots Qf (F0 m (pc + 3) lj ((zret E r x).toList ++ rest))) : W p l e R s m args below meth c H locs cells slots Qf (F0 m pc lj stJ) := by
  intro T hT X
  obtain ⟨v, st₀, t, T', L, h0, X', hL, e1, e2, ⟨⟨x, mem', hv, hok, hq, hh⟩, hz, hk⟩, st⟩ := hr T hT X
  cases hv
  rw [h0] at hz hk
  obtain ⟨t2, a1, b1⟩ := kk x mem' T'.heap (locs ++ L) hok hq (by rw [e1]; exact hh)
    ⟨Nat.le_trans hS.1 (by rw [e1]; exact hz), fun q h1 h2 => by rw [e1, hk q (Nat.lt_of_lt_of_le h1 hS.1) h2]; exact hS.2.1 q h1 h2, fun q hq => by
      rcases List.mem_append.mp hq with h | h
      · exact hS.2.2 q h
      · exact hL q h⟩ T' rfl X'
  exact ⟨t2, st t2 a1, b1⟩
theorem ztk_spec : ∀ {n : Nat} {st acc av r : List zV}, ztk n st acc = some (av, r) → ∃ u, u.length = n ∧ st = u ++ r ∧ av = u.reverse ++ acc
  | 0, st, acc, av, r, h => by
    unfold ztk at h
    cases h
    exact ⟨[], rfl, rfl, rfl⟩
  | n + 1, [], acc, av, r, h => by unfold ztk at h; cases h
  | n + 1, v :: st, acc, av, r, h => by
    unfold ztk at h
    obtain ⟨u, h1, h2, h3⟩ := ztk_spec h
    exact ⟨v :: u, by simp [h1], by rw [h2]; rfl, by rw [h3]; simp⟩
theorem zrm_spec {r : List zV} {P : Prop} (h : zrm r P) : zsm r ≤ 8 ∧ P := by
  unfold zrm at h
  split at h
  · rename_i hb
    exact ⟨Nat.le_of_ble_eq_true hb, h⟩
  · exact h.elim
theorem zsm_eq (E : zEnv) : ∀ r : List zV, ((r.map (zv E)).map fun v => v.category).sum = zsm r
  | [] => rfl
  | v :: r => by
    obtain ⟨t, x⟩ := v
    rw [List.map_cons, List.map_cons, List.sum_cons, zsm_eq E r, zv_cat]
    rfl
theorem zpsh_eq (E : zEnv) (r : Option FieldType) (x : Int) (rest : List zV) : (zpsh (zrtag r) x rest).map (zv E) = (zret E r x).toList ++ rest.map (zv E) := by
  cases r with
  | none => rfl
  | some t => cases t <;> rfl
theorem zpsh_ok {r : Option FieldType} {x : Int} {rest : List zV} (h : zok (zrtag r, x)) (hr : ∀ v ∈ rest, zok v) : ∀ v ∈ zpsh (zrtag r) x rest, zok v := by
  cases r with
  | none => exact hr
  | some t => cases t <;> exact zoc h hr
/-- a call's row: kind, words -/
def zMf1 (own : String) (c : Nat × zKey × Nat × Nat × List Nat) : Prop :=
  (c.2.2.1 ≠ 101 → (Cond.code (zKy c.2.1) (zKb c.2.1) (zKl c.2.1) (zKr c.2.1) ∈ zgood ∧ Cond.methodLink own c.1 (zKy c.2.1) ∈ zgood ∧ Cond.initialized (zKy c.2.1).cls ∈ zgood ∧ (zKy c.2.1).cls ≠ "java/lang/invoke/MethodHandle" ∧ (zKy c.2.1).cls ≠ "java/lang/invoke/VarHandle" ∧ (parseMethodDescriptor (zKy c.2.1).desc).map (fun d => d.parameters.length) = some c.2.2.2.1 ∧ zKl c.2.1 ≤ 81)) ∧
  (c.2.2.1 < 100 → (∃ q, vwCl[c.2.2.1]? = some q ∧ q.1 = (zKy c.2.1).cls) ∧ Cond.instanceMethod (zKy c.2.1) ∈ zgood ∧ Cond.selects (zKy c.2.1).cls (zKy c.2.1) (zKy c.2.1) ∈ zgood) ∧
  (c.2.2.1 = 102 → (zKy c.2.1).cls = "java/lang/String" ∧ Cond.instanceMethod (zKy c.2.1) ∈ zgood ∧ Cond.selects (zKy c.2.1).cls (zKy c.2.1) (zKy c.2.1) ∈ zgood) ∧
  (c.2.2.1 = 100 → Cond.static (zKy c.2.1) ∈ zgood) ∧
  (c.2.2.1 = 101 → Cond.methodLink own c.1 arraycopyName ∈ zgood ∧ Cond.native arraycopyName ∈ zgood ∧ Cond.static arraycopyName ∈ zgood ∧ Cond.initialized "java/lang/System" ∈ zgood)
theorem zgoodW {own : String} {idx : Nat} {K : zKey} (h1 : Cond.code (zKy K) (zKb K) (zKl K) (zKr K) ∈ zgood) (h2 : Cond.methodLink own idx (zKy K) ∈ zgood) (h3 : Cond.instanceMethod (zKy K) ∈ zgood) (h4 : Cond.selects (zKy K).cls (zKy K) (zKy K) ∈ zgood) (h5 : Cond.initialized (zKy K).cls ∈ zgood) : GoodIn zgood (wsV own idx (zKy K).cls (zKy K) (zW K)) := by
  intro w hw
  have : w ∈ zgood := by
    unfold wsV zW at hw
    simp only [List.mem_append, List.mem_cons, List.not_mem_nil, or_false] at hw
    rcases hw with (rfl | rfl | rfl | rfl) | rfl | hw <;> assumption
  exact ⟨this, zgood_in this⟩
theorem zgoodS {own : String} {idx : Nat} {K : zKey} (h1 : Cond.code (zKy K) (zKb K) (zKl K) (zKr K) ∈ zgood) (h2 : Cond.methodLink own idx (zKy K) ∈ zgood) (h3 : Cond.static (zKy K) ∈ zgood) (h5 : Cond.initialized (zKy K).cls ∈ zgood) : GoodIn zgood (va_wsS own idx (zKy K) (zW K)) := by
  intro w hw
  have : w ∈ zgood := by
    unfold va_wsS zW at hw
    simp only [List.mem_append, List.mem_cons, List.not_mem_nil, or_false] at hw
    rcases hw with (rfl | rfl | rfl) | rfl | hw <;> assumption
  exact ⟨this, zgood_in this⟩
theorem zroom {R : Room} {e ml : Nat} (h1 : e + 1 ≤ R.frames) (h2 : 100 * (e + 1) ≤ R.locals) (h3 : ml ≤ 81) : (zRm e).frames + 1 ≤ R.frames ∧ 8 + (ml + 11) + (zRm e).locals ≤ R.locals := by
  refine ⟨h1, ?_⟩
  show 8 + (ml + 11) + 100 * e ≤ R.locals
  omega
theorem zs_invokevirtual {idx : Nat} (hd : decode (zKb (zMk M)) pc = .ok (.invokevirtual idx, 3)) (hF : ∀ c ∈ zMm M, zMf1 (zMo M) c) (hk : ∀ pc ls st mem, k pc ls st mem → zG d M pc ls st mem Q) (h : match zat (zMm M) idx with
    | some (K, kd, n, _) => match ztk (n + 1) st [] with
      | some ((2, h) :: as, r) => match Nat.blt kd 100 with
        | true => zkd h.toNat = kd ∧ zrm r (zCk d K ((2, h) :: as) mem (fun x mem' => k (pc + 3) ls (zpsh (zrtag (zKr K)) x r) mem'))
        | false => False
      | some ((3, h) :: as, r) => (kd = 102 ∧ 0 ≤ h ∧ h < 8) ∧ zrm r (zCk d K ((3, h) :: as) mem (fun x mem' => k (pc + 3) ls (zpsh (zrtag (zKr K)) x r) mem'))
      | _ => False
    | none => False) : zG d M pc ls st mem Q := by
  intro p l e R s m args below meth c H locs cells slots Qf E lj C hc hs hH hS hL hl hst hR
  obtain ⟨hx, hb, hml, hown, hts, hfr, hlo, hOn, hscr⟩ := id C
  split at h
  · rename_i K kd n pl hat
    obtain ⟨hA, hV, hT, -, -⟩ := hF _ (zat_mem hat)
    dsimp only at hA hV hT
    split at h
    · rename_i q as r htk
      split at h
      rotate_left
      · exact h.elim
      rename_i hbl
      have hk0 : kd < 100 := Nat.le_of_ble_eq_true hbl
      obtain ⟨hkd, h⟩ := h
      replace hA := hA (by omega)
      obtain ⟨⟨⟨C1, T1, N1⟩, hV0, hV1⟩, hV2, hV3⟩ := hV hk0
      have hrecv : ∃ cellB : Cell, H[zEb E + q.toNat]? = some cellB ∧ cellB.vm.isStatics = false ∧ s.vm.findClass (zKy K).cls = some cellB.cls := by
        have he := zws_at E mem (zkd_lt (k := q.toNat) (by omega))
        rw [zel_o E _ (by omega)] at he
        have hcl : vwCl[zkd q.toNat]? = some (C1, T1, N1) := by rw [hkd]; exact hV0
        obtain ⟨cell, g1, g2, g3⟩ := va_recv hOn.1 hH.2 (ci := zkd q.toNat) (q0 := q.toNat) hcl he
        exact ⟨cell, g1, g2, by rw [← hV1]; exact g3⟩
      obtain ⟨hsm, h⟩ := zrm_spec h
      match d, h, hfr, hlo, hk, C with
      | 0, h, _, _, _, _ => exact h.elim
      | e0 + 1, h, hfr, hlo, hk, C =>
        have hM := h l E e0 (Nat.le_refl _)
        obtain ⟨u, hu1, hu2, hu3⟩ := ztk_spec htk
        rw [List.append_nil] at hu3
        have hu4 : u = as.reverse ++ [(2, q)] := by rw [← List.reverse_reverse (as := u), ← hu3]; simp
        have hlen : as.length = n := by
          rw [hu4] at hu1
          simpa using hu1
        have hav : ∀ v ∈ (((2, q) :: as) : List zV), zok v := fun v hv => hst v (by rw [hu2, hu4]; simp only [List.mem_append, List.mem_reverse, List.mem_cons, List.not_mem_nil, or_false] at hv ⊢; rcases hv with rfl | hv <;> simp [*])
        have hor : ∀ v ∈ r, zok v := fun v hv => hst v (by rw [hu2]; exact List.mem_append_right _ hv)
        refine zcall (va_runV (C := (zKy K).cls) (As := as.map (zv E)) (rest := r.map (zv E)) ⟨hx, hb, hml, hown, hts⟩ hM (cwV n hts (zgoodW hA.1 hA.2.1 hV2 hV3 hA.2.2.1) rfl rfl rfl ⟨rfl, hA.2.2.2.1, hA.2.2.2.2.1, hA.2.2.2.2.2.1⟩ (zroom hfr hlo hA.2.2.2.2.2.2)) ⟨zPc_blind _ _ _, hrecv, fun U hU hW => zPc_at hav hOn hH hS hU hW⟩ rfl (by rw [List.length_map]; exact hlen) hL.1 ?_ (lv_room (by rw [zsm_eq]; exact hsm)) hd ⟨hc, hs⟩) hS (fun x mem' H1 locs1 hok hq hH1 hS1 => ?_)
        · show (st.map (zv E)) = _
          rw [hu2, hu4]
          simp [zv]
        · have hg := hk _ _ _ _ hq p l e R s m args below meth c _ _ cells slots Qf E _ C hc hs hH1 hS1 hL hl (zpsh_ok hok hor) hR
          rw [zpsh_eq] at hg
          exact hg
    · rename_i q as r htk
      obtain ⟨⟨hk0, hq0, hq8⟩, h⟩ := h
      replace hA := hA (by omega)
      obtain ⟨hV1, hV2, hV3⟩ := hT hk0
      have hrecv : ∃ cellB : Cell, H[zEk E q.toNat]? = some cellB ∧ cellB.vm.isStatics = false ∧ s.vm.findClass (zKy K).cls = some cellB.cls := by
        rw [hV1]
        exact vk_recv hOn.2.1 (by omega) hS
      obtain ⟨hsm, h⟩ := zrm_spec h
      match d, h, hfr, hlo, hk, C with
      | 0, h, _, _, _, _ => exact h.elim
      | e0 + 1, h, hfr, hlo, hk, C =>
        have hM := h l E e0 (Nat.le_refl _)
        obtain ⟨u, hu1, hu2, hu3⟩ := ztk_spec htk
        rw [List.append_nil] at hu3
        have hu4 : u = as.reverse ++ [(3, q)] := by rw [← List.reverse_reverse (as := u), ← hu3]; simp
        have hlen : as.length = n := by
          rw [hu4] at hu1
          simpa using hu1
        have hav : ∀ v ∈ (((3, q) :: as) : List zV), zok v := fun v hv => hst v (by rw [hu2, hu4]; simp only [List.mem_append, List.mem_reverse, List.mem_cons, List.not_mem_nil, or_false] at hv ⊢; rcases hv with rfl | hv <;> simp [*])
        have hor : ∀ v ∈ r, zok v := fun v hv => hst v (by rw [hu2]; exact List.mem_append_right _ hv)
        refine zcall (va_runV (C := (zKy K).cls) (As := as.map (zv E)) (rest := r.map (zv E)) ⟨hx, hb, hml, hown, hts⟩ hM (cwV n hts (zgoodW hA.1 hA.2.1 hV2 hV3 hA.2.2.1) rfl rfl rfl ⟨rfl, hA.2.2.2.1, hA.2.2.2.2.1, hA.2.2.2.2.2.1⟩ (zroom hfr hlo hA.2.2.2.2.2.2)) ⟨zPc_blind _ _ _, hrecv, fun U hU hW => zPc_at hav hOn hH hS hU hW⟩ rfl (by rw [List.length_map]; exact hlen) hL.1 ?_ (lv_room (by rw [zsm_eq]; exact hsm)) hd ⟨hc, hs⟩) hS (fun x mem' H1 locs1 hok hq hH1 hS1 => ?_)
        · show (st.map (zv E)) = _
          rw [hu2, hu4]
          simp [zv]
        · have hg := hk _ _ _ _ hq p l e R s m args below meth c _ _ cells slots Qf E _ C hc hs hH1 hS1 hL hl (zpsh_ok hok hor) hR
          rw [zpsh_eq] at hg
          exact hg
    · exact h.elim
  · exact h.elim
theorem zs_invokestatic {idx : Nat} (hd : decode (zKb (zMk M)) pc = .ok (.invokestatic idx, 3)) (hF : ∀ c ∈ zMm M, zMf1 (zMo M) c) (hk : ∀ pc ls st mem, k pc ls st mem → zG d M pc ls st mem Q) (h : match zat (zMm M) idx with
    | some (K, 100, n, _) => match ztk n st [] with
      | some (as, r) => zrm r (zCk d K as mem (fun x mem' => k (pc + 3) ls (zpsh (zrtag (zKr K)) x r) mem'))
      | none => False
    | some (_, 101, _, _) => match st with
      | (0, n) :: (0, dp) :: (2, t) :: (0, sp) :: (2, a) :: r => (zkd a.toNat = 100 ∧ zkd t.toNat = 100 ∧ 0 ≤ sp ∧ 0 ≤ dp ∧ 0 ≤ n ∧ sp + n ≤ zln a.toNat ∧ dp + n ≤ zln t.toNat) ∧ zrm r (d ≠ 0 ∧ ∀ mem' : zMem, mem' = zcp mem a.toNat sp.toNat t.toNat dp.toNat n.toNat → k (pc + 3) ls r mem')
      | _ => False
    | _ => False) : zG d M pc ls st mem Q := by
  intro p l e R s m args below meth c H locs cells slots Qf E lj C hc hs hH hS hL hl hst hR
  obtain ⟨hx, hb, hml, hown, hts, hfr, hlo, hOn, hscr⟩ := id C
  split at h
  · rename_i K n pl hat
    obtain ⟨hA, -, -, hT, -⟩ := hF _ (zat_mem hat)
    dsimp only at hA hT
    replace hA := hA (by decide)
    replace hT := hT rfl
    split at h
    · rename_i as r htk
      obtain ⟨hsm, h⟩ := zrm_spec h
      match d, h, hfr, hlo, hk, C with
      | 0, h, _, _, _, _ => exact h.elim
      | e0 + 1, h, hfr, hlo, hk, C =>
        have hM := h l E e0 (Nat.le_refl _)
        obtain ⟨u, hu1, hu2, hu3⟩ := ztk_spec htk
        rw [List.append_nil] at hu3
        have hu4 : u = as.reverse := by rw [← List.reverse_reverse (as := u), ← hu3]
        have hlen : as.length = n := by
          rw [hu4] at hu1
          simpa using hu1
        have hav : ∀ v ∈ as, zok v := fun v hv => hst v (by rw [hu2, hu4]; exact List.mem_append_left _ (List.mem_reverse.mpr hv))
        have hor : ∀ v ∈ r, zok v := fun v hv => hst v (by rw [hu2]; exact List.mem_append_right _ hv)
        refine zcall (va_runS (As := as.map (zv E)) (rest := r.map (zv E)) ⟨hx, hb, hml, hown, hts⟩ hM (va_cwS n hts (zgoodS hA.1 hA.2.1 hT hA.2.2.1) rfl rfl rfl ⟨hA.2.2.2.1, hA.2.2.2.2.1, hA.2.2.2.2.2.1⟩ (zroom hfr hlo hA.2.2.2.2.2.2)) ⟨zPc_blind _ _ _, fun U hU hW => zPc_at hav hOn hH hS hU hW⟩ rfl (by rw [List.length_map]; exact hlen) hL.1 ?_ (lv_room (by rw [zsm_eq]; exact hsm)) hd ⟨hc, hs⟩) hS (fun x mem' H1 locs1 hok hq hH1 hS1 => ?_)
        · show (st.map (zv E)) = _
          rw [hu2, hu4]
          simp
        · have hg := hk _ _ _ _ hq p l e R s m args below meth c _ _ cells slots Qf E _ C hc hs hH1 hS1 hL hl (zpsh_ok hok hor) hR
          rw [zpsh_eq] at hg
          exact hg
    · exact h.elim
  · rename_i K n pl hat
    obtain ⟨-, -, -, -, hT⟩ := hF _ (zat_mem hat)
    dsimp only at hT
    obtain ⟨hT1, hT2, hT3, hT4⟩ := hT rfl
    split at h
    · rename_i n dp t sp a r
      obtain ⟨⟨hk1, hk2, hk3, hk4, hk5, hk6, hk7⟩, h⟩ := h
      obtain ⟨hsm, hd0, h⟩ := zrm_spec h
      have hn : zI n := zoh hst
      have hdp : zI dp := zoh (zot hst)
      have hsp : zI sp := zoh (zot (zot (zot hst)))
      have ha := zws_at E mem (zkd_lt (k := a.toNat) (by omega))
      rw [zel_i E _ (by omega) (by omega), hk1] at ha
      have ht := zws_at E mem (zkd_lt (k := t.toNat) (by omega))
      rw [zel_i E _ (by omega) (by omega), hk2] at ht
      have neg : ∀ {x : Int}, zI x → 0 ≤ x → ¬ Int32.ofInt x < 0 := fun hx h0 => by rw [z0_i, zlt_i hx (by unfold zI; omega)]; omega
      refine va_copyi hx hb (hml.trans hL.1.symm) hown (hts _ hT1) (hts _ hT2) (hts _ hT3) (hts _ hT4) hOn.1 hH.2 (zws_D E mem) hS a.toNat t.toNat 0 0 ha ht rfl rfl rfl (neg hsp hk3) (neg hdp hk4) (neg hn hk5) (by rw [zcl_i hsp, zcl_i hn]; omega) (by rw [zcl_i hdp, zcl_i hn]; omega) (fun _ _ => rfl) (by omega) ?_ hd (fun H1 locs1 hP1 _ hS1 => ?_)
      · rw [zsm_eq]
        show zsm r + (5 + 2 + 11) ≤ _
        omega
      · have h := h _ rfl
        refine hk _ _ _ _ h p l e R s m args below meth c _ _ cells slots Qf E _ C hc hs (zHp_set (zkd_lt (by omega)) (zcp_rg hH.1 (by omega)) (zcp_o _ _ _ _ _ _) ?_ hP1) hS1 hL hl (zot (zot (zot (zot (zot hst))))) hR
        rw [zel_i E _ (by omega) (by omega), hk2, zcl_i hsp, zcl_i hdp, zcl_i hn]
        congr 4
        funext i
        unfold va_cpy zcp
        by_cases hq : dp.toNat ≤ i ∧ i < dp.toNat + n.toNat
        · rw [if_pos hq, if_pos ⟨rfl, hq⟩]
        · rw [if_neg hq, if_neg (fun z => hq z.2)]
    · exact h.elim
  · exact h.elim
theorem zs_ireturn (hd : decode (zKb (zMk M)) pc = .ok (.ireturn, 1)) (h : match st with
    | [(0, x)] => match zKr (zMk M) with
      | some .int => Q x mem
      | some .boolean => (x = 0 ∨ x = 1) ∧ Q x mem
      | _ => False
    | _ => False) : zG d M pc ls st mem Q := by
  intro p l e R s m args below meth c H locs cells slots Qf E lj C hc hs hH hS hL hl hst hR
  obtain ⟨hx, hb, hml, hown, hts, hfr, hlo, hOn, hscr⟩ := id C
  split at h
  · rename_i x
    split at h
    · rename_i hr
      have g := hR x mem H locs pc lj .ireturn h (by rw [hr]; exact zoh hst) (fun q => by rw [hr] at q; cases q) hH hS hd (Or.inr (Or.inr ⟨Or.inl hr, rfl⟩))
      rw [hr] at g
      exact g
    · rename_i hr
      have g := hR x mem H locs pc lj .ireturn h.2 (by rw [hr]; exact zoh hst) (fun q => h.1) hH hS hd (Or.inr (Or.inr ⟨Or.inr hr, rfl⟩))
      rw [hr] at g
      exact g
    · exact h.elim
  · exact h.elim
theorem zs_lreturn (hd : decode (zKb (zMk M)) pc = .ok (.lreturn, 1)) (h : match st with
    | [(1, x)] => match zKr (zMk M) with
      | some .long => Q x mem
      | _ => False
    | _ => False) : zG d M pc ls st mem Q := by
  intro p l e R s m args below meth c H locs cells slots Qf E lj C hc hs hH hS hL hl hst hR
  obtain ⟨hx, hb, hml, hown, hts, hfr, hlo, hOn, hscr⟩ := id C
  split at h
  · rename_i x
    split at h
    · rename_i hr
      have g := hR x mem H locs pc lj .lreturn h (by rw [hr]; exact zoh hst) (fun q => by rw [hr] at q; cases q) hH hS hd (Or.inr (Or.inl ⟨hr, rfl⟩))
      rw [hr] at g
      exact g
    · exact h.elim
  · exact h.elim
theorem zs_return (hd : decode (zKb (zMk M)) pc = .ok (.return_, 1)) (h : match st with
    | [] => match zKr (zMk M) with
      | none => Q 0 mem
      | _ => False
    | _ => False) : zG d M pc ls st mem Q := by
  intro p l e R s m args below meth c H locs cells slots Qf E lj C hc hs hH hS hL hl hst hR
  obtain ⟨hx, hb, hml, hown, hts, hfr, hlo, hOn, hscr⟩ := id C
  split at h
  · split at h
    · rename_i hr
      have g := hR 0 mem H locs pc lj .return_ h (by rw [hr]; trivial) (fun q => by rw [hr] at q; cases q) hH hS hd (Or.inl ⟨hr, rfl⟩)
      rw [hr] at g
      exact g
    · exact h.elim
  · exact h.elim
end
end
section
section
variable {d : Nat} {M : zMt} {Q : Int → zMem → Prop} {pc : Nat} {ls st : List zV} {mem : zMem}
/-- what must hold of an instruction's numbers and length -/
def zlq (pc : Nat) (i : Instr) (len : Nat) : Bool := match i with
  | .iconst n => Nat.beq len 1 && decide (-2147483648 ≤ n) && decide (n < 2147483648)
  | .bipush n => Nat.beq len 2 && decide (-128 ≤ n) && decide (n < 128)
  | .sipush n => Nat.beq len 3 && decide (-32768 ≤ n) && decide (n < 32768)
  | .goto o => Nat.beq len 3 && decide (0 ≤ (pc : Int) + o)
  | .ifCond _ o => Nat.beq len 3 && decide (0 ≤ (pc : Int) + o)
  | .if_icmp _ o => Nat.beq len 3 && decide (0 ≤ (pc : Int) + o)
  | .tableswitch df lo hi os => decide (0 ≤ (pc : Int) + df) && os.toList.all (fun o => decide (0 ≤ (pc : Int) + o)) && decide ((os.size : Int) = hi - lo + 1)
  | .iload _ | .lload _ | .aload _ | .istore _ | .astore _ | .lstore _ | .ldc _ => Nat.beq len 2
  | .iinc _ _ | .getfield _ | .putfield _ | .ldc_w _ | .ldc2_w _ | .getstatic _ | .invokevirtual _ | .invokestatic _ => Nat.beq len 3
  | _ => Nat.beq len 1
/-- a method's tables are right -/
def zOK (M : zMt) : Prop := (∀ c ∈ zMc M, decode (zKb (zMk M)) c.1 = .ok (c.2.1, c.2.2) ∧ zlq c.1 c.2.1 c.2.2 = true) ∧ (∀ f ∈ zMf M, zFf (zMo M) f) ∧ (∀ c ∈ zMm M, zMf1 (zMo M) c) ∧ (∀ c ∈ zMn M, zNf (zMo M) c) ∧ (zKy (zMk M)).cls = zMo M
theorem zone_ok (hM : zOK M) {i : Instr} {len : Nat} (hat : zat (zMc M) pc = some (i, len)) {k : Nat → List zV → List zV → zMem → Prop} (hk : ∀ pc ls st mem, k pc ls st mem → zG d M pc ls st mem Q) (h : zone d M Q i pc ls st mem k) : zG d M pc ls st mem Q := by
  obtain ⟨hd, hq⟩ := hM.1 _ (zat_mem hat)
  dsimp only at hd hq
  cases i
  case lconst =>
    have e := Nat.eq_of_beq_eq_true hq
    subst e
    exact zs_lconst hd hk h
  case iload_n =>
    have e := Nat.eq_of_beq_eq_true hq
    subst e
    exact zs_iload_n hd hk h
  case iload =>
    have e := Nat.eq_of_beq_eq_true hq
    subst e
    exact zs_iload hd hk h
  case lload_n =>
    have e := Nat.eq_of_beq_eq_true hq
    subst e
    exact zs_lload_n hd hk h
  case lload =>
    have e := Nat.eq_of_beq_eq_true hq
    subst e
    exact zs_lload hd hk h
  case aload_n =>
    have e := Nat.eq_of_beq_eq_true hq
    subst e
    exact zs_aload_n hd hk h
  case aload =>
    have e := Nat.eq_of_beq_eq_true hq
    subst e
    exact zs_aload hd hk h
  case istore_n =>
    have e := Nat.eq_of_beq_eq_true hq
    subst e
    exact zs_istore_n hd hk h
  case istore =>
    have e := Nat.eq_of_beq_eq_true hq
    subst e
    exact zs_istore hd hk h
  case astore_n =>
    have e := Nat.eq_of_beq_eq_true hq
    subst e
    exact zs_astore_n hd hk h
  case astore =>
    have e := Nat.eq_of_beq_eq_true hq
    subst e
    exact zs_astore hd hk h
  case lstore_n =>
    have e := Nat.eq_of_beq_eq_true hq
    subst e
    exact zs_lstore_n hd hk h
  case lstore =>
    have e := Nat.eq_of_beq_eq_true hq
    subst e
    exact zs_lstore hd hk h
  case iinc =>
    have e := Nat.eq_of_beq_eq_true hq
    subst e
    exact zs_iinc hd hk h
  case iadd =>
    have e := Nat.eq_of_beq_eq_true hq
    subst e
    exact zs_iadd hd hk h
  case isub =>
    have e := Nat.eq_of_beq_eq_true hq
    subst e
    exact zs_isub hd hk h
  case imul =>
    have e := Nat.eq_of_beq_eq_true hq
    subst e
    exact zs_imul hd hk h
  case iand =>
    have e := Nat.eq_of_beq_eq_true hq
    subst e
    exact zs_iand hd hk h
  case ior =>
    have e := Nat.eq_of_beq_eq_true hq
    subst e
    exact zs_ior hd hk h
  case ixor =>
    have e := Nat.eq_of_beq_eq_true hq
    subst e
    exact zs_ixor hd hk h
  case ishl =>
    have e := Nat.eq_of_beq_eq_true hq
    subst e
    exact zs_ishl hd hk h
  case ishr =>
    have e := Nat.eq_of_beq_eq_true hq
    subst e
    exact zs_ishr hd hk h
  case iushr =>
    have e := Nat.eq_of_beq_eq_true hq
    subst e
    exact zs_iushr hd hk h
  case idiv =>
    have e := Nat.eq_of_beq_eq_true hq
    subst e
    exact zs_idiv hd hk h
  case irem =>
    have e := Nat.eq_of_beq_eq_true hq
    subst e
    exact zs_irem hd hk h
  case ineg =>
    have e := Nat.eq_of_beq_eq_true hq
    subst e
    exact zs_ineg hd hk h
  case i2b =>
    have e := Nat.eq_of_beq_eq_true hq
    subst e
    exact zs_i2b hd hk h
  case i2s =>
    have e := Nat.eq_of_beq_eq_true hq
    subst e
    exact zs_i2s hd hk h
  case i2c =>
    have e := Nat.eq_of_beq_eq_true hq
    subst e
    exact zs_i2c hd hk h
  case i2l =>
    have e := Nat.eq_of_beq_eq_true hq
    subst e
    exact zs_i2l hd hk h
  case l2i =>
    have e := Nat.eq_of_beq_eq_true hq
    subst e
    exact zs_l2i hd hk h
  case ladd =>
    have e := Nat.eq_of_beq_eq_true hq
    subst e
    exact zs_ladd hd hk h
  case lmul =>
    have e := Nat.eq_of_beq_eq_true hq
    subst e
    exact zs_lmul hd hk h
  case land =>
    have e := Nat.eq_of_beq_eq_true hq
    subst e
    exact zs_land hd hk h
  case lor =>
    have e := Nat.eq_of_beq_eq_true hq
    subst e
    exact zs_lor hd hk h
  case lshl =>
    have e := Nat.eq_of_beq_eq_true hq
    subst e
    exact zs_lshl hd hk h
  case lshr =>
    have e := Nat.eq_of_beq_eq_true hq
    subst e
    exact zs_lshr hd hk h
  case lushr =>
    have e := Nat.eq_of_beq_eq_true hq
    subst e
    exact zs_lushr hd hk h
  case lcmp =>
    have e := Nat.eq_of_beq_eq_true hq
    subst e
    exact zs_lcmp hd hk h
  case dup =>
    have e := Nat.eq_of_beq_eq_true hq
    subst e
    exact zs_dup hd hk h
  case dup2 =>
    have e := Nat.eq_of_beq_eq_true hq
    subst e
    exact zs_dup2 hd hk h
  case pop =>
    have e := Nat.eq_of_beq_eq_true hq
    subst e
    exact zs_pop hd hk h
  case iaload =>
    have e := Nat.eq_of_beq_eq_true hq
    subst e
    exact zs_iaload hd hk h
  case baload =>
    have e := Nat.eq_of_beq_eq_true hq
    subst e
    exact zs_baload hd hk h
  case laload =>
    have e := Nat.eq_of_beq_eq_true hq
    subst e
    exact zs_laload hd hk h
  case aaload =>
    have e := Nat.eq_of_beq_eq_true hq
    subst e
    exact zs_aaload hd hk h
  case iastore =>
    have e := Nat.eq_of_beq_eq_true hq
    subst e
    exact zs_iastore hd hk h
  case bastore =>
    have e := Nat.eq_of_beq_eq_true hq
    subst e
    exact zs_bastore hd hk h
  case lastore =>
    have e := Nat.eq_of_beq_eq_true hq
    subst e
    exact zs_lastore hd hk h
  case arraylength =>
    have e := Nat.eq_of_beq_eq_true hq
    subst e
    exact zs_arraylength hd hk h
  case iconst n =>
    unfold zlq at hq
    simp only [Bool.and_eq_true, decide_eq_true_eq] at hq
    obtain ⟨⟨e, h1⟩, h2⟩ := hq
    have e := Nat.eq_of_beq_eq_true e
    subst e
    exact zs_iconst hd ⟨h1, h2⟩ hk h
  case bipush n =>
    unfold zlq at hq
    simp only [Bool.and_eq_true, decide_eq_true_eq] at hq
    obtain ⟨⟨e, h1⟩, h2⟩ := hq
    have e := Nat.eq_of_beq_eq_true e
    subst e
    exact zs_bipush hd ⟨h1, h2⟩ hk h
  case sipush n =>
    unfold zlq at hq
    simp only [Bool.and_eq_true, decide_eq_true_eq] at hq
    obtain ⟨⟨e, h1⟩, h2⟩ := hq
    have e := Nat.eq_of_beq_eq_true e
    subst e
    exact zs_sipush hd ⟨h1, h2⟩ hk h
  case goto o =>
    unfold zlq at hq
    simp only [Bool.and_eq_true, decide_eq_true_eq] at hq
    obtain ⟨e, h1⟩ := hq
    have e := Nat.eq_of_beq_eq_true e
    subst e
    exact zs_goto hd h1 hk h
  case ifCond c o =>
    unfold zlq at hq
    simp only [Bool.and_eq_true, decide_eq_true_eq] at hq
    obtain ⟨e, h1⟩ := hq
    have e := Nat.eq_of_beq_eq_true e
    subst e
    exact zs_if hd h1 hk h
  case if_icmp c o =>
    unfold zlq at hq
    simp only [Bool.and_eq_true, decide_eq_true_eq] at hq
    obtain ⟨e, h1⟩ := hq
    have e := Nat.eq_of_beq_eq_true e
    subst e
    exact zs_icmp hd h1 hk h
  case tableswitch df lo hi os =>
    unfold zlq at hq
    simp only [Bool.and_eq_true, decide_eq_true_eq, List.all_eq_true] at hq
    obtain ⟨⟨h1, h2⟩, h3⟩ := hq
    exact zs_switch hd h1 (fun o ho => h2 o (by simpa using ho)) h3 hk h
  case getfield =>
    have e := Nat.eq_of_beq_eq_true hq
    subst e
    exact zs_getfield hd hM.2.1 hk h
  case putfield =>
    have e := Nat.eq_of_beq_eq_true hq
    subst e
    exact zs_putfield hd hM.2.1 hk h
  case invokevirtual =>
    have e := Nat.eq_of_beq_eq_true hq
    subst e
    exact zs_invokevirtual hd hM.2.2.1 hk h
  case invokestatic =>
    have e := Nat.eq_of_beq_eq_true hq
    subst e
    exact zs_invokestatic hd hM.2.2.1 hk h
  case ldc_w =>
    have e := Nat.eq_of_beq_eq_true hq
    subst e
    exact zs_ldc_w hd hM.2.2.2.1 hk h
  case ldc2_w =>
    have e := Nat.eq_of_beq_eq_true hq
    subst e
    exact zs_ldc2_w hd hM.2.2.2.1 hk h
  case ldc =>
    have e := Nat.eq_of_beq_eq_true hq
    subst e
    exact zs_ldc hd hM.2.2.2.1 hk h
  case getstatic =>
    have e := Nat.eq_of_beq_eq_true hq
    subst e
    exact zs_getstatic hd hM.2.2.2.1 hk h
  case ireturn =>
    have e := Nat.eq_of_beq_eq_true hq
    subst e
    exact zs_ireturn hd h
  case lreturn =>
    have e := Nat.eq_of_beq_eq_true hq
    subst e
    exact zs_lreturn hd h
  case return_ =>
    have e := Nat.eq_of_beq_eq_true hq
    subst e
    exact zs_return hd h
  all_goals exact False.elim h
theorem zseg_ok (hM : zOK M) {cuts : List Nat} : ∀ (f pc : Nat) (ls st : List zV) (mem : zMem), zseg d M Q cuts f pc ls st mem → zG d M pc ls st mem Q
  | 0, _, _, _, _, h => h
  | f + 1, pc, ls, st, mem, h => by
    unfold zseg at h
    split at h
    · exact h
    · split at h
      · rename_i i len hat
        exact zone_ok hM hat (zseg_ok hM f) h
      · exact h.elim
theorem zent_ok (hM : zOK M) {cuts : List Nat} {f pc : Nat} {ls st : List zV} {mem : zMem} (h : zent d M Q cuts f pc ls st mem) : zG d M pc ls st mem Q := by
  unfold zent at h
  split at h
  · rename_i i len hat
    exact zone_ok hM hat (zseg_ok hM f) h
  · exact h.elim
/-- the locals with which a method begins -/
def zla : List zV → List zV
  | [] => []
  | (1, x) :: r => (1, x) :: (9, 0) :: zla r
  | (t, x) :: r => (t, x) :: zla r
def zl0 (n : Nat) (av : List zV) : List zV := zla av ++ List.replicate (n - (zla av).length) (9, 0)
theorem zla_mem (E : zEnv) : ∀ (av : List zV) (i o : Nat) (v : zV), (zla av)[i]? = some v → v.1 < 9 → (o + i, zv E v) ∈ lv_args o (av.map (zv E))
  | [], i, o, v, h, _ => by simp [zla] at h
  | (t, x) :: r, i, o, v, h, hv => by
    rw [List.map_cons]
    unfold lv_args
    rw [zv_cat]
    by_cases ht : t = 1
    · subst ht
      rw [zla] at h
      match i, h with
      | 0, h =>
        cases (show (1, x) = v by simpa using h)
        exact List.mem_cons_self
      | 1, h =>
        cases (show ((9 : Nat), (0 : Int)) = v by simpa using h)
        exact absurd hv (by decide)
      | i + 2, h =>
        have := zla_mem E r i (o + 2) v (by simpa using h) hv
        refine List.mem_cons_of_mem _ ?_
        rw [show o + (i + 2) = o + 2 + i by omega]
        exact this
    · have hz : zla ((t, x) :: r) = (t, x) :: zla r := by
        rw [zla]
        intro e
        exact ht e
      rw [hz] at h
      have hc : zcat t = 1 := by
        unfold zcat
        split
        · exact absurd rfl ht
        · rfl
      match i, h with
      | 0, h =>
        cases (show (t, x) = v by simpa using h)
        exact List.mem_cons_self
      | i + 1, h =>
        have := zla_mem E r i (o + 1) v (by simpa using h) hv
        refine List.mem_cons_of_mem _ ?_
        show _ ∈ lv_args (if zcat t = 2 then o + 2 else o + 1) _
        rw [hc, if_neg (by decide), show o + (i + 1) = o + 1 + i by omega]
        exact this
theorem zla_ok : ∀ {av : List zV}, (∀ v ∈ av, zok v) → ∀ v ∈ zla av, zok v
  | [], _, v, h => by cases h
  | (t, x) :: r, ha, v, h => by
    by_cases ht : t = 1
    · subst ht
      rw [zla] at h
      rcases List.mem_cons.mp h with rfl | h
      · exact zoh ha
      · rcases List.mem_cons.mp h with rfl | h
        · trivial
        · exact zla_ok (zot ha) v h
    · have hz : zla ((t, x) :: r) = (t, x) :: zla r := by
        rw [zla]
        intro e
        exact ht e
      rw [hz] at h
      rcases List.mem_cons.mp h with rfl | h
      · exact zoh ha
      · exact zla_ok (zot ha) v h
theorem zla_len (E : zEnv) : ∀ av : List zV, (lg_sl (av.map (zv E))).length = (zla av).length
  | [] => rfl
  | (t, x) :: r => by
    have ih := zla_len E r
    unfold lg_sl at ih ⊢
    rw [List.map_cons, List.flatMap_cons, List.length_append, ih, zv_cat]
    by_cases ht : t = 1
    · subst ht
      rw [zla]
      simp [zcat]
      omega
    · have hz : zla ((t, x) :: r) = (t, x) :: zla r := by
        rw [zla]
        intro e
        exact ht e
      have hc : zcat t = 1 := by
        unfold zcat
        split
        · exact absurd rfl ht
        · rfl
      rw [hz]
      simp [hc]
      omega
/-- A METHOD's CONTRACT, from the rest of it at its entry -/
theorem zC_of (hM : zOK M) {av : List zV} (hpl : plainName (zMo M) = true) (hn : (zla av).length ≤ zKl (zMk M)) (hscr : (zMx M).1 = 0) (hr : zKr (zMk M) = none ∨ zKr (zMk M) = some .int ∨ zKr (zMk M) = some .boolean ∨ zKr (zMk M) = some .long) (h : zG d M 0 (zl0 (zKl (zMk M)) av) [] mem Q) : zC d (zMk M) av mem Q := by
  intro l E d' hd'
  refine Met.ofW (cc := zKb (zMk M)) (maxL := zKl (zMk M)) (ret := zKr (zMk M)) (by rw [hM.2.2.2.2]; exact hpl) rfl ?_
  intro p e s m args below meth c s₁ B hml hv
  obtain ⟨rfl, hav, hOn, hH⟩ := hv
  have hx := B.exec
  have hb := B.bytes
  have hret := B.returns
  have hts := atoms_spec (ws := zW (zMk M)) B.pre
  have hown : s.vm.findClass (zKy (zMk M)).cls = some m.cls := findClass_of_methodNamed B.named
  have hlocks := B.notSynchronized
  rw [hM.2.2.2.2] at hown
  have hl := lv_entry (av.map (zv E)) (n := zKl (zMk M)) (by rw [zla_len]; exact hn)
  rw [lg_entry_eq]
  generalize (lg_sl (av.map (zv E)) ++ List.replicate (zKl (zMk M) - (lg_sl (av.map (zv E))).length) Slot.unset).toArray = lj at hl ⊢
  refine h p l e _ s m _ below meth c _ [] 0 0 _ E lj ⟨hx, hb, hml, hown, fun w hw => hts w (List.mem_cons_of_mem _ hw), hd', ?_, hOn, Or.inl hscr⟩ (Nat.zero_le _) (Nat.zero_le _) hH va_S.rf ?_ ?_ (fun v hv => by cases hv) ?_
  · show 100 * d ≤ 100 * d'
    omega
  · refine ⟨hl.1, ?_, hl.2.1, fun i v hi hv => ?_⟩
    · unfold zl0
      rw [List.length_append, List.length_replicate]
      omega
    · unfold zl0 at hi
      by_cases hlt : i < (zla av).length
      · rw [List.getElem?_append_left hlt] at hi
        have := zla_mem E av i 0 v hi hv
        rw [Nat.zero_add] at this
        exact hl.2.2 _ this
      · rw [List.getElem?_append_right (by omega)] at hi
        have := List.eq_of_mem_replicate (List.mem_of_getElem? hi)
        subst this
        exact absurd hv (by decide)
  · intro v hv
    unfold zl0 at hv
    rcases List.mem_append.mp hv with hv | hv
    · exact zla_ok hav v hv
    · have := List.eq_of_mem_replicate hv
      subst this
      trivial
  · intro x mem' H' locs' pc lj i hQ hok hbo hH' hS' hdec hi
    rcases hi with ⟨h1, rfl⟩ | ⟨h1, rfl⟩ | ⟨h1 | h1, rfl⟩
    · rw [h1] at hret hok ⊢
      exact W.vret hx hb hret (fun t ht _ => ⟨⟨x, mem', rfl, hok, hQ, by rw [ht]; exact hH'⟩, hS'.F ht⟩) hS'.2.2 hdec
    · rw [h1] at hret hok ⊢
      exact W.lret hx hb hret (fun t ht _ => ⟨⟨x, mem', rfl, hok, hQ, by rw [ht]; exact hH'⟩, hS'.F ht⟩) hS'.2.2 hdec
    · rw [h1] at hret hok ⊢
      exact W.iret hx hb hret (fun t ht _ => ⟨⟨x, mem', rfl, hok, hQ, by rw [ht]; exact hH'⟩, hS'.F ht⟩) hS'.2.2 hdec
    · have hb01 := hbo h1
      rw [h1] at hret hok ⊢
      exact W.zret hx hb hret (zbool hb01).1 (fun t ht _ => ⟨⟨x, mem', rfl, hok, hQ, by rw [ht]; exact hH'⟩, hS'.F ht⟩) hS'.2.2 hdec
theorem zC.mono {d d' : Nat} {K : zKey} {av : List zV} (h : zC d K av mem Q) (hd : d ≤ d') : zC d' K av mem Q := fun l E e he => h l E e (Nat.le_trans hd he)
/-- what is in range may be used -/
theorem zG.rg (h : (∀ v ∈ ls, zok v) → (∀ v ∈ st, zok v) → zrg mem → zG d M pc ls st mem Q) : zG d M pc ls st mem Q :=
  fun p l e R s m args below meth c H locs cells slots Qf E lj C hc hs hH hS hL hl hst hR => h hl hst hH.1 p l e R s m args below meth c H locs cells slots Qf E lj C hc hs hH hS hL hl hst hR
theorem zG.post {Q' : Int → zMem → Prop} (h : zG d M pc ls st mem Q') (hq : ∀ x m', Q' x m' → Q x m') : zG d M pc ls st mem Q :=
  fun p l e R s m args below meth c H locs cells slots Qf E lj C hc hs hH hS hL hl hst hR => h p l e R s m args below meth c H locs cells slots Qf E lj C hc hs hH hS hL hl hst (fun x mem' H' locs' pc lj i a => hR x mem' H' locs' pc lj i (hq _ _ a))
end
end
section
section
theorem zC.post {d : Nat} {K : zKey} {av : List zV} {mem : zMem} {Q Q' : Int → zMem → Prop} (h : zC d K av mem Q') (hq : ∀ x m', Q' x m' → Q x m') : zC d K av mem Q := by
  intro l E d' hd p e ha hc hk s m args below hf hs hp hK
  obtain ⟨n, o, h1, h2, h3, ⟨⟨x, mem', e1, e2, e3, e4⟩, e5⟩, e6⟩ := h l E d' hd p e ha hc hk s m args below hf hs hp hK
  exact ⟨n, o, h1, h2, h3, ⟨⟨x, mem', e1, e2, hq _ _ e3, e4⟩, e5⟩, e6⟩
theorem zall {α : Type} {F : α → Prop} {x : α} (h : F x) : ∀ z, z = x → F z := fun z hz => by subst hz; exact h
theorem zne {x y : Int} {A B : Prop} (h1 : x ≠ y → A) (h2 : x = y → B) : (zcmp .ne x y → A) ∧ (¬ zcmp .ne x y → B) := ⟨h1, fun q => h2 (Decidable.of_not_not q)⟩
theorem zeq {x y : Int} {A B : Prop} (h1 : x = y → A) (h2 : x ≠ y → B) : (zcmp .eq x y → A) ∧ (¬ zcmp .eq x y → B) := ⟨h1, h2⟩
theorem zlt {x y : Int} {A B : Prop} (h1 : x < y → A) (h2 : y ≤ x → B) : (zcmp .lt x y → A) ∧ (¬ zcmp .lt x y → B) := ⟨h1, fun q => h2 (Int.not_lt.mp q)⟩
theorem zge {x y : Int} {A B : Prop} (h1 : y ≤ x → A) (h2 : x < y → B) : (zcmp .ge x y → A) ∧ (¬ zcmp .ge x y → B) := ⟨h1, fun q => h2 (Int.not_le.mp q)⟩
theorem zgt {x y : Int} {A B : Prop} (h1 : y < x → A) (h2 : x ≤ y → B) : (zcmp .gt x y → A) ∧ (¬ zcmp .gt x y → B) := ⟨h1, fun q => h2 (Int.not_lt.mp q)⟩
theorem zle {x y : Int} {A B : Prop} (h1 : x ≤ y → A) (h2 : y < x → B) : (zcmp .le x y → A) ∧ (¬ zcmp .le x y → B) := ⟨h1, fun q => h2 (Int.not_le.mp q)⟩
def zch : Nat → List Cond
  | 0 => k2_sels lw_privs
  | 1 => tables_1_1
  | 2 => tables_1_2
  | 3 => tables_1_3
  | 4 => tables_1_4
  | 5 => tables_1_5
  | 6 => tables_1_6
  | _ => tables_1_7
theorem zch_in {c : Nat} {w : Cond} (h : w ∈ zch c) : w ∈ lw_tbl := by
  unfold lw_tbl tables_1
  simp only [List.mem_append]
  unfold zch at h
  split at h <;> simp [h]
def zwb (p : Nat) (w : Cond) : Bool := decide ((zch (p / 1000))[p % 1000]? = some w) && goodWord w
theorem zwb_of {p : Nat} {w : Cond} (h : zwb p w = true) : w ∈ zgood := by
  unfold zwb at h
  simp only [Bool.and_eq_true, decide_eq_true_eq] at h
  exact zgood_of (zch_in (List.mem_of_getElem? h.1)) h.2
def zfb (own : String) (f : Nat × Nat × Nat × Nat) : Bool := match vwCl[f.2.1]? with
  | some q => Nat.blt f.2.2.1 q.2.2 && Nat.blt f.2.1 13 && zwb f.2.2.2 (.fieldLink own f.1 (q.2.1 f.2.2.1).1 (q.2.1 f.2.2.1).2.1 (q.2.1 f.2.2.1).2.2.1)
  | none => false
def zmb (own : String) (c : Nat × zKey × Nat × Nat × List Nat) : Bool := match c with
  | (i, K, kd, n, ps) => match kd with
    | 101 => zwb (ps.getD 0 0) (.methodLink own i arraycopyName) && zwb (ps.getD 1 0) (.native arraycopyName) && zwb (ps.getD 2 0) (.static arraycopyName) && zwb (ps.getD 3 0) (.initialized "java/lang/System")
    | kd => zwb (ps.getD 0 0) (.methodLink own i (zKy K)) && zwb (ps.getD 1 0) (.code (zKy K) (zKb K) (zKl K) (zKr K)) && zwb (ps.getD 2 0) (.initialized (zKy K).cls) &&
      decide ((zKy K).cls ≠ "java/lang/invoke/MethodHandle") && decide ((zKy K).cls ≠ "java/lang/invoke/VarHandle") && decide ((parseMethodDescriptor (zKy K).desc).map (fun d => d.parameters.length) = some n) && Nat.ble (zKl K) 81 &&
      (match kd with
      | 100 => zwb (ps.getD 3 0) (.static (zKy K))
      | kd => zwb (ps.getD 3 0) (.instanceMethod (zKy K)) && zwb (ps.getD 4 0) (.selects (zKy K).cls (zKy K) (zKy K)) && (match kd with
        | 102 => decide ((zKy K).cls = "java/lang/String")
        | kd => match vwCl[kd]? with
          | some q => decide (q.1 = (zKy K).cls)
          | none => false))
def znb (own : String) (c : Nat × Nat × Int × Nat) : Bool := match c with
  | (i, 0, v, p) => zwb p (.constant own i (Int32.ofInt v)) && decide (-2147483648 ≤ v) && decide (v < 2147483648)
  | (i, 1, v, p) => zwb p (.constantLong own i (Int64.ofInt v)) && decide (-9223372036854775808 ≤ v) && decide (v < 9223372036854775808)
  | (i, 3, v, _) => decide (own = "OtherDoor$Tape") && Nat.blt v.toNat 8 && Nat.beq (zSi.getD v.toNat 0) i
  | (i, 4, _, p) => zwb p (.fieldLink own i "OtherDoor$Rounds" "HAVING" "[I")
  | _ => false
def zcb (M : zMt) : Bool := (zMc M).all (fun c => decide (decode (zKb (zMk M)) c.1 = .ok (c.2.1, c.2.2)) && zlq c.1 c.2.1 c.2.2)
def zob (M : zMt) : Bool := (zMf M).all (zfb (zMo M)) && (zMm M).all (zmb (zMo M)) && (zMn M).all (znb (zMo M)) && decide ((zKy (zMk M)).cls = zMo M)
theorem zCF_0 : zCF 0 (RX0, TX0, 4) tyX0 := by
  refine ⟨fun w hw => ?_, tyX0_ok, nmX0, by decide +kernel, by decide +kernel⟩
  have h : ∀ k, k < 4 → zwb (([2117, 2119, 2121, 2123] : List Nat).getD k 0) (u_lay RX0 TX0 k) = true := by decide +kernel
  obtain ⟨k, hk, rfl⟩ := List.mem_map.mp hw
  exact zwb_of (h k (List.mem_range.mp hk))
theorem zCF_1 : zCF 1 (RX1, TX1, 9) tyX1 := by
  refine ⟨fun w hw => ?_, tyX1_ok, nmX1, by decide +kernel, by decide +kernel⟩
  have h : ∀ k, k < 9 → zwb (([1080, 1082, 1084, 1086, 1088, 1090, 1092, 1094, 1096] : List Nat).getD k 0) (u_lay RX1 TX1 k) = true := by decide +kernel
  obtain ⟨k, hk, rfl⟩ := List.mem_map.mp hw
  exact zwb_of (h k (List.mem_range.mp hk))
theorem zCF_2 : zCF 2 (RX2, TX2, 5) tyX2 := by
  refine ⟨fun w hw => ?_, tyX2_ok, nmX2, by decide +kernel, by decide +kernel⟩
  have h : ∀ k, k < 5 → zwb (([1142, 1144, 1146, 1148, 1150] : List Nat).getD k 0) (u_lay RX2 TX2 k) = true := by decide +kernel
  obtain ⟨k, hk, rfl⟩ := List.mem_map.mp hw
  exact zwb_of (h k (List.mem_range.mp hk))
theorem zCF_3 : zCF 3 (RX3, TX3, 7) tyX3 := by
  refine ⟨fun w hw => ?_, tyX3_ok, nmX3, by decide +kernel, by decide +kernel⟩
  have h : ∀ k, k < 7 → zwb (([2036, 2038, 2040, 2042, 2044, 2046, 2048] : List Nat).getD k 0) (u_lay RX3 TX3 k) = true := by decide +kernel
  obtain ⟨k, hk, rfl⟩ := List.mem_map.mp hw
  exact zwb_of (h k (List.mem_range.mp hk))
theorem zCF_4 : zCF 4 (RX4, TX4, 3) tyX4 := by
  refine ⟨fun w hw => ?_, tyX4_ok, nmX4, by decide +kernel, by decide +kernel⟩
  have h : ∀ k, k < 3 → zwb (([1167, 1169, 1171] : List Nat).getD k 0) (u_lay RX4 TX4 k) = true := by decide +kernel
  obtain ⟨k, hk, rfl⟩ := List.mem_map.mp hw
  exact zwb_of (h k (List.mem_range.mp hk))
theorem zCF_5 : zCF 5 (RX5, TX5, 13) tyX5 := by
  refine ⟨fun w hw => ?_, tyX5_ok, nmX5, by decide +kernel, by decide +kernel⟩
  have h : ∀ k, k < 13 → zwb (([1200, 1202, 1204, 1206, 1208, 1210, 1212, 1214, 1216, 1218, 1220, 1222, 1224] : List Nat).getD k 0) (u_lay RX5 TX5 k) = true := by decide +kernel
  obtain ⟨k, hk, rfl⟩ := List.mem_map.mp hw
  exact zwb_of (h k (List.mem_range.mp hk))
theorem zCF_6 : zCF 6 (RX6, TX6, 4) tyX6 := by
  refine ⟨fun w hw => ?_, tyX6_ok, nmX6, by decide +kernel, by decide +kernel⟩
  have h : ∀ k, k < 4 → zwb (([2061, 2063, 2065, 2067] : List Nat).getD k 0) (u_lay RX6 TX6 k) = true := by decide +kernel
  obtain ⟨k, hk, rfl⟩ := List.mem_map.mp hw
  exact zwb_of (h k (List.mem_range.mp hk))
theorem zCF_7 : zCF 7 (RX7, TX7, 6) tyX7 := by
  refine ⟨fun w hw => ?_, tyX7_ok, nmX7, by decide +kernel, by decide +kernel⟩
  have h : ∀ k, k < 6 → zwb (([2141, 2143, 2145, 2147, 2149, 2151] : List Nat).getD k 0) (u_lay RX7 TX7 k) = true := by decide +kernel
  obtain ⟨k, hk, rfl⟩ := List.mem_map.mp hw
  exact zwb_of (h k (List.mem_range.mp hk))
theorem zCF_8 : zCF 8 (RX8, TX8, 9) tyX8 := by
  refine ⟨fun w hw => ?_, tyX8_ok, nmX8, by decide +kernel, by decide +kernel⟩
  have h : ∀ k, k < 9 → zwb (([2086, 2088, 2090, 2092, 2094, 2096, 2098, 2100, 2102] : List Nat).getD k 0) (u_lay RX8 TX8 k) = true := by decide +kernel
  obtain ⟨k, hk, rfl⟩ := List.mem_map.mp hw
  exact zwb_of (h k (List.mem_range.mp hk))
theorem zCF_9 : zCF 9 (RX9, TX9, 3) tyX9 := by
  refine ⟨fun w hw => ?_, tyX9_ok, nmX9, by decide +kernel, by decide +kernel⟩
  have h : ∀ k, k < 3 → zwb (([1122, 1124, 1126] : List Nat).getD k 0) (u_lay RX9 TX9 k) = true := by decide +kernel
  obtain ⟨k, hk, rfl⟩ := List.mem_map.mp hw
  exact zwb_of (h k (List.mem_range.mp hk))
theorem zCF_10 : zCF 10 (RX10, TX10, 8) tyX10 := by
  refine ⟨fun w hw => ?_, tyX10_ok, nmX10, by decide +kernel, by decide +kernel⟩
  have h : ∀ k, k < 8 → zwb (([2004, 2006, 2008, 2010, 2012, 2014, 2016, 2018] : List Nat).getD k 0) (u_lay RX10 TX10 k) = true := by decide +kernel
  obtain ⟨k, hk, rfl⟩ := List.mem_map.mp hw
  exact zwb_of (h k (List.mem_range.mp hk))
theorem zCF_11 : zCF 11 (RX11, TX11, 13) tyX11 := by
  refine ⟨fun w hw => ?_, tyX11_ok, nmX11, by decide +kernel, by decide +kernel⟩
  have h : ∀ k, k < 13 → zwb (([2167, 2169, 2171, 2173, 2175, 2177, 2179, 2181, 2183, 2185, 2187, 2189, 2191] : List Nat).getD k 0) (u_lay RX11 TX11 k) = true := by decide +kernel
  obtain ⟨k, hk, rfl⟩ := List.mem_map.mp hw
  exact zwb_of (h k (List.mem_range.mp hk))
theorem zCF_12 : zCF 12 (RX12, TX12, 44) tyX12 := by
  refine ⟨fun w hw => ?_, tyX12_ok, nmX12, by decide +kernel, by decide +kernel⟩
  have h : ∀ k, k < 44 → zwb (([5181, 5183, 5185, 5187, 5189, 5191, 5193, 5195, 5197, 5199, 5201, 5203, 5205, 5207, 5209, 5211, 5213, 5215, 5217, 5219, 5221, 5223, 5225, 5227, 5229, 5231, 5233, 5235, 5237, 5239, 6001, 6003, 6005, 6007, 6009, 6011, 6013, 6015, 6017, 6019, 6021, 6023, 6025, 6027] : List Nat).getD k 0) (u_lay RX12 TX12 k) = true := by decide +kernel
  obtain ⟨k, hk, rfl⟩ := List.mem_map.mp hw
  exact zwb_of (h k (List.mem_range.mp hk))
theorem zCF_all : ∀ (ci : Nat) (q : vw_C), vwCl[ci]? = some q → ∃ ty, zCF ci q ty
  | 0, q, h => by cases h; exact ⟨_, zCF_0⟩
  | 1, q, h => by cases h; exact ⟨_, zCF_1⟩
  | 2, q, h => by cases h; exact ⟨_, zCF_2⟩
  | 3, q, h => by cases h; exact ⟨_, zCF_3⟩
  | 4, q, h => by cases h; exact ⟨_, zCF_4⟩
  | 5, q, h => by cases h; exact ⟨_, zCF_5⟩
  | 6, q, h => by cases h; exact ⟨_, zCF_6⟩
  | 7, q, h => by cases h; exact ⟨_, zCF_7⟩
  | 8, q, h => by cases h; exact ⟨_, zCF_8⟩
  | 9, q, h => by cases h; exact ⟨_, zCF_9⟩
  | 10, q, h => by cases h; exact ⟨_, zCF_10⟩
  | 11, q, h => by cases h; exact ⟨_, zCF_11⟩
  | 12, q, h => by cases h; exact ⟨_, zCF_12⟩
  | n + 13, q, h => by simp [vwCl] at h
theorem zfb_of {own : String} {f : Nat × Nat × Nat × Nat} (h : zfb own f = true) : zFf own f := by
  unfold zfb at h
  split at h
  · rename_i q hq
    simp only [Bool.and_eq_true] at h
    obtain ⟨⟨h1, h0⟩, h2⟩ := h
    obtain ⟨ty, hty⟩ := zCF_all _ _ hq
    have h0 : f.2.1 < 13 := Nat.le_of_ble_eq_true h0
    exact ⟨q, ty, hq, by omega, Nat.le_of_ble_eq_true h1, hty, zwb_of h2⟩
  · cases h
theorem znb_of {own : String} {c : Nat × Nat × Int × Nat} (h : znb own c = true) : zNf own c := by
  unfold znb at h
  split at h
  · simp only [Bool.and_eq_true, decide_eq_true_eq] at h
    exact ⟨zwb_of h.1.1, h.1.2, h.2⟩
  · simp only [Bool.and_eq_true, decide_eq_true_eq] at h
    exact ⟨zwb_of h.1.1, h.1.2, h.2⟩
  · simp only [Bool.and_eq_true, decide_eq_true_eq] at h
    exact ⟨h.1.1, Nat.le_of_ble_eq_true h.1.2, Nat.eq_of_beq_eq_true h.2⟩
  · exact zwb_of h
  · cases h
theorem zmb_of {own : String} {c : Nat × zKey × Nat × Nat × List Nat} (h : zmb own c = true) : zMf1 own c := by
  obtain ⟨i, K, kd, n, ps⟩ := c
  unfold zmb at h
  dsimp only at h
  split at h
  · simp only [Bool.and_eq_true] at h
    obtain ⟨⟨⟨h1, h2⟩, h3⟩, h4⟩ := h
    exact ⟨fun q => absurd rfl q, fun q => absurd (show (101 : Nat) < 100 from q) (by decide), fun q => absurd (show (101 : Nat) = 102 from q) (by decide), fun q => absurd (show (101 : Nat) = 100 from q) (by decide), fun _ => ⟨zwb_of h1, zwb_of h2, zwb_of h3, zwb_of h4⟩⟩
  · rename_i h101
    simp only [Bool.and_eq_true, decide_eq_true_eq] at h
    obtain ⟨⟨⟨⟨⟨⟨⟨h1, h2⟩, h3⟩, h4⟩, h5⟩, h6⟩, h7⟩, h8⟩ := h
    refine ⟨fun _ => ⟨zwb_of h2, zwb_of h1, zwb_of h3, h4, h5, h6, Nat.le_of_ble_eq_true h7⟩, ?_⟩
    split at h8
    · exact ⟨fun q => absurd (show (100 : Nat) < 100 from q) (by decide), fun q => absurd (show (100 : Nat) = 102 from q) (by decide), fun _ => zwb_of h8, fun q => absurd (show (100 : Nat) = 101 from q) (by decide)⟩
    · rename_i h100
      simp only [Bool.and_eq_true] at h8
      obtain ⟨⟨h8, h9⟩, h10⟩ := h8
      split at h10
      · exact ⟨fun q => absurd (show (102 : Nat) < 100 from q) (by decide), fun _ => ⟨of_decide_eq_true h10, zwb_of h8, zwb_of h9⟩, fun q => absurd (show (102 : Nat) = 100 from q) (by decide), fun q => absurd (show (102 : Nat) = 101 from q) (by decide)⟩
      · rename_i h102
        split at h10
        · rename_i q hq
          exact ⟨fun _ => ⟨⟨q, hq, of_decide_eq_true h10⟩, zwb_of h8, zwb_of h9⟩, fun q => absurd q h102, fun q => absurd q h100, fun q => absurd q h101⟩
        · cases h10
theorem zOK_of {M : zMt} (h1 : zcb M = true) (h2 : zob M = true) : zOK M := by
  unfold zcb at h1
  unfold zob at h2
  simp only [Bool.and_eq_true, List.all_eq_true, decide_eq_true_eq] at h1 h2
  exact ⟨h1, fun f hf => zfb_of (h2.1.1.1 f hf), fun c hc => zmb_of (h2.1.1.2 c hc), fun c hc => znb_of (h2.1.2 c hc), h2.2⟩
end
end
section
section
def K_Od_feed : zKey := (yX11_feed, cX11_feed, 3, some .int)
def K_Ta_append : zKey := (yX5_append, cX5_append, 4, some .boolean)
def K_Od_end : zKey := (yX11_end, cX11_end, 3, some .int)
def K_Od_palace : zKey := (yX11_palace, cX11_palace, 2, some .int)
def K_Ta_understand : zKey := (yX5_understand, cX5_understand, 2, some .boolean)
def K_Pa_clear : zKey := (yX2_clear, cX2_clear, 1, none)
def K_Ho_clear : zKey := (yX1_clear, cX1_clear, 1, none)
def K_Jd_fill : zKey := (yJ7_fill_53178, cJ7_fill_53178, 4, none)
def K_Ta_nextToken : zKey := (yX5_nextToken, cX5_nextToken, 2, none)
def K_Ta_behind : zKey := (yX5_behind, cX5_behind, 4, some .int)
def K_Ta_takeFigures : zKey := (yX5_takeFigures, cX5_takeFigures, 2, none)
def K_Ta_refuse : zKey := (yX5_refuse, cX5_refuse, 3, some .boolean)
def K_Ta_takeLine : zKey := (yX5_takeLine, cX5_takeLine, 1, some .boolean)
def K_Ta_isWord : zKey := (yX5_isWord, cX5_isWord, 3, some .boolean)
def K_Js_length : zKey := (yJ0_length_8abf5, cJ0_length_8abf5, 1, some .int)
def K_Js_coder : zKey := (yJ0_coder_7d493, cJ0_coder_7d493, 1, some .byte)
def K_Js_charAt : zKey := (yJ0_charAt_5068e, cJ0_charAt_5068e, 2, some .char)
def K_Js_isLatin1 : zKey := (yJ0_isLatin1_aae02, cJ0_isLatin1_aae02, 1, some .boolean)
def K_Jl_charAt : zKey := (yJ1_charAt_3b067, cJ1_charAt_3b067, 2, some .char)
def K_Js_checkIndex : zKey := (yJ0_checkIndex_df160, cJ0_checkIndex_df160, 2, none)
def K_Jp_checkIndex : zKey := (yJ3_checkIndex_8e157, cJ3_checkIndex_8e157, 3, some .int)
def K_Ju_charAt : zKey := (yJ2_charAt_3b067, cJ2_charAt_3b067, 2, some .char)
def K_Ju_checkIndex : zKey := (yJ2_checkIndex_2214a, cJ2_checkIndex_2214a, 2, none)
def K_Ju_length : zKey := (yJ2_length_9d52b, cJ2_length_9d52b, 1, some .int)
def K_Ju_getChar : zKey := (yJ2_getChar_3b067, cJ2_getChar_3b067, 2, some .char)
def K_Ta_takeRooms : zKey := (yX5_takeRooms, cX5_takeRooms, 1, some .boolean)
def K_Ta_takeNumber : zKey := (yX5_takeNumber, cX5_takeNumber, 3, some .boolean)
def K_Ta_takeSign : zKey := (yX5_takeSign, cX5_takeSign, 1, some .boolean)
def K_Ta_isSign : zKey := (yX5_isSign, cX5_isSign, 1, some .boolean)
def K_Ta_takeLaw : zKey := (yX5_takeLaw, cX5_takeLaw, 1, some .boolean)
def K_Ta_takeDoor : zKey := (yX5_takeDoor, cX5_takeDoor, 4, some .boolean)
def K_Ta_colourTold : zKey := (yX5_colourTold, cX5_colourTold, 1, some .int)
def K_Ho_add : zKey := (yX1_add, cX1_add, 4, some .boolean)
def K_Ta_takeOne : zKey := (yX5_takeOne, cX5_takeOne, 1, some .boolean)
def K_Wa_standNew : zKey := (yX9_standNew, cX9_standNew, 2, none)
def K_Ta_takeWalled : zKey := (yX5_takeWalled, cX5_takeWalled, 1, some .boolean)
def K_Ta_closeText : zKey := (yX5_closeText, cX5_closeText, 4, some .boolean)
def K_Ho_hasRoom : zKey := (yX1_hasRoom, cX1_hasRoom, 2, some .boolean)
def K_Ho_setWalled : zKey := (yX1_setWalled, cX1_setWalled, 4, none)
def K_Pa_take : zKey := (yX2_take, cX2_take, 3, none)
def K_Ho_take : zKey := (yX1_take, cX1_take, 2, none)
def K_Wa_take : zKey := (yX9_take, cX9_take, 2, none)
def K_Od_fault : zKey := (yX11_fault, cX11_fault, 1, some .int)
def K_Od_rule : zKey := (yX11_rule, cX11_rule, 2, some .int)
def K_Od_door : zKey := (yX11_door, cX11_door, 3, some .int)
def K_Ho_hasDoor : zKey := (yX1_hasDoor, cX1_hasDoor, 2, some .boolean)
def K_Ho_isWalled : zKey := (yX1_isWalled, cX1_isWalled, 2, some .boolean)
def K_Od_one : zKey := (yX11_one, cX11_one, 4, some .int)
def K_Pa_hasOne : zKey := (yX2_hasOne, cX2_hasOne, 2, some .boolean)
def K_Od_orNone : zKey := (yX11_orNone, cX11_orNone, 1, some .int)
def K_Wa_choices : zKey := (yX9_choices, cX9_choices, 2, some .int)
def K_Ho_choices : zKey := (yX1_choices, cX1_choices, 5, some .int)
def K_Od_doors : zKey := (yX11_doors, cX11_doors, 2, some .int)
def K_Od_law : zKey := (yX11_law, cX11_law, 3, some .int)
def K_Od_build : zKey := (yX11_build, cX11_build, 4, some .int)
def K_Od_wall : zKey := (yX11_wall, cX11_wall, 4, some .int)
def K_Od_stand : zKey := (yX11_stand, cX11_stand, 4, some .int)
def K_Od_go : zKey := (yX11_go, cX11_go, 3, some .int)
def K_Wa_step : zKey := (yX9_step, cX9_step, 3, some .boolean)
def K_Ho_beyond : zKey := (yX1_beyond, cX1_beyond, 3, some .int)
def K_Od_far : zKey := (yX11_far, cX11_far, 3, some .int)
def K_Wy_leastTo : zKey := (yX10_leastTo, cX10_leastTo, 5, some .int)
def K_Wy_begin : zKey := (yX10_begin, cX10_begin, 3, none)
def K_Ho_sideAt : zKey := (yX1_sideAt, cX1_sideAt, 3, some .int)
def K_Wy_spread : zKey := (yX10_spread, cX10_spread, 8, none)
def K_Ho_sideBeyond : zKey := (yX1_sideBeyond, cX1_sideBeyond, 3, some .int)
def K_Od_way : zKey := (yX11_way, cX11_way, 5, some .int)
def K_Wy_stepOf : zKey := (yX10_stepOf, cX10_stepOf, 4, some .int)
def K_Od_can : zKey := (yX11_can, cX11_can, 2, some .int)
def K_Wy_roomsOf : zKey := (yX10_roomsOf, cX10_roomsOf, 5, some .int)
def K_Od_path : zKey := (yX11_path, cX11_path, 3, some .int)
def K_Od_pairs : zKey := (yX11_pairs, cX11_pairs, 1, some .int)
def K_Bu_pairsOf : zKey := (yX0_pairsOf, cX0_pairsOf, 4, some .int)
def K_Bu_spreadNew : zKey := (yX0_spreadNew, cX0_spreadNew, 5, none)
def K_Bu_enterBy : zKey := (yX0_enterBy, cX0_enterBy, 7, some .boolean)
def K_Bu_comersTo : zKey := (yX0_comersTo, cX0_comersTo, 5, some .int)
def K_Jd_bitCount : zKey := (yJ6_bitCount_0f7a4, cJ6_bitCount_0f7a4, 1, some .int)
def K_Od_life : zKey := (yX11_life, cX11_life, 3, some .int)
def K_Ho_isForLife : zKey := (yX1_isForLife, cX1_isForLife, 3, some .boolean)
def K_Od_trap : zKey := (yX11_trap, cX11_trap, 3, some .int)
def K_Ho_isOf : zKey := (yX1_isOf, cX1_isOf, 3, some .boolean)
def K_Od_secret : zKey := (yX11_secret, cX11_secret, 3, some .int)
def K_Od_safe : zKey := (yX11_safe, cX11_safe, 1, some .int)
def K_Ho_losing : zKey := (yX1_losing, cX1_losing, 3, some .int)
def K_Ho_losesBySecond : zKey := (yX1_losesBySecond, cX1_losesBySecond, 3, some .boolean)
def K_Ho_losesBehind : zKey := (yX1_losesBehind, cX1_losesBehind, 5, some .boolean)
def K_Od_round : zKey := (yX11_round, cX11_round, 3, some .int)
def K_Ro_least : zKey := (yX3_least, cX3_least, 8, some .int)
def K_Ro_begin : zKey := (yX3_begin, cX3_begin, 6, none)
def K_Ro_put : zKey := (yX3_put, cX3_put, 5, none)
def K_Ro_spreadLevel : zKey := (yX3_spreadLevel, cX3_spreadLevel, 8, some .boolean)
def K_Ro_spread : zKey := (yX3_spread, cX3_spread, 16, some .boolean)
def K_Ho_roomOfSide : zKey := (yX1_roomOfSide, cX1_roomOfSide, 2, some .int)
def K_Ro_withRoom : zKey := (yX3_withRoom, cX3_withRoom, 5, some .int)
def K_Od_tour : zKey := (yX11_tour, cX11_tour, 4, some .int)
def K_Ho_openDoors : zKey := (yX1_openDoors, cX1_openDoors, 1, some .int)
def K_To_prepare : zKey := (yX6_prepare, cX6_prepare, 5, none)
def K_To_fill : zKey := (yX6_fill, cX6_fill, 7, none)
def K_To_roomBehind : zKey := (yX6_roomBehind, cX6_roomBehind, 5, some .int)
def K_To_through : zKey := (yX6_through, cX6_through, 7, some .int)
def K_To_stepOf : zKey := (yX6_stepOf, cX6_stepOf, 9, some .int)
def K_To_all : zKey := (yX6_all, cX6_all, 1, some .int)
def K_Od_talk : zKey := (yX11_talk, cX11_talk, 4, some .int)
def K_Tw_prepare : zKey := (yX8_prepare, cX8_prepare, 5, none)
def K_Tw_addSpot : zKey := (yX8_addSpot, cX8_addSpot, 8, none)
def K_Tw_untilTalked : zKey := (yX8_untilTalked, cX8_untilTalked, 4, some .int)
def K_Tw_together : zKey := (yX8_together, cX8_together, 1, some .boolean)
def K_Tw_put : zKey := (yX8_put, cX8_put, 5, none)
def K_Tw_turnMinute : zKey := (yX8_turnMinute, cX8_turnMinute, 2, none)
def K_Tw_talkMinute : zKey := (yX8_talkMinute, cX8_talkMinute, 4, some .boolean)
def K_Tw_talkStep : zKey := (yX8_talkStep, cX8_talkStep, 7, some .boolean)
def K_Tw_nextOf : zKey := (yX8_nextOf, cX8_nextOf, 4, some .int)
def K_Od_cup : zKey := (yX11_cup, cX11_cup, 4, some .int)
def K_Tw_untilCupIn : zKey := (yX8_untilCupIn, cX8_untilCupIn, 3, some .int)
def K_Tw_cupMinute : zKey := (yX8_cupMinute, cX8_cupMinute, 4, some .boolean)
def K_Tw_cupStep : zKey := (yX8_cupStep, cX8_cupStep, 6, some .boolean)
def K_Od_more : zKey := (yX11_more, cX11_more, 2, some .int)
def K_Bu_seekMore : zKey := (yX0_seekMore, cX0_seekMore, 4, none)
def K_Bu_tryMore : zKey := (yX0_tryMore, cX0_tryMore, 5, none)
def K_Ho_dropLatest : zKey := (yX1_dropLatest, cX1_dropLatest, 2, none)
def K_Bu_answer : zKey := (yX0_answer, cX0_answer, 2, some .int)
def K_Od_worst : zKey := (yX11_worst, cX11_worst, 2, some .int)
def K_Bu_seekWorst : zKey := (yX0_seekWorst, cX0_seekWorst, 4, none)
def K_Od_mend : zKey := (yX11_mend, cX11_mend, 3, some .int)
def K_Bu_seekMend : zKey := (yX0_seekMend, cX0_seekMend, 3, some .int)
def K_Bu_mendByOne : zKey := (yX0_mendByOne, cX0_mendByOne, 7, some .boolean)
def K_Bu_isPair : zKey := (yX0_isPair, cX0_isPair, 2, some .boolean)
def K_Bu_roomsOf : zKey := (yX0_roomsOf, cX0_roomsOf, 1, some .int)
def K_Bu_mendByTwo : zKey := (yX0_mendByTwo, cX0_mendByTwo, 5, some .boolean)
def K_Od_tell : zKey := (yX11_tell, cX11_tell, 2, some .int)
def K_Od_forget : zKey := (yX11_forget, cX11_forget, 2, some .int)
def K_Od_judge : zKey := (yX11_judge, cX11_judge, 3, some .int)
def K_Od_ajar : zKey := (yX11_ajar, cX11_ajar, 6, some .int)
def K_Tr_seek : zKey := (yX7_seek, cX7_seek, 5, none)
def K_Tr_follow : zKey := (yX7_follow, cX7_follow, 7, none)
def K_Tr_note : zKey := (yX7_note, cX7_note, 2, none)
def K_Tr_branch : zKey := (yX7_branch, cX7_branch, 9, none)
def K_Od_keep : zKey := (yX11_keep, cX11_keep, 3, some .int)
def K_Od_back : zKey := (yX11_back, cX11_back, 2, some .int)
def K_Od_sheet : zKey := (yX11_sheet, cX11_sheet, 4, some .int)
def K_Od_isSheet : zKey := (yX11_isSheet, cX11_isSheet, 1, some .boolean)
def K_Od_isLane : zKey := (yX11_isLane, cX11_isLane, 1, some .boolean)
def K_Sh_renew : zKey := (yX4_renew, cX4_renew, 3, none)
def K_Od_lay : zKey := (yX11_lay, cX11_lay, 5, some .int)
def K_Sh_faultAt : zKey := (yX4_faultAt, cX4_faultAt, 3, some .int)
def K_Sh_put : zKey := (yX4_put, cX4_put, 3, none)
def K_Od_read : zKey := (yX11_read, cX11_read, 9, some .int)
def K_Od_torn : zKey := (yX11_torn, cX11_torn, 1, some .int)
def K_Od_count : zKey := (yX11_count, cX11_count, 2, some .int)
def K_Pa_lost : zKey := (yX2_lost, cX2_lost, 3, some .int)
def K_Mo_feed : zKey := (yX12_feed, cX12_feed, 4, some .int)
def K_Mo_end : zKey := (yX12_end, cX12_end, 3, some .int)
def K_Mo_in : zKey := (yX12_in, cX12_in, 6, some .boolean)
def K_Mo_palace : zKey := (yX12_palace, cX12_palace, 3, some .int)
def K_Mo_step : zKey := (yX12_step, cX12_step, 2, none)
def K_Mo_byteAt : zKey := (yX12_byteAt, cX12_byteAt, 2, some .int)
def K_Mo_fails : zKey := (yX12_fails, cX12_fails, 2, none)
def K_Mo_readLine : zKey := (yX12_readLine, cX12_readLine, 2, none)
def K_Mo_nameHere : zKey := (yX12_nameHere, cX12_nameHere, 4, some .int)
def K_Mo_readDoor : zKey := (yX12_readDoor, cX12_readDoor, 3, none)
def K_Mo_room : zKey := (yX12_room, cX12_room, 3, some .int)
def K_Mo_looks : zKey := (yX12_looks, cX12_looks, 3, none)
def K_Mo_number : zKey := (yX12_number, cX12_number, 4, some .int)
def K_Mo_readOne : zKey := (yX12_readOne, cX12_readOne, 2, none)
def K_Mo_readWalled : zKey := (yX12_readWalled, cX12_readWalled, 2, none)
def K_Mo_doorMany : zKey := (yX12_doorMany, cX12_doorMany, 1, some .int)
def K_Mo_fault : zKey := (yX12_fault, cX12_fault, 1, some .int)
def K_Mo_rule : zKey := (yX12_rule, cX12_rule, 2, some .int)
def K_Mo_ones : zKey := (yX12_ones, cX12_ones, 1, some .int)
def K_Mo_door : zKey := (yX12_door, cX12_door, 3, some .int)
def K_Mo_isDoor : zKey := (yX12_isDoor, cX12_isDoor, 2, some .boolean)
def K_Mo_one : zKey := (yX12_one, cX12_one, 3, some .int)
def K_Mo_isOne : zKey := (yX12_isOne, cX12_isOne, 2, some .boolean)
def K_Mo_placeOfOne : zKey := (yX12_placeOfOne, cX12_placeOfOne, 5, some .int)
def K_Mo_placeOf : zKey := (yX12_placeOf, cX12_placeOf, 4, some .int)
def K_Mo_mayTake : zKey := (yX12_mayTake, cX12_mayTake, 4, some .int)
def K_Mo_stepped : zKey := (yX12_stepped, cX12_stepped, 10, some .int)
def K_Mo_roomAt : zKey := (yX12_roomAt, cX12_roomAt, 3, some .int)
def K_Mo_lastAt : zKey := (yX12_lastAt, cX12_lastAt, 1, some .int)
def K_Mo_doors : zKey := (yX12_doors, cX12_doors, 2, some .int)
def K_Mo_isRoom : zKey := (yX12_isRoom, cX12_isRoom, 2, some .boolean)
def K_Mo_doorsOf : zKey := (yX12_doorsOf, cX12_doorsOf, 4, some .int)
def K_Mo_law : zKey := (yX12_law, cX12_law, 3, some .int)
def K_Mo_build : zKey := (yX12_build, cX12_build, 4, some .int)
def K_Mo_addDoor : zKey := (yX12_addDoor, cX12_addDoor, 5, none)
def K_Mo_wall : zKey := (yX12_wall, cX12_wall, 4, some .int)
def K_Mo_stand : zKey := (yX12_stand, cX12_stand, 4, some .int)
def K_Mo_go : zKey := (yX12_go, cX12_go, 3, some .int)
def K_Mo_goes : zKey := (yX12_goes, cX12_goes, 4, some .int)
def K_Mo_far : zKey := (yX12_far, cX12_far, 4, some .int)
def K_Mo_laysFrom : zKey := (yX12_laysFrom, cX12_laysFrom, 2, none)
def K_Mo_begins : zKey := (yX12_begins, cX12_begins, 2, none)
def K_Mo_finds : zKey := (yX12_finds, cX12_finds, 5, none)
def K_Mo_spreads : zKey := (yX12_spreads, cX12_spreads, 5, none)
def K_Mo_foundIn : zKey := (yX12_foundIn, cX12_foundIn, 3, some .int)
def K_Mo_way : zKey := (yX12_way, cX12_way, 5, some .int)
def K_Mo_can : zKey := (yX12_can, cX12_can, 2, some .int)
def K_Mo_foundRooms : zKey := (yX12_foundRooms, cX12_foundRooms, 3, some .int)
def K_Mo_path : zKey := (yX12_path, cX12_path, 4, some .int)
def K_Mo_newIn : zKey := (yX12_newIn, cX12_newIn, 1, some .int)
def K_Mo_pairs : zKey := (yX12_pairs, cX12_pairs, 1, some .int)
def K_Mo_pairsNow : zKey := (yX12_pairsNow, cX12_pairsNow, 3, some .int)
def K_Mo_bitsOf : zKey := (yX12_bitsOf, cX12_bitsOf, 3, some .int)
def K_Mo_life : zKey := (yX12_life, cX12_life, 3, some .int)
def K_Mo_isTrap : zKey := (yX12_isTrap, cX12_isTrap, 3, some .boolean)
def K_Mo_isLost : zKey := (yX12_isLost, cX12_isLost, 2, some .boolean)
def K_Mo_trap : zKey := (yX12_trap, cX12_trap, 3, some .int)
def K_Mo_secret : zKey := (yX12_secret, cX12_secret, 3, some .int)
def K_Mo_safe : zKey := (yX12_safe, cX12_safe, 1, some .int)
def K_Mo_isSafe : zKey := (yX12_isSafe, cX12_isSafe, 2, some .boolean)
def K_Mo_round : zKey := (yX12_round, cX12_round, 8, some .int)
def K_Mo_askedBit : zKey := (yX12_askedBit, cX12_askedBit, 4, some .int)
def K_Mo_isRound : zKey := (yX12_isRound, cX12_isRound, 5, some .boolean)
def K_Mo_goesRound : zKey := (yX12_goesRound, cX12_goesRound, 7, some .boolean)
def K_Mo_withRoom : zKey := (yX12_withRoom, cX12_withRoom, 4, some .int)
def K_Mo_tour : zKey := (yX12_tour, cX12_tour, 9, some .int)
def K_Mo_layOpens : zKey := (yX12_layOpens, cX12_layOpens, 2, none)
def K_Mo_layTours : zKey := (yX12_layTours, cX12_layTours, 3, none)
def K_Mo_onward : zKey := (yX12_onward, cX12_onward, 6, some .int)
def K_Mo_talk : zKey := (yX12_talk, cX12_talk, 8, some .int)
def K_Mo_beginsTwo : zKey := (yX12_beginsTwo, cX12_beginsTwo, 2, none)
def K_Mo_findsTwo : zKey := (yX12_findsTwo, cX12_findsTwo, 3, none)
def K_Mo_layTalk : zKey := (yX12_layTalk, cX12_layTalk, 10, none)
def K_Mo_stays : zKey := (yX12_stays, cX12_stays, 2, some .int)
def K_Mo_doneBy : zKey := (yX12_doneBy, cX12_doneBy, 3, some .int)
def K_Mo_doing : zKey := (yX12_doing, cX12_doing, 4, some .int)
def K_Mo_cup : zKey := (yX12_cup, cX12_cup, 12, some .int)
def K_Mo_findsCup : zKey := (yX12_findsCup, cX12_findsCup, 6, none)
def K_Mo_more : zKey := (yX12_more, cX12_more, 7, some .int)
def K_Mo_worst : zKey := (yX12_worst, cX12_worst, 6, some .int)
def K_Mo_mend : zKey := (yX12_mend, cX12_mend, 3, some .int)
def K_Mo_layMend : zKey := (yX12_layMend, cX12_layMend, 3, some .int)
def K_Mo_mendsOne : zKey := (yX12_mendsOne, cX12_mendsOne, 4, some .boolean)
def K_Mo_tell : zKey := (yX12_tell, cX12_tell, 2, some .int)
def K_Mo_forget : zKey := (yX12_forget, cX12_forget, 2, some .int)
def K_Mo_judge : zKey := (yX12_judge, cX12_judge, 4, some .int)
def K_Mo_ajar : zKey := (yX12_ajar, cX12_ajar, 11, some .int)
def K_Mo_layWays : zKey := (yX12_layWays, cX12_layWays, 8, some .long)
def K_Mo_addWays : zKey := (yX12_addWays, cX12_addWays, 9, none)
def K_Mo_keep : zKey := (yX12_keep, cX12_keep, 3, some .int)
def K_Mo_copies : zKey := (yX12_copies, cX12_copies, 4, none)
def K_Mo_back : zKey := (yX12_back, cX12_back, 2, some .int)
def K_Mo_sheet : zKey := (yX12_sheet, cX12_sheet, 5, some .int)
def K_Mo_lay : zKey := (yX12_lay, cX12_lay, 4, some .int)
def K_Mo_read : zKey := (yX12_read, cX12_read, 12, some .int)
def K_Mo_torn : zKey := (yX12_torn, cX12_torn, 1, some .int)
def K_Mo_count : zKey := (yX12_count, cX12_count, 4, some .int)
def K_Law_law : zKey := (yL_law, cL_law, 4, some .boolean)
end
end
section
section
def M_Mo_path : zMt := (K_Mo_path, RX12, [(0, .aload_n 0, 1), (1, .iload_n 1, 1), (2, .invokevirtual 214, 3), (5, .ifCond .eq 11, 3), (8, .aload_n 0, 1), (9, .iload_n 2, 1), (10, .invokevirtual 214, 3), (13, .ifCond .ne 5, 3), (16, .iconst (-1), 1), (17, .ireturn, 1), (18, .aload_n 0, 1), (19, .iload_n 1, 1), (20, .invokestatic 249, 3), (23, .invokevirtual 240, 3), (26, .aload_n 0, 1), (27, .iload_n 2, 1), (28, .invokevirtual 243, 3), (31, .istore_n 3, 1), (32, .iload_n 3, 1), (33, .bipush (-4), 2), (35, .if_icmp .ne 8, 3), (38, .bipush (-4), 2), (40, .goto 9, 3), (43, .aload_n 0, 1), (44, .getfield 29, 3), (47, .iload_n 3, 1), (48, .iaload, 1), (49, .ireturn, 1)], [(29, 12, 20, 5157)], [(214, K_Mo_isRoom, 12, 1, [6155, 6158, 1013, 6157, 65]), (240, K_Mo_laysFrom, 12, 1, [6195, 6198, 1013, 6197, 69]), (243, K_Mo_foundIn, 12, 1, [6211, 6214, 1013, 6213, 73]), (249, K_Mo_newIn, 100, 1, [6231, 6233, 1013, 6232])], [], 0, fun _ => 0)
def M_Mo_newIn : zMt := (K_Mo_newIn, RX12, [(0, .iload_n 0, 1), (1, .bipush (-4), 2), (3, .bipush (-4), 2), (5, .iconst 0, 1), (6, .invokestatic 192, 3), (9, .ireturn, 1)], [], [(192, K_Mo_placeOf, 100, 4, [6133, 6135, 1013, 6134])], [], 0, fun _ => 0)
def M_Mo_pairs : zMt := (K_Mo_pairs, RX12, [(0, .aload_n 0, 1), (1, .invokevirtual 255, 3), (4, .ireturn, 1)], [], [(255, K_Mo_pairsNow, 12, 0, [6238, 7001, 1013, 7000, 75])], [], 0, fun _ => 0)
def M_Mo_pairsNow : zMt := (K_Mo_pairsNow, RX12, [(0, .iconst 0, 1), (1, .istore_n 1, 1), (2, .iconst 0, 1), (3, .istore_n 2, 1), (4, .iload_n 2, 1), (5, .aload_n 0, 1), (6, .getfield 13, 3), (9, .if_icmp .ge 29, 3), (12, .aload_n 0, 1), (13, .iload_n 2, 1), (14, .invokestatic 249, 3), (17, .invokevirtual 240, 3), (20, .iload_n 1, 1), (21, .aload_n 0, 1), (22, .invokevirtual 246, 3), (25, .invokestatic 252, 3), (28, .iconst 1, 1), (29, .isub, 1), (30, .iadd, 1), (31, .istore_n 1, 1), (32, .iinc 2 1, 3), (35, .goto (-31), 3), (38, .iload_n 1, 1), (39, .ireturn, 1)], [(13, 12, 1, 5138)], [(240, K_Mo_laysFrom, 12, 1, [6195, 6198, 1013, 6197, 69]), (246, K_Mo_foundRooms, 12, 0, [6223, 6226, 1013, 6225, 74]), (249, K_Mo_newIn, 100, 1, [6231, 6233, 1013, 6232]), (252, K_Mo_bitsOf, 100, 1, [7002, 7004, 1013, 7003])], [], 0, fun _ => 0)
def M_Mo_bitsOf : zMt := (K_Mo_bitsOf, RX12, [(0, .iconst 0, 1), (1, .istore_n 1, 1), (2, .iconst 0, 1), (3, .istore_n 2, 1), (4, .iload_n 2, 1), (5, .bipush 14, 2), (7, .if_icmp .ge 17, 3), (10, .iload_n 1, 1), (11, .iload_n 0, 1), (12, .iload_n 2, 1), (13, .ishr, 1), (14, .iconst 1, 1), (15, .iand, 1), (16, .iadd, 1), (17, .istore_n 1, 1), (18, .iinc 2 1, 3), (21, .goto (-17), 3), (24, .iload_n 1, 1), (25, .ireturn, 1)], [], [], [], 0, fun _ => 0)
def M_Mo_life : zMt := (K_Mo_life, RX12, [(0, .iconst 0, 1), (1, .istore_n 1, 1), (2, .iconst 0, 1), (3, .istore_n 2, 1), (4, .iload_n 2, 1), (5, .iconst 2, 1), (6, .aload_n 0, 1), (7, .invokevirtual 180, 3), (10, .imul, 1), (11, .if_icmp .ge 60, 3), (14, .iload_n 1, 1), (15, .aload_n 0, 1), (16, .getfield 7, 3), (19, .iconst 4, 1), (20, .iload_n 2, 1), (21, .iconst 2, 1), (22, .idiv, 1), (23, .imul, 1), (24, .iconst 3, 1), (25, .iadd, 1), (26, .iaload, 1), (27, .ifCond .ne 35, 3), (30, .aload_n 0, 1), (31, .iload_n 2, 1), (32, .iconst 2, 1), (33, .idiv, 1), (34, .iload_n 2, 1), (35, .iconst 2, 1), (36, .irem, 1), (37, .invokevirtual 261, 3), (40, .ifCond .eq 22, 3), (43, .iconst 1, 1), (44, .aload_n 0, 1), (45, .getfield 7, 3), (48, .iconst 4, 1), (49, .iload_n 2, 1), (50, .iconst 2, 1), (51, .idiv, 1), (52, .imul, 1), (53, .iload_n 2, 1), (54, .iconst 2, 1), (55, .irem, 1), (56, .iadd, 1), (57, .iaload, 1), (58, .ishl, 1), (59, .goto 4, 3), (62, .iconst 0, 1), (63, .ior, 1), (64, .istore_n 1, 1), (65, .iinc 2 1, 3), (68, .goto (-64), 3), (71, .iload_n 1, 1), (72, .ireturn, 1)], [(7, 12, 0, 5137)], [(180, K_Mo_doorMany, 12, 0, [6096, 6099, 1013, 6098, 57]), (261, K_Mo_isTrap, 12, 2, [7009, 7012, 1013, 7011, 76])], [], 0, fun _ => 0)
def M_Mo_isTrap : zMt := (K_Mo_isTrap, RX12, [(0, .aload_n 0, 1), (1, .iconst 0, 1), (2, .iload_n 1, 1), (3, .bipush (-4), 2), (5, .iload_n 2, 1), (6, .invokestatic 192, 3), (9, .invokevirtual 258, 3), (12, .ireturn, 1)], [], [(192, K_Mo_placeOf, 100, 4, [6133, 6135, 1013, 6134]), (258, K_Mo_isLost, 12, 1, [7013, 7016, 1013, 7015, 77])], [], 0, fun _ => 0)
def M_Mo_isLost : zMt := (K_Mo_isLost, RX12, [(0, .aload_n 0, 1), (1, .iload_n 1, 1), (2, .invokevirtual 205, 3), (5, .ifCond .ne 7, 3), (8, .iconst 1, 1), (9, .goto 4, 3), (12, .iconst 0, 1), (13, .ireturn, 1)], [], [(205, K_Mo_mayTake, 12, 1, [6136, 6139, 1013, 6138, 62])], [], 0, fun _ => 0)
theorem t1_M_Mo_path : zob M_Mo_path = true := by decide +kernel
theorem t1_M_Mo_newIn : zob M_Mo_newIn = true := by decide +kernel
theorem t1_M_Mo_pairs : zob M_Mo_pairs = true := by decide +kernel
theorem t1_M_Mo_pairsNow : zob M_Mo_pairsNow = true := by decide +kernel
theorem t1_M_Mo_bitsOf : zob M_Mo_bitsOf = true := by decide +kernel
theorem t1_M_Mo_life : zob M_Mo_life = true := by decide +kernel
theorem t1_M_Mo_isTrap : zob M_Mo_isTrap = true := by decide +kernel
theorem t1_M_Mo_isLost : zob M_Mo_isLost = true := by decide +kernel
end
end
