section
-- ===== PART A: goes FIRST, ahead of the names: the tables' words, and 'selects' of the private methods out of them =====
/-- a private method of a class that the tables say can be made, by its rows of tables_1 -/
def lw_okq (q : MethodName × Nat) : Prop := (q.1.cls ≠ "java/lang/invoke/MethodHandle" ∧ q.1.cls ≠ "java/lang/invoke/VarHandle") ∧ Cond.instantiable q.1.cls q.2 ∈ tables_1 ∧ Cond.privateMethod q.1 ∈ tables_1 ∧ Cond.instanceMethod q.1 ∈ tables_1
theorem lw_p0 : lw_okq (⟨"LampSwitches", "sheetAt", "(I)LLampSwitches$Sheet;"⟩, 9) := ⟨⟨by decide +kernel, by decide +kernel⟩, List.mem_of_getElem? (i := 12) (by decide +kernel), List.mem_of_getElem? (i := 216) (by decide +kernel), List.mem_of_getElem? (i := 217) (by decide +kernel)⟩
theorem lw_p1 : lw_okq (⟨"LampSwitches", "faulted", "(I)I"⟩, 9) := ⟨⟨by decide +kernel, by decide +kernel⟩, List.mem_of_getElem? (i := 12) (by decide +kernel), List.mem_of_getElem? (i := 238) (by decide +kernel), List.mem_of_getElem? (i := 239) (by decide +kernel)⟩
theorem lw_p2 : lw_okq (⟨"LampSwitches$TextReader", "codeAt", "(I)I"⟩, 4) := ⟨⟨by decide +kernel, by decide +kernel⟩, List.mem_of_getElem? (i := 73) (by decide +kernel), List.mem_of_getElem? (i := 258) (by decide +kernel), List.mem_of_getElem? (i := 259) (by decide +kernel)⟩
theorem lw_p3 : lw_okq (⟨"LampSwitches$TextReader", "isDigit", "(ICC)Z"⟩, 4) := ⟨⟨by decide +kernel, by decide +kernel⟩, List.mem_of_getElem? (i := 73) (by decide +kernel), List.mem_of_getElem? (i := 262) (by decide +kernel), List.mem_of_getElem? (i := 263) (by decide +kernel)⟩
theorem lw_p4 : lw_okq (⟨"LampSwitches$TextReader", "placeOf", "(I)I"⟩, 4) := ⟨⟨by decide +kernel, by decide +kernel⟩, List.mem_of_getElem? (i := 73) (by decide +kernel), List.mem_of_getElem? (i := 267) (by decide +kernel), List.mem_of_getElem? (i := 268) (by decide +kernel)⟩
theorem lw_p5 : lw_okq (⟨"LampSwitches$TextReader", "faultInSwitch", "(I)I"⟩, 4) := ⟨⟨by decide +kernel, by decide +kernel⟩, List.mem_of_getElem? (i := 73) (by decide +kernel), List.mem_of_getElem? (i := 271) (by decide +kernel), List.mem_of_getElem? (i := 272) (by decide +kernel)⟩
theorem lw_p6 : lw_okq (⟨"LampSwitches$TextReader", "wiresFrom", "(I)I"⟩, 4) := ⟨⟨by decide +kernel, by decide +kernel⟩, List.mem_of_getElem? (i := 73) (by decide +kernel), List.mem_of_getElem? (i := 282) (by decide +kernel), List.mem_of_getElem? (i := 283) (by decide +kernel)⟩
theorem lw_p7 : lw_okq (⟨"LampSwitches", "refusalOfPairs", "(LLampSwitches$Sheet;II)I"⟩, 9) := ⟨⟨by decide +kernel, by decide +kernel⟩, List.mem_of_getElem? (i := 12) (by decide +kernel), List.mem_of_getElem? (i := 375) (by decide +kernel), List.mem_of_getElem? (i := 376) (by decide +kernel)⟩
theorem lw_p8 : lw_okq (⟨"LampSwitches", "refusalOfPair", "(II)I"⟩, 9) := ⟨⟨by decide +kernel, by decide +kernel⟩, List.mem_of_getElem? (i := 12) (by decide +kernel), List.mem_of_getElem? (i := 380) (by decide +kernel), List.mem_of_getElem? (i := 381) (by decide +kernel)⟩
theorem lw_p9 : lw_okq (⟨"LampSwitches$Day", "happens", "(LLampSwitches$Hall;II)Z"⟩, 4) := ⟨⟨by decide +kernel, by decide +kernel⟩, List.mem_of_getElem? (i := 142) (by decide +kernel), List.mem_of_getElem? (i := 392) (by decide +kernel), List.mem_of_getElem? (i := 393) (by decide +kernel)⟩
theorem lw_p10 : lw_okq (⟨"LampSwitches", "ofDay", "(I)I"⟩, 9) := ⟨⟨by decide +kernel, by decide +kernel⟩, List.mem_of_getElem? (i := 12) (by decide +kernel), List.mem_of_getElem? (i := 400) (by decide +kernel), List.mem_of_getElem? (i := 401) (by decide +kernel)⟩
theorem lw_p11 : lw_okq (⟨"LampSwitches$Reach", "spread", "(LLampSwitches$Hall;I)V"⟩, 7) := ⟨⟨by decide +kernel, by decide +kernel⟩, List.mem_of_getElem? (i := 92) (by decide +kernel), List.mem_of_getElem? (i := 421) (by decide +kernel), List.mem_of_getElem? (i := 422) (by decide +kernel)⟩
theorem lw_p12 : lw_okq (⟨"LampSwitches$Reach", "measure", "(LLampSwitches$Hall;)I"⟩, 7) := ⟨⟨by decide +kernel, by decide +kernel⟩, List.mem_of_getElem? (i := 92) (by decide +kernel), List.mem_of_getElem? (i := 425) (by decide +kernel), List.mem_of_getElem? (i := 426) (by decide +kernel)⟩
theorem lw_p13 : lw_okq (⟨"LampSwitches$Reach", "meet", "(II)V"⟩, 7) := ⟨⟨by decide +kernel, by decide +kernel⟩, List.mem_of_getElem? (i := 92) (by decide +kernel), List.mem_of_getElem? (i := 430) (by decide +kernel), List.mem_of_getElem? (i := 431) (by decide +kernel)⟩
theorem lw_p14 : lw_okq (⟨"LampSwitches$Reach", "splitUp", "(LLampSwitches$Hall;I)V"⟩, 7) := ⟨⟨by decide +kernel, by decide +kernel⟩, List.mem_of_getElem? (i := 92) (by decide +kernel), List.mem_of_getElem? (i := 434) (by decide +kernel), List.mem_of_getElem? (i := 435) (by decide +kernel)⟩
theorem lw_p15 : lw_okq (⟨"LampSwitches$Reach", "numberBy", "(LLampSwitches$Hall;II)I"⟩, 7) := ⟨⟨by decide +kernel, by decide +kernel⟩, List.mem_of_getElem? (i := 92) (by decide +kernel), List.mem_of_getElem? (i := 441) (by decide +kernel), List.mem_of_getElem? (i := 442) (by decide +kernel)⟩
def lw_privs_1 : List (MethodName × Nat) := [(⟨"LampSwitches", "sheetAt", "(I)LLampSwitches$Sheet;"⟩, 9), (⟨"LampSwitches", "faulted", "(I)I"⟩, 9), (⟨"LampSwitches$TextReader", "codeAt", "(I)I"⟩, 4), (⟨"LampSwitches$TextReader", "isDigit", "(ICC)Z"⟩, 4), (⟨"LampSwitches$TextReader", "placeOf", "(I)I"⟩, 4), (⟨"LampSwitches$TextReader", "faultInSwitch", "(I)I"⟩, 4), (⟨"LampSwitches$TextReader", "wiresFrom", "(I)I"⟩, 4), (⟨"LampSwitches", "refusalOfPairs", "(LLampSwitches$Sheet;II)I"⟩, 9), (⟨"LampSwitches", "refusalOfPair", "(II)I"⟩, 9), (⟨"LampSwitches$Day", "happens", "(LLampSwitches$Hall;II)Z"⟩, 4), (⟨"LampSwitches", "ofDay", "(I)I"⟩, 9), (⟨"LampSwitches$Reach", "spread", "(LLampSwitches$Hall;I)V"⟩, 7), (⟨"LampSwitches$Reach", "measure", "(LLampSwitches$Hall;)I"⟩, 7), (⟨"LampSwitches$Reach", "meet", "(II)V"⟩, 7), (⟨"LampSwitches$Reach", "splitUp", "(LLampSwitches$Hall;I)V"⟩, 7), (⟨"LampSwitches$Reach", "numberBy", "(LLampSwitches$Hall;II)I"⟩, 7)]
theorem lw_r1 : ∀ q ∈ lw_privs_1, lw_okq q := List.forall_mem_cons.mpr ⟨lw_p0, List.forall_mem_cons.mpr ⟨lw_p1, List.forall_mem_cons.mpr ⟨lw_p2, List.forall_mem_cons.mpr ⟨lw_p3, List.forall_mem_cons.mpr ⟨lw_p4, List.forall_mem_cons.mpr ⟨lw_p5, List.forall_mem_cons.mpr ⟨lw_p6, List.forall_mem_cons.mpr ⟨lw_p7, List.forall_mem_cons.mpr ⟨lw_p8, List.forall_mem_cons.mpr ⟨lw_p9, List.forall_mem_cons.mpr ⟨lw_p10, List.forall_mem_cons.mpr ⟨lw_p11, List.forall_mem_cons.mpr ⟨lw_p12, List.forall_mem_cons.mpr ⟨lw_p13, List.forall_mem_cons.mpr ⟨lw_p14, List.forall_mem_cons.mpr ⟨lw_p15, fun _ h => absurd h List.not_mem_nil⟩⟩⟩⟩⟩⟩⟩⟩⟩⟩⟩⟩⟩⟩⟩⟩
theorem lw_p16 : lw_okq (⟨"LampSwitches$Reach", "fewestTo", "(I)I"⟩, 7) := ⟨⟨by decide +kernel, by decide +kernel⟩, List.mem_of_getElem? (i := 92) (by decide +kernel), List.mem_of_getElem? (i := 445) (by decide +kernel), List.mem_of_getElem? (i := 446) (by decide +kernel)⟩
theorem lw_p17 : lw_okq (⟨"LampSwitches$Reach", "numberOf", "(LLampSwitches$Hall;[I)I"⟩, 7) := ⟨⟨by decide +kernel, by decide +kernel⟩, List.mem_of_getElem? (i := 92) (by decide +kernel), List.mem_of_getElem? (i := 449) (by decide +kernel), List.mem_of_getElem? (i := 450) (by decide +kernel)⟩
theorem lw_p18 : lw_okq (⟨"LampSwitches$Reach", "firstThatLeaves", "(LLampSwitches$Hall;I)I"⟩, 7) := ⟨⟨by decide +kernel, by decide +kernel⟩, List.mem_of_getElem? (i := 92) (by decide +kernel), List.mem_of_getElem? (i := 458) (by decide +kernel), List.mem_of_getElem? (i := 459) (by decide +kernel)⟩
theorem lw_p19 : lw_okq (⟨"LampSwitches", "fitting", "([IIII)I"⟩, 9) := ⟨⟨by decide +kernel, by decide +kernel⟩, List.mem_of_getElem? (i := 12) (by decide +kernel), List.mem_of_getElem? (i := 503) (by decide +kernel), List.mem_of_getElem? (i := 504) (by decide +kernel)⟩
theorem lw_p20 : lw_okq (⟨"LampSwitches$Sheet", "cut", "(I)I"⟩, 3) := ⟨⟨by decide +kernel, by decide +kernel⟩, List.mem_of_getElem? (i := 166) (by decide +kernel), List.mem_of_getElem? (i := 563) (by decide +kernel), List.mem_of_getElem? (i := 564) (by decide +kernel)⟩
theorem lw_p21 : lw_okq (⟨"LampSwitches", "doubleBody", "(I)I"⟩, 9) := ⟨⟨by decide +kernel, by decide +kernel⟩, List.mem_of_getElem? (i := 12) (by decide +kernel), List.mem_of_getElem? (i := 579) (by decide +kernel), List.mem_of_getElem? (i := 580) (by decide +kernel)⟩
theorem lw_p22 : lw_okq (⟨"LampSwitches", "leave", "(I)V"⟩, 9) := ⟨⟨by decide +kernel, by decide +kernel⟩, List.mem_of_getElem? (i := 12) (by decide +kernel), List.mem_of_getElem? (i := 583) (by decide +kernel), List.mem_of_getElem? (i := 584) (by decide +kernel)⟩
theorem lw_p23 : lw_okq (⟨"LampSwitches", "broadBody", "(I)I"⟩, 9) := ⟨⟨by decide +kernel, by decide +kernel⟩, List.mem_of_getElem? (i := 12) (by decide +kernel), List.mem_of_getElem? (i := 587) (by decide +kernel), List.mem_of_getElem? (i := 588) (by decide +kernel)⟩
theorem lw_p24 : lw_okq (⟨"LampSwitches", "plainBody", "(I)I"⟩, 9) := ⟨⟨by decide +kernel, by decide +kernel⟩, List.mem_of_getElem? (i := 12) (by decide +kernel), List.mem_of_getElem? (i := 591) (by decide +kernel), List.mem_of_getElem? (i := 592) (by decide +kernel)⟩
theorem lw_p25 : lw_okq (⟨"LampSwitches", "ownBody", "()I"⟩, 9) := ⟨⟨by decide +kernel, by decide +kernel⟩, List.mem_of_getElem? (i := 12) (by decide +kernel), List.mem_of_getElem? (i := 599) (by decide +kernel), List.mem_of_getElem? (i := 600) (by decide +kernel)⟩
theorem lw_p26 : lw_okq (⟨"LampSwitches", "lentBody", "(I)I"⟩, 9) := ⟨⟨by decide +kernel, by decide +kernel⟩, List.mem_of_getElem? (i := 12) (by decide +kernel), List.mem_of_getElem? (i := 603) (by decide +kernel), List.mem_of_getElem? (i := 604) (by decide +kernel)⟩
theorem lw_p27 : lw_okq (⟨"LampSwitchesModel", "against", "(IIII)I"⟩, 28) := ⟨⟨by decide +kernel, by decide +kernel⟩, List.mem_of_getElem? (i := 627) (by decide +kernel), List.mem_of_getElem? (i := 731) (by decide +kernel), List.mem_of_getElem? (i := 732) (by decide +kernel)⟩
theorem lw_p28 : lw_okq (⟨"LampSwitchesModel", "fails", "(I)I"⟩, 28) := ⟨⟨by decide +kernel, by decide +kernel⟩, List.mem_of_getElem? (i := 627) (by decide +kernel), List.mem_of_getElem? (i := 735) (by decide +kernel), List.mem_of_getElem? (i := 736) (by decide +kernel)⟩
theorem lw_p29 : lw_okq (⟨"LampSwitchesModel", "readHall", "(I)Z"⟩, 28) := ⟨⟨by decide +kernel, by decide +kernel⟩, List.mem_of_getElem? (i := 627) (by decide +kernel), List.mem_of_getElem? (i := 739) (by decide +kernel), List.mem_of_getElem? (i := 740) (by decide +kernel)⟩
theorem lw_p30 : lw_okq (⟨"LampSwitchesModel", "isSign", "(II)Z"⟩, 28) := ⟨⟨by decide +kernel, by decide +kernel⟩, List.mem_of_getElem? (i := 627) (by decide +kernel), List.mem_of_getElem? (i := 743) (by decide +kernel), List.mem_of_getElem? (i := 744) (by decide +kernel)⟩
theorem lw_p31 : lw_okq (⟨"LampSwitchesModel", "digit", "(III)I"⟩, 28) := ⟨⟨by decide +kernel, by decide +kernel⟩, List.mem_of_getElem? (i := 627) (by decide +kernel), List.mem_of_getElem? (i := 747) (by decide +kernel), List.mem_of_getElem? (i := 748) (by decide +kernel)⟩
def lw_privs_2 : List (MethodName × Nat) := [(⟨"LampSwitches$Reach", "fewestTo", "(I)I"⟩, 7), (⟨"LampSwitches$Reach", "numberOf", "(LLampSwitches$Hall;[I)I"⟩, 7), (⟨"LampSwitches$Reach", "firstThatLeaves", "(LLampSwitches$Hall;I)I"⟩, 7), (⟨"LampSwitches", "fitting", "([IIII)I"⟩, 9), (⟨"LampSwitches$Sheet", "cut", "(I)I"⟩, 3), (⟨"LampSwitches", "doubleBody", "(I)I"⟩, 9), (⟨"LampSwitches", "leave", "(I)V"⟩, 9), (⟨"LampSwitches", "broadBody", "(I)I"⟩, 9), (⟨"LampSwitches", "plainBody", "(I)I"⟩, 9), (⟨"LampSwitches", "ownBody", "()I"⟩, 9), (⟨"LampSwitches", "lentBody", "(I)I"⟩, 9), (⟨"LampSwitchesModel", "against", "(IIII)I"⟩, 28), (⟨"LampSwitchesModel", "fails", "(I)I"⟩, 28), (⟨"LampSwitchesModel", "readHall", "(I)Z"⟩, 28), (⟨"LampSwitchesModel", "isSign", "(II)Z"⟩, 28), (⟨"LampSwitchesModel", "digit", "(III)I"⟩, 28)]
theorem lw_r2 : ∀ q ∈ lw_privs_2, lw_okq q := List.forall_mem_cons.mpr ⟨lw_p16, List.forall_mem_cons.mpr ⟨lw_p17, List.forall_mem_cons.mpr ⟨lw_p18, List.forall_mem_cons.mpr ⟨lw_p19, List.forall_mem_cons.mpr ⟨lw_p20, List.forall_mem_cons.mpr ⟨lw_p21, List.forall_mem_cons.mpr ⟨lw_p22, List.forall_mem_cons.mpr ⟨lw_p23, List.forall_mem_cons.mpr ⟨lw_p24, List.forall_mem_cons.mpr ⟨lw_p25, List.forall_mem_cons.mpr ⟨lw_p26, List.forall_mem_cons.mpr ⟨lw_p27, List.forall_mem_cons.mpr ⟨lw_p28, List.forall_mem_cons.mpr ⟨lw_p29, List.forall_mem_cons.mpr ⟨lw_p30, List.forall_mem_cons.mpr ⟨lw_p31, fun _ h => absurd h List.not_mem_nil⟩⟩⟩⟩⟩⟩⟩⟩⟩⟩⟩⟩⟩⟩⟩⟩
theorem lw_p32 : lw_okq (⟨"LampSwitchesModel", "readSwitch", "(I)Z"⟩, 28) := ⟨⟨by decide +kernel, by decide +kernel⟩, List.mem_of_getElem? (i := 627) (by decide +kernel), List.mem_of_getElem? (i := 751) (by decide +kernel), List.mem_of_getElem? (i := 752) (by decide +kernel)⟩
theorem lw_p33 : lw_okq (⟨"LampSwitchesModel", "takeHall", "()V"⟩, 28) := ⟨⟨by decide +kernel, by decide +kernel⟩, List.mem_of_getElem? (i := 627) (by decide +kernel), List.mem_of_getElem? (i := 755) (by decide +kernel), List.mem_of_getElem? (i := 756) (by decide +kernel)⟩
theorem lw_p34 : lw_okq (⟨"LampSwitchesModel", "isLamp", "(I)Z"⟩, 28) := ⟨⟨by decide +kernel, by decide +kernel⟩, List.mem_of_getElem? (i := 627) (by decide +kernel), List.mem_of_getElem? (i := 763) (by decide +kernel), List.mem_of_getElem? (i := 764) (by decide +kernel)⟩
theorem lw_p35 : lw_okq (⟨"LampSwitchesModel", "wiredTo", "(I)I"⟩, 28) := ⟨⟨by decide +kernel, by decide +kernel⟩, List.mem_of_getElem? (i := 627) (by decide +kernel), List.mem_of_getElem? (i := 767) (by decide +kernel), List.mem_of_getElem? (i := 768) (by decide +kernel)⟩
theorem lw_p36 : lw_okq (⟨"LampSwitchesModel", "isSwitch", "(I)Z"⟩, 28) := ⟨⟨by decide +kernel, by decide +kernel⟩, List.mem_of_getElem? (i := 627) (by decide +kernel), List.mem_of_getElem? (i := 778) (by decide +kernel), List.mem_of_getElem? (i := 779) (by decide +kernel)⟩
theorem lw_p37 : lw_okq (⟨"LampSwitchesModel", "movesOf", "(I)I"⟩, 28) := ⟨⟨by decide +kernel, by decide +kernel⟩, List.mem_of_getElem? (i := 627) (by decide +kernel), List.mem_of_getElem? (i := 782) (by decide +kernel), List.mem_of_getElem? (i := 783) (by decide +kernel)⟩
theorem lw_p38 : lw_okq (⟨"LampSwitchesModel", "turnsAll", "(II)V"⟩, 28) := ⟨⟨by decide +kernel, by decide +kernel⟩, List.mem_of_getElem? (i := 627) (by decide +kernel), List.mem_of_getElem? (i := 802) (by decide +kernel), List.mem_of_getElem? (i := 803) (by decide +kernel)⟩
theorem lw_p39 : lw_okq (⟨"LampSwitchesModel", "darkNow", "()I"⟩, 28) := ⟨⟨by decide +kernel, by decide +kernel⟩, List.mem_of_getElem? (i := 627) (by decide +kernel), List.mem_of_getElem? (i := 806) (by decide +kernel), List.mem_of_getElem? (i := 807) (by decide +kernel)⟩
theorem lw_p40 : lw_okq (⟨"LampSwitchesModel", "refusesPair", "(II)I"⟩, 28) := ⟨⟨by decide +kernel, by decide +kernel⟩, List.mem_of_getElem? (i := 627) (by decide +kernel), List.mem_of_getElem? (i := 814) (by decide +kernel), List.mem_of_getElem? (i := 815) (by decide +kernel)⟩
theorem lw_p41 : lw_okq (⟨"LampSwitchesModel", "keep", "()V"⟩, 28) := ⟨⟨by decide +kernel, by decide +kernel⟩, List.mem_of_getElem? (i := 627) (by decide +kernel), List.mem_of_getElem? (i := 818) (by decide +kernel), List.mem_of_getElem? (i := 819) (by decide +kernel)⟩
theorem lw_p42 : lw_okq (⟨"LampSwitchesModel", "goDay", "(II)I"⟩, 28) := ⟨⟨by decide +kernel, by decide +kernel⟩, List.mem_of_getElem? (i := 627) (by decide +kernel), List.mem_of_getElem? (i := 822) (by decide +kernel), List.mem_of_getElem? (i := 823) (by decide +kernel)⟩
theorem lw_p43 : lw_okq (⟨"LampSwitchesModel", "does", "(II)Z"⟩, 28) := ⟨⟨by decide +kernel, by decide +kernel⟩, List.mem_of_getElem? (i := 627) (by decide +kernel), List.mem_of_getElem? (i := 826) (by decide +kernel), List.mem_of_getElem? (i := 827) (by decide +kernel)⟩
theorem lw_p44 : lw_okq (⟨"LampSwitchesModel", "tellDay", "(I)I"⟩, 28) := ⟨⟨by decide +kernel, by decide +kernel⟩, List.mem_of_getElem? (i := 627) (by decide +kernel), List.mem_of_getElem? (i := 830) (by decide +kernel), List.mem_of_getElem? (i := 831) (by decide +kernel)⟩
theorem lw_p45 : lw_okq (⟨"LampSwitchesModel", "allShades", "()I"⟩, 28) := ⟨⟨by decide +kernel, by decide +kernel⟩, List.mem_of_getElem? (i := 627) (by decide +kernel), List.mem_of_getElem? (i := 834) (by decide +kernel), List.mem_of_getElem? (i := 835) (by decide +kernel)⟩
theorem lw_p46 : lw_okq (⟨"LampSwitchesModel", "putBack", "()V"⟩, 28) := ⟨⟨by decide +kernel, by decide +kernel⟩, List.mem_of_getElem? (i := 627) (by decide +kernel), List.mem_of_getElem? (i := 838) (by decide +kernel), List.mem_of_getElem? (i := 839) (by decide +kernel)⟩
theorem lw_p47 : lw_okq (⟨"LampSwitchesModel", "findFar", "()V"⟩, 28) := ⟨⟨by decide +kernel, by decide +kernel⟩, List.mem_of_getElem? (i := 627) (by decide +kernel), List.mem_of_getElem? (i := 846) (by decide +kernel), List.mem_of_getElem? (i := 847) (by decide +kernel)⟩
def lw_privs_3 : List (MethodName × Nat) := [(⟨"LampSwitchesModel", "readSwitch", "(I)Z"⟩, 28), (⟨"LampSwitchesModel", "takeHall", "()V"⟩, 28), (⟨"LampSwitchesModel", "isLamp", "(I)Z"⟩, 28), (⟨"LampSwitchesModel", "wiredTo", "(I)I"⟩, 28), (⟨"LampSwitchesModel", "isSwitch", "(I)Z"⟩, 28), (⟨"LampSwitchesModel", "movesOf", "(I)I"⟩, 28), (⟨"LampSwitchesModel", "turnsAll", "(II)V"⟩, 28), (⟨"LampSwitchesModel", "darkNow", "()I"⟩, 28), (⟨"LampSwitchesModel", "refusesPair", "(II)I"⟩, 28), (⟨"LampSwitchesModel", "keep", "()V"⟩, 28), (⟨"LampSwitchesModel", "goDay", "(II)I"⟩, 28), (⟨"LampSwitchesModel", "does", "(II)Z"⟩, 28), (⟨"LampSwitchesModel", "tellDay", "(I)I"⟩, 28), (⟨"LampSwitchesModel", "allShades", "()I"⟩, 28), (⟨"LampSwitchesModel", "putBack", "()V"⟩, 28), (⟨"LampSwitchesModel", "findFar", "()V"⟩, 28)]
theorem lw_r3 : ∀ q ∈ lw_privs_3, lw_okq q := List.forall_mem_cons.mpr ⟨lw_p32, List.forall_mem_cons.mpr ⟨lw_p33, List.forall_mem_cons.mpr ⟨lw_p34, List.forall_mem_cons.mpr ⟨lw_p35, List.forall_mem_cons.mpr ⟨lw_p36, List.forall_mem_cons.mpr ⟨lw_p37, List.forall_mem_cons.mpr ⟨lw_p38, List.forall_mem_cons.mpr ⟨lw_p39, List.forall_mem_cons.mpr ⟨lw_p40, List.forall_mem_cons.mpr ⟨lw_p41, List.forall_mem_cons.mpr ⟨lw_p42, List.forall_mem_cons.mpr ⟨lw_p43, List.forall_mem_cons.mpr ⟨lw_p44, List.forall_mem_cons.mpr ⟨lw_p45, List.forall_mem_cons.mpr ⟨lw_p46, List.forall_mem_cons.mpr ⟨lw_p47, fun _ h => absurd h List.not_mem_nil⟩⟩⟩⟩⟩⟩⟩⟩⟩⟩⟩⟩⟩⟩⟩⟩
theorem lw_p48 : lw_okq (⟨"LampSwitchesModel", "manyOf", "()I"⟩, 28) := ⟨⟨by decide +kernel, by decide +kernel⟩, List.mem_of_getElem? (i := 627) (by decide +kernel), List.mem_of_getElem? (i := 850) (by decide +kernel), List.mem_of_getElem? (i := 851) (by decide +kernel)⟩
theorem lw_p49 : lw_okq (⟨"LampSwitchesModel", "movedBy", "(IIZ)I"⟩, 28) := ⟨⟨by decide +kernel, by decide +kernel⟩, List.mem_of_getElem? (i := 627) (by decide +kernel), List.mem_of_getElem? (i := 854) (by decide +kernel), List.mem_of_getElem? (i := 855) (by decide +kernel)⟩
theorem lw_p50 : lw_okq (⟨"LampSwitchesModel", "onTo", "(I)I"⟩, 28) := ⟨⟨by decide +kernel, by decide +kernel⟩, List.mem_of_getElem? (i := 627) (by decide +kernel), List.mem_of_getElem? (i := 858) (by decide +kernel), List.mem_of_getElem? (i := 859) (by decide +kernel)⟩
theorem lw_p51 : lw_okq (⟨"LampSwitchesModel", "fewestOf", "(II)I"⟩, 28) := ⟨⟨by decide +kernel, by decide +kernel⟩, List.mem_of_getElem? (i := 627) (by decide +kernel), List.mem_of_getElem? (i := 862) (by decide +kernel), List.mem_of_getElem? (i := 863) (by decide +kernel)⟩
theorem lw_p52 : lw_okq (⟨"LampSwitchesModel", "findMany", "(I)I"⟩, 28) := ⟨⟨by decide +kernel, by decide +kernel⟩, List.mem_of_getElem? (i := 627) (by decide +kernel), List.mem_of_getElem? (i := 870) (by decide +kernel), List.mem_of_getElem? (i := 871) (by decide +kernel)⟩
theorem lw_p53 : lw_okq (⟨"LampSwitchesModel", "areSo", "()Z"⟩, 28) := ⟨⟨by decide +kernel, by decide +kernel⟩, List.mem_of_getElem? (i := 627) (by decide +kernel), List.mem_of_getElem? (i := 898) (by decide +kernel), List.mem_of_getElem? (i := 899) (by decide +kernel)⟩
theorem lw_p54 : lw_okq (⟨"LampSwitchesModel", "lost", "(I)J"⟩, 28) := ⟨⟨by decide +kernel, by decide +kernel⟩, List.mem_of_getElem? (i := 627) (by decide +kernel), List.mem_of_getElem? (i := 934) (by decide +kernel), List.mem_of_getElem? (i := 935) (by decide +kernel)⟩
theorem lw_p55 : lw_okq (⟨"LampSwitchesModel", "begins", "(I)V"⟩, 28) := ⟨⟨by decide +kernel, by decide +kernel⟩, List.mem_of_getElem? (i := 627) (by decide +kernel), List.mem_of_getElem? (i := 946) (by decide +kernel), List.mem_of_getElem? (i := 947) (by decide +kernel)⟩
def lw_privs_4 : List (MethodName × Nat) := [(⟨"LampSwitchesModel", "manyOf", "()I"⟩, 28), (⟨"LampSwitchesModel", "movedBy", "(IIZ)I"⟩, 28), (⟨"LampSwitchesModel", "onTo", "(I)I"⟩, 28), (⟨"LampSwitchesModel", "fewestOf", "(II)I"⟩, 28), (⟨"LampSwitchesModel", "findMany", "(I)I"⟩, 28), (⟨"LampSwitchesModel", "areSo", "()Z"⟩, 28), (⟨"LampSwitchesModel", "lost", "(I)J"⟩, 28), (⟨"LampSwitchesModel", "begins", "(I)V"⟩, 28)]
theorem lw_r4 : ∀ q ∈ lw_privs_4, lw_okq q := List.forall_mem_cons.mpr ⟨lw_p48, List.forall_mem_cons.mpr ⟨lw_p49, List.forall_mem_cons.mpr ⟨lw_p50, List.forall_mem_cons.mpr ⟨lw_p51, List.forall_mem_cons.mpr ⟨lw_p52, List.forall_mem_cons.mpr ⟨lw_p53, List.forall_mem_cons.mpr ⟨lw_p54, List.forall_mem_cons.mpr ⟨lw_p55, fun _ h => absurd h List.not_mem_nil⟩⟩⟩⟩⟩⟩⟩⟩
def lw_privs : List (MethodName × Nat) := lw_privs_1 ++ (lw_privs_2 ++ (lw_privs_3 ++ (lw_privs_4)))
def lw_tbl : List Cond := k2_sels lw_privs ++ tables_1
theorem lw_privs_ok : ∀ q ∈ lw_privs, lw_okq q := by
  show ∀ q ∈ lw_privs_1 ++ (lw_privs_2 ++ (lw_privs_3 ++ (lw_privs_4))), lw_okq q
  exact List.forall_mem_append.mpr ⟨lw_r1, List.forall_mem_append.mpr ⟨lw_r2, List.forall_mem_append.mpr ⟨lw_r3, lw_r4⟩⟩⟩
end
section
def RX0 : String := "LampSwitches$Day"
def TX0 : u_T := fun k => match k with
  | 0 => ("LampSwitches$Day", "then", "[I", true)
  | 1 => ("LampSwitches$Day", "firstWrong", "I", false)
  | 2 => ("LampSwitches$Day", "pressed", "I", false)
  | _ => ("LampSwitches$Day", "darkBehind", "I", false)
def tyX0 : Nat → FieldType := fun k => match k with
  | 0 => .array .int
  | 1 => .int
  | 2 => .int
  | _ => .int
abbrev wsX00 : List Cond := u_ws RX0 TX0 4
theorem nmX0 : ∀ a, a < 4 → ∀ b, b < 4 → a ≠ b → (TX0 a).2.1 ≠ (TX0 b).2.1 := by decide +kernel
theorem tyX0_ok : ∀ k, k < 4 → parseFieldDescriptor (TX0 k).2.2.1 = some (tyX0 k) := by decide +kernel
abbrev cX0_init : ByteArray := prog_2_method_1_code
def yX0_init : MethodName := ⟨RX0, "<init>", "()V"⟩
abbrev cX0_goThrough : ByteArray := prog_2_method_2_code
def yX0_goThrough : MethodName := ⟨RX0, "goThrough", "(LLampSwitches$Hall;LLampSwitches$Sheet;II)V"⟩
abbrev cX0_happens : ByteArray := prog_2_method_3_code
def yX0_happens : MethodName := ⟨RX0, "happens", "(LLampSwitches$Hall;II)Z"⟩
def RX1 : String := "LampSwitches$Hall"
def TX1 : u_T := fun k => match k with
  | 0 => ("LampSwitches$Hall", "lamps", "I", false)
  | 1 => ("LampSwitches$Hall", "shades", "[I", true)
  | 2 => ("LampSwitches$Hall", "now", "[I", true)
  | 3 => ("LampSwitches$Hall", "switches", "I", false)
  | 4 => ("LampSwitches$Hall", "kind", "[I", true)
  | 5 => ("LampSwitches$Hall", "turn", "[I", true)
  | 6 => ("LampSwitches$Hall", "wires", "[I", true)
  | _ => ("LampSwitches$Hall", "presses", "[I", true)
def tyX1 : Nat → FieldType := fun k => match k with
  | 0 => .int
  | 1 => .array .int
  | 2 => .array .int
  | 3 => .int
  | 4 => .array .int
  | 5 => .array .int
  | 6 => .array .int
  | _ => .array .int
abbrev wsX10 : List Cond := u_ws RX1 TX1 8
theorem nmX1 : ∀ a, a < 8 → ∀ b, b < 8 → a ≠ b → (TX1 a).2.1 ≠ (TX1 b).2.1 := by decide +kernel
theorem tyX1_ok : ∀ k, k < 8 → parseFieldDescriptor (TX1 k).2.2.1 = some (tyX1 k) := by decide +kernel
abbrev cX1_init : ByteArray := prog_3_method_1_code
def yX1_init : MethodName := ⟨RX1, "<init>", "()V"⟩
abbrev cX1_isMissing : ByteArray := prog_3_method_2_code
def yX1_isMissing : MethodName := ⟨RX1, "isMissing", "()Z"⟩
abbrev cX1_hasLamp : ByteArray := prog_3_method_3_code
def yX1_hasLamp : MethodName := ⟨RX1, "hasLamp", "(I)Z"⟩
abbrev cX1_hasSwitch : ByteArray := prog_3_method_4_code
def yX1_hasSwitch : MethodName := ⟨RX1, "hasSwitch", "(I)Z"⟩
abbrev cX1_hasShade : ByteArray := prog_3_method_5_code
def yX1_hasShade : MethodName := ⟨RX1, "hasShade", "(II)Z"⟩
abbrev cX1_allSwitches : ByteArray := prog_3_method_6_code
def yX1_allSwitches : MethodName := ⟨RX1, "allSwitches", "()I"⟩
abbrev cX1_isWired : ByteArray := prog_3_method_7_code
def yX1_isWired : MethodName := ⟨RX1, "isWired", "(II)Z"⟩
abbrev cX1_switchesTo : ByteArray := prog_3_method_8_code
def yX1_switchesTo : MethodName := ⟨RX1, "switchesTo", "(I)I"⟩
abbrev cX1_moves : ByteArray := prog_3_method_9_code
def yX1_moves : MethodName := ⟨RX1, "moves", "(I)I"⟩
abbrev cX1_stepOf : ByteArray := prog_3_method_10_code
def yX1_stepOf : MethodName := ⟨RX1, "stepOf", "(II)I"⟩
abbrev cX1_turnOn : ByteArray := prog_3_method_11_code
def yX1_turnOn : MethodName := ⟨RX1, "turnOn", "([III)V"⟩
abbrev cX1_darkIn : ByteArray := prog_3_method_12_code
def yX1_darkIn : MethodName := ⟨RX1, "darkIn", "([I)I"⟩
abbrev cX1_shadesIn : ByteArray := prog_3_method_13_code
def yX1_shadesIn : MethodName := ⟨RX1, "shadesIn", "([I)I"⟩
abbrev cX1_pressesInAll : ByteArray := prog_3_method_14_code
def yX1_pressesInAll : MethodName := ⟨RX1, "pressesInAll", "()I"⟩
abbrev cX1_darkRows : ByteArray := prog_3_method_15_code
def yX1_darkRows : MethodName := ⟨RX1, "darkRows", "([II)I"⟩
def RX2 : String := "LampSwitches$Reach"
def TX2 : u_T := fun k => match k with
  | 0 => ("LampSwitches$Reach", "weight", "[I", true)
  | 1 => ("LampSwitches$Reach", "steps", "[[I", true)
  | 2 => ("LampSwitches$Reach", "digits", "[I", true)
  | 3 => ("LampSwitches$Reach", "fewest", "[I", true)
  | 4 => ("LampSwitches$Reach", "queue", "[I", true)
  | 5 => ("LampSwitches$Reach", "found", "I", false)
  | _ => ("LampSwitches$Reach", "setOfRows", "I", false)
def tyX2 : Nat → FieldType := fun k => match k with
  | 0 => .array .int
  | 1 => .array (.array .int)
  | 2 => .array .int
  | 3 => .array .int
  | 4 => .array .int
  | 5 => .int
  | _ => .int
abbrev wsX20 : List Cond := u_ws RX2 TX2 7
theorem nmX2 : ∀ a, a < 7 → ∀ b, b < 7 → a ≠ b → (TX2 a).2.1 ≠ (TX2 b).2.1 := by decide +kernel
theorem tyX2_ok : ∀ k, k < 7 → parseFieldDescriptor (TX2 k).2.2.1 = some (tyX2 k) := by decide +kernel
abbrev cX2_init : ByteArray := prog_4_method_1_code
def yX2_init : MethodName := ⟨RX2, "<init>", "()V"⟩
abbrev cX2_forget : ByteArray := prog_4_method_2_code
def yX2_forget : MethodName := ⟨RX2, "forget", "()V"⟩
abbrev cX2_manyBy : ByteArray := prog_4_method_3_code
def yX2_manyBy : MethodName := ⟨RX2, "manyBy", "(LLampSwitches$Hall;I)I"⟩
abbrev cX2_pressesFor : ByteArray := prog_4_method_4_code
def yX2_pressesFor : MethodName := ⟨RX2, "pressesFor", "(LLampSwitches$Hall;[I)I"⟩
abbrev cX2_pressesForNothing : ByteArray := prog_4_method_5_code
def yX2_pressesForNothing : MethodName := ⟨RX2, "pressesForNothing", "(LLampSwitches$Hall;)I"⟩
abbrev cX2_placeInRow : ByteArray := prog_4_method_6_code
def yX2_placeInRow : MethodName := ⟨RX2, "placeInRow", "(LLampSwitches$Hall;[II)I"⟩
abbrev cX2_firstThatLeaves : ByteArray := prog_4_method_7_code
def yX2_firstThatLeaves : MethodName := ⟨RX2, "firstThatLeaves", "(LLampSwitches$Hall;I)I"⟩
abbrev cX2_fewestTo : ByteArray := prog_4_method_8_code
def yX2_fewestTo : MethodName := ⟨RX2, "fewestTo", "(I)I"⟩
abbrev cX2_spread : ByteArray := prog_4_method_9_code
def yX2_spread : MethodName := ⟨RX2, "spread", "(LLampSwitches$Hall;I)V"⟩
abbrev cX2_meet : ByteArray := prog_4_method_10_code
def yX2_meet : MethodName := ⟨RX2, "meet", "(II)V"⟩
abbrev cX2_measure : ByteArray := prog_4_method_11_code
def yX2_measure : MethodName := ⟨RX2, "measure", "(LLampSwitches$Hall;)I"⟩
abbrev cX2_splitUp : ByteArray := prog_4_method_12_code
def yX2_splitUp : MethodName := ⟨RX2, "splitUp", "(LLampSwitches$Hall;I)V"⟩
abbrev cX2_numberOf : ByteArray := prog_4_method_13_code
def yX2_numberOf : MethodName := ⟨RX2, "numberOf", "(LLampSwitches$Hall;[I)I"⟩
abbrev cX2_numberBy : ByteArray := prog_4_method_14_code
def yX2_numberBy : MethodName := ⟨RX2, "numberBy", "(LLampSwitches$Hall;II)I"⟩
def RX3 : String := "LampSwitches$Readings"
def TX3 : u_T := fun k => match k with
  | 0 => ("LampSwitches$Readings", "many", "I", false)
  | 1 => ("LampSwitches$Readings", "pressed", "[I", true)
  | 2 => ("LampSwitches$Readings", "lamp", "[I", true)
  | _ => ("LampSwitches$Readings", "seen", "[I", true)
def tyX3 : Nat → FieldType := fun k => match k with
  | 0 => .int
  | 1 => .array .int
  | 2 => .array .int
  | _ => .array .int
abbrev wsX30 : List Cond := u_ws RX3 TX3 4
theorem nmX3 : ∀ a, a < 4 → ∀ b, b < 4 → a ≠ b → (TX3 a).2.1 ≠ (TX3 b).2.1 := by decide +kernel
theorem tyX3_ok : ∀ k, k < 4 → parseFieldDescriptor (TX3 k).2.2.1 = some (tyX3 k) := by decide +kernel
abbrev cX3_init : ByteArray := prog_5_method_1_code
def yX3_init : MethodName := ⟨RX3, "<init>", "()V"⟩
abbrev cX3_add : ByteArray := prog_5_method_2_code
def yX3_add : MethodName := ⟨RX3, "add", "(III)I"⟩
abbrev cX3_areSo : ByteArray := prog_5_method_3_code
def yX3_areSo : MethodName := ⟨RX3, "areSo", "(LLampSwitches$Hall;)Z"⟩
def RX4 : String := "LampSwitches$Sheet"
def TX4 : u_T := fun k => match k with
  | 0 => ("LampSwitches$Sheet", "lane", "I", false)
  | 1 => ("LampSwitches$Sheet", "cells", "[I", true)
  | _ => ("LampSwitches$Sheet", "size", "I", false)
def tyX4 : Nat → FieldType := fun k => match k with
  | 0 => .int
  | 1 => .array .int
  | _ => .int
abbrev wsX40 : List Cond := u_ws RX4 TX4 3
theorem nmX4 : ∀ a, a < 3 → ∀ b, b < 3 → a ≠ b → (TX4 a).2.1 ≠ (TX4 b).2.1 := by decide +kernel
theorem tyX4_ok : ∀ k, k < 3 → parseFieldDescriptor (TX4 k).2.2.1 = some (tyX4 k) := by decide +kernel
abbrev cX4_init : ByteArray := prog_6_method_1_code
def yX4_init : MethodName := ⟨RX4, "<init>", "()V"⟩
abbrev cX4_begin : ByteArray := prog_6_method_2_code
def yX4_begin : MethodName := ⟨RX4, "begin", "(II)V"⟩
abbrev cX4_end : ByteArray := prog_6_method_3_code
def yX4_end : MethodName := ⟨RX4, "end", "()V"⟩
abbrev cX4_isNothing : ByteArray := prog_6_method_4_code
def yX4_isNothing : MethodName := ⟨RX4, "isNothing", "()Z"⟩
abbrev cX4_hasCells : ByteArray := prog_6_method_5_code
def yX4_hasCells : MethodName := ⟨RX4, "hasCells", "(II)Z"⟩
abbrev cX4_faultAs : ByteArray := prog_6_method_6_code
def yX4_faultAs : MethodName := ⟨RX4, "faultAs", "(I)I"⟩
abbrev cX4_faultOfCells : ByteArray := prog_6_method_7_code
def yX4_faultOfCells : MethodName := ⟨RX4, "faultOfCells", "(III)I"⟩
abbrev cX4_at : ByteArray := prog_6_method_8_code
def yX4_at : MethodName := ⟨RX4, "at", "(I)I"⟩
abbrev cX4_set : ByteArray := prog_6_method_9_code
def yX4_set : MethodName := ⟨RX4, "set", "(II)V"⟩
abbrev cX4_cut : ByteArray := prog_6_method_10_code
def yX4_cut : MethodName := ⟨RX4, "cut", "(I)I"⟩
def RX5 : String := "LampSwitches$TextReader"
def TX5 : u_T := fun k => match k with
  | 0 => ("LampSwitches$TextReader", "codes", "[I", true)
  | 1 => ("LampSwitches$TextReader", "many", "I", false)
  | 2 => ("LampSwitches$TextReader", "lamps", "I", false)
  | _ => ("LampSwitches$TextReader", "switches", "I", false)
def tyX5 : Nat → FieldType := fun k => match k with
  | 0 => .array .int
  | 1 => .int
  | 2 => .int
  | _ => .int
abbrev wsX50 : List Cond := u_ws RX5 TX5 4
theorem nmX5 : ∀ a, a < 4 → ∀ b, b < 4 → a ≠ b → (TX5 a).2.1 ≠ (TX5 b).2.1 := by decide +kernel
theorem tyX5_ok : ∀ k, k < 4 → parseFieldDescriptor (TX5 k).2.2.1 = some (tyX5 k) := by decide +kernel
abbrev cX5_init : ByteArray := prog_7_method_1_code
def yX5_init : MethodName := ⟨RX5, "<init>", "()V"⟩
abbrev cX5_take : ByteArray := prog_7_method_2_code
def yX5_take : MethodName := ⟨RX5, "take", "(LLampSwitches$Sheet;II)V"⟩
abbrev cX5_codeAt : ByteArray := prog_7_method_3_code
def yX5_codeAt : MethodName := ⟨RX5, "codeAt", "(I)I"⟩
abbrev cX5_isDigit : ByteArray := prog_7_method_4_code
def yX5_isDigit : MethodName := ⟨RX5, "isDigit", "(ICC)Z"⟩
abbrev cX5_firstFault : ByteArray := prog_7_method_5_code
def yX5_firstFault : MethodName := ⟨RX5, "firstFault", "()I"⟩
abbrev cX5_placeOf : ByteArray := prog_7_method_6_code
def yX5_placeOf : MethodName := ⟨RX5, "placeOf", "(I)I"⟩
abbrev cX5_faultInSwitch : ByteArray := prog_7_method_7_code
def yX5_faultInSwitch : MethodName := ⟨RX5, "faultInSwitch", "(I)I"⟩
abbrev cX5_kindOf : ByteArray := prog_7_method_8_code
def yX5_kindOf : MethodName := ⟨RX5, "kindOf", "(I)I"⟩
abbrev cX5_layOut : ByteArray := prog_7_method_9_code
def yX5_layOut : MethodName := ⟨RX5, "layOut", "(LLampSwitches$Hall;)V"⟩
abbrev cX5_wiresFrom : ByteArray := prog_7_method_10_code
def yX5_wiresFrom : MethodName := ⟨RX5, "wiresFrom", "(I)I"⟩
def RX6 : String := "LampSwitches"
def TX6 : u_T := fun k => match k with
  | 0 => ("LampSwitches", "hall", "LLampSwitches$Hall;", true)
  | 1 => ("LampSwitches", "reader", "LLampSwitches$TextReader;", true)
  | 2 => ("LampSwitches", "reach", "LLampSwitches$Reach;", true)
  | 3 => ("LampSwitches", "readings", "LLampSwitches$Readings;", true)
  | 4 => ("LampSwitches", "told", "LLampSwitches$Day;", true)
  | 5 => ("LampSwitches", "sheets", "[LLampSwitches$Sheet;", true)
  | 6 => ("LampSwitches", "tried", "[I", true)
  | 7 => ("LampSwitches", "left", "I", false)
  | _ => ("LampSwitches", "latestFault", "I", false)
def tyX6 : Nat → FieldType := fun k => match k with
  | 0 => .object "LampSwitches$Hall"
  | 1 => .object "LampSwitches$TextReader"
  | 2 => .object "LampSwitches$Reach"
  | 3 => .object "LampSwitches$Readings"
  | 4 => .object "LampSwitches$Day"
  | 5 => .array (.object "LampSwitches$Sheet")
  | 6 => .array .int
  | 7 => .int
  | _ => .int
abbrev wsX60 : List Cond := u_ws RX6 TX6 9
theorem nmX6 : ∀ a, a < 9 → ∀ b, b < 9 → a ≠ b → (TX6 a).2.1 ≠ (TX6 b).2.1 := by decide +kernel
theorem tyX6_ok : ∀ k, k < 9 → parseFieldDescriptor (TX6 k).2.2.1 = some (tyX6 k) := by decide +kernel
abbrev cX6_init : ByteArray := prog_1_method_1_code
def yX6_init : MethodName := ⟨RX6, "<init>", "()V"⟩
abbrev cX6_hall : ByteArray := prog_1_method_2_code
def yX6_hall : MethodName := ⟨RX6, "hall", "(IIII)I"⟩
abbrev cX6_ofLamp : ByteArray := prog_1_method_3_code
def yX6_ofLamp : MethodName := ⟨RX6, "ofLamp", "(II)I"⟩
abbrev cX6_ofSwitch : ByteArray := prog_1_method_4_code
def yX6_ofSwitch : MethodName := ⟨RX6, "ofSwitch", "(II)I"⟩
abbrev cX6_shade : ByteArray := prog_1_method_5_code
def yX6_shade : MethodName := ⟨RX6, "shade", "(II)I"⟩
abbrev cX6_turn : ByteArray := prog_1_method_6_code
def yX6_turn : MethodName := ⟨RX6, "turn", "(II)I"⟩
abbrev cX6_wire : ByteArray := prog_1_method_7_code
def yX6_wire : MethodName := ⟨RX6, "wire", "(II)I"⟩
abbrev cX6_press : ByteArray := prog_1_method_8_code
def yX6_press : MethodName := ⟨RX6, "press", "(II)I"⟩
abbrev cX6_day : ByteArray := prog_1_method_9_code
def yX6_day : MethodName := ⟨RX6, "day", "(IIIII)I"⟩
abbrev cX6_isAskedOfDay : ByteArray := prog_1_method_10_code
def yX6_isAskedOfDay : MethodName := ⟨RX6, "isAskedOfDay", "(I)Z"⟩
abbrev cX6_refusalOfPairs : ByteArray := prog_1_method_11_code
def yX6_refusalOfPairs : MethodName := ⟨RX6, "refusalOfPairs", "(LLampSwitches$Sheet;II)I"⟩
abbrev cX6_refusalOfPair : ByteArray := prog_1_method_12_code
def yX6_refusalOfPair : MethodName := ⟨RX6, "refusalOfPair", "(II)I"⟩
abbrev cX6_ofDay : ByteArray := prog_1_method_13_code
def yX6_ofDay : MethodName := ⟨RX6, "ofDay", "(I)I"⟩
abbrev cX6_fewest : ByteArray := prog_1_method_14_code
def yX6_fewest : MethodName := ⟨RX6, "fewest", "(IIII)I"⟩
abbrev cX6_halls : ByteArray := prog_1_method_15_code
def yX6_halls : MethodName := ⟨RX6, "halls", "()I"⟩
abbrev cX6_alone : ByteArray := prog_1_method_16_code
def yX6_alone : MethodName := ⟨RX6, "alone", "(I)I"⟩
abbrev cX6_idle : ByteArray := prog_1_method_17_code
def yX6_idle : MethodName := ⟨RX6, "idle", "()I"⟩
abbrev cX6_spare : ByteArray := prog_1_method_18_code
def yX6_spare : MethodName := ⟨RX6, "spare", "()I"⟩
abbrev cX6_reading : ByteArray := prog_1_method_19_code
def yX6_reading : MethodName := ⟨RX6, "reading", "(III)I"⟩
abbrev cX6_back : ByteArray := prog_1_method_20_code
def yX6_back : MethodName := ⟨RX6, "back", "(I)I"⟩
abbrev cX6_turnings : ByteArray := prog_1_method_21_code
def yX6_turnings : MethodName := ⟨RX6, "turnings", "(I)I"⟩
abbrev cX6_kinds : ByteArray := prog_1_method_22_code
def yX6_kinds : MethodName := ⟨RX6, "kinds", "(I)I"⟩
abbrev cX6_shadings : ByteArray := prog_1_method_23_code
def yX6_shadings : MethodName := ⟨RX6, "shadings", "(I)I"⟩
abbrev cX6_fitting : ByteArray := prog_1_method_24_code
def yX6_fitting : MethodName := ⟨RX6, "fitting", "([IIII)I"⟩
abbrev cX6_odds : ByteArray := prog_1_method_25_code
def yX6_odds : MethodName := ⟨RX6, "odds", "(II)J"⟩
abbrev cX6_commonDivisor : ByteArray := prog_1_method_26_code
def yX6_commonDivisor : MethodName := ⟨RX6, "commonDivisor", "(II)I"⟩
abbrev cX6_sheet : ByteArray := prog_1_method_27_code
def yX6_sheet : MethodName := ⟨RX6, "sheet", "(III)I"⟩
abbrev cX6_lose : ByteArray := prog_1_method_28_code
def yX6_lose : MethodName := ⟨RX6, "lose", "(I)I"⟩
abbrev cX6_put : ByteArray := prog_1_method_29_code
def yX6_put : MethodName := ⟨RX6, "put", "(III)I"⟩
abbrev cX6_cell : ByteArray := prog_1_method_30_code
def yX6_cell : MethodName := ⟨RX6, "cell", "(III)J"⟩
abbrev cX6_copy : ByteArray := prog_1_method_31_code
def yX6_copy : MethodName := ⟨RX6, "copy", "(IIIII)I"⟩
abbrev cX6_tell : ByteArray := prog_1_method_32_code
def yX6_tell : MethodName := ⟨RX6, "tell", "(I)I"⟩
abbrev cX6_plainBody : ByteArray := prog_1_method_33_code
def yX6_plainBody : MethodName := ⟨RX6, "plainBody", "(I)I"⟩
abbrev cX6_broadBody : ByteArray := prog_1_method_34_code
def yX6_broadBody : MethodName := ⟨RX6, "broadBody", "(I)I"⟩
abbrev cX6_doubleBody : ByteArray := prog_1_method_35_code
def yX6_doubleBody : MethodName := ⟨RX6, "doubleBody", "(I)I"⟩
abbrev cX6_feel : ByteArray := prog_1_method_36_code
def yX6_feel : MethodName := ⟨RX6, "feel", "(I)I"⟩
abbrev cX6_lentBody : ByteArray := prog_1_method_37_code
def yX6_lentBody : MethodName := ⟨RX6, "lentBody", "(I)I"⟩
abbrev cX6_ownBody : ByteArray := prog_1_method_38_code
def yX6_ownBody : MethodName := ⟨RX6, "ownBody", "()I"⟩
abbrev cX6_leave : ByteArray := prog_1_method_39_code
def yX6_leave : MethodName := ⟨RX6, "leave", "(I)V"⟩
abbrev cX6_as : ByteArray := prog_1_method_40_code
def yX6_as : MethodName := ⟨RX6, "as", "(II)I"⟩
abbrev cX6_trace : ByteArray := prog_1_method_41_code
def yX6_trace : MethodName := ⟨RX6, "trace", "()I"⟩
abbrev cX6_fault : ByteArray := prog_1_method_42_code
def yX6_fault : MethodName := ⟨RX6, "fault", "()I"⟩
abbrev cX6_many : ByteArray := prog_1_method_43_code
def yX6_many : MethodName := ⟨RX6, "many", "(I)I"⟩
abbrev cX6_sheetAt : ByteArray := prog_1_method_44_code
def yX6_sheetAt : MethodName := ⟨RX6, "sheetAt", "(I)LLampSwitches$Sheet;"⟩
abbrev cX6_faulted : ByteArray := prog_1_method_45_code
def yX6_faulted : MethodName := ⟨RX6, "faulted", "(I)I"⟩
abbrev cX6_isLane : ByteArray := prog_1_method_46_code
def yX6_isLane : MethodName := ⟨RX6, "isLane", "(I)Z"⟩
abbrev cX6_isIn : ByteArray := prog_1_method_47_code
def yX6_isIn : MethodName := ⟨RX6, "isIn", "(III)Z"⟩
abbrev cX6_wrapped : ByteArray := prog_1_method_48_code
def yX6_wrapped : MethodName := ⟨RX6, "wrapped", "(II)I"⟩
def RX7 : String := "LampSwitchesModel"
def TX7 : u_T := fun k => match k with
  | 0 => ("LampSwitchesModel", "fault", "I", false)
  | 1 => ("LampSwitchesModel", "trace", "I", false)
  | 2 => ("LampSwitchesModel", "sorts", "[I", true)
  | 3 => ("LampSwitchesModel", "sheetLong", "[I", true)
  | 4 => ("LampSwitchesModel", "cells", "[I", true)
  | 5 => ("LampSwitchesModel", "lamps", "I", false)
  | 6 => ("LampSwitchesModel", "switches", "I", false)
  | 7 => ("LampSwitchesModel", "presses", "I", false)
  | 8 => ("LampSwitchesModel", "shades", "[I", true)
  | 9 => ("LampSwitchesModel", "shadeNow", "[I", true)
  | 10 => ("LampSwitchesModel", "kind", "[I", true)
  | 11 => ("LampSwitchesModel", "turns", "[I", true)
  | 12 => ("LampSwitchesModel", "wired", "[I", true)
  | 13 => ("LampSwitchesModel", "pressed", "[I", true)
  | 14 => ("LampSwitchesModel", "at", "I", false)
  | 15 => ("LampSwitchesModel", "readLamps", "I", false)
  | 16 => ("LampSwitchesModel", "readSwitches", "I", false)
  | 17 => ("LampSwitchesModel", "readShades", "[I", true)
  | 18 => ("LampSwitchesModel", "read", "[I", true)
  | 19 => ("LampSwitchesModel", "keptShades", "[I", true)
  | 20 => ("LampSwitchesModel", "dayPresses", "I", false)
  | 21 => ("LampSwitchesModel", "dayDark", "I", false)
  | 22 => ("LampSwitchesModel", "far", "[I", true)
  | 23 => ("LampSwitchesModel", "line", "[I", true)
  | 24 => ("LampSwitchesModel", "readings", "I", false)
  | 25 => ("LampSwitchesModel", "readSwitchOf", "[I", true)
  | 26 => ("LampSwitchesModel", "readLampOf", "[I", true)
  | _ => ("LampSwitchesModel", "readShadeOf", "[I", true)
def tyX7 : Nat → FieldType := fun k => match k with
  | 0 => .int
  | 1 => .int
  | 2 => .array .int
  | 3 => .array .int
  | 4 => .array .int
  | 5 => .int
  | 6 => .int
  | 7 => .int
  | 8 => .array .int
  | 9 => .array .int
  | 10 => .array .int
  | 11 => .array .int
  | 12 => .array .int
  | 13 => .array .int
  | 14 => .int
  | 15 => .int
  | 16 => .int
  | 17 => .array .int
  | 18 => .array .int
  | 19 => .array .int
  | 20 => .int
  | 21 => .int
  | 22 => .array .int
  | 23 => .array .int
  | 24 => .int
  | 25 => .array .int
  | 26 => .array .int
  | _ => .array .int
abbrev wsX70 : List Cond := u_ws RX7 TX7 28
theorem nmX7 : ∀ a, a < 28 → ∀ b, b < 28 → a ≠ b → (TX7 a).2.1 ≠ (TX7 b).2.1 := by decide +kernel
theorem tyX7_ok : ∀ k, k < 28 → parseFieldDescriptor (TX7 k).2.2.1 = some (tyX7 k) := by decide +kernel
abbrev cX7_init : ByteArray := prog_9_method_1_code
def yX7_init : MethodName := ⟨RX7, "<init>", "()V"⟩
abbrev cX7_fails : ByteArray := prog_9_method_3_code
def yX7_fails : MethodName := ⟨RX7, "fails", "(I)I"⟩
abbrev cX7_lost : ByteArray := prog_9_method_4_code
def yX7_lost : MethodName := ⟨RX7, "lost", "(I)J"⟩
abbrev cX7_within : ByteArray := prog_9_method_5_code
def yX7_within : MethodName := ⟨RX7, "within", "(III)Z"⟩
abbrev cX7_isSheet : ByteArray := prog_9_method_6_code
def yX7_isSheet : MethodName := ⟨RX7, "isSheet", "(I)Z"⟩
abbrev cX7_isSort : ByteArray := prog_9_method_7_code
def yX7_isSort : MethodName := ⟨RX7, "isSort", "(I)Z"⟩
abbrev cX7_against : ByteArray := prog_9_method_8_code
def yX7_against : MethodName := ⟨RX7, "against", "(IIII)I"⟩
abbrev cX7_isLamp : ByteArray := prog_9_method_9_code
def yX7_isLamp : MethodName := ⟨RX7, "isLamp", "(I)Z"⟩
abbrev cX7_isSwitch : ByteArray := prog_9_method_10_code
def yX7_isSwitch : MethodName := ⟨RX7, "isSwitch", "(I)Z"⟩
abbrev cX7_isOf : ByteArray := prog_9_method_11_code
def yX7_isOf : MethodName := ⟨RX7, "isOf", "(II)Z"⟩
abbrev cX7_digit : ByteArray := prog_9_method_12_code
def yX7_digit : MethodName := ⟨RX7, "digit", "(III)I"⟩
abbrev cX7_isSign : ByteArray := prog_9_method_13_code
def yX7_isSign : MethodName := ⟨RX7, "isSign", "(II)Z"⟩
abbrev cX7_hall : ByteArray := prog_9_method_14_code
def yX7_hall : MethodName := ⟨RX7, "hall", "(IIII)I"⟩
abbrev cX7_takeHall : ByteArray := prog_9_method_15_code
def yX7_takeHall : MethodName := ⟨RX7, "takeHall", "()V"⟩
abbrev cX7_readHall : ByteArray := prog_9_method_16_code
def yX7_readHall : MethodName := ⟨RX7, "readHall", "(I)Z"⟩
abbrev cX7_readSwitch : ByteArray := prog_9_method_17_code
def yX7_readSwitch : MethodName := ⟨RX7, "readSwitch", "(I)Z"⟩
abbrev cX7_movesOf : ByteArray := prog_9_method_18_code
def yX7_movesOf : MethodName := ⟨RX7, "movesOf", "(I)I"⟩
abbrev cX7_wiredTo : ByteArray := prog_9_method_19_code
def yX7_wiredTo : MethodName := ⟨RX7, "wiredTo", "(I)I"⟩
abbrev cX7_darkNow : ByteArray := prog_9_method_20_code
def yX7_darkNow : MethodName := ⟨RX7, "darkNow", "()I"⟩
abbrev cX7_ofLamp : ByteArray := prog_9_method_21_code
def yX7_ofLamp : MethodName := ⟨RX7, "ofLamp", "(II)I"⟩
abbrev cX7_ofSwitch : ByteArray := prog_9_method_22_code
def yX7_ofSwitch : MethodName := ⟨RX7, "ofSwitch", "(II)I"⟩
abbrev cX7_shade : ByteArray := prog_9_method_23_code
def yX7_shade : MethodName := ⟨RX7, "shade", "(II)I"⟩
abbrev cX7_turn : ByteArray := prog_9_method_24_code
def yX7_turn : MethodName := ⟨RX7, "turn", "(II)I"⟩
abbrev cX7_wire : ByteArray := prog_9_method_25_code
def yX7_wire : MethodName := ⟨RX7, "wire", "(II)I"⟩
abbrev cX7_turnsAll : ByteArray := prog_9_method_26_code
def yX7_turnsAll : MethodName := ⟨RX7, "turnsAll", "(II)V"⟩
abbrev cX7_press : ByteArray := prog_9_method_27_code
def yX7_press : MethodName := ⟨RX7, "press", "(II)I"⟩
abbrev cX7_keep : ByteArray := prog_9_method_28_code
def yX7_keep : MethodName := ⟨RX7, "keep", "()V"⟩
abbrev cX7_putBack : ByteArray := prog_9_method_29_code
def yX7_putBack : MethodName := ⟨RX7, "putBack", "()V"⟩
abbrev cX7_does : ByteArray := prog_9_method_30_code
def yX7_does : MethodName := ⟨RX7, "does", "(II)Z"⟩
abbrev cX7_goDay : ByteArray := prog_9_method_31_code
def yX7_goDay : MethodName := ⟨RX7, "goDay", "(II)I"⟩
abbrev cX7_refusesPair : ByteArray := prog_9_method_32_code
def yX7_refusesPair : MethodName := ⟨RX7, "refusesPair", "(II)I"⟩
abbrev cX7_day : ByteArray := prog_9_method_33_code
def yX7_day : MethodName := ⟨RX7, "day", "(IIIII)I"⟩
abbrev cX7_allShades : ByteArray := prog_9_method_34_code
def yX7_allShades : MethodName := ⟨RX7, "allShades", "()I"⟩
abbrev cX7_tellDay : ByteArray := prog_9_method_35_code
def yX7_tellDay : MethodName := ⟨RX7, "tellDay", "(I)I"⟩
abbrev cX7_manyOf : ByteArray := prog_9_method_36_code
def yX7_manyOf : MethodName := ⟨RX7, "manyOf", "()I"⟩
abbrev cX7_movedBy : ByteArray := prog_9_method_37_code
def yX7_movedBy : MethodName := ⟨RX7, "movedBy", "(IIZ)I"⟩
abbrev cX7_findMany : ByteArray := prog_9_method_38_code
def yX7_findMany : MethodName := ⟨RX7, "findMany", "(I)I"⟩
abbrev cX7_findFar : ByteArray := prog_9_method_39_code
def yX7_findFar : MethodName := ⟨RX7, "findFar", "()V"⟩
abbrev cX7_onTo : ByteArray := prog_9_method_40_code
def yX7_onTo : MethodName := ⟨RX7, "onTo", "(I)I"⟩
abbrev cX7_fewest : ByteArray := prog_9_method_41_code
def yX7_fewest : MethodName := ⟨RX7, "fewest", "(IIII)I"⟩
abbrev cX7_fewestOf : ByteArray := prog_9_method_42_code
def yX7_fewestOf : MethodName := ⟨RX7, "fewestOf", "(II)I"⟩
abbrev cX7_halls : ByteArray := prog_9_method_43_code
def yX7_halls : MethodName := ⟨RX7, "halls", "()I"⟩
abbrev cX7_alone : ByteArray := prog_9_method_44_code
def yX7_alone : MethodName := ⟨RX7, "alone", "(I)I"⟩
abbrev cX7_idle : ByteArray := prog_9_method_45_code
def yX7_idle : MethodName := ⟨RX7, "idle", "()I"⟩
abbrev cX7_spare : ByteArray := prog_9_method_46_code
def yX7_spare : MethodName := ⟨RX7, "spare", "()I"⟩
abbrev cX7_reading : ByteArray := prog_9_method_47_code
def yX7_reading : MethodName := ⟨RX7, "reading", "(III)I"⟩
abbrev cX7_back : ByteArray := prog_9_method_48_code
def yX7_back : MethodName := ⟨RX7, "back", "(I)I"⟩
abbrev cX7_areSo : ByteArray := prog_9_method_49_code
def yX7_areSo : MethodName := ⟨RX7, "areSo", "()Z"⟩
abbrev cX7_turnings : ByteArray := prog_9_method_50_code
def yX7_turnings : MethodName := ⟨RX7, "turnings", "(I)I"⟩
abbrev cX7_kinds : ByteArray := prog_9_method_51_code
def yX7_kinds : MethodName := ⟨RX7, "kinds", "(I)I"⟩
abbrev cX7_shadings : ByteArray := prog_9_method_52_code
def yX7_shadings : MethodName := ⟨RX7, "shadings", "(I)I"⟩
abbrev cX7_inLeastTerms : ByteArray := prog_9_method_53_code
def yX7_inLeastTerms : MethodName := ⟨RX7, "inLeastTerms", "(JJI)J"⟩
abbrev cX7_odds : ByteArray := prog_9_method_54_code
def yX7_odds : MethodName := ⟨RX7, "odds", "(II)J"⟩
abbrev cX7_sheet : ByteArray := prog_9_method_55_code
def yX7_sheet : MethodName := ⟨RX7, "sheet", "(III)I"⟩
abbrev cX7_lose : ByteArray := prog_9_method_56_code
def yX7_lose : MethodName := ⟨RX7, "lose", "(I)I"⟩
abbrev cX7_put : ByteArray := prog_9_method_57_code
def yX7_put : MethodName := ⟨RX7, "put", "(III)I"⟩
abbrev cX7_cell : ByteArray := prog_9_method_58_code
def yX7_cell : MethodName := ⟨RX7, "cell", "(III)J"⟩
abbrev cX7_copy : ByteArray := prog_9_method_59_code
def yX7_copy : MethodName := ⟨RX7, "copy", "(IIIII)I"⟩
abbrev cX7_begins : ByteArray := prog_9_method_60_code
def yX7_begins : MethodName := ⟨RX7, "begins", "(I)V"⟩
abbrev cX7_tell : ByteArray := prog_9_method_61_code
def yX7_tell : MethodName := ⟨RX7, "tell", "(I)I"⟩
abbrev cX7_feel : ByteArray := prog_9_method_62_code
def yX7_feel : MethodName := ⟨RX7, "feel", "(I)I"⟩
abbrev cX7_as : ByteArray := prog_9_method_63_code
def yX7_as : MethodName := ⟨RX7, "as", "(II)I"⟩
abbrev cX7_trace : ByteArray := prog_9_method_64_code
def yX7_trace : MethodName := ⟨RX7, "trace", "()I"⟩
abbrev cX7_fault : ByteArray := prog_9_method_65_code
def yX7_fault : MethodName := ⟨RX7, "fault", "()I"⟩
abbrev cX7_many : ByteArray := prog_9_method_66_code
def yX7_many : MethodName := ⟨RX7, "many", "(I)I"⟩
def RJ9 : String := "java/lang/Math"
def TJ9 : u_T := fun k => match k with
  | _ => ("", "", "", false)
def tyJ9 : Nat → FieldType := fun k => match k with
  | _ => .int
abbrev cJ9_floorMod_7cf53 : ByteArray := prog_10_method_50_code
def yJ9_floorMod_7cf53 : MethodName := ⟨RJ9, "floorMod", "(II)I"⟩
abbrev cJ9_max_7cf53 : ByteArray := prog_10_method_65_code
def yJ9_max_7cf53 : MethodName := ⟨RJ9, "max", "(II)I"⟩
abbrev cJ9_min_7cf53 : ByteArray := prog_10_method_69_code
def yJ9_min_7cf53 : MethodName := ⟨RJ9, "min", "(II)I"⟩
def RJ10 : String := "java/lang/System"
def TJ10 : u_T := fun k => match k with
  | _ => ("", "", "", false)
def tyJ10 : Nat → FieldType := fun k => match k with
  | _ => .int
def RL : String := "LampSwitchesLaw"
abbrev cL_law : ByteArray := code
def yL_law : MethodName := ⟨RL, "law", "([I)Z"⟩
abbrev vwCl : List vw_C := [(RX0, TX0, 4), (RX1, TX1, 8), (RX2, TX2, 7), (RX3, TX3, 4), (RX4, TX4, 3), (RX5, TX5, 4), (RX6, TX6, 9), (RX7, TX7, 28)]
end
section
theorem dX0_init_0 : decode cX0_init 0 = .ok (.aload_n 0, 1) := by decide +kernel
theorem dX0_init_1 : decode cX0_init 1 = .ok (.invokespecial 3, 3) := by decide +kernel
theorem dX0_init_4 : decode cX0_init 4 = .ok (.aload_n 0, 1) := by decide +kernel
theorem dX0_init_5 : decode cX0_init 5 = .ok (.iconst 5, 1) := by decide +kernel
theorem dX0_init_6 : decode cX0_init 6 = .ok (.newarray .int, 2) := by decide +kernel
theorem dX0_init_8 : decode cX0_init 8 = .ok (.putfield 9, 3) := by decide +kernel
theorem dX0_init_11 : decode cX0_init 11 = .ok (.return_, 1) := by decide +kernel
theorem dX0_goThrough_0 : decode cX0_goThrough 0 = .ok (.aload_n 1, 1) := by decide +kernel
theorem dX0_goThrough_1 : decode cX0_goThrough 1 = .ok (.getfield 15, 3) := by decide +kernel
theorem dX0_goThrough_4 : decode cX0_goThrough 4 = .ok (.iconst 0, 1) := by decide +kernel
theorem dX0_goThrough_5 : decode cX0_goThrough 5 = .ok (.aload_n 0, 1) := by decide +kernel
theorem dX0_goThrough_6 : decode cX0_goThrough 6 = .ok (.getfield 9, 3) := by decide +kernel
theorem dX0_goThrough_9 : decode cX0_goThrough 9 = .ok (.iconst 0, 1) := by decide +kernel
theorem dX0_goThrough_10 : decode cX0_goThrough 10 = .ok (.iconst 5, 1) := by decide +kernel
theorem dX0_goThrough_11 : decode cX0_goThrough 11 = .ok (.invokestatic 20, 3) := by decide +kernel
theorem dX0_goThrough_14 : decode cX0_goThrough 14 = .ok (.aload_n 0, 1) := by decide +kernel
theorem dX0_goThrough_15 : decode cX0_goThrough 15 = .ok (.bipush (-9), 2) := by decide +kernel
theorem dX0_goThrough_17 : decode cX0_goThrough 17 = .ok (.putfield 26, 3) := by decide +kernel
theorem dX0_goThrough_20 : decode cX0_goThrough 20 = .ok (.aload_n 0, 1) := by decide +kernel
theorem dX0_goThrough_21 : decode cX0_goThrough 21 = .ok (.iconst 0, 1) := by decide +kernel
theorem dX0_goThrough_22 : decode cX0_goThrough 22 = .ok (.putfield 30, 3) := by decide +kernel
theorem dX0_goThrough_25 : decode cX0_goThrough 25 = .ok (.aload_n 0, 1) := by decide +kernel
theorem dX0_goThrough_26 : decode cX0_goThrough 26 = .ok (.iconst 0, 1) := by decide +kernel
theorem dX0_goThrough_27 : decode cX0_goThrough 27 = .ok (.putfield 33, 3) := by decide +kernel
theorem dX0_goThrough_30 : decode cX0_goThrough 30 = .ok (.iconst 0, 1) := by decide +kernel
theorem dX0_goThrough_31 : decode cX0_goThrough 31 = .ok (.istore 5, 2) := by decide +kernel
theorem dX0_goThrough_33 : decode cX0_goThrough 33 = .ok (.iload 5, 2) := by decide +kernel
theorem dX0_goThrough_35 : decode cX0_goThrough 35 = .ok (.iload 4, 2) := by decide +kernel
theorem dX0_goThrough_37 : decode cX0_goThrough 37 = .ok (.if_icmp .ge 71, 3) := by decide +kernel
theorem dX0_goThrough_40 : decode cX0_goThrough 40 = .ok (.aload_n 0, 1) := by decide +kernel
theorem dX0_goThrough_41 : decode cX0_goThrough 41 = .ok (.aload_n 1, 1) := by decide +kernel
theorem dX0_goThrough_42 : decode cX0_goThrough 42 = .ok (.aload_n 2, 1) := by decide +kernel
theorem dX0_goThrough_43 : decode cX0_goThrough 43 = .ok (.iload_n 3, 1) := by decide +kernel
theorem dX0_goThrough_44 : decode cX0_goThrough 44 = .ok (.iconst 2, 1) := by decide +kernel
theorem dX0_goThrough_45 : decode cX0_goThrough 45 = .ok (.iload 5, 2) := by decide +kernel
theorem dX0_goThrough_47 : decode cX0_goThrough 47 = .ok (.imul, 1) := by decide +kernel
theorem dX0_goThrough_48 : decode cX0_goThrough 48 = .ok (.iadd, 1) := by decide +kernel
theorem dX0_goThrough_49 : decode cX0_goThrough 49 = .ok (.invokevirtual 36, 3) := by decide +kernel
theorem dX0_goThrough_52 : decode cX0_goThrough 52 = .ok (.aload_n 2, 1) := by decide +kernel
theorem dX0_goThrough_53 : decode cX0_goThrough 53 = .ok (.iload_n 3, 1) := by decide +kernel
theorem dX0_goThrough_54 : decode cX0_goThrough 54 = .ok (.iconst 2, 1) := by decide +kernel
theorem dX0_goThrough_55 : decode cX0_goThrough 55 = .ok (.iload 5, 2) := by decide +kernel
theorem dX0_goThrough_57 : decode cX0_goThrough 57 = .ok (.imul, 1) := by decide +kernel
theorem dX0_goThrough_58 : decode cX0_goThrough 58 = .ok (.iadd, 1) := by decide +kernel
theorem dX0_goThrough_59 : decode cX0_goThrough 59 = .ok (.iconst 1, 1) := by decide +kernel
theorem dX0_goThrough_60 : decode cX0_goThrough 60 = .ok (.iadd, 1) := by decide +kernel
theorem dX0_goThrough_61 : decode cX0_goThrough 61 = .ok (.invokevirtual 36, 3) := by decide +kernel
theorem dX0_goThrough_64 : decode cX0_goThrough 64 = .ok (.invokevirtual 42, 3) := by decide +kernel
theorem dX0_goThrough_67 : decode cX0_goThrough 67 = .ok (.ifCond .ne 10, 3) := by decide +kernel
theorem dX0_goThrough_70 : decode cX0_goThrough 70 = .ok (.aload_n 0, 1) := by decide +kernel
theorem dX0_goThrough_71 : decode cX0_goThrough 71 = .ok (.iload 5, 2) := by decide +kernel
theorem dX0_goThrough_73 : decode cX0_goThrough 73 = .ok (.putfield 26, 3) := by decide +kernel
theorem dX0_goThrough_76 : decode cX0_goThrough 76 = .ok (.return_, 1) := by decide +kernel
theorem dX0_goThrough_77 : decode cX0_goThrough 77 = .ok (.aload_n 1, 1) := by decide +kernel
theorem dX0_goThrough_78 : decode cX0_goThrough 78 = .ok (.aload_n 0, 1) := by decide +kernel
theorem dX0_goThrough_79 : decode cX0_goThrough 79 = .ok (.getfield 9, 3) := by decide +kernel
theorem dX0_goThrough_82 : decode cX0_goThrough 82 = .ok (.invokevirtual 46, 3) := by decide +kernel
theorem dX0_goThrough_85 : decode cX0_goThrough 85 = .ok (.aload_n 1, 1) := by decide +kernel
theorem dX0_goThrough_86 : decode cX0_goThrough 86 = .ok (.getfield 50, 3) := by decide +kernel
theorem dX0_goThrough_89 : decode cX0_goThrough 89 = .ok (.if_icmp .ne 13, 3) := by decide +kernel
theorem dX0_goThrough_92 : decode cX0_goThrough 92 = .ok (.aload_n 0, 1) := by decide +kernel
theorem dX0_goThrough_93 : decode cX0_goThrough 93 = .ok (.dup, 1) := by decide +kernel
theorem dX0_goThrough_94 : decode cX0_goThrough 94 = .ok (.getfield 33, 3) := by decide +kernel
theorem dX0_goThrough_97 : decode cX0_goThrough 97 = .ok (.iconst 1, 1) := by decide +kernel
theorem dX0_goThrough_98 : decode cX0_goThrough 98 = .ok (.iadd, 1) := by decide +kernel
theorem dX0_goThrough_99 : decode cX0_goThrough 99 = .ok (.putfield 33, 3) := by decide +kernel
theorem dX0_goThrough_102 : decode cX0_goThrough 102 = .ok (.iinc 5 1, 3) := by decide +kernel
theorem dX0_goThrough_105 : decode cX0_goThrough 105 = .ok (.goto (-72), 3) := by decide +kernel
theorem dX0_goThrough_108 : decode cX0_goThrough 108 = .ok (.return_, 1) := by decide +kernel
theorem dX0_happens_0 : decode cX0_happens 0 = .ok (.iload_n 3, 1) := by decide +kernel
theorem dX0_happens_1 : decode cX0_happens 1 = .ok (.bipush 10, 2) := by decide +kernel
theorem dX0_happens_3 : decode cX0_happens 3 = .ok (.if_icmp .lt 31, 3) := by decide +kernel
theorem dX0_happens_6 : decode cX0_happens 6 = .ok (.iload_n 3, 1) := by decide +kernel
theorem dX0_happens_7 : decode cX0_happens 7 = .ok (.bipush 10, 2) := by decide +kernel
theorem dX0_happens_9 : decode cX0_happens 9 = .ok (.isub, 1) := by decide +kernel
theorem dX0_happens_10 : decode cX0_happens 10 = .ok (.istore 4, 2) := by decide +kernel
theorem dX0_happens_12 : decode cX0_happens 12 = .ok (.aload_n 1, 1) := by decide +kernel
theorem dX0_happens_13 : decode cX0_happens 13 = .ok (.iload 4, 2) := by decide +kernel
theorem dX0_happens_15 : decode cX0_happens 15 = .ok (.iload_n 2, 1) := by decide +kernel
theorem dX0_happens_16 : decode cX0_happens 16 = .ok (.invokevirtual 53, 3) := by decide +kernel
theorem dX0_happens_19 : decode cX0_happens 19 = .ok (.ifCond .ne 5, 3) := by decide +kernel
theorem dX0_happens_22 : decode cX0_happens 22 = .ok (.iconst 0, 1) := by decide +kernel
theorem dX0_happens_23 : decode cX0_happens 23 = .ok (.ireturn, 1) := by decide +kernel
theorem dX0_happens_24 : decode cX0_happens 24 = .ok (.aload_n 0, 1) := by decide +kernel
theorem dX0_happens_25 : decode cX0_happens 25 = .ok (.getfield 9, 3) := by decide +kernel
theorem dX0_happens_28 : decode cX0_happens 28 = .ok (.iload 4, 2) := by decide +kernel
theorem dX0_happens_30 : decode cX0_happens 30 = .ok (.iload_n 2, 1) := by decide +kernel
theorem dX0_happens_31 : decode cX0_happens 31 = .ok (.iastore, 1) := by decide +kernel
theorem dX0_happens_32 : decode cX0_happens 32 = .ok (.iconst 1, 1) := by decide +kernel
theorem dX0_happens_33 : decode cX0_happens 33 = .ok (.ireturn, 1) := by decide +kernel
theorem dX0_happens_34 : decode cX0_happens 34 = .ok (.aload_n 1, 1) := by decide +kernel
theorem dX0_happens_35 : decode cX0_happens 35 = .ok (.iload_n 2, 1) := by decide +kernel
theorem dX0_happens_36 : decode cX0_happens 36 = .ok (.invokevirtual 57, 3) := by decide +kernel
theorem dX0_happens_39 : decode cX0_happens 39 = .ok (.ifCond .ne 5, 3) := by decide +kernel
theorem dX0_happens_42 : decode cX0_happens 42 = .ok (.iconst 0, 1) := by decide +kernel
theorem dX0_happens_43 : decode cX0_happens 43 = .ok (.ireturn, 1) := by decide +kernel
theorem dX0_happens_44 : decode cX0_happens 44 = .ok (.aload_n 1, 1) := by decide +kernel
theorem dX0_happens_45 : decode cX0_happens 45 = .ok (.aload_n 0, 1) := by decide +kernel
theorem dX0_happens_46 : decode cX0_happens 46 = .ok (.getfield 9, 3) := by decide +kernel
theorem dX0_happens_49 : decode cX0_happens 49 = .ok (.iload_n 2, 1) := by decide +kernel
theorem dX0_happens_50 : decode cX0_happens 50 = .ok (.iload_n 3, 1) := by decide +kernel
theorem dX0_happens_51 : decode cX0_happens 51 = .ok (.invokevirtual 61, 3) := by decide +kernel
theorem dX0_happens_54 : decode cX0_happens 54 = .ok (.aload_n 0, 1) := by decide +kernel
theorem dX0_happens_55 : decode cX0_happens 55 = .ok (.dup, 1) := by decide +kernel
theorem dX0_happens_56 : decode cX0_happens 56 = .ok (.getfield 30, 3) := by decide +kernel
theorem dX0_happens_59 : decode cX0_happens 59 = .ok (.iload_n 3, 1) := by decide +kernel
theorem dX0_happens_60 : decode cX0_happens 60 = .ok (.iadd, 1) := by decide +kernel
theorem dX0_happens_61 : decode cX0_happens 61 = .ok (.putfield 30, 3) := by decide +kernel
theorem dX0_happens_64 : decode cX0_happens 64 = .ok (.iconst 1, 1) := by decide +kernel
theorem dX0_happens_65 : decode cX0_happens 65 = .ok (.ireturn, 1) := by decide +kernel
theorem dX1_init_0 : decode cX1_init 0 = .ok (.aload_n 0, 1) := by decide +kernel
theorem dX1_init_1 : decode cX1_init 1 = .ok (.invokespecial 3, 3) := by decide +kernel
theorem dX1_init_4 : decode cX1_init 4 = .ok (.aload_n 0, 1) := by decide +kernel
theorem dX1_init_5 : decode cX1_init 5 = .ok (.iconst 5, 1) := by decide +kernel
theorem dX1_init_6 : decode cX1_init 6 = .ok (.newarray .int, 2) := by decide +kernel
theorem dX1_init_8 : decode cX1_init 8 = .ok (.putfield 9, 3) := by decide +kernel
theorem dX1_init_11 : decode cX1_init 11 = .ok (.aload_n 0, 1) := by decide +kernel
theorem dX1_init_12 : decode cX1_init 12 = .ok (.iconst 5, 1) := by decide +kernel
theorem dX1_init_13 : decode cX1_init 13 = .ok (.newarray .int, 2) := by decide +kernel
theorem dX1_init_15 : decode cX1_init 15 = .ok (.putfield 15, 3) := by decide +kernel
theorem dX1_init_18 : decode cX1_init 18 = .ok (.aload_n 0, 1) := by decide +kernel
theorem dX1_init_19 : decode cX1_init 19 = .ok (.iconst 5, 1) := by decide +kernel
theorem dX1_init_20 : decode cX1_init 20 = .ok (.newarray .int, 2) := by decide +kernel
theorem dX1_init_22 : decode cX1_init 22 = .ok (.putfield 18, 3) := by decide +kernel
theorem dX1_init_25 : decode cX1_init 25 = .ok (.aload_n 0, 1) := by decide +kernel
theorem dX1_init_26 : decode cX1_init 26 = .ok (.iconst 5, 1) := by decide +kernel
theorem dX1_init_27 : decode cX1_init 27 = .ok (.newarray .int, 2) := by decide +kernel
theorem dX1_init_29 : decode cX1_init 29 = .ok (.putfield 21, 3) := by decide +kernel
theorem dX1_init_32 : decode cX1_init 32 = .ok (.aload_n 0, 1) := by decide +kernel
theorem dX1_init_33 : decode cX1_init 33 = .ok (.iconst 5, 1) := by decide +kernel
theorem dX1_init_34 : decode cX1_init 34 = .ok (.newarray .int, 2) := by decide +kernel
theorem dX1_init_36 : decode cX1_init 36 = .ok (.putfield 24, 3) := by decide +kernel
theorem dX1_init_39 : decode cX1_init 39 = .ok (.aload_n 0, 1) := by decide +kernel
theorem dX1_init_40 : decode cX1_init 40 = .ok (.iconst 5, 1) := by decide +kernel
theorem dX1_init_41 : decode cX1_init 41 = .ok (.newarray .int, 2) := by decide +kernel
theorem dX1_init_43 : decode cX1_init 43 = .ok (.putfield 27, 3) := by decide +kernel
theorem dX1_init_46 : decode cX1_init 46 = .ok (.return_, 1) := by decide +kernel
theorem dX1_isMissing_0 : decode cX1_isMissing 0 = .ok (.aload_n 0, 1) := by decide +kernel
theorem dX1_isMissing_1 : decode cX1_isMissing 1 = .ok (.getfield 30, 3) := by decide +kernel
theorem dX1_isMissing_4 : decode cX1_isMissing 4 = .ok (.ifCond .ne 7, 3) := by decide +kernel
theorem dX1_isMissing_7 : decode cX1_isMissing 7 = .ok (.iconst 1, 1) := by decide +kernel
theorem dX1_isMissing_8 : decode cX1_isMissing 8 = .ok (.goto 4, 3) := by decide +kernel
theorem dX1_isMissing_11 : decode cX1_isMissing 11 = .ok (.iconst 0, 1) := by decide +kernel
theorem dX1_isMissing_12 : decode cX1_isMissing 12 = .ok (.ireturn, 1) := by decide +kernel
theorem dX1_hasLamp_0 : decode cX1_hasLamp 0 = .ok (.iload_n 1, 1) := by decide +kernel
theorem dX1_hasLamp_1 : decode cX1_hasLamp 1 = .ok (.ifCond .lt 15, 3) := by decide +kernel
theorem dX1_hasLamp_4 : decode cX1_hasLamp 4 = .ok (.iload_n 1, 1) := by decide +kernel
theorem dX1_hasLamp_5 : decode cX1_hasLamp 5 = .ok (.aload_n 0, 1) := by decide +kernel
theorem dX1_hasLamp_6 : decode cX1_hasLamp 6 = .ok (.getfield 30, 3) := by decide +kernel
theorem dX1_hasLamp_9 : decode cX1_hasLamp 9 = .ok (.if_icmp .ge 7, 3) := by decide +kernel
theorem dX1_hasLamp_12 : decode cX1_hasLamp 12 = .ok (.iconst 1, 1) := by decide +kernel
theorem dX1_hasLamp_13 : decode cX1_hasLamp 13 = .ok (.goto 4, 3) := by decide +kernel
theorem dX1_hasLamp_16 : decode cX1_hasLamp 16 = .ok (.iconst 0, 1) := by decide +kernel
theorem dX1_hasLamp_17 : decode cX1_hasLamp 17 = .ok (.ireturn, 1) := by decide +kernel
theorem dX1_hasSwitch_0 : decode cX1_hasSwitch 0 = .ok (.iload_n 1, 1) := by decide +kernel
theorem dX1_hasSwitch_1 : decode cX1_hasSwitch 1 = .ok (.ifCond .lt 15, 3) := by decide +kernel
theorem dX1_hasSwitch_4 : decode cX1_hasSwitch 4 = .ok (.iload_n 1, 1) := by decide +kernel
theorem dX1_hasSwitch_5 : decode cX1_hasSwitch 5 = .ok (.aload_n 0, 1) := by decide +kernel
theorem dX1_hasSwitch_6 : decode cX1_hasSwitch 6 = .ok (.getfield 34, 3) := by decide +kernel
theorem dX1_hasSwitch_9 : decode cX1_hasSwitch 9 = .ok (.if_icmp .ge 7, 3) := by decide +kernel
theorem dX1_hasSwitch_12 : decode cX1_hasSwitch 12 = .ok (.iconst 1, 1) := by decide +kernel
theorem dX1_hasSwitch_13 : decode cX1_hasSwitch 13 = .ok (.goto 4, 3) := by decide +kernel
theorem dX1_hasSwitch_16 : decode cX1_hasSwitch 16 = .ok (.iconst 0, 1) := by decide +kernel
theorem dX1_hasSwitch_17 : decode cX1_hasSwitch 17 = .ok (.ireturn, 1) := by decide +kernel
theorem dX1_hasShade_0 : decode cX1_hasShade 0 = .ok (.aload_n 0, 1) := by decide +kernel
theorem dX1_hasShade_1 : decode cX1_hasShade 1 = .ok (.iload_n 1, 1) := by decide +kernel
theorem dX1_hasShade_2 : decode cX1_hasShade 2 = .ok (.invokevirtual 37, 3) := by decide +kernel
theorem dX1_hasShade_5 : decode cX1_hasShade 5 = .ok (.ifCond .eq 21, 3) := by decide +kernel
theorem dX1_hasShade_8 : decode cX1_hasShade 8 = .ok (.iload_n 2, 1) := by decide +kernel
theorem dX1_hasShade_9 : decode cX1_hasShade 9 = .ok (.ifCond .lt 17, 3) := by decide +kernel
theorem dX1_hasShade_12 : decode cX1_hasShade 12 = .ok (.iload_n 2, 1) := by decide +kernel
theorem dX1_hasShade_13 : decode cX1_hasShade 13 = .ok (.aload_n 0, 1) := by decide +kernel
theorem dX1_hasShade_14 : decode cX1_hasShade 14 = .ok (.getfield 9, 3) := by decide +kernel
theorem dX1_hasShade_17 : decode cX1_hasShade 17 = .ok (.iload_n 1, 1) := by decide +kernel
theorem dX1_hasShade_18 : decode cX1_hasShade 18 = .ok (.iaload, 1) := by decide +kernel
theorem dX1_hasShade_19 : decode cX1_hasShade 19 = .ok (.if_icmp .ge 7, 3) := by decide +kernel
theorem dX1_hasShade_22 : decode cX1_hasShade 22 = .ok (.iconst 1, 1) := by decide +kernel
theorem dX1_hasShade_23 : decode cX1_hasShade 23 = .ok (.goto 4, 3) := by decide +kernel
theorem dX1_hasShade_26 : decode cX1_hasShade 26 = .ok (.iconst 0, 1) := by decide +kernel
theorem dX1_hasShade_27 : decode cX1_hasShade 27 = .ok (.ireturn, 1) := by decide +kernel
theorem dX1_allSwitches_0 : decode cX1_allSwitches 0 = .ok (.iconst 1, 1) := by decide +kernel
theorem dX1_allSwitches_1 : decode cX1_allSwitches 1 = .ok (.aload_n 0, 1) := by decide +kernel
theorem dX1_allSwitches_2 : decode cX1_allSwitches 2 = .ok (.getfield 34, 3) := by decide +kernel
theorem dX1_allSwitches_5 : decode cX1_allSwitches 5 = .ok (.ishl, 1) := by decide +kernel
theorem dX1_allSwitches_6 : decode cX1_allSwitches 6 = .ok (.iconst 1, 1) := by decide +kernel
theorem dX1_allSwitches_7 : decode cX1_allSwitches 7 = .ok (.isub, 1) := by decide +kernel
theorem dX1_allSwitches_8 : decode cX1_allSwitches 8 = .ok (.ireturn, 1) := by decide +kernel
theorem dX1_isWired_0 : decode cX1_isWired 0 = .ok (.aload_n 0, 1) := by decide +kernel
theorem dX1_isWired_1 : decode cX1_isWired 1 = .ok (.getfield 24, 3) := by decide +kernel
theorem dX1_isWired_4 : decode cX1_isWired 4 = .ok (.iload_n 1, 1) := by decide +kernel
theorem dX1_isWired_5 : decode cX1_isWired 5 = .ok (.iaload, 1) := by decide +kernel
theorem dX1_isWired_6 : decode cX1_isWired 6 = .ok (.iload_n 2, 1) := by decide +kernel
theorem dX1_isWired_7 : decode cX1_isWired 7 = .ok (.ishr, 1) := by decide +kernel
theorem dX1_isWired_8 : decode cX1_isWired 8 = .ok (.iconst 1, 1) := by decide +kernel
theorem dX1_isWired_9 : decode cX1_isWired 9 = .ok (.iand, 1) := by decide +kernel
theorem dX1_isWired_10 : decode cX1_isWired 10 = .ok (.iconst 1, 1) := by decide +kernel
theorem dX1_isWired_11 : decode cX1_isWired 11 = .ok (.if_icmp .ne 7, 3) := by decide +kernel
theorem dX1_isWired_14 : decode cX1_isWired 14 = .ok (.iconst 1, 1) := by decide +kernel
theorem dX1_isWired_15 : decode cX1_isWired 15 = .ok (.goto 4, 3) := by decide +kernel
theorem dX1_isWired_18 : decode cX1_isWired 18 = .ok (.iconst 0, 1) := by decide +kernel
theorem dX1_isWired_19 : decode cX1_isWired 19 = .ok (.ireturn, 1) := by decide +kernel
theorem dX1_switchesTo_0 : decode cX1_switchesTo 0 = .ok (.iconst 0, 1) := by decide +kernel
theorem dX1_switchesTo_1 : decode cX1_switchesTo 1 = .ok (.istore_n 2, 1) := by decide +kernel
theorem dX1_switchesTo_2 : decode cX1_switchesTo 2 = .ok (.iconst 0, 1) := by decide +kernel
theorem dX1_switchesTo_3 : decode cX1_switchesTo 3 = .ok (.istore_n 3, 1) := by decide +kernel
theorem dX1_switchesTo_4 : decode cX1_switchesTo 4 = .ok (.iload_n 3, 1) := by decide +kernel
theorem dX1_switchesTo_5 : decode cX1_switchesTo 5 = .ok (.aload_n 0, 1) := by decide +kernel
theorem dX1_switchesTo_6 : decode cX1_switchesTo 6 = .ok (.getfield 34, 3) := by decide +kernel
theorem dX1_switchesTo_9 : decode cX1_switchesTo 9 = .ok (.if_icmp .ge 24, 3) := by decide +kernel
theorem dX1_switchesTo_12 : decode cX1_switchesTo 12 = .ok (.aload_n 0, 1) := by decide +kernel
theorem dX1_switchesTo_13 : decode cX1_switchesTo 13 = .ok (.iload_n 3, 1) := by decide +kernel
theorem dX1_switchesTo_14 : decode cX1_switchesTo 14 = .ok (.iload_n 1, 1) := by decide +kernel
theorem dX1_switchesTo_15 : decode cX1_switchesTo 15 = .ok (.invokevirtual 41, 3) := by decide +kernel
theorem dX1_switchesTo_18 : decode cX1_switchesTo 18 = .ok (.ifCond .eq 9, 3) := by decide +kernel
theorem dX1_switchesTo_21 : decode cX1_switchesTo 21 = .ok (.iload_n 2, 1) := by decide +kernel
theorem dX1_switchesTo_22 : decode cX1_switchesTo 22 = .ok (.iconst 1, 1) := by decide +kernel
theorem dX1_switchesTo_23 : decode cX1_switchesTo 23 = .ok (.iload_n 3, 1) := by decide +kernel
theorem dX1_switchesTo_24 : decode cX1_switchesTo 24 = .ok (.ishl, 1) := by decide +kernel
theorem dX1_switchesTo_25 : decode cX1_switchesTo 25 = .ok (.ior, 1) := by decide +kernel
theorem dX1_switchesTo_26 : decode cX1_switchesTo 26 = .ok (.istore_n 2, 1) := by decide +kernel
theorem dX1_switchesTo_27 : decode cX1_switchesTo 27 = .ok (.iinc 3 1, 3) := by decide +kernel
theorem dX1_switchesTo_30 : decode cX1_switchesTo 30 = .ok (.goto (-26), 3) := by decide +kernel
theorem dX1_switchesTo_33 : decode cX1_switchesTo 33 = .ok (.iload_n 2, 1) := by decide +kernel
theorem dX1_switchesTo_34 : decode cX1_switchesTo 34 = .ok (.ireturn, 1) := by decide +kernel
theorem dX1_moves_0 : decode cX1_moves 0 = .ok (.aload_n 0, 1) := by decide +kernel
theorem dX1_moves_1 : decode cX1_moves 1 = .ok (.getfield 18, 3) := by decide +kernel
theorem dX1_moves_4 : decode cX1_moves 4 = .ok (.iload_n 1, 1) := by decide +kernel
theorem dX1_moves_5 : decode cX1_moves 5 = .ok (.iaload, 1) := by decide +kernel
theorem dX1_moves_6 : decode cX1_moves 6 = .ok (.lookupswitch 44 #[(1, 35), (2, 26)], 26) := by decide +kernel
theorem dX1_moves_32 : decode cX1_moves 32 = .ok (.iconst 2, 1) := by decide +kernel
theorem dX1_moves_33 : decode cX1_moves 33 = .ok (.aload_n 0, 1) := by decide +kernel
theorem dX1_moves_34 : decode cX1_moves 34 = .ok (.getfield 21, 3) := by decide +kernel
theorem dX1_moves_37 : decode cX1_moves 37 = .ok (.iload_n 1, 1) := by decide +kernel
theorem dX1_moves_38 : decode cX1_moves 38 = .ok (.iaload, 1) := by decide +kernel
theorem dX1_moves_39 : decode cX1_moves 39 = .ok (.imul, 1) := by decide +kernel
theorem dX1_moves_40 : decode cX1_moves 40 = .ok (.ireturn, 1) := by decide +kernel
theorem dX1_moves_41 : decode cX1_moves 41 = .ok (.aload_n 0, 1) := by decide +kernel
theorem dX1_moves_42 : decode cX1_moves 42 = .ok (.getfield 21, 3) := by decide +kernel
theorem dX1_moves_45 : decode cX1_moves 45 = .ok (.iload_n 1, 1) := by decide +kernel
theorem dX1_moves_46 : decode cX1_moves 46 = .ok (.iaload, 1) := by decide +kernel
theorem dX1_moves_47 : decode cX1_moves 47 = .ok (.iconst 1, 1) := by decide +kernel
theorem dX1_moves_48 : decode cX1_moves 48 = .ok (.iadd, 1) := by decide +kernel
theorem dX1_moves_49 : decode cX1_moves 49 = .ok (.ireturn, 1) := by decide +kernel
theorem dX1_moves_50 : decode cX1_moves 50 = .ok (.aload_n 0, 1) := by decide +kernel
theorem dX1_moves_51 : decode cX1_moves 51 = .ok (.getfield 21, 3) := by decide +kernel
theorem dX1_moves_54 : decode cX1_moves 54 = .ok (.iload_n 1, 1) := by decide +kernel
theorem dX1_moves_55 : decode cX1_moves 55 = .ok (.iaload, 1) := by decide +kernel
theorem dX1_moves_56 : decode cX1_moves 56 = .ok (.ireturn, 1) := by decide +kernel
theorem dX1_stepOf_0 : decode cX1_stepOf 0 = .ok (.aload_n 0, 1) := by decide +kernel
theorem dX1_stepOf_1 : decode cX1_stepOf 1 = .ok (.iload_n 1, 1) := by decide +kernel
theorem dX1_stepOf_2 : decode cX1_stepOf 2 = .ok (.iload_n 2, 1) := by decide +kernel
theorem dX1_stepOf_3 : decode cX1_stepOf 3 = .ok (.invokevirtual 41, 3) := by decide +kernel
theorem dX1_stepOf_6 : decode cX1_stepOf 6 = .ok (.ifCond .eq 20, 3) := by decide +kernel
theorem dX1_stepOf_9 : decode cX1_stepOf 9 = .ok (.aload_n 0, 1) := by decide +kernel
theorem dX1_stepOf_10 : decode cX1_stepOf 10 = .ok (.iload_n 1, 1) := by decide +kernel
theorem dX1_stepOf_11 : decode cX1_stepOf 11 = .ok (.invokevirtual 45, 3) := by decide +kernel
theorem dX1_stepOf_14 : decode cX1_stepOf 14 = .ok (.aload_n 0, 1) := by decide +kernel
theorem dX1_stepOf_15 : decode cX1_stepOf 15 = .ok (.getfield 9, 3) := by decide +kernel
theorem dX1_stepOf_18 : decode cX1_stepOf 18 = .ok (.iload_n 2, 1) := by decide +kernel
theorem dX1_stepOf_19 : decode cX1_stepOf 19 = .ok (.iaload, 1) := by decide +kernel
theorem dX1_stepOf_20 : decode cX1_stepOf 20 = .ok (.invokestatic 49, 3) := by decide +kernel
theorem dX1_stepOf_23 : decode cX1_stepOf 23 = .ok (.goto 4, 3) := by decide +kernel
theorem dX1_stepOf_26 : decode cX1_stepOf 26 = .ok (.iconst 0, 1) := by decide +kernel
theorem dX1_stepOf_27 : decode cX1_stepOf 27 = .ok (.ireturn, 1) := by decide +kernel
theorem dX1_turnOn_0 : decode cX1_turnOn 0 = .ok (.iconst 0, 1) := by decide +kernel
theorem dX1_turnOn_1 : decode cX1_turnOn 1 = .ok (.istore 4, 2) := by decide +kernel
theorem dX1_turnOn_3 : decode cX1_turnOn 3 = .ok (.iload 4, 2) := by decide +kernel
theorem dX1_turnOn_5 : decode cX1_turnOn 5 = .ok (.aload_n 0, 1) := by decide +kernel
theorem dX1_turnOn_6 : decode cX1_turnOn 6 = .ok (.getfield 30, 3) := by decide +kernel
theorem dX1_turnOn_9 : decode cX1_turnOn 9 = .ok (.if_icmp .ge 37, 3) := by decide +kernel
theorem dX1_turnOn_12 : decode cX1_turnOn 12 = .ok (.aload_n 1, 1) := by decide +kernel
theorem dX1_turnOn_13 : decode cX1_turnOn 13 = .ok (.iload 4, 2) := by decide +kernel
theorem dX1_turnOn_15 : decode cX1_turnOn 15 = .ok (.aload_n 1, 1) := by decide +kernel
theorem dX1_turnOn_16 : decode cX1_turnOn 16 = .ok (.iload 4, 2) := by decide +kernel
theorem dX1_turnOn_18 : decode cX1_turnOn 18 = .ok (.iaload, 1) := by decide +kernel
theorem dX1_turnOn_19 : decode cX1_turnOn 19 = .ok (.iload_n 3, 1) := by decide +kernel
theorem dX1_turnOn_20 : decode cX1_turnOn 20 = .ok (.aload_n 0, 1) := by decide +kernel
theorem dX1_turnOn_21 : decode cX1_turnOn 21 = .ok (.iload_n 2, 1) := by decide +kernel
theorem dX1_turnOn_22 : decode cX1_turnOn 22 = .ok (.iload 4, 2) := by decide +kernel
theorem dX1_turnOn_24 : decode cX1_turnOn 24 = .ok (.invokevirtual 53, 3) := by decide +kernel
theorem dX1_turnOn_27 : decode cX1_turnOn 27 = .ok (.imul, 1) := by decide +kernel
theorem dX1_turnOn_28 : decode cX1_turnOn 28 = .ok (.iadd, 1) := by decide +kernel
theorem dX1_turnOn_29 : decode cX1_turnOn 29 = .ok (.aload_n 0, 1) := by decide +kernel
theorem dX1_turnOn_30 : decode cX1_turnOn 30 = .ok (.getfield 9, 3) := by decide +kernel
theorem dX1_turnOn_33 : decode cX1_turnOn 33 = .ok (.iload 4, 2) := by decide +kernel
theorem dX1_turnOn_35 : decode cX1_turnOn 35 = .ok (.iaload, 1) := by decide +kernel
theorem dX1_turnOn_36 : decode cX1_turnOn 36 = .ok (.invokestatic 49, 3) := by decide +kernel
theorem dX1_turnOn_39 : decode cX1_turnOn 39 = .ok (.iastore, 1) := by decide +kernel
theorem dX1_turnOn_40 : decode cX1_turnOn 40 = .ok (.iinc 4 1, 3) := by decide +kernel
theorem dX1_turnOn_43 : decode cX1_turnOn 43 = .ok (.goto (-40), 3) := by decide +kernel
theorem dX1_turnOn_46 : decode cX1_turnOn 46 = .ok (.return_, 1) := by decide +kernel
theorem dX1_darkIn_0 : decode cX1_darkIn 0 = .ok (.iconst 0, 1) := by decide +kernel
theorem dX1_darkIn_1 : decode cX1_darkIn 1 = .ok (.istore_n 2, 1) := by decide +kernel
theorem dX1_darkIn_2 : decode cX1_darkIn 2 = .ok (.iconst 0, 1) := by decide +kernel
theorem dX1_darkIn_3 : decode cX1_darkIn 3 = .ok (.istore_n 3, 1) := by decide +kernel
theorem dX1_darkIn_4 : decode cX1_darkIn 4 = .ok (.iload_n 3, 1) := by decide +kernel
theorem dX1_darkIn_5 : decode cX1_darkIn 5 = .ok (.aload_n 0, 1) := by decide +kernel
theorem dX1_darkIn_6 : decode cX1_darkIn 6 = .ok (.getfield 30, 3) := by decide +kernel
theorem dX1_darkIn_9 : decode cX1_darkIn 9 = .ok (.if_icmp .ge 18, 3) := by decide +kernel
theorem dX1_darkIn_12 : decode cX1_darkIn 12 = .ok (.aload_n 1, 1) := by decide +kernel
theorem dX1_darkIn_13 : decode cX1_darkIn 13 = .ok (.iload_n 3, 1) := by decide +kernel
theorem dX1_darkIn_14 : decode cX1_darkIn 14 = .ok (.iaload, 1) := by decide +kernel
theorem dX1_darkIn_15 : decode cX1_darkIn 15 = .ok (.ifCond .ne 6, 3) := by decide +kernel
theorem dX1_darkIn_18 : decode cX1_darkIn 18 = .ok (.iinc 2 1, 3) := by decide +kernel
theorem dX1_darkIn_21 : decode cX1_darkIn 21 = .ok (.iinc 3 1, 3) := by decide +kernel
theorem dX1_darkIn_24 : decode cX1_darkIn 24 = .ok (.goto (-20), 3) := by decide +kernel
theorem dX1_darkIn_27 : decode cX1_darkIn 27 = .ok (.iload_n 2, 1) := by decide +kernel
theorem dX1_darkIn_28 : decode cX1_darkIn 28 = .ok (.ireturn, 1) := by decide +kernel
theorem dX1_shadesIn_0 : decode cX1_shadesIn 0 = .ok (.iconst 0, 1) := by decide +kernel
theorem dX1_shadesIn_1 : decode cX1_shadesIn 1 = .ok (.istore_n 2, 1) := by decide +kernel
theorem dX1_shadesIn_2 : decode cX1_shadesIn 2 = .ok (.iconst 0, 1) := by decide +kernel
theorem dX1_shadesIn_3 : decode cX1_shadesIn 3 = .ok (.istore_n 3, 1) := by decide +kernel
theorem dX1_shadesIn_4 : decode cX1_shadesIn 4 = .ok (.iload_n 3, 1) := by decide +kernel
theorem dX1_shadesIn_5 : decode cX1_shadesIn 5 = .ok (.aload_n 0, 1) := by decide +kernel
theorem dX1_shadesIn_6 : decode cX1_shadesIn 6 = .ok (.getfield 30, 3) := by decide +kernel
theorem dX1_shadesIn_9 : decode cX1_shadesIn 9 = .ok (.if_icmp .ge 15, 3) := by decide +kernel
theorem dX1_shadesIn_12 : decode cX1_shadesIn 12 = .ok (.iload_n 2, 1) := by decide +kernel
theorem dX1_shadesIn_13 : decode cX1_shadesIn 13 = .ok (.aload_n 1, 1) := by decide +kernel
theorem dX1_shadesIn_14 : decode cX1_shadesIn 14 = .ok (.iload_n 3, 1) := by decide +kernel
theorem dX1_shadesIn_15 : decode cX1_shadesIn 15 = .ok (.iaload, 1) := by decide +kernel
theorem dX1_shadesIn_16 : decode cX1_shadesIn 16 = .ok (.iadd, 1) := by decide +kernel
theorem dX1_shadesIn_17 : decode cX1_shadesIn 17 = .ok (.istore_n 2, 1) := by decide +kernel
theorem dX1_shadesIn_18 : decode cX1_shadesIn 18 = .ok (.iinc 3 1, 3) := by decide +kernel
theorem dX1_shadesIn_21 : decode cX1_shadesIn 21 = .ok (.goto (-17), 3) := by decide +kernel
theorem dX1_shadesIn_24 : decode cX1_shadesIn 24 = .ok (.iload_n 2, 1) := by decide +kernel
theorem dX1_shadesIn_25 : decode cX1_shadesIn 25 = .ok (.ireturn, 1) := by decide +kernel
theorem dX1_pressesInAll_0 : decode cX1_pressesInAll 0 = .ok (.iconst 0, 1) := by decide +kernel
theorem dX1_pressesInAll_1 : decode cX1_pressesInAll 1 = .ok (.istore_n 1, 1) := by decide +kernel
theorem dX1_pressesInAll_2 : decode cX1_pressesInAll 2 = .ok (.iconst 0, 1) := by decide +kernel
theorem dX1_pressesInAll_3 : decode cX1_pressesInAll 3 = .ok (.istore_n 2, 1) := by decide +kernel
theorem dX1_pressesInAll_4 : decode cX1_pressesInAll 4 = .ok (.iload_n 2, 1) := by decide +kernel
theorem dX1_pressesInAll_5 : decode cX1_pressesInAll 5 = .ok (.aload_n 0, 1) := by decide +kernel
theorem dX1_pressesInAll_6 : decode cX1_pressesInAll 6 = .ok (.getfield 34, 3) := by decide +kernel
theorem dX1_pressesInAll_9 : decode cX1_pressesInAll 9 = .ok (.if_icmp .ge 18, 3) := by decide +kernel
theorem dX1_pressesInAll_12 : decode cX1_pressesInAll 12 = .ok (.iload_n 1, 1) := by decide +kernel
theorem dX1_pressesInAll_13 : decode cX1_pressesInAll 13 = .ok (.aload_n 0, 1) := by decide +kernel
theorem dX1_pressesInAll_14 : decode cX1_pressesInAll 14 = .ok (.getfield 27, 3) := by decide +kernel
theorem dX1_pressesInAll_17 : decode cX1_pressesInAll 17 = .ok (.iload_n 2, 1) := by decide +kernel
theorem dX1_pressesInAll_18 : decode cX1_pressesInAll 18 = .ok (.iaload, 1) := by decide +kernel
theorem dX1_pressesInAll_19 : decode cX1_pressesInAll 19 = .ok (.iadd, 1) := by decide +kernel
theorem dX1_pressesInAll_20 : decode cX1_pressesInAll 20 = .ok (.istore_n 1, 1) := by decide +kernel
theorem dX1_pressesInAll_21 : decode cX1_pressesInAll 21 = .ok (.iinc 2 1, 3) := by decide +kernel
theorem dX1_pressesInAll_24 : decode cX1_pressesInAll 24 = .ok (.goto (-20), 3) := by decide +kernel
theorem dX1_pressesInAll_27 : decode cX1_pressesInAll 27 = .ok (.iload_n 1, 1) := by decide +kernel
theorem dX1_pressesInAll_28 : decode cX1_pressesInAll 28 = .ok (.ireturn, 1) := by decide +kernel
theorem dX1_darkRows_0 : decode cX1_darkRows 0 = .ok (.iload_n 2, 1) := by decide +kernel
theorem dX1_darkRows_1 : decode cX1_darkRows 1 = .ok (.ifCond .gt 21, 3) := by decide +kernel
theorem dX1_darkRows_4 : decode cX1_darkRows 4 = .ok (.aload_n 0, 1) := by decide +kernel
theorem dX1_darkRows_5 : decode cX1_darkRows 5 = .ok (.aload_n 1, 1) := by decide +kernel
theorem dX1_darkRows_6 : decode cX1_darkRows 6 = .ok (.invokevirtual 56, 3) := by decide +kernel
theorem dX1_darkRows_9 : decode cX1_darkRows 9 = .ok (.aload_n 0, 1) := by decide +kernel
theorem dX1_darkRows_10 : decode cX1_darkRows 10 = .ok (.getfield 30, 3) := by decide +kernel
theorem dX1_darkRows_13 : decode cX1_darkRows 13 = .ok (.if_icmp .ne 7, 3) := by decide +kernel
theorem dX1_darkRows_16 : decode cX1_darkRows 16 = .ok (.iconst 1, 1) := by decide +kernel
theorem dX1_darkRows_17 : decode cX1_darkRows 17 = .ok (.goto 4, 3) := by decide +kernel
theorem dX1_darkRows_20 : decode cX1_darkRows 20 = .ok (.iconst 0, 1) := by decide +kernel
theorem dX1_darkRows_21 : decode cX1_darkRows 21 = .ok (.ireturn, 1) := by decide +kernel
theorem dX1_darkRows_22 : decode cX1_darkRows 22 = .ok (.iconst 0, 1) := by decide +kernel
theorem dX1_darkRows_23 : decode cX1_darkRows 23 = .ok (.istore_n 3, 1) := by decide +kernel
theorem dX1_darkRows_24 : decode cX1_darkRows 24 = .ok (.iconst 0, 1) := by decide +kernel
theorem dX1_darkRows_25 : decode cX1_darkRows 25 = .ok (.istore 4, 2) := by decide +kernel
theorem dX1_darkRows_27 : decode cX1_darkRows 27 = .ok (.iload 4, 2) := by decide +kernel
theorem dX1_darkRows_29 : decode cX1_darkRows 29 = .ok (.aload_n 0, 1) := by decide +kernel
theorem dX1_darkRows_30 : decode cX1_darkRows 30 = .ok (.getfield 34, 3) := by decide +kernel
theorem dX1_darkRows_33 : decode cX1_darkRows 33 = .ok (.if_icmp .ge 36, 3) := by decide +kernel
theorem dX1_darkRows_36 : decode cX1_darkRows 36 = .ok (.aload_n 0, 1) := by decide +kernel
theorem dX1_darkRows_37 : decode cX1_darkRows 37 = .ok (.aload_n 1, 1) := by decide +kernel
theorem dX1_darkRows_38 : decode cX1_darkRows 38 = .ok (.iload 4, 2) := by decide +kernel
theorem dX1_darkRows_40 : decode cX1_darkRows 40 = .ok (.iconst 1, 1) := by decide +kernel
theorem dX1_darkRows_41 : decode cX1_darkRows 41 = .ok (.invokevirtual 60, 3) := by decide +kernel
theorem dX1_darkRows_44 : decode cX1_darkRows 44 = .ok (.iload_n 3, 1) := by decide +kernel
theorem dX1_darkRows_45 : decode cX1_darkRows 45 = .ok (.aload_n 0, 1) := by decide +kernel
theorem dX1_darkRows_46 : decode cX1_darkRows 46 = .ok (.aload_n 1, 1) := by decide +kernel
theorem dX1_darkRows_47 : decode cX1_darkRows 47 = .ok (.iload_n 2, 1) := by decide +kernel
theorem dX1_darkRows_48 : decode cX1_darkRows 48 = .ok (.iconst 1, 1) := by decide +kernel
theorem dX1_darkRows_49 : decode cX1_darkRows 49 = .ok (.isub, 1) := by decide +kernel
theorem dX1_darkRows_50 : decode cX1_darkRows 50 = .ok (.invokevirtual 64, 3) := by decide +kernel
theorem dX1_darkRows_53 : decode cX1_darkRows 53 = .ok (.iadd, 1) := by decide +kernel
theorem dX1_darkRows_54 : decode cX1_darkRows 54 = .ok (.istore_n 3, 1) := by decide +kernel
theorem dX1_darkRows_55 : decode cX1_darkRows 55 = .ok (.aload_n 0, 1) := by decide +kernel
theorem dX1_darkRows_56 : decode cX1_darkRows 56 = .ok (.aload_n 1, 1) := by decide +kernel
theorem dX1_darkRows_57 : decode cX1_darkRows 57 = .ok (.iload 4, 2) := by decide +kernel
theorem dX1_darkRows_59 : decode cX1_darkRows 59 = .ok (.iconst (-1), 1) := by decide +kernel
theorem dX1_darkRows_60 : decode cX1_darkRows 60 = .ok (.invokevirtual 60, 3) := by decide +kernel
theorem dX1_darkRows_63 : decode cX1_darkRows 63 = .ok (.iinc 4 1, 3) := by decide +kernel
theorem dX1_darkRows_66 : decode cX1_darkRows 66 = .ok (.goto (-39), 3) := by decide +kernel
theorem dX1_darkRows_69 : decode cX1_darkRows 69 = .ok (.iload_n 3, 1) := by decide +kernel
theorem dX1_darkRows_70 : decode cX1_darkRows 70 = .ok (.ireturn, 1) := by decide +kernel
theorem dX2_init_0 : decode cX2_init 0 = .ok (.aload_n 0, 1) := by decide +kernel
theorem dX2_init_1 : decode cX2_init 1 = .ok (.invokespecial 3, 3) := by decide +kernel
theorem dX2_init_4 : decode cX2_init 4 = .ok (.aload_n 0, 1) := by decide +kernel
theorem dX2_init_5 : decode cX2_init 5 = .ok (.iconst 5, 1) := by decide +kernel
theorem dX2_init_6 : decode cX2_init 6 = .ok (.newarray .int, 2) := by decide +kernel
theorem dX2_init_8 : decode cX2_init 8 = .ok (.putfield 9, 3) := by decide +kernel
theorem dX2_init_11 : decode cX2_init 11 = .ok (.aload_n 0, 1) := by decide +kernel
theorem dX2_init_12 : decode cX2_init 12 = .ok (.iconst 5, 1) := by decide +kernel
theorem dX2_init_13 : decode cX2_init 13 = .ok (.iconst 5, 1) := by decide +kernel
theorem dX2_init_14 : decode cX2_init 14 = .ok (.multianewarray 15 2, 4) := by decide +kernel
theorem dX2_init_18 : decode cX2_init 18 = .ok (.putfield 17, 3) := by decide +kernel
theorem dX2_init_21 : decode cX2_init 21 = .ok (.aload_n 0, 1) := by decide +kernel
theorem dX2_init_22 : decode cX2_init 22 = .ok (.iconst 5, 1) := by decide +kernel
theorem dX2_init_23 : decode cX2_init 23 = .ok (.newarray .int, 2) := by decide +kernel
theorem dX2_init_25 : decode cX2_init 25 = .ok (.putfield 20, 3) := by decide +kernel
theorem dX2_init_28 : decode cX2_init 28 = .ok (.aload_n 0, 1) := by decide +kernel
theorem dX2_init_29 : decode cX2_init 29 = .ok (.sipush 3125, 3) := by decide +kernel
theorem dX2_init_32 : decode cX2_init 32 = .ok (.newarray .int, 2) := by decide +kernel
theorem dX2_init_34 : decode cX2_init 34 = .ok (.putfield 23, 3) := by decide +kernel
theorem dX2_init_37 : decode cX2_init 37 = .ok (.aload_n 0, 1) := by decide +kernel
theorem dX2_init_38 : decode cX2_init 38 = .ok (.sipush 3125, 3) := by decide +kernel
theorem dX2_init_41 : decode cX2_init 41 = .ok (.newarray .int, 2) := by decide +kernel
theorem dX2_init_43 : decode cX2_init 43 = .ok (.putfield 26, 3) := by decide +kernel
theorem dX2_init_46 : decode cX2_init 46 = .ok (.aload_n 0, 1) := by decide +kernel
theorem dX2_init_47 : decode cX2_init 47 = .ok (.iconst (-1), 1) := by decide +kernel
theorem dX2_init_48 : decode cX2_init 48 = .ok (.putfield 29, 3) := by decide +kernel
theorem dX2_init_51 : decode cX2_init 51 = .ok (.return_, 1) := by decide +kernel
theorem dX2_forget_0 : decode cX2_forget 0 = .ok (.aload_n 0, 1) := by decide +kernel
theorem dX2_forget_1 : decode cX2_forget 1 = .ok (.iconst (-1), 1) := by decide +kernel
theorem dX2_forget_2 : decode cX2_forget 2 = .ok (.putfield 29, 3) := by decide +kernel
theorem dX2_forget_5 : decode cX2_forget 5 = .ok (.return_, 1) := by decide +kernel
theorem dX2_manyBy_0 : decode cX2_manyBy 0 = .ok (.aload_n 0, 1) := by decide +kernel
theorem dX2_manyBy_1 : decode cX2_manyBy 1 = .ok (.aload_n 1, 1) := by decide +kernel
theorem dX2_manyBy_2 : decode cX2_manyBy 2 = .ok (.iload_n 2, 1) := by decide +kernel
theorem dX2_manyBy_3 : decode cX2_manyBy 3 = .ok (.invokevirtual 33, 3) := by decide +kernel
theorem dX2_manyBy_6 : decode cX2_manyBy 6 = .ok (.aload_n 0, 1) := by decide +kernel
theorem dX2_manyBy_7 : decode cX2_manyBy 7 = .ok (.getfield 37, 3) := by decide +kernel
theorem dX2_manyBy_10 : decode cX2_manyBy 10 = .ok (.ireturn, 1) := by decide +kernel
theorem dX2_pressesFor_0 : decode cX2_pressesFor 0 = .ok (.aload_n 0, 1) := by decide +kernel
theorem dX2_pressesFor_1 : decode cX2_pressesFor 1 = .ok (.aload_n 1, 1) := by decide +kernel
theorem dX2_pressesFor_2 : decode cX2_pressesFor 2 = .ok (.aload_n 1, 1) := by decide +kernel
theorem dX2_pressesFor_3 : decode cX2_pressesFor 3 = .ok (.invokevirtual 40, 3) := by decide +kernel
theorem dX2_pressesFor_6 : decode cX2_pressesFor 6 = .ok (.invokevirtual 33, 3) := by decide +kernel
theorem dX2_pressesFor_9 : decode cX2_pressesFor 9 = .ok (.aload_n 0, 1) := by decide +kernel
theorem dX2_pressesFor_10 : decode cX2_pressesFor 10 = .ok (.aload_n 0, 1) := by decide +kernel
theorem dX2_pressesFor_11 : decode cX2_pressesFor 11 = .ok (.aload_n 1, 1) := by decide +kernel
theorem dX2_pressesFor_12 : decode cX2_pressesFor 12 = .ok (.aload_n 2, 1) := by decide +kernel
theorem dX2_pressesFor_13 : decode cX2_pressesFor 13 = .ok (.invokevirtual 46, 3) := by decide +kernel
theorem dX2_pressesFor_16 : decode cX2_pressesFor 16 = .ok (.invokevirtual 50, 3) := by decide +kernel
theorem dX2_pressesFor_19 : decode cX2_pressesFor 19 = .ok (.ireturn, 1) := by decide +kernel
theorem dX2_pressesForNothing_0 : decode cX2_pressesForNothing 0 = .ok (.aload_n 0, 1) := by decide +kernel
theorem dX2_pressesForNothing_1 : decode cX2_pressesForNothing 1 = .ok (.aload_n 1, 1) := by decide +kernel
theorem dX2_pressesForNothing_2 : decode cX2_pressesForNothing 2 = .ok (.aload_n 1, 1) := by decide +kernel
theorem dX2_pressesForNothing_3 : decode cX2_pressesForNothing 3 = .ok (.invokevirtual 40, 3) := by decide +kernel
theorem dX2_pressesForNothing_6 : decode cX2_pressesForNothing 6 = .ok (.invokevirtual 33, 3) := by decide +kernel
theorem dX2_pressesForNothing_9 : decode cX2_pressesForNothing 9 = .ok (.aload_n 0, 1) := by decide +kernel
theorem dX2_pressesForNothing_10 : decode cX2_pressesForNothing 10 = .ok (.aload_n 1, 1) := by decide +kernel
theorem dX2_pressesForNothing_11 : decode cX2_pressesForNothing 11 = .ok (.iconst 0, 1) := by decide +kernel
theorem dX2_pressesForNothing_12 : decode cX2_pressesForNothing 12 = .ok (.invokevirtual 54, 3) := by decide +kernel
theorem dX2_pressesForNothing_15 : decode cX2_pressesForNothing 15 = .ok (.bipush (-9), 2) := by decide +kernel
theorem dX2_pressesForNothing_17 : decode cX2_pressesForNothing 17 = .ok (.istore_n 2, 1) := by decide +kernel
theorem dX2_pressesForNothing_18 : decode cX2_pressesForNothing 18 = .ok (.iconst 0, 1) := by decide +kernel
theorem dX2_pressesForNothing_19 : decode cX2_pressesForNothing 19 = .ok (.istore_n 3, 1) := by decide +kernel
theorem dX2_pressesForNothing_20 : decode cX2_pressesForNothing 20 = .ok (.iload_n 3, 1) := by decide +kernel
theorem dX2_pressesForNothing_21 : decode cX2_pressesForNothing 21 = .ok (.aload_n 1, 1) := by decide +kernel
theorem dX2_pressesForNothing_22 : decode cX2_pressesForNothing 22 = .ok (.getfield 57, 3) := by decide +kernel
theorem dX2_pressesForNothing_25 : decode cX2_pressesForNothing 25 = .ok (.if_icmp .ge 48, 3) := by decide +kernel
theorem dX2_pressesForNothing_28 : decode cX2_pressesForNothing 28 = .ok (.aload_n 0, 1) := by decide +kernel
theorem dX2_pressesForNothing_29 : decode cX2_pressesForNothing 29 = .ok (.aload_n 0, 1) := by decide +kernel
theorem dX2_pressesForNothing_30 : decode cX2_pressesForNothing 30 = .ok (.aload_n 1, 1) := by decide +kernel
theorem dX2_pressesForNothing_31 : decode cX2_pressesForNothing 31 = .ok (.iload_n 3, 1) := by decide +kernel
theorem dX2_pressesForNothing_32 : decode cX2_pressesForNothing 32 = .ok (.iconst (-1), 1) := by decide +kernel
theorem dX2_pressesForNothing_33 : decode cX2_pressesForNothing 33 = .ok (.invokevirtual 60, 3) := by decide +kernel
theorem dX2_pressesForNothing_36 : decode cX2_pressesForNothing 36 = .ok (.invokevirtual 50, 3) := by decide +kernel
theorem dX2_pressesForNothing_39 : decode cX2_pressesForNothing 39 = .ok (.istore 4, 2) := by decide +kernel
theorem dX2_pressesForNothing_41 : decode cX2_pressesForNothing 41 = .ok (.iload 4, 2) := by decide +kernel
theorem dX2_pressesForNothing_43 : decode cX2_pressesForNothing 43 = .ok (.bipush (-9), 2) := by decide +kernel
theorem dX2_pressesForNothing_45 : decode cX2_pressesForNothing 45 = .ok (.if_icmp .eq 22, 3) := by decide +kernel
theorem dX2_pressesForNothing_48 : decode cX2_pressesForNothing 48 = .ok (.iload_n 2, 1) := by decide +kernel
theorem dX2_pressesForNothing_49 : decode cX2_pressesForNothing 49 = .ok (.bipush (-9), 2) := by decide +kernel
theorem dX2_pressesForNothing_51 : decode cX2_pressesForNothing 51 = .ok (.if_icmp .eq 11, 3) := by decide +kernel
theorem dX2_pressesForNothing_54 : decode cX2_pressesForNothing 54 = .ok (.iload 4, 2) := by decide +kernel
theorem dX2_pressesForNothing_56 : decode cX2_pressesForNothing 56 = .ok (.iconst 1, 1) := by decide +kernel
theorem dX2_pressesForNothing_57 : decode cX2_pressesForNothing 57 = .ok (.iadd, 1) := by decide +kernel
theorem dX2_pressesForNothing_58 : decode cX2_pressesForNothing 58 = .ok (.iload_n 2, 1) := by decide +kernel
theorem dX2_pressesForNothing_59 : decode cX2_pressesForNothing 59 = .ok (.if_icmp .ge 8, 3) := by decide +kernel
theorem dX2_pressesForNothing_62 : decode cX2_pressesForNothing 62 = .ok (.iload 4, 2) := by decide +kernel
theorem dX2_pressesForNothing_64 : decode cX2_pressesForNothing 64 = .ok (.iconst 1, 1) := by decide +kernel
theorem dX2_pressesForNothing_65 : decode cX2_pressesForNothing 65 = .ok (.iadd, 1) := by decide +kernel
theorem dX2_pressesForNothing_66 : decode cX2_pressesForNothing 66 = .ok (.istore_n 2, 1) := by decide +kernel
theorem dX2_pressesForNothing_67 : decode cX2_pressesForNothing 67 = .ok (.iinc 3 1, 3) := by decide +kernel
theorem dX2_pressesForNothing_70 : decode cX2_pressesForNothing 70 = .ok (.goto (-50), 3) := by decide +kernel
theorem dX2_pressesForNothing_73 : decode cX2_pressesForNothing 73 = .ok (.iload_n 2, 1) := by decide +kernel
theorem dX2_pressesForNothing_74 : decode cX2_pressesForNothing 74 = .ok (.ireturn, 1) := by decide +kernel
theorem dX2_placeInRow_0 : decode cX2_placeInRow 0 = .ok (.aload_n 0, 1) := by decide +kernel
theorem dX2_placeInRow_1 : decode cX2_placeInRow 1 = .ok (.aload_n 1, 1) := by decide +kernel
theorem dX2_placeInRow_2 : decode cX2_placeInRow 2 = .ok (.aload_n 2, 1) := by decide +kernel
theorem dX2_placeInRow_3 : decode cX2_placeInRow 3 = .ok (.invokevirtual 46, 3) := by decide +kernel
theorem dX2_placeInRow_6 : decode cX2_placeInRow 6 = .ok (.istore 4, 2) := by decide +kernel
theorem dX2_placeInRow_8 : decode cX2_placeInRow 8 = .ok (.aload_n 0, 1) := by decide +kernel
theorem dX2_placeInRow_9 : decode cX2_placeInRow 9 = .ok (.aload_n 1, 1) := by decide +kernel
theorem dX2_placeInRow_10 : decode cX2_placeInRow 10 = .ok (.aload_n 2, 1) := by decide +kernel
theorem dX2_placeInRow_11 : decode cX2_placeInRow 11 = .ok (.invokevirtual 64, 3) := by decide +kernel
theorem dX2_placeInRow_14 : decode cX2_placeInRow 14 = .ok (.istore 5, 2) := by decide +kernel
theorem dX2_placeInRow_16 : decode cX2_placeInRow 16 = .ok (.bipush (-9), 2) := by decide +kernel
theorem dX2_placeInRow_18 : decode cX2_placeInRow 18 = .ok (.istore 6, 2) := by decide +kernel
theorem dX2_placeInRow_20 : decode cX2_placeInRow 20 = .ok (.iconst 0, 1) := by decide +kernel
theorem dX2_placeInRow_21 : decode cX2_placeInRow 21 = .ok (.istore 7, 2) := by decide +kernel
theorem dX2_placeInRow_23 : decode cX2_placeInRow 23 = .ok (.iload 7, 2) := by decide +kernel
theorem dX2_placeInRow_25 : decode cX2_placeInRow 25 = .ok (.iload_n 3, 1) := by decide +kernel
theorem dX2_placeInRow_26 : decode cX2_placeInRow 26 = .ok (.if_icmp .gt 60, 3) := by decide +kernel
theorem dX2_placeInRow_29 : decode cX2_placeInRow 29 = .ok (.iload 7, 2) := by decide +kernel
theorem dX2_placeInRow_31 : decode cX2_placeInRow 31 = .ok (.iload 5, 2) := by decide +kernel
theorem dX2_placeInRow_33 : decode cX2_placeInRow 33 = .ok (.if_icmp .lt 6, 3) := by decide +kernel
theorem dX2_placeInRow_36 : decode cX2_placeInRow 36 = .ok (.bipush (-9), 2) := by decide +kernel
theorem dX2_placeInRow_38 : decode cX2_placeInRow 38 = .ok (.ireturn, 1) := by decide +kernel
theorem dX2_placeInRow_39 : decode cX2_placeInRow 39 = .ok (.aload_n 0, 1) := by decide +kernel
theorem dX2_placeInRow_40 : decode cX2_placeInRow 40 = .ok (.aload_n 1, 1) := by decide +kernel
theorem dX2_placeInRow_41 : decode cX2_placeInRow 41 = .ok (.iload 4, 2) := by decide +kernel
theorem dX2_placeInRow_43 : decode cX2_placeInRow 43 = .ok (.invokevirtual 54, 3) := by decide +kernel
theorem dX2_placeInRow_46 : decode cX2_placeInRow 46 = .ok (.aload_n 0, 1) := by decide +kernel
theorem dX2_placeInRow_47 : decode cX2_placeInRow 47 = .ok (.aload_n 1, 1) := by decide +kernel
theorem dX2_placeInRow_48 : decode cX2_placeInRow 48 = .ok (.iload 5, 2) := by decide +kernel
theorem dX2_placeInRow_50 : decode cX2_placeInRow 50 = .ok (.iload 7, 2) := by decide +kernel
theorem dX2_placeInRow_52 : decode cX2_placeInRow 52 = .ok (.isub, 1) := by decide +kernel
theorem dX2_placeInRow_53 : decode cX2_placeInRow 53 = .ok (.iconst 1, 1) := by decide +kernel
theorem dX2_placeInRow_54 : decode cX2_placeInRow 54 = .ok (.isub, 1) := by decide +kernel
theorem dX2_placeInRow_55 : decode cX2_placeInRow 55 = .ok (.invokevirtual 67, 3) := by decide +kernel
theorem dX2_placeInRow_58 : decode cX2_placeInRow 58 = .ok (.istore 6, 2) := by decide +kernel
theorem dX2_placeInRow_60 : decode cX2_placeInRow 60 = .ok (.iload 6, 2) := by decide +kernel
theorem dX2_placeInRow_62 : decode cX2_placeInRow 62 = .ok (.bipush (-9), 2) := by decide +kernel
theorem dX2_placeInRow_64 : decode cX2_placeInRow 64 = .ok (.if_icmp .ne 6, 3) := by decide +kernel
theorem dX2_placeInRow_67 : decode cX2_placeInRow 67 = .ok (.bipush (-9), 2) := by decide +kernel
theorem dX2_placeInRow_69 : decode cX2_placeInRow 69 = .ok (.ireturn, 1) := by decide +kernel
theorem dX2_placeInRow_70 : decode cX2_placeInRow 70 = .ok (.aload_n 0, 1) := by decide +kernel
theorem dX2_placeInRow_71 : decode cX2_placeInRow 71 = .ok (.aload_n 1, 1) := by decide +kernel
theorem dX2_placeInRow_72 : decode cX2_placeInRow 72 = .ok (.iload 6, 2) := by decide +kernel
theorem dX2_placeInRow_74 : decode cX2_placeInRow 74 = .ok (.iconst (-1), 1) := by decide +kernel
theorem dX2_placeInRow_75 : decode cX2_placeInRow 75 = .ok (.invokevirtual 60, 3) := by decide +kernel
theorem dX2_placeInRow_78 : decode cX2_placeInRow 78 = .ok (.istore 4, 2) := by decide +kernel
theorem dX2_placeInRow_80 : decode cX2_placeInRow 80 = .ok (.iinc 7 1, 3) := by decide +kernel
theorem dX2_placeInRow_83 : decode cX2_placeInRow 83 = .ok (.goto (-60), 3) := by decide +kernel
theorem dX2_placeInRow_86 : decode cX2_placeInRow 86 = .ok (.iload 6, 2) := by decide +kernel
theorem dX2_placeInRow_88 : decode cX2_placeInRow 88 = .ok (.ireturn, 1) := by decide +kernel
theorem dX2_firstThatLeaves_0 : decode cX2_firstThatLeaves 0 = .ok (.iconst 0, 1) := by decide +kernel
theorem dX2_firstThatLeaves_1 : decode cX2_firstThatLeaves 1 = .ok (.istore_n 3, 1) := by decide +kernel
theorem dX2_firstThatLeaves_2 : decode cX2_firstThatLeaves 2 = .ok (.iload_n 3, 1) := by decide +kernel
theorem dX2_firstThatLeaves_3 : decode cX2_firstThatLeaves 3 = .ok (.aload_n 1, 1) := by decide +kernel
theorem dX2_firstThatLeaves_4 : decode cX2_firstThatLeaves 4 = .ok (.getfield 57, 3) := by decide +kernel
theorem dX2_firstThatLeaves_7 : decode cX2_firstThatLeaves 7 = .ok (.if_icmp .ge 26, 3) := by decide +kernel
theorem dX2_firstThatLeaves_10 : decode cX2_firstThatLeaves 10 = .ok (.aload_n 0, 1) := by decide +kernel
theorem dX2_firstThatLeaves_11 : decode cX2_firstThatLeaves 11 = .ok (.aload_n 0, 1) := by decide +kernel
theorem dX2_firstThatLeaves_12 : decode cX2_firstThatLeaves 12 = .ok (.aload_n 1, 1) := by decide +kernel
theorem dX2_firstThatLeaves_13 : decode cX2_firstThatLeaves 13 = .ok (.iload_n 3, 1) := by decide +kernel
theorem dX2_firstThatLeaves_14 : decode cX2_firstThatLeaves 14 = .ok (.iconst (-1), 1) := by decide +kernel
theorem dX2_firstThatLeaves_15 : decode cX2_firstThatLeaves 15 = .ok (.invokevirtual 60, 3) := by decide +kernel
theorem dX2_firstThatLeaves_18 : decode cX2_firstThatLeaves 18 = .ok (.invokevirtual 50, 3) := by decide +kernel
theorem dX2_firstThatLeaves_21 : decode cX2_firstThatLeaves 21 = .ok (.iload_n 2, 1) := by decide +kernel
theorem dX2_firstThatLeaves_22 : decode cX2_firstThatLeaves 22 = .ok (.if_icmp .ne 5, 3) := by decide +kernel
theorem dX2_firstThatLeaves_25 : decode cX2_firstThatLeaves 25 = .ok (.iload_n 3, 1) := by decide +kernel
theorem dX2_firstThatLeaves_26 : decode cX2_firstThatLeaves 26 = .ok (.ireturn, 1) := by decide +kernel
theorem dX2_firstThatLeaves_27 : decode cX2_firstThatLeaves 27 = .ok (.iinc 3 1, 3) := by decide +kernel
theorem dX2_firstThatLeaves_30 : decode cX2_firstThatLeaves 30 = .ok (.goto (-28), 3) := by decide +kernel
theorem dX2_firstThatLeaves_33 : decode cX2_firstThatLeaves 33 = .ok (.bipush (-9), 2) := by decide +kernel
theorem dX2_firstThatLeaves_35 : decode cX2_firstThatLeaves 35 = .ok (.ireturn, 1) := by decide +kernel
theorem dX2_fewestTo_0 : decode cX2_fewestTo 0 = .ok (.iload_n 1, 1) := by decide +kernel
theorem dX2_fewestTo_1 : decode cX2_fewestTo 1 = .ok (.ifCond .lt 19, 3) := by decide +kernel
theorem dX2_fewestTo_4 : decode cX2_fewestTo 4 = .ok (.iload_n 1, 1) := by decide +kernel
theorem dX2_fewestTo_5 : decode cX2_fewestTo 5 = .ok (.sipush 3125, 3) := by decide +kernel
theorem dX2_fewestTo_8 : decode cX2_fewestTo 8 = .ok (.if_icmp .ge 12, 3) := by decide +kernel
theorem dX2_fewestTo_11 : decode cX2_fewestTo 11 = .ok (.aload_n 0, 1) := by decide +kernel
theorem dX2_fewestTo_12 : decode cX2_fewestTo 12 = .ok (.getfield 23, 3) := by decide +kernel
theorem dX2_fewestTo_15 : decode cX2_fewestTo 15 = .ok (.iload_n 1, 1) := by decide +kernel
theorem dX2_fewestTo_16 : decode cX2_fewestTo 16 = .ok (.iaload, 1) := by decide +kernel
theorem dX2_fewestTo_17 : decode cX2_fewestTo 17 = .ok (.goto 5, 3) := by decide +kernel
theorem dX2_fewestTo_20 : decode cX2_fewestTo 20 = .ok (.bipush (-9), 2) := by decide +kernel
theorem dX2_fewestTo_22 : decode cX2_fewestTo 22 = .ok (.ireturn, 1) := by decide +kernel
theorem dX2_spread_0 : decode cX2_spread 0 = .ok (.iload_n 2, 1) := by decide +kernel
theorem dX2_spread_1 : decode cX2_spread 1 = .ok (.aload_n 0, 1) := by decide +kernel
theorem dX2_spread_2 : decode cX2_spread 2 = .ok (.getfield 29, 3) := by decide +kernel
theorem dX2_spread_5 : decode cX2_spread 5 = .ok (.if_icmp .ne 4, 3) := by decide +kernel
theorem dX2_spread_8 : decode cX2_spread 8 = .ok (.return_, 1) := by decide +kernel
theorem dX2_spread_9 : decode cX2_spread 9 = .ok (.aload_n 0, 1) := by decide +kernel
theorem dX2_spread_10 : decode cX2_spread 10 = .ok (.aload_n 1, 1) := by decide +kernel
theorem dX2_spread_11 : decode cX2_spread 11 = .ok (.invokevirtual 71, 3) := by decide +kernel
theorem dX2_spread_14 : decode cX2_spread 14 = .ok (.istore_n 3, 1) := by decide +kernel
theorem dX2_spread_15 : decode cX2_spread 15 = .ok (.iconst 0, 1) := by decide +kernel
theorem dX2_spread_16 : decode cX2_spread 16 = .ok (.istore 4, 2) := by decide +kernel
theorem dX2_spread_18 : decode cX2_spread 18 = .ok (.iload 4, 2) := by decide +kernel
theorem dX2_spread_20 : decode cX2_spread 20 = .ok (.iload_n 3, 1) := by decide +kernel
theorem dX2_spread_21 : decode cX2_spread 21 = .ok (.if_icmp .ge 26, 3) := by decide +kernel
theorem dX2_spread_24 : decode cX2_spread 24 = .ok (.iload 4, 2) := by decide +kernel
theorem dX2_spread_26 : decode cX2_spread 26 = .ok (.sipush 3125, 3) := by decide +kernel
theorem dX2_spread_29 : decode cX2_spread 29 = .ok (.if_icmp .ge 18, 3) := by decide +kernel
theorem dX2_spread_32 : decode cX2_spread 32 = .ok (.aload_n 0, 1) := by decide +kernel
theorem dX2_spread_33 : decode cX2_spread 33 = .ok (.getfield 23, 3) := by decide +kernel
theorem dX2_spread_36 : decode cX2_spread 36 = .ok (.iload 4, 2) := by decide +kernel
theorem dX2_spread_38 : decode cX2_spread 38 = .ok (.bipush (-9), 2) := by decide +kernel
theorem dX2_spread_40 : decode cX2_spread 40 = .ok (.iastore, 1) := by decide +kernel
theorem dX2_spread_41 : decode cX2_spread 41 = .ok (.iinc 4 1, 3) := by decide +kernel
theorem dX2_spread_44 : decode cX2_spread 44 = .ok (.goto (-26), 3) := by decide +kernel
theorem dX2_spread_47 : decode cX2_spread 47 = .ok (.aload_n 0, 1) := by decide +kernel
theorem dX2_spread_48 : decode cX2_spread 48 = .ok (.iconst 0, 1) := by decide +kernel
theorem dX2_spread_49 : decode cX2_spread 49 = .ok (.putfield 37, 3) := by decide +kernel
theorem dX2_spread_52 : decode cX2_spread 52 = .ok (.aload_n 0, 1) := by decide +kernel
theorem dX2_spread_53 : decode cX2_spread 53 = .ok (.iconst 0, 1) := by decide +kernel
theorem dX2_spread_54 : decode cX2_spread 54 = .ok (.iconst 0, 1) := by decide +kernel
theorem dX2_spread_55 : decode cX2_spread 55 = .ok (.invokevirtual 75, 3) := by decide +kernel
theorem dX2_spread_58 : decode cX2_spread 58 = .ok (.iconst 0, 1) := by decide +kernel
theorem dX2_spread_59 : decode cX2_spread 59 = .ok (.istore 4, 2) := by decide +kernel
theorem dX2_spread_61 : decode cX2_spread 61 = .ok (.iload 4, 2) := by decide +kernel
theorem dX2_spread_63 : decode cX2_spread 63 = .ok (.aload_n 0, 1) := by decide +kernel
theorem dX2_spread_64 : decode cX2_spread 64 = .ok (.getfield 37, 3) := by decide +kernel
theorem dX2_spread_67 : decode cX2_spread 67 = .ok (.if_icmp .ge 81, 3) := by decide +kernel
theorem dX2_spread_70 : decode cX2_spread 70 = .ok (.iload 4, 2) := by decide +kernel
theorem dX2_spread_72 : decode cX2_spread 72 = .ok (.sipush 3125, 3) := by decide +kernel
theorem dX2_spread_75 : decode cX2_spread 75 = .ok (.if_icmp .ge 73, 3) := by decide +kernel
theorem dX2_spread_78 : decode cX2_spread 78 = .ok (.aload_n 0, 1) := by decide +kernel
theorem dX2_spread_79 : decode cX2_spread 79 = .ok (.getfield 26, 3) := by decide +kernel
theorem dX2_spread_82 : decode cX2_spread 82 = .ok (.iload 4, 2) := by decide +kernel
theorem dX2_spread_84 : decode cX2_spread 84 = .ok (.iaload, 1) := by decide +kernel
theorem dX2_spread_85 : decode cX2_spread 85 = .ok (.istore 5, 2) := by decide +kernel
theorem dX2_spread_87 : decode cX2_spread 87 = .ok (.aload_n 0, 1) := by decide +kernel
theorem dX2_spread_88 : decode cX2_spread 88 = .ok (.aload_n 1, 1) := by decide +kernel
theorem dX2_spread_89 : decode cX2_spread 89 = .ok (.iload 5, 2) := by decide +kernel
theorem dX2_spread_91 : decode cX2_spread 91 = .ok (.invokevirtual 54, 3) := by decide +kernel
theorem dX2_spread_94 : decode cX2_spread 94 = .ok (.iconst 0, 1) := by decide +kernel
theorem dX2_spread_95 : decode cX2_spread 95 = .ok (.istore 6, 2) := by decide +kernel
theorem dX2_spread_97 : decode cX2_spread 97 = .ok (.iload 6, 2) := by decide +kernel
theorem dX2_spread_99 : decode cX2_spread 99 = .ok (.aload_n 1, 1) := by decide +kernel
theorem dX2_spread_100 : decode cX2_spread 100 = .ok (.getfield 57, 3) := by decide +kernel
theorem dX2_spread_103 : decode cX2_spread 103 = .ok (.if_icmp .ge 39, 3) := by decide +kernel
theorem dX2_spread_106 : decode cX2_spread 106 = .ok (.iload_n 2, 1) := by decide +kernel
theorem dX2_spread_107 : decode cX2_spread 107 = .ok (.iload 6, 2) := by decide +kernel
theorem dX2_spread_109 : decode cX2_spread 109 = .ok (.ishr, 1) := by decide +kernel
theorem dX2_spread_110 : decode cX2_spread 110 = .ok (.iconst 1, 1) := by decide +kernel
theorem dX2_spread_111 : decode cX2_spread 111 = .ok (.iand, 1) := by decide +kernel
theorem dX2_spread_112 : decode cX2_spread 112 = .ok (.iconst 1, 1) := by decide +kernel
theorem dX2_spread_113 : decode cX2_spread 113 = .ok (.if_icmp .ne 23, 3) := by decide +kernel
theorem dX2_spread_116 : decode cX2_spread 116 = .ok (.aload_n 0, 1) := by decide +kernel
theorem dX2_spread_117 : decode cX2_spread 117 = .ok (.aload_n 0, 1) := by decide +kernel
theorem dX2_spread_118 : decode cX2_spread 118 = .ok (.aload_n 1, 1) := by decide +kernel
theorem dX2_spread_119 : decode cX2_spread 119 = .ok (.iload 6, 2) := by decide +kernel
theorem dX2_spread_121 : decode cX2_spread 121 = .ok (.iconst 1, 1) := by decide +kernel
theorem dX2_spread_122 : decode cX2_spread 122 = .ok (.invokevirtual 60, 3) := by decide +kernel
theorem dX2_spread_125 : decode cX2_spread 125 = .ok (.aload_n 0, 1) := by decide +kernel
theorem dX2_spread_126 : decode cX2_spread 126 = .ok (.iload 5, 2) := by decide +kernel
theorem dX2_spread_128 : decode cX2_spread 128 = .ok (.invokevirtual 50, 3) := by decide +kernel
theorem dX2_spread_131 : decode cX2_spread 131 = .ok (.iconst 1, 1) := by decide +kernel
theorem dX2_spread_132 : decode cX2_spread 132 = .ok (.iadd, 1) := by decide +kernel
theorem dX2_spread_133 : decode cX2_spread 133 = .ok (.invokevirtual 75, 3) := by decide +kernel
theorem dX2_spread_136 : decode cX2_spread 136 = .ok (.iinc 6 1, 3) := by decide +kernel
theorem dX2_spread_139 : decode cX2_spread 139 = .ok (.goto (-42), 3) := by decide +kernel
theorem dX2_spread_142 : decode cX2_spread 142 = .ok (.iinc 4 1, 3) := by decide +kernel
theorem dX2_spread_145 : decode cX2_spread 145 = .ok (.goto (-84), 3) := by decide +kernel
theorem dX2_spread_148 : decode cX2_spread 148 = .ok (.aload_n 0, 1) := by decide +kernel
theorem dX2_spread_149 : decode cX2_spread 149 = .ok (.iload_n 2, 1) := by decide +kernel
theorem dX2_spread_150 : decode cX2_spread 150 = .ok (.putfield 29, 3) := by decide +kernel
theorem dX2_spread_153 : decode cX2_spread 153 = .ok (.return_, 1) := by decide +kernel
theorem dX2_meet_0 : decode cX2_meet 0 = .ok (.iload_n 1, 1) := by decide +kernel
theorem dX2_meet_1 : decode cX2_meet 1 = .ok (.ifCond .lt 58, 3) := by decide +kernel
theorem dX2_meet_4 : decode cX2_meet 4 = .ok (.iload_n 1, 1) := by decide +kernel
theorem dX2_meet_5 : decode cX2_meet 5 = .ok (.sipush 3125, 3) := by decide +kernel
theorem dX2_meet_8 : decode cX2_meet 8 = .ok (.if_icmp .ge 51, 3) := by decide +kernel
theorem dX2_meet_11 : decode cX2_meet 11 = .ok (.aload_n 0, 1) := by decide +kernel
theorem dX2_meet_12 : decode cX2_meet 12 = .ok (.getfield 37, 3) := by decide +kernel
theorem dX2_meet_15 : decode cX2_meet 15 = .ok (.sipush 3125, 3) := by decide +kernel
theorem dX2_meet_18 : decode cX2_meet 18 = .ok (.if_icmp .ge 41, 3) := by decide +kernel
theorem dX2_meet_21 : decode cX2_meet 21 = .ok (.aload_n 0, 1) := by decide +kernel
theorem dX2_meet_22 : decode cX2_meet 22 = .ok (.getfield 23, 3) := by decide +kernel
theorem dX2_meet_25 : decode cX2_meet 25 = .ok (.iload_n 1, 1) := by decide +kernel
theorem dX2_meet_26 : decode cX2_meet 26 = .ok (.iaload, 1) := by decide +kernel
theorem dX2_meet_27 : decode cX2_meet 27 = .ok (.bipush (-9), 2) := by decide +kernel
theorem dX2_meet_29 : decode cX2_meet 29 = .ok (.if_icmp .ne 30, 3) := by decide +kernel
theorem dX2_meet_32 : decode cX2_meet 32 = .ok (.aload_n 0, 1) := by decide +kernel
theorem dX2_meet_33 : decode cX2_meet 33 = .ok (.getfield 23, 3) := by decide +kernel
theorem dX2_meet_36 : decode cX2_meet 36 = .ok (.iload_n 1, 1) := by decide +kernel
theorem dX2_meet_37 : decode cX2_meet 37 = .ok (.iload_n 2, 1) := by decide +kernel
theorem dX2_meet_38 : decode cX2_meet 38 = .ok (.iastore, 1) := by decide +kernel
theorem dX2_meet_39 : decode cX2_meet 39 = .ok (.aload_n 0, 1) := by decide +kernel
theorem dX2_meet_40 : decode cX2_meet 40 = .ok (.getfield 26, 3) := by decide +kernel
theorem dX2_meet_43 : decode cX2_meet 43 = .ok (.aload_n 0, 1) := by decide +kernel
theorem dX2_meet_44 : decode cX2_meet 44 = .ok (.getfield 37, 3) := by decide +kernel
theorem dX2_meet_47 : decode cX2_meet 47 = .ok (.iload_n 1, 1) := by decide +kernel
theorem dX2_meet_48 : decode cX2_meet 48 = .ok (.iastore, 1) := by decide +kernel
theorem dX2_meet_49 : decode cX2_meet 49 = .ok (.aload_n 0, 1) := by decide +kernel
theorem dX2_meet_50 : decode cX2_meet 50 = .ok (.dup, 1) := by decide +kernel
theorem dX2_meet_51 : decode cX2_meet 51 = .ok (.getfield 37, 3) := by decide +kernel
theorem dX2_meet_54 : decode cX2_meet 54 = .ok (.iconst 1, 1) := by decide +kernel
theorem dX2_meet_55 : decode cX2_meet 55 = .ok (.iadd, 1) := by decide +kernel
theorem dX2_meet_56 : decode cX2_meet 56 = .ok (.putfield 37, 3) := by decide +kernel
theorem dX2_meet_59 : decode cX2_meet 59 = .ok (.return_, 1) := by decide +kernel
theorem dX2_measure_0 : decode cX2_measure 0 = .ok (.iconst 1, 1) := by decide +kernel
theorem dX2_measure_1 : decode cX2_measure 1 = .ok (.istore_n 2, 1) := by decide +kernel
theorem dX2_measure_2 : decode cX2_measure 2 = .ok (.iconst 0, 1) := by decide +kernel
theorem dX2_measure_3 : decode cX2_measure 3 = .ok (.istore_n 3, 1) := by decide +kernel
theorem dX2_measure_4 : decode cX2_measure 4 = .ok (.iload_n 3, 1) := by decide +kernel
theorem dX2_measure_5 : decode cX2_measure 5 = .ok (.aload_n 1, 1) := by decide +kernel
theorem dX2_measure_6 : decode cX2_measure 6 = .ok (.getfield 79, 3) := by decide +kernel
theorem dX2_measure_9 : decode cX2_measure 9 = .ok (.if_icmp .ge 59, 3) := by decide +kernel
theorem dX2_measure_12 : decode cX2_measure 12 = .ok (.aload_n 0, 1) := by decide +kernel
theorem dX2_measure_13 : decode cX2_measure 13 = .ok (.getfield 9, 3) := by decide +kernel
theorem dX2_measure_16 : decode cX2_measure 16 = .ok (.iload_n 3, 1) := by decide +kernel
theorem dX2_measure_17 : decode cX2_measure 17 = .ok (.iload_n 2, 1) := by decide +kernel
theorem dX2_measure_18 : decode cX2_measure 18 = .ok (.iastore, 1) := by decide +kernel
theorem dX2_measure_19 : decode cX2_measure 19 = .ok (.iload_n 2, 1) := by decide +kernel
theorem dX2_measure_20 : decode cX2_measure 20 = .ok (.aload_n 1, 1) := by decide +kernel
theorem dX2_measure_21 : decode cX2_measure 21 = .ok (.getfield 82, 3) := by decide +kernel
theorem dX2_measure_24 : decode cX2_measure 24 = .ok (.iload_n 3, 1) := by decide +kernel
theorem dX2_measure_25 : decode cX2_measure 25 = .ok (.iaload, 1) := by decide +kernel
theorem dX2_measure_26 : decode cX2_measure 26 = .ok (.imul, 1) := by decide +kernel
theorem dX2_measure_27 : decode cX2_measure 27 = .ok (.istore_n 2, 1) := by decide +kernel
theorem dX2_measure_28 : decode cX2_measure 28 = .ok (.iconst 0, 1) := by decide +kernel
theorem dX2_measure_29 : decode cX2_measure 29 = .ok (.istore 4, 2) := by decide +kernel
theorem dX2_measure_31 : decode cX2_measure 31 = .ok (.iload 4, 2) := by decide +kernel
theorem dX2_measure_33 : decode cX2_measure 33 = .ok (.aload_n 1, 1) := by decide +kernel
theorem dX2_measure_34 : decode cX2_measure 34 = .ok (.getfield 57, 3) := by decide +kernel
theorem dX2_measure_37 : decode cX2_measure 37 = .ok (.if_icmp .ge 25, 3) := by decide +kernel
theorem dX2_measure_40 : decode cX2_measure 40 = .ok (.aload_n 0, 1) := by decide +kernel
theorem dX2_measure_41 : decode cX2_measure 41 = .ok (.getfield 17, 3) := by decide +kernel
theorem dX2_measure_44 : decode cX2_measure 44 = .ok (.iload 4, 2) := by decide +kernel
theorem dX2_measure_46 : decode cX2_measure 46 = .ok (.aaload, 1) := by decide +kernel
theorem dX2_measure_47 : decode cX2_measure 47 = .ok (.iload_n 3, 1) := by decide +kernel
theorem dX2_measure_48 : decode cX2_measure 48 = .ok (.aload_n 1, 1) := by decide +kernel
theorem dX2_measure_49 : decode cX2_measure 49 = .ok (.iload 4, 2) := by decide +kernel
theorem dX2_measure_51 : decode cX2_measure 51 = .ok (.iload_n 3, 1) := by decide +kernel
theorem dX2_measure_52 : decode cX2_measure 52 = .ok (.invokevirtual 85, 3) := by decide +kernel
theorem dX2_measure_55 : decode cX2_measure 55 = .ok (.iastore, 1) := by decide +kernel
theorem dX2_measure_56 : decode cX2_measure 56 = .ok (.iinc 4 1, 3) := by decide +kernel
theorem dX2_measure_59 : decode cX2_measure 59 = .ok (.goto (-28), 3) := by decide +kernel
theorem dX2_measure_62 : decode cX2_measure 62 = .ok (.iinc 3 1, 3) := by decide +kernel
theorem dX2_measure_65 : decode cX2_measure 65 = .ok (.goto (-61), 3) := by decide +kernel
theorem dX2_measure_68 : decode cX2_measure 68 = .ok (.iload_n 2, 1) := by decide +kernel
theorem dX2_measure_69 : decode cX2_measure 69 = .ok (.ireturn, 1) := by decide +kernel
theorem dX2_splitUp_0 : decode cX2_splitUp 0 = .ok (.iload_n 2, 1) := by decide +kernel
theorem dX2_splitUp_1 : decode cX2_splitUp 1 = .ok (.istore_n 3, 1) := by decide +kernel
theorem dX2_splitUp_2 : decode cX2_splitUp 2 = .ok (.iconst 0, 1) := by decide +kernel
theorem dX2_splitUp_3 : decode cX2_splitUp 3 = .ok (.istore 4, 2) := by decide +kernel
theorem dX2_splitUp_5 : decode cX2_splitUp 5 = .ok (.iload 4, 2) := by decide +kernel
theorem dX2_splitUp_7 : decode cX2_splitUp 7 = .ok (.aload_n 1, 1) := by decide +kernel
theorem dX2_splitUp_8 : decode cX2_splitUp 8 = .ok (.getfield 79, 3) := by decide +kernel
theorem dX2_splitUp_11 : decode cX2_splitUp 11 = .ok (.if_icmp .ge 38, 3) := by decide +kernel
theorem dX2_splitUp_14 : decode cX2_splitUp 14 = .ok (.iconst 1, 1) := by decide +kernel
theorem dX2_splitUp_15 : decode cX2_splitUp 15 = .ok (.aload_n 1, 1) := by decide +kernel
theorem dX2_splitUp_16 : decode cX2_splitUp 16 = .ok (.getfield 82, 3) := by decide +kernel
theorem dX2_splitUp_19 : decode cX2_splitUp 19 = .ok (.iload 4, 2) := by decide +kernel
theorem dX2_splitUp_21 : decode cX2_splitUp 21 = .ok (.iaload, 1) := by decide +kernel
theorem dX2_splitUp_22 : decode cX2_splitUp 22 = .ok (.invokestatic 89, 3) := by decide +kernel
theorem dX2_splitUp_25 : decode cX2_splitUp 25 = .ok (.istore 5, 2) := by decide +kernel
theorem dX2_splitUp_27 : decode cX2_splitUp 27 = .ok (.aload_n 0, 1) := by decide +kernel
theorem dX2_splitUp_28 : decode cX2_splitUp 28 = .ok (.getfield 20, 3) := by decide +kernel
theorem dX2_splitUp_31 : decode cX2_splitUp 31 = .ok (.iload 4, 2) := by decide +kernel
theorem dX2_splitUp_33 : decode cX2_splitUp 33 = .ok (.iload_n 3, 1) := by decide +kernel
theorem dX2_splitUp_34 : decode cX2_splitUp 34 = .ok (.iload 5, 2) := by decide +kernel
theorem dX2_splitUp_36 : decode cX2_splitUp 36 = .ok (.irem, 1) := by decide +kernel
theorem dX2_splitUp_37 : decode cX2_splitUp 37 = .ok (.iastore, 1) := by decide +kernel
theorem dX2_splitUp_38 : decode cX2_splitUp 38 = .ok (.iload_n 3, 1) := by decide +kernel
theorem dX2_splitUp_39 : decode cX2_splitUp 39 = .ok (.iload 5, 2) := by decide +kernel
theorem dX2_splitUp_41 : decode cX2_splitUp 41 = .ok (.idiv, 1) := by decide +kernel
theorem dX2_splitUp_42 : decode cX2_splitUp 42 = .ok (.istore_n 3, 1) := by decide +kernel
theorem dX2_splitUp_43 : decode cX2_splitUp 43 = .ok (.iinc 4 1, 3) := by decide +kernel
theorem dX2_splitUp_46 : decode cX2_splitUp 46 = .ok (.goto (-41), 3) := by decide +kernel
theorem dX2_splitUp_49 : decode cX2_splitUp 49 = .ok (.return_, 1) := by decide +kernel
theorem dX2_numberOf_0 : decode cX2_numberOf 0 = .ok (.iconst 0, 1) := by decide +kernel
theorem dX2_numberOf_1 : decode cX2_numberOf 1 = .ok (.istore_n 3, 1) := by decide +kernel
theorem dX2_numberOf_2 : decode cX2_numberOf 2 = .ok (.iconst 1, 1) := by decide +kernel
theorem dX2_numberOf_3 : decode cX2_numberOf 3 = .ok (.istore 4, 2) := by decide +kernel
theorem dX2_numberOf_5 : decode cX2_numberOf 5 = .ok (.iconst 0, 1) := by decide +kernel
theorem dX2_numberOf_6 : decode cX2_numberOf 6 = .ok (.istore 5, 2) := by decide +kernel
theorem dX2_numberOf_8 : decode cX2_numberOf 8 = .ok (.iload 5, 2) := by decide +kernel
theorem dX2_numberOf_10 : decode cX2_numberOf 10 = .ok (.aload_n 1, 1) := by decide +kernel
theorem dX2_numberOf_11 : decode cX2_numberOf 11 = .ok (.getfield 79, 3) := by decide +kernel
theorem dX2_numberOf_14 : decode cX2_numberOf 14 = .ok (.if_icmp .ge 31, 3) := by decide +kernel
theorem dX2_numberOf_17 : decode cX2_numberOf 17 = .ok (.iload_n 3, 1) := by decide +kernel
theorem dX2_numberOf_18 : decode cX2_numberOf 18 = .ok (.aload_n 2, 1) := by decide +kernel
theorem dX2_numberOf_19 : decode cX2_numberOf 19 = .ok (.iload 5, 2) := by decide +kernel
theorem dX2_numberOf_21 : decode cX2_numberOf 21 = .ok (.iaload, 1) := by decide +kernel
theorem dX2_numberOf_22 : decode cX2_numberOf 22 = .ok (.iload 4, 2) := by decide +kernel
theorem dX2_numberOf_24 : decode cX2_numberOf 24 = .ok (.imul, 1) := by decide +kernel
theorem dX2_numberOf_25 : decode cX2_numberOf 25 = .ok (.iadd, 1) := by decide +kernel
theorem dX2_numberOf_26 : decode cX2_numberOf 26 = .ok (.istore_n 3, 1) := by decide +kernel
theorem dX2_numberOf_27 : decode cX2_numberOf 27 = .ok (.iload 4, 2) := by decide +kernel
theorem dX2_numberOf_29 : decode cX2_numberOf 29 = .ok (.aload_n 1, 1) := by decide +kernel
theorem dX2_numberOf_30 : decode cX2_numberOf 30 = .ok (.getfield 82, 3) := by decide +kernel
theorem dX2_numberOf_33 : decode cX2_numberOf 33 = .ok (.iload 5, 2) := by decide +kernel
theorem dX2_numberOf_35 : decode cX2_numberOf 35 = .ok (.iaload, 1) := by decide +kernel
theorem dX2_numberOf_36 : decode cX2_numberOf 36 = .ok (.imul, 1) := by decide +kernel
theorem dX2_numberOf_37 : decode cX2_numberOf 37 = .ok (.istore 4, 2) := by decide +kernel
theorem dX2_numberOf_39 : decode cX2_numberOf 39 = .ok (.iinc 5 1, 3) := by decide +kernel
theorem dX2_numberOf_42 : decode cX2_numberOf 42 = .ok (.goto (-34), 3) := by decide +kernel
theorem dX2_numberOf_45 : decode cX2_numberOf 45 = .ok (.iload_n 3, 1) := by decide +kernel
theorem dX2_numberOf_46 : decode cX2_numberOf 46 = .ok (.ireturn, 1) := by decide +kernel
theorem dX2_numberBy_0 : decode cX2_numberBy 0 = .ok (.iconst 0, 1) := by decide +kernel
theorem dX2_numberBy_1 : decode cX2_numberBy 1 = .ok (.istore 4, 2) := by decide +kernel
theorem dX2_numberBy_3 : decode cX2_numberBy 3 = .ok (.iconst 0, 1) := by decide +kernel
theorem dX2_numberBy_4 : decode cX2_numberBy 4 = .ok (.istore 5, 2) := by decide +kernel
theorem dX2_numberBy_6 : decode cX2_numberBy 6 = .ok (.iload 5, 2) := by decide +kernel
theorem dX2_numberBy_8 : decode cX2_numberBy 8 = .ok (.aload_n 1, 1) := by decide +kernel
theorem dX2_numberBy_9 : decode cX2_numberBy 9 = .ok (.getfield 79, 3) := by decide +kernel
theorem dX2_numberBy_12 : decode cX2_numberBy 12 = .ok (.if_icmp .ge 89, 3) := by decide +kernel
theorem dX2_numberBy_15 : decode cX2_numberBy 15 = .ok (.aload_n 0, 1) := by decide +kernel
theorem dX2_numberBy_16 : decode cX2_numberBy 16 = .ok (.getfield 20, 3) := by decide +kernel
theorem dX2_numberBy_19 : decode cX2_numberBy 19 = .ok (.iload 5, 2) := by decide +kernel
theorem dX2_numberBy_21 : decode cX2_numberBy 21 = .ok (.iaload, 1) := by decide +kernel
theorem dX2_numberBy_22 : decode cX2_numberBy 22 = .ok (.iload_n 3, 1) := by decide +kernel
theorem dX2_numberBy_23 : decode cX2_numberBy 23 = .ok (.aload_n 0, 1) := by decide +kernel
theorem dX2_numberBy_24 : decode cX2_numberBy 24 = .ok (.getfield 17, 3) := by decide +kernel
theorem dX2_numberBy_27 : decode cX2_numberBy 27 = .ok (.iload_n 2, 1) := by decide +kernel
theorem dX2_numberBy_28 : decode cX2_numberBy 28 = .ok (.aaload, 1) := by decide +kernel
theorem dX2_numberBy_29 : decode cX2_numberBy 29 = .ok (.iload 5, 2) := by decide +kernel
theorem dX2_numberBy_31 : decode cX2_numberBy 31 = .ok (.iaload, 1) := by decide +kernel
theorem dX2_numberBy_32 : decode cX2_numberBy 32 = .ok (.imul, 1) := by decide +kernel
theorem dX2_numberBy_33 : decode cX2_numberBy 33 = .ok (.iadd, 1) := by decide +kernel
theorem dX2_numberBy_34 : decode cX2_numberBy 34 = .ok (.istore 6, 2) := by decide +kernel
theorem dX2_numberBy_36 : decode cX2_numberBy 36 = .ok (.iload 6, 2) := by decide +kernel
theorem dX2_numberBy_38 : decode cX2_numberBy 38 = .ok (.ifCond .ge 18, 3) := by decide +kernel
theorem dX2_numberBy_41 : decode cX2_numberBy 41 = .ok (.iload 6, 2) := by decide +kernel
theorem dX2_numberBy_43 : decode cX2_numberBy 43 = .ok (.aload_n 1, 1) := by decide +kernel
theorem dX2_numberBy_44 : decode cX2_numberBy 44 = .ok (.getfield 82, 3) := by decide +kernel
theorem dX2_numberBy_47 : decode cX2_numberBy 47 = .ok (.iload 5, 2) := by decide +kernel
theorem dX2_numberBy_49 : decode cX2_numberBy 49 = .ok (.iaload, 1) := by decide +kernel
theorem dX2_numberBy_50 : decode cX2_numberBy 50 = .ok (.iadd, 1) := by decide +kernel
theorem dX2_numberBy_51 : decode cX2_numberBy 51 = .ok (.istore 6, 2) := by decide +kernel
theorem dX2_numberBy_53 : decode cX2_numberBy 53 = .ok (.goto 27, 3) := by decide +kernel
theorem dX2_numberBy_56 : decode cX2_numberBy 56 = .ok (.iload 6, 2) := by decide +kernel
theorem dX2_numberBy_58 : decode cX2_numberBy 58 = .ok (.aload_n 1, 1) := by decide +kernel
theorem dX2_numberBy_59 : decode cX2_numberBy 59 = .ok (.getfield 82, 3) := by decide +kernel
theorem dX2_numberBy_62 : decode cX2_numberBy 62 = .ok (.iload 5, 2) := by decide +kernel
theorem dX2_numberBy_64 : decode cX2_numberBy 64 = .ok (.iaload, 1) := by decide +kernel
theorem dX2_numberBy_65 : decode cX2_numberBy 65 = .ok (.if_icmp .lt 15, 3) := by decide +kernel
theorem dX2_numberBy_68 : decode cX2_numberBy 68 = .ok (.iload 6, 2) := by decide +kernel
theorem dX2_numberBy_70 : decode cX2_numberBy 70 = .ok (.aload_n 1, 1) := by decide +kernel
theorem dX2_numberBy_71 : decode cX2_numberBy 71 = .ok (.getfield 82, 3) := by decide +kernel
theorem dX2_numberBy_74 : decode cX2_numberBy 74 = .ok (.iload 5, 2) := by decide +kernel
theorem dX2_numberBy_76 : decode cX2_numberBy 76 = .ok (.iaload, 1) := by decide +kernel
theorem dX2_numberBy_77 : decode cX2_numberBy 77 = .ok (.isub, 1) := by decide +kernel
theorem dX2_numberBy_78 : decode cX2_numberBy 78 = .ok (.istore 6, 2) := by decide +kernel
theorem dX2_numberBy_80 : decode cX2_numberBy 80 = .ok (.iload 4, 2) := by decide +kernel
theorem dX2_numberBy_82 : decode cX2_numberBy 82 = .ok (.iload 6, 2) := by decide +kernel
theorem dX2_numberBy_84 : decode cX2_numberBy 84 = .ok (.aload_n 0, 1) := by decide +kernel
theorem dX2_numberBy_85 : decode cX2_numberBy 85 = .ok (.getfield 9, 3) := by decide +kernel
theorem dX2_numberBy_88 : decode cX2_numberBy 88 = .ok (.iload 5, 2) := by decide +kernel
theorem dX2_numberBy_90 : decode cX2_numberBy 90 = .ok (.iaload, 1) := by decide +kernel
theorem dX2_numberBy_91 : decode cX2_numberBy 91 = .ok (.imul, 1) := by decide +kernel
theorem dX2_numberBy_92 : decode cX2_numberBy 92 = .ok (.iadd, 1) := by decide +kernel
theorem dX2_numberBy_93 : decode cX2_numberBy 93 = .ok (.istore 4, 2) := by decide +kernel
theorem dX2_numberBy_95 : decode cX2_numberBy 95 = .ok (.iinc 5 1, 3) := by decide +kernel
theorem dX2_numberBy_98 : decode cX2_numberBy 98 = .ok (.goto (-92), 3) := by decide +kernel
theorem dX2_numberBy_101 : decode cX2_numberBy 101 = .ok (.iload 4, 2) := by decide +kernel
theorem dX2_numberBy_103 : decode cX2_numberBy 103 = .ok (.ireturn, 1) := by decide +kernel
theorem dX3_init_0 : decode cX3_init 0 = .ok (.aload_n 0, 1) := by decide +kernel
theorem dX3_init_1 : decode cX3_init 1 = .ok (.invokespecial 3, 3) := by decide +kernel
theorem dX3_init_4 : decode cX3_init 4 = .ok (.aload_n 0, 1) := by decide +kernel
theorem dX3_init_5 : decode cX3_init 5 = .ok (.bipush 8, 2) := by decide +kernel
theorem dX3_init_7 : decode cX3_init 7 = .ok (.newarray .int, 2) := by decide +kernel
theorem dX3_init_9 : decode cX3_init 9 = .ok (.putfield 9, 3) := by decide +kernel
theorem dX3_init_12 : decode cX3_init 12 = .ok (.aload_n 0, 1) := by decide +kernel
theorem dX3_init_13 : decode cX3_init 13 = .ok (.bipush 8, 2) := by decide +kernel
theorem dX3_init_15 : decode cX3_init 15 = .ok (.newarray .int, 2) := by decide +kernel
theorem dX3_init_17 : decode cX3_init 17 = .ok (.putfield 15, 3) := by decide +kernel
theorem dX3_init_20 : decode cX3_init 20 = .ok (.aload_n 0, 1) := by decide +kernel
theorem dX3_init_21 : decode cX3_init 21 = .ok (.bipush 8, 2) := by decide +kernel
theorem dX3_init_23 : decode cX3_init 23 = .ok (.newarray .int, 2) := by decide +kernel
theorem dX3_init_25 : decode cX3_init 25 = .ok (.putfield 18, 3) := by decide +kernel
theorem dX3_init_28 : decode cX3_init 28 = .ok (.return_, 1) := by decide +kernel
theorem dX3_add_0 : decode cX3_add 0 = .ok (.aload_n 0, 1) := by decide +kernel
theorem dX3_add_1 : decode cX3_add 1 = .ok (.getfield 21, 3) := by decide +kernel
theorem dX3_add_4 : decode cX3_add 4 = .ok (.ifCond .lt 12, 3) := by decide +kernel
theorem dX3_add_7 : decode cX3_add 7 = .ok (.aload_n 0, 1) := by decide +kernel
theorem dX3_add_8 : decode cX3_add 8 = .ok (.getfield 21, 3) := by decide +kernel
theorem dX3_add_11 : decode cX3_add 11 = .ok (.bipush 8, 2) := by decide +kernel
theorem dX3_add_13 : decode cX3_add 13 = .ok (.if_icmp .lt 6, 3) := by decide +kernel
theorem dX3_add_16 : decode cX3_add 16 = .ok (.bipush (-4), 2) := by decide +kernel
theorem dX3_add_18 : decode cX3_add 18 = .ok (.ireturn, 1) := by decide +kernel
theorem dX3_add_19 : decode cX3_add 19 = .ok (.aload_n 0, 1) := by decide +kernel
theorem dX3_add_20 : decode cX3_add 20 = .ok (.getfield 9, 3) := by decide +kernel
theorem dX3_add_23 : decode cX3_add 23 = .ok (.aload_n 0, 1) := by decide +kernel
theorem dX3_add_24 : decode cX3_add 24 = .ok (.getfield 21, 3) := by decide +kernel
theorem dX3_add_27 : decode cX3_add 27 = .ok (.iload_n 1, 1) := by decide +kernel
theorem dX3_add_28 : decode cX3_add 28 = .ok (.iastore, 1) := by decide +kernel
theorem dX3_add_29 : decode cX3_add 29 = .ok (.aload_n 0, 1) := by decide +kernel
theorem dX3_add_30 : decode cX3_add 30 = .ok (.getfield 15, 3) := by decide +kernel
theorem dX3_add_33 : decode cX3_add 33 = .ok (.aload_n 0, 1) := by decide +kernel
theorem dX3_add_34 : decode cX3_add 34 = .ok (.getfield 21, 3) := by decide +kernel
theorem dX3_add_37 : decode cX3_add 37 = .ok (.iload_n 2, 1) := by decide +kernel
theorem dX3_add_38 : decode cX3_add 38 = .ok (.iastore, 1) := by decide +kernel
theorem dX3_add_39 : decode cX3_add 39 = .ok (.aload_n 0, 1) := by decide +kernel
theorem dX3_add_40 : decode cX3_add 40 = .ok (.getfield 18, 3) := by decide +kernel
theorem dX3_add_43 : decode cX3_add 43 = .ok (.aload_n 0, 1) := by decide +kernel
theorem dX3_add_44 : decode cX3_add 44 = .ok (.getfield 21, 3) := by decide +kernel
theorem dX3_add_47 : decode cX3_add 47 = .ok (.iload_n 3, 1) := by decide +kernel
theorem dX3_add_48 : decode cX3_add 48 = .ok (.iastore, 1) := by decide +kernel
theorem dX3_add_49 : decode cX3_add 49 = .ok (.aload_n 0, 1) := by decide +kernel
theorem dX3_add_50 : decode cX3_add 50 = .ok (.dup, 1) := by decide +kernel
theorem dX3_add_51 : decode cX3_add 51 = .ok (.getfield 21, 3) := by decide +kernel
theorem dX3_add_54 : decode cX3_add 54 = .ok (.iconst 1, 1) := by decide +kernel
theorem dX3_add_55 : decode cX3_add 55 = .ok (.iadd, 1) := by decide +kernel
theorem dX3_add_56 : decode cX3_add 56 = .ok (.putfield 21, 3) := by decide +kernel
theorem dX3_add_59 : decode cX3_add 59 = .ok (.aload_n 0, 1) := by decide +kernel
theorem dX3_add_60 : decode cX3_add 60 = .ok (.getfield 21, 3) := by decide +kernel
theorem dX3_add_63 : decode cX3_add 63 = .ok (.iconst 1, 1) := by decide +kernel
theorem dX3_add_64 : decode cX3_add 64 = .ok (.isub, 1) := by decide +kernel
theorem dX3_add_65 : decode cX3_add 65 = .ok (.ireturn, 1) := by decide +kernel
theorem dX3_areSo_0 : decode cX3_areSo 0 = .ok (.iconst 0, 1) := by decide +kernel
theorem dX3_areSo_1 : decode cX3_areSo 1 = .ok (.istore_n 2, 1) := by decide +kernel
theorem dX3_areSo_2 : decode cX3_areSo 2 = .ok (.iload_n 2, 1) := by decide +kernel
theorem dX3_areSo_3 : decode cX3_areSo 3 = .ok (.aload_n 0, 1) := by decide +kernel
theorem dX3_areSo_4 : decode cX3_areSo 4 = .ok (.getfield 21, 3) := by decide +kernel
theorem dX3_areSo_7 : decode cX3_areSo 7 = .ok (.if_icmp .ge 36, 3) := by decide +kernel
theorem dX3_areSo_10 : decode cX3_areSo 10 = .ok (.aload_n 1, 1) := by decide +kernel
theorem dX3_areSo_11 : decode cX3_areSo 11 = .ok (.aload_n 0, 1) := by decide +kernel
theorem dX3_areSo_12 : decode cX3_areSo 12 = .ok (.getfield 9, 3) := by decide +kernel
theorem dX3_areSo_15 : decode cX3_areSo 15 = .ok (.iload_n 2, 1) := by decide +kernel
theorem dX3_areSo_16 : decode cX3_areSo 16 = .ok (.iaload, 1) := by decide +kernel
theorem dX3_areSo_17 : decode cX3_areSo 17 = .ok (.aload_n 0, 1) := by decide +kernel
theorem dX3_areSo_18 : decode cX3_areSo 18 = .ok (.getfield 15, 3) := by decide +kernel
theorem dX3_areSo_21 : decode cX3_areSo 21 = .ok (.iload_n 2, 1) := by decide +kernel
theorem dX3_areSo_22 : decode cX3_areSo 22 = .ok (.iaload, 1) := by decide +kernel
theorem dX3_areSo_23 : decode cX3_areSo 23 = .ok (.invokevirtual 25, 3) := by decide +kernel
theorem dX3_areSo_26 : decode cX3_areSo 26 = .ok (.aload_n 0, 1) := by decide +kernel
theorem dX3_areSo_27 : decode cX3_areSo 27 = .ok (.getfield 18, 3) := by decide +kernel
theorem dX3_areSo_30 : decode cX3_areSo 30 = .ok (.iload_n 2, 1) := by decide +kernel
theorem dX3_areSo_31 : decode cX3_areSo 31 = .ok (.iaload, 1) := by decide +kernel
theorem dX3_areSo_32 : decode cX3_areSo 32 = .ok (.if_icmp .eq 5, 3) := by decide +kernel
theorem dX3_areSo_35 : decode cX3_areSo 35 = .ok (.iconst 0, 1) := by decide +kernel
theorem dX3_areSo_36 : decode cX3_areSo 36 = .ok (.ireturn, 1) := by decide +kernel
theorem dX3_areSo_37 : decode cX3_areSo 37 = .ok (.iinc 2 1, 3) := by decide +kernel
theorem dX3_areSo_40 : decode cX3_areSo 40 = .ok (.goto (-38), 3) := by decide +kernel
theorem dX3_areSo_43 : decode cX3_areSo 43 = .ok (.iconst 1, 1) := by decide +kernel
theorem dX3_areSo_44 : decode cX3_areSo 44 = .ok (.ireturn, 1) := by decide +kernel
theorem dX4_init_0 : decode cX4_init 0 = .ok (.aload_n 0, 1) := by decide +kernel
theorem dX4_init_1 : decode cX4_init 1 = .ok (.invokespecial 3, 3) := by decide +kernel
theorem dX4_init_4 : decode cX4_init 4 = .ok (.aload_n 0, 1) := by decide +kernel
theorem dX4_init_5 : decode cX4_init 5 = .ok (.bipush 60, 2) := by decide +kernel
theorem dX4_init_7 : decode cX4_init 7 = .ok (.newarray .int, 2) := by decide +kernel
theorem dX4_init_9 : decode cX4_init 9 = .ok (.putfield 9, 3) := by decide +kernel
theorem dX4_init_12 : decode cX4_init 12 = .ok (.aload_n 0, 1) := by decide +kernel
theorem dX4_init_13 : decode cX4_init 13 = .ok (.iconst (-1), 1) := by decide +kernel
theorem dX4_init_14 : decode cX4_init 14 = .ok (.putfield 15, 3) := by decide +kernel
theorem dX4_init_17 : decode cX4_init 17 = .ok (.return_, 1) := by decide +kernel
theorem dX4_begin_0 : decode cX4_begin 0 = .ok (.aload_n 0, 1) := by decide +kernel
theorem dX4_begin_1 : decode cX4_begin 1 = .ok (.iload_n 1, 1) := by decide +kernel
theorem dX4_begin_2 : decode cX4_begin 2 = .ok (.putfield 19, 3) := by decide +kernel
theorem dX4_begin_5 : decode cX4_begin 5 = .ok (.aload_n 0, 1) := by decide +kernel
theorem dX4_begin_6 : decode cX4_begin 6 = .ok (.iconst 0, 1) := by decide +kernel
theorem dX4_begin_7 : decode cX4_begin 7 = .ok (.iload_n 2, 1) := by decide +kernel
theorem dX4_begin_8 : decode cX4_begin 8 = .ok (.bipush 60, 2) := by decide +kernel
theorem dX4_begin_10 : decode cX4_begin 10 = .ok (.invokestatic 22, 3) := by decide +kernel
theorem dX4_begin_13 : decode cX4_begin 13 = .ok (.invokestatic 28, 3) := by decide +kernel
theorem dX4_begin_16 : decode cX4_begin 16 = .ok (.putfield 15, 3) := by decide +kernel
theorem dX4_begin_19 : decode cX4_begin 19 = .ok (.iconst 0, 1) := by decide +kernel
theorem dX4_begin_20 : decode cX4_begin 20 = .ok (.istore_n 3, 1) := by decide +kernel
theorem dX4_begin_21 : decode cX4_begin 21 = .ok (.iload_n 3, 1) := by decide +kernel
theorem dX4_begin_22 : decode cX4_begin 22 = .ok (.aload_n 0, 1) := by decide +kernel
theorem dX4_begin_23 : decode cX4_begin 23 = .ok (.getfield 15, 3) := by decide +kernel
theorem dX4_begin_26 : decode cX4_begin 26 = .ok (.if_icmp .ge 16, 3) := by decide +kernel
theorem dX4_begin_29 : decode cX4_begin 29 = .ok (.aload_n 0, 1) := by decide +kernel
theorem dX4_begin_30 : decode cX4_begin 30 = .ok (.getfield 9, 3) := by decide +kernel
theorem dX4_begin_33 : decode cX4_begin 33 = .ok (.iload_n 3, 1) := by decide +kernel
theorem dX4_begin_34 : decode cX4_begin 34 = .ok (.iconst 0, 1) := by decide +kernel
theorem dX4_begin_35 : decode cX4_begin 35 = .ok (.iastore, 1) := by decide +kernel
theorem dX4_begin_36 : decode cX4_begin 36 = .ok (.iinc 3 1, 3) := by decide +kernel
theorem dX4_begin_39 : decode cX4_begin 39 = .ok (.goto (-18), 3) := by decide +kernel
theorem dX4_begin_42 : decode cX4_begin 42 = .ok (.return_, 1) := by decide +kernel
theorem dX4_end_0 : decode cX4_end 0 = .ok (.aload_n 0, 1) := by decide +kernel
theorem dX4_end_1 : decode cX4_end 1 = .ok (.iconst (-1), 1) := by decide +kernel
theorem dX4_end_2 : decode cX4_end 2 = .ok (.putfield 15, 3) := by decide +kernel
theorem dX4_end_5 : decode cX4_end 5 = .ok (.return_, 1) := by decide +kernel
theorem dX4_isNothing_0 : decode cX4_isNothing 0 = .ok (.aload_n 0, 1) := by decide +kernel
theorem dX4_isNothing_1 : decode cX4_isNothing 1 = .ok (.getfield 15, 3) := by decide +kernel
theorem dX4_isNothing_4 : decode cX4_isNothing 4 = .ok (.iconst (-1), 1) := by decide +kernel
theorem dX4_isNothing_5 : decode cX4_isNothing 5 = .ok (.if_icmp .ne 7, 3) := by decide +kernel
theorem dX4_isNothing_8 : decode cX4_isNothing 8 = .ok (.iconst 1, 1) := by decide +kernel
theorem dX4_isNothing_9 : decode cX4_isNothing 9 = .ok (.goto 4, 3) := by decide +kernel
theorem dX4_isNothing_12 : decode cX4_isNothing 12 = .ok (.iconst 0, 1) := by decide +kernel
theorem dX4_isNothing_13 : decode cX4_isNothing 13 = .ok (.ireturn, 1) := by decide +kernel
theorem dX4_hasCells_0 : decode cX4_hasCells 0 = .ok (.iload_n 1, 1) := by decide +kernel
theorem dX4_hasCells_1 : decode cX4_hasCells 1 = .ok (.ifCond .lt 29, 3) := by decide +kernel
theorem dX4_hasCells_4 : decode cX4_hasCells 4 = .ok (.iload_n 1, 1) := by decide +kernel
theorem dX4_hasCells_5 : decode cX4_hasCells 5 = .ok (.aload_n 0, 1) := by decide +kernel
theorem dX4_hasCells_6 : decode cX4_hasCells 6 = .ok (.getfield 15, 3) := by decide +kernel
theorem dX4_hasCells_9 : decode cX4_hasCells 9 = .ok (.if_icmp .gt 21, 3) := by decide +kernel
theorem dX4_hasCells_12 : decode cX4_hasCells 12 = .ok (.iload_n 2, 1) := by decide +kernel
theorem dX4_hasCells_13 : decode cX4_hasCells 13 = .ok (.ifCond .lt 17, 3) := by decide +kernel
theorem dX4_hasCells_16 : decode cX4_hasCells 16 = .ok (.iload_n 2, 1) := by decide +kernel
theorem dX4_hasCells_17 : decode cX4_hasCells 17 = .ok (.aload_n 0, 1) := by decide +kernel
theorem dX4_hasCells_18 : decode cX4_hasCells 18 = .ok (.getfield 15, 3) := by decide +kernel
theorem dX4_hasCells_21 : decode cX4_hasCells 21 = .ok (.iload_n 1, 1) := by decide +kernel
theorem dX4_hasCells_22 : decode cX4_hasCells 22 = .ok (.isub, 1) := by decide +kernel
theorem dX4_hasCells_23 : decode cX4_hasCells 23 = .ok (.if_icmp .gt 7, 3) := by decide +kernel
theorem dX4_hasCells_26 : decode cX4_hasCells 26 = .ok (.iconst 1, 1) := by decide +kernel
theorem dX4_hasCells_27 : decode cX4_hasCells 27 = .ok (.goto 4, 3) := by decide +kernel
theorem dX4_hasCells_30 : decode cX4_hasCells 30 = .ok (.iconst 0, 1) := by decide +kernel
theorem dX4_hasCells_31 : decode cX4_hasCells 31 = .ok (.ireturn, 1) := by decide +kernel
theorem dX4_faultAs_0 : decode cX4_faultAs 0 = .ok (.aload_n 0, 1) := by decide +kernel
theorem dX4_faultAs_1 : decode cX4_faultAs 1 = .ok (.invokevirtual 31, 3) := by decide +kernel
theorem dX4_faultAs_4 : decode cX4_faultAs 4 = .ok (.ifCond .eq 5, 3) := by decide +kernel
theorem dX4_faultAs_7 : decode cX4_faultAs 7 = .ok (.iconst 1, 1) := by decide +kernel
theorem dX4_faultAs_8 : decode cX4_faultAs 8 = .ok (.ireturn, 1) := by decide +kernel
theorem dX4_faultAs_9 : decode cX4_faultAs 9 = .ok (.aload_n 0, 1) := by decide +kernel
theorem dX4_faultAs_10 : decode cX4_faultAs 10 = .ok (.getfield 19, 3) := by decide +kernel
theorem dX4_faultAs_13 : decode cX4_faultAs 13 = .ok (.iload_n 1, 1) := by decide +kernel
theorem dX4_faultAs_14 : decode cX4_faultAs 14 = .ok (.if_icmp .ne 7, 3) := by decide +kernel
theorem dX4_faultAs_17 : decode cX4_faultAs 17 = .ok (.iconst 0, 1) := by decide +kernel
theorem dX4_faultAs_18 : decode cX4_faultAs 18 = .ok (.goto 4, 3) := by decide +kernel
theorem dX4_faultAs_21 : decode cX4_faultAs 21 = .ok (.iconst 2, 1) := by decide +kernel
theorem dX4_faultAs_22 : decode cX4_faultAs 22 = .ok (.ireturn, 1) := by decide +kernel
theorem dX4_faultOfCells_0 : decode cX4_faultOfCells 0 = .ok (.aload_n 0, 1) := by decide +kernel
theorem dX4_faultOfCells_1 : decode cX4_faultOfCells 1 = .ok (.iload_n 1, 1) := by decide +kernel
theorem dX4_faultOfCells_2 : decode cX4_faultOfCells 2 = .ok (.invokevirtual 35, 3) := by decide +kernel
theorem dX4_faultOfCells_5 : decode cX4_faultOfCells 5 = .ok (.istore 4, 2) := by decide +kernel
theorem dX4_faultOfCells_7 : decode cX4_faultOfCells 7 = .ok (.iload 4, 2) := by decide +kernel
theorem dX4_faultOfCells_9 : decode cX4_faultOfCells 9 = .ok (.ifCond .ne 16, 3) := by decide +kernel
theorem dX4_faultOfCells_12 : decode cX4_faultOfCells 12 = .ok (.aload_n 0, 1) := by decide +kernel
theorem dX4_faultOfCells_13 : decode cX4_faultOfCells 13 = .ok (.iload_n 2, 1) := by decide +kernel
theorem dX4_faultOfCells_14 : decode cX4_faultOfCells 14 = .ok (.iload_n 3, 1) := by decide +kernel
theorem dX4_faultOfCells_15 : decode cX4_faultOfCells 15 = .ok (.invokevirtual 39, 3) := by decide +kernel
theorem dX4_faultOfCells_18 : decode cX4_faultOfCells 18 = .ok (.ifCond .ne 7, 3) := by decide +kernel
theorem dX4_faultOfCells_21 : decode cX4_faultOfCells 21 = .ok (.iconst 3, 1) := by decide +kernel
theorem dX4_faultOfCells_22 : decode cX4_faultOfCells 22 = .ok (.goto 5, 3) := by decide +kernel
theorem dX4_faultOfCells_25 : decode cX4_faultOfCells 25 = .ok (.iload 4, 2) := by decide +kernel
theorem dX4_faultOfCells_27 : decode cX4_faultOfCells 27 = .ok (.ireturn, 1) := by decide +kernel
theorem dX4_at_0 : decode cX4_at 0 = .ok (.aload_n 0, 1) := by decide +kernel
theorem dX4_at_1 : decode cX4_at 1 = .ok (.iload_n 1, 1) := by decide +kernel
theorem dX4_at_2 : decode cX4_at 2 = .ok (.iconst 1, 1) := by decide +kernel
theorem dX4_at_3 : decode cX4_at 3 = .ok (.invokevirtual 39, 3) := by decide +kernel
theorem dX4_at_6 : decode cX4_at 6 = .ok (.ifCond .eq 12, 3) := by decide +kernel
theorem dX4_at_9 : decode cX4_at 9 = .ok (.aload_n 0, 1) := by decide +kernel
theorem dX4_at_10 : decode cX4_at 10 = .ok (.getfield 9, 3) := by decide +kernel
theorem dX4_at_13 : decode cX4_at 13 = .ok (.iload_n 1, 1) := by decide +kernel
theorem dX4_at_14 : decode cX4_at 14 = .ok (.iaload, 1) := by decide +kernel
theorem dX4_at_15 : decode cX4_at 15 = .ok (.goto 4, 3) := by decide +kernel
theorem dX4_at_18 : decode cX4_at 18 = .ok (.iconst 0, 1) := by decide +kernel
theorem dX4_at_19 : decode cX4_at 19 = .ok (.ireturn, 1) := by decide +kernel
theorem dX4_set_0 : decode cX4_set 0 = .ok (.aload_n 0, 1) := by decide +kernel
theorem dX4_set_1 : decode cX4_set 1 = .ok (.iload_n 1, 1) := by decide +kernel
theorem dX4_set_2 : decode cX4_set 2 = .ok (.iconst 1, 1) := by decide +kernel
theorem dX4_set_3 : decode cX4_set 3 = .ok (.invokevirtual 39, 3) := by decide +kernel
theorem dX4_set_6 : decode cX4_set 6 = .ok (.ifCond .eq 14, 3) := by decide +kernel
theorem dX4_set_9 : decode cX4_set 9 = .ok (.aload_n 0, 1) := by decide +kernel
theorem dX4_set_10 : decode cX4_set 10 = .ok (.getfield 9, 3) := by decide +kernel
theorem dX4_set_13 : decode cX4_set 13 = .ok (.iload_n 1, 1) := by decide +kernel
theorem dX4_set_14 : decode cX4_set 14 = .ok (.aload_n 0, 1) := by decide +kernel
theorem dX4_set_15 : decode cX4_set 15 = .ok (.iload_n 2, 1) := by decide +kernel
theorem dX4_set_16 : decode cX4_set 16 = .ok (.invokevirtual 43, 3) := by decide +kernel
theorem dX4_set_19 : decode cX4_set 19 = .ok (.iastore, 1) := by decide +kernel
theorem dX4_set_20 : decode cX4_set 20 = .ok (.return_, 1) := by decide +kernel
theorem dX4_cut_0 : decode cX4_cut 0 = .ok (.aload_n 0, 1) := by decide +kernel
theorem dX4_cut_1 : decode cX4_cut 1 = .ok (.getfield 19, 3) := by decide +kernel
theorem dX4_cut_4 : decode cX4_cut 4 = .ok (.lookupswitch 34 #[(0, 28), (1, 31)], 28) := by decide +kernel
theorem dX4_cut_32 : decode cX4_cut 32 = .ok (.iload_n 1, 1) := by decide +kernel
theorem dX4_cut_33 : decode cX4_cut 33 = .ok (.i2b, 1) := by decide +kernel
theorem dX4_cut_34 : decode cX4_cut 34 = .ok (.ireturn, 1) := by decide +kernel
theorem dX4_cut_35 : decode cX4_cut 35 = .ok (.iload_n 1, 1) := by decide +kernel
theorem dX4_cut_36 : decode cX4_cut 36 = .ok (.i2s, 1) := by decide +kernel
theorem dX4_cut_37 : decode cX4_cut 37 = .ok (.ireturn, 1) := by decide +kernel
theorem dX4_cut_38 : decode cX4_cut 38 = .ok (.iload_n 1, 1) := by decide +kernel
theorem dX4_cut_39 : decode cX4_cut 39 = .ok (.ireturn, 1) := by decide +kernel
theorem dX5_init_0 : decode cX5_init 0 = .ok (.aload_n 0, 1) := by decide +kernel
theorem dX5_init_1 : decode cX5_init 1 = .ok (.invokespecial 3, 3) := by decide +kernel
theorem dX5_init_4 : decode cX5_init 4 = .ok (.aload_n 0, 1) := by decide +kernel
theorem dX5_init_5 : decode cX5_init 5 = .ok (.bipush 60, 2) := by decide +kernel
theorem dX5_init_7 : decode cX5_init 7 = .ok (.newarray .int, 2) := by decide +kernel
theorem dX5_init_9 : decode cX5_init 9 = .ok (.putfield 9, 3) := by decide +kernel
theorem dX5_init_12 : decode cX5_init 12 = .ok (.return_, 1) := by decide +kernel
theorem dX5_take_0 : decode cX5_take 0 = .ok (.aload_n 0, 1) := by decide +kernel
theorem dX5_take_1 : decode cX5_take 1 = .ok (.iload_n 3, 1) := by decide +kernel
theorem dX5_take_2 : decode cX5_take 2 = .ok (.bipush 60, 2) := by decide +kernel
theorem dX5_take_4 : decode cX5_take 4 = .ok (.invokestatic 15, 3) := by decide +kernel
theorem dX5_take_7 : decode cX5_take 7 = .ok (.putfield 21, 3) := by decide +kernel
theorem dX5_take_10 : decode cX5_take 10 = .ok (.iconst 0, 1) := by decide +kernel
theorem dX5_take_11 : decode cX5_take 11 = .ok (.istore 4, 2) := by decide +kernel
theorem dX5_take_13 : decode cX5_take 13 = .ok (.iload 4, 2) := by decide +kernel
theorem dX5_take_15 : decode cX5_take 15 = .ok (.aload_n 0, 1) := by decide +kernel
theorem dX5_take_16 : decode cX5_take 16 = .ok (.getfield 21, 3) := by decide +kernel
theorem dX5_take_19 : decode cX5_take 19 = .ok (.if_icmp .ge 24, 3) := by decide +kernel
theorem dX5_take_22 : decode cX5_take 22 = .ok (.aload_n 0, 1) := by decide +kernel
theorem dX5_take_23 : decode cX5_take 23 = .ok (.getfield 9, 3) := by decide +kernel
theorem dX5_take_26 : decode cX5_take 26 = .ok (.iload 4, 2) := by decide +kernel
theorem dX5_take_28 : decode cX5_take 28 = .ok (.aload_n 1, 1) := by decide +kernel
theorem dX5_take_29 : decode cX5_take 29 = .ok (.iload_n 2, 1) := by decide +kernel
theorem dX5_take_30 : decode cX5_take 30 = .ok (.iload 4, 2) := by decide +kernel
theorem dX5_take_32 : decode cX5_take 32 = .ok (.iadd, 1) := by decide +kernel
theorem dX5_take_33 : decode cX5_take 33 = .ok (.invokevirtual 25, 3) := by decide +kernel
theorem dX5_take_36 : decode cX5_take 36 = .ok (.iastore, 1) := by decide +kernel
theorem dX5_take_37 : decode cX5_take 37 = .ok (.iinc 4 1, 3) := by decide +kernel
theorem dX5_take_40 : decode cX5_take 40 = .ok (.goto (-27), 3) := by decide +kernel
theorem dX5_take_43 : decode cX5_take 43 = .ok (.return_, 1) := by decide +kernel
theorem dX5_codeAt_0 : decode cX5_codeAt 0 = .ok (.iload_n 1, 1) := by decide +kernel
theorem dX5_codeAt_1 : decode cX5_codeAt 1 = .ok (.ifCond .lt 20, 3) := by decide +kernel
theorem dX5_codeAt_4 : decode cX5_codeAt 4 = .ok (.iload_n 1, 1) := by decide +kernel
theorem dX5_codeAt_5 : decode cX5_codeAt 5 = .ok (.aload_n 0, 1) := by decide +kernel
theorem dX5_codeAt_6 : decode cX5_codeAt 6 = .ok (.getfield 21, 3) := by decide +kernel
theorem dX5_codeAt_9 : decode cX5_codeAt 9 = .ok (.if_icmp .ge 12, 3) := by decide +kernel
theorem dX5_codeAt_12 : decode cX5_codeAt 12 = .ok (.aload_n 0, 1) := by decide +kernel
theorem dX5_codeAt_13 : decode cX5_codeAt 13 = .ok (.getfield 9, 3) := by decide +kernel
theorem dX5_codeAt_16 : decode cX5_codeAt 16 = .ok (.iload_n 1, 1) := by decide +kernel
theorem dX5_codeAt_17 : decode cX5_codeAt 17 = .ok (.iaload, 1) := by decide +kernel
theorem dX5_codeAt_18 : decode cX5_codeAt 18 = .ok (.goto 4, 3) := by decide +kernel
theorem dX5_codeAt_21 : decode cX5_codeAt 21 = .ok (.iconst (-1), 1) := by decide +kernel
theorem dX5_codeAt_22 : decode cX5_codeAt 22 = .ok (.ireturn, 1) := by decide +kernel
theorem dX5_isDigit_0 : decode cX5_isDigit 0 = .ok (.aload_n 0, 1) := by decide +kernel
theorem dX5_isDigit_1 : decode cX5_isDigit 1 = .ok (.iload_n 1, 1) := by decide +kernel
theorem dX5_isDigit_2 : decode cX5_isDigit 2 = .ok (.invokevirtual 31, 3) := by decide +kernel
theorem dX5_isDigit_5 : decode cX5_isDigit 5 = .ok (.iload_n 2, 1) := by decide +kernel
theorem dX5_isDigit_6 : decode cX5_isDigit 6 = .ok (.iload_n 3, 1) := by decide +kernel
theorem dX5_isDigit_7 : decode cX5_isDigit 7 = .ok (.invokestatic 34, 3) := by decide +kernel
theorem dX5_isDigit_10 : decode cX5_isDigit 10 = .ok (.ireturn, 1) := by decide +kernel
theorem dX5_firstFault_0 : decode cX5_firstFault 0 = .ok (.aload_n 0, 1) := by decide +kernel
theorem dX5_firstFault_1 : decode cX5_firstFault 1 = .ok (.iconst 0, 1) := by decide +kernel
theorem dX5_firstFault_2 : decode cX5_firstFault 2 = .ok (.invokevirtual 31, 3) := by decide +kernel
theorem dX5_firstFault_5 : decode cX5_firstFault 5 = .ok (.bipush 108, 2) := by decide +kernel
theorem dX5_firstFault_7 : decode cX5_firstFault 7 = .ok (.if_icmp .eq 5, 3) := by decide +kernel
theorem dX5_firstFault_10 : decode cX5_firstFault 10 = .ok (.iconst 0, 1) := by decide +kernel
theorem dX5_firstFault_11 : decode cX5_firstFault 11 = .ok (.ireturn, 1) := by decide +kernel
theorem dX5_firstFault_12 : decode cX5_firstFault 12 = .ok (.aload_n 0, 1) := by decide +kernel
theorem dX5_firstFault_13 : decode cX5_firstFault 13 = .ok (.iconst 0, 1) := by decide +kernel
theorem dX5_firstFault_14 : decode cX5_firstFault 14 = .ok (.putfield 38, 3) := by decide +kernel
theorem dX5_firstFault_17 : decode cX5_firstFault 17 = .ok (.aload_n 0, 1) := by decide +kernel
theorem dX5_firstFault_18 : decode cX5_firstFault 18 = .ok (.getfield 38, 3) := by decide +kernel
theorem dX5_firstFault_21 : decode cX5_firstFault 21 = .ok (.iconst 5, 1) := by decide +kernel
theorem dX5_firstFault_22 : decode cX5_firstFault 22 = .ok (.if_icmp .ge 33, 3) := by decide +kernel
theorem dX5_firstFault_25 : decode cX5_firstFault 25 = .ok (.aload_n 0, 1) := by decide +kernel
theorem dX5_firstFault_26 : decode cX5_firstFault 26 = .ok (.iconst 1, 1) := by decide +kernel
theorem dX5_firstFault_27 : decode cX5_firstFault 27 = .ok (.aload_n 0, 1) := by decide +kernel
theorem dX5_firstFault_28 : decode cX5_firstFault 28 = .ok (.getfield 38, 3) := by decide +kernel
theorem dX5_firstFault_31 : decode cX5_firstFault 31 = .ok (.iadd, 1) := by decide +kernel
theorem dX5_firstFault_32 : decode cX5_firstFault 32 = .ok (.bipush 50, 2) := by decide +kernel
theorem dX5_firstFault_34 : decode cX5_firstFault 34 = .ok (.bipush 53, 2) := by decide +kernel
theorem dX5_firstFault_36 : decode cX5_firstFault 36 = .ok (.invokevirtual 41, 3) := by decide +kernel
theorem dX5_firstFault_39 : decode cX5_firstFault 39 = .ok (.ifCond .eq 16, 3) := by decide +kernel
theorem dX5_firstFault_42 : decode cX5_firstFault 42 = .ok (.aload_n 0, 1) := by decide +kernel
theorem dX5_firstFault_43 : decode cX5_firstFault 43 = .ok (.dup, 1) := by decide +kernel
theorem dX5_firstFault_44 : decode cX5_firstFault 44 = .ok (.getfield 38, 3) := by decide +kernel
theorem dX5_firstFault_47 : decode cX5_firstFault 47 = .ok (.iconst 1, 1) := by decide +kernel
theorem dX5_firstFault_48 : decode cX5_firstFault 48 = .ok (.iadd, 1) := by decide +kernel
theorem dX5_firstFault_49 : decode cX5_firstFault 49 = .ok (.putfield 38, 3) := by decide +kernel
theorem dX5_firstFault_52 : decode cX5_firstFault 52 = .ok (.goto (-35), 3) := by decide +kernel
theorem dX5_firstFault_55 : decode cX5_firstFault 55 = .ok (.aload_n 0, 1) := by decide +kernel
theorem dX5_firstFault_56 : decode cX5_firstFault 56 = .ok (.getfield 38, 3) := by decide +kernel
theorem dX5_firstFault_59 : decode cX5_firstFault 59 = .ok (.ifCond .ne 5, 3) := by decide +kernel
theorem dX5_firstFault_62 : decode cX5_firstFault 62 = .ok (.iconst 1, 1) := by decide +kernel
theorem dX5_firstFault_63 : decode cX5_firstFault 63 = .ok (.ireturn, 1) := by decide +kernel
theorem dX5_firstFault_64 : decode cX5_firstFault 64 = .ok (.aload_n 0, 1) := by decide +kernel
theorem dX5_firstFault_65 : decode cX5_firstFault 65 = .ok (.iconst 0, 1) := by decide +kernel
theorem dX5_firstFault_66 : decode cX5_firstFault 66 = .ok (.putfield 45, 3) := by decide +kernel
theorem dX5_firstFault_69 : decode cX5_firstFault 69 = .ok (.aload_n 0, 1) := by decide +kernel
theorem dX5_firstFault_70 : decode cX5_firstFault 70 = .ok (.getfield 45, 3) := by decide +kernel
theorem dX5_firstFault_73 : decode cX5_firstFault 73 = .ok (.iconst 5, 1) := by decide +kernel
theorem dX5_firstFault_74 : decode cX5_firstFault 74 = .ok (.if_icmp .ge 59, 3) := by decide +kernel
theorem dX5_firstFault_77 : decode cX5_firstFault 77 = .ok (.aload_n 0, 1) := by decide +kernel
theorem dX5_firstFault_78 : decode cX5_firstFault 78 = .ok (.getfield 45, 3) := by decide +kernel
theorem dX5_firstFault_81 : decode cX5_firstFault 81 = .ok (.ifCond .eq 18, 3) := by decide +kernel
theorem dX5_firstFault_84 : decode cX5_firstFault 84 = .ok (.aload_n 0, 1) := by decide +kernel
theorem dX5_firstFault_85 : decode cX5_firstFault 85 = .ok (.aload_n 0, 1) := by decide +kernel
theorem dX5_firstFault_86 : decode cX5_firstFault 86 = .ok (.getfield 45, 3) := by decide +kernel
theorem dX5_firstFault_89 : decode cX5_firstFault 89 = .ok (.invokevirtual 48, 3) := by decide +kernel
theorem dX5_firstFault_92 : decode cX5_firstFault 92 = .ok (.aload_n 0, 1) := by decide +kernel
theorem dX5_firstFault_93 : decode cX5_firstFault 93 = .ok (.getfield 21, 3) := by decide +kernel
theorem dX5_firstFault_96 : decode cX5_firstFault 96 = .ok (.if_icmp .ge 37, 3) := by decide +kernel
theorem dX5_firstFault_99 : decode cX5_firstFault 99 = .ok (.aload_n 0, 1) := by decide +kernel
theorem dX5_firstFault_100 : decode cX5_firstFault 100 = .ok (.aload_n 0, 1) := by decide +kernel
theorem dX5_firstFault_101 : decode cX5_firstFault 101 = .ok (.aload_n 0, 1) := by decide +kernel
theorem dX5_firstFault_102 : decode cX5_firstFault 102 = .ok (.getfield 45, 3) := by decide +kernel
theorem dX5_firstFault_105 : decode cX5_firstFault 105 = .ok (.invokevirtual 48, 3) := by decide +kernel
theorem dX5_firstFault_108 : decode cX5_firstFault 108 = .ok (.invokevirtual 51, 3) := by decide +kernel
theorem dX5_firstFault_111 : decode cX5_firstFault 111 = .ok (.istore_n 1, 1) := by decide +kernel
theorem dX5_firstFault_112 : decode cX5_firstFault 112 = .ok (.iload_n 1, 1) := by decide +kernel
theorem dX5_firstFault_113 : decode cX5_firstFault 113 = .ok (.bipush (-9), 2) := by decide +kernel
theorem dX5_firstFault_115 : decode cX5_firstFault 115 = .ok (.if_icmp .eq 5, 3) := by decide +kernel
theorem dX5_firstFault_118 : decode cX5_firstFault 118 = .ok (.iload_n 1, 1) := by decide +kernel
theorem dX5_firstFault_119 : decode cX5_firstFault 119 = .ok (.ireturn, 1) := by decide +kernel
theorem dX5_firstFault_120 : decode cX5_firstFault 120 = .ok (.aload_n 0, 1) := by decide +kernel
theorem dX5_firstFault_121 : decode cX5_firstFault 121 = .ok (.dup, 1) := by decide +kernel
theorem dX5_firstFault_122 : decode cX5_firstFault 122 = .ok (.getfield 45, 3) := by decide +kernel
theorem dX5_firstFault_125 : decode cX5_firstFault 125 = .ok (.iconst 1, 1) := by decide +kernel
theorem dX5_firstFault_126 : decode cX5_firstFault 126 = .ok (.iadd, 1) := by decide +kernel
theorem dX5_firstFault_127 : decode cX5_firstFault 127 = .ok (.putfield 45, 3) := by decide +kernel
theorem dX5_firstFault_130 : decode cX5_firstFault 130 = .ok (.goto (-61), 3) := by decide +kernel
theorem dX5_firstFault_133 : decode cX5_firstFault 133 = .ok (.aload_n 0, 1) := by decide +kernel
theorem dX5_firstFault_134 : decode cX5_firstFault 134 = .ok (.aload_n 0, 1) := by decide +kernel
theorem dX5_firstFault_135 : decode cX5_firstFault 135 = .ok (.getfield 45, 3) := by decide +kernel
theorem dX5_firstFault_138 : decode cX5_firstFault 138 = .ok (.invokevirtual 48, 3) := by decide +kernel
theorem dX5_firstFault_141 : decode cX5_firstFault 141 = .ok (.aload_n 0, 1) := by decide +kernel
theorem dX5_firstFault_142 : decode cX5_firstFault 142 = .ok (.getfield 21, 3) := by decide +kernel
theorem dX5_firstFault_145 : decode cX5_firstFault 145 = .ok (.if_icmp .ne 8, 3) := by decide +kernel
theorem dX5_firstFault_148 : decode cX5_firstFault 148 = .ok (.bipush (-9), 2) := by decide +kernel
theorem dX5_firstFault_150 : decode cX5_firstFault 150 = .ok (.goto 11, 3) := by decide +kernel
theorem dX5_firstFault_153 : decode cX5_firstFault 153 = .ok (.aload_n 0, 1) := by decide +kernel
theorem dX5_firstFault_154 : decode cX5_firstFault 154 = .ok (.aload_n 0, 1) := by decide +kernel
theorem dX5_firstFault_155 : decode cX5_firstFault 155 = .ok (.getfield 45, 3) := by decide +kernel
theorem dX5_firstFault_158 : decode cX5_firstFault 158 = .ok (.invokevirtual 48, 3) := by decide +kernel
theorem dX5_firstFault_161 : decode cX5_firstFault 161 = .ok (.ireturn, 1) := by decide +kernel
theorem dX5_placeOf_0 : decode cX5_placeOf 0 = .ok (.iconst 1, 1) := by decide +kernel
theorem dX5_placeOf_1 : decode cX5_placeOf 1 = .ok (.aload_n 0, 1) := by decide +kernel
theorem dX5_placeOf_2 : decode cX5_placeOf 2 = .ok (.getfield 38, 3) := by decide +kernel
theorem dX5_placeOf_5 : decode cX5_placeOf 5 = .ok (.iadd, 1) := by decide +kernel
theorem dX5_placeOf_6 : decode cX5_placeOf 6 = .ok (.iload_n 1, 1) := by decide +kernel
theorem dX5_placeOf_7 : decode cX5_placeOf 7 = .ok (.iconst 3, 1) := by decide +kernel
theorem dX5_placeOf_8 : decode cX5_placeOf 8 = .ok (.aload_n 0, 1) := by decide +kernel
theorem dX5_placeOf_9 : decode cX5_placeOf 9 = .ok (.getfield 38, 3) := by decide +kernel
theorem dX5_placeOf_12 : decode cX5_placeOf 12 = .ok (.iadd, 1) := by decide +kernel
theorem dX5_placeOf_13 : decode cX5_placeOf 13 = .ok (.imul, 1) := by decide +kernel
theorem dX5_placeOf_14 : decode cX5_placeOf 14 = .ok (.iadd, 1) := by decide +kernel
theorem dX5_placeOf_15 : decode cX5_placeOf 15 = .ok (.ireturn, 1) := by decide +kernel
theorem dX5_faultInSwitch_0 : decode cX5_faultInSwitch 0 = .ok (.aload_n 0, 1) := by decide +kernel
theorem dX5_faultInSwitch_1 : decode cX5_faultInSwitch 1 = .ok (.iload_n 1, 1) := by decide +kernel
theorem dX5_faultInSwitch_2 : decode cX5_faultInSwitch 2 = .ok (.invokevirtual 31, 3) := by decide +kernel
theorem dX5_faultInSwitch_5 : decode cX5_faultInSwitch 5 = .ok (.bipush 59, 2) := by decide +kernel
theorem dX5_faultInSwitch_7 : decode cX5_faultInSwitch 7 = .ok (.if_icmp .eq 5, 3) := by decide +kernel
theorem dX5_faultInSwitch_10 : decode cX5_faultInSwitch 10 = .ok (.iload_n 1, 1) := by decide +kernel
theorem dX5_faultInSwitch_11 : decode cX5_faultInSwitch 11 = .ok (.ireturn, 1) := by decide +kernel
theorem dX5_faultInSwitch_12 : decode cX5_faultInSwitch 12 = .ok (.aload_n 0, 1) := by decide +kernel
theorem dX5_faultInSwitch_13 : decode cX5_faultInSwitch 13 = .ok (.iload_n 1, 1) := by decide +kernel
theorem dX5_faultInSwitch_14 : decode cX5_faultInSwitch 14 = .ok (.iconst 1, 1) := by decide +kernel
theorem dX5_faultInSwitch_15 : decode cX5_faultInSwitch 15 = .ok (.iadd, 1) := by decide +kernel
theorem dX5_faultInSwitch_16 : decode cX5_faultInSwitch 16 = .ok (.invokevirtual 31, 3) := by decide +kernel
theorem dX5_faultInSwitch_19 : decode cX5_faultInSwitch 19 = .ok (.invokestatic 54, 3) := by decide +kernel
theorem dX5_faultInSwitch_22 : decode cX5_faultInSwitch 22 = .ok (.bipush (-9), 2) := by decide +kernel
theorem dX5_faultInSwitch_24 : decode cX5_faultInSwitch 24 = .ok (.if_icmp .ne 7, 3) := by decide +kernel
theorem dX5_faultInSwitch_27 : decode cX5_faultInSwitch 27 = .ok (.iload_n 1, 1) := by decide +kernel
theorem dX5_faultInSwitch_28 : decode cX5_faultInSwitch 28 = .ok (.iconst 1, 1) := by decide +kernel
theorem dX5_faultInSwitch_29 : decode cX5_faultInSwitch 29 = .ok (.iadd, 1) := by decide +kernel
theorem dX5_faultInSwitch_30 : decode cX5_faultInSwitch 30 = .ok (.ireturn, 1) := by decide +kernel
theorem dX5_faultInSwitch_31 : decode cX5_faultInSwitch 31 = .ok (.aload_n 0, 1) := by decide +kernel
theorem dX5_faultInSwitch_32 : decode cX5_faultInSwitch 32 = .ok (.iload_n 1, 1) := by decide +kernel
theorem dX5_faultInSwitch_33 : decode cX5_faultInSwitch 33 = .ok (.iconst 2, 1) := by decide +kernel
theorem dX5_faultInSwitch_34 : decode cX5_faultInSwitch 34 = .ok (.iadd, 1) := by decide +kernel
theorem dX5_faultInSwitch_35 : decode cX5_faultInSwitch 35 = .ok (.bipush 49, 2) := by decide +kernel
theorem dX5_faultInSwitch_37 : decode cX5_faultInSwitch 37 = .ok (.bipush 52, 2) := by decide +kernel
theorem dX5_faultInSwitch_39 : decode cX5_faultInSwitch 39 = .ok (.invokevirtual 41, 3) := by decide +kernel
theorem dX5_faultInSwitch_42 : decode cX5_faultInSwitch 42 = .ok (.ifCond .ne 7, 3) := by decide +kernel
theorem dX5_faultInSwitch_45 : decode cX5_faultInSwitch 45 = .ok (.iload_n 1, 1) := by decide +kernel
theorem dX5_faultInSwitch_46 : decode cX5_faultInSwitch 46 = .ok (.iconst 2, 1) := by decide +kernel
theorem dX5_faultInSwitch_47 : decode cX5_faultInSwitch 47 = .ok (.iadd, 1) := by decide +kernel
theorem dX5_faultInSwitch_48 : decode cX5_faultInSwitch 48 = .ok (.ireturn, 1) := by decide +kernel
theorem dX5_faultInSwitch_49 : decode cX5_faultInSwitch 49 = .ok (.iconst 0, 1) := by decide +kernel
theorem dX5_faultInSwitch_50 : decode cX5_faultInSwitch 50 = .ok (.istore_n 2, 1) := by decide +kernel
theorem dX5_faultInSwitch_51 : decode cX5_faultInSwitch 51 = .ok (.iload_n 2, 1) := by decide +kernel
theorem dX5_faultInSwitch_52 : decode cX5_faultInSwitch 52 = .ok (.aload_n 0, 1) := by decide +kernel
theorem dX5_faultInSwitch_53 : decode cX5_faultInSwitch 53 = .ok (.getfield 38, 3) := by decide +kernel
theorem dX5_faultInSwitch_56 : decode cX5_faultInSwitch 56 = .ok (.if_icmp .ge 31, 3) := by decide +kernel
theorem dX5_faultInSwitch_59 : decode cX5_faultInSwitch 59 = .ok (.aload_n 0, 1) := by decide +kernel
theorem dX5_faultInSwitch_60 : decode cX5_faultInSwitch 60 = .ok (.iload_n 1, 1) := by decide +kernel
theorem dX5_faultInSwitch_61 : decode cX5_faultInSwitch 61 = .ok (.iconst 3, 1) := by decide +kernel
theorem dX5_faultInSwitch_62 : decode cX5_faultInSwitch 62 = .ok (.iadd, 1) := by decide +kernel
theorem dX5_faultInSwitch_63 : decode cX5_faultInSwitch 63 = .ok (.iload_n 2, 1) := by decide +kernel
theorem dX5_faultInSwitch_64 : decode cX5_faultInSwitch 64 = .ok (.iadd, 1) := by decide +kernel
theorem dX5_faultInSwitch_65 : decode cX5_faultInSwitch 65 = .ok (.bipush 48, 2) := by decide +kernel
theorem dX5_faultInSwitch_67 : decode cX5_faultInSwitch 67 = .ok (.bipush 49, 2) := by decide +kernel
theorem dX5_faultInSwitch_69 : decode cX5_faultInSwitch 69 = .ok (.invokevirtual 41, 3) := by decide +kernel
theorem dX5_faultInSwitch_72 : decode cX5_faultInSwitch 72 = .ok (.ifCond .ne 9, 3) := by decide +kernel
theorem dX5_faultInSwitch_75 : decode cX5_faultInSwitch 75 = .ok (.iload_n 1, 1) := by decide +kernel
theorem dX5_faultInSwitch_76 : decode cX5_faultInSwitch 76 = .ok (.iconst 3, 1) := by decide +kernel
theorem dX5_faultInSwitch_77 : decode cX5_faultInSwitch 77 = .ok (.iadd, 1) := by decide +kernel
theorem dX5_faultInSwitch_78 : decode cX5_faultInSwitch 78 = .ok (.iload_n 2, 1) := by decide +kernel
theorem dX5_faultInSwitch_79 : decode cX5_faultInSwitch 79 = .ok (.iadd, 1) := by decide +kernel
theorem dX5_faultInSwitch_80 : decode cX5_faultInSwitch 80 = .ok (.ireturn, 1) := by decide +kernel
theorem dX5_faultInSwitch_81 : decode cX5_faultInSwitch 81 = .ok (.iinc 2 1, 3) := by decide +kernel
theorem dX5_faultInSwitch_84 : decode cX5_faultInSwitch 84 = .ok (.goto (-33), 3) := by decide +kernel
theorem dX5_faultInSwitch_87 : decode cX5_faultInSwitch 87 = .ok (.bipush (-9), 2) := by decide +kernel
theorem dX5_faultInSwitch_89 : decode cX5_faultInSwitch 89 = .ok (.ireturn, 1) := by decide +kernel
theorem dX5_kindOf_0 : decode cX5_kindOf 0 = .ok (.iload_n 0, 1) := by decide +kernel
theorem dX5_kindOf_1 : decode cX5_kindOf 1 = .ok (.lookupswitch 41 #[(98, 37), (100, 39), (112, 35)], 35) := by decide +kernel
theorem dX5_kindOf_36 : decode cX5_kindOf 36 = .ok (.iconst 0, 1) := by decide +kernel
theorem dX5_kindOf_37 : decode cX5_kindOf 37 = .ok (.ireturn, 1) := by decide +kernel
theorem dX5_kindOf_38 : decode cX5_kindOf 38 = .ok (.iconst 1, 1) := by decide +kernel
theorem dX5_kindOf_39 : decode cX5_kindOf 39 = .ok (.ireturn, 1) := by decide +kernel
theorem dX5_kindOf_40 : decode cX5_kindOf 40 = .ok (.iconst 2, 1) := by decide +kernel
theorem dX5_kindOf_41 : decode cX5_kindOf 41 = .ok (.ireturn, 1) := by decide +kernel
theorem dX5_kindOf_42 : decode cX5_kindOf 42 = .ok (.bipush (-9), 2) := by decide +kernel
theorem dX5_kindOf_44 : decode cX5_kindOf 44 = .ok (.ireturn, 1) := by decide +kernel
theorem dX5_layOut_0 : decode cX5_layOut 0 = .ok (.aload_n 1, 1) := by decide +kernel
theorem dX5_layOut_1 : decode cX5_layOut 1 = .ok (.aload_n 0, 1) := by decide +kernel
theorem dX5_layOut_2 : decode cX5_layOut 2 = .ok (.getfield 38, 3) := by decide +kernel
theorem dX5_layOut_5 : decode cX5_layOut 5 = .ok (.putfield 57, 3) := by decide +kernel
theorem dX5_layOut_8 : decode cX5_layOut 8 = .ok (.iconst 0, 1) := by decide +kernel
theorem dX5_layOut_9 : decode cX5_layOut 9 = .ok (.istore_n 2, 1) := by decide +kernel
theorem dX5_layOut_10 : decode cX5_layOut 10 = .ok (.iload_n 2, 1) := by decide +kernel
theorem dX5_layOut_11 : decode cX5_layOut 11 = .ok (.aload_n 0, 1) := by decide +kernel
theorem dX5_layOut_12 : decode cX5_layOut 12 = .ok (.getfield 38, 3) := by decide +kernel
theorem dX5_layOut_15 : decode cX5_layOut 15 = .ok (.if_icmp .ge 32, 3) := by decide +kernel
theorem dX5_layOut_18 : decode cX5_layOut 18 = .ok (.aload_n 1, 1) := by decide +kernel
theorem dX5_layOut_19 : decode cX5_layOut 19 = .ok (.getfield 60, 3) := by decide +kernel
theorem dX5_layOut_22 : decode cX5_layOut 22 = .ok (.iload_n 2, 1) := by decide +kernel
theorem dX5_layOut_23 : decode cX5_layOut 23 = .ok (.aload_n 0, 1) := by decide +kernel
theorem dX5_layOut_24 : decode cX5_layOut 24 = .ok (.iconst 1, 1) := by decide +kernel
theorem dX5_layOut_25 : decode cX5_layOut 25 = .ok (.iload_n 2, 1) := by decide +kernel
theorem dX5_layOut_26 : decode cX5_layOut 26 = .ok (.iadd, 1) := by decide +kernel
theorem dX5_layOut_27 : decode cX5_layOut 27 = .ok (.invokevirtual 31, 3) := by decide +kernel
theorem dX5_layOut_30 : decode cX5_layOut 30 = .ok (.bipush 48, 2) := by decide +kernel
theorem dX5_layOut_32 : decode cX5_layOut 32 = .ok (.isub, 1) := by decide +kernel
theorem dX5_layOut_33 : decode cX5_layOut 33 = .ok (.iastore, 1) := by decide +kernel
theorem dX5_layOut_34 : decode cX5_layOut 34 = .ok (.aload_n 1, 1) := by decide +kernel
theorem dX5_layOut_35 : decode cX5_layOut 35 = .ok (.getfield 63, 3) := by decide +kernel
theorem dX5_layOut_38 : decode cX5_layOut 38 = .ok (.iload_n 2, 1) := by decide +kernel
theorem dX5_layOut_39 : decode cX5_layOut 39 = .ok (.iconst 0, 1) := by decide +kernel
theorem dX5_layOut_40 : decode cX5_layOut 40 = .ok (.iastore, 1) := by decide +kernel
theorem dX5_layOut_41 : decode cX5_layOut 41 = .ok (.iinc 2 1, 3) := by decide +kernel
theorem dX5_layOut_44 : decode cX5_layOut 44 = .ok (.goto (-34), 3) := by decide +kernel
theorem dX5_layOut_47 : decode cX5_layOut 47 = .ok (.aload_n 1, 1) := by decide +kernel
theorem dX5_layOut_48 : decode cX5_layOut 48 = .ok (.aload_n 0, 1) := by decide +kernel
theorem dX5_layOut_49 : decode cX5_layOut 49 = .ok (.getfield 45, 3) := by decide +kernel
theorem dX5_layOut_52 : decode cX5_layOut 52 = .ok (.putfield 66, 3) := by decide +kernel
theorem dX5_layOut_55 : decode cX5_layOut 55 = .ok (.iconst 0, 1) := by decide +kernel
theorem dX5_layOut_56 : decode cX5_layOut 56 = .ok (.istore_n 2, 1) := by decide +kernel
theorem dX5_layOut_57 : decode cX5_layOut 57 = .ok (.iload_n 2, 1) := by decide +kernel
theorem dX5_layOut_58 : decode cX5_layOut 58 = .ok (.aload_n 0, 1) := by decide +kernel
theorem dX5_layOut_59 : decode cX5_layOut 59 = .ok (.getfield 45, 3) := by decide +kernel
theorem dX5_layOut_62 : decode cX5_layOut 62 = .ok (.if_icmp .ge 67, 3) := by decide +kernel
theorem dX5_layOut_65 : decode cX5_layOut 65 = .ok (.aload_n 0, 1) := by decide +kernel
theorem dX5_layOut_66 : decode cX5_layOut 66 = .ok (.iload_n 2, 1) := by decide +kernel
theorem dX5_layOut_67 : decode cX5_layOut 67 = .ok (.invokevirtual 48, 3) := by decide +kernel
theorem dX5_layOut_70 : decode cX5_layOut 70 = .ok (.istore_n 3, 1) := by decide +kernel
theorem dX5_layOut_71 : decode cX5_layOut 71 = .ok (.aload_n 1, 1) := by decide +kernel
theorem dX5_layOut_72 : decode cX5_layOut 72 = .ok (.getfield 67, 3) := by decide +kernel
theorem dX5_layOut_75 : decode cX5_layOut 75 = .ok (.iload_n 2, 1) := by decide +kernel
theorem dX5_layOut_76 : decode cX5_layOut 76 = .ok (.aload_n 0, 1) := by decide +kernel
theorem dX5_layOut_77 : decode cX5_layOut 77 = .ok (.iload_n 3, 1) := by decide +kernel
theorem dX5_layOut_78 : decode cX5_layOut 78 = .ok (.iconst 1, 1) := by decide +kernel
theorem dX5_layOut_79 : decode cX5_layOut 79 = .ok (.iadd, 1) := by decide +kernel
theorem dX5_layOut_80 : decode cX5_layOut 80 = .ok (.invokevirtual 31, 3) := by decide +kernel
theorem dX5_layOut_83 : decode cX5_layOut 83 = .ok (.invokestatic 54, 3) := by decide +kernel
theorem dX5_layOut_86 : decode cX5_layOut 86 = .ok (.iastore, 1) := by decide +kernel
theorem dX5_layOut_87 : decode cX5_layOut 87 = .ok (.aload_n 1, 1) := by decide +kernel
theorem dX5_layOut_88 : decode cX5_layOut 88 = .ok (.getfield 70, 3) := by decide +kernel
theorem dX5_layOut_91 : decode cX5_layOut 91 = .ok (.iload_n 2, 1) := by decide +kernel
theorem dX5_layOut_92 : decode cX5_layOut 92 = .ok (.aload_n 0, 1) := by decide +kernel
theorem dX5_layOut_93 : decode cX5_layOut 93 = .ok (.iload_n 3, 1) := by decide +kernel
theorem dX5_layOut_94 : decode cX5_layOut 94 = .ok (.iconst 2, 1) := by decide +kernel
theorem dX5_layOut_95 : decode cX5_layOut 95 = .ok (.iadd, 1) := by decide +kernel
theorem dX5_layOut_96 : decode cX5_layOut 96 = .ok (.invokevirtual 31, 3) := by decide +kernel
theorem dX5_layOut_99 : decode cX5_layOut 99 = .ok (.bipush 48, 2) := by decide +kernel
theorem dX5_layOut_101 : decode cX5_layOut 101 = .ok (.isub, 1) := by decide +kernel
theorem dX5_layOut_102 : decode cX5_layOut 102 = .ok (.iastore, 1) := by decide +kernel
theorem dX5_layOut_103 : decode cX5_layOut 103 = .ok (.aload_n 1, 1) := by decide +kernel
theorem dX5_layOut_104 : decode cX5_layOut 104 = .ok (.getfield 73, 3) := by decide +kernel
theorem dX5_layOut_107 : decode cX5_layOut 107 = .ok (.iload_n 2, 1) := by decide +kernel
theorem dX5_layOut_108 : decode cX5_layOut 108 = .ok (.aload_n 0, 1) := by decide +kernel
theorem dX5_layOut_109 : decode cX5_layOut 109 = .ok (.iload_n 3, 1) := by decide +kernel
theorem dX5_layOut_110 : decode cX5_layOut 110 = .ok (.iconst 3, 1) := by decide +kernel
theorem dX5_layOut_111 : decode cX5_layOut 111 = .ok (.iadd, 1) := by decide +kernel
theorem dX5_layOut_112 : decode cX5_layOut 112 = .ok (.invokevirtual 76, 3) := by decide +kernel
theorem dX5_layOut_115 : decode cX5_layOut 115 = .ok (.iastore, 1) := by decide +kernel
theorem dX5_layOut_116 : decode cX5_layOut 116 = .ok (.aload_n 1, 1) := by decide +kernel
theorem dX5_layOut_117 : decode cX5_layOut 117 = .ok (.getfield 79, 3) := by decide +kernel
theorem dX5_layOut_120 : decode cX5_layOut 120 = .ok (.iload_n 2, 1) := by decide +kernel
theorem dX5_layOut_121 : decode cX5_layOut 121 = .ok (.iconst 0, 1) := by decide +kernel
theorem dX5_layOut_122 : decode cX5_layOut 122 = .ok (.iastore, 1) := by decide +kernel
theorem dX5_layOut_123 : decode cX5_layOut 123 = .ok (.iinc 2 1, 3) := by decide +kernel
theorem dX5_layOut_126 : decode cX5_layOut 126 = .ok (.goto (-69), 3) := by decide +kernel
theorem dX5_layOut_129 : decode cX5_layOut 129 = .ok (.return_, 1) := by decide +kernel
theorem dX5_wiresFrom_0 : decode cX5_wiresFrom 0 = .ok (.iconst 0, 1) := by decide +kernel
theorem dX5_wiresFrom_1 : decode cX5_wiresFrom 1 = .ok (.istore_n 2, 1) := by decide +kernel
theorem dX5_wiresFrom_2 : decode cX5_wiresFrom 2 = .ok (.iconst 0, 1) := by decide +kernel
theorem dX5_wiresFrom_3 : decode cX5_wiresFrom 3 = .ok (.istore_n 3, 1) := by decide +kernel
theorem dX5_wiresFrom_4 : decode cX5_wiresFrom 4 = .ok (.iload_n 3, 1) := by decide +kernel
theorem dX5_wiresFrom_5 : decode cX5_wiresFrom 5 = .ok (.aload_n 0, 1) := by decide +kernel
theorem dX5_wiresFrom_6 : decode cX5_wiresFrom 6 = .ok (.getfield 38, 3) := by decide +kernel
theorem dX5_wiresFrom_9 : decode cX5_wiresFrom 9 = .ok (.if_icmp .ge 27, 3) := by decide +kernel
theorem dX5_wiresFrom_12 : decode cX5_wiresFrom 12 = .ok (.aload_n 0, 1) := by decide +kernel
theorem dX5_wiresFrom_13 : decode cX5_wiresFrom 13 = .ok (.iload_n 1, 1) := by decide +kernel
theorem dX5_wiresFrom_14 : decode cX5_wiresFrom 14 = .ok (.iload_n 3, 1) := by decide +kernel
theorem dX5_wiresFrom_15 : decode cX5_wiresFrom 15 = .ok (.iadd, 1) := by decide +kernel
theorem dX5_wiresFrom_16 : decode cX5_wiresFrom 16 = .ok (.invokevirtual 31, 3) := by decide +kernel
theorem dX5_wiresFrom_19 : decode cX5_wiresFrom 19 = .ok (.bipush 49, 2) := by decide +kernel
theorem dX5_wiresFrom_21 : decode cX5_wiresFrom 21 = .ok (.if_icmp .ne 9, 3) := by decide +kernel
theorem dX5_wiresFrom_24 : decode cX5_wiresFrom 24 = .ok (.iload_n 2, 1) := by decide +kernel
theorem dX5_wiresFrom_25 : decode cX5_wiresFrom 25 = .ok (.iconst 1, 1) := by decide +kernel
theorem dX5_wiresFrom_26 : decode cX5_wiresFrom 26 = .ok (.iload_n 3, 1) := by decide +kernel
theorem dX5_wiresFrom_27 : decode cX5_wiresFrom 27 = .ok (.ishl, 1) := by decide +kernel
theorem dX5_wiresFrom_28 : decode cX5_wiresFrom 28 = .ok (.ior, 1) := by decide +kernel
theorem dX5_wiresFrom_29 : decode cX5_wiresFrom 29 = .ok (.istore_n 2, 1) := by decide +kernel
theorem dX5_wiresFrom_30 : decode cX5_wiresFrom 30 = .ok (.iinc 3 1, 3) := by decide +kernel
theorem dX5_wiresFrom_33 : decode cX5_wiresFrom 33 = .ok (.goto (-29), 3) := by decide +kernel
theorem dX5_wiresFrom_36 : decode cX5_wiresFrom 36 = .ok (.iload_n 2, 1) := by decide +kernel
theorem dX5_wiresFrom_37 : decode cX5_wiresFrom 37 = .ok (.ireturn, 1) := by decide +kernel
theorem dX6_init_0 : decode cX6_init 0 = .ok (.aload_n 0, 1) := by decide +kernel
theorem dX6_init_1 : decode cX6_init 1 = .ok (.invokespecial 5, 3) := by decide +kernel
theorem dX6_init_4 : decode cX6_init 4 = .ok (.aload_n 0, 1) := by decide +kernel
theorem dX6_init_5 : decode cX6_init 5 = .ok (.new 11, 3) := by decide +kernel
theorem dX6_init_8 : decode cX6_init 8 = .ok (.dup, 1) := by decide +kernel
theorem dX6_init_9 : decode cX6_init 9 = .ok (.invokespecial 13, 3) := by decide +kernel
theorem dX6_init_12 : decode cX6_init 12 = .ok (.putfield 14, 3) := by decide +kernel
theorem dX6_init_15 : decode cX6_init 15 = .ok (.aload_n 0, 1) := by decide +kernel
theorem dX6_init_16 : decode cX6_init 16 = .ok (.new 18, 3) := by decide +kernel
theorem dX6_init_19 : decode cX6_init 19 = .ok (.dup, 1) := by decide +kernel
theorem dX6_init_20 : decode cX6_init 20 = .ok (.invokespecial 20, 3) := by decide +kernel
theorem dX6_init_23 : decode cX6_init 23 = .ok (.putfield 21, 3) := by decide +kernel
theorem dX6_init_26 : decode cX6_init 26 = .ok (.aload_n 0, 1) := by decide +kernel
theorem dX6_init_27 : decode cX6_init 27 = .ok (.new 25, 3) := by decide +kernel
theorem dX6_init_30 : decode cX6_init 30 = .ok (.dup, 1) := by decide +kernel
theorem dX6_init_31 : decode cX6_init 31 = .ok (.invokespecial 27, 3) := by decide +kernel
theorem dX6_init_34 : decode cX6_init 34 = .ok (.putfield 28, 3) := by decide +kernel
theorem dX6_init_37 : decode cX6_init 37 = .ok (.aload_n 0, 1) := by decide +kernel
theorem dX6_init_38 : decode cX6_init 38 = .ok (.new 32, 3) := by decide +kernel
theorem dX6_init_41 : decode cX6_init 41 = .ok (.dup, 1) := by decide +kernel
theorem dX6_init_42 : decode cX6_init 42 = .ok (.invokespecial 34, 3) := by decide +kernel
theorem dX6_init_45 : decode cX6_init 45 = .ok (.putfield 35, 3) := by decide +kernel
theorem dX6_init_48 : decode cX6_init 48 = .ok (.aload_n 0, 1) := by decide +kernel
theorem dX6_init_49 : decode cX6_init 49 = .ok (.new 39, 3) := by decide +kernel
theorem dX6_init_52 : decode cX6_init 52 = .ok (.dup, 1) := by decide +kernel
theorem dX6_init_53 : decode cX6_init 53 = .ok (.invokespecial 41, 3) := by decide +kernel
theorem dX6_init_56 : decode cX6_init 56 = .ok (.putfield 42, 3) := by decide +kernel
theorem dX6_init_59 : decode cX6_init 59 = .ok (.aload_n 0, 1) := by decide +kernel
theorem dX6_init_60 : decode cX6_init 60 = .ok (.iconst 4, 1) := by decide +kernel
theorem dX6_init_61 : decode cX6_init 61 = .ok (.anewarray 46, 3) := by decide +kernel
theorem dX6_init_64 : decode cX6_init 64 = .ok (.putfield 48, 3) := by decide +kernel
theorem dX6_init_67 : decode cX6_init 67 = .ok (.aload_n 0, 1) := by decide +kernel
theorem dX6_init_68 : decode cX6_init 68 = .ok (.iconst 5, 1) := by decide +kernel
theorem dX6_init_69 : decode cX6_init 69 = .ok (.newarray .int, 2) := by decide +kernel
theorem dX6_init_71 : decode cX6_init 71 = .ok (.putfield 52, 3) := by decide +kernel
theorem dX6_init_74 : decode cX6_init 74 = .ok (.iconst 0, 1) := by decide +kernel
theorem dX6_init_75 : decode cX6_init 75 = .ok (.istore_n 1, 1) := by decide +kernel
theorem dX6_init_76 : decode cX6_init 76 = .ok (.iload_n 1, 1) := by decide +kernel
theorem dX6_init_77 : decode cX6_init 77 = .ok (.iconst 4, 1) := by decide +kernel
theorem dX6_init_78 : decode cX6_init 78 = .ok (.if_icmp .ge 22, 3) := by decide +kernel
theorem dX6_init_81 : decode cX6_init 81 = .ok (.aload_n 0, 1) := by decide +kernel
theorem dX6_init_82 : decode cX6_init 82 = .ok (.getfield 48, 3) := by decide +kernel
theorem dX6_init_85 : decode cX6_init 85 = .ok (.iload_n 1, 1) := by decide +kernel
theorem dX6_init_86 : decode cX6_init 86 = .ok (.new 46, 3) := by decide +kernel
theorem dX6_init_89 : decode cX6_init 89 = .ok (.dup, 1) := by decide +kernel
theorem dX6_init_90 : decode cX6_init 90 = .ok (.invokespecial 56, 3) := by decide +kernel
theorem dX6_init_93 : decode cX6_init 93 = .ok (.aastore, 1) := by decide +kernel
theorem dX6_init_94 : decode cX6_init 94 = .ok (.iinc 1 1, 3) := by decide +kernel
theorem dX6_init_97 : decode cX6_init 97 = .ok (.goto (-21), 3) := by decide +kernel
theorem dX6_init_100 : decode cX6_init 100 = .ok (.return_, 1) := by decide +kernel
theorem dX6_hall_0 : decode cX6_hall 0 = .ok (.aload_n 0, 1) := by decide +kernel
theorem dX6_hall_1 : decode cX6_hall 1 = .ok (.iconst 0, 1) := by decide +kernel
theorem dX6_hall_2 : decode cX6_hall 2 = .ok (.putfield 57, 3) := by decide +kernel
theorem dX6_hall_5 : decode cX6_hall 5 = .ok (.aload_n 0, 1) := by decide +kernel
theorem dX6_hall_6 : decode cX6_hall 6 = .ok (.iload_n 1, 1) := by decide +kernel
theorem dX6_hall_7 : decode cX6_hall 7 = .ok (.invokevirtual 61, 3) := by decide +kernel
theorem dX6_hall_10 : decode cX6_hall 10 = .ok (.astore 5, 2) := by decide +kernel
theorem dX6_hall_12 : decode cX6_hall 12 = .ok (.aload 5, 2) := by decide +kernel
theorem dX6_hall_14 : decode cX6_hall 14 = .ok (.ifnonnull 5, 3) := by decide +kernel
theorem dX6_hall_17 : decode cX6_hall 17 = .ok (.iconst (-1), 1) := by decide +kernel
theorem dX6_hall_18 : decode cX6_hall 18 = .ok (.ireturn, 1) := by decide +kernel
theorem dX6_hall_19 : decode cX6_hall 19 = .ok (.iload_n 2, 1) := by decide +kernel
theorem dX6_hall_20 : decode cX6_hall 20 = .ok (.invokestatic 65, 3) := by decide +kernel
theorem dX6_hall_23 : decode cX6_hall 23 = .ok (.ifCond .ne 6, 3) := by decide +kernel
theorem dX6_hall_26 : decode cX6_hall 26 = .ok (.bipush (-2), 2) := by decide +kernel
theorem dX6_hall_28 : decode cX6_hall 28 = .ok (.ireturn, 1) := by decide +kernel
theorem dX6_hall_29 : decode cX6_hall 29 = .ok (.aload 5, 2) := by decide +kernel
theorem dX6_hall_31 : decode cX6_hall 31 = .ok (.iload_n 2, 1) := by decide +kernel
theorem dX6_hall_32 : decode cX6_hall 32 = .ok (.invokevirtual 69, 3) := by decide +kernel
theorem dX6_hall_35 : decode cX6_hall 35 = .ok (.istore 6, 2) := by decide +kernel
theorem dX6_hall_37 : decode cX6_hall 37 = .ok (.iload 6, 2) := by decide +kernel
theorem dX6_hall_39 : decode cX6_hall 39 = .ok (.ifCond .ne 11, 3) := by decide +kernel
theorem dX6_hall_42 : decode cX6_hall 42 = .ok (.iload 4, 2) := by decide +kernel
theorem dX6_hall_44 : decode cX6_hall 44 = .ok (.ifCond .ge 6, 3) := by decide +kernel
theorem dX6_hall_47 : decode cX6_hall 47 = .ok (.iconst 4, 1) := by decide +kernel
theorem dX6_hall_48 : decode cX6_hall 48 = .ok (.istore 6, 2) := by decide +kernel
theorem dX6_hall_50 : decode cX6_hall 50 = .ok (.iload 6, 2) := by decide +kernel
theorem dX6_hall_52 : decode cX6_hall 52 = .ok (.ifCond .ne 17, 3) := by decide +kernel
theorem dX6_hall_55 : decode cX6_hall 55 = .ok (.aload 5, 2) := by decide +kernel
theorem dX6_hall_57 : decode cX6_hall 57 = .ok (.iload_n 3, 1) := by decide +kernel
theorem dX6_hall_58 : decode cX6_hall 58 = .ok (.iload 4, 2) := by decide +kernel
theorem dX6_hall_60 : decode cX6_hall 60 = .ok (.invokevirtual 73, 3) := by decide +kernel
theorem dX6_hall_63 : decode cX6_hall 63 = .ok (.ifCond .ne 6, 3) := by decide +kernel
theorem dX6_hall_66 : decode cX6_hall 66 = .ok (.iconst 3, 1) := by decide +kernel
theorem dX6_hall_67 : decode cX6_hall 67 = .ok (.istore 6, 2) := by decide +kernel
theorem dX6_hall_69 : decode cX6_hall 69 = .ok (.iload 6, 2) := by decide +kernel
theorem dX6_hall_71 : decode cX6_hall 71 = .ok (.ifCond .eq 10, 3) := by decide +kernel
theorem dX6_hall_74 : decode cX6_hall 74 = .ok (.aload_n 0, 1) := by decide +kernel
theorem dX6_hall_75 : decode cX6_hall 75 = .ok (.iload 6, 2) := by decide +kernel
theorem dX6_hall_77 : decode cX6_hall 77 = .ok (.invokevirtual 77, 3) := by decide +kernel
theorem dX6_hall_80 : decode cX6_hall 80 = .ok (.ireturn, 1) := by decide +kernel
theorem dX6_hall_81 : decode cX6_hall 81 = .ok (.aload_n 0, 1) := by decide +kernel
theorem dX6_hall_82 : decode cX6_hall 82 = .ok (.getfield 21, 3) := by decide +kernel
theorem dX6_hall_85 : decode cX6_hall 85 = .ok (.aload 5, 2) := by decide +kernel
theorem dX6_hall_87 : decode cX6_hall 87 = .ok (.iload_n 3, 1) := by decide +kernel
theorem dX6_hall_88 : decode cX6_hall 88 = .ok (.iload 4, 2) := by decide +kernel
theorem dX6_hall_90 : decode cX6_hall 90 = .ok (.invokevirtual 80, 3) := by decide +kernel
theorem dX6_hall_93 : decode cX6_hall 93 = .ok (.aload_n 0, 1) := by decide +kernel
theorem dX6_hall_94 : decode cX6_hall 94 = .ok (.getfield 21, 3) := by decide +kernel
theorem dX6_hall_97 : decode cX6_hall 97 = .ok (.invokevirtual 84, 3) := by decide +kernel
theorem dX6_hall_100 : decode cX6_hall 100 = .ok (.istore 7, 2) := by decide +kernel
theorem dX6_hall_102 : decode cX6_hall 102 = .ok (.iload 7, 2) := by decide +kernel
theorem dX6_hall_104 : decode cX6_hall 104 = .ok (.bipush (-9), 2) := by decide +kernel
theorem dX6_hall_106 : decode cX6_hall 106 = .ok (.if_icmp .eq 9, 3) := by decide +kernel
theorem dX6_hall_109 : decode cX6_hall 109 = .ok (.bipush (-100), 2) := by decide +kernel
theorem dX6_hall_111 : decode cX6_hall 111 = .ok (.iload 7, 2) := by decide +kernel
theorem dX6_hall_113 : decode cX6_hall 113 = .ok (.isub, 1) := by decide +kernel
theorem dX6_hall_114 : decode cX6_hall 114 = .ok (.ireturn, 1) := by decide +kernel
theorem dX6_hall_115 : decode cX6_hall 115 = .ok (.aload_n 0, 1) := by decide +kernel
theorem dX6_hall_116 : decode cX6_hall 116 = .ok (.getfield 21, 3) := by decide +kernel
theorem dX6_hall_119 : decode cX6_hall 119 = .ok (.aload_n 0, 1) := by decide +kernel
theorem dX6_hall_120 : decode cX6_hall 120 = .ok (.getfield 14, 3) := by decide +kernel
theorem dX6_hall_123 : decode cX6_hall 123 = .ok (.invokevirtual 88, 3) := by decide +kernel
theorem dX6_hall_126 : decode cX6_hall 126 = .ok (.aload_n 0, 1) := by decide +kernel
theorem dX6_hall_127 : decode cX6_hall 127 = .ok (.getfield 35, 3) := by decide +kernel
theorem dX6_hall_130 : decode cX6_hall 130 = .ok (.iconst 0, 1) := by decide +kernel
theorem dX6_hall_131 : decode cX6_hall 131 = .ok (.putfield 92, 3) := by decide +kernel
theorem dX6_hall_134 : decode cX6_hall 134 = .ok (.aload_n 0, 1) := by decide +kernel
theorem dX6_hall_135 : decode cX6_hall 135 = .ok (.getfield 28, 3) := by decide +kernel
theorem dX6_hall_138 : decode cX6_hall 138 = .ok (.invokevirtual 95, 3) := by decide +kernel
theorem dX6_hall_141 : decode cX6_hall 141 = .ok (.aload_n 0, 1) := by decide +kernel
theorem dX6_hall_142 : decode cX6_hall 142 = .ok (.getfield 14, 3) := by decide +kernel
theorem dX6_hall_145 : decode cX6_hall 145 = .ok (.getfield 98, 3) := by decide +kernel
theorem dX6_hall_148 : decode cX6_hall 148 = .ok (.ireturn, 1) := by decide +kernel
theorem dX6_ofLamp_0 : decode cX6_ofLamp 0 = .ok (.aload_n 0, 1) := by decide +kernel
theorem dX6_ofLamp_1 : decode cX6_ofLamp 1 = .ok (.getfield 14, 3) := by decide +kernel
theorem dX6_ofLamp_4 : decode cX6_ofLamp 4 = .ok (.iload_n 1, 1) := by decide +kernel
theorem dX6_ofLamp_5 : decode cX6_ofLamp 5 = .ok (.invokevirtual 101, 3) := by decide +kernel
theorem dX6_ofLamp_8 : decode cX6_ofLamp 8 = .ok (.ifCond .ne 5, 3) := by decide +kernel
theorem dX6_ofLamp_11 : decode cX6_ofLamp 11 = .ok (.iconst (-1), 1) := by decide +kernel
theorem dX6_ofLamp_12 : decode cX6_ofLamp 12 = .ok (.ireturn, 1) := by decide +kernel
theorem dX6_ofLamp_13 : decode cX6_ofLamp 13 = .ok (.iload_n 2, 1) := by decide +kernel
theorem dX6_ofLamp_14 : decode cX6_ofLamp 14 = .ok (.tableswitch 55 0 2 #[26, 36, 46], 26) := by decide +kernel
theorem dX6_ofLamp_40 : decode cX6_ofLamp 40 = .ok (.aload_n 0, 1) := by decide +kernel
theorem dX6_ofLamp_41 : decode cX6_ofLamp 41 = .ok (.getfield 14, 3) := by decide +kernel
theorem dX6_ofLamp_44 : decode cX6_ofLamp 44 = .ok (.getfield 104, 3) := by decide +kernel
theorem dX6_ofLamp_47 : decode cX6_ofLamp 47 = .ok (.iload_n 1, 1) := by decide +kernel
theorem dX6_ofLamp_48 : decode cX6_ofLamp 48 = .ok (.iaload, 1) := by decide +kernel
theorem dX6_ofLamp_49 : decode cX6_ofLamp 49 = .ok (.ireturn, 1) := by decide +kernel
theorem dX6_ofLamp_50 : decode cX6_ofLamp 50 = .ok (.aload_n 0, 1) := by decide +kernel
theorem dX6_ofLamp_51 : decode cX6_ofLamp 51 = .ok (.getfield 14, 3) := by decide +kernel
theorem dX6_ofLamp_54 : decode cX6_ofLamp 54 = .ok (.getfield 107, 3) := by decide +kernel
theorem dX6_ofLamp_57 : decode cX6_ofLamp 57 = .ok (.iload_n 1, 1) := by decide +kernel
theorem dX6_ofLamp_58 : decode cX6_ofLamp 58 = .ok (.iaload, 1) := by decide +kernel
theorem dX6_ofLamp_59 : decode cX6_ofLamp 59 = .ok (.ireturn, 1) := by decide +kernel
theorem dX6_ofLamp_60 : decode cX6_ofLamp 60 = .ok (.aload_n 0, 1) := by decide +kernel
theorem dX6_ofLamp_61 : decode cX6_ofLamp 61 = .ok (.getfield 14, 3) := by decide +kernel
theorem dX6_ofLamp_64 : decode cX6_ofLamp 64 = .ok (.iload_n 1, 1) := by decide +kernel
theorem dX6_ofLamp_65 : decode cX6_ofLamp 65 = .ok (.invokevirtual 110, 3) := by decide +kernel
theorem dX6_ofLamp_68 : decode cX6_ofLamp 68 = .ok (.ireturn, 1) := by decide +kernel
theorem dX6_ofLamp_69 : decode cX6_ofLamp 69 = .ok (.bipush (-2), 2) := by decide +kernel
theorem dX6_ofLamp_71 : decode cX6_ofLamp 71 = .ok (.ireturn, 1) := by decide +kernel
theorem dX6_ofSwitch_0 : decode cX6_ofSwitch 0 = .ok (.aload_n 0, 1) := by decide +kernel
theorem dX6_ofSwitch_1 : decode cX6_ofSwitch 1 = .ok (.getfield 14, 3) := by decide +kernel
theorem dX6_ofSwitch_4 : decode cX6_ofSwitch 4 = .ok (.iload_n 1, 1) := by decide +kernel
theorem dX6_ofSwitch_5 : decode cX6_ofSwitch 5 = .ok (.invokevirtual 113, 3) := by decide +kernel
theorem dX6_ofSwitch_8 : decode cX6_ofSwitch 8 = .ok (.ifCond .ne 5, 3) := by decide +kernel
theorem dX6_ofSwitch_11 : decode cX6_ofSwitch 11 = .ok (.iconst (-1), 1) := by decide +kernel
theorem dX6_ofSwitch_12 : decode cX6_ofSwitch 12 = .ok (.ireturn, 1) := by decide +kernel
theorem dX6_ofSwitch_13 : decode cX6_ofSwitch 13 = .ok (.iload_n 2, 1) := by decide +kernel
theorem dX6_ofSwitch_14 : decode cX6_ofSwitch 14 = .ok (.tableswitch 83 0 4 #[34, 44, 54, 63, 73], 34) := by decide +kernel
theorem dX6_ofSwitch_48 : decode cX6_ofSwitch 48 = .ok (.aload_n 0, 1) := by decide +kernel
theorem dX6_ofSwitch_49 : decode cX6_ofSwitch 49 = .ok (.getfield 14, 3) := by decide +kernel
theorem dX6_ofSwitch_52 : decode cX6_ofSwitch 52 = .ok (.getfield 116, 3) := by decide +kernel
theorem dX6_ofSwitch_55 : decode cX6_ofSwitch 55 = .ok (.iload_n 1, 1) := by decide +kernel
theorem dX6_ofSwitch_56 : decode cX6_ofSwitch 56 = .ok (.iaload, 1) := by decide +kernel
theorem dX6_ofSwitch_57 : decode cX6_ofSwitch 57 = .ok (.ireturn, 1) := by decide +kernel
theorem dX6_ofSwitch_58 : decode cX6_ofSwitch 58 = .ok (.aload_n 0, 1) := by decide +kernel
theorem dX6_ofSwitch_59 : decode cX6_ofSwitch 59 = .ok (.getfield 14, 3) := by decide +kernel
theorem dX6_ofSwitch_62 : decode cX6_ofSwitch 62 = .ok (.getfield 119, 3) := by decide +kernel
theorem dX6_ofSwitch_65 : decode cX6_ofSwitch 65 = .ok (.iload_n 1, 1) := by decide +kernel
theorem dX6_ofSwitch_66 : decode cX6_ofSwitch 66 = .ok (.iaload, 1) := by decide +kernel
theorem dX6_ofSwitch_67 : decode cX6_ofSwitch 67 = .ok (.ireturn, 1) := by decide +kernel
theorem dX6_ofSwitch_68 : decode cX6_ofSwitch 68 = .ok (.aload_n 0, 1) := by decide +kernel
theorem dX6_ofSwitch_69 : decode cX6_ofSwitch 69 = .ok (.getfield 14, 3) := by decide +kernel
theorem dX6_ofSwitch_72 : decode cX6_ofSwitch 72 = .ok (.iload_n 1, 1) := by decide +kernel
theorem dX6_ofSwitch_73 : decode cX6_ofSwitch 73 = .ok (.invokevirtual 122, 3) := by decide +kernel
theorem dX6_ofSwitch_76 : decode cX6_ofSwitch 76 = .ok (.ireturn, 1) := by decide +kernel
theorem dX6_ofSwitch_77 : decode cX6_ofSwitch 77 = .ok (.aload_n 0, 1) := by decide +kernel
theorem dX6_ofSwitch_78 : decode cX6_ofSwitch 78 = .ok (.getfield 14, 3) := by decide +kernel
theorem dX6_ofSwitch_81 : decode cX6_ofSwitch 81 = .ok (.getfield 125, 3) := by decide +kernel
theorem dX6_ofSwitch_84 : decode cX6_ofSwitch 84 = .ok (.iload_n 1, 1) := by decide +kernel
theorem dX6_ofSwitch_85 : decode cX6_ofSwitch 85 = .ok (.iaload, 1) := by decide +kernel
theorem dX6_ofSwitch_86 : decode cX6_ofSwitch 86 = .ok (.ireturn, 1) := by decide +kernel
theorem dX6_ofSwitch_87 : decode cX6_ofSwitch 87 = .ok (.aload_n 0, 1) := by decide +kernel
theorem dX6_ofSwitch_88 : decode cX6_ofSwitch 88 = .ok (.getfield 14, 3) := by decide +kernel
theorem dX6_ofSwitch_91 : decode cX6_ofSwitch 91 = .ok (.getfield 128, 3) := by decide +kernel
theorem dX6_ofSwitch_94 : decode cX6_ofSwitch 94 = .ok (.iload_n 1, 1) := by decide +kernel
theorem dX6_ofSwitch_95 : decode cX6_ofSwitch 95 = .ok (.iaload, 1) := by decide +kernel
theorem dX6_ofSwitch_96 : decode cX6_ofSwitch 96 = .ok (.ireturn, 1) := by decide +kernel
theorem dX6_ofSwitch_97 : decode cX6_ofSwitch 97 = .ok (.bipush (-2), 2) := by decide +kernel
theorem dX6_ofSwitch_99 : decode cX6_ofSwitch 99 = .ok (.ireturn, 1) := by decide +kernel
theorem dX6_shade_0 : decode cX6_shade 0 = .ok (.aload_n 0, 1) := by decide +kernel
theorem dX6_shade_1 : decode cX6_shade 1 = .ok (.getfield 14, 3) := by decide +kernel
theorem dX6_shade_4 : decode cX6_shade 4 = .ok (.iload_n 1, 1) := by decide +kernel
theorem dX6_shade_5 : decode cX6_shade 5 = .ok (.invokevirtual 101, 3) := by decide +kernel
theorem dX6_shade_8 : decode cX6_shade 8 = .ok (.ifCond .ne 5, 3) := by decide +kernel
theorem dX6_shade_11 : decode cX6_shade 11 = .ok (.iconst (-1), 1) := by decide +kernel
theorem dX6_shade_12 : decode cX6_shade 12 = .ok (.ireturn, 1) := by decide +kernel
theorem dX6_shade_13 : decode cX6_shade 13 = .ok (.aload_n 0, 1) := by decide +kernel
theorem dX6_shade_14 : decode cX6_shade 14 = .ok (.getfield 14, 3) := by decide +kernel
theorem dX6_shade_17 : decode cX6_shade 17 = .ok (.iload_n 1, 1) := by decide +kernel
theorem dX6_shade_18 : decode cX6_shade 18 = .ok (.iload_n 2, 1) := by decide +kernel
theorem dX6_shade_19 : decode cX6_shade 19 = .ok (.invokevirtual 131, 3) := by decide +kernel
theorem dX6_shade_22 : decode cX6_shade 22 = .ok (.ifCond .ne 6, 3) := by decide +kernel
theorem dX6_shade_25 : decode cX6_shade 25 = .ok (.bipush (-2), 2) := by decide +kernel
theorem dX6_shade_27 : decode cX6_shade 27 = .ok (.ireturn, 1) := by decide +kernel
theorem dX6_shade_28 : decode cX6_shade 28 = .ok (.aload_n 0, 1) := by decide +kernel
theorem dX6_shade_29 : decode cX6_shade 29 = .ok (.getfield 14, 3) := by decide +kernel
theorem dX6_shade_32 : decode cX6_shade 32 = .ok (.getfield 107, 3) := by decide +kernel
theorem dX6_shade_35 : decode cX6_shade 35 = .ok (.iload_n 1, 1) := by decide +kernel
theorem dX6_shade_36 : decode cX6_shade 36 = .ok (.iaload, 1) := by decide +kernel
theorem dX6_shade_37 : decode cX6_shade 37 = .ok (.istore_n 3, 1) := by decide +kernel
theorem dX6_shade_38 : decode cX6_shade 38 = .ok (.aload_n 0, 1) := by decide +kernel
theorem dX6_shade_39 : decode cX6_shade 39 = .ok (.getfield 14, 3) := by decide +kernel
theorem dX6_shade_42 : decode cX6_shade 42 = .ok (.getfield 107, 3) := by decide +kernel
theorem dX6_shade_45 : decode cX6_shade 45 = .ok (.iload_n 1, 1) := by decide +kernel
theorem dX6_shade_46 : decode cX6_shade 46 = .ok (.iload_n 2, 1) := by decide +kernel
theorem dX6_shade_47 : decode cX6_shade 47 = .ok (.iastore, 1) := by decide +kernel
theorem dX6_shade_48 : decode cX6_shade 48 = .ok (.iload_n 3, 1) := by decide +kernel
theorem dX6_shade_49 : decode cX6_shade 49 = .ok (.ireturn, 1) := by decide +kernel
theorem dX6_turn_0 : decode cX6_turn 0 = .ok (.aload_n 0, 1) := by decide +kernel
theorem dX6_turn_1 : decode cX6_turn 1 = .ok (.getfield 14, 3) := by decide +kernel
theorem dX6_turn_4 : decode cX6_turn 4 = .ok (.iload_n 1, 1) := by decide +kernel
theorem dX6_turn_5 : decode cX6_turn 5 = .ok (.invokevirtual 113, 3) := by decide +kernel
theorem dX6_turn_8 : decode cX6_turn 8 = .ok (.ifCond .ne 5, 3) := by decide +kernel
theorem dX6_turn_11 : decode cX6_turn 11 = .ok (.iconst (-1), 1) := by decide +kernel
theorem dX6_turn_12 : decode cX6_turn 12 = .ok (.ireturn, 1) := by decide +kernel
theorem dX6_turn_13 : decode cX6_turn 13 = .ok (.iload_n 2, 1) := by decide +kernel
theorem dX6_turn_14 : decode cX6_turn 14 = .ok (.iconst 1, 1) := by decide +kernel
theorem dX6_turn_15 : decode cX6_turn 15 = .ok (.iconst 4, 1) := by decide +kernel
theorem dX6_turn_16 : decode cX6_turn 16 = .ok (.invokestatic 134, 3) := by decide +kernel
theorem dX6_turn_19 : decode cX6_turn 19 = .ok (.ifCond .ne 6, 3) := by decide +kernel
theorem dX6_turn_22 : decode cX6_turn 22 = .ok (.bipush (-2), 2) := by decide +kernel
theorem dX6_turn_24 : decode cX6_turn 24 = .ok (.ireturn, 1) := by decide +kernel
end
section
theorem dX6_turn_25 : decode cX6_turn 25 = .ok (.aload_n 0, 1) := by decide +kernel
theorem dX6_turn_26 : decode cX6_turn 26 = .ok (.getfield 14, 3) := by decide +kernel
theorem dX6_turn_29 : decode cX6_turn 29 = .ok (.getfield 119, 3) := by decide +kernel
theorem dX6_turn_32 : decode cX6_turn 32 = .ok (.iload_n 1, 1) := by decide +kernel
theorem dX6_turn_33 : decode cX6_turn 33 = .ok (.iaload, 1) := by decide +kernel
theorem dX6_turn_34 : decode cX6_turn 34 = .ok (.istore_n 3, 1) := by decide +kernel
theorem dX6_turn_35 : decode cX6_turn 35 = .ok (.aload_n 0, 1) := by decide +kernel
theorem dX6_turn_36 : decode cX6_turn 36 = .ok (.getfield 14, 3) := by decide +kernel
theorem dX6_turn_39 : decode cX6_turn 39 = .ok (.getfield 119, 3) := by decide +kernel
theorem dX6_turn_42 : decode cX6_turn 42 = .ok (.iload_n 1, 1) := by decide +kernel
theorem dX6_turn_43 : decode cX6_turn 43 = .ok (.iload_n 2, 1) := by decide +kernel
theorem dX6_turn_44 : decode cX6_turn 44 = .ok (.iastore, 1) := by decide +kernel
theorem dX6_turn_45 : decode cX6_turn 45 = .ok (.aload_n 0, 1) := by decide +kernel
theorem dX6_turn_46 : decode cX6_turn 46 = .ok (.getfield 28, 3) := by decide +kernel
theorem dX6_turn_49 : decode cX6_turn 49 = .ok (.invokevirtual 95, 3) := by decide +kernel
theorem dX6_turn_52 : decode cX6_turn 52 = .ok (.iload_n 3, 1) := by decide +kernel
theorem dX6_turn_53 : decode cX6_turn 53 = .ok (.ireturn, 1) := by decide +kernel
theorem dX6_wire_0 : decode cX6_wire 0 = .ok (.aload_n 0, 1) := by decide +kernel
theorem dX6_wire_1 : decode cX6_wire 1 = .ok (.getfield 14, 3) := by decide +kernel
theorem dX6_wire_4 : decode cX6_wire 4 = .ok (.iload_n 1, 1) := by decide +kernel
theorem dX6_wire_5 : decode cX6_wire 5 = .ok (.invokevirtual 113, 3) := by decide +kernel
theorem dX6_wire_8 : decode cX6_wire 8 = .ok (.ifCond .eq 14, 3) := by decide +kernel
theorem dX6_wire_11 : decode cX6_wire 11 = .ok (.aload_n 0, 1) := by decide +kernel
theorem dX6_wire_12 : decode cX6_wire 12 = .ok (.getfield 14, 3) := by decide +kernel
theorem dX6_wire_15 : decode cX6_wire 15 = .ok (.iload_n 2, 1) := by decide +kernel
theorem dX6_wire_16 : decode cX6_wire 16 = .ok (.invokevirtual 101, 3) := by decide +kernel
theorem dX6_wire_19 : decode cX6_wire 19 = .ok (.ifCond .ne 5, 3) := by decide +kernel
theorem dX6_wire_22 : decode cX6_wire 22 = .ok (.iconst (-1), 1) := by decide +kernel
theorem dX6_wire_23 : decode cX6_wire 23 = .ok (.ireturn, 1) := by decide +kernel
theorem dX6_wire_24 : decode cX6_wire 24 = .ok (.aload_n 0, 1) := by decide +kernel
theorem dX6_wire_25 : decode cX6_wire 25 = .ok (.getfield 14, 3) := by decide +kernel
theorem dX6_wire_28 : decode cX6_wire 28 = .ok (.getfield 125, 3) := by decide +kernel
theorem dX6_wire_31 : decode cX6_wire 31 = .ok (.iload_n 1, 1) := by decide +kernel
theorem dX6_wire_32 : decode cX6_wire 32 = .ok (.dup2, 1) := by decide +kernel
theorem dX6_wire_33 : decode cX6_wire 33 = .ok (.iaload, 1) := by decide +kernel
theorem dX6_wire_34 : decode cX6_wire 34 = .ok (.iconst 1, 1) := by decide +kernel
theorem dX6_wire_35 : decode cX6_wire 35 = .ok (.iload_n 2, 1) := by decide +kernel
theorem dX6_wire_36 : decode cX6_wire 36 = .ok (.ishl, 1) := by decide +kernel
theorem dX6_wire_37 : decode cX6_wire 37 = .ok (.ixor, 1) := by decide +kernel
theorem dX6_wire_38 : decode cX6_wire 38 = .ok (.iastore, 1) := by decide +kernel
theorem dX6_wire_39 : decode cX6_wire 39 = .ok (.aload_n 0, 1) := by decide +kernel
theorem dX6_wire_40 : decode cX6_wire 40 = .ok (.getfield 28, 3) := by decide +kernel
theorem dX6_wire_43 : decode cX6_wire 43 = .ok (.invokevirtual 95, 3) := by decide +kernel
theorem dX6_wire_46 : decode cX6_wire 46 = .ok (.aload_n 0, 1) := by decide +kernel
theorem dX6_wire_47 : decode cX6_wire 47 = .ok (.getfield 14, 3) := by decide +kernel
theorem dX6_wire_50 : decode cX6_wire 50 = .ok (.iload_n 1, 1) := by decide +kernel
theorem dX6_wire_51 : decode cX6_wire 51 = .ok (.iload_n 2, 1) := by decide +kernel
theorem dX6_wire_52 : decode cX6_wire 52 = .ok (.invokevirtual 138, 3) := by decide +kernel
theorem dX6_wire_55 : decode cX6_wire 55 = .ok (.ifCond .eq 7, 3) := by decide +kernel
theorem dX6_wire_58 : decode cX6_wire 58 = .ok (.iconst 1, 1) := by decide +kernel
theorem dX6_wire_59 : decode cX6_wire 59 = .ok (.goto 4, 3) := by decide +kernel
theorem dX6_wire_62 : decode cX6_wire 62 = .ok (.iconst 0, 1) := by decide +kernel
theorem dX6_wire_63 : decode cX6_wire 63 = .ok (.ireturn, 1) := by decide +kernel
theorem dX6_press_0 : decode cX6_press 0 = .ok (.aload_n 0, 1) := by decide +kernel
theorem dX6_press_1 : decode cX6_press 1 = .ok (.getfield 14, 3) := by decide +kernel
theorem dX6_press_4 : decode cX6_press 4 = .ok (.iload_n 1, 1) := by decide +kernel
theorem dX6_press_5 : decode cX6_press 5 = .ok (.invokevirtual 113, 3) := by decide +kernel
theorem dX6_press_8 : decode cX6_press 8 = .ok (.ifCond .ne 5, 3) := by decide +kernel
theorem dX6_press_11 : decode cX6_press 11 = .ok (.iconst (-1), 1) := by decide +kernel
theorem dX6_press_12 : decode cX6_press 12 = .ok (.ireturn, 1) := by decide +kernel
theorem dX6_press_13 : decode cX6_press 13 = .ok (.iload_n 2, 1) := by decide +kernel
theorem dX6_press_14 : decode cX6_press 14 = .ok (.iconst 1, 1) := by decide +kernel
theorem dX6_press_15 : decode cX6_press 15 = .ok (.bipush 99, 2) := by decide +kernel
theorem dX6_press_17 : decode cX6_press 17 = .ok (.invokestatic 134, 3) := by decide +kernel
theorem dX6_press_20 : decode cX6_press 20 = .ok (.ifCond .ne 6, 3) := by decide +kernel
theorem dX6_press_23 : decode cX6_press 23 = .ok (.bipush (-2), 2) := by decide +kernel
theorem dX6_press_25 : decode cX6_press 25 = .ok (.ireturn, 1) := by decide +kernel
theorem dX6_press_26 : decode cX6_press 26 = .ok (.aload_n 0, 1) := by decide +kernel
theorem dX6_press_27 : decode cX6_press 27 = .ok (.getfield 14, 3) := by decide +kernel
theorem dX6_press_30 : decode cX6_press 30 = .ok (.aload_n 0, 1) := by decide +kernel
theorem dX6_press_31 : decode cX6_press 31 = .ok (.getfield 14, 3) := by decide +kernel
theorem dX6_press_34 : decode cX6_press 34 = .ok (.getfield 107, 3) := by decide +kernel
theorem dX6_press_37 : decode cX6_press 37 = .ok (.iload_n 1, 1) := by decide +kernel
theorem dX6_press_38 : decode cX6_press 38 = .ok (.iload_n 2, 1) := by decide +kernel
theorem dX6_press_39 : decode cX6_press 39 = .ok (.invokevirtual 141, 3) := by decide +kernel
theorem dX6_press_42 : decode cX6_press 42 = .ok (.aload_n 0, 1) := by decide +kernel
theorem dX6_press_43 : decode cX6_press 43 = .ok (.getfield 14, 3) := by decide +kernel
theorem dX6_press_46 : decode cX6_press 46 = .ok (.getfield 128, 3) := by decide +kernel
theorem dX6_press_49 : decode cX6_press 49 = .ok (.iload_n 1, 1) := by decide +kernel
theorem dX6_press_50 : decode cX6_press 50 = .ok (.dup2, 1) := by decide +kernel
theorem dX6_press_51 : decode cX6_press 51 = .ok (.iaload, 1) := by decide +kernel
theorem dX6_press_52 : decode cX6_press 52 = .ok (.iload_n 2, 1) := by decide +kernel
theorem dX6_press_53 : decode cX6_press 53 = .ok (.iadd, 1) := by decide +kernel
theorem dX6_press_54 : decode cX6_press 54 = .ok (.iastore, 1) := by decide +kernel
theorem dX6_press_55 : decode cX6_press 55 = .ok (.aload_n 0, 1) := by decide +kernel
theorem dX6_press_56 : decode cX6_press 56 = .ok (.getfield 14, 3) := by decide +kernel
theorem dX6_press_59 : decode cX6_press 59 = .ok (.aload_n 0, 1) := by decide +kernel
theorem dX6_press_60 : decode cX6_press 60 = .ok (.getfield 14, 3) := by decide +kernel
theorem dX6_press_63 : decode cX6_press 63 = .ok (.getfield 107, 3) := by decide +kernel
theorem dX6_press_66 : decode cX6_press 66 = .ok (.invokevirtual 145, 3) := by decide +kernel
theorem dX6_press_69 : decode cX6_press 69 = .ok (.ireturn, 1) := by decide +kernel
theorem dX6_day_0 : decode cX6_day 0 = .ok (.aload_n 0, 1) := by decide +kernel
theorem dX6_day_1 : decode cX6_day 1 = .ok (.iconst 0, 1) := by decide +kernel
theorem dX6_day_2 : decode cX6_day 2 = .ok (.putfield 57, 3) := by decide +kernel
theorem dX6_day_5 : decode cX6_day 5 = .ok (.aload_n 0, 1) := by decide +kernel
theorem dX6_day_6 : decode cX6_day 6 = .ok (.iload_n 1, 1) := by decide +kernel
theorem dX6_day_7 : decode cX6_day 7 = .ok (.invokevirtual 61, 3) := by decide +kernel
theorem dX6_day_10 : decode cX6_day 10 = .ok (.astore 6, 2) := by decide +kernel
theorem dX6_day_12 : decode cX6_day 12 = .ok (.aload 6, 2) := by decide +kernel
theorem dX6_day_14 : decode cX6_day 14 = .ok (.ifnonnull 5, 3) := by decide +kernel
theorem dX6_day_17 : decode cX6_day 17 = .ok (.iconst (-1), 1) := by decide +kernel
theorem dX6_day_18 : decode cX6_day 18 = .ok (.ireturn, 1) := by decide +kernel
theorem dX6_day_19 : decode cX6_day 19 = .ok (.iload_n 2, 1) := by decide +kernel
theorem dX6_day_20 : decode cX6_day 20 = .ok (.invokestatic 65, 3) := by decide +kernel
theorem dX6_day_23 : decode cX6_day 23 = .ok (.ifCond .eq 22, 3) := by decide +kernel
theorem dX6_day_26 : decode cX6_day 26 = .ok (.iload 4, 2) := by decide +kernel
theorem dX6_day_28 : decode cX6_day 28 = .ok (.iconst 0, 1) := by decide +kernel
theorem dX6_day_29 : decode cX6_day 29 = .ok (.bipush 20, 2) := by decide +kernel
theorem dX6_day_31 : decode cX6_day 31 = .ok (.invokestatic 134, 3) := by decide +kernel
theorem dX6_day_34 : decode cX6_day 34 = .ok (.ifCond .eq 11, 3) := by decide +kernel
theorem dX6_day_37 : decode cX6_day 37 = .ok (.iload 5, 2) := by decide +kernel
theorem dX6_day_39 : decode cX6_day 39 = .ok (.invokestatic 149, 3) := by decide +kernel
theorem dX6_day_42 : decode cX6_day 42 = .ok (.ifCond .ne 6, 3) := by decide +kernel
theorem dX6_day_45 : decode cX6_day 45 = .ok (.bipush (-2), 2) := by decide +kernel
theorem dX6_day_47 : decode cX6_day 47 = .ok (.ireturn, 1) := by decide +kernel
theorem dX6_day_48 : decode cX6_day 48 = .ok (.aload 6, 2) := by decide +kernel
theorem dX6_day_50 : decode cX6_day 50 = .ok (.iload_n 2, 1) := by decide +kernel
theorem dX6_day_51 : decode cX6_day 51 = .ok (.iload_n 3, 1) := by decide +kernel
theorem dX6_day_52 : decode cX6_day 52 = .ok (.iconst 2, 1) := by decide +kernel
theorem dX6_day_53 : decode cX6_day 53 = .ok (.iload 4, 2) := by decide +kernel
theorem dX6_day_55 : decode cX6_day 55 = .ok (.imul, 1) := by decide +kernel
theorem dX6_day_56 : decode cX6_day 56 = .ok (.invokevirtual 152, 3) := by decide +kernel
theorem dX6_day_59 : decode cX6_day 59 = .ok (.istore 7, 2) := by decide +kernel
theorem dX6_day_61 : decode cX6_day 61 = .ok (.iload 7, 2) := by decide +kernel
theorem dX6_day_63 : decode cX6_day 63 = .ok (.ifCond .eq 10, 3) := by decide +kernel
theorem dX6_day_66 : decode cX6_day 66 = .ok (.aload_n 0, 1) := by decide +kernel
theorem dX6_day_67 : decode cX6_day 67 = .ok (.iload 7, 2) := by decide +kernel
theorem dX6_day_69 : decode cX6_day 69 = .ok (.invokevirtual 77, 3) := by decide +kernel
theorem dX6_day_72 : decode cX6_day 72 = .ok (.ireturn, 1) := by decide +kernel
theorem dX6_day_73 : decode cX6_day 73 = .ok (.aload_n 0, 1) := by decide +kernel
theorem dX6_day_74 : decode cX6_day 74 = .ok (.getfield 14, 3) := by decide +kernel
theorem dX6_day_77 : decode cX6_day 77 = .ok (.invokevirtual 156, 3) := by decide +kernel
theorem dX6_day_80 : decode cX6_day 80 = .ok (.ifCond .eq 6, 3) := by decide +kernel
theorem dX6_day_83 : decode cX6_day 83 = .ok (.bipush (-3), 2) := by decide +kernel
theorem dX6_day_85 : decode cX6_day 85 = .ok (.ireturn, 1) := by decide +kernel
theorem dX6_day_86 : decode cX6_day 86 = .ok (.aload_n 0, 1) := by decide +kernel
theorem dX6_day_87 : decode cX6_day 87 = .ok (.aload 6, 2) := by decide +kernel
theorem dX6_day_89 : decode cX6_day 89 = .ok (.iload_n 3, 1) := by decide +kernel
theorem dX6_day_90 : decode cX6_day 90 = .ok (.iload 4, 2) := by decide +kernel
theorem dX6_day_92 : decode cX6_day 92 = .ok (.invokevirtual 160, 3) := by decide +kernel
theorem dX6_day_95 : decode cX6_day 95 = .ok (.istore 8, 2) := by decide +kernel
theorem dX6_day_97 : decode cX6_day 97 = .ok (.iload 8, 2) := by decide +kernel
theorem dX6_day_99 : decode cX6_day 99 = .ok (.ifCond .eq 6, 3) := by decide +kernel
theorem dX6_day_102 : decode cX6_day 102 = .ok (.iload 8, 2) := by decide +kernel
theorem dX6_day_104 : decode cX6_day 104 = .ok (.ireturn, 1) := by decide +kernel
theorem dX6_day_105 : decode cX6_day 105 = .ok (.aload_n 0, 1) := by decide +kernel
theorem dX6_day_106 : decode cX6_day 106 = .ok (.getfield 42, 3) := by decide +kernel
theorem dX6_day_109 : decode cX6_day 109 = .ok (.aload_n 0, 1) := by decide +kernel
theorem dX6_day_110 : decode cX6_day 110 = .ok (.getfield 14, 3) := by decide +kernel
theorem dX6_day_113 : decode cX6_day 113 = .ok (.aload 6, 2) := by decide +kernel
theorem dX6_day_115 : decode cX6_day 115 = .ok (.iload_n 3, 1) := by decide +kernel
theorem dX6_day_116 : decode cX6_day 116 = .ok (.iload 4, 2) := by decide +kernel
theorem dX6_day_118 : decode cX6_day 118 = .ok (.invokevirtual 164, 3) := by decide +kernel
theorem dX6_day_121 : decode cX6_day 121 = .ok (.aload_n 0, 1) := by decide +kernel
theorem dX6_day_122 : decode cX6_day 122 = .ok (.iload 5, 2) := by decide +kernel
theorem dX6_day_124 : decode cX6_day 124 = .ok (.invokevirtual 168, 3) := by decide +kernel
theorem dX6_day_127 : decode cX6_day 127 = .ok (.ireturn, 1) := by decide +kernel
theorem dX6_isAskedOfDay_0 : decode cX6_isAskedOfDay 0 = .ok (.iload_n 0, 1) := by decide +kernel
theorem dX6_isAskedOfDay_1 : decode cX6_isAskedOfDay 1 = .ok (.iconst 0, 1) := by decide +kernel
theorem dX6_isAskedOfDay_2 : decode cX6_isAskedOfDay 2 = .ok (.iconst 4, 1) := by decide +kernel
theorem dX6_isAskedOfDay_3 : decode cX6_isAskedOfDay 3 = .ok (.invokestatic 134, 3) := by decide +kernel
theorem dX6_isAskedOfDay_6 : decode cX6_isAskedOfDay 6 = .ok (.ifCond .ne 14, 3) := by decide +kernel
theorem dX6_isAskedOfDay_9 : decode cX6_isAskedOfDay 9 = .ok (.iload_n 0, 1) := by decide +kernel
theorem dX6_isAskedOfDay_10 : decode cX6_isAskedOfDay 10 = .ok (.bipush 10, 2) := by decide +kernel
theorem dX6_isAskedOfDay_12 : decode cX6_isAskedOfDay 12 = .ok (.bipush 14, 2) := by decide +kernel
theorem dX6_isAskedOfDay_14 : decode cX6_isAskedOfDay 14 = .ok (.invokestatic 134, 3) := by decide +kernel
theorem dX6_isAskedOfDay_17 : decode cX6_isAskedOfDay 17 = .ok (.ifCond .eq 7, 3) := by decide +kernel
theorem dX6_isAskedOfDay_20 : decode cX6_isAskedOfDay 20 = .ok (.iconst 1, 1) := by decide +kernel
theorem dX6_isAskedOfDay_21 : decode cX6_isAskedOfDay 21 = .ok (.goto 4, 3) := by decide +kernel
theorem dX6_isAskedOfDay_24 : decode cX6_isAskedOfDay 24 = .ok (.iconst 0, 1) := by decide +kernel
theorem dX6_isAskedOfDay_25 : decode cX6_isAskedOfDay 25 = .ok (.ireturn, 1) := by decide +kernel
theorem dX6_refusalOfPairs_0 : decode cX6_refusalOfPairs 0 = .ok (.iconst 0, 1) := by decide +kernel
theorem dX6_refusalOfPairs_1 : decode cX6_refusalOfPairs 1 = .ok (.istore 4, 2) := by decide +kernel
theorem dX6_refusalOfPairs_3 : decode cX6_refusalOfPairs 3 = .ok (.iload 4, 2) := by decide +kernel
theorem dX6_refusalOfPairs_5 : decode cX6_refusalOfPairs 5 = .ok (.iload_n 3, 1) := by decide +kernel
theorem dX6_refusalOfPairs_6 : decode cX6_refusalOfPairs 6 = .ok (.if_icmp .ge 45, 3) := by decide +kernel
theorem dX6_refusalOfPairs_9 : decode cX6_refusalOfPairs 9 = .ok (.aload_n 0, 1) := by decide +kernel
theorem dX6_refusalOfPairs_10 : decode cX6_refusalOfPairs 10 = .ok (.aload_n 1, 1) := by decide +kernel
theorem dX6_refusalOfPairs_11 : decode cX6_refusalOfPairs 11 = .ok (.iload_n 2, 1) := by decide +kernel
theorem dX6_refusalOfPairs_12 : decode cX6_refusalOfPairs 12 = .ok (.iconst 2, 1) := by decide +kernel
theorem dX6_refusalOfPairs_13 : decode cX6_refusalOfPairs 13 = .ok (.iload 4, 2) := by decide +kernel
theorem dX6_refusalOfPairs_15 : decode cX6_refusalOfPairs 15 = .ok (.imul, 1) := by decide +kernel
theorem dX6_refusalOfPairs_16 : decode cX6_refusalOfPairs 16 = .ok (.iadd, 1) := by decide +kernel
theorem dX6_refusalOfPairs_17 : decode cX6_refusalOfPairs 17 = .ok (.invokevirtual 171, 3) := by decide +kernel
theorem dX6_refusalOfPairs_20 : decode cX6_refusalOfPairs 20 = .ok (.aload_n 1, 1) := by decide +kernel
theorem dX6_refusalOfPairs_21 : decode cX6_refusalOfPairs 21 = .ok (.iload_n 2, 1) := by decide +kernel
theorem dX6_refusalOfPairs_22 : decode cX6_refusalOfPairs 22 = .ok (.iconst 2, 1) := by decide +kernel
theorem dX6_refusalOfPairs_23 : decode cX6_refusalOfPairs 23 = .ok (.iload 4, 2) := by decide +kernel
theorem dX6_refusalOfPairs_25 : decode cX6_refusalOfPairs 25 = .ok (.imul, 1) := by decide +kernel
theorem dX6_refusalOfPairs_26 : decode cX6_refusalOfPairs 26 = .ok (.iadd, 1) := by decide +kernel
theorem dX6_refusalOfPairs_27 : decode cX6_refusalOfPairs 27 = .ok (.iconst 1, 1) := by decide +kernel
theorem dX6_refusalOfPairs_28 : decode cX6_refusalOfPairs 28 = .ok (.iadd, 1) := by decide +kernel
theorem dX6_refusalOfPairs_29 : decode cX6_refusalOfPairs 29 = .ok (.invokevirtual 171, 3) := by decide +kernel
theorem dX6_refusalOfPairs_32 : decode cX6_refusalOfPairs 32 = .ok (.invokevirtual 174, 3) := by decide +kernel
theorem dX6_refusalOfPairs_35 : decode cX6_refusalOfPairs 35 = .ok (.istore 5, 2) := by decide +kernel
theorem dX6_refusalOfPairs_37 : decode cX6_refusalOfPairs 37 = .ok (.iload 5, 2) := by decide +kernel
theorem dX6_refusalOfPairs_39 : decode cX6_refusalOfPairs 39 = .ok (.ifCond .eq 6, 3) := by decide +kernel
theorem dX6_refusalOfPairs_42 : decode cX6_refusalOfPairs 42 = .ok (.iload 5, 2) := by decide +kernel
theorem dX6_refusalOfPairs_44 : decode cX6_refusalOfPairs 44 = .ok (.ireturn, 1) := by decide +kernel
theorem dX6_refusalOfPairs_45 : decode cX6_refusalOfPairs 45 = .ok (.iinc 4 1, 3) := by decide +kernel
theorem dX6_refusalOfPairs_48 : decode cX6_refusalOfPairs 48 = .ok (.goto (-45), 3) := by decide +kernel
theorem dX6_refusalOfPairs_51 : decode cX6_refusalOfPairs 51 = .ok (.iconst 0, 1) := by decide +kernel
theorem dX6_refusalOfPairs_52 : decode cX6_refusalOfPairs 52 = .ok (.ireturn, 1) := by decide +kernel
theorem dX6_refusalOfPair_0 : decode cX6_refusalOfPair 0 = .ok (.iload_n 2, 1) := by decide +kernel
theorem dX6_refusalOfPair_1 : decode cX6_refusalOfPair 1 = .ok (.iconst 0, 1) := by decide +kernel
theorem dX6_refusalOfPair_2 : decode cX6_refusalOfPair 2 = .ok (.bipush 14, 2) := by decide +kernel
theorem dX6_refusalOfPair_4 : decode cX6_refusalOfPair 4 = .ok (.invokestatic 134, 3) := by decide +kernel
theorem dX6_refusalOfPair_7 : decode cX6_refusalOfPair 7 = .ok (.ifCond .ne 6, 3) := by decide +kernel
theorem dX6_refusalOfPair_10 : decode cX6_refusalOfPair 10 = .ok (.bipush (-2), 2) := by decide +kernel
theorem dX6_refusalOfPair_12 : decode cX6_refusalOfPair 12 = .ok (.ireturn, 1) := by decide +kernel
theorem dX6_refusalOfPair_13 : decode cX6_refusalOfPair 13 = .ok (.iload_n 2, 1) := by decide +kernel
theorem dX6_refusalOfPair_14 : decode cX6_refusalOfPair 14 = .ok (.bipush 10, 2) := by decide +kernel
theorem dX6_refusalOfPair_16 : decode cX6_refusalOfPair 16 = .ok (.if_icmp .lt 19, 3) := by decide +kernel
theorem dX6_refusalOfPair_19 : decode cX6_refusalOfPair 19 = .ok (.iload_n 1, 1) := by decide +kernel
theorem dX6_refusalOfPair_20 : decode cX6_refusalOfPair 20 = .ok (.iconst 0, 1) := by decide +kernel
theorem dX6_refusalOfPair_21 : decode cX6_refusalOfPair 21 = .ok (.iconst 4, 1) := by decide +kernel
theorem dX6_refusalOfPair_22 : decode cX6_refusalOfPair 22 = .ok (.invokestatic 134, 3) := by decide +kernel
theorem dX6_refusalOfPair_25 : decode cX6_refusalOfPair 25 = .ok (.ifCond .eq 7, 3) := by decide +kernel
theorem dX6_refusalOfPair_28 : decode cX6_refusalOfPair 28 = .ok (.iconst 0, 1) := by decide +kernel
theorem dX6_refusalOfPair_29 : decode cX6_refusalOfPair 29 = .ok (.goto 5, 3) := by decide +kernel
theorem dX6_refusalOfPair_32 : decode cX6_refusalOfPair 32 = .ok (.bipush (-2), 2) := by decide +kernel
theorem dX6_refusalOfPair_34 : decode cX6_refusalOfPair 34 = .ok (.ireturn, 1) := by decide +kernel
theorem dX6_refusalOfPair_35 : decode cX6_refusalOfPair 35 = .ok (.aload_n 0, 1) := by decide +kernel
theorem dX6_refusalOfPair_36 : decode cX6_refusalOfPair 36 = .ok (.getfield 14, 3) := by decide +kernel
theorem dX6_refusalOfPair_39 : decode cX6_refusalOfPair 39 = .ok (.iload_n 1, 1) := by decide +kernel
theorem dX6_refusalOfPair_40 : decode cX6_refusalOfPair 40 = .ok (.invokevirtual 113, 3) := by decide +kernel
theorem dX6_refusalOfPair_43 : decode cX6_refusalOfPair 43 = .ok (.ifCond .eq 7, 3) := by decide +kernel
theorem dX6_refusalOfPair_46 : decode cX6_refusalOfPair 46 = .ok (.iconst 0, 1) := by decide +kernel
theorem dX6_refusalOfPair_47 : decode cX6_refusalOfPair 47 = .ok (.goto 4, 3) := by decide +kernel
theorem dX6_refusalOfPair_50 : decode cX6_refusalOfPair 50 = .ok (.iconst (-1), 1) := by decide +kernel
theorem dX6_refusalOfPair_51 : decode cX6_refusalOfPair 51 = .ok (.ireturn, 1) := by decide +kernel
theorem dX6_ofDay_0 : decode cX6_ofDay 0 = .ok (.iload_n 1, 1) := by decide +kernel
theorem dX6_ofDay_1 : decode cX6_ofDay 1 = .ok (.iconst 1, 1) := by decide +kernel
theorem dX6_ofDay_2 : decode cX6_ofDay 2 = .ok (.if_icmp .ne 11, 3) := by decide +kernel
theorem dX6_ofDay_5 : decode cX6_ofDay 5 = .ok (.aload_n 0, 1) := by decide +kernel
theorem dX6_ofDay_6 : decode cX6_ofDay 6 = .ok (.getfield 42, 3) := by decide +kernel
theorem dX6_ofDay_9 : decode cX6_ofDay 9 = .ok (.getfield 178, 3) := by decide +kernel
theorem dX6_ofDay_12 : decode cX6_ofDay 12 = .ok (.ireturn, 1) := by decide +kernel
theorem dX6_ofDay_13 : decode cX6_ofDay 13 = .ok (.aload_n 0, 1) := by decide +kernel
theorem dX6_ofDay_14 : decode cX6_ofDay 14 = .ok (.getfield 42, 3) := by decide +kernel
theorem dX6_ofDay_17 : decode cX6_ofDay 17 = .ok (.getfield 178, 3) := by decide +kernel
theorem dX6_ofDay_20 : decode cX6_ofDay 20 = .ok (.bipush (-9), 2) := by decide +kernel
theorem dX6_ofDay_22 : decode cX6_ofDay 22 = .ok (.if_icmp .eq 14, 3) := by decide +kernel
theorem dX6_ofDay_25 : decode cX6_ofDay 25 = .ok (.bipush (-100), 2) := by decide +kernel
theorem dX6_ofDay_27 : decode cX6_ofDay 27 = .ok (.aload_n 0, 1) := by decide +kernel
theorem dX6_ofDay_28 : decode cX6_ofDay 28 = .ok (.getfield 42, 3) := by decide +kernel
theorem dX6_ofDay_31 : decode cX6_ofDay 31 = .ok (.getfield 178, 3) := by decide +kernel
theorem dX6_ofDay_34 : decode cX6_ofDay 34 = .ok (.isub, 1) := by decide +kernel
theorem dX6_ofDay_35 : decode cX6_ofDay 35 = .ok (.ireturn, 1) := by decide +kernel
theorem dX6_ofDay_36 : decode cX6_ofDay 36 = .ok (.iload_n 1, 1) := by decide +kernel
theorem dX6_ofDay_37 : decode cX6_ofDay 37 = .ok (.tableswitch 81 0 4 #[35, 81, 50, 65, 73], 35) := by decide +kernel
theorem dX6_ofDay_72 : decode cX6_ofDay 72 = .ok (.aload_n 0, 1) := by decide +kernel
theorem dX6_ofDay_73 : decode cX6_ofDay 73 = .ok (.getfield 14, 3) := by decide +kernel
theorem dX6_ofDay_76 : decode cX6_ofDay 76 = .ok (.aload_n 0, 1) := by decide +kernel
theorem dX6_ofDay_77 : decode cX6_ofDay 77 = .ok (.getfield 42, 3) := by decide +kernel
theorem dX6_ofDay_80 : decode cX6_ofDay 80 = .ok (.getfield 181, 3) := by decide +kernel
theorem dX6_ofDay_83 : decode cX6_ofDay 83 = .ok (.invokevirtual 145, 3) := by decide +kernel
theorem dX6_ofDay_86 : decode cX6_ofDay 86 = .ok (.ireturn, 1) := by decide +kernel
theorem dX6_ofDay_87 : decode cX6_ofDay 87 = .ok (.aload_n 0, 1) := by decide +kernel
theorem dX6_ofDay_88 : decode cX6_ofDay 88 = .ok (.getfield 14, 3) := by decide +kernel
theorem dX6_ofDay_91 : decode cX6_ofDay 91 = .ok (.aload_n 0, 1) := by decide +kernel
theorem dX6_ofDay_92 : decode cX6_ofDay 92 = .ok (.getfield 42, 3) := by decide +kernel
theorem dX6_ofDay_95 : decode cX6_ofDay 95 = .ok (.getfield 181, 3) := by decide +kernel
theorem dX6_ofDay_98 : decode cX6_ofDay 98 = .ok (.invokevirtual 184, 3) := by decide +kernel
theorem dX6_ofDay_101 : decode cX6_ofDay 101 = .ok (.ireturn, 1) := by decide +kernel
theorem dX6_ofDay_102 : decode cX6_ofDay 102 = .ok (.aload_n 0, 1) := by decide +kernel
theorem dX6_ofDay_103 : decode cX6_ofDay 103 = .ok (.getfield 42, 3) := by decide +kernel
theorem dX6_ofDay_106 : decode cX6_ofDay 106 = .ok (.getfield 187, 3) := by decide +kernel
theorem dX6_ofDay_109 : decode cX6_ofDay 109 = .ok (.ireturn, 1) := by decide +kernel
theorem dX6_ofDay_110 : decode cX6_ofDay 110 = .ok (.aload_n 0, 1) := by decide +kernel
theorem dX6_ofDay_111 : decode cX6_ofDay 111 = .ok (.getfield 42, 3) := by decide +kernel
theorem dX6_ofDay_114 : decode cX6_ofDay 114 = .ok (.getfield 190, 3) := by decide +kernel
theorem dX6_ofDay_117 : decode cX6_ofDay 117 = .ok (.ireturn, 1) := by decide +kernel
theorem dX6_ofDay_118 : decode cX6_ofDay 118 = .ok (.iload_n 1, 1) := by decide +kernel
theorem dX6_ofDay_119 : decode cX6_ofDay 119 = .ok (.bipush 10, 2) := by decide +kernel
theorem dX6_ofDay_121 : decode cX6_ofDay 121 = .ok (.isub, 1) := by decide +kernel
theorem dX6_ofDay_122 : decode cX6_ofDay 122 = .ok (.istore_n 2, 1) := by decide +kernel
theorem dX6_ofDay_123 : decode cX6_ofDay 123 = .ok (.aload_n 0, 1) := by decide +kernel
theorem dX6_ofDay_124 : decode cX6_ofDay 124 = .ok (.getfield 14, 3) := by decide +kernel
theorem dX6_ofDay_127 : decode cX6_ofDay 127 = .ok (.iload_n 2, 1) := by decide +kernel
theorem dX6_ofDay_128 : decode cX6_ofDay 128 = .ok (.invokevirtual 101, 3) := by decide +kernel
theorem dX6_ofDay_131 : decode cX6_ofDay 131 = .ok (.ifCond .eq 15, 3) := by decide +kernel
theorem dX6_ofDay_134 : decode cX6_ofDay 134 = .ok (.aload_n 0, 1) := by decide +kernel
theorem dX6_ofDay_135 : decode cX6_ofDay 135 = .ok (.getfield 42, 3) := by decide +kernel
theorem dX6_ofDay_138 : decode cX6_ofDay 138 = .ok (.getfield 181, 3) := by decide +kernel
theorem dX6_ofDay_141 : decode cX6_ofDay 141 = .ok (.iload_n 2, 1) := by decide +kernel
theorem dX6_ofDay_142 : decode cX6_ofDay 142 = .ok (.iaload, 1) := by decide +kernel
theorem dX6_ofDay_143 : decode cX6_ofDay 143 = .ok (.goto 5, 3) := by decide +kernel
theorem dX6_ofDay_146 : decode cX6_ofDay 146 = .ok (.bipush (-9), 2) := by decide +kernel
theorem dX6_ofDay_148 : decode cX6_ofDay 148 = .ok (.ireturn, 1) := by decide +kernel
theorem dX6_fewest_0 : decode cX6_fewest 0 = .ok (.aload_n 0, 1) := by decide +kernel
theorem dX6_fewest_1 : decode cX6_fewest 1 = .ok (.iconst 0, 1) := by decide +kernel
theorem dX6_fewest_2 : decode cX6_fewest 2 = .ok (.putfield 57, 3) := by decide +kernel
theorem dX6_fewest_5 : decode cX6_fewest 5 = .ok (.aload_n 0, 1) := by decide +kernel
theorem dX6_fewest_6 : decode cX6_fewest 6 = .ok (.getfield 14, 3) := by decide +kernel
theorem dX6_fewest_9 : decode cX6_fewest 9 = .ok (.invokevirtual 156, 3) := by decide +kernel
theorem dX6_fewest_12 : decode cX6_fewest 12 = .ok (.ifCond .eq 6, 3) := by decide +kernel
theorem dX6_fewest_15 : decode cX6_fewest 15 = .ok (.bipush (-3), 2) := by decide +kernel
theorem dX6_fewest_17 : decode cX6_fewest 17 = .ok (.ireturn, 1) := by decide +kernel
theorem dX6_fewest_18 : decode cX6_fewest 18 = .ok (.aload_n 0, 1) := by decide +kernel
theorem dX6_fewest_19 : decode cX6_fewest 19 = .ok (.iload_n 1, 1) := by decide +kernel
theorem dX6_fewest_20 : decode cX6_fewest 20 = .ok (.invokevirtual 61, 3) := by decide +kernel
theorem dX6_fewest_23 : decode cX6_fewest 23 = .ok (.astore 5, 2) := by decide +kernel
theorem dX6_fewest_25 : decode cX6_fewest 25 = .ok (.aload 5, 2) := by decide +kernel
theorem dX6_fewest_27 : decode cX6_fewest 27 = .ok (.ifnonnull 5, 3) := by decide +kernel
theorem dX6_fewest_30 : decode cX6_fewest 30 = .ok (.iconst (-1), 1) := by decide +kernel
theorem dX6_fewest_31 : decode cX6_fewest 31 = .ok (.ireturn, 1) := by decide +kernel
theorem dX6_fewest_32 : decode cX6_fewest 32 = .ok (.iload_n 2, 1) := by decide +kernel
theorem dX6_fewest_33 : decode cX6_fewest 33 = .ok (.invokestatic 65, 3) := by decide +kernel
theorem dX6_fewest_36 : decode cX6_fewest 36 = .ok (.ifCond .eq 14, 3) := by decide +kernel
theorem dX6_fewest_39 : decode cX6_fewest 39 = .ok (.iload 4, 2) := by decide +kernel
theorem dX6_fewest_41 : decode cX6_fewest 41 = .ok (.iconst (-1), 1) := by decide +kernel
theorem dX6_fewest_42 : decode cX6_fewest 42 = .ok (.bipush 99, 2) := by decide +kernel
theorem dX6_fewest_44 : decode cX6_fewest 44 = .ok (.invokestatic 134, 3) := by decide +kernel
theorem dX6_fewest_47 : decode cX6_fewest 47 = .ok (.ifCond .ne 6, 3) := by decide +kernel
theorem dX6_fewest_50 : decode cX6_fewest 50 = .ok (.bipush (-2), 2) := by decide +kernel
theorem dX6_fewest_52 : decode cX6_fewest 52 = .ok (.ireturn, 1) := by decide +kernel
theorem dX6_fewest_53 : decode cX6_fewest 53 = .ok (.aload 5, 2) := by decide +kernel
theorem dX6_fewest_55 : decode cX6_fewest 55 = .ok (.iload_n 2, 1) := by decide +kernel
theorem dX6_fewest_56 : decode cX6_fewest 56 = .ok (.iload_n 3, 1) := by decide +kernel
theorem dX6_fewest_57 : decode cX6_fewest 57 = .ok (.aload_n 0, 1) := by decide +kernel
theorem dX6_fewest_58 : decode cX6_fewest 58 = .ok (.getfield 14, 3) := by decide +kernel
theorem dX6_fewest_61 : decode cX6_fewest 61 = .ok (.getfield 193, 3) := by decide +kernel
theorem dX6_fewest_64 : decode cX6_fewest 64 = .ok (.invokevirtual 152, 3) := by decide +kernel
theorem dX6_fewest_67 : decode cX6_fewest 67 = .ok (.istore 6, 2) := by decide +kernel
theorem dX6_fewest_69 : decode cX6_fewest 69 = .ok (.iload 6, 2) := by decide +kernel
theorem dX6_fewest_71 : decode cX6_fewest 71 = .ok (.ifCond .eq 10, 3) := by decide +kernel
theorem dX6_fewest_74 : decode cX6_fewest 74 = .ok (.aload_n 0, 1) := by decide +kernel
theorem dX6_fewest_75 : decode cX6_fewest 75 = .ok (.iload 6, 2) := by decide +kernel
theorem dX6_fewest_77 : decode cX6_fewest 77 = .ok (.invokevirtual 77, 3) := by decide +kernel
theorem dX6_fewest_80 : decode cX6_fewest 80 = .ok (.ireturn, 1) := by decide +kernel
theorem dX6_fewest_81 : decode cX6_fewest 81 = .ok (.iconst 0, 1) := by decide +kernel
theorem dX6_fewest_82 : decode cX6_fewest 82 = .ok (.istore 7, 2) := by decide +kernel
theorem dX6_fewest_84 : decode cX6_fewest 84 = .ok (.iload 7, 2) := by decide +kernel
theorem dX6_fewest_86 : decode cX6_fewest 86 = .ok (.aload_n 0, 1) := by decide +kernel
theorem dX6_fewest_87 : decode cX6_fewest 87 = .ok (.getfield 14, 3) := by decide +kernel
theorem dX6_fewest_90 : decode cX6_fewest 90 = .ok (.getfield 193, 3) := by decide +kernel
theorem dX6_fewest_93 : decode cX6_fewest 93 = .ok (.if_icmp .ge 70, 3) := by decide +kernel
theorem dX6_fewest_96 : decode cX6_fewest 96 = .ok (.aload 5, 2) := by decide +kernel
theorem dX6_fewest_98 : decode cX6_fewest 98 = .ok (.iload_n 3, 1) := by decide +kernel
theorem dX6_fewest_99 : decode cX6_fewest 99 = .ok (.iload 7, 2) := by decide +kernel
theorem dX6_fewest_101 : decode cX6_fewest 101 = .ok (.iadd, 1) := by decide +kernel
theorem dX6_fewest_102 : decode cX6_fewest 102 = .ok (.invokevirtual 171, 3) := by decide +kernel
theorem dX6_fewest_105 : decode cX6_fewest 105 = .ok (.istore 8, 2) := by decide +kernel
theorem dX6_fewest_107 : decode cX6_fewest 107 = .ok (.aload_n 0, 1) := by decide +kernel
theorem dX6_fewest_108 : decode cX6_fewest 108 = .ok (.getfield 14, 3) := by decide +kernel
theorem dX6_fewest_111 : decode cX6_fewest 111 = .ok (.iload 7, 2) := by decide +kernel
theorem dX6_fewest_113 : decode cX6_fewest 113 = .ok (.iload 8, 2) := by decide +kernel
theorem dX6_fewest_115 : decode cX6_fewest 115 = .ok (.invokevirtual 131, 3) := by decide +kernel
theorem dX6_fewest_118 : decode cX6_fewest 118 = .ok (.ifCond .ne 6, 3) := by decide +kernel
theorem dX6_fewest_121 : decode cX6_fewest 121 = .ok (.bipush (-2), 2) := by decide +kernel
theorem dX6_fewest_123 : decode cX6_fewest 123 = .ok (.ireturn, 1) := by decide +kernel
theorem dX6_fewest_124 : decode cX6_fewest 124 = .ok (.aload_n 0, 1) := by decide +kernel
theorem dX6_fewest_125 : decode cX6_fewest 125 = .ok (.getfield 52, 3) := by decide +kernel
theorem dX6_fewest_128 : decode cX6_fewest 128 = .ok (.iload 7, 2) := by decide +kernel
theorem dX6_fewest_130 : decode cX6_fewest 130 = .ok (.iload 8, 2) := by decide +kernel
theorem dX6_fewest_132 : decode cX6_fewest 132 = .ok (.aload_n 0, 1) := by decide +kernel
theorem dX6_fewest_133 : decode cX6_fewest 133 = .ok (.getfield 14, 3) := by decide +kernel
theorem dX6_fewest_136 : decode cX6_fewest 136 = .ok (.getfield 107, 3) := by decide +kernel
theorem dX6_fewest_139 : decode cX6_fewest 139 = .ok (.iload 7, 2) := by decide +kernel
theorem dX6_fewest_141 : decode cX6_fewest 141 = .ok (.iaload, 1) := by decide +kernel
theorem dX6_fewest_142 : decode cX6_fewest 142 = .ok (.isub, 1) := by decide +kernel
theorem dX6_fewest_143 : decode cX6_fewest 143 = .ok (.aload_n 0, 1) := by decide +kernel
theorem dX6_fewest_144 : decode cX6_fewest 144 = .ok (.getfield 14, 3) := by decide +kernel
theorem dX6_fewest_147 : decode cX6_fewest 147 = .ok (.getfield 104, 3) := by decide +kernel
theorem dX6_fewest_150 : decode cX6_fewest 150 = .ok (.iload 7, 2) := by decide +kernel
theorem dX6_fewest_152 : decode cX6_fewest 152 = .ok (.iaload, 1) := by decide +kernel
theorem dX6_fewest_153 : decode cX6_fewest 153 = .ok (.invokestatic 196, 3) := by decide +kernel
theorem dX6_fewest_156 : decode cX6_fewest 156 = .ok (.iastore, 1) := by decide +kernel
theorem dX6_fewest_157 : decode cX6_fewest 157 = .ok (.iinc 7 1, 3) := by decide +kernel
theorem dX6_fewest_160 : decode cX6_fewest 160 = .ok (.goto (-76), 3) := by decide +kernel
theorem dX6_fewest_163 : decode cX6_fewest 163 = .ok (.iload 4, 2) := by decide +kernel
theorem dX6_fewest_165 : decode cX6_fewest 165 = .ok (.iconst (-1), 1) := by decide +kernel
theorem dX6_fewest_166 : decode cX6_fewest 166 = .ok (.if_icmp .ne 21, 3) := by decide +kernel
theorem dX6_fewest_169 : decode cX6_fewest 169 = .ok (.aload_n 0, 1) := by decide +kernel
theorem dX6_fewest_170 : decode cX6_fewest 170 = .ok (.getfield 28, 3) := by decide +kernel
theorem dX6_fewest_173 : decode cX6_fewest 173 = .ok (.aload_n 0, 1) := by decide +kernel
theorem dX6_fewest_174 : decode cX6_fewest 174 = .ok (.getfield 14, 3) := by decide +kernel
theorem dX6_fewest_177 : decode cX6_fewest 177 = .ok (.aload_n 0, 1) := by decide +kernel
theorem dX6_fewest_178 : decode cX6_fewest 178 = .ok (.getfield 52, 3) := by decide +kernel
theorem dX6_fewest_181 : decode cX6_fewest 181 = .ok (.invokevirtual 199, 3) := by decide +kernel
theorem dX6_fewest_184 : decode cX6_fewest 184 = .ok (.goto 20, 3) := by decide +kernel
theorem dX6_fewest_187 : decode cX6_fewest 187 = .ok (.aload_n 0, 1) := by decide +kernel
theorem dX6_fewest_188 : decode cX6_fewest 188 = .ok (.getfield 28, 3) := by decide +kernel
theorem dX6_fewest_191 : decode cX6_fewest 191 = .ok (.aload_n 0, 1) := by decide +kernel
theorem dX6_fewest_192 : decode cX6_fewest 192 = .ok (.getfield 14, 3) := by decide +kernel
theorem dX6_fewest_195 : decode cX6_fewest 195 = .ok (.aload_n 0, 1) := by decide +kernel
theorem dX6_fewest_196 : decode cX6_fewest 196 = .ok (.getfield 52, 3) := by decide +kernel
theorem dX6_fewest_199 : decode cX6_fewest 199 = .ok (.iload 4, 2) := by decide +kernel
theorem dX6_fewest_201 : decode cX6_fewest 201 = .ok (.invokevirtual 203, 3) := by decide +kernel
theorem dX6_fewest_204 : decode cX6_fewest 204 = .ok (.ireturn, 1) := by decide +kernel
theorem dX6_halls_0 : decode cX6_halls 0 = .ok (.aload_n 0, 1) := by decide +kernel
theorem dX6_halls_1 : decode cX6_halls 1 = .ok (.getfield 14, 3) := by decide +kernel
theorem dX6_halls_4 : decode cX6_halls 4 = .ok (.invokevirtual 156, 3) := by decide +kernel
theorem dX6_halls_7 : decode cX6_halls 7 = .ok (.ifCond .eq 8, 3) := by decide +kernel
theorem dX6_halls_10 : decode cX6_halls 10 = .ok (.bipush (-3), 2) := by decide +kernel
theorem dX6_halls_12 : decode cX6_halls 12 = .ok (.goto 21, 3) := by decide +kernel
theorem dX6_halls_15 : decode cX6_halls 15 = .ok (.aload_n 0, 1) := by decide +kernel
theorem dX6_halls_16 : decode cX6_halls 16 = .ok (.getfield 28, 3) := by decide +kernel
theorem dX6_halls_19 : decode cX6_halls 19 = .ok (.aload_n 0, 1) := by decide +kernel
theorem dX6_halls_20 : decode cX6_halls 20 = .ok (.getfield 14, 3) := by decide +kernel
theorem dX6_halls_23 : decode cX6_halls 23 = .ok (.aload_n 0, 1) := by decide +kernel
theorem dX6_halls_24 : decode cX6_halls 24 = .ok (.getfield 14, 3) := by decide +kernel
theorem dX6_halls_27 : decode cX6_halls 27 = .ok (.invokevirtual 207, 3) := by decide +kernel
theorem dX6_halls_30 : decode cX6_halls 30 = .ok (.invokevirtual 210, 3) := by decide +kernel
theorem dX6_halls_33 : decode cX6_halls 33 = .ok (.ireturn, 1) := by decide +kernel
theorem dX6_alone_0 : decode cX6_alone 0 = .ok (.aload_n 0, 1) := by decide +kernel
theorem dX6_alone_1 : decode cX6_alone 1 = .ok (.getfield 14, 3) := by decide +kernel
theorem dX6_alone_4 : decode cX6_alone 4 = .ok (.iload_n 1, 1) := by decide +kernel
theorem dX6_alone_5 : decode cX6_alone 5 = .ok (.invokevirtual 101, 3) := by decide +kernel
theorem dX6_alone_8 : decode cX6_alone 8 = .ok (.ifCond .ne 5, 3) := by decide +kernel
theorem dX6_alone_11 : decode cX6_alone 11 = .ok (.iconst (-1), 1) := by decide +kernel
theorem dX6_alone_12 : decode cX6_alone 12 = .ok (.ireturn, 1) := by decide +kernel
theorem dX6_alone_13 : decode cX6_alone 13 = .ok (.iconst 0, 1) := by decide +kernel
theorem dX6_alone_14 : decode cX6_alone 14 = .ok (.istore_n 2, 1) := by decide +kernel
theorem dX6_alone_15 : decode cX6_alone 15 = .ok (.iload_n 2, 1) := by decide +kernel
theorem dX6_alone_16 : decode cX6_alone 16 = .ok (.aload_n 0, 1) := by decide +kernel
theorem dX6_alone_17 : decode cX6_alone 17 = .ok (.getfield 14, 3) := by decide +kernel
theorem dX6_alone_20 : decode cX6_alone 20 = .ok (.getfield 193, 3) := by decide +kernel
theorem dX6_alone_23 : decode cX6_alone 23 = .ok (.if_icmp .ge 25, 3) := by decide +kernel
theorem dX6_alone_26 : decode cX6_alone 26 = .ok (.aload_n 0, 1) := by decide +kernel
theorem dX6_alone_27 : decode cX6_alone 27 = .ok (.getfield 52, 3) := by decide +kernel
theorem dX6_alone_30 : decode cX6_alone 30 = .ok (.iload_n 2, 1) := by decide +kernel
theorem dX6_alone_31 : decode cX6_alone 31 = .ok (.iload_n 2, 1) := by decide +kernel
theorem dX6_alone_32 : decode cX6_alone 32 = .ok (.iload_n 1, 1) := by decide +kernel
theorem dX6_alone_33 : decode cX6_alone 33 = .ok (.if_icmp .ne 7, 3) := by decide +kernel
theorem dX6_alone_36 : decode cX6_alone 36 = .ok (.iconst 1, 1) := by decide +kernel
theorem dX6_alone_37 : decode cX6_alone 37 = .ok (.goto 4, 3) := by decide +kernel
theorem dX6_alone_40 : decode cX6_alone 40 = .ok (.iconst 0, 1) := by decide +kernel
theorem dX6_alone_41 : decode cX6_alone 41 = .ok (.iastore, 1) := by decide +kernel
theorem dX6_alone_42 : decode cX6_alone 42 = .ok (.iinc 2 1, 3) := by decide +kernel
theorem dX6_alone_45 : decode cX6_alone 45 = .ok (.goto (-30), 3) := by decide +kernel
theorem dX6_alone_48 : decode cX6_alone 48 = .ok (.aload_n 0, 1) := by decide +kernel
theorem dX6_alone_49 : decode cX6_alone 49 = .ok (.getfield 28, 3) := by decide +kernel
theorem dX6_alone_52 : decode cX6_alone 52 = .ok (.aload_n 0, 1) := by decide +kernel
theorem dX6_alone_53 : decode cX6_alone 53 = .ok (.getfield 14, 3) := by decide +kernel
theorem dX6_alone_56 : decode cX6_alone 56 = .ok (.aload_n 0, 1) := by decide +kernel
theorem dX6_alone_57 : decode cX6_alone 57 = .ok (.getfield 52, 3) := by decide +kernel
theorem dX6_alone_60 : decode cX6_alone 60 = .ok (.invokevirtual 199, 3) := by decide +kernel
theorem dX6_alone_63 : decode cX6_alone 63 = .ok (.ireturn, 1) := by decide +kernel
theorem dX6_idle_0 : decode cX6_idle 0 = .ok (.aload_n 0, 1) := by decide +kernel
theorem dX6_idle_1 : decode cX6_idle 1 = .ok (.getfield 14, 3) := by decide +kernel
theorem dX6_idle_4 : decode cX6_idle 4 = .ok (.invokevirtual 156, 3) := by decide +kernel
theorem dX6_idle_7 : decode cX6_idle 7 = .ok (.ifCond .eq 8, 3) := by decide +kernel
theorem dX6_idle_10 : decode cX6_idle 10 = .ok (.bipush (-3), 2) := by decide +kernel
theorem dX6_idle_12 : decode cX6_idle 12 = .ok (.goto 14, 3) := by decide +kernel
theorem dX6_idle_15 : decode cX6_idle 15 = .ok (.aload_n 0, 1) := by decide +kernel
theorem dX6_idle_16 : decode cX6_idle 16 = .ok (.getfield 28, 3) := by decide +kernel
theorem dX6_idle_19 : decode cX6_idle 19 = .ok (.aload_n 0, 1) := by decide +kernel
theorem dX6_idle_20 : decode cX6_idle 20 = .ok (.getfield 14, 3) := by decide +kernel
theorem dX6_idle_23 : decode cX6_idle 23 = .ok (.invokevirtual 214, 3) := by decide +kernel
theorem dX6_idle_26 : decode cX6_idle 26 = .ok (.ireturn, 1) := by decide +kernel
theorem dX6_spare_0 : decode cX6_spare 0 = .ok (.aload_n 0, 1) := by decide +kernel
theorem dX6_spare_1 : decode cX6_spare 1 = .ok (.getfield 14, 3) := by decide +kernel
theorem dX6_spare_4 : decode cX6_spare 4 = .ok (.invokevirtual 156, 3) := by decide +kernel
theorem dX6_spare_7 : decode cX6_spare 7 = .ok (.ifCond .eq 6, 3) := by decide +kernel
theorem dX6_spare_10 : decode cX6_spare 10 = .ok (.bipush (-3), 2) := by decide +kernel
theorem dX6_spare_12 : decode cX6_spare 12 = .ok (.ireturn, 1) := by decide +kernel
theorem dX6_spare_13 : decode cX6_spare 13 = .ok (.aload_n 0, 1) := by decide +kernel
theorem dX6_spare_14 : decode cX6_spare 14 = .ok (.getfield 14, 3) := by decide +kernel
theorem dX6_spare_17 : decode cX6_spare 17 = .ok (.invokevirtual 207, 3) := by decide +kernel
theorem dX6_spare_20 : decode cX6_spare 20 = .ok (.istore_n 1, 1) := by decide +kernel
theorem dX6_spare_21 : decode cX6_spare 21 = .ok (.aload_n 0, 1) := by decide +kernel
theorem dX6_spare_22 : decode cX6_spare 22 = .ok (.getfield 28, 3) := by decide +kernel
theorem dX6_spare_25 : decode cX6_spare 25 = .ok (.aload_n 0, 1) := by decide +kernel
theorem dX6_spare_26 : decode cX6_spare 26 = .ok (.getfield 14, 3) := by decide +kernel
theorem dX6_spare_29 : decode cX6_spare 29 = .ok (.iload_n 1, 1) := by decide +kernel
theorem dX6_spare_30 : decode cX6_spare 30 = .ok (.invokevirtual 210, 3) := by decide +kernel
theorem dX6_spare_33 : decode cX6_spare 33 = .ok (.istore_n 2, 1) := by decide +kernel
theorem dX6_spare_34 : decode cX6_spare 34 = .ok (.iconst 0, 1) := by decide +kernel
theorem dX6_spare_35 : decode cX6_spare 35 = .ok (.istore_n 3, 1) := by decide +kernel
theorem dX6_spare_36 : decode cX6_spare 36 = .ok (.iconst 0, 1) := by decide +kernel
theorem dX6_spare_37 : decode cX6_spare 37 = .ok (.istore 4, 2) := by decide +kernel
theorem dX6_spare_39 : decode cX6_spare 39 = .ok (.iload 4, 2) := by decide +kernel
theorem dX6_spare_41 : decode cX6_spare 41 = .ok (.aload_n 0, 1) := by decide +kernel
theorem dX6_spare_42 : decode cX6_spare 42 = .ok (.getfield 14, 3) := by decide +kernel
theorem dX6_spare_45 : decode cX6_spare 45 = .ok (.getfield 98, 3) := by decide +kernel
theorem dX6_spare_48 : decode cX6_spare 48 = .ok (.if_icmp .ge 39, 3) := by decide +kernel
theorem dX6_spare_51 : decode cX6_spare 51 = .ok (.aload_n 0, 1) := by decide +kernel
theorem dX6_spare_52 : decode cX6_spare 52 = .ok (.getfield 28, 3) := by decide +kernel
theorem dX6_spare_55 : decode cX6_spare 55 = .ok (.aload_n 0, 1) := by decide +kernel
theorem dX6_spare_56 : decode cX6_spare 56 = .ok (.getfield 14, 3) := by decide +kernel
theorem dX6_spare_59 : decode cX6_spare 59 = .ok (.iload_n 1, 1) := by decide +kernel
theorem dX6_spare_60 : decode cX6_spare 60 = .ok (.iconst 1, 1) := by decide +kernel
theorem dX6_spare_61 : decode cX6_spare 61 = .ok (.iload 4, 2) := by decide +kernel
theorem dX6_spare_63 : decode cX6_spare 63 = .ok (.ishl, 1) := by decide +kernel
theorem dX6_spare_64 : decode cX6_spare 64 = .ok (.iconst (-1), 1) := by decide +kernel
theorem dX6_spare_65 : decode cX6_spare 65 = .ok (.ixor, 1) := by decide +kernel
theorem dX6_spare_66 : decode cX6_spare 66 = .ok (.iand, 1) := by decide +kernel
theorem dX6_spare_67 : decode cX6_spare 67 = .ok (.invokevirtual 210, 3) := by decide +kernel
theorem dX6_spare_70 : decode cX6_spare 70 = .ok (.iload_n 2, 1) := by decide +kernel
theorem dX6_spare_71 : decode cX6_spare 71 = .ok (.if_icmp .ne 10, 3) := by decide +kernel
theorem dX6_spare_74 : decode cX6_spare 74 = .ok (.iload_n 3, 1) := by decide +kernel
theorem dX6_spare_75 : decode cX6_spare 75 = .ok (.iconst 1, 1) := by decide +kernel
theorem dX6_spare_76 : decode cX6_spare 76 = .ok (.iload 4, 2) := by decide +kernel
theorem dX6_spare_78 : decode cX6_spare 78 = .ok (.ishl, 1) := by decide +kernel
theorem dX6_spare_79 : decode cX6_spare 79 = .ok (.ior, 1) := by decide +kernel
theorem dX6_spare_80 : decode cX6_spare 80 = .ok (.istore_n 3, 1) := by decide +kernel
theorem dX6_spare_81 : decode cX6_spare 81 = .ok (.iinc 4 1, 3) := by decide +kernel
theorem dX6_spare_84 : decode cX6_spare 84 = .ok (.goto (-45), 3) := by decide +kernel
theorem dX6_spare_87 : decode cX6_spare 87 = .ok (.iload_n 3, 1) := by decide +kernel
theorem dX6_spare_88 : decode cX6_spare 88 = .ok (.ireturn, 1) := by decide +kernel
theorem dX6_reading_0 : decode cX6_reading 0 = .ok (.aload_n 0, 1) := by decide +kernel
theorem dX6_reading_1 : decode cX6_reading 1 = .ok (.getfield 14, 3) := by decide +kernel
theorem dX6_reading_4 : decode cX6_reading 4 = .ok (.iload_n 1, 1) := by decide +kernel
theorem dX6_reading_5 : decode cX6_reading 5 = .ok (.invokevirtual 113, 3) := by decide +kernel
theorem dX6_reading_8 : decode cX6_reading 8 = .ok (.ifCond .eq 14, 3) := by decide +kernel
theorem dX6_reading_11 : decode cX6_reading 11 = .ok (.aload_n 0, 1) := by decide +kernel
theorem dX6_reading_12 : decode cX6_reading 12 = .ok (.getfield 14, 3) := by decide +kernel
theorem dX6_reading_15 : decode cX6_reading 15 = .ok (.iload_n 2, 1) := by decide +kernel
theorem dX6_reading_16 : decode cX6_reading 16 = .ok (.invokevirtual 101, 3) := by decide +kernel
theorem dX6_reading_19 : decode cX6_reading 19 = .ok (.ifCond .ne 5, 3) := by decide +kernel
theorem dX6_reading_22 : decode cX6_reading 22 = .ok (.iconst (-1), 1) := by decide +kernel
theorem dX6_reading_23 : decode cX6_reading 23 = .ok (.ireturn, 1) := by decide +kernel
theorem dX6_reading_24 : decode cX6_reading 24 = .ok (.iload_n 3, 1) := by decide +kernel
theorem dX6_reading_25 : decode cX6_reading 25 = .ok (.iconst 0, 1) := by decide +kernel
theorem dX6_reading_26 : decode cX6_reading 26 = .ok (.iconst 4, 1) := by decide +kernel
theorem dX6_reading_27 : decode cX6_reading 27 = .ok (.invokestatic 134, 3) := by decide +kernel
theorem dX6_reading_30 : decode cX6_reading 30 = .ok (.ifCond .ne 6, 3) := by decide +kernel
theorem dX6_reading_33 : decode cX6_reading 33 = .ok (.bipush (-2), 2) := by decide +kernel
theorem dX6_reading_35 : decode cX6_reading 35 = .ok (.ireturn, 1) := by decide +kernel
theorem dX6_reading_36 : decode cX6_reading 36 = .ok (.aload_n 0, 1) := by decide +kernel
theorem dX6_reading_37 : decode cX6_reading 37 = .ok (.getfield 35, 3) := by decide +kernel
theorem dX6_reading_40 : decode cX6_reading 40 = .ok (.iload_n 1, 1) := by decide +kernel
theorem dX6_reading_41 : decode cX6_reading 41 = .ok (.iload_n 2, 1) := by decide +kernel
theorem dX6_reading_42 : decode cX6_reading 42 = .ok (.iload_n 3, 1) := by decide +kernel
theorem dX6_reading_43 : decode cX6_reading 43 = .ok (.invokevirtual 218, 3) := by decide +kernel
theorem dX6_reading_46 : decode cX6_reading 46 = .ok (.ireturn, 1) := by decide +kernel
theorem dX6_back_0 : decode cX6_back 0 = .ok (.iload_n 1, 1) := by decide +kernel
theorem dX6_back_1 : decode cX6_back 1 = .ok (.iconst 0, 1) := by decide +kernel
theorem dX6_back_2 : decode cX6_back 2 = .ok (.aload_n 0, 1) := by decide +kernel
theorem dX6_back_3 : decode cX6_back 3 = .ok (.getfield 35, 3) := by decide +kernel
theorem dX6_back_6 : decode cX6_back 6 = .ok (.getfield 92, 3) := by decide +kernel
theorem dX6_back_9 : decode cX6_back 9 = .ok (.invokestatic 134, 3) := by decide +kernel
theorem dX6_back_12 : decode cX6_back 12 = .ok (.ifCond .ne 6, 3) := by decide +kernel
theorem dX6_back_15 : decode cX6_back 15 = .ok (.bipush (-2), 2) := by decide +kernel
theorem dX6_back_17 : decode cX6_back 17 = .ok (.ireturn, 1) := by decide +kernel
theorem dX6_back_18 : decode cX6_back 18 = .ok (.aload_n 0, 1) := by decide +kernel
theorem dX6_back_19 : decode cX6_back 19 = .ok (.getfield 35, 3) := by decide +kernel
theorem dX6_back_22 : decode cX6_back 22 = .ok (.dup, 1) := by decide +kernel
theorem dX6_back_23 : decode cX6_back 23 = .ok (.getfield 92, 3) := by decide +kernel
theorem dX6_back_26 : decode cX6_back 26 = .ok (.iload_n 1, 1) := by decide +kernel
theorem dX6_back_27 : decode cX6_back 27 = .ok (.isub, 1) := by decide +kernel
theorem dX6_back_28 : decode cX6_back 28 = .ok (.putfield 92, 3) := by decide +kernel
theorem dX6_back_31 : decode cX6_back 31 = .ok (.aload_n 0, 1) := by decide +kernel
theorem dX6_back_32 : decode cX6_back 32 = .ok (.getfield 35, 3) := by decide +kernel
theorem dX6_back_35 : decode cX6_back 35 = .ok (.getfield 92, 3) := by decide +kernel
theorem dX6_back_38 : decode cX6_back 38 = .ok (.ireturn, 1) := by decide +kernel
theorem dX6_turnings_0 : decode cX6_turnings 0 = .ok (.aload_n 0, 1) := by decide +kernel
theorem dX6_turnings_1 : decode cX6_turnings 1 = .ok (.getfield 14, 3) := by decide +kernel
theorem dX6_turnings_4 : decode cX6_turnings 4 = .ok (.iload_n 1, 1) := by decide +kernel
theorem dX6_turnings_5 : decode cX6_turnings 5 = .ok (.invokevirtual 113, 3) := by decide +kernel
theorem dX6_turnings_8 : decode cX6_turnings 8 = .ok (.ifCond .eq 20, 3) := by decide +kernel
theorem dX6_turnings_11 : decode cX6_turnings 11 = .ok (.aload_n 0, 1) := by decide +kernel
theorem dX6_turnings_12 : decode cX6_turnings 12 = .ok (.aload_n 0, 1) := by decide +kernel
theorem dX6_turnings_13 : decode cX6_turnings 13 = .ok (.getfield 14, 3) := by decide +kernel
theorem dX6_turnings_16 : decode cX6_turnings 16 = .ok (.getfield 119, 3) := by decide +kernel
theorem dX6_turnings_19 : decode cX6_turnings 19 = .ok (.iload_n 1, 1) := by decide +kernel
theorem dX6_turnings_20 : decode cX6_turnings 20 = .ok (.iconst 1, 1) := by decide +kernel
theorem dX6_turnings_21 : decode cX6_turnings 21 = .ok (.iconst 4, 1) := by decide +kernel
theorem dX6_turnings_22 : decode cX6_turnings 22 = .ok (.invokevirtual 221, 3) := by decide +kernel
theorem dX6_turnings_25 : decode cX6_turnings 25 = .ok (.goto 4, 3) := by decide +kernel
theorem dX6_turnings_28 : decode cX6_turnings 28 = .ok (.iconst (-1), 1) := by decide +kernel
theorem dX6_turnings_29 : decode cX6_turnings 29 = .ok (.ireturn, 1) := by decide +kernel
theorem dX6_kinds_0 : decode cX6_kinds 0 = .ok (.aload_n 0, 1) := by decide +kernel
theorem dX6_kinds_1 : decode cX6_kinds 1 = .ok (.getfield 14, 3) := by decide +kernel
theorem dX6_kinds_4 : decode cX6_kinds 4 = .ok (.iload_n 1, 1) := by decide +kernel
theorem dX6_kinds_5 : decode cX6_kinds 5 = .ok (.invokevirtual 113, 3) := by decide +kernel
theorem dX6_kinds_8 : decode cX6_kinds 8 = .ok (.ifCond .eq 20, 3) := by decide +kernel
theorem dX6_kinds_11 : decode cX6_kinds 11 = .ok (.aload_n 0, 1) := by decide +kernel
theorem dX6_kinds_12 : decode cX6_kinds 12 = .ok (.aload_n 0, 1) := by decide +kernel
theorem dX6_kinds_13 : decode cX6_kinds 13 = .ok (.getfield 14, 3) := by decide +kernel
theorem dX6_kinds_16 : decode cX6_kinds 16 = .ok (.getfield 116, 3) := by decide +kernel
theorem dX6_kinds_19 : decode cX6_kinds 19 = .ok (.iload_n 1, 1) := by decide +kernel
theorem dX6_kinds_20 : decode cX6_kinds 20 = .ok (.iconst 0, 1) := by decide +kernel
theorem dX6_kinds_21 : decode cX6_kinds 21 = .ok (.iconst 2, 1) := by decide +kernel
theorem dX6_kinds_22 : decode cX6_kinds 22 = .ok (.invokevirtual 221, 3) := by decide +kernel
theorem dX6_kinds_25 : decode cX6_kinds 25 = .ok (.goto 4, 3) := by decide +kernel
theorem dX6_kinds_28 : decode cX6_kinds 28 = .ok (.iconst (-1), 1) := by decide +kernel
theorem dX6_kinds_29 : decode cX6_kinds 29 = .ok (.ireturn, 1) := by decide +kernel
theorem dX6_shadings_0 : decode cX6_shadings 0 = .ok (.aload_n 0, 1) := by decide +kernel
theorem dX6_shadings_1 : decode cX6_shadings 1 = .ok (.getfield 14, 3) := by decide +kernel
theorem dX6_shadings_4 : decode cX6_shadings 4 = .ok (.iload_n 1, 1) := by decide +kernel
theorem dX6_shadings_5 : decode cX6_shadings 5 = .ok (.invokevirtual 101, 3) := by decide +kernel
theorem dX6_shadings_8 : decode cX6_shadings 8 = .ok (.ifCond .eq 20, 3) := by decide +kernel
theorem dX6_shadings_11 : decode cX6_shadings 11 = .ok (.aload_n 0, 1) := by decide +kernel
theorem dX6_shadings_12 : decode cX6_shadings 12 = .ok (.aload_n 0, 1) := by decide +kernel
theorem dX6_shadings_13 : decode cX6_shadings 13 = .ok (.getfield 14, 3) := by decide +kernel
theorem dX6_shadings_16 : decode cX6_shadings 16 = .ok (.getfield 104, 3) := by decide +kernel
theorem dX6_shadings_19 : decode cX6_shadings 19 = .ok (.iload_n 1, 1) := by decide +kernel
theorem dX6_shadings_20 : decode cX6_shadings 20 = .ok (.iconst 2, 1) := by decide +kernel
theorem dX6_shadings_21 : decode cX6_shadings 21 = .ok (.iconst 5, 1) := by decide +kernel
theorem dX6_shadings_22 : decode cX6_shadings 22 = .ok (.invokevirtual 221, 3) := by decide +kernel
theorem dX6_shadings_25 : decode cX6_shadings 25 = .ok (.goto 4, 3) := by decide +kernel
theorem dX6_shadings_28 : decode cX6_shadings 28 = .ok (.iconst (-1), 1) := by decide +kernel
theorem dX6_shadings_29 : decode cX6_shadings 29 = .ok (.ireturn, 1) := by decide +kernel
theorem dX6_fitting_0 : decode cX6_fitting 0 = .ok (.aload_n 1, 1) := by decide +kernel
theorem dX6_fitting_1 : decode cX6_fitting 1 = .ok (.iload_n 2, 1) := by decide +kernel
theorem dX6_fitting_2 : decode cX6_fitting 2 = .ok (.iaload, 1) := by decide +kernel
theorem dX6_fitting_3 : decode cX6_fitting 3 = .ok (.istore 5, 2) := by decide +kernel
theorem dX6_fitting_5 : decode cX6_fitting 5 = .ok (.iconst 0, 1) := by decide +kernel
theorem dX6_fitting_6 : decode cX6_fitting 6 = .ok (.istore 6, 2) := by decide +kernel
theorem dX6_fitting_8 : decode cX6_fitting 8 = .ok (.iload_n 3, 1) := by decide +kernel
theorem dX6_fitting_9 : decode cX6_fitting 9 = .ok (.istore 7, 2) := by decide +kernel
theorem dX6_fitting_11 : decode cX6_fitting 11 = .ok (.iload 7, 2) := by decide +kernel
theorem dX6_fitting_13 : decode cX6_fitting 13 = .ok (.iload 4, 2) := by decide +kernel
theorem dX6_fitting_15 : decode cX6_fitting 15 = .ok (.if_icmp .gt 37, 3) := by decide +kernel
theorem dX6_fitting_18 : decode cX6_fitting 18 = .ok (.aload_n 1, 1) := by decide +kernel
theorem dX6_fitting_19 : decode cX6_fitting 19 = .ok (.iload_n 2, 1) := by decide +kernel
theorem dX6_fitting_20 : decode cX6_fitting 20 = .ok (.iload 7, 2) := by decide +kernel
theorem dX6_fitting_22 : decode cX6_fitting 22 = .ok (.iastore, 1) := by decide +kernel
theorem dX6_fitting_23 : decode cX6_fitting 23 = .ok (.aload_n 0, 1) := by decide +kernel
theorem dX6_fitting_24 : decode cX6_fitting 24 = .ok (.getfield 35, 3) := by decide +kernel
theorem dX6_fitting_27 : decode cX6_fitting 27 = .ok (.aload_n 0, 1) := by decide +kernel
theorem dX6_fitting_28 : decode cX6_fitting 28 = .ok (.getfield 14, 3) := by decide +kernel
theorem dX6_fitting_31 : decode cX6_fitting 31 = .ok (.invokevirtual 225, 3) := by decide +kernel
theorem dX6_fitting_34 : decode cX6_fitting 34 = .ok (.ifCond .eq 12, 3) := by decide +kernel
theorem dX6_fitting_37 : decode cX6_fitting 37 = .ok (.iload 6, 2) := by decide +kernel
theorem dX6_fitting_39 : decode cX6_fitting 39 = .ok (.iconst 1, 1) := by decide +kernel
theorem dX6_fitting_40 : decode cX6_fitting 40 = .ok (.iload 7, 2) := by decide +kernel
theorem dX6_fitting_42 : decode cX6_fitting 42 = .ok (.ishl, 1) := by decide +kernel
theorem dX6_fitting_43 : decode cX6_fitting 43 = .ok (.ior, 1) := by decide +kernel
theorem dX6_fitting_44 : decode cX6_fitting 44 = .ok (.istore 6, 2) := by decide +kernel
theorem dX6_fitting_46 : decode cX6_fitting 46 = .ok (.iinc 7 1, 3) := by decide +kernel
theorem dX6_fitting_49 : decode cX6_fitting 49 = .ok (.goto (-38), 3) := by decide +kernel
theorem dX6_fitting_52 : decode cX6_fitting 52 = .ok (.aload_n 1, 1) := by decide +kernel
theorem dX6_fitting_53 : decode cX6_fitting 53 = .ok (.iload_n 2, 1) := by decide +kernel
theorem dX6_fitting_54 : decode cX6_fitting 54 = .ok (.iload 5, 2) := by decide +kernel
theorem dX6_fitting_56 : decode cX6_fitting 56 = .ok (.iastore, 1) := by decide +kernel
theorem dX6_fitting_57 : decode cX6_fitting 57 = .ok (.iload 6, 2) := by decide +kernel
theorem dX6_fitting_59 : decode cX6_fitting 59 = .ok (.ireturn, 1) := by decide +kernel
theorem dX6_odds_0 : decode cX6_odds 0 = .ok (.iload_n 1, 1) := by decide +kernel
theorem dX6_odds_1 : decode cX6_odds 1 = .ok (.iconst 0, 1) := by decide +kernel
theorem dX6_odds_2 : decode cX6_odds 2 = .ok (.iconst 4, 1) := by decide +kernel
theorem dX6_odds_3 : decode cX6_odds 3 = .ok (.invokestatic 134, 3) := by decide +kernel
theorem dX6_odds_6 : decode cX6_odds 6 = .ok (.ifCond .eq 22, 3) := by decide +kernel
theorem dX6_odds_9 : decode cX6_odds 9 = .ok (.iload_n 2, 1) := by decide +kernel
theorem dX6_odds_10 : decode cX6_odds 10 = .ok (.iconst 0, 1) := by decide +kernel
theorem dX6_odds_11 : decode cX6_odds 11 = .ok (.iconst 1, 1) := by decide +kernel
theorem dX6_odds_12 : decode cX6_odds 12 = .ok (.invokestatic 134, 3) := by decide +kernel
theorem dX6_odds_15 : decode cX6_odds 15 = .ok (.ifCond .eq 13, 3) := by decide +kernel
theorem dX6_odds_18 : decode cX6_odds 18 = .ok (.aload_n 0, 1) := by decide +kernel
theorem dX6_odds_19 : decode cX6_odds 19 = .ok (.getfield 14, 3) := by decide +kernel
theorem dX6_odds_22 : decode cX6_odds 22 = .ok (.invokevirtual 156, 3) := by decide +kernel
theorem dX6_odds_25 : decode cX6_odds 25 = .ok (.ifCond .eq 7, 3) := by decide +kernel
theorem dX6_odds_28 : decode cX6_odds 28 = .ok (.ldc2_w 229, 3) := by decide +kernel
theorem dX6_odds_31 : decode cX6_odds 31 = .ok (.lreturn, 1) := by decide +kernel
theorem dX6_odds_32 : decode cX6_odds 32 = .ok (.iconst 1, 1) := by decide +kernel
theorem dX6_odds_33 : decode cX6_odds 33 = .ok (.istore_n 3, 1) := by decide +kernel
theorem dX6_odds_34 : decode cX6_odds 34 = .ok (.iconst 0, 1) := by decide +kernel
theorem dX6_odds_35 : decode cX6_odds 35 = .ok (.istore 4, 2) := by decide +kernel
theorem dX6_odds_37 : decode cX6_odds 37 = .ok (.iload 4, 2) := by decide +kernel
theorem dX6_odds_39 : decode cX6_odds 39 = .ok (.iload_n 1, 1) := by decide +kernel
theorem dX6_odds_40 : decode cX6_odds 40 = .ok (.if_icmp .ge 19, 3) := by decide +kernel
theorem dX6_odds_43 : decode cX6_odds 43 = .ok (.iload_n 3, 1) := by decide +kernel
theorem dX6_odds_44 : decode cX6_odds 44 = .ok (.aload_n 0, 1) := by decide +kernel
theorem dX6_odds_45 : decode cX6_odds 45 = .ok (.getfield 14, 3) := by decide +kernel
theorem dX6_odds_48 : decode cX6_odds 48 = .ok (.getfield 98, 3) := by decide +kernel
theorem dX6_odds_51 : decode cX6_odds 51 = .ok (.imul, 1) := by decide +kernel
theorem dX6_odds_52 : decode cX6_odds 52 = .ok (.istore_n 3, 1) := by decide +kernel
theorem dX6_odds_53 : decode cX6_odds 53 = .ok (.iinc 4 1, 3) := by decide +kernel
theorem dX6_odds_56 : decode cX6_odds 56 = .ok (.goto (-19), 3) := by decide +kernel
theorem dX6_odds_59 : decode cX6_odds 59 = .ok (.aload_n 0, 1) := by decide +kernel
theorem dX6_odds_60 : decode cX6_odds 60 = .ok (.getfield 14, 3) := by decide +kernel
theorem dX6_odds_63 : decode cX6_odds 63 = .ok (.getfield 107, 3) := by decide +kernel
theorem dX6_odds_66 : decode cX6_odds 66 = .ok (.iconst 0, 1) := by decide +kernel
theorem dX6_odds_67 : decode cX6_odds 67 = .ok (.aload_n 0, 1) := by decide +kernel
theorem dX6_odds_68 : decode cX6_odds 68 = .ok (.getfield 52, 3) := by decide +kernel
theorem dX6_odds_71 : decode cX6_odds 71 = .ok (.iconst 0, 1) := by decide +kernel
theorem dX6_odds_72 : decode cX6_odds 72 = .ok (.iconst 5, 1) := by decide +kernel
theorem dX6_odds_73 : decode cX6_odds 73 = .ok (.invokestatic 231, 3) := by decide +kernel
theorem dX6_odds_76 : decode cX6_odds 76 = .ok (.aload_n 0, 1) := by decide +kernel
theorem dX6_odds_77 : decode cX6_odds 77 = .ok (.getfield 14, 3) := by decide +kernel
theorem dX6_odds_80 : decode cX6_odds 80 = .ok (.aload_n 0, 1) := by decide +kernel
theorem dX6_odds_81 : decode cX6_odds 81 = .ok (.getfield 52, 3) := by decide +kernel
theorem dX6_odds_84 : decode cX6_odds 84 = .ok (.iload_n 1, 1) := by decide +kernel
theorem dX6_odds_85 : decode cX6_odds 85 = .ok (.invokevirtual 237, 3) := by decide +kernel
theorem dX6_odds_88 : decode cX6_odds 88 = .ok (.istore 4, 2) := by decide +kernel
theorem dX6_odds_90 : decode cX6_odds 90 = .ok (.iload_n 3, 1) := by decide +kernel
theorem dX6_odds_91 : decode cX6_odds 91 = .ok (.iload 4, 2) := by decide +kernel
theorem dX6_odds_93 : decode cX6_odds 93 = .ok (.invokestatic 241, 3) := by decide +kernel
theorem dX6_odds_96 : decode cX6_odds 96 = .ok (.istore 5, 2) := by decide +kernel
theorem dX6_odds_98 : decode cX6_odds 98 = .ok (.iload 5, 2) := by decide +kernel
theorem dX6_odds_100 : decode cX6_odds 100 = .ok (.ifCond .ne 7, 3) := by decide +kernel
theorem dX6_odds_103 : decode cX6_odds 103 = .ok (.ldc2_w 229, 3) := by decide +kernel
theorem dX6_odds_106 : decode cX6_odds 106 = .ok (.lreturn, 1) := by decide +kernel
theorem dX6_odds_107 : decode cX6_odds 107 = .ok (.iload_n 2, 1) := by decide +kernel
theorem dX6_odds_108 : decode cX6_odds 108 = .ok (.ifCond .ne 8, 3) := by decide +kernel
theorem dX6_odds_111 : decode cX6_odds 111 = .ok (.iload 4, 2) := by decide +kernel
theorem dX6_odds_113 : decode cX6_odds 113 = .ok (.goto 4, 3) := by decide +kernel
theorem dX6_odds_116 : decode cX6_odds 116 = .ok (.iload_n 3, 1) := by decide +kernel
theorem dX6_odds_117 : decode cX6_odds 117 = .ok (.iload 5, 2) := by decide +kernel
theorem dX6_odds_119 : decode cX6_odds 119 = .ok (.idiv, 1) := by decide +kernel
theorem dX6_odds_120 : decode cX6_odds 120 = .ok (.i2l, 1) := by decide +kernel
theorem dX6_odds_121 : decode cX6_odds 121 = .ok (.lreturn, 1) := by decide +kernel
theorem dX6_commonDivisor_0 : decode cX6_commonDivisor 0 = .ok (.iload_n 0, 1) := by decide +kernel
theorem dX6_commonDivisor_1 : decode cX6_commonDivisor 1 = .ok (.istore_n 2, 1) := by decide +kernel
theorem dX6_commonDivisor_2 : decode cX6_commonDivisor 2 = .ok (.iload_n 1, 1) := by decide +kernel
theorem dX6_commonDivisor_3 : decode cX6_commonDivisor 3 = .ok (.istore_n 3, 1) := by decide +kernel
theorem dX6_commonDivisor_4 : decode cX6_commonDivisor 4 = .ok (.iconst 0, 1) := by decide +kernel
theorem dX6_commonDivisor_5 : decode cX6_commonDivisor 5 = .ok (.istore 4, 2) := by decide +kernel
theorem dX6_commonDivisor_7 : decode cX6_commonDivisor 7 = .ok (.iload 4, 2) := by decide +kernel
theorem dX6_commonDivisor_9 : decode cX6_commonDivisor 9 = .ok (.bipush 64, 2) := by decide +kernel
theorem dX6_commonDivisor_11 : decode cX6_commonDivisor 11 = .ok (.if_icmp .ge 23, 3) := by decide +kernel
theorem dX6_commonDivisor_14 : decode cX6_commonDivisor 14 = .ok (.iload_n 3, 1) := by decide +kernel
theorem dX6_commonDivisor_15 : decode cX6_commonDivisor 15 = .ok (.ifCond .le 19, 3) := by decide +kernel
theorem dX6_commonDivisor_18 : decode cX6_commonDivisor 18 = .ok (.iload_n 2, 1) := by decide +kernel
theorem dX6_commonDivisor_19 : decode cX6_commonDivisor 19 = .ok (.iload_n 3, 1) := by decide +kernel
theorem dX6_commonDivisor_20 : decode cX6_commonDivisor 20 = .ok (.irem, 1) := by decide +kernel
theorem dX6_commonDivisor_21 : decode cX6_commonDivisor 21 = .ok (.istore 5, 2) := by decide +kernel
theorem dX6_commonDivisor_23 : decode cX6_commonDivisor 23 = .ok (.iload_n 3, 1) := by decide +kernel
theorem dX6_commonDivisor_24 : decode cX6_commonDivisor 24 = .ok (.istore_n 2, 1) := by decide +kernel
theorem dX6_commonDivisor_25 : decode cX6_commonDivisor 25 = .ok (.iload 5, 2) := by decide +kernel
theorem dX6_commonDivisor_27 : decode cX6_commonDivisor 27 = .ok (.istore_n 3, 1) := by decide +kernel
theorem dX6_commonDivisor_28 : decode cX6_commonDivisor 28 = .ok (.iinc 4 1, 3) := by decide +kernel
theorem dX6_commonDivisor_31 : decode cX6_commonDivisor 31 = .ok (.goto (-24), 3) := by decide +kernel
theorem dX6_commonDivisor_34 : decode cX6_commonDivisor 34 = .ok (.iload_n 2, 1) := by decide +kernel
theorem dX6_commonDivisor_35 : decode cX6_commonDivisor 35 = .ok (.ireturn, 1) := by decide +kernel
theorem dX6_sheet_0 : decode cX6_sheet 0 = .ok (.aload_n 0, 1) := by decide +kernel
theorem dX6_sheet_1 : decode cX6_sheet 1 = .ok (.iconst 0, 1) := by decide +kernel
theorem dX6_sheet_2 : decode cX6_sheet 2 = .ok (.putfield 57, 3) := by decide +kernel
theorem dX6_sheet_5 : decode cX6_sheet 5 = .ok (.aload_n 0, 1) := by decide +kernel
theorem dX6_sheet_6 : decode cX6_sheet 6 = .ok (.iload_n 1, 1) := by decide +kernel
theorem dX6_sheet_7 : decode cX6_sheet 7 = .ok (.invokevirtual 61, 3) := by decide +kernel
theorem dX6_sheet_10 : decode cX6_sheet 10 = .ok (.astore 4, 2) := by decide +kernel
theorem dX6_sheet_12 : decode cX6_sheet 12 = .ok (.aload 4, 2) := by decide +kernel
theorem dX6_sheet_14 : decode cX6_sheet 14 = .ok (.ifnonnull 5, 3) := by decide +kernel
theorem dX6_sheet_17 : decode cX6_sheet 17 = .ok (.iconst (-1), 1) := by decide +kernel
theorem dX6_sheet_18 : decode cX6_sheet 18 = .ok (.ireturn, 1) := by decide +kernel
theorem dX6_sheet_19 : decode cX6_sheet 19 = .ok (.iload_n 2, 1) := by decide +kernel
theorem dX6_sheet_20 : decode cX6_sheet 20 = .ok (.invokestatic 65, 3) := by decide +kernel
theorem dX6_sheet_23 : decode cX6_sheet 23 = .ok (.ifCond .eq 9, 3) := by decide +kernel
theorem dX6_sheet_26 : decode cX6_sheet 26 = .ok (.iload_n 3, 1) := by decide +kernel
theorem dX6_sheet_27 : decode cX6_sheet 27 = .ok (.bipush 60, 2) := by decide +kernel
theorem dX6_sheet_29 : decode cX6_sheet 29 = .ok (.if_icmp .le 6, 3) := by decide +kernel
theorem dX6_sheet_32 : decode cX6_sheet 32 = .ok (.bipush (-2), 2) := by decide +kernel
theorem dX6_sheet_34 : decode cX6_sheet 34 = .ok (.ireturn, 1) := by decide +kernel
theorem dX6_sheet_35 : decode cX6_sheet 35 = .ok (.iload_n 3, 1) := by decide +kernel
theorem dX6_sheet_36 : decode cX6_sheet 36 = .ok (.ifCond .ge 9, 3) := by decide +kernel
theorem dX6_sheet_39 : decode cX6_sheet 39 = .ok (.aload_n 0, 1) := by decide +kernel
theorem dX6_sheet_40 : decode cX6_sheet 40 = .ok (.iconst 4, 1) := by decide +kernel
theorem dX6_sheet_41 : decode cX6_sheet 41 = .ok (.invokevirtual 77, 3) := by decide +kernel
theorem dX6_sheet_44 : decode cX6_sheet 44 = .ok (.ireturn, 1) := by decide +kernel
theorem dX6_sheet_45 : decode cX6_sheet 45 = .ok (.aload 4, 2) := by decide +kernel
theorem dX6_sheet_47 : decode cX6_sheet 47 = .ok (.iload_n 2, 1) := by decide +kernel
theorem dX6_sheet_48 : decode cX6_sheet 48 = .ok (.iload_n 3, 1) := by decide +kernel
theorem dX6_sheet_49 : decode cX6_sheet 49 = .ok (.invokevirtual 244, 3) := by decide +kernel
theorem dX6_sheet_52 : decode cX6_sheet 52 = .ok (.iconst 1, 1) := by decide +kernel
theorem dX6_sheet_53 : decode cX6_sheet 53 = .ok (.ireturn, 1) := by decide +kernel
theorem dX6_lose_0 : decode cX6_lose 0 = .ok (.aload_n 0, 1) := by decide +kernel
theorem dX6_lose_1 : decode cX6_lose 1 = .ok (.iload_n 1, 1) := by decide +kernel
theorem dX6_lose_2 : decode cX6_lose 2 = .ok (.invokevirtual 61, 3) := by decide +kernel
theorem dX6_lose_5 : decode cX6_lose 5 = .ok (.astore_n 2, 1) := by decide +kernel
theorem dX6_lose_6 : decode cX6_lose 6 = .ok (.aload_n 2, 1) := by decide +kernel
theorem dX6_lose_7 : decode cX6_lose 7 = .ok (.ifnonnull 5, 3) := by decide +kernel
theorem dX6_lose_10 : decode cX6_lose 10 = .ok (.iconst (-1), 1) := by decide +kernel
theorem dX6_lose_11 : decode cX6_lose 11 = .ok (.ireturn, 1) := by decide +kernel
theorem dX6_lose_12 : decode cX6_lose 12 = .ok (.aload_n 2, 1) := by decide +kernel
theorem dX6_lose_13 : decode cX6_lose 13 = .ok (.invokevirtual 248, 3) := by decide +kernel
theorem dX6_lose_16 : decode cX6_lose 16 = .ok (.ifCond .eq 5, 3) := by decide +kernel
theorem dX6_lose_19 : decode cX6_lose 19 = .ok (.iconst 0, 1) := by decide +kernel
theorem dX6_lose_20 : decode cX6_lose 20 = .ok (.ireturn, 1) := by decide +kernel
theorem dX6_lose_21 : decode cX6_lose 21 = .ok (.aload_n 2, 1) := by decide +kernel
theorem dX6_lose_22 : decode cX6_lose 22 = .ok (.invokevirtual 251, 3) := by decide +kernel
theorem dX6_lose_25 : decode cX6_lose 25 = .ok (.iconst 1, 1) := by decide +kernel
theorem dX6_lose_26 : decode cX6_lose 26 = .ok (.ireturn, 1) := by decide +kernel
theorem dX6_put_0 : decode cX6_put 0 = .ok (.aload_n 0, 1) := by decide +kernel
theorem dX6_put_1 : decode cX6_put 1 = .ok (.iconst 0, 1) := by decide +kernel
theorem dX6_put_2 : decode cX6_put 2 = .ok (.putfield 57, 3) := by decide +kernel
theorem dX6_put_5 : decode cX6_put 5 = .ok (.aload_n 0, 1) := by decide +kernel
theorem dX6_put_6 : decode cX6_put 6 = .ok (.iload_n 1, 1) := by decide +kernel
theorem dX6_put_7 : decode cX6_put 7 = .ok (.invokevirtual 61, 3) := by decide +kernel
theorem dX6_put_10 : decode cX6_put 10 = .ok (.astore 4, 2) := by decide +kernel
theorem dX6_put_12 : decode cX6_put 12 = .ok (.aload 4, 2) := by decide +kernel
theorem dX6_put_14 : decode cX6_put 14 = .ok (.ifnonnull 5, 3) := by decide +kernel
theorem dX6_put_17 : decode cX6_put 17 = .ok (.iconst (-1), 1) := by decide +kernel
theorem dX6_put_18 : decode cX6_put 18 = .ok (.ireturn, 1) := by decide +kernel
theorem dX6_put_19 : decode cX6_put 19 = .ok (.aload 4, 2) := by decide +kernel
theorem dX6_put_21 : decode cX6_put 21 = .ok (.invokevirtual 248, 3) := by decide +kernel
theorem dX6_put_24 : decode cX6_put 24 = .ok (.ifCond .eq 9, 3) := by decide +kernel
theorem dX6_put_27 : decode cX6_put 27 = .ok (.aload_n 0, 1) := by decide +kernel
theorem dX6_put_28 : decode cX6_put 28 = .ok (.iconst 1, 1) := by decide +kernel
theorem dX6_put_29 : decode cX6_put 29 = .ok (.invokevirtual 77, 3) := by decide +kernel
theorem dX6_put_32 : decode cX6_put 32 = .ok (.ireturn, 1) := by decide +kernel
theorem dX6_put_33 : decode cX6_put 33 = .ok (.aload 4, 2) := by decide +kernel
theorem dX6_put_35 : decode cX6_put 35 = .ok (.iload_n 2, 1) := by decide +kernel
theorem dX6_put_36 : decode cX6_put 36 = .ok (.iconst 1, 1) := by decide +kernel
theorem dX6_put_37 : decode cX6_put 37 = .ok (.invokevirtual 73, 3) := by decide +kernel
theorem dX6_put_40 : decode cX6_put 40 = .ok (.ifCond .ne 9, 3) := by decide +kernel
theorem dX6_put_43 : decode cX6_put 43 = .ok (.aload_n 0, 1) := by decide +kernel
theorem dX6_put_44 : decode cX6_put 44 = .ok (.iconst 3, 1) := by decide +kernel
theorem dX6_put_45 : decode cX6_put 45 = .ok (.invokevirtual 77, 3) := by decide +kernel
theorem dX6_put_48 : decode cX6_put 48 = .ok (.ireturn, 1) := by decide +kernel
theorem dX6_put_49 : decode cX6_put 49 = .ok (.aload 4, 2) := by decide +kernel
theorem dX6_put_51 : decode cX6_put 51 = .ok (.iload_n 2, 1) := by decide +kernel
theorem dX6_put_52 : decode cX6_put 52 = .ok (.iload_n 3, 1) := by decide +kernel
theorem dX6_put_53 : decode cX6_put 53 = .ok (.invokevirtual 254, 3) := by decide +kernel
theorem dX6_put_56 : decode cX6_put 56 = .ok (.iconst 1, 1) := by decide +kernel
theorem dX6_put_57 : decode cX6_put 57 = .ok (.ireturn, 1) := by decide +kernel
theorem dX6_cell_0 : decode cX6_cell 0 = .ok (.aload_n 0, 1) := by decide +kernel
theorem dX6_cell_1 : decode cX6_cell 1 = .ok (.iconst 0, 1) := by decide +kernel
theorem dX6_cell_2 : decode cX6_cell 2 = .ok (.putfield 57, 3) := by decide +kernel
theorem dX6_cell_5 : decode cX6_cell 5 = .ok (.aload_n 0, 1) := by decide +kernel
theorem dX6_cell_6 : decode cX6_cell 6 = .ok (.iload_n 1, 1) := by decide +kernel
theorem dX6_cell_7 : decode cX6_cell 7 = .ok (.invokevirtual 61, 3) := by decide +kernel
theorem dX6_cell_10 : decode cX6_cell 10 = .ok (.astore 4, 2) := by decide +kernel
theorem dX6_cell_12 : decode cX6_cell 12 = .ok (.aload 4, 2) := by decide +kernel
theorem dX6_cell_14 : decode cX6_cell 14 = .ok (.ifnull 10, 3) := by decide +kernel
theorem dX6_cell_17 : decode cX6_cell 17 = .ok (.iload_n 3, 1) := by decide +kernel
theorem dX6_cell_18 : decode cX6_cell 18 = .ok (.invokestatic 65, 3) := by decide +kernel
theorem dX6_cell_21 : decode cX6_cell 21 = .ok (.ifCond .ne 7, 3) := by decide +kernel
theorem dX6_cell_24 : decode cX6_cell 24 = .ok (.ldc2_w 229, 3) := by decide +kernel
theorem dX6_cell_27 : decode cX6_cell 27 = .ok (.lreturn, 1) := by decide +kernel
theorem dX6_cell_28 : decode cX6_cell 28 = .ok (.aload 4, 2) := by decide +kernel
theorem dX6_cell_30 : decode cX6_cell 30 = .ok (.iload_n 3, 1) := by decide +kernel
theorem dX6_cell_31 : decode cX6_cell 31 = .ok (.iload_n 2, 1) := by decide +kernel
theorem dX6_cell_32 : decode cX6_cell 32 = .ok (.iconst 1, 1) := by decide +kernel
theorem dX6_cell_33 : decode cX6_cell 33 = .ok (.invokevirtual 152, 3) := by decide +kernel
theorem dX6_cell_36 : decode cX6_cell 36 = .ok (.istore 5, 2) := by decide +kernel
theorem dX6_cell_38 : decode cX6_cell 38 = .ok (.iload 5, 2) := by decide +kernel
theorem dX6_cell_40 : decode cX6_cell 40 = .ok (.ifCond .eq 13, 3) := by decide +kernel
theorem dX6_cell_43 : decode cX6_cell 43 = .ok (.aload_n 0, 1) := by decide +kernel
theorem dX6_cell_44 : decode cX6_cell 44 = .ok (.iload 5, 2) := by decide +kernel
theorem dX6_cell_46 : decode cX6_cell 46 = .ok (.putfield 57, 3) := by decide +kernel
theorem dX6_cell_49 : decode cX6_cell 49 = .ok (.ldc2_w 229, 3) := by decide +kernel
theorem dX6_cell_52 : decode cX6_cell 52 = .ok (.lreturn, 1) := by decide +kernel
theorem dX6_cell_53 : decode cX6_cell 53 = .ok (.aload 4, 2) := by decide +kernel
theorem dX6_cell_55 : decode cX6_cell 55 = .ok (.iload_n 2, 1) := by decide +kernel
theorem dX6_cell_56 : decode cX6_cell 56 = .ok (.invokevirtual 171, 3) := by decide +kernel
theorem dX6_cell_59 : decode cX6_cell 59 = .ok (.i2l, 1) := by decide +kernel
theorem dX6_cell_60 : decode cX6_cell 60 = .ok (.lreturn, 1) := by decide +kernel
theorem dX6_copy_0 : decode cX6_copy 0 = .ok (.aload_n 0, 1) := by decide +kernel
theorem dX6_copy_1 : decode cX6_copy 1 = .ok (.iconst 0, 1) := by decide +kernel
theorem dX6_copy_2 : decode cX6_copy 2 = .ok (.putfield 57, 3) := by decide +kernel
theorem dX6_copy_5 : decode cX6_copy 5 = .ok (.aload_n 0, 1) := by decide +kernel
theorem dX6_copy_6 : decode cX6_copy 6 = .ok (.iload_n 1, 1) := by decide +kernel
theorem dX6_copy_7 : decode cX6_copy 7 = .ok (.invokevirtual 61, 3) := by decide +kernel
theorem dX6_copy_10 : decode cX6_copy 10 = .ok (.astore 6, 2) := by decide +kernel
theorem dX6_copy_12 : decode cX6_copy 12 = .ok (.aload_n 0, 1) := by decide +kernel
theorem dX6_copy_13 : decode cX6_copy 13 = .ok (.iload_n 3, 1) := by decide +kernel
theorem dX6_copy_14 : decode cX6_copy 14 = .ok (.invokevirtual 61, 3) := by decide +kernel
theorem dX6_copy_17 : decode cX6_copy 17 = .ok (.astore 7, 2) := by decide +kernel
theorem dX6_copy_19 : decode cX6_copy 19 = .ok (.aload 6, 2) := by decide +kernel
theorem dX6_copy_21 : decode cX6_copy 21 = .ok (.ifnull 8, 3) := by decide +kernel
theorem dX6_copy_24 : decode cX6_copy 24 = .ok (.aload 7, 2) := by decide +kernel
theorem dX6_copy_26 : decode cX6_copy 26 = .ok (.ifnonnull 5, 3) := by decide +kernel
theorem dX6_copy_29 : decode cX6_copy 29 = .ok (.iconst (-1), 1) := by decide +kernel
theorem dX6_copy_30 : decode cX6_copy 30 = .ok (.ireturn, 1) := by decide +kernel
theorem dX6_copy_31 : decode cX6_copy 31 = .ok (.aload 6, 2) := by decide +kernel
theorem dX6_copy_33 : decode cX6_copy 33 = .ok (.invokevirtual 248, 3) := by decide +kernel
theorem dX6_copy_36 : decode cX6_copy 36 = .ok (.ifCond .ne 11, 3) := by decide +kernel
theorem dX6_copy_39 : decode cX6_copy 39 = .ok (.aload 7, 2) := by decide +kernel
theorem dX6_copy_41 : decode cX6_copy 41 = .ok (.invokevirtual 248, 3) := by decide +kernel
theorem dX6_copy_44 : decode cX6_copy 44 = .ok (.ifCond .eq 9, 3) := by decide +kernel
theorem dX6_copy_47 : decode cX6_copy 47 = .ok (.aload_n 0, 1) := by decide +kernel
theorem dX6_copy_48 : decode cX6_copy 48 = .ok (.iconst 1, 1) := by decide +kernel
theorem dX6_copy_49 : decode cX6_copy 49 = .ok (.invokevirtual 77, 3) := by decide +kernel
theorem dX6_copy_52 : decode cX6_copy 52 = .ok (.ireturn, 1) := by decide +kernel
theorem dX6_copy_53 : decode cX6_copy 53 = .ok (.aload 6, 2) := by decide +kernel
theorem dX6_copy_55 : decode cX6_copy 55 = .ok (.getfield 257, 3) := by decide +kernel
theorem dX6_copy_58 : decode cX6_copy 58 = .ok (.aload 7, 2) := by decide +kernel
theorem dX6_copy_60 : decode cX6_copy 60 = .ok (.getfield 257, 3) := by decide +kernel
theorem dX6_copy_63 : decode cX6_copy 63 = .ok (.if_icmp .eq 9, 3) := by decide +kernel
theorem dX6_copy_66 : decode cX6_copy 66 = .ok (.aload_n 0, 1) := by decide +kernel
theorem dX6_copy_67 : decode cX6_copy 67 = .ok (.iconst 2, 1) := by decide +kernel
theorem dX6_copy_68 : decode cX6_copy 68 = .ok (.invokevirtual 77, 3) := by decide +kernel
theorem dX6_copy_71 : decode cX6_copy 71 = .ok (.ireturn, 1) := by decide +kernel
theorem dX6_copy_72 : decode cX6_copy 72 = .ok (.aload 6, 2) := by decide +kernel
theorem dX6_copy_74 : decode cX6_copy 74 = .ok (.iload_n 2, 1) := by decide +kernel
theorem dX6_copy_75 : decode cX6_copy 75 = .ok (.iload 5, 2) := by decide +kernel
theorem dX6_copy_77 : decode cX6_copy 77 = .ok (.invokevirtual 73, 3) := by decide +kernel
theorem dX6_copy_80 : decode cX6_copy 80 = .ok (.ifCond .eq 15, 3) := by decide +kernel
theorem dX6_copy_83 : decode cX6_copy 83 = .ok (.aload 7, 2) := by decide +kernel
theorem dX6_copy_85 : decode cX6_copy 85 = .ok (.iload 4, 2) := by decide +kernel
theorem dX6_copy_87 : decode cX6_copy 87 = .ok (.iload 5, 2) := by decide +kernel
theorem dX6_copy_89 : decode cX6_copy 89 = .ok (.invokevirtual 73, 3) := by decide +kernel
theorem dX6_copy_92 : decode cX6_copy 92 = .ok (.ifCond .ne 9, 3) := by decide +kernel
theorem dX6_copy_95 : decode cX6_copy 95 = .ok (.aload_n 0, 1) := by decide +kernel
theorem dX6_copy_96 : decode cX6_copy 96 = .ok (.iconst 3, 1) := by decide +kernel
theorem dX6_copy_97 : decode cX6_copy 97 = .ok (.invokevirtual 77, 3) := by decide +kernel
theorem dX6_copy_100 : decode cX6_copy 100 = .ok (.ireturn, 1) := by decide +kernel
theorem dX6_copy_101 : decode cX6_copy 101 = .ok (.aload 6, 2) := by decide +kernel
theorem dX6_copy_103 : decode cX6_copy 103 = .ok (.getfield 260, 3) := by decide +kernel
theorem dX6_copy_106 : decode cX6_copy 106 = .ok (.iload_n 2, 1) := by decide +kernel
theorem dX6_copy_107 : decode cX6_copy 107 = .ok (.aload 7, 2) := by decide +kernel
theorem dX6_copy_109 : decode cX6_copy 109 = .ok (.getfield 260, 3) := by decide +kernel
theorem dX6_copy_112 : decode cX6_copy 112 = .ok (.iload 4, 2) := by decide +kernel
theorem dX6_copy_114 : decode cX6_copy 114 = .ok (.iload 5, 2) := by decide +kernel
theorem dX6_copy_116 : decode cX6_copy 116 = .ok (.invokestatic 231, 3) := by decide +kernel
theorem dX6_copy_119 : decode cX6_copy 119 = .ok (.iload 5, 2) := by decide +kernel
theorem dX6_copy_121 : decode cX6_copy 121 = .ok (.ireturn, 1) := by decide +kernel
theorem dX6_tell_0 : decode cX6_tell 0 = .ok (.aload_n 0, 1) := by decide +kernel
theorem dX6_tell_1 : decode cX6_tell 1 = .ok (.getfield 14, 3) := by decide +kernel
theorem dX6_tell_4 : decode cX6_tell 4 = .ok (.iload_n 1, 1) := by decide +kernel
theorem dX6_tell_5 : decode cX6_tell 5 = .ok (.invokevirtual 113, 3) := by decide +kernel
theorem dX6_tell_8 : decode cX6_tell 8 = .ok (.ifCond .ne 5, 3) := by decide +kernel
theorem dX6_tell_11 : decode cX6_tell 11 = .ok (.iconst (-1), 1) := by decide +kernel
theorem dX6_tell_12 : decode cX6_tell 12 = .ok (.ireturn, 1) := by decide +kernel
theorem dX6_tell_13 : decode cX6_tell 13 = .ok (.aload_n 0, 1) := by decide +kernel
theorem dX6_tell_14 : decode cX6_tell 14 = .ok (.getfield 14, 3) := by decide +kernel
theorem dX6_tell_17 : decode cX6_tell 17 = .ok (.getfield 116, 3) := by decide +kernel
theorem dX6_tell_20 : decode cX6_tell 20 = .ok (.iload_n 1, 1) := by decide +kernel
theorem dX6_tell_21 : decode cX6_tell 21 = .ok (.iaload, 1) := by decide +kernel
theorem dX6_tell_22 : decode cX6_tell 22 = .ok (.lookupswitch 54 #[(1, 40), (2, 26)], 26) := by decide +kernel
theorem dX6_tell_48 : decode cX6_tell 48 = .ok (.aload_n 0, 1) := by decide +kernel
theorem dX6_tell_49 : decode cX6_tell 49 = .ok (.aload_n 0, 1) := by decide +kernel
theorem dX6_tell_50 : decode cX6_tell 50 = .ok (.getfield 14, 3) := by decide +kernel
theorem dX6_tell_53 : decode cX6_tell 53 = .ok (.getfield 119, 3) := by decide +kernel
theorem dX6_tell_56 : decode cX6_tell 56 = .ok (.iload_n 1, 1) := by decide +kernel
theorem dX6_tell_57 : decode cX6_tell 57 = .ok (.iaload, 1) := by decide +kernel
theorem dX6_tell_58 : decode cX6_tell 58 = .ok (.invokevirtual 263, 3) := by decide +kernel
theorem dX6_tell_61 : decode cX6_tell 61 = .ok (.ireturn, 1) := by decide +kernel
theorem dX6_tell_62 : decode cX6_tell 62 = .ok (.aload_n 0, 1) := by decide +kernel
theorem dX6_tell_63 : decode cX6_tell 63 = .ok (.aload_n 0, 1) := by decide +kernel
theorem dX6_tell_64 : decode cX6_tell 64 = .ok (.getfield 14, 3) := by decide +kernel
theorem dX6_tell_67 : decode cX6_tell 67 = .ok (.getfield 119, 3) := by decide +kernel
theorem dX6_tell_70 : decode cX6_tell 70 = .ok (.iload_n 1, 1) := by decide +kernel
theorem dX6_tell_71 : decode cX6_tell 71 = .ok (.iaload, 1) := by decide +kernel
theorem dX6_tell_72 : decode cX6_tell 72 = .ok (.invokevirtual 266, 3) := by decide +kernel
theorem dX6_tell_75 : decode cX6_tell 75 = .ok (.ireturn, 1) := by decide +kernel
theorem dX6_tell_76 : decode cX6_tell 76 = .ok (.aload_n 0, 1) := by decide +kernel
theorem dX6_tell_77 : decode cX6_tell 77 = .ok (.aload_n 0, 1) := by decide +kernel
theorem dX6_tell_78 : decode cX6_tell 78 = .ok (.getfield 14, 3) := by decide +kernel
theorem dX6_tell_81 : decode cX6_tell 81 = .ok (.getfield 119, 3) := by decide +kernel
theorem dX6_tell_84 : decode cX6_tell 84 = .ok (.iload_n 1, 1) := by decide +kernel
theorem dX6_tell_85 : decode cX6_tell 85 = .ok (.iaload, 1) := by decide +kernel
theorem dX6_tell_86 : decode cX6_tell 86 = .ok (.invokevirtual 269, 3) := by decide +kernel
theorem dX6_tell_89 : decode cX6_tell 89 = .ok (.ireturn, 1) := by decide +kernel
theorem dX6_plainBody_0 : decode cX6_plainBody 0 = .ok (.aload_n 0, 1) := by decide +kernel
theorem dX6_plainBody_1 : decode cX6_plainBody 1 = .ok (.iconst 1, 1) := by decide +kernel
theorem dX6_plainBody_2 : decode cX6_plainBody 2 = .ok (.invokevirtual 272, 3) := by decide +kernel
theorem dX6_plainBody_5 : decode cX6_plainBody 5 = .ok (.iload_n 1, 1) := by decide +kernel
theorem dX6_plainBody_6 : decode cX6_plainBody 6 = .ok (.ireturn, 1) := by decide +kernel
theorem dX6_broadBody_0 : decode cX6_broadBody 0 = .ok (.aload_n 0, 1) := by decide +kernel
theorem dX6_broadBody_1 : decode cX6_broadBody 1 = .ok (.iconst 2, 1) := by decide +kernel
theorem dX6_broadBody_2 : decode cX6_broadBody 2 = .ok (.invokevirtual 272, 3) := by decide +kernel
theorem dX6_broadBody_5 : decode cX6_broadBody 5 = .ok (.aload_n 0, 1) := by decide +kernel
theorem dX6_broadBody_6 : decode cX6_broadBody 6 = .ok (.iload_n 1, 1) := by decide +kernel
theorem dX6_broadBody_7 : decode cX6_broadBody 7 = .ok (.invokevirtual 269, 3) := by decide +kernel
theorem dX6_broadBody_10 : decode cX6_broadBody 10 = .ok (.bipush 100, 2) := by decide +kernel
theorem dX6_broadBody_12 : decode cX6_broadBody 12 = .ok (.iadd, 1) := by decide +kernel
theorem dX6_broadBody_13 : decode cX6_broadBody 13 = .ok (.ireturn, 1) := by decide +kernel
theorem dX6_doubleBody_0 : decode cX6_doubleBody 0 = .ok (.aload_n 0, 1) := by decide +kernel
theorem dX6_doubleBody_1 : decode cX6_doubleBody 1 = .ok (.iconst 3, 1) := by decide +kernel
theorem dX6_doubleBody_2 : decode cX6_doubleBody 2 = .ok (.invokevirtual 272, 3) := by decide +kernel
theorem dX6_doubleBody_5 : decode cX6_doubleBody 5 = .ok (.aload_n 0, 1) := by decide +kernel
theorem dX6_doubleBody_6 : decode cX6_doubleBody 6 = .ok (.iload_n 1, 1) := by decide +kernel
theorem dX6_doubleBody_7 : decode cX6_doubleBody 7 = .ok (.invokevirtual 266, 3) := by decide +kernel
theorem dX6_doubleBody_10 : decode cX6_doubleBody 10 = .ok (.istore_n 2, 1) := by decide +kernel
theorem dX6_doubleBody_11 : decode cX6_doubleBody 11 = .ok (.iload_n 2, 1) := by decide +kernel
theorem dX6_doubleBody_12 : decode cX6_doubleBody 12 = .ok (.aload_n 0, 1) := by decide +kernel
theorem dX6_doubleBody_13 : decode cX6_doubleBody 13 = .ok (.iload_n 1, 1) := by decide +kernel
theorem dX6_doubleBody_14 : decode cX6_doubleBody 14 = .ok (.invokevirtual 269, 3) := by decide +kernel
theorem dX6_doubleBody_17 : decode cX6_doubleBody 17 = .ok (.iadd, 1) := by decide +kernel
theorem dX6_doubleBody_18 : decode cX6_doubleBody 18 = .ok (.ireturn, 1) := by decide +kernel
theorem dX6_feel_0 : decode cX6_feel 0 = .ok (.aload_n 0, 1) := by decide +kernel
theorem dX6_feel_1 : decode cX6_feel 1 = .ok (.getfield 14, 3) := by decide +kernel
theorem dX6_feel_4 : decode cX6_feel 4 = .ok (.iload_n 1, 1) := by decide +kernel
theorem dX6_feel_5 : decode cX6_feel 5 = .ok (.invokevirtual 113, 3) := by decide +kernel
theorem dX6_feel_8 : decode cX6_feel 8 = .ok (.ifCond .ne 5, 3) := by decide +kernel
theorem dX6_feel_11 : decode cX6_feel 11 = .ok (.iconst (-1), 1) := by decide +kernel
theorem dX6_feel_12 : decode cX6_feel 12 = .ok (.ireturn, 1) := by decide +kernel
theorem dX6_feel_13 : decode cX6_feel 13 = .ok (.aload_n 0, 1) := by decide +kernel
theorem dX6_feel_14 : decode cX6_feel 14 = .ok (.getfield 14, 3) := by decide +kernel
theorem dX6_feel_17 : decode cX6_feel 17 = .ok (.getfield 116, 3) := by decide +kernel
theorem dX6_feel_20 : decode cX6_feel 20 = .ok (.iload_n 1, 1) := by decide +kernel
theorem dX6_feel_21 : decode cX6_feel 21 = .ok (.iaload, 1) := by decide +kernel
theorem dX6_feel_22 : decode cX6_feel 22 = .ok (.iconst 2, 1) := by decide +kernel
theorem dX6_feel_23 : decode cX6_feel 23 = .ok (.if_icmp .ne 10, 3) := by decide +kernel
theorem dX6_feel_26 : decode cX6_feel 26 = .ok (.aload_n 0, 1) := by decide +kernel
theorem dX6_feel_27 : decode cX6_feel 27 = .ok (.invokevirtual 276, 3) := by decide +kernel
theorem dX6_feel_30 : decode cX6_feel 30 = .ok (.goto 8, 3) := by decide +kernel
theorem dX6_feel_33 : decode cX6_feel 33 = .ok (.aload_n 0, 1) := by decide +kernel
theorem dX6_feel_34 : decode cX6_feel 34 = .ok (.iload_n 1, 1) := by decide +kernel
theorem dX6_feel_35 : decode cX6_feel 35 = .ok (.invokevirtual 279, 3) := by decide +kernel
theorem dX6_feel_38 : decode cX6_feel 38 = .ok (.ireturn, 1) := by decide +kernel
theorem dX6_lentBody_0 : decode cX6_lentBody 0 = .ok (.aload_n 0, 1) := by decide +kernel
theorem dX6_lentBody_1 : decode cX6_lentBody 1 = .ok (.iconst 4, 1) := by decide +kernel
theorem dX6_lentBody_2 : decode cX6_lentBody 2 = .ok (.invokevirtual 272, 3) := by decide +kernel
theorem dX6_lentBody_5 : decode cX6_lentBody 5 = .ok (.iload_n 1, 1) := by decide +kernel
theorem dX6_lentBody_6 : decode cX6_lentBody 6 = .ok (.ireturn, 1) := by decide +kernel
theorem dX6_ownBody_0 : decode cX6_ownBody 0 = .ok (.aload_n 0, 1) := by decide +kernel
theorem dX6_ownBody_1 : decode cX6_ownBody 1 = .ok (.iconst 5, 1) := by decide +kernel
theorem dX6_ownBody_2 : decode cX6_ownBody 2 = .ok (.invokevirtual 272, 3) := by decide +kernel
theorem dX6_ownBody_5 : decode cX6_ownBody 5 = .ok (.bipush 70, 2) := by decide +kernel
theorem dX6_ownBody_7 : decode cX6_ownBody 7 = .ok (.ireturn, 1) := by decide +kernel
theorem dX6_leave_0 : decode cX6_leave 0 = .ok (.aload_n 0, 1) := by decide +kernel
theorem dX6_leave_1 : decode cX6_leave 1 = .ok (.bipush 31, 2) := by decide +kernel
theorem dX6_leave_3 : decode cX6_leave 3 = .ok (.aload_n 0, 1) := by decide +kernel
theorem dX6_leave_4 : decode cX6_leave 4 = .ok (.getfield 282, 3) := by decide +kernel
theorem dX6_leave_7 : decode cX6_leave 7 = .ok (.imul, 1) := by decide +kernel
theorem dX6_leave_8 : decode cX6_leave 8 = .ok (.iload_n 1, 1) := by decide +kernel
theorem dX6_leave_9 : decode cX6_leave 9 = .ok (.iadd, 1) := by decide +kernel
theorem dX6_leave_10 : decode cX6_leave 10 = .ok (.putfield 282, 3) := by decide +kernel
theorem dX6_leave_13 : decode cX6_leave 13 = .ok (.return_, 1) := by decide +kernel
theorem dX6_as_0 : decode cX6_as 0 = .ok (.aload_n 0, 1) := by decide +kernel
theorem dX6_as_1 : decode cX6_as 1 = .ok (.iconst 0, 1) := by decide +kernel
theorem dX6_as_2 : decode cX6_as 2 = .ok (.putfield 57, 3) := by decide +kernel
theorem dX6_as_5 : decode cX6_as 5 = .ok (.aload_n 0, 1) := by decide +kernel
theorem dX6_as_6 : decode cX6_as 6 = .ok (.getfield 14, 3) := by decide +kernel
theorem dX6_as_9 : decode cX6_as 9 = .ok (.iload_n 1, 1) := by decide +kernel
theorem dX6_as_10 : decode cX6_as 10 = .ok (.invokevirtual 113, 3) := by decide +kernel
theorem dX6_as_13 : decode cX6_as 13 = .ok (.ifCond .ne 5, 3) := by decide +kernel
theorem dX6_as_16 : decode cX6_as 16 = .ok (.iconst (-1), 1) := by decide +kernel
theorem dX6_as_17 : decode cX6_as 17 = .ok (.ireturn, 1) := by decide +kernel
theorem dX6_as_18 : decode cX6_as 18 = .ok (.iload_n 2, 1) := by decide +kernel
theorem dX6_as_19 : decode cX6_as 19 = .ok (.iconst 0, 1) := by decide +kernel
theorem dX6_as_20 : decode cX6_as 20 = .ok (.iconst 2, 1) := by decide +kernel
theorem dX6_as_21 : decode cX6_as 21 = .ok (.invokestatic 134, 3) := by decide +kernel
theorem dX6_as_24 : decode cX6_as 24 = .ok (.ifCond .ne 6, 3) := by decide +kernel
theorem dX6_as_27 : decode cX6_as 27 = .ok (.bipush (-2), 2) := by decide +kernel
theorem dX6_as_29 : decode cX6_as 29 = .ok (.ireturn, 1) := by decide +kernel
theorem dX6_as_30 : decode cX6_as 30 = .ok (.aload_n 0, 1) := by decide +kernel
theorem dX6_as_31 : decode cX6_as 31 = .ok (.getfield 14, 3) := by decide +kernel
theorem dX6_as_34 : decode cX6_as 34 = .ok (.getfield 116, 3) := by decide +kernel
theorem dX6_as_37 : decode cX6_as 37 = .ok (.iload_n 1, 1) := by decide +kernel
theorem dX6_as_38 : decode cX6_as 38 = .ok (.iaload, 1) := by decide +kernel
theorem dX6_as_39 : decode cX6_as 39 = .ok (.iload_n 2, 1) := by decide +kernel
theorem dX6_as_40 : decode cX6_as 40 = .ok (.if_icmp .lt 7, 3) := by decide +kernel
theorem dX6_as_43 : decode cX6_as 43 = .ok (.iconst 1, 1) := by decide +kernel
theorem dX6_as_44 : decode cX6_as 44 = .ok (.goto 8, 3) := by decide +kernel
theorem dX6_as_47 : decode cX6_as 47 = .ok (.aload_n 0, 1) := by decide +kernel
theorem dX6_as_48 : decode cX6_as 48 = .ok (.iconst 2, 1) := by decide +kernel
theorem dX6_as_49 : decode cX6_as 49 = .ok (.invokevirtual 77, 3) := by decide +kernel
theorem dX6_as_52 : decode cX6_as 52 = .ok (.ireturn, 1) := by decide +kernel
theorem dX6_trace_0 : decode cX6_trace 0 = .ok (.aload_n 0, 1) := by decide +kernel
theorem dX6_trace_1 : decode cX6_trace 1 = .ok (.getfield 282, 3) := by decide +kernel
theorem dX6_trace_4 : decode cX6_trace 4 = .ok (.ireturn, 1) := by decide +kernel
theorem dX6_fault_0 : decode cX6_fault 0 = .ok (.aload_n 0, 1) := by decide +kernel
theorem dX6_fault_1 : decode cX6_fault 1 = .ok (.getfield 57, 3) := by decide +kernel
theorem dX6_fault_4 : decode cX6_fault 4 = .ok (.ireturn, 1) := by decide +kernel
theorem dX6_many_0 : decode cX6_many 0 = .ok (.iload_n 1, 1) := by decide +kernel
theorem dX6_many_1 : decode cX6_many 1 = .ok (.tableswitch 82 0 4 #[35, 43, 51, 66, 74], 35) := by decide +kernel
theorem dX6_many_36 : decode cX6_many 36 = .ok (.aload_n 0, 1) := by decide +kernel
theorem dX6_many_37 : decode cX6_many 37 = .ok (.getfield 14, 3) := by decide +kernel
theorem dX6_many_40 : decode cX6_many 40 = .ok (.getfield 193, 3) := by decide +kernel
theorem dX6_many_43 : decode cX6_many 43 = .ok (.ireturn, 1) := by decide +kernel
theorem dX6_many_44 : decode cX6_many 44 = .ok (.aload_n 0, 1) := by decide +kernel
theorem dX6_many_45 : decode cX6_many 45 = .ok (.getfield 14, 3) := by decide +kernel
theorem dX6_many_48 : decode cX6_many 48 = .ok (.getfield 98, 3) := by decide +kernel
theorem dX6_many_51 : decode cX6_many 51 = .ok (.ireturn, 1) := by decide +kernel
theorem dX6_many_52 : decode cX6_many 52 = .ok (.aload_n 0, 1) := by decide +kernel
theorem dX6_many_53 : decode cX6_many 53 = .ok (.getfield 14, 3) := by decide +kernel
theorem dX6_many_56 : decode cX6_many 56 = .ok (.aload_n 0, 1) := by decide +kernel
theorem dX6_many_57 : decode cX6_many 57 = .ok (.getfield 14, 3) := by decide +kernel
theorem dX6_many_60 : decode cX6_many 60 = .ok (.getfield 107, 3) := by decide +kernel
theorem dX6_many_63 : decode cX6_many 63 = .ok (.invokevirtual 145, 3) := by decide +kernel
theorem dX6_many_66 : decode cX6_many 66 = .ok (.ireturn, 1) := by decide +kernel
theorem dX6_many_67 : decode cX6_many 67 = .ok (.aload_n 0, 1) := by decide +kernel
theorem dX6_many_68 : decode cX6_many 68 = .ok (.getfield 14, 3) := by decide +kernel
theorem dX6_many_71 : decode cX6_many 71 = .ok (.invokevirtual 285, 3) := by decide +kernel
theorem dX6_many_74 : decode cX6_many 74 = .ok (.ireturn, 1) := by decide +kernel
theorem dX6_many_75 : decode cX6_many 75 = .ok (.aload_n 0, 1) := by decide +kernel
theorem dX6_many_76 : decode cX6_many 76 = .ok (.getfield 35, 3) := by decide +kernel
theorem dX6_many_79 : decode cX6_many 79 = .ok (.getfield 92, 3) := by decide +kernel
theorem dX6_many_82 : decode cX6_many 82 = .ok (.ireturn, 1) := by decide +kernel
theorem dX6_many_83 : decode cX6_many 83 = .ok (.bipush (-2), 2) := by decide +kernel
theorem dX6_many_85 : decode cX6_many 85 = .ok (.ireturn, 1) := by decide +kernel
theorem dX6_sheetAt_0 : decode cX6_sheetAt 0 = .ok (.iload_n 1, 1) := by decide +kernel
theorem dX6_sheetAt_1 : decode cX6_sheetAt 1 = .ok (.ifCond .lt 17, 3) := by decide +kernel
theorem dX6_sheetAt_4 : decode cX6_sheetAt 4 = .ok (.iload_n 1, 1) := by decide +kernel
theorem dX6_sheetAt_5 : decode cX6_sheetAt 5 = .ok (.iconst 4, 1) := by decide +kernel
theorem dX6_sheetAt_6 : decode cX6_sheetAt 6 = .ok (.if_icmp .ge 12, 3) := by decide +kernel
theorem dX6_sheetAt_9 : decode cX6_sheetAt 9 = .ok (.aload_n 0, 1) := by decide +kernel
theorem dX6_sheetAt_10 : decode cX6_sheetAt 10 = .ok (.getfield 48, 3) := by decide +kernel
theorem dX6_sheetAt_13 : decode cX6_sheetAt 13 = .ok (.iload_n 1, 1) := by decide +kernel
theorem dX6_sheetAt_14 : decode cX6_sheetAt 14 = .ok (.aaload, 1) := by decide +kernel
theorem dX6_sheetAt_15 : decode cX6_sheetAt 15 = .ok (.goto 4, 3) := by decide +kernel
theorem dX6_sheetAt_18 : decode cX6_sheetAt 18 = .ok (.aconst_null, 1) := by decide +kernel
theorem dX6_sheetAt_19 : decode cX6_sheetAt 19 = .ok (.areturn, 1) := by decide +kernel
theorem dX6_faulted_0 : decode cX6_faulted 0 = .ok (.aload_n 0, 1) := by decide +kernel
theorem dX6_faulted_1 : decode cX6_faulted 1 = .ok (.iload_n 1, 1) := by decide +kernel
theorem dX6_faulted_2 : decode cX6_faulted 2 = .ok (.putfield 57, 3) := by decide +kernel
theorem dX6_faulted_5 : decode cX6_faulted 5 = .ok (.bipush (-10), 2) := by decide +kernel
theorem dX6_faulted_7 : decode cX6_faulted 7 = .ok (.iload_n 1, 1) := by decide +kernel
theorem dX6_faulted_8 : decode cX6_faulted 8 = .ok (.isub, 1) := by decide +kernel
theorem dX6_faulted_9 : decode cX6_faulted 9 = .ok (.ireturn, 1) := by decide +kernel
theorem dX6_isLane_0 : decode cX6_isLane 0 = .ok (.iload_n 0, 1) := by decide +kernel
theorem dX6_isLane_1 : decode cX6_isLane 1 = .ok (.iconst 0, 1) := by decide +kernel
theorem dX6_isLane_2 : decode cX6_isLane 2 = .ok (.iconst 2, 1) := by decide +kernel
theorem dX6_isLane_3 : decode cX6_isLane 3 = .ok (.invokestatic 134, 3) := by decide +kernel
theorem dX6_isLane_6 : decode cX6_isLane 6 = .ok (.ireturn, 1) := by decide +kernel
theorem dX6_isIn_0 : decode cX6_isIn 0 = .ok (.iload_n 0, 1) := by decide +kernel
theorem dX6_isIn_1 : decode cX6_isIn 1 = .ok (.iload_n 1, 1) := by decide +kernel
theorem dX6_isIn_2 : decode cX6_isIn 2 = .ok (.if_icmp .lt 12, 3) := by decide +kernel
theorem dX6_isIn_5 : decode cX6_isIn 5 = .ok (.iload_n 0, 1) := by decide +kernel
theorem dX6_isIn_6 : decode cX6_isIn 6 = .ok (.iload_n 2, 1) := by decide +kernel
theorem dX6_isIn_7 : decode cX6_isIn 7 = .ok (.if_icmp .gt 7, 3) := by decide +kernel
theorem dX6_isIn_10 : decode cX6_isIn 10 = .ok (.iconst 1, 1) := by decide +kernel
theorem dX6_isIn_11 : decode cX6_isIn 11 = .ok (.goto 4, 3) := by decide +kernel
theorem dX6_isIn_14 : decode cX6_isIn 14 = .ok (.iconst 0, 1) := by decide +kernel
theorem dX6_isIn_15 : decode cX6_isIn 15 = .ok (.ireturn, 1) := by decide +kernel
theorem dX6_wrapped_0 : decode cX6_wrapped 0 = .ok (.iload_n 1, 1) := by decide +kernel
theorem dX6_wrapped_1 : decode cX6_wrapped 1 = .ok (.iconst 1, 1) := by decide +kernel
theorem dX6_wrapped_2 : decode cX6_wrapped 2 = .ok (.if_icmp .ge 7, 3) := by decide +kernel
theorem dX6_wrapped_5 : decode cX6_wrapped 5 = .ok (.iconst 0, 1) := by decide +kernel
theorem dX6_wrapped_6 : decode cX6_wrapped 6 = .ok (.goto 8, 3) := by decide +kernel
theorem dX6_wrapped_9 : decode cX6_wrapped 9 = .ok (.iload_n 0, 1) := by decide +kernel
theorem dX6_wrapped_10 : decode cX6_wrapped 10 = .ok (.iload_n 1, 1) := by decide +kernel
theorem dX6_wrapped_11 : decode cX6_wrapped 11 = .ok (.invokestatic 288, 3) := by decide +kernel
theorem dX6_wrapped_14 : decode cX6_wrapped 14 = .ok (.ireturn, 1) := by decide +kernel
theorem dX7_init_0 : decode cX7_init 0 = .ok (.aload_n 0, 1) := by decide +kernel
theorem dX7_init_1 : decode cX7_init 1 = .ok (.invokespecial 1, 3) := by decide +kernel
theorem dX7_init_4 : decode cX7_init 4 = .ok (.aload_n 0, 1) := by decide +kernel
theorem dX7_init_5 : decode cX7_init 5 = .ok (.iconst 4, 1) := by decide +kernel
theorem dX7_init_6 : decode cX7_init 6 = .ok (.newarray .int, 2) := by decide +kernel
theorem dX7_init_8 : decode cX7_init 8 = .ok (.dup, 1) := by decide +kernel
theorem dX7_init_9 : decode cX7_init 9 = .ok (.iconst 0, 1) := by decide +kernel
theorem dX7_init_10 : decode cX7_init 10 = .ok (.bipush (-9), 2) := by decide +kernel
theorem dX7_init_12 : decode cX7_init 12 = .ok (.iastore, 1) := by decide +kernel
theorem dX7_init_13 : decode cX7_init 13 = .ok (.dup, 1) := by decide +kernel
theorem dX7_init_14 : decode cX7_init 14 = .ok (.iconst 1, 1) := by decide +kernel
theorem dX7_init_15 : decode cX7_init 15 = .ok (.bipush (-9), 2) := by decide +kernel
theorem dX7_init_17 : decode cX7_init 17 = .ok (.iastore, 1) := by decide +kernel
theorem dX7_init_18 : decode cX7_init 18 = .ok (.dup, 1) := by decide +kernel
theorem dX7_init_19 : decode cX7_init 19 = .ok (.iconst 2, 1) := by decide +kernel
theorem dX7_init_20 : decode cX7_init 20 = .ok (.bipush (-9), 2) := by decide +kernel
theorem dX7_init_22 : decode cX7_init 22 = .ok (.iastore, 1) := by decide +kernel
theorem dX7_init_23 : decode cX7_init 23 = .ok (.dup, 1) := by decide +kernel
theorem dX7_init_24 : decode cX7_init 24 = .ok (.iconst 3, 1) := by decide +kernel
theorem dX7_init_25 : decode cX7_init 25 = .ok (.bipush (-9), 2) := by decide +kernel
theorem dX7_init_27 : decode cX7_init 27 = .ok (.iastore, 1) := by decide +kernel
theorem dX7_init_28 : decode cX7_init 28 = .ok (.putfield 9, 3) := by decide +kernel
theorem dX7_init_31 : decode cX7_init 31 = .ok (.aload_n 0, 1) := by decide +kernel
theorem dX7_init_32 : decode cX7_init 32 = .ok (.iconst 4, 1) := by decide +kernel
theorem dX7_init_33 : decode cX7_init 33 = .ok (.newarray .int, 2) := by decide +kernel
theorem dX7_init_35 : decode cX7_init 35 = .ok (.putfield 13, 3) := by decide +kernel
theorem dX7_init_38 : decode cX7_init 38 = .ok (.aload_n 0, 1) := by decide +kernel
theorem dX7_init_39 : decode cX7_init 39 = .ok (.sipush 240, 3) := by decide +kernel
theorem dX7_init_42 : decode cX7_init 42 = .ok (.newarray .int, 2) := by decide +kernel
theorem dX7_init_44 : decode cX7_init 44 = .ok (.putfield 16, 3) := by decide +kernel
theorem dX7_init_47 : decode cX7_init 47 = .ok (.aload_n 0, 1) := by decide +kernel
theorem dX7_init_48 : decode cX7_init 48 = .ok (.iconst 5, 1) := by decide +kernel
theorem dX7_init_49 : decode cX7_init 49 = .ok (.newarray .int, 2) := by decide +kernel
theorem dX7_init_51 : decode cX7_init 51 = .ok (.putfield 19, 3) := by decide +kernel
theorem dX7_init_54 : decode cX7_init 54 = .ok (.aload_n 0, 1) := by decide +kernel
theorem dX7_init_55 : decode cX7_init 55 = .ok (.iconst 5, 1) := by decide +kernel
theorem dX7_init_56 : decode cX7_init 56 = .ok (.newarray .int, 2) := by decide +kernel
theorem dX7_init_58 : decode cX7_init 58 = .ok (.putfield 22, 3) := by decide +kernel
theorem dX7_init_61 : decode cX7_init 61 = .ok (.aload_n 0, 1) := by decide +kernel
theorem dX7_init_62 : decode cX7_init 62 = .ok (.iconst 5, 1) := by decide +kernel
theorem dX7_init_63 : decode cX7_init 63 = .ok (.newarray .int, 2) := by decide +kernel
theorem dX7_init_65 : decode cX7_init 65 = .ok (.putfield 25, 3) := by decide +kernel
theorem dX7_init_68 : decode cX7_init 68 = .ok (.aload_n 0, 1) := by decide +kernel
theorem dX7_init_69 : decode cX7_init 69 = .ok (.iconst 5, 1) := by decide +kernel
theorem dX7_init_70 : decode cX7_init 70 = .ok (.newarray .int, 2) := by decide +kernel
theorem dX7_init_72 : decode cX7_init 72 = .ok (.putfield 28, 3) := by decide +kernel
theorem dX7_init_75 : decode cX7_init 75 = .ok (.aload_n 0, 1) := by decide +kernel
theorem dX7_init_76 : decode cX7_init 76 = .ok (.iconst 5, 1) := by decide +kernel
theorem dX7_init_77 : decode cX7_init 77 = .ok (.newarray .int, 2) := by decide +kernel
theorem dX7_init_79 : decode cX7_init 79 = .ok (.putfield 31, 3) := by decide +kernel
theorem dX7_init_82 : decode cX7_init 82 = .ok (.aload_n 0, 1) := by decide +kernel
theorem dX7_init_83 : decode cX7_init 83 = .ok (.iconst 5, 1) := by decide +kernel
theorem dX7_init_84 : decode cX7_init 84 = .ok (.newarray .int, 2) := by decide +kernel
theorem dX7_init_86 : decode cX7_init 86 = .ok (.putfield 34, 3) := by decide +kernel
theorem dX7_init_89 : decode cX7_init 89 = .ok (.aload_n 0, 1) := by decide +kernel
theorem dX7_init_90 : decode cX7_init 90 = .ok (.iconst 5, 1) := by decide +kernel
theorem dX7_init_91 : decode cX7_init 91 = .ok (.newarray .int, 2) := by decide +kernel
theorem dX7_init_93 : decode cX7_init 93 = .ok (.putfield 37, 3) := by decide +kernel
theorem dX7_init_96 : decode cX7_init 96 = .ok (.aload_n 0, 1) := by decide +kernel
theorem dX7_init_97 : decode cX7_init 97 = .ok (.bipush 15, 2) := by decide +kernel
theorem dX7_init_99 : decode cX7_init 99 = .ok (.newarray .int, 2) := by decide +kernel
theorem dX7_init_101 : decode cX7_init 101 = .ok (.putfield 40, 3) := by decide +kernel
theorem dX7_init_104 : decode cX7_init 104 = .ok (.aload_n 0, 1) := by decide +kernel
theorem dX7_init_105 : decode cX7_init 105 = .ok (.iconst 5, 1) := by decide +kernel
theorem dX7_init_106 : decode cX7_init 106 = .ok (.newarray .int, 2) := by decide +kernel
theorem dX7_init_108 : decode cX7_init 108 = .ok (.putfield 43, 3) := by decide +kernel
theorem dX7_init_111 : decode cX7_init 111 = .ok (.aload_n 0, 1) := by decide +kernel
theorem dX7_init_112 : decode cX7_init 112 = .ok (.sipush 3125, 3) := by decide +kernel
theorem dX7_init_115 : decode cX7_init 115 = .ok (.newarray .int, 2) := by decide +kernel
theorem dX7_init_117 : decode cX7_init 117 = .ok (.putfield 46, 3) := by decide +kernel
theorem dX7_init_120 : decode cX7_init 120 = .ok (.aload_n 0, 1) := by decide +kernel
theorem dX7_init_121 : decode cX7_init 121 = .ok (.sipush 3125, 3) := by decide +kernel
theorem dX7_init_124 : decode cX7_init 124 = .ok (.newarray .int, 2) := by decide +kernel
theorem dX7_init_126 : decode cX7_init 126 = .ok (.putfield 49, 3) := by decide +kernel
theorem dX7_init_129 : decode cX7_init 129 = .ok (.aload_n 0, 1) := by decide +kernel
theorem dX7_init_130 : decode cX7_init 130 = .ok (.bipush 8, 2) := by decide +kernel
theorem dX7_init_132 : decode cX7_init 132 = .ok (.newarray .int, 2) := by decide +kernel
theorem dX7_init_134 : decode cX7_init 134 = .ok (.putfield 52, 3) := by decide +kernel
theorem dX7_init_137 : decode cX7_init 137 = .ok (.aload_n 0, 1) := by decide +kernel
theorem dX7_init_138 : decode cX7_init 138 = .ok (.bipush 8, 2) := by decide +kernel
theorem dX7_init_140 : decode cX7_init 140 = .ok (.newarray .int, 2) := by decide +kernel
theorem dX7_init_142 : decode cX7_init 142 = .ok (.putfield 55, 3) := by decide +kernel
theorem dX7_init_145 : decode cX7_init 145 = .ok (.aload_n 0, 1) := by decide +kernel
theorem dX7_init_146 : decode cX7_init 146 = .ok (.bipush 8, 2) := by decide +kernel
theorem dX7_init_148 : decode cX7_init 148 = .ok (.newarray .int, 2) := by decide +kernel
theorem dX7_init_150 : decode cX7_init 150 = .ok (.putfield 58, 3) := by decide +kernel
theorem dX7_init_153 : decode cX7_init 153 = .ok (.return_, 1) := by decide +kernel
theorem dX7_fails_0 : decode cX7_fails 0 = .ok (.aload_n 0, 1) := by decide +kernel
theorem dX7_fails_1 : decode cX7_fails 1 = .ok (.iload_n 1, 1) := by decide +kernel
theorem dX7_fails_2 : decode cX7_fails 2 = .ok (.putfield 61, 3) := by decide +kernel
theorem dX7_fails_5 : decode cX7_fails 5 = .ok (.bipush (-10), 2) := by decide +kernel
theorem dX7_fails_7 : decode cX7_fails 7 = .ok (.iload_n 1, 1) := by decide +kernel
theorem dX7_fails_8 : decode cX7_fails 8 = .ok (.isub, 1) := by decide +kernel
theorem dX7_fails_9 : decode cX7_fails 9 = .ok (.ireturn, 1) := by decide +kernel
theorem dX7_lost_0 : decode cX7_lost 0 = .ok (.aload_n 0, 1) := by decide +kernel
theorem dX7_lost_1 : decode cX7_lost 1 = .ok (.iload_n 1, 1) := by decide +kernel
theorem dX7_lost_2 : decode cX7_lost 2 = .ok (.putfield 61, 3) := by decide +kernel
theorem dX7_lost_5 : decode cX7_lost 5 = .ok (.ldc2_w 65, 3) := by decide +kernel
theorem dX7_lost_8 : decode cX7_lost 8 = .ok (.lreturn, 1) := by decide +kernel
theorem dX7_within_0 : decode cX7_within 0 = .ok (.iload_n 0, 1) := by decide +kernel
theorem dX7_within_1 : decode cX7_within 1 = .ok (.iload_n 1, 1) := by decide +kernel
theorem dX7_within_2 : decode cX7_within 2 = .ok (.if_icmp .lt 12, 3) := by decide +kernel
theorem dX7_within_5 : decode cX7_within 5 = .ok (.iload_n 0, 1) := by decide +kernel
theorem dX7_within_6 : decode cX7_within 6 = .ok (.iload_n 2, 1) := by decide +kernel
theorem dX7_within_7 : decode cX7_within 7 = .ok (.if_icmp .gt 7, 3) := by decide +kernel
theorem dX7_within_10 : decode cX7_within 10 = .ok (.iconst 1, 1) := by decide +kernel
theorem dX7_within_11 : decode cX7_within 11 = .ok (.goto 4, 3) := by decide +kernel
theorem dX7_within_14 : decode cX7_within 14 = .ok (.iconst 0, 1) := by decide +kernel
theorem dX7_within_15 : decode cX7_within 15 = .ok (.ireturn, 1) := by decide +kernel
theorem dX7_isSheet_0 : decode cX7_isSheet 0 = .ok (.iload_n 0, 1) := by decide +kernel
theorem dX7_isSheet_1 : decode cX7_isSheet 1 = .ok (.iconst 0, 1) := by decide +kernel
theorem dX7_isSheet_2 : decode cX7_isSheet 2 = .ok (.iconst 3, 1) := by decide +kernel
theorem dX7_isSheet_3 : decode cX7_isSheet 3 = .ok (.invokestatic 67, 3) := by decide +kernel
theorem dX7_isSheet_6 : decode cX7_isSheet 6 = .ok (.ireturn, 1) := by decide +kernel
theorem dX7_isSort_0 : decode cX7_isSort 0 = .ok (.iload_n 0, 1) := by decide +kernel
theorem dX7_isSort_1 : decode cX7_isSort 1 = .ok (.iconst 0, 1) := by decide +kernel
theorem dX7_isSort_2 : decode cX7_isSort 2 = .ok (.iconst 2, 1) := by decide +kernel
theorem dX7_isSort_3 : decode cX7_isSort 3 = .ok (.invokestatic 67, 3) := by decide +kernel
theorem dX7_isSort_6 : decode cX7_isSort 6 = .ok (.ireturn, 1) := by decide +kernel
theorem dX7_against_0 : decode cX7_against 0 = .ok (.aload_n 0, 1) := by decide +kernel
theorem dX7_against_1 : decode cX7_against 1 = .ok (.getfield 9, 3) := by decide +kernel
theorem dX7_against_4 : decode cX7_against 4 = .ok (.iload_n 1, 1) := by decide +kernel
theorem dX7_against_5 : decode cX7_against 5 = .ok (.iaload, 1) := by decide +kernel
theorem dX7_against_6 : decode cX7_against 6 = .ok (.bipush (-9), 2) := by decide +kernel
theorem dX7_against_8 : decode cX7_against 8 = .ok (.if_icmp .eq 15, 3) := by decide +kernel
theorem dX7_against_11 : decode cX7_against 11 = .ok (.aload_n 0, 1) := by decide +kernel
theorem dX7_against_12 : decode cX7_against 12 = .ok (.getfield 9, 3) := by decide +kernel
theorem dX7_against_15 : decode cX7_against 15 = .ok (.iload_n 1, 1) := by decide +kernel
theorem dX7_against_16 : decode cX7_against 16 = .ok (.iaload, 1) := by decide +kernel
theorem dX7_against_17 : decode cX7_against 17 = .ok (.iload_n 2, 1) := by decide +kernel
theorem dX7_against_18 : decode cX7_against 18 = .ok (.if_icmp .eq 5, 3) := by decide +kernel
theorem dX7_against_21 : decode cX7_against 21 = .ok (.iconst 2, 1) := by decide +kernel
theorem dX7_against_22 : decode cX7_against 22 = .ok (.ireturn, 1) := by decide +kernel
theorem dX7_against_23 : decode cX7_against 23 = .ok (.aload_n 0, 1) := by decide +kernel
theorem dX7_against_24 : decode cX7_against 24 = .ok (.getfield 9, 3) := by decide +kernel
theorem dX7_against_27 : decode cX7_against 27 = .ok (.iload_n 1, 1) := by decide +kernel
theorem dX7_against_28 : decode cX7_against 28 = .ok (.iaload, 1) := by decide +kernel
theorem dX7_against_29 : decode cX7_against 29 = .ok (.bipush (-9), 2) := by decide +kernel
theorem dX7_against_31 : decode cX7_against 31 = .ok (.if_icmp .ne 5, 3) := by decide +kernel
theorem dX7_against_34 : decode cX7_against 34 = .ok (.iconst 1, 1) := by decide +kernel
theorem dX7_against_35 : decode cX7_against 35 = .ok (.ireturn, 1) := by decide +kernel
theorem dX7_against_36 : decode cX7_against 36 = .ok (.iload 4, 2) := by decide +kernel
theorem dX7_against_38 : decode cX7_against 38 = .ok (.ifCond .ge 5, 3) := by decide +kernel
theorem dX7_against_41 : decode cX7_against 41 = .ok (.iconst 4, 1) := by decide +kernel
theorem dX7_against_42 : decode cX7_against 42 = .ok (.ireturn, 1) := by decide +kernel
theorem dX7_against_43 : decode cX7_against 43 = .ok (.iload_n 3, 1) := by decide +kernel
theorem dX7_against_44 : decode cX7_against 44 = .ok (.ifCond .lt 26, 3) := by decide +kernel
theorem dX7_against_47 : decode cX7_against 47 = .ok (.iload_n 3, 1) := by decide +kernel
theorem dX7_against_48 : decode cX7_against 48 = .ok (.aload_n 0, 1) := by decide +kernel
theorem dX7_against_49 : decode cX7_against 49 = .ok (.getfield 13, 3) := by decide +kernel
theorem dX7_against_52 : decode cX7_against 52 = .ok (.iload_n 1, 1) := by decide +kernel
theorem dX7_against_53 : decode cX7_against 53 = .ok (.iaload, 1) := by decide +kernel
theorem dX7_against_54 : decode cX7_against 54 = .ok (.if_icmp .gt 16, 3) := by decide +kernel
theorem dX7_against_57 : decode cX7_against 57 = .ok (.iload 4, 2) := by decide +kernel
theorem dX7_against_59 : decode cX7_against 59 = .ok (.aload_n 0, 1) := by decide +kernel
theorem dX7_against_60 : decode cX7_against 60 = .ok (.getfield 13, 3) := by decide +kernel
theorem dX7_against_63 : decode cX7_against 63 = .ok (.iload_n 1, 1) := by decide +kernel
theorem dX7_against_64 : decode cX7_against 64 = .ok (.iaload, 1) := by decide +kernel
theorem dX7_against_65 : decode cX7_against 65 = .ok (.iload_n 3, 1) := by decide +kernel
theorem dX7_against_66 : decode cX7_against 66 = .ok (.isub, 1) := by decide +kernel
theorem dX7_against_67 : decode cX7_against 67 = .ok (.if_icmp .le 7, 3) := by decide +kernel
theorem dX7_against_70 : decode cX7_against 70 = .ok (.iconst 3, 1) := by decide +kernel
theorem dX7_against_71 : decode cX7_against 71 = .ok (.goto 4, 3) := by decide +kernel
theorem dX7_against_74 : decode cX7_against 74 = .ok (.iconst 0, 1) := by decide +kernel
theorem dX7_against_75 : decode cX7_against 75 = .ok (.ireturn, 1) := by decide +kernel
theorem dX7_isLamp_0 : decode cX7_isLamp 0 = .ok (.iload_n 1, 1) := by decide +kernel
theorem dX7_isLamp_1 : decode cX7_isLamp 1 = .ok (.ifCond .lt 15, 3) := by decide +kernel
theorem dX7_isLamp_4 : decode cX7_isLamp 4 = .ok (.iload_n 1, 1) := by decide +kernel
theorem dX7_isLamp_5 : decode cX7_isLamp 5 = .ok (.aload_n 0, 1) := by decide +kernel
theorem dX7_isLamp_6 : decode cX7_isLamp 6 = .ok (.getfield 71, 3) := by decide +kernel
theorem dX7_isLamp_9 : decode cX7_isLamp 9 = .ok (.if_icmp .ge 7, 3) := by decide +kernel
theorem dX7_isLamp_12 : decode cX7_isLamp 12 = .ok (.iconst 1, 1) := by decide +kernel
theorem dX7_isLamp_13 : decode cX7_isLamp 13 = .ok (.goto 4, 3) := by decide +kernel
theorem dX7_isLamp_16 : decode cX7_isLamp 16 = .ok (.iconst 0, 1) := by decide +kernel
theorem dX7_isLamp_17 : decode cX7_isLamp 17 = .ok (.ireturn, 1) := by decide +kernel
theorem dX7_isSwitch_0 : decode cX7_isSwitch 0 = .ok (.iload_n 1, 1) := by decide +kernel
theorem dX7_isSwitch_1 : decode cX7_isSwitch 1 = .ok (.ifCond .lt 15, 3) := by decide +kernel
theorem dX7_isSwitch_4 : decode cX7_isSwitch 4 = .ok (.iload_n 1, 1) := by decide +kernel
theorem dX7_isSwitch_5 : decode cX7_isSwitch 5 = .ok (.aload_n 0, 1) := by decide +kernel
theorem dX7_isSwitch_6 : decode cX7_isSwitch 6 = .ok (.getfield 74, 3) := by decide +kernel
theorem dX7_isSwitch_9 : decode cX7_isSwitch 9 = .ok (.if_icmp .ge 7, 3) := by decide +kernel
theorem dX7_isSwitch_12 : decode cX7_isSwitch 12 = .ok (.iconst 1, 1) := by decide +kernel
theorem dX7_isSwitch_13 : decode cX7_isSwitch 13 = .ok (.goto 4, 3) := by decide +kernel
theorem dX7_isSwitch_16 : decode cX7_isSwitch 16 = .ok (.iconst 0, 1) := by decide +kernel
theorem dX7_isSwitch_17 : decode cX7_isSwitch 17 = .ok (.ireturn, 1) := by decide +kernel
theorem dX7_isOf_0 : decode cX7_isOf 0 = .ok (.iload_n 0, 1) := by decide +kernel
theorem dX7_isOf_1 : decode cX7_isOf 1 = .ok (.iload_n 1, 1) := by decide +kernel
theorem dX7_isOf_2 : decode cX7_isOf 2 = .ok (.ishr, 1) := by decide +kernel
theorem dX7_isOf_3 : decode cX7_isOf 3 = .ok (.iconst 1, 1) := by decide +kernel
theorem dX7_isOf_4 : decode cX7_isOf 4 = .ok (.iand, 1) := by decide +kernel
theorem dX7_isOf_5 : decode cX7_isOf 5 = .ok (.iconst 1, 1) := by decide +kernel
theorem dX7_isOf_6 : decode cX7_isOf 6 = .ok (.if_icmp .ne 7, 3) := by decide +kernel
theorem dX7_isOf_9 : decode cX7_isOf 9 = .ok (.iconst 1, 1) := by decide +kernel
theorem dX7_isOf_10 : decode cX7_isOf 10 = .ok (.goto 4, 3) := by decide +kernel
theorem dX7_isOf_13 : decode cX7_isOf 13 = .ok (.iconst 0, 1) := by decide +kernel
theorem dX7_isOf_14 : decode cX7_isOf 14 = .ok (.ireturn, 1) := by decide +kernel
theorem dX7_digit_0 : decode cX7_digit 0 = .ok (.aload_n 0, 1) := by decide +kernel
theorem dX7_digit_1 : decode cX7_digit 1 = .ok (.getfield 77, 3) := by decide +kernel
theorem dX7_digit_4 : decode cX7_digit 4 = .ok (.iload_n 1, 1) := by decide +kernel
theorem dX7_digit_5 : decode cX7_digit 5 = .ok (.if_icmp .ge 26, 3) := by decide +kernel
theorem dX7_digit_8 : decode cX7_digit 8 = .ok (.aload_n 0, 1) := by decide +kernel
theorem dX7_digit_9 : decode cX7_digit 9 = .ok (.getfield 16, 3) := by decide +kernel
theorem dX7_digit_12 : decode cX7_digit 12 = .ok (.aload_n 0, 1) := by decide +kernel
theorem dX7_digit_13 : decode cX7_digit 13 = .ok (.getfield 77, 3) := by decide +kernel
theorem dX7_digit_16 : decode cX7_digit 16 = .ok (.iaload, 1) := by decide +kernel
theorem dX7_digit_17 : decode cX7_digit 17 = .ok (.bipush 48, 2) := by decide +kernel
theorem dX7_digit_19 : decode cX7_digit 19 = .ok (.iload_n 2, 1) := by decide +kernel
theorem dX7_digit_20 : decode cX7_digit 20 = .ok (.iadd, 1) := by decide +kernel
theorem dX7_digit_21 : decode cX7_digit 21 = .ok (.bipush 48, 2) := by decide +kernel
theorem dX7_digit_23 : decode cX7_digit 23 = .ok (.iload_n 3, 1) := by decide +kernel
theorem dX7_digit_24 : decode cX7_digit 24 = .ok (.iadd, 1) := by decide +kernel
theorem dX7_digit_25 : decode cX7_digit 25 = .ok (.invokestatic 67, 3) := by decide +kernel
theorem dX7_digit_28 : decode cX7_digit 28 = .ok (.ifCond .ne 6, 3) := by decide +kernel
theorem dX7_digit_31 : decode cX7_digit 31 = .ok (.bipush (-9), 2) := by decide +kernel
theorem dX7_digit_33 : decode cX7_digit 33 = .ok (.ireturn, 1) := by decide +kernel
theorem dX7_digit_34 : decode cX7_digit 34 = .ok (.aload_n 0, 1) := by decide +kernel
theorem dX7_digit_35 : decode cX7_digit 35 = .ok (.dup, 1) := by decide +kernel
theorem dX7_digit_36 : decode cX7_digit 36 = .ok (.getfield 77, 3) := by decide +kernel
theorem dX7_digit_39 : decode cX7_digit 39 = .ok (.iconst 1, 1) := by decide +kernel
theorem dX7_digit_40 : decode cX7_digit 40 = .ok (.iadd, 1) := by decide +kernel
theorem dX7_digit_41 : decode cX7_digit 41 = .ok (.putfield 77, 3) := by decide +kernel
theorem dX7_digit_44 : decode cX7_digit 44 = .ok (.aload_n 0, 1) := by decide +kernel
theorem dX7_digit_45 : decode cX7_digit 45 = .ok (.getfield 16, 3) := by decide +kernel
theorem dX7_digit_48 : decode cX7_digit 48 = .ok (.aload_n 0, 1) := by decide +kernel
theorem dX7_digit_49 : decode cX7_digit 49 = .ok (.getfield 77, 3) := by decide +kernel
theorem dX7_digit_52 : decode cX7_digit 52 = .ok (.iconst 1, 1) := by decide +kernel
theorem dX7_digit_53 : decode cX7_digit 53 = .ok (.isub, 1) := by decide +kernel
theorem dX7_digit_54 : decode cX7_digit 54 = .ok (.iaload, 1) := by decide +kernel
theorem dX7_digit_55 : decode cX7_digit 55 = .ok (.bipush 48, 2) := by decide +kernel
theorem dX7_digit_57 : decode cX7_digit 57 = .ok (.isub, 1) := by decide +kernel
theorem dX7_digit_58 : decode cX7_digit 58 = .ok (.ireturn, 1) := by decide +kernel
theorem dX7_isSign_0 : decode cX7_isSign 0 = .ok (.aload_n 0, 1) := by decide +kernel
theorem dX7_isSign_1 : decode cX7_isSign 1 = .ok (.getfield 77, 3) := by decide +kernel
theorem dX7_isSign_4 : decode cX7_isSign 4 = .ok (.iload_n 1, 1) := by decide +kernel
theorem dX7_isSign_5 : decode cX7_isSign 5 = .ok (.if_icmp .ge 16, 3) := by decide +kernel
theorem dX7_isSign_8 : decode cX7_isSign 8 = .ok (.aload_n 0, 1) := by decide +kernel
theorem dX7_isSign_9 : decode cX7_isSign 9 = .ok (.getfield 16, 3) := by decide +kernel
theorem dX7_isSign_12 : decode cX7_isSign 12 = .ok (.aload_n 0, 1) := by decide +kernel
theorem dX7_isSign_13 : decode cX7_isSign 13 = .ok (.getfield 77, 3) := by decide +kernel
theorem dX7_isSign_16 : decode cX7_isSign 16 = .ok (.iaload, 1) := by decide +kernel
theorem dX7_isSign_17 : decode cX7_isSign 17 = .ok (.iload_n 2, 1) := by decide +kernel
theorem dX7_isSign_18 : decode cX7_isSign 18 = .ok (.if_icmp .eq 5, 3) := by decide +kernel
theorem dX7_isSign_21 : decode cX7_isSign 21 = .ok (.iconst 0, 1) := by decide +kernel
theorem dX7_isSign_22 : decode cX7_isSign 22 = .ok (.ireturn, 1) := by decide +kernel
theorem dX7_isSign_23 : decode cX7_isSign 23 = .ok (.aload_n 0, 1) := by decide +kernel
theorem dX7_isSign_24 : decode cX7_isSign 24 = .ok (.dup, 1) := by decide +kernel
theorem dX7_isSign_25 : decode cX7_isSign 25 = .ok (.getfield 77, 3) := by decide +kernel
theorem dX7_isSign_28 : decode cX7_isSign 28 = .ok (.iconst 1, 1) := by decide +kernel
theorem dX7_isSign_29 : decode cX7_isSign 29 = .ok (.iadd, 1) := by decide +kernel
theorem dX7_isSign_30 : decode cX7_isSign 30 = .ok (.putfield 77, 3) := by decide +kernel
theorem dX7_isSign_33 : decode cX7_isSign 33 = .ok (.iconst 1, 1) := by decide +kernel
theorem dX7_isSign_34 : decode cX7_isSign 34 = .ok (.ireturn, 1) := by decide +kernel
theorem dX7_hall_0 : decode cX7_hall 0 = .ok (.aload_n 0, 1) := by decide +kernel
theorem dX7_hall_1 : decode cX7_hall 1 = .ok (.iconst 0, 1) := by decide +kernel
theorem dX7_hall_2 : decode cX7_hall 2 = .ok (.putfield 61, 3) := by decide +kernel
theorem dX7_hall_5 : decode cX7_hall 5 = .ok (.iload_n 1, 1) := by decide +kernel
theorem dX7_hall_6 : decode cX7_hall 6 = .ok (.invokestatic 80, 3) := by decide +kernel
theorem dX7_hall_9 : decode cX7_hall 9 = .ok (.ifCond .ne 5, 3) := by decide +kernel
theorem dX7_hall_12 : decode cX7_hall 12 = .ok (.iconst (-1), 1) := by decide +kernel
theorem dX7_hall_13 : decode cX7_hall 13 = .ok (.ireturn, 1) := by decide +kernel
theorem dX7_hall_14 : decode cX7_hall 14 = .ok (.iload_n 2, 1) := by decide +kernel
theorem dX7_hall_15 : decode cX7_hall 15 = .ok (.invokestatic 84, 3) := by decide +kernel
theorem dX7_hall_18 : decode cX7_hall 18 = .ok (.ifCond .ne 6, 3) := by decide +kernel
theorem dX7_hall_21 : decode cX7_hall 21 = .ok (.bipush (-2), 2) := by decide +kernel
theorem dX7_hall_23 : decode cX7_hall 23 = .ok (.ireturn, 1) := by decide +kernel
theorem dX7_hall_24 : decode cX7_hall 24 = .ok (.aload_n 0, 1) := by decide +kernel
theorem dX7_hall_25 : decode cX7_hall 25 = .ok (.iload_n 1, 1) := by decide +kernel
theorem dX7_hall_26 : decode cX7_hall 26 = .ok (.iload_n 2, 1) := by decide +kernel
theorem dX7_hall_27 : decode cX7_hall 27 = .ok (.iload_n 3, 1) := by decide +kernel
theorem dX7_hall_28 : decode cX7_hall 28 = .ok (.iload 4, 2) := by decide +kernel
theorem dX7_hall_30 : decode cX7_hall 30 = .ok (.invokevirtual 87, 3) := by decide +kernel
theorem dX7_hall_33 : decode cX7_hall 33 = .ok (.istore 5, 2) := by decide +kernel
theorem dX7_hall_35 : decode cX7_hall 35 = .ok (.iload 5, 2) := by decide +kernel
theorem dX7_hall_37 : decode cX7_hall 37 = .ok (.ifCond .eq 10, 3) := by decide +kernel
theorem dX7_hall_40 : decode cX7_hall 40 = .ok (.aload_n 0, 1) := by decide +kernel
theorem dX7_hall_41 : decode cX7_hall 41 = .ok (.iload 5, 2) := by decide +kernel
theorem dX7_hall_43 : decode cX7_hall 43 = .ok (.invokevirtual 91, 3) := by decide +kernel
theorem dX7_hall_46 : decode cX7_hall 46 = .ok (.ireturn, 1) := by decide +kernel
theorem dX7_hall_47 : decode cX7_hall 47 = .ok (.bipush 60, 2) := by decide +kernel
theorem dX7_hall_49 : decode cX7_hall 49 = .ok (.iload_n 1, 1) := by decide +kernel
theorem dX7_hall_50 : decode cX7_hall 50 = .ok (.imul, 1) := by decide +kernel
theorem dX7_hall_51 : decode cX7_hall 51 = .ok (.iload_n 3, 1) := by decide +kernel
theorem dX7_hall_52 : decode cX7_hall 52 = .ok (.iadd, 1) := by decide +kernel
theorem dX7_hall_53 : decode cX7_hall 53 = .ok (.istore 6, 2) := by decide +kernel
theorem dX7_hall_55 : decode cX7_hall 55 = .ok (.aload_n 0, 1) := by decide +kernel
theorem dX7_hall_56 : decode cX7_hall 56 = .ok (.iload 6, 2) := by decide +kernel
theorem dX7_hall_58 : decode cX7_hall 58 = .ok (.putfield 77, 3) := by decide +kernel
theorem dX7_hall_61 : decode cX7_hall 61 = .ok (.aload_n 0, 1) := by decide +kernel
theorem dX7_hall_62 : decode cX7_hall 62 = .ok (.iload 6, 2) := by decide +kernel
theorem dX7_hall_64 : decode cX7_hall 64 = .ok (.iload 4, 2) := by decide +kernel
theorem dX7_hall_66 : decode cX7_hall 66 = .ok (.iadd, 1) := by decide +kernel
theorem dX7_hall_67 : decode cX7_hall 67 = .ok (.invokevirtual 95, 3) := by decide +kernel
theorem dX7_hall_70 : decode cX7_hall 70 = .ok (.ifCond .ne 14, 3) := by decide +kernel
theorem dX7_hall_73 : decode cX7_hall 73 = .ok (.bipush (-100), 2) := by decide +kernel
theorem dX7_hall_75 : decode cX7_hall 75 = .ok (.aload_n 0, 1) := by decide +kernel
theorem dX7_hall_76 : decode cX7_hall 76 = .ok (.getfield 77, 3) := by decide +kernel
theorem dX7_hall_79 : decode cX7_hall 79 = .ok (.iload 6, 2) := by decide +kernel
theorem dX7_hall_81 : decode cX7_hall 81 = .ok (.isub, 1) := by decide +kernel
theorem dX7_hall_82 : decode cX7_hall 82 = .ok (.isub, 1) := by decide +kernel
theorem dX7_hall_83 : decode cX7_hall 83 = .ok (.ireturn, 1) := by decide +kernel
theorem dX7_hall_84 : decode cX7_hall 84 = .ok (.aload_n 0, 1) := by decide +kernel
theorem dX7_hall_85 : decode cX7_hall 85 = .ok (.invokevirtual 98, 3) := by decide +kernel
theorem dX7_hall_88 : decode cX7_hall 88 = .ok (.aload_n 0, 1) := by decide +kernel
theorem dX7_hall_89 : decode cX7_hall 89 = .ok (.getfield 74, 3) := by decide +kernel
theorem dX7_hall_92 : decode cX7_hall 92 = .ok (.ireturn, 1) := by decide +kernel
theorem dX7_takeHall_0 : decode cX7_takeHall 0 = .ok (.aload_n 0, 1) := by decide +kernel
theorem dX7_takeHall_1 : decode cX7_takeHall 1 = .ok (.aload_n 0, 1) := by decide +kernel
theorem dX7_takeHall_2 : decode cX7_takeHall 2 = .ok (.getfield 101, 3) := by decide +kernel
theorem dX7_takeHall_5 : decode cX7_takeHall 5 = .ok (.putfield 71, 3) := by decide +kernel
theorem dX7_takeHall_8 : decode cX7_takeHall 8 = .ok (.aload_n 0, 1) := by decide +kernel
theorem dX7_takeHall_9 : decode cX7_takeHall 9 = .ok (.aload_n 0, 1) := by decide +kernel
theorem dX7_takeHall_10 : decode cX7_takeHall 10 = .ok (.getfield 104, 3) := by decide +kernel
theorem dX7_takeHall_13 : decode cX7_takeHall 13 = .ok (.putfield 74, 3) := by decide +kernel
theorem dX7_takeHall_16 : decode cX7_takeHall 16 = .ok (.iconst 0, 1) := by decide +kernel
theorem dX7_takeHall_17 : decode cX7_takeHall 17 = .ok (.istore_n 1, 1) := by decide +kernel
theorem dX7_takeHall_18 : decode cX7_takeHall 18 = .ok (.iload_n 1, 1) := by decide +kernel
theorem dX7_takeHall_19 : decode cX7_takeHall 19 = .ok (.aload_n 0, 1) := by decide +kernel
theorem dX7_takeHall_20 : decode cX7_takeHall 20 = .ok (.getfield 71, 3) := by decide +kernel
theorem dX7_takeHall_23 : decode cX7_takeHall 23 = .ok (.if_icmp .ge 28, 3) := by decide +kernel
theorem dX7_takeHall_26 : decode cX7_takeHall 26 = .ok (.aload_n 0, 1) := by decide +kernel
theorem dX7_takeHall_27 : decode cX7_takeHall 27 = .ok (.getfield 19, 3) := by decide +kernel
theorem dX7_takeHall_30 : decode cX7_takeHall 30 = .ok (.iload_n 1, 1) := by decide +kernel
theorem dX7_takeHall_31 : decode cX7_takeHall 31 = .ok (.aload_n 0, 1) := by decide +kernel
theorem dX7_takeHall_32 : decode cX7_takeHall 32 = .ok (.getfield 37, 3) := by decide +kernel
theorem dX7_takeHall_35 : decode cX7_takeHall 35 = .ok (.iload_n 1, 1) := by decide +kernel
theorem dX7_takeHall_36 : decode cX7_takeHall 36 = .ok (.iaload, 1) := by decide +kernel
theorem dX7_takeHall_37 : decode cX7_takeHall 37 = .ok (.iastore, 1) := by decide +kernel
theorem dX7_takeHall_38 : decode cX7_takeHall 38 = .ok (.aload_n 0, 1) := by decide +kernel
theorem dX7_takeHall_39 : decode cX7_takeHall 39 = .ok (.getfield 22, 3) := by decide +kernel
theorem dX7_takeHall_42 : decode cX7_takeHall 42 = .ok (.iload_n 1, 1) := by decide +kernel
theorem dX7_takeHall_43 : decode cX7_takeHall 43 = .ok (.iconst 0, 1) := by decide +kernel
theorem dX7_takeHall_44 : decode cX7_takeHall 44 = .ok (.iastore, 1) := by decide +kernel
theorem dX7_takeHall_45 : decode cX7_takeHall 45 = .ok (.iinc 1 1, 3) := by decide +kernel
theorem dX7_takeHall_48 : decode cX7_takeHall 48 = .ok (.goto (-30), 3) := by decide +kernel
theorem dX7_takeHall_51 : decode cX7_takeHall 51 = .ok (.iconst 0, 1) := by decide +kernel
theorem dX7_takeHall_52 : decode cX7_takeHall 52 = .ok (.istore_n 1, 1) := by decide +kernel
theorem dX7_takeHall_53 : decode cX7_takeHall 53 = .ok (.iload_n 1, 1) := by decide +kernel
theorem dX7_takeHall_54 : decode cX7_takeHall 54 = .ok (.aload_n 0, 1) := by decide +kernel
theorem dX7_takeHall_55 : decode cX7_takeHall 55 = .ok (.getfield 74, 3) := by decide +kernel
theorem dX7_takeHall_58 : decode cX7_takeHall 58 = .ok (.if_icmp .ge 62, 3) := by decide +kernel
theorem dX7_takeHall_61 : decode cX7_takeHall 61 = .ok (.aload_n 0, 1) := by decide +kernel
theorem dX7_takeHall_62 : decode cX7_takeHall 62 = .ok (.getfield 25, 3) := by decide +kernel
theorem dX7_takeHall_65 : decode cX7_takeHall 65 = .ok (.iload_n 1, 1) := by decide +kernel
theorem dX7_takeHall_66 : decode cX7_takeHall 66 = .ok (.aload_n 0, 1) := by decide +kernel
theorem dX7_takeHall_67 : decode cX7_takeHall 67 = .ok (.getfield 40, 3) := by decide +kernel
theorem dX7_takeHall_70 : decode cX7_takeHall 70 = .ok (.iconst 3, 1) := by decide +kernel
theorem dX7_takeHall_71 : decode cX7_takeHall 71 = .ok (.iload_n 1, 1) := by decide +kernel
theorem dX7_takeHall_72 : decode cX7_takeHall 72 = .ok (.imul, 1) := by decide +kernel
theorem dX7_takeHall_73 : decode cX7_takeHall 73 = .ok (.iaload, 1) := by decide +kernel
theorem dX7_takeHall_74 : decode cX7_takeHall 74 = .ok (.iastore, 1) := by decide +kernel
theorem dX7_takeHall_75 : decode cX7_takeHall 75 = .ok (.aload_n 0, 1) := by decide +kernel
theorem dX7_takeHall_76 : decode cX7_takeHall 76 = .ok (.getfield 28, 3) := by decide +kernel
theorem dX7_takeHall_79 : decode cX7_takeHall 79 = .ok (.iload_n 1, 1) := by decide +kernel
theorem dX7_takeHall_80 : decode cX7_takeHall 80 = .ok (.aload_n 0, 1) := by decide +kernel
theorem dX7_takeHall_81 : decode cX7_takeHall 81 = .ok (.getfield 40, 3) := by decide +kernel
theorem dX7_takeHall_84 : decode cX7_takeHall 84 = .ok (.iconst 3, 1) := by decide +kernel
theorem dX7_takeHall_85 : decode cX7_takeHall 85 = .ok (.iload_n 1, 1) := by decide +kernel
theorem dX7_takeHall_86 : decode cX7_takeHall 86 = .ok (.imul, 1) := by decide +kernel
theorem dX7_takeHall_87 : decode cX7_takeHall 87 = .ok (.iconst 1, 1) := by decide +kernel
theorem dX7_takeHall_88 : decode cX7_takeHall 88 = .ok (.iadd, 1) := by decide +kernel
theorem dX7_takeHall_89 : decode cX7_takeHall 89 = .ok (.iaload, 1) := by decide +kernel
theorem dX7_takeHall_90 : decode cX7_takeHall 90 = .ok (.iastore, 1) := by decide +kernel
theorem dX7_takeHall_91 : decode cX7_takeHall 91 = .ok (.aload_n 0, 1) := by decide +kernel
theorem dX7_takeHall_92 : decode cX7_takeHall 92 = .ok (.getfield 31, 3) := by decide +kernel
theorem dX7_takeHall_95 : decode cX7_takeHall 95 = .ok (.iload_n 1, 1) := by decide +kernel
theorem dX7_takeHall_96 : decode cX7_takeHall 96 = .ok (.aload_n 0, 1) := by decide +kernel
theorem dX7_takeHall_97 : decode cX7_takeHall 97 = .ok (.getfield 40, 3) := by decide +kernel
theorem dX7_takeHall_100 : decode cX7_takeHall 100 = .ok (.iconst 3, 1) := by decide +kernel
theorem dX7_takeHall_101 : decode cX7_takeHall 101 = .ok (.iload_n 1, 1) := by decide +kernel
theorem dX7_takeHall_102 : decode cX7_takeHall 102 = .ok (.imul, 1) := by decide +kernel
theorem dX7_takeHall_103 : decode cX7_takeHall 103 = .ok (.iconst 2, 1) := by decide +kernel
theorem dX7_takeHall_104 : decode cX7_takeHall 104 = .ok (.iadd, 1) := by decide +kernel
theorem dX7_takeHall_105 : decode cX7_takeHall 105 = .ok (.iaload, 1) := by decide +kernel
theorem dX7_takeHall_106 : decode cX7_takeHall 106 = .ok (.iastore, 1) := by decide +kernel
theorem dX7_takeHall_107 : decode cX7_takeHall 107 = .ok (.aload_n 0, 1) := by decide +kernel
theorem dX7_takeHall_108 : decode cX7_takeHall 108 = .ok (.getfield 34, 3) := by decide +kernel
theorem dX7_takeHall_111 : decode cX7_takeHall 111 = .ok (.iload_n 1, 1) := by decide +kernel
theorem dX7_takeHall_112 : decode cX7_takeHall 112 = .ok (.iconst 0, 1) := by decide +kernel
theorem dX7_takeHall_113 : decode cX7_takeHall 113 = .ok (.iastore, 1) := by decide +kernel
theorem dX7_takeHall_114 : decode cX7_takeHall 114 = .ok (.iinc 1 1, 3) := by decide +kernel
theorem dX7_takeHall_117 : decode cX7_takeHall 117 = .ok (.goto (-64), 3) := by decide +kernel
theorem dX7_takeHall_120 : decode cX7_takeHall 120 = .ok (.aload_n 0, 1) := by decide +kernel
theorem dX7_takeHall_121 : decode cX7_takeHall 121 = .ok (.iconst 0, 1) := by decide +kernel
theorem dX7_takeHall_122 : decode cX7_takeHall 122 = .ok (.putfield 107, 3) := by decide +kernel
theorem dX7_takeHall_125 : decode cX7_takeHall 125 = .ok (.aload_n 0, 1) := by decide +kernel
theorem dX7_takeHall_126 : decode cX7_takeHall 126 = .ok (.iconst 0, 1) := by decide +kernel
theorem dX7_takeHall_127 : decode cX7_takeHall 127 = .ok (.putfield 110, 3) := by decide +kernel
theorem dX7_takeHall_130 : decode cX7_takeHall 130 = .ok (.return_, 1) := by decide +kernel
theorem dX7_readHall_0 : decode cX7_readHall 0 = .ok (.aload_n 0, 1) := by decide +kernel
theorem dX7_readHall_1 : decode cX7_readHall 1 = .ok (.iconst 0, 1) := by decide +kernel
theorem dX7_readHall_2 : decode cX7_readHall 2 = .ok (.putfield 101, 3) := by decide +kernel
theorem dX7_readHall_5 : decode cX7_readHall 5 = .ok (.aload_n 0, 1) := by decide +kernel
theorem dX7_readHall_6 : decode cX7_readHall 6 = .ok (.iconst 0, 1) := by decide +kernel
theorem dX7_readHall_7 : decode cX7_readHall 7 = .ok (.putfield 104, 3) := by decide +kernel
theorem dX7_readHall_10 : decode cX7_readHall 10 = .ok (.aload_n 0, 1) := by decide +kernel
theorem dX7_readHall_11 : decode cX7_readHall 11 = .ok (.iload_n 1, 1) := by decide +kernel
theorem dX7_readHall_12 : decode cX7_readHall 12 = .ok (.bipush 108, 2) := by decide +kernel
theorem dX7_readHall_14 : decode cX7_readHall 14 = .ok (.invokevirtual 113, 3) := by decide +kernel
theorem dX7_readHall_17 : decode cX7_readHall 17 = .ok (.ifCond .ne 5, 3) := by decide +kernel
theorem dX7_readHall_20 : decode cX7_readHall 20 = .ok (.iconst 0, 1) := by decide +kernel
theorem dX7_readHall_21 : decode cX7_readHall 21 = .ok (.ireturn, 1) := by decide +kernel
theorem dX7_readHall_22 : decode cX7_readHall 22 = .ok (.aload_n 0, 1) := by decide +kernel
theorem dX7_readHall_23 : decode cX7_readHall 23 = .ok (.iload_n 1, 1) := by decide +kernel
theorem dX7_readHall_24 : decode cX7_readHall 24 = .ok (.iconst 2, 1) := by decide +kernel
theorem dX7_readHall_25 : decode cX7_readHall 25 = .ok (.iconst 5, 1) := by decide +kernel
theorem dX7_readHall_26 : decode cX7_readHall 26 = .ok (.invokevirtual 117, 3) := by decide +kernel
theorem dX7_readHall_29 : decode cX7_readHall 29 = .ok (.istore_n 2, 1) := by decide +kernel
theorem dX7_readHall_30 : decode cX7_readHall 30 = .ok (.iload_n 2, 1) := by decide +kernel
theorem dX7_readHall_31 : decode cX7_readHall 31 = .ok (.bipush (-9), 2) := by decide +kernel
theorem dX7_readHall_33 : decode cX7_readHall 33 = .ok (.if_icmp .eq 47, 3) := by decide +kernel
theorem dX7_readHall_36 : decode cX7_readHall 36 = .ok (.aload_n 0, 1) := by decide +kernel
theorem dX7_readHall_37 : decode cX7_readHall 37 = .ok (.getfield 37, 3) := by decide +kernel
theorem dX7_readHall_40 : decode cX7_readHall 40 = .ok (.aload_n 0, 1) := by decide +kernel
theorem dX7_readHall_41 : decode cX7_readHall 41 = .ok (.getfield 101, 3) := by decide +kernel
theorem dX7_readHall_44 : decode cX7_readHall 44 = .ok (.iload_n 2, 1) := by decide +kernel
theorem dX7_readHall_45 : decode cX7_readHall 45 = .ok (.iastore, 1) := by decide +kernel
theorem dX7_readHall_46 : decode cX7_readHall 46 = .ok (.aload_n 0, 1) := by decide +kernel
theorem dX7_readHall_47 : decode cX7_readHall 47 = .ok (.dup, 1) := by decide +kernel
theorem dX7_readHall_48 : decode cX7_readHall 48 = .ok (.getfield 101, 3) := by decide +kernel
theorem dX7_readHall_51 : decode cX7_readHall 51 = .ok (.iconst 1, 1) := by decide +kernel
theorem dX7_readHall_52 : decode cX7_readHall 52 = .ok (.iadd, 1) := by decide +kernel
theorem dX7_readHall_53 : decode cX7_readHall 53 = .ok (.putfield 101, 3) := by decide +kernel
theorem dX7_readHall_56 : decode cX7_readHall 56 = .ok (.aload_n 0, 1) := by decide +kernel
theorem dX7_readHall_57 : decode cX7_readHall 57 = .ok (.getfield 101, 3) := by decide +kernel
theorem dX7_readHall_60 : decode cX7_readHall 60 = .ok (.iconst 5, 1) := by decide +kernel
theorem dX7_readHall_61 : decode cX7_readHall 61 = .ok (.if_icmp .ge 13, 3) := by decide +kernel
theorem dX7_readHall_64 : decode cX7_readHall 64 = .ok (.aload_n 0, 1) := by decide +kernel
theorem dX7_readHall_65 : decode cX7_readHall 65 = .ok (.iload_n 1, 1) := by decide +kernel
theorem dX7_readHall_66 : decode cX7_readHall 66 = .ok (.iconst 2, 1) := by decide +kernel
theorem dX7_readHall_67 : decode cX7_readHall 67 = .ok (.iconst 5, 1) := by decide +kernel
theorem dX7_readHall_68 : decode cX7_readHall 68 = .ok (.invokevirtual 117, 3) := by decide +kernel
theorem dX7_readHall_71 : decode cX7_readHall 71 = .ok (.goto 5, 3) := by decide +kernel
theorem dX7_readHall_74 : decode cX7_readHall 74 = .ok (.bipush (-9), 2) := by decide +kernel
theorem dX7_readHall_76 : decode cX7_readHall 76 = .ok (.istore_n 2, 1) := by decide +kernel
theorem dX7_readHall_77 : decode cX7_readHall 77 = .ok (.goto (-47), 3) := by decide +kernel
theorem dX7_readHall_80 : decode cX7_readHall 80 = .ok (.aload_n 0, 1) := by decide +kernel
theorem dX7_readHall_81 : decode cX7_readHall 81 = .ok (.getfield 101, 3) := by decide +kernel
theorem dX7_readHall_84 : decode cX7_readHall 84 = .ok (.ifCond .ne 5, 3) := by decide +kernel
theorem dX7_readHall_87 : decode cX7_readHall 87 = .ok (.iconst 0, 1) := by decide +kernel
theorem dX7_readHall_88 : decode cX7_readHall 88 = .ok (.ireturn, 1) := by decide +kernel
theorem dX7_readHall_89 : decode cX7_readHall 89 = .ok (.aload_n 0, 1) := by decide +kernel
theorem dX7_readHall_90 : decode cX7_readHall 90 = .ok (.getfield 104, 3) := by decide +kernel
theorem dX7_readHall_93 : decode cX7_readHall 93 = .ok (.ifCond .eq 19, 3) := by decide +kernel
theorem dX7_readHall_96 : decode cX7_readHall 96 = .ok (.aload_n 0, 1) := by decide +kernel
theorem dX7_readHall_97 : decode cX7_readHall 97 = .ok (.getfield 104, 3) := by decide +kernel
theorem dX7_readHall_100 : decode cX7_readHall 100 = .ok (.iconst 5, 1) := by decide +kernel
theorem dX7_readHall_101 : decode cX7_readHall 101 = .ok (.if_icmp .ge 31, 3) := by decide +kernel
theorem dX7_readHall_104 : decode cX7_readHall 104 = .ok (.aload_n 0, 1) := by decide +kernel
theorem dX7_readHall_105 : decode cX7_readHall 105 = .ok (.getfield 77, 3) := by decide +kernel
theorem dX7_readHall_108 : decode cX7_readHall 108 = .ok (.iload_n 1, 1) := by decide +kernel
theorem dX7_readHall_109 : decode cX7_readHall 109 = .ok (.if_icmp .ge 23, 3) := by decide +kernel
theorem dX7_readHall_112 : decode cX7_readHall 112 = .ok (.aload_n 0, 1) := by decide +kernel
theorem dX7_readHall_113 : decode cX7_readHall 113 = .ok (.iload_n 1, 1) := by decide +kernel
theorem dX7_readHall_114 : decode cX7_readHall 114 = .ok (.bipush 59, 2) := by decide +kernel
theorem dX7_readHall_116 : decode cX7_readHall 116 = .ok (.invokevirtual 113, 3) := by decide +kernel
theorem dX7_readHall_119 : decode cX7_readHall 119 = .ok (.ifCond .eq 11, 3) := by decide +kernel
theorem dX7_readHall_122 : decode cX7_readHall 122 = .ok (.aload_n 0, 1) := by decide +kernel
theorem dX7_readHall_123 : decode cX7_readHall 123 = .ok (.iload_n 1, 1) := by decide +kernel
theorem dX7_readHall_124 : decode cX7_readHall 124 = .ok (.invokevirtual 121, 3) := by decide +kernel
theorem dX7_readHall_127 : decode cX7_readHall 127 = .ok (.ifCond .ne (-38), 3) := by decide +kernel
theorem dX7_readHall_130 : decode cX7_readHall 130 = .ok (.iconst 0, 1) := by decide +kernel
theorem dX7_readHall_131 : decode cX7_readHall 131 = .ok (.ireturn, 1) := by decide +kernel
theorem dX7_readHall_132 : decode cX7_readHall 132 = .ok (.aload_n 0, 1) := by decide +kernel
theorem dX7_readHall_133 : decode cX7_readHall 133 = .ok (.getfield 77, 3) := by decide +kernel
theorem dX7_readHall_136 : decode cX7_readHall 136 = .ok (.iload_n 1, 1) := by decide +kernel
theorem dX7_readHall_137 : decode cX7_readHall 137 = .ok (.if_icmp .ne 7, 3) := by decide +kernel
theorem dX7_readHall_140 : decode cX7_readHall 140 = .ok (.iconst 1, 1) := by decide +kernel
theorem dX7_readHall_141 : decode cX7_readHall 141 = .ok (.goto 4, 3) := by decide +kernel
theorem dX7_readHall_144 : decode cX7_readHall 144 = .ok (.iconst 0, 1) := by decide +kernel
theorem dX7_readHall_145 : decode cX7_readHall 145 = .ok (.ireturn, 1) := by decide +kernel
theorem dX7_readSwitch_0 : decode cX7_readSwitch 0 = .ok (.aload_n 0, 1) := by decide +kernel
theorem dX7_readSwitch_1 : decode cX7_readSwitch 1 = .ok (.getfield 77, 3) := by decide +kernel
theorem dX7_readSwitch_4 : decode cX7_readSwitch 4 = .ok (.iload_n 1, 1) := by decide +kernel
theorem dX7_readSwitch_5 : decode cX7_readSwitch 5 = .ok (.if_icmp .ge 15, 3) := by decide +kernel
theorem dX7_readSwitch_8 : decode cX7_readSwitch 8 = .ok (.aload_n 0, 1) := by decide +kernel
theorem dX7_readSwitch_9 : decode cX7_readSwitch 9 = .ok (.getfield 16, 3) := by decide +kernel
theorem dX7_readSwitch_12 : decode cX7_readSwitch 12 = .ok (.aload_n 0, 1) := by decide +kernel
theorem dX7_readSwitch_13 : decode cX7_readSwitch 13 = .ok (.getfield 77, 3) := by decide +kernel
theorem dX7_readSwitch_16 : decode cX7_readSwitch 16 = .ok (.iaload, 1) := by decide +kernel
theorem dX7_readSwitch_17 : decode cX7_readSwitch 17 = .ok (.goto 4, 3) := by decide +kernel
theorem dX7_readSwitch_20 : decode cX7_readSwitch 20 = .ok (.iconst 0, 1) := by decide +kernel
theorem dX7_readSwitch_21 : decode cX7_readSwitch 21 = .ok (.istore_n 2, 1) := by decide +kernel
theorem dX7_readSwitch_22 : decode cX7_readSwitch 22 = .ok (.iconst 3, 1) := by decide +kernel
theorem dX7_readSwitch_23 : decode cX7_readSwitch 23 = .ok (.aload_n 0, 1) := by decide +kernel
theorem dX7_readSwitch_24 : decode cX7_readSwitch 24 = .ok (.getfield 104, 3) := by decide +kernel
theorem dX7_readSwitch_27 : decode cX7_readSwitch 27 = .ok (.imul, 1) := by decide +kernel
theorem dX7_readSwitch_28 : decode cX7_readSwitch 28 = .ok (.istore_n 3, 1) := by decide +kernel
theorem dX7_readSwitch_29 : decode cX7_readSwitch 29 = .ok (.aload_n 0, 1) := by decide +kernel
theorem dX7_readSwitch_30 : decode cX7_readSwitch 30 = .ok (.getfield 40, 3) := by decide +kernel
theorem dX7_readSwitch_33 : decode cX7_readSwitch 33 = .ok (.iload_n 3, 1) := by decide +kernel
theorem dX7_readSwitch_34 : decode cX7_readSwitch 34 = .ok (.iload_n 2, 1) := by decide +kernel
theorem dX7_readSwitch_35 : decode cX7_readSwitch 35 = .ok (.bipush 112, 2) := by decide +kernel
theorem dX7_readSwitch_37 : decode cX7_readSwitch 37 = .ok (.if_icmp .ne 7, 3) := by decide +kernel
theorem dX7_readSwitch_40 : decode cX7_readSwitch 40 = .ok (.iconst 0, 1) := by decide +kernel
theorem dX7_readSwitch_41 : decode cX7_readSwitch 41 = .ok (.goto 25, 3) := by decide +kernel
theorem dX7_readSwitch_44 : decode cX7_readSwitch 44 = .ok (.iload_n 2, 1) := by decide +kernel
theorem dX7_readSwitch_45 : decode cX7_readSwitch 45 = .ok (.bipush 98, 2) := by decide +kernel
theorem dX7_readSwitch_47 : decode cX7_readSwitch 47 = .ok (.if_icmp .ne 7, 3) := by decide +kernel
theorem dX7_readSwitch_50 : decode cX7_readSwitch 50 = .ok (.iconst 1, 1) := by decide +kernel
end
section
theorem dX7_readSwitch_51 : decode cX7_readSwitch 51 = .ok (.goto 15, 3) := by decide +kernel
theorem dX7_readSwitch_54 : decode cX7_readSwitch 54 = .ok (.iload_n 2, 1) := by decide +kernel
theorem dX7_readSwitch_55 : decode cX7_readSwitch 55 = .ok (.bipush 100, 2) := by decide +kernel
theorem dX7_readSwitch_57 : decode cX7_readSwitch 57 = .ok (.if_icmp .ne 7, 3) := by decide +kernel
theorem dX7_readSwitch_60 : decode cX7_readSwitch 60 = .ok (.iconst 2, 1) := by decide +kernel
theorem dX7_readSwitch_61 : decode cX7_readSwitch 61 = .ok (.goto 5, 3) := by decide +kernel
theorem dX7_readSwitch_64 : decode cX7_readSwitch 64 = .ok (.bipush (-9), 2) := by decide +kernel
theorem dX7_readSwitch_66 : decode cX7_readSwitch 66 = .ok (.iastore, 1) := by decide +kernel
theorem dX7_readSwitch_67 : decode cX7_readSwitch 67 = .ok (.aload_n 0, 1) := by decide +kernel
theorem dX7_readSwitch_68 : decode cX7_readSwitch 68 = .ok (.getfield 40, 3) := by decide +kernel
theorem dX7_readSwitch_71 : decode cX7_readSwitch 71 = .ok (.iload_n 3, 1) := by decide +kernel
theorem dX7_readSwitch_72 : decode cX7_readSwitch 72 = .ok (.iaload, 1) := by decide +kernel
theorem dX7_readSwitch_73 : decode cX7_readSwitch 73 = .ok (.bipush (-9), 2) := by decide +kernel
theorem dX7_readSwitch_75 : decode cX7_readSwitch 75 = .ok (.if_icmp .ne 5, 3) := by decide +kernel
theorem dX7_readSwitch_78 : decode cX7_readSwitch 78 = .ok (.iconst 0, 1) := by decide +kernel
theorem dX7_readSwitch_79 : decode cX7_readSwitch 79 = .ok (.ireturn, 1) := by decide +kernel
theorem dX7_readSwitch_80 : decode cX7_readSwitch 80 = .ok (.aload_n 0, 1) := by decide +kernel
theorem dX7_readSwitch_81 : decode cX7_readSwitch 81 = .ok (.dup, 1) := by decide +kernel
theorem dX7_readSwitch_82 : decode cX7_readSwitch 82 = .ok (.getfield 77, 3) := by decide +kernel
theorem dX7_readSwitch_85 : decode cX7_readSwitch 85 = .ok (.iconst 1, 1) := by decide +kernel
theorem dX7_readSwitch_86 : decode cX7_readSwitch 86 = .ok (.iadd, 1) := by decide +kernel
theorem dX7_readSwitch_87 : decode cX7_readSwitch 87 = .ok (.putfield 77, 3) := by decide +kernel
theorem dX7_readSwitch_90 : decode cX7_readSwitch 90 = .ok (.aload_n 0, 1) := by decide +kernel
theorem dX7_readSwitch_91 : decode cX7_readSwitch 91 = .ok (.getfield 40, 3) := by decide +kernel
theorem dX7_readSwitch_94 : decode cX7_readSwitch 94 = .ok (.iload_n 3, 1) := by decide +kernel
theorem dX7_readSwitch_95 : decode cX7_readSwitch 95 = .ok (.iconst 1, 1) := by decide +kernel
theorem dX7_readSwitch_96 : decode cX7_readSwitch 96 = .ok (.iadd, 1) := by decide +kernel
theorem dX7_readSwitch_97 : decode cX7_readSwitch 97 = .ok (.aload_n 0, 1) := by decide +kernel
theorem dX7_readSwitch_98 : decode cX7_readSwitch 98 = .ok (.iload_n 1, 1) := by decide +kernel
theorem dX7_readSwitch_99 : decode cX7_readSwitch 99 = .ok (.iconst 1, 1) := by decide +kernel
theorem dX7_readSwitch_100 : decode cX7_readSwitch 100 = .ok (.iconst 4, 1) := by decide +kernel
theorem dX7_readSwitch_101 : decode cX7_readSwitch 101 = .ok (.invokevirtual 117, 3) := by decide +kernel
theorem dX7_readSwitch_104 : decode cX7_readSwitch 104 = .ok (.iastore, 1) := by decide +kernel
theorem dX7_readSwitch_105 : decode cX7_readSwitch 105 = .ok (.aload_n 0, 1) := by decide +kernel
theorem dX7_readSwitch_106 : decode cX7_readSwitch 106 = .ok (.getfield 40, 3) := by decide +kernel
theorem dX7_readSwitch_109 : decode cX7_readSwitch 109 = .ok (.iload_n 3, 1) := by decide +kernel
theorem dX7_readSwitch_110 : decode cX7_readSwitch 110 = .ok (.iconst 1, 1) := by decide +kernel
theorem dX7_readSwitch_111 : decode cX7_readSwitch 111 = .ok (.iadd, 1) := by decide +kernel
theorem dX7_readSwitch_112 : decode cX7_readSwitch 112 = .ok (.iaload, 1) := by decide +kernel
theorem dX7_readSwitch_113 : decode cX7_readSwitch 113 = .ok (.bipush (-9), 2) := by decide +kernel
theorem dX7_readSwitch_115 : decode cX7_readSwitch 115 = .ok (.if_icmp .ne 5, 3) := by decide +kernel
theorem dX7_readSwitch_118 : decode cX7_readSwitch 118 = .ok (.iconst 0, 1) := by decide +kernel
theorem dX7_readSwitch_119 : decode cX7_readSwitch 119 = .ok (.ireturn, 1) := by decide +kernel
theorem dX7_readSwitch_120 : decode cX7_readSwitch 120 = .ok (.aload_n 0, 1) := by decide +kernel
theorem dX7_readSwitch_121 : decode cX7_readSwitch 121 = .ok (.getfield 40, 3) := by decide +kernel
theorem dX7_readSwitch_124 : decode cX7_readSwitch 124 = .ok (.iload_n 3, 1) := by decide +kernel
theorem dX7_readSwitch_125 : decode cX7_readSwitch 125 = .ok (.iconst 2, 1) := by decide +kernel
theorem dX7_readSwitch_126 : decode cX7_readSwitch 126 = .ok (.iadd, 1) := by decide +kernel
theorem dX7_readSwitch_127 : decode cX7_readSwitch 127 = .ok (.iconst 0, 1) := by decide +kernel
theorem dX7_readSwitch_128 : decode cX7_readSwitch 128 = .ok (.iastore, 1) := by decide +kernel
theorem dX7_readSwitch_129 : decode cX7_readSwitch 129 = .ok (.iconst 0, 1) := by decide +kernel
theorem dX7_readSwitch_130 : decode cX7_readSwitch 130 = .ok (.istore 4, 2) := by decide +kernel
theorem dX7_readSwitch_132 : decode cX7_readSwitch 132 = .ok (.iload 4, 2) := by decide +kernel
theorem dX7_readSwitch_134 : decode cX7_readSwitch 134 = .ok (.aload_n 0, 1) := by decide +kernel
theorem dX7_readSwitch_135 : decode cX7_readSwitch 135 = .ok (.getfield 101, 3) := by decide +kernel
theorem dX7_readSwitch_138 : decode cX7_readSwitch 138 = .ok (.if_icmp .ge 43, 3) := by decide +kernel
theorem dX7_readSwitch_141 : decode cX7_readSwitch 141 = .ok (.aload_n 0, 1) := by decide +kernel
theorem dX7_readSwitch_142 : decode cX7_readSwitch 142 = .ok (.iload_n 1, 1) := by decide +kernel
theorem dX7_readSwitch_143 : decode cX7_readSwitch 143 = .ok (.iconst 0, 1) := by decide +kernel
theorem dX7_readSwitch_144 : decode cX7_readSwitch 144 = .ok (.iconst 1, 1) := by decide +kernel
theorem dX7_readSwitch_145 : decode cX7_readSwitch 145 = .ok (.invokevirtual 117, 3) := by decide +kernel
theorem dX7_readSwitch_148 : decode cX7_readSwitch 148 = .ok (.istore 5, 2) := by decide +kernel
theorem dX7_readSwitch_150 : decode cX7_readSwitch 150 = .ok (.iload 5, 2) := by decide +kernel
theorem dX7_readSwitch_152 : decode cX7_readSwitch 152 = .ok (.bipush (-9), 2) := by decide +kernel
theorem dX7_readSwitch_154 : decode cX7_readSwitch 154 = .ok (.if_icmp .ne 5, 3) := by decide +kernel
theorem dX7_readSwitch_157 : decode cX7_readSwitch 157 = .ok (.iconst 0, 1) := by decide +kernel
theorem dX7_readSwitch_158 : decode cX7_readSwitch 158 = .ok (.ireturn, 1) := by decide +kernel
theorem dX7_readSwitch_159 : decode cX7_readSwitch 159 = .ok (.aload_n 0, 1) := by decide +kernel
theorem dX7_readSwitch_160 : decode cX7_readSwitch 160 = .ok (.getfield 40, 3) := by decide +kernel
theorem dX7_readSwitch_163 : decode cX7_readSwitch 163 = .ok (.iload_n 3, 1) := by decide +kernel
theorem dX7_readSwitch_164 : decode cX7_readSwitch 164 = .ok (.iconst 2, 1) := by decide +kernel
theorem dX7_readSwitch_165 : decode cX7_readSwitch 165 = .ok (.iadd, 1) := by decide +kernel
theorem dX7_readSwitch_166 : decode cX7_readSwitch 166 = .ok (.dup2, 1) := by decide +kernel
theorem dX7_readSwitch_167 : decode cX7_readSwitch 167 = .ok (.iaload, 1) := by decide +kernel
theorem dX7_readSwitch_168 : decode cX7_readSwitch 168 = .ok (.iload 5, 2) := by decide +kernel
theorem dX7_readSwitch_170 : decode cX7_readSwitch 170 = .ok (.iload 4, 2) := by decide +kernel
theorem dX7_readSwitch_172 : decode cX7_readSwitch 172 = .ok (.ishl, 1) := by decide +kernel
theorem dX7_readSwitch_173 : decode cX7_readSwitch 173 = .ok (.iadd, 1) := by decide +kernel
theorem dX7_readSwitch_174 : decode cX7_readSwitch 174 = .ok (.iastore, 1) := by decide +kernel
theorem dX7_readSwitch_175 : decode cX7_readSwitch 175 = .ok (.iinc 4 1, 3) := by decide +kernel
theorem dX7_readSwitch_178 : decode cX7_readSwitch 178 = .ok (.goto (-46), 3) := by decide +kernel
theorem dX7_readSwitch_181 : decode cX7_readSwitch 181 = .ok (.aload_n 0, 1) := by decide +kernel
theorem dX7_readSwitch_182 : decode cX7_readSwitch 182 = .ok (.dup, 1) := by decide +kernel
theorem dX7_readSwitch_183 : decode cX7_readSwitch 183 = .ok (.getfield 104, 3) := by decide +kernel
theorem dX7_readSwitch_186 : decode cX7_readSwitch 186 = .ok (.iconst 1, 1) := by decide +kernel
theorem dX7_readSwitch_187 : decode cX7_readSwitch 187 = .ok (.iadd, 1) := by decide +kernel
theorem dX7_readSwitch_188 : decode cX7_readSwitch 188 = .ok (.putfield 104, 3) := by decide +kernel
theorem dX7_readSwitch_191 : decode cX7_readSwitch 191 = .ok (.iconst 1, 1) := by decide +kernel
theorem dX7_readSwitch_192 : decode cX7_readSwitch 192 = .ok (.ireturn, 1) := by decide +kernel
theorem dX7_movesOf_0 : decode cX7_movesOf 0 = .ok (.aload_n 0, 1) := by decide +kernel
theorem dX7_movesOf_1 : decode cX7_movesOf 1 = .ok (.getfield 25, 3) := by decide +kernel
theorem dX7_movesOf_4 : decode cX7_movesOf 4 = .ok (.iload_n 1, 1) := by decide +kernel
theorem dX7_movesOf_5 : decode cX7_movesOf 5 = .ok (.iaload, 1) := by decide +kernel
theorem dX7_movesOf_6 : decode cX7_movesOf 6 = .ok (.ifCond .ne 12, 3) := by decide +kernel
theorem dX7_movesOf_9 : decode cX7_movesOf 9 = .ok (.aload_n 0, 1) := by decide +kernel
theorem dX7_movesOf_10 : decode cX7_movesOf 10 = .ok (.getfield 28, 3) := by decide +kernel
theorem dX7_movesOf_13 : decode cX7_movesOf 13 = .ok (.iload_n 1, 1) := by decide +kernel
theorem dX7_movesOf_14 : decode cX7_movesOf 14 = .ok (.iaload, 1) := by decide +kernel
theorem dX7_movesOf_15 : decode cX7_movesOf 15 = .ok (.goto 32, 3) := by decide +kernel
theorem dX7_movesOf_18 : decode cX7_movesOf 18 = .ok (.aload_n 0, 1) := by decide +kernel
theorem dX7_movesOf_19 : decode cX7_movesOf 19 = .ok (.getfield 25, 3) := by decide +kernel
theorem dX7_movesOf_22 : decode cX7_movesOf 22 = .ok (.iload_n 1, 1) := by decide +kernel
theorem dX7_movesOf_23 : decode cX7_movesOf 23 = .ok (.iaload, 1) := by decide +kernel
theorem dX7_movesOf_24 : decode cX7_movesOf 24 = .ok (.iconst 1, 1) := by decide +kernel
theorem dX7_movesOf_25 : decode cX7_movesOf 25 = .ok (.if_icmp .ne 14, 3) := by decide +kernel
theorem dX7_movesOf_28 : decode cX7_movesOf 28 = .ok (.aload_n 0, 1) := by decide +kernel
theorem dX7_movesOf_29 : decode cX7_movesOf 29 = .ok (.getfield 28, 3) := by decide +kernel
theorem dX7_movesOf_32 : decode cX7_movesOf 32 = .ok (.iload_n 1, 1) := by decide +kernel
theorem dX7_movesOf_33 : decode cX7_movesOf 33 = .ok (.iaload, 1) := by decide +kernel
theorem dX7_movesOf_34 : decode cX7_movesOf 34 = .ok (.iconst 1, 1) := by decide +kernel
theorem dX7_movesOf_35 : decode cX7_movesOf 35 = .ok (.iadd, 1) := by decide +kernel
theorem dX7_movesOf_36 : decode cX7_movesOf 36 = .ok (.goto 11, 3) := by decide +kernel
theorem dX7_movesOf_39 : decode cX7_movesOf 39 = .ok (.iconst 2, 1) := by decide +kernel
theorem dX7_movesOf_40 : decode cX7_movesOf 40 = .ok (.aload_n 0, 1) := by decide +kernel
theorem dX7_movesOf_41 : decode cX7_movesOf 41 = .ok (.getfield 28, 3) := by decide +kernel
theorem dX7_movesOf_44 : decode cX7_movesOf 44 = .ok (.iload_n 1, 1) := by decide +kernel
theorem dX7_movesOf_45 : decode cX7_movesOf 45 = .ok (.iaload, 1) := by decide +kernel
theorem dX7_movesOf_46 : decode cX7_movesOf 46 = .ok (.imul, 1) := by decide +kernel
theorem dX7_movesOf_47 : decode cX7_movesOf 47 = .ok (.ireturn, 1) := by decide +kernel
theorem dX7_wiredTo_0 : decode cX7_wiredTo 0 = .ok (.iconst 0, 1) := by decide +kernel
theorem dX7_wiredTo_1 : decode cX7_wiredTo 1 = .ok (.istore_n 2, 1) := by decide +kernel
theorem dX7_wiredTo_2 : decode cX7_wiredTo 2 = .ok (.iconst 0, 1) := by decide +kernel
theorem dX7_wiredTo_3 : decode cX7_wiredTo 3 = .ok (.istore_n 3, 1) := by decide +kernel
theorem dX7_wiredTo_4 : decode cX7_wiredTo 4 = .ok (.iload_n 3, 1) := by decide +kernel
theorem dX7_wiredTo_5 : decode cX7_wiredTo 5 = .ok (.aload_n 0, 1) := by decide +kernel
theorem dX7_wiredTo_6 : decode cX7_wiredTo 6 = .ok (.getfield 74, 3) := by decide +kernel
theorem dX7_wiredTo_9 : decode cX7_wiredTo 9 = .ok (.if_icmp .ge 32, 3) := by decide +kernel
theorem dX7_wiredTo_12 : decode cX7_wiredTo 12 = .ok (.iload_n 2, 1) := by decide +kernel
theorem dX7_wiredTo_13 : decode cX7_wiredTo 13 = .ok (.aload_n 0, 1) := by decide +kernel
theorem dX7_wiredTo_14 : decode cX7_wiredTo 14 = .ok (.getfield 31, 3) := by decide +kernel
theorem dX7_wiredTo_17 : decode cX7_wiredTo 17 = .ok (.iload_n 3, 1) := by decide +kernel
theorem dX7_wiredTo_18 : decode cX7_wiredTo 18 = .ok (.iaload, 1) := by decide +kernel
theorem dX7_wiredTo_19 : decode cX7_wiredTo 19 = .ok (.iload_n 1, 1) := by decide +kernel
theorem dX7_wiredTo_20 : decode cX7_wiredTo 20 = .ok (.invokestatic 124, 3) := by decide +kernel
theorem dX7_wiredTo_23 : decode cX7_wiredTo 23 = .ok (.ifCond .eq 9, 3) := by decide +kernel
theorem dX7_wiredTo_26 : decode cX7_wiredTo 26 = .ok (.iconst 1, 1) := by decide +kernel
theorem dX7_wiredTo_27 : decode cX7_wiredTo 27 = .ok (.iload_n 3, 1) := by decide +kernel
theorem dX7_wiredTo_28 : decode cX7_wiredTo 28 = .ok (.ishl, 1) := by decide +kernel
theorem dX7_wiredTo_29 : decode cX7_wiredTo 29 = .ok (.goto 4, 3) := by decide +kernel
theorem dX7_wiredTo_32 : decode cX7_wiredTo 32 = .ok (.iconst 0, 1) := by decide +kernel
theorem dX7_wiredTo_33 : decode cX7_wiredTo 33 = .ok (.ior, 1) := by decide +kernel
theorem dX7_wiredTo_34 : decode cX7_wiredTo 34 = .ok (.istore_n 2, 1) := by decide +kernel
theorem dX7_wiredTo_35 : decode cX7_wiredTo 35 = .ok (.iinc 3 1, 3) := by decide +kernel
theorem dX7_wiredTo_38 : decode cX7_wiredTo 38 = .ok (.goto (-34), 3) := by decide +kernel
theorem dX7_wiredTo_41 : decode cX7_wiredTo 41 = .ok (.iload_n 2, 1) := by decide +kernel
theorem dX7_wiredTo_42 : decode cX7_wiredTo 42 = .ok (.ireturn, 1) := by decide +kernel
theorem dX7_darkNow_0 : decode cX7_darkNow 0 = .ok (.iconst 0, 1) := by decide +kernel
theorem dX7_darkNow_1 : decode cX7_darkNow 1 = .ok (.istore_n 1, 1) := by decide +kernel
theorem dX7_darkNow_2 : decode cX7_darkNow 2 = .ok (.iconst 0, 1) := by decide +kernel
theorem dX7_darkNow_3 : decode cX7_darkNow 3 = .ok (.istore_n 2, 1) := by decide +kernel
theorem dX7_darkNow_4 : decode cX7_darkNow 4 = .ok (.iload_n 2, 1) := by decide +kernel
theorem dX7_darkNow_5 : decode cX7_darkNow 5 = .ok (.aload_n 0, 1) := by decide +kernel
theorem dX7_darkNow_6 : decode cX7_darkNow 6 = .ok (.getfield 71, 3) := by decide +kernel
theorem dX7_darkNow_9 : decode cX7_darkNow 9 = .ok (.if_icmp .ge 26, 3) := by decide +kernel
theorem dX7_darkNow_12 : decode cX7_darkNow 12 = .ok (.iload_n 1, 1) := by decide +kernel
theorem dX7_darkNow_13 : decode cX7_darkNow 13 = .ok (.aload_n 0, 1) := by decide +kernel
theorem dX7_darkNow_14 : decode cX7_darkNow 14 = .ok (.getfield 22, 3) := by decide +kernel
theorem dX7_darkNow_17 : decode cX7_darkNow 17 = .ok (.iload_n 2, 1) := by decide +kernel
theorem dX7_darkNow_18 : decode cX7_darkNow 18 = .ok (.iaload, 1) := by decide +kernel
theorem dX7_darkNow_19 : decode cX7_darkNow 19 = .ok (.ifCond .ne 7, 3) := by decide +kernel
theorem dX7_darkNow_22 : decode cX7_darkNow 22 = .ok (.iconst 1, 1) := by decide +kernel
theorem dX7_darkNow_23 : decode cX7_darkNow 23 = .ok (.goto 4, 3) := by decide +kernel
theorem dX7_darkNow_26 : decode cX7_darkNow 26 = .ok (.iconst 0, 1) := by decide +kernel
theorem dX7_darkNow_27 : decode cX7_darkNow 27 = .ok (.iadd, 1) := by decide +kernel
theorem dX7_darkNow_28 : decode cX7_darkNow 28 = .ok (.istore_n 1, 1) := by decide +kernel
theorem dX7_darkNow_29 : decode cX7_darkNow 29 = .ok (.iinc 2 1, 3) := by decide +kernel
theorem dX7_darkNow_32 : decode cX7_darkNow 32 = .ok (.goto (-28), 3) := by decide +kernel
theorem dX7_darkNow_35 : decode cX7_darkNow 35 = .ok (.iload_n 1, 1) := by decide +kernel
theorem dX7_darkNow_36 : decode cX7_darkNow 36 = .ok (.ireturn, 1) := by decide +kernel
theorem dX7_ofLamp_0 : decode cX7_ofLamp 0 = .ok (.aload_n 0, 1) := by decide +kernel
theorem dX7_ofLamp_1 : decode cX7_ofLamp 1 = .ok (.iload_n 1, 1) := by decide +kernel
theorem dX7_ofLamp_2 : decode cX7_ofLamp 2 = .ok (.invokevirtual 127, 3) := by decide +kernel
theorem dX7_ofLamp_5 : decode cX7_ofLamp 5 = .ok (.ifCond .ne 5, 3) := by decide +kernel
theorem dX7_ofLamp_8 : decode cX7_ofLamp 8 = .ok (.iconst (-1), 1) := by decide +kernel
theorem dX7_ofLamp_9 : decode cX7_ofLamp 9 = .ok (.ireturn, 1) := by decide +kernel
theorem dX7_ofLamp_10 : decode cX7_ofLamp 10 = .ok (.iload_n 2, 1) := by decide +kernel
theorem dX7_ofLamp_11 : decode cX7_ofLamp 11 = .ok (.tableswitch 45 0 2 #[25, 32, 39], 25) := by decide +kernel
theorem dX7_ofLamp_36 : decode cX7_ofLamp 36 = .ok (.aload_n 0, 1) := by decide +kernel
theorem dX7_ofLamp_37 : decode cX7_ofLamp 37 = .ok (.getfield 19, 3) := by decide +kernel
theorem dX7_ofLamp_40 : decode cX7_ofLamp 40 = .ok (.iload_n 1, 1) := by decide +kernel
theorem dX7_ofLamp_41 : decode cX7_ofLamp 41 = .ok (.iaload, 1) := by decide +kernel
theorem dX7_ofLamp_42 : decode cX7_ofLamp 42 = .ok (.ireturn, 1) := by decide +kernel
theorem dX7_ofLamp_43 : decode cX7_ofLamp 43 = .ok (.aload_n 0, 1) := by decide +kernel
theorem dX7_ofLamp_44 : decode cX7_ofLamp 44 = .ok (.getfield 22, 3) := by decide +kernel
theorem dX7_ofLamp_47 : decode cX7_ofLamp 47 = .ok (.iload_n 1, 1) := by decide +kernel
theorem dX7_ofLamp_48 : decode cX7_ofLamp 48 = .ok (.iaload, 1) := by decide +kernel
theorem dX7_ofLamp_49 : decode cX7_ofLamp 49 = .ok (.ireturn, 1) := by decide +kernel
theorem dX7_ofLamp_50 : decode cX7_ofLamp 50 = .ok (.aload_n 0, 1) := by decide +kernel
theorem dX7_ofLamp_51 : decode cX7_ofLamp 51 = .ok (.iload_n 1, 1) := by decide +kernel
theorem dX7_ofLamp_52 : decode cX7_ofLamp 52 = .ok (.invokevirtual 130, 3) := by decide +kernel
theorem dX7_ofLamp_55 : decode cX7_ofLamp 55 = .ok (.ireturn, 1) := by decide +kernel
theorem dX7_ofLamp_56 : decode cX7_ofLamp 56 = .ok (.bipush (-2), 2) := by decide +kernel
theorem dX7_ofLamp_58 : decode cX7_ofLamp 58 = .ok (.ireturn, 1) := by decide +kernel
theorem dX7_ofSwitch_0 : decode cX7_ofSwitch 0 = .ok (.aload_n 0, 1) := by decide +kernel
theorem dX7_ofSwitch_1 : decode cX7_ofSwitch 1 = .ok (.iload_n 1, 1) := by decide +kernel
theorem dX7_ofSwitch_2 : decode cX7_ofSwitch 2 = .ok (.invokevirtual 133, 3) := by decide +kernel
theorem dX7_ofSwitch_5 : decode cX7_ofSwitch 5 = .ok (.ifCond .ne 5, 3) := by decide +kernel
theorem dX7_ofSwitch_8 : decode cX7_ofSwitch 8 = .ok (.iconst (-1), 1) := by decide +kernel
theorem dX7_ofSwitch_9 : decode cX7_ofSwitch 9 = .ok (.ireturn, 1) := by decide +kernel
theorem dX7_ofSwitch_10 : decode cX7_ofSwitch 10 = .ok (.iload_n 2, 1) := by decide +kernel
theorem dX7_ofSwitch_11 : decode cX7_ofSwitch 11 = .ok (.tableswitch 67 0 4 #[33, 40, 47, 53, 60], 33) := by decide +kernel
theorem dX7_ofSwitch_44 : decode cX7_ofSwitch 44 = .ok (.aload_n 0, 1) := by decide +kernel
theorem dX7_ofSwitch_45 : decode cX7_ofSwitch 45 = .ok (.getfield 25, 3) := by decide +kernel
theorem dX7_ofSwitch_48 : decode cX7_ofSwitch 48 = .ok (.iload_n 1, 1) := by decide +kernel
theorem dX7_ofSwitch_49 : decode cX7_ofSwitch 49 = .ok (.iaload, 1) := by decide +kernel
theorem dX7_ofSwitch_50 : decode cX7_ofSwitch 50 = .ok (.ireturn, 1) := by decide +kernel
theorem dX7_ofSwitch_51 : decode cX7_ofSwitch 51 = .ok (.aload_n 0, 1) := by decide +kernel
theorem dX7_ofSwitch_52 : decode cX7_ofSwitch 52 = .ok (.getfield 28, 3) := by decide +kernel
theorem dX7_ofSwitch_55 : decode cX7_ofSwitch 55 = .ok (.iload_n 1, 1) := by decide +kernel
theorem dX7_ofSwitch_56 : decode cX7_ofSwitch 56 = .ok (.iaload, 1) := by decide +kernel
theorem dX7_ofSwitch_57 : decode cX7_ofSwitch 57 = .ok (.ireturn, 1) := by decide +kernel
theorem dX7_ofSwitch_58 : decode cX7_ofSwitch 58 = .ok (.aload_n 0, 1) := by decide +kernel
theorem dX7_ofSwitch_59 : decode cX7_ofSwitch 59 = .ok (.iload_n 1, 1) := by decide +kernel
theorem dX7_ofSwitch_60 : decode cX7_ofSwitch 60 = .ok (.invokevirtual 136, 3) := by decide +kernel
theorem dX7_ofSwitch_63 : decode cX7_ofSwitch 63 = .ok (.ireturn, 1) := by decide +kernel
theorem dX7_ofSwitch_64 : decode cX7_ofSwitch 64 = .ok (.aload_n 0, 1) := by decide +kernel
theorem dX7_ofSwitch_65 : decode cX7_ofSwitch 65 = .ok (.getfield 31, 3) := by decide +kernel
theorem dX7_ofSwitch_68 : decode cX7_ofSwitch 68 = .ok (.iload_n 1, 1) := by decide +kernel
theorem dX7_ofSwitch_69 : decode cX7_ofSwitch 69 = .ok (.iaload, 1) := by decide +kernel
theorem dX7_ofSwitch_70 : decode cX7_ofSwitch 70 = .ok (.ireturn, 1) := by decide +kernel
theorem dX7_ofSwitch_71 : decode cX7_ofSwitch 71 = .ok (.aload_n 0, 1) := by decide +kernel
theorem dX7_ofSwitch_72 : decode cX7_ofSwitch 72 = .ok (.getfield 34, 3) := by decide +kernel
theorem dX7_ofSwitch_75 : decode cX7_ofSwitch 75 = .ok (.iload_n 1, 1) := by decide +kernel
theorem dX7_ofSwitch_76 : decode cX7_ofSwitch 76 = .ok (.iaload, 1) := by decide +kernel
theorem dX7_ofSwitch_77 : decode cX7_ofSwitch 77 = .ok (.ireturn, 1) := by decide +kernel
theorem dX7_ofSwitch_78 : decode cX7_ofSwitch 78 = .ok (.bipush (-2), 2) := by decide +kernel
theorem dX7_ofSwitch_80 : decode cX7_ofSwitch 80 = .ok (.ireturn, 1) := by decide +kernel
theorem dX7_shade_0 : decode cX7_shade 0 = .ok (.aload_n 0, 1) := by decide +kernel
theorem dX7_shade_1 : decode cX7_shade 1 = .ok (.iload_n 1, 1) := by decide +kernel
theorem dX7_shade_2 : decode cX7_shade 2 = .ok (.invokevirtual 127, 3) := by decide +kernel
theorem dX7_shade_5 : decode cX7_shade 5 = .ok (.ifCond .ne 5, 3) := by decide +kernel
theorem dX7_shade_8 : decode cX7_shade 8 = .ok (.iconst (-1), 1) := by decide +kernel
theorem dX7_shade_9 : decode cX7_shade 9 = .ok (.ireturn, 1) := by decide +kernel
theorem dX7_shade_10 : decode cX7_shade 10 = .ok (.iload_n 2, 1) := by decide +kernel
theorem dX7_shade_11 : decode cX7_shade 11 = .ok (.iconst 0, 1) := by decide +kernel
theorem dX7_shade_12 : decode cX7_shade 12 = .ok (.aload_n 0, 1) := by decide +kernel
theorem dX7_shade_13 : decode cX7_shade 13 = .ok (.getfield 19, 3) := by decide +kernel
theorem dX7_shade_16 : decode cX7_shade 16 = .ok (.iload_n 1, 1) := by decide +kernel
theorem dX7_shade_17 : decode cX7_shade 17 = .ok (.iaload, 1) := by decide +kernel
theorem dX7_shade_18 : decode cX7_shade 18 = .ok (.iconst 1, 1) := by decide +kernel
theorem dX7_shade_19 : decode cX7_shade 19 = .ok (.isub, 1) := by decide +kernel
theorem dX7_shade_20 : decode cX7_shade 20 = .ok (.invokestatic 67, 3) := by decide +kernel
theorem dX7_shade_23 : decode cX7_shade 23 = .ok (.ifCond .ne 6, 3) := by decide +kernel
theorem dX7_shade_26 : decode cX7_shade 26 = .ok (.bipush (-2), 2) := by decide +kernel
theorem dX7_shade_28 : decode cX7_shade 28 = .ok (.ireturn, 1) := by decide +kernel
theorem dX7_shade_29 : decode cX7_shade 29 = .ok (.aload_n 0, 1) := by decide +kernel
theorem dX7_shade_30 : decode cX7_shade 30 = .ok (.getfield 22, 3) := by decide +kernel
theorem dX7_shade_33 : decode cX7_shade 33 = .ok (.iload_n 1, 1) := by decide +kernel
theorem dX7_shade_34 : decode cX7_shade 34 = .ok (.iaload, 1) := by decide +kernel
theorem dX7_shade_35 : decode cX7_shade 35 = .ok (.istore_n 3, 1) := by decide +kernel
theorem dX7_shade_36 : decode cX7_shade 36 = .ok (.aload_n 0, 1) := by decide +kernel
theorem dX7_shade_37 : decode cX7_shade 37 = .ok (.getfield 22, 3) := by decide +kernel
theorem dX7_shade_40 : decode cX7_shade 40 = .ok (.iload_n 1, 1) := by decide +kernel
theorem dX7_shade_41 : decode cX7_shade 41 = .ok (.iload_n 2, 1) := by decide +kernel
theorem dX7_shade_42 : decode cX7_shade 42 = .ok (.iastore, 1) := by decide +kernel
theorem dX7_shade_43 : decode cX7_shade 43 = .ok (.iload_n 3, 1) := by decide +kernel
theorem dX7_shade_44 : decode cX7_shade 44 = .ok (.ireturn, 1) := by decide +kernel
theorem dX7_turn_0 : decode cX7_turn 0 = .ok (.aload_n 0, 1) := by decide +kernel
theorem dX7_turn_1 : decode cX7_turn 1 = .ok (.iload_n 1, 1) := by decide +kernel
theorem dX7_turn_2 : decode cX7_turn 2 = .ok (.invokevirtual 133, 3) := by decide +kernel
theorem dX7_turn_5 : decode cX7_turn 5 = .ok (.ifCond .ne 5, 3) := by decide +kernel
theorem dX7_turn_8 : decode cX7_turn 8 = .ok (.iconst (-1), 1) := by decide +kernel
theorem dX7_turn_9 : decode cX7_turn 9 = .ok (.ireturn, 1) := by decide +kernel
theorem dX7_turn_10 : decode cX7_turn 10 = .ok (.iload_n 2, 1) := by decide +kernel
theorem dX7_turn_11 : decode cX7_turn 11 = .ok (.iconst 1, 1) := by decide +kernel
theorem dX7_turn_12 : decode cX7_turn 12 = .ok (.iconst 4, 1) := by decide +kernel
theorem dX7_turn_13 : decode cX7_turn 13 = .ok (.invokestatic 67, 3) := by decide +kernel
theorem dX7_turn_16 : decode cX7_turn 16 = .ok (.ifCond .ne 6, 3) := by decide +kernel
theorem dX7_turn_19 : decode cX7_turn 19 = .ok (.bipush (-2), 2) := by decide +kernel
theorem dX7_turn_21 : decode cX7_turn 21 = .ok (.ireturn, 1) := by decide +kernel
theorem dX7_turn_22 : decode cX7_turn 22 = .ok (.aload_n 0, 1) := by decide +kernel
theorem dX7_turn_23 : decode cX7_turn 23 = .ok (.getfield 28, 3) := by decide +kernel
theorem dX7_turn_26 : decode cX7_turn 26 = .ok (.iload_n 1, 1) := by decide +kernel
theorem dX7_turn_27 : decode cX7_turn 27 = .ok (.iaload, 1) := by decide +kernel
theorem dX7_turn_28 : decode cX7_turn 28 = .ok (.istore_n 3, 1) := by decide +kernel
theorem dX7_turn_29 : decode cX7_turn 29 = .ok (.aload_n 0, 1) := by decide +kernel
theorem dX7_turn_30 : decode cX7_turn 30 = .ok (.getfield 28, 3) := by decide +kernel
theorem dX7_turn_33 : decode cX7_turn 33 = .ok (.iload_n 1, 1) := by decide +kernel
theorem dX7_turn_34 : decode cX7_turn 34 = .ok (.iload_n 2, 1) := by decide +kernel
theorem dX7_turn_35 : decode cX7_turn 35 = .ok (.iastore, 1) := by decide +kernel
theorem dX7_turn_36 : decode cX7_turn 36 = .ok (.iload_n 3, 1) := by decide +kernel
theorem dX7_turn_37 : decode cX7_turn 37 = .ok (.ireturn, 1) := by decide +kernel
theorem dX7_wire_0 : decode cX7_wire 0 = .ok (.aload_n 0, 1) := by decide +kernel
theorem dX7_wire_1 : decode cX7_wire 1 = .ok (.iload_n 1, 1) := by decide +kernel
theorem dX7_wire_2 : decode cX7_wire 2 = .ok (.invokevirtual 133, 3) := by decide +kernel
theorem dX7_wire_5 : decode cX7_wire 5 = .ok (.ifCond .eq 11, 3) := by decide +kernel
theorem dX7_wire_8 : decode cX7_wire 8 = .ok (.aload_n 0, 1) := by decide +kernel
theorem dX7_wire_9 : decode cX7_wire 9 = .ok (.iload_n 2, 1) := by decide +kernel
theorem dX7_wire_10 : decode cX7_wire 10 = .ok (.invokevirtual 127, 3) := by decide +kernel
theorem dX7_wire_13 : decode cX7_wire 13 = .ok (.ifCond .ne 5, 3) := by decide +kernel
theorem dX7_wire_16 : decode cX7_wire 16 = .ok (.iconst (-1), 1) := by decide +kernel
theorem dX7_wire_17 : decode cX7_wire 17 = .ok (.ireturn, 1) := by decide +kernel
theorem dX7_wire_18 : decode cX7_wire 18 = .ok (.aload_n 0, 1) := by decide +kernel
theorem dX7_wire_19 : decode cX7_wire 19 = .ok (.getfield 31, 3) := by decide +kernel
theorem dX7_wire_22 : decode cX7_wire 22 = .ok (.iload_n 1, 1) := by decide +kernel
theorem dX7_wire_23 : decode cX7_wire 23 = .ok (.dup2, 1) := by decide +kernel
theorem dX7_wire_24 : decode cX7_wire 24 = .ok (.iaload, 1) := by decide +kernel
theorem dX7_wire_25 : decode cX7_wire 25 = .ok (.iconst 1, 1) := by decide +kernel
theorem dX7_wire_26 : decode cX7_wire 26 = .ok (.iload_n 2, 1) := by decide +kernel
theorem dX7_wire_27 : decode cX7_wire 27 = .ok (.ishl, 1) := by decide +kernel
theorem dX7_wire_28 : decode cX7_wire 28 = .ok (.ixor, 1) := by decide +kernel
theorem dX7_wire_29 : decode cX7_wire 29 = .ok (.iastore, 1) := by decide +kernel
theorem dX7_wire_30 : decode cX7_wire 30 = .ok (.aload_n 0, 1) := by decide +kernel
theorem dX7_wire_31 : decode cX7_wire 31 = .ok (.getfield 31, 3) := by decide +kernel
theorem dX7_wire_34 : decode cX7_wire 34 = .ok (.iload_n 1, 1) := by decide +kernel
theorem dX7_wire_35 : decode cX7_wire 35 = .ok (.iaload, 1) := by decide +kernel
theorem dX7_wire_36 : decode cX7_wire 36 = .ok (.iload_n 2, 1) := by decide +kernel
theorem dX7_wire_37 : decode cX7_wire 37 = .ok (.ishr, 1) := by decide +kernel
theorem dX7_wire_38 : decode cX7_wire 38 = .ok (.iconst 1, 1) := by decide +kernel
theorem dX7_wire_39 : decode cX7_wire 39 = .ok (.iand, 1) := by decide +kernel
theorem dX7_wire_40 : decode cX7_wire 40 = .ok (.ireturn, 1) := by decide +kernel
theorem dX7_turnsAll_0 : decode cX7_turnsAll 0 = .ok (.iconst 0, 1) := by decide +kernel
theorem dX7_turnsAll_1 : decode cX7_turnsAll 1 = .ok (.istore_n 3, 1) := by decide +kernel
theorem dX7_turnsAll_2 : decode cX7_turnsAll 2 = .ok (.iload_n 3, 1) := by decide +kernel
theorem dX7_turnsAll_3 : decode cX7_turnsAll 3 = .ok (.aload_n 0, 1) := by decide +kernel
theorem dX7_turnsAll_4 : decode cX7_turnsAll 4 = .ok (.getfield 71, 3) := by decide +kernel
theorem dX7_turnsAll_7 : decode cX7_turnsAll 7 = .ok (.if_icmp .ge 49, 3) := by decide +kernel
theorem dX7_turnsAll_10 : decode cX7_turnsAll 10 = .ok (.aload_n 0, 1) := by decide +kernel
theorem dX7_turnsAll_11 : decode cX7_turnsAll 11 = .ok (.getfield 31, 3) := by decide +kernel
theorem dX7_turnsAll_14 : decode cX7_turnsAll 14 = .ok (.iload_n 1, 1) := by decide +kernel
theorem dX7_turnsAll_15 : decode cX7_turnsAll 15 = .ok (.iaload, 1) := by decide +kernel
theorem dX7_turnsAll_16 : decode cX7_turnsAll 16 = .ok (.iload_n 3, 1) := by decide +kernel
theorem dX7_turnsAll_17 : decode cX7_turnsAll 17 = .ok (.invokestatic 124, 3) := by decide +kernel
theorem dX7_turnsAll_20 : decode cX7_turnsAll 20 = .ok (.ifCond .eq 30, 3) := by decide +kernel
theorem dX7_turnsAll_23 : decode cX7_turnsAll 23 = .ok (.aload_n 0, 1) := by decide +kernel
theorem dX7_turnsAll_24 : decode cX7_turnsAll 24 = .ok (.getfield 22, 3) := by decide +kernel
theorem dX7_turnsAll_27 : decode cX7_turnsAll 27 = .ok (.iload_n 3, 1) := by decide +kernel
theorem dX7_turnsAll_28 : decode cX7_turnsAll 28 = .ok (.aload_n 0, 1) := by decide +kernel
theorem dX7_turnsAll_29 : decode cX7_turnsAll 29 = .ok (.getfield 22, 3) := by decide +kernel
theorem dX7_turnsAll_32 : decode cX7_turnsAll 32 = .ok (.iload_n 3, 1) := by decide +kernel
theorem dX7_turnsAll_33 : decode cX7_turnsAll 33 = .ok (.iaload, 1) := by decide +kernel
theorem dX7_turnsAll_34 : decode cX7_turnsAll 34 = .ok (.iload_n 2, 1) := by decide +kernel
theorem dX7_turnsAll_35 : decode cX7_turnsAll 35 = .ok (.aload_n 0, 1) := by decide +kernel
theorem dX7_turnsAll_36 : decode cX7_turnsAll 36 = .ok (.iload_n 1, 1) := by decide +kernel
theorem dX7_turnsAll_37 : decode cX7_turnsAll 37 = .ok (.invokevirtual 136, 3) := by decide +kernel
theorem dX7_turnsAll_40 : decode cX7_turnsAll 40 = .ok (.imul, 1) := by decide +kernel
theorem dX7_turnsAll_41 : decode cX7_turnsAll 41 = .ok (.iadd, 1) := by decide +kernel
theorem dX7_turnsAll_42 : decode cX7_turnsAll 42 = .ok (.aload_n 0, 1) := by decide +kernel
theorem dX7_turnsAll_43 : decode cX7_turnsAll 43 = .ok (.getfield 19, 3) := by decide +kernel
theorem dX7_turnsAll_46 : decode cX7_turnsAll 46 = .ok (.iload_n 3, 1) := by decide +kernel
theorem dX7_turnsAll_47 : decode cX7_turnsAll 47 = .ok (.iaload, 1) := by decide +kernel
theorem dX7_turnsAll_48 : decode cX7_turnsAll 48 = .ok (.irem, 1) := by decide +kernel
theorem dX7_turnsAll_49 : decode cX7_turnsAll 49 = .ok (.iastore, 1) := by decide +kernel
theorem dX7_turnsAll_50 : decode cX7_turnsAll 50 = .ok (.iinc 3 1, 3) := by decide +kernel
theorem dX7_turnsAll_53 : decode cX7_turnsAll 53 = .ok (.goto (-51), 3) := by decide +kernel
theorem dX7_turnsAll_56 : decode cX7_turnsAll 56 = .ok (.return_, 1) := by decide +kernel
theorem dX7_press_0 : decode cX7_press 0 = .ok (.aload_n 0, 1) := by decide +kernel
theorem dX7_press_1 : decode cX7_press 1 = .ok (.iload_n 1, 1) := by decide +kernel
theorem dX7_press_2 : decode cX7_press 2 = .ok (.invokevirtual 133, 3) := by decide +kernel
theorem dX7_press_5 : decode cX7_press 5 = .ok (.ifCond .ne 5, 3) := by decide +kernel
theorem dX7_press_8 : decode cX7_press 8 = .ok (.iconst (-1), 1) := by decide +kernel
theorem dX7_press_9 : decode cX7_press 9 = .ok (.ireturn, 1) := by decide +kernel
theorem dX7_press_10 : decode cX7_press 10 = .ok (.iload_n 2, 1) := by decide +kernel
theorem dX7_press_11 : decode cX7_press 11 = .ok (.iconst 1, 1) := by decide +kernel
theorem dX7_press_12 : decode cX7_press 12 = .ok (.bipush 99, 2) := by decide +kernel
theorem dX7_press_14 : decode cX7_press 14 = .ok (.invokestatic 67, 3) := by decide +kernel
theorem dX7_press_17 : decode cX7_press 17 = .ok (.ifCond .ne 6, 3) := by decide +kernel
theorem dX7_press_20 : decode cX7_press 20 = .ok (.bipush (-2), 2) := by decide +kernel
theorem dX7_press_22 : decode cX7_press 22 = .ok (.ireturn, 1) := by decide +kernel
theorem dX7_press_23 : decode cX7_press 23 = .ok (.aload_n 0, 1) := by decide +kernel
theorem dX7_press_24 : decode cX7_press 24 = .ok (.iload_n 1, 1) := by decide +kernel
theorem dX7_press_25 : decode cX7_press 25 = .ok (.iload_n 2, 1) := by decide +kernel
theorem dX7_press_26 : decode cX7_press 26 = .ok (.invokevirtual 139, 3) := by decide +kernel
theorem dX7_press_29 : decode cX7_press 29 = .ok (.aload_n 0, 1) := by decide +kernel
theorem dX7_press_30 : decode cX7_press 30 = .ok (.getfield 34, 3) := by decide +kernel
theorem dX7_press_33 : decode cX7_press 33 = .ok (.iload_n 1, 1) := by decide +kernel
theorem dX7_press_34 : decode cX7_press 34 = .ok (.dup2, 1) := by decide +kernel
theorem dX7_press_35 : decode cX7_press 35 = .ok (.iaload, 1) := by decide +kernel
theorem dX7_press_36 : decode cX7_press 36 = .ok (.iload_n 2, 1) := by decide +kernel
theorem dX7_press_37 : decode cX7_press 37 = .ok (.iadd, 1) := by decide +kernel
theorem dX7_press_38 : decode cX7_press 38 = .ok (.iastore, 1) := by decide +kernel
theorem dX7_press_39 : decode cX7_press 39 = .ok (.aload_n 0, 1) := by decide +kernel
theorem dX7_press_40 : decode cX7_press 40 = .ok (.dup, 1) := by decide +kernel
theorem dX7_press_41 : decode cX7_press 41 = .ok (.getfield 107, 3) := by decide +kernel
theorem dX7_press_44 : decode cX7_press 44 = .ok (.iload_n 2, 1) := by decide +kernel
theorem dX7_press_45 : decode cX7_press 45 = .ok (.iadd, 1) := by decide +kernel
theorem dX7_press_46 : decode cX7_press 46 = .ok (.putfield 107, 3) := by decide +kernel
theorem dX7_press_49 : decode cX7_press 49 = .ok (.aload_n 0, 1) := by decide +kernel
theorem dX7_press_50 : decode cX7_press 50 = .ok (.invokevirtual 143, 3) := by decide +kernel
theorem dX7_press_53 : decode cX7_press 53 = .ok (.ireturn, 1) := by decide +kernel
theorem dX7_keep_0 : decode cX7_keep 0 = .ok (.iconst 0, 1) := by decide +kernel
theorem dX7_keep_1 : decode cX7_keep 1 = .ok (.istore_n 1, 1) := by decide +kernel
theorem dX7_keep_2 : decode cX7_keep 2 = .ok (.iload_n 1, 1) := by decide +kernel
theorem dX7_keep_3 : decode cX7_keep 3 = .ok (.aload_n 0, 1) := by decide +kernel
theorem dX7_keep_4 : decode cX7_keep 4 = .ok (.getfield 71, 3) := by decide +kernel
theorem dX7_keep_7 : decode cX7_keep 7 = .ok (.if_icmp .ge 21, 3) := by decide +kernel
theorem dX7_keep_10 : decode cX7_keep 10 = .ok (.aload_n 0, 1) := by decide +kernel
theorem dX7_keep_11 : decode cX7_keep 11 = .ok (.getfield 43, 3) := by decide +kernel
theorem dX7_keep_14 : decode cX7_keep 14 = .ok (.iload_n 1, 1) := by decide +kernel
theorem dX7_keep_15 : decode cX7_keep 15 = .ok (.aload_n 0, 1) := by decide +kernel
theorem dX7_keep_16 : decode cX7_keep 16 = .ok (.getfield 22, 3) := by decide +kernel
theorem dX7_keep_19 : decode cX7_keep 19 = .ok (.iload_n 1, 1) := by decide +kernel
theorem dX7_keep_20 : decode cX7_keep 20 = .ok (.iaload, 1) := by decide +kernel
theorem dX7_keep_21 : decode cX7_keep 21 = .ok (.iastore, 1) := by decide +kernel
theorem dX7_keep_22 : decode cX7_keep 22 = .ok (.iinc 1 1, 3) := by decide +kernel
theorem dX7_keep_25 : decode cX7_keep 25 = .ok (.goto (-23), 3) := by decide +kernel
theorem dX7_keep_28 : decode cX7_keep 28 = .ok (.return_, 1) := by decide +kernel
theorem dX7_putBack_0 : decode cX7_putBack 0 = .ok (.iconst 0, 1) := by decide +kernel
theorem dX7_putBack_1 : decode cX7_putBack 1 = .ok (.istore_n 1, 1) := by decide +kernel
theorem dX7_putBack_2 : decode cX7_putBack 2 = .ok (.iload_n 1, 1) := by decide +kernel
theorem dX7_putBack_3 : decode cX7_putBack 3 = .ok (.aload_n 0, 1) := by decide +kernel
theorem dX7_putBack_4 : decode cX7_putBack 4 = .ok (.getfield 71, 3) := by decide +kernel
theorem dX7_putBack_7 : decode cX7_putBack 7 = .ok (.if_icmp .ge 21, 3) := by decide +kernel
theorem dX7_putBack_10 : decode cX7_putBack 10 = .ok (.aload_n 0, 1) := by decide +kernel
theorem dX7_putBack_11 : decode cX7_putBack 11 = .ok (.getfield 22, 3) := by decide +kernel
theorem dX7_putBack_14 : decode cX7_putBack 14 = .ok (.iload_n 1, 1) := by decide +kernel
theorem dX7_putBack_15 : decode cX7_putBack 15 = .ok (.aload_n 0, 1) := by decide +kernel
theorem dX7_putBack_16 : decode cX7_putBack 16 = .ok (.getfield 43, 3) := by decide +kernel
theorem dX7_putBack_19 : decode cX7_putBack 19 = .ok (.iload_n 1, 1) := by decide +kernel
theorem dX7_putBack_20 : decode cX7_putBack 20 = .ok (.iaload, 1) := by decide +kernel
theorem dX7_putBack_21 : decode cX7_putBack 21 = .ok (.iastore, 1) := by decide +kernel
theorem dX7_putBack_22 : decode cX7_putBack 22 = .ok (.iinc 1 1, 3) := by decide +kernel
theorem dX7_putBack_25 : decode cX7_putBack 25 = .ok (.goto (-23), 3) := by decide +kernel
theorem dX7_putBack_28 : decode cX7_putBack 28 = .ok (.return_, 1) := by decide +kernel
theorem dX7_does_0 : decode cX7_does 0 = .ok (.iload_n 2, 1) := by decide +kernel
theorem dX7_does_1 : decode cX7_does 1 = .ok (.bipush 10, 2) := by decide +kernel
theorem dX7_does_3 : decode cX7_does 3 = .ok (.if_icmp .ge 22, 3) := by decide +kernel
theorem dX7_does_6 : decode cX7_does 6 = .ok (.aload_n 0, 1) := by decide +kernel
theorem dX7_does_7 : decode cX7_does 7 = .ok (.iload_n 1, 1) := by decide +kernel
theorem dX7_does_8 : decode cX7_does 8 = .ok (.iload_n 2, 1) := by decide +kernel
theorem dX7_does_9 : decode cX7_does 9 = .ok (.invokevirtual 139, 3) := by decide +kernel
theorem dX7_does_12 : decode cX7_does 12 = .ok (.aload_n 0, 1) := by decide +kernel
theorem dX7_does_13 : decode cX7_does 13 = .ok (.dup, 1) := by decide +kernel
theorem dX7_does_14 : decode cX7_does 14 = .ok (.getfield 147, 3) := by decide +kernel
theorem dX7_does_17 : decode cX7_does 17 = .ok (.iload_n 2, 1) := by decide +kernel
theorem dX7_does_18 : decode cX7_does 18 = .ok (.iadd, 1) := by decide +kernel
theorem dX7_does_19 : decode cX7_does 19 = .ok (.putfield 147, 3) := by decide +kernel
theorem dX7_does_22 : decode cX7_does 22 = .ok (.goto 35, 3) := by decide +kernel
theorem dX7_does_25 : decode cX7_does 25 = .ok (.iload_n 2, 1) := by decide +kernel
theorem dX7_does_26 : decode cX7_does 26 = .ok (.bipush 10, 2) := by decide +kernel
theorem dX7_does_28 : decode cX7_does 28 = .ok (.isub, 1) := by decide +kernel
theorem dX7_does_29 : decode cX7_does 29 = .ok (.istore_n 3, 1) := by decide +kernel
theorem dX7_does_30 : decode cX7_does 30 = .ok (.aload_n 0, 1) := by decide +kernel
theorem dX7_does_31 : decode cX7_does 31 = .ok (.iload_n 3, 1) := by decide +kernel
theorem dX7_does_32 : decode cX7_does 32 = .ok (.invokevirtual 127, 3) := by decide +kernel
theorem dX7_does_35 : decode cX7_does 35 = .ok (.ifCond .eq 13, 3) := by decide +kernel
theorem dX7_does_38 : decode cX7_does 38 = .ok (.iload_n 1, 1) := by decide +kernel
theorem dX7_does_39 : decode cX7_does 39 = .ok (.aload_n 0, 1) := by decide +kernel
theorem dX7_does_40 : decode cX7_does 40 = .ok (.getfield 19, 3) := by decide +kernel
theorem dX7_does_43 : decode cX7_does 43 = .ok (.iload_n 3, 1) := by decide +kernel
theorem dX7_does_44 : decode cX7_does 44 = .ok (.iaload, 1) := by decide +kernel
theorem dX7_does_45 : decode cX7_does 45 = .ok (.if_icmp .lt 5, 3) := by decide +kernel
theorem dX7_does_48 : decode cX7_does 48 = .ok (.iconst 0, 1) := by decide +kernel
theorem dX7_does_49 : decode cX7_does 49 = .ok (.ireturn, 1) := by decide +kernel
theorem dX7_does_50 : decode cX7_does 50 = .ok (.aload_n 0, 1) := by decide +kernel
theorem dX7_does_51 : decode cX7_does 51 = .ok (.getfield 22, 3) := by decide +kernel
theorem dX7_does_54 : decode cX7_does 54 = .ok (.iload_n 3, 1) := by decide +kernel
theorem dX7_does_55 : decode cX7_does 55 = .ok (.iload_n 1, 1) := by decide +kernel
theorem dX7_does_56 : decode cX7_does 56 = .ok (.iastore, 1) := by decide +kernel
theorem dX7_does_57 : decode cX7_does 57 = .ok (.aload_n 0, 1) := by decide +kernel
theorem dX7_does_58 : decode cX7_does 58 = .ok (.dup, 1) := by decide +kernel
theorem dX7_does_59 : decode cX7_does 59 = .ok (.getfield 150, 3) := by decide +kernel
theorem dX7_does_62 : decode cX7_does 62 = .ok (.aload_n 0, 1) := by decide +kernel
theorem dX7_does_63 : decode cX7_does 63 = .ok (.invokevirtual 143, 3) := by decide +kernel
theorem dX7_does_66 : decode cX7_does 66 = .ok (.aload_n 0, 1) := by decide +kernel
theorem dX7_does_67 : decode cX7_does 67 = .ok (.getfield 71, 3) := by decide +kernel
theorem dX7_does_70 : decode cX7_does 70 = .ok (.if_icmp .ne 7, 3) := by decide +kernel
theorem dX7_does_73 : decode cX7_does 73 = .ok (.iconst 1, 1) := by decide +kernel
theorem dX7_does_74 : decode cX7_does 74 = .ok (.goto 4, 3) := by decide +kernel
theorem dX7_does_77 : decode cX7_does 77 = .ok (.iconst 0, 1) := by decide +kernel
theorem dX7_does_78 : decode cX7_does 78 = .ok (.iadd, 1) := by decide +kernel
theorem dX7_does_79 : decode cX7_does 79 = .ok (.putfield 150, 3) := by decide +kernel
theorem dX7_does_82 : decode cX7_does 82 = .ok (.iconst 1, 1) := by decide +kernel
theorem dX7_does_83 : decode cX7_does 83 = .ok (.ireturn, 1) := by decide +kernel
theorem dX7_goDay_0 : decode cX7_goDay 0 = .ok (.aload_n 0, 1) := by decide +kernel
theorem dX7_goDay_1 : decode cX7_goDay 1 = .ok (.iconst 0, 1) := by decide +kernel
theorem dX7_goDay_2 : decode cX7_goDay 2 = .ok (.putfield 147, 3) := by decide +kernel
theorem dX7_goDay_5 : decode cX7_goDay 5 = .ok (.aload_n 0, 1) := by decide +kernel
theorem dX7_goDay_6 : decode cX7_goDay 6 = .ok (.iconst 0, 1) := by decide +kernel
theorem dX7_goDay_7 : decode cX7_goDay 7 = .ok (.putfield 150, 3) := by decide +kernel
theorem dX7_goDay_10 : decode cX7_goDay 10 = .ok (.iconst 0, 1) := by decide +kernel
theorem dX7_goDay_11 : decode cX7_goDay 11 = .ok (.istore_n 3, 1) := by decide +kernel
theorem dX7_goDay_12 : decode cX7_goDay 12 = .ok (.iload_n 3, 1) := by decide +kernel
theorem dX7_goDay_13 : decode cX7_goDay 13 = .ok (.iload_n 2, 1) := by decide +kernel
theorem dX7_goDay_14 : decode cX7_goDay 14 = .ok (.if_icmp .ge 40, 3) := by decide +kernel
theorem dX7_goDay_17 : decode cX7_goDay 17 = .ok (.aload_n 0, 1) := by decide +kernel
theorem dX7_goDay_18 : decode cX7_goDay 18 = .ok (.aload_n 0, 1) := by decide +kernel
theorem dX7_goDay_19 : decode cX7_goDay 19 = .ok (.getfield 16, 3) := by decide +kernel
theorem dX7_goDay_22 : decode cX7_goDay 22 = .ok (.iload_n 1, 1) := by decide +kernel
theorem dX7_goDay_23 : decode cX7_goDay 23 = .ok (.iconst 2, 1) := by decide +kernel
theorem dX7_goDay_24 : decode cX7_goDay 24 = .ok (.iload_n 3, 1) := by decide +kernel
theorem dX7_goDay_25 : decode cX7_goDay 25 = .ok (.imul, 1) := by decide +kernel
theorem dX7_goDay_26 : decode cX7_goDay 26 = .ok (.iadd, 1) := by decide +kernel
theorem dX7_goDay_27 : decode cX7_goDay 27 = .ok (.iaload, 1) := by decide +kernel
theorem dX7_goDay_28 : decode cX7_goDay 28 = .ok (.aload_n 0, 1) := by decide +kernel
theorem dX7_goDay_29 : decode cX7_goDay 29 = .ok (.getfield 16, 3) := by decide +kernel
theorem dX7_goDay_32 : decode cX7_goDay 32 = .ok (.iload_n 1, 1) := by decide +kernel
theorem dX7_goDay_33 : decode cX7_goDay 33 = .ok (.iconst 2, 1) := by decide +kernel
theorem dX7_goDay_34 : decode cX7_goDay 34 = .ok (.iload_n 3, 1) := by decide +kernel
theorem dX7_goDay_35 : decode cX7_goDay 35 = .ok (.imul, 1) := by decide +kernel
theorem dX7_goDay_36 : decode cX7_goDay 36 = .ok (.iadd, 1) := by decide +kernel
theorem dX7_goDay_37 : decode cX7_goDay 37 = .ok (.iconst 1, 1) := by decide +kernel
theorem dX7_goDay_38 : decode cX7_goDay 38 = .ok (.iadd, 1) := by decide +kernel
theorem dX7_goDay_39 : decode cX7_goDay 39 = .ok (.iaload, 1) := by decide +kernel
theorem dX7_goDay_40 : decode cX7_goDay 40 = .ok (.invokevirtual 153, 3) := by decide +kernel
theorem dX7_goDay_43 : decode cX7_goDay 43 = .ok (.ifCond .ne 5, 3) := by decide +kernel
theorem dX7_goDay_46 : decode cX7_goDay 46 = .ok (.iload_n 3, 1) := by decide +kernel
theorem dX7_goDay_47 : decode cX7_goDay 47 = .ok (.ireturn, 1) := by decide +kernel
theorem dX7_goDay_48 : decode cX7_goDay 48 = .ok (.iinc 3 1, 3) := by decide +kernel
theorem dX7_goDay_51 : decode cX7_goDay 51 = .ok (.goto (-39), 3) := by decide +kernel
theorem dX7_goDay_54 : decode cX7_goDay 54 = .ok (.bipush (-9), 2) := by decide +kernel
theorem dX7_goDay_56 : decode cX7_goDay 56 = .ok (.ireturn, 1) := by decide +kernel
theorem dX7_refusesPair_0 : decode cX7_refusesPair 0 = .ok (.iload_n 2, 1) := by decide +kernel
theorem dX7_refusesPair_1 : decode cX7_refusesPair 1 = .ok (.bipush 10, 2) := by decide +kernel
theorem dX7_refusesPair_3 : decode cX7_refusesPair 3 = .ok (.if_icmp .lt 7, 3) := by decide +kernel
theorem dX7_refusesPair_6 : decode cX7_refusesPair 6 = .ok (.iconst 1, 1) := by decide +kernel
theorem dX7_refusesPair_7 : decode cX7_refusesPair 7 = .ok (.goto 4, 3) := by decide +kernel
theorem dX7_refusesPair_10 : decode cX7_refusesPair 10 = .ok (.iconst 0, 1) := by decide +kernel
theorem dX7_refusesPair_11 : decode cX7_refusesPair 11 = .ok (.istore_n 3, 1) := by decide +kernel
theorem dX7_refusesPair_12 : decode cX7_refusesPair 12 = .ok (.iload_n 2, 1) := by decide +kernel
theorem dX7_refusesPair_13 : decode cX7_refusesPair 13 = .ok (.iconst 0, 1) := by decide +kernel
theorem dX7_refusesPair_14 : decode cX7_refusesPair 14 = .ok (.bipush 14, 2) := by decide +kernel
theorem dX7_refusesPair_16 : decode cX7_refusesPair 16 = .ok (.invokestatic 67, 3) := by decide +kernel
theorem dX7_refusesPair_19 : decode cX7_refusesPair 19 = .ok (.ifCond .eq 16, 3) := by decide +kernel
theorem dX7_refusesPair_22 : decode cX7_refusesPair 22 = .ok (.iload_n 3, 1) := by decide +kernel
theorem dX7_refusesPair_23 : decode cX7_refusesPair 23 = .ok (.ifCond .eq 15, 3) := by decide +kernel
theorem dX7_refusesPair_26 : decode cX7_refusesPair 26 = .ok (.iload_n 1, 1) := by decide +kernel
theorem dX7_refusesPair_27 : decode cX7_refusesPair 27 = .ok (.iconst 0, 1) := by decide +kernel
theorem dX7_refusesPair_28 : decode cX7_refusesPair 28 = .ok (.iconst 4, 1) := by decide +kernel
theorem dX7_refusesPair_29 : decode cX7_refusesPair 29 = .ok (.invokestatic 67, 3) := by decide +kernel
theorem dX7_refusesPair_32 : decode cX7_refusesPair 32 = .ok (.ifCond .ne 6, 3) := by decide +kernel
theorem dX7_refusesPair_35 : decode cX7_refusesPair 35 = .ok (.bipush (-2), 2) := by decide +kernel
theorem dX7_refusesPair_37 : decode cX7_refusesPair 37 = .ok (.ireturn, 1) := by decide +kernel
theorem dX7_refusesPair_38 : decode cX7_refusesPair 38 = .ok (.iload_n 3, 1) := by decide +kernel
theorem dX7_refusesPair_39 : decode cX7_refusesPair 39 = .ok (.ifCond .ne 15, 3) := by decide +kernel
theorem dX7_refusesPair_42 : decode cX7_refusesPair 42 = .ok (.aload_n 0, 1) := by decide +kernel
theorem dX7_refusesPair_43 : decode cX7_refusesPair 43 = .ok (.iload_n 1, 1) := by decide +kernel
theorem dX7_refusesPair_44 : decode cX7_refusesPair 44 = .ok (.invokevirtual 133, 3) := by decide +kernel
theorem dX7_refusesPair_47 : decode cX7_refusesPair 47 = .ok (.ifCond .ne 7, 3) := by decide +kernel
theorem dX7_refusesPair_50 : decode cX7_refusesPair 50 = .ok (.iconst (-1), 1) := by decide +kernel
theorem dX7_refusesPair_51 : decode cX7_refusesPair 51 = .ok (.goto 4, 3) := by decide +kernel
theorem dX7_refusesPair_54 : decode cX7_refusesPair 54 = .ok (.iconst 0, 1) := by decide +kernel
theorem dX7_refusesPair_55 : decode cX7_refusesPair 55 = .ok (.ireturn, 1) := by decide +kernel
theorem dX7_day_0 : decode cX7_day 0 = .ok (.aload_n 0, 1) := by decide +kernel
theorem dX7_day_1 : decode cX7_day 1 = .ok (.iconst 0, 1) := by decide +kernel
theorem dX7_day_2 : decode cX7_day 2 = .ok (.putfield 61, 3) := by decide +kernel
theorem dX7_day_5 : decode cX7_day 5 = .ok (.iload_n 1, 1) := by decide +kernel
theorem dX7_day_6 : decode cX7_day 6 = .ok (.invokestatic 80, 3) := by decide +kernel
theorem dX7_day_9 : decode cX7_day 9 = .ok (.ifCond .ne 5, 3) := by decide +kernel
theorem dX7_day_12 : decode cX7_day 12 = .ok (.iconst (-1), 1) := by decide +kernel
theorem dX7_day_13 : decode cX7_day 13 = .ok (.ireturn, 1) := by decide +kernel
theorem dX7_day_14 : decode cX7_day 14 = .ok (.iload_n 2, 1) := by decide +kernel
theorem dX7_day_15 : decode cX7_day 15 = .ok (.invokestatic 84, 3) := by decide +kernel
theorem dX7_day_18 : decode cX7_day 18 = .ok (.ifCond .eq 36, 3) := by decide +kernel
theorem dX7_day_21 : decode cX7_day 21 = .ok (.iload 4, 2) := by decide +kernel
theorem dX7_day_23 : decode cX7_day 23 = .ok (.iconst 0, 1) := by decide +kernel
theorem dX7_day_24 : decode cX7_day 24 = .ok (.bipush 20, 2) := by decide +kernel
theorem dX7_day_26 : decode cX7_day 26 = .ok (.invokestatic 67, 3) := by decide +kernel
theorem dX7_day_29 : decode cX7_day 29 = .ok (.ifCond .eq 25, 3) := by decide +kernel
theorem dX7_day_32 : decode cX7_day 32 = .ok (.iload 5, 2) := by decide +kernel
theorem dX7_day_34 : decode cX7_day 34 = .ok (.iconst 0, 1) := by decide +kernel
theorem dX7_day_35 : decode cX7_day 35 = .ok (.iconst 4, 1) := by decide +kernel
theorem dX7_day_36 : decode cX7_day 36 = .ok (.invokestatic 67, 3) := by decide +kernel
theorem dX7_day_39 : decode cX7_day 39 = .ok (.ifCond .ne 18, 3) := by decide +kernel
theorem dX7_day_42 : decode cX7_day 42 = .ok (.iload 5, 2) := by decide +kernel
theorem dX7_day_44 : decode cX7_day 44 = .ok (.bipush 10, 2) := by decide +kernel
theorem dX7_day_46 : decode cX7_day 46 = .ok (.bipush 14, 2) := by decide +kernel
theorem dX7_day_48 : decode cX7_day 48 = .ok (.invokestatic 67, 3) := by decide +kernel
theorem dX7_day_51 : decode cX7_day 51 = .ok (.ifCond .ne 6, 3) := by decide +kernel
theorem dX7_day_54 : decode cX7_day 54 = .ok (.bipush (-2), 2) := by decide +kernel
theorem dX7_day_56 : decode cX7_day 56 = .ok (.ireturn, 1) := by decide +kernel
theorem dX7_day_57 : decode cX7_day 57 = .ok (.aload_n 0, 1) := by decide +kernel
theorem dX7_day_58 : decode cX7_day 58 = .ok (.iload_n 1, 1) := by decide +kernel
theorem dX7_day_59 : decode cX7_day 59 = .ok (.iload_n 2, 1) := by decide +kernel
theorem dX7_day_60 : decode cX7_day 60 = .ok (.iload_n 3, 1) := by decide +kernel
theorem dX7_day_61 : decode cX7_day 61 = .ok (.iconst 2, 1) := by decide +kernel
theorem dX7_day_62 : decode cX7_day 62 = .ok (.iload 4, 2) := by decide +kernel
theorem dX7_day_64 : decode cX7_day 64 = .ok (.imul, 1) := by decide +kernel
theorem dX7_day_65 : decode cX7_day 65 = .ok (.invokevirtual 87, 3) := by decide +kernel
theorem dX7_day_68 : decode cX7_day 68 = .ok (.istore 6, 2) := by decide +kernel
theorem dX7_day_70 : decode cX7_day 70 = .ok (.iload 6, 2) := by decide +kernel
theorem dX7_day_72 : decode cX7_day 72 = .ok (.ifCond .eq 10, 3) := by decide +kernel
theorem dX7_day_75 : decode cX7_day 75 = .ok (.aload_n 0, 1) := by decide +kernel
theorem dX7_day_76 : decode cX7_day 76 = .ok (.iload 6, 2) := by decide +kernel
theorem dX7_day_78 : decode cX7_day 78 = .ok (.invokevirtual 91, 3) := by decide +kernel
theorem dX7_day_81 : decode cX7_day 81 = .ok (.ireturn, 1) := by decide +kernel
theorem dX7_day_82 : decode cX7_day 82 = .ok (.aload_n 0, 1) := by decide +kernel
theorem dX7_day_83 : decode cX7_day 83 = .ok (.getfield 71, 3) := by decide +kernel
theorem dX7_day_86 : decode cX7_day 86 = .ok (.ifCond .ne 6, 3) := by decide +kernel
theorem dX7_day_89 : decode cX7_day 89 = .ok (.bipush (-3), 2) := by decide +kernel
theorem dX7_day_91 : decode cX7_day 91 = .ok (.ireturn, 1) := by decide +kernel
theorem dX7_day_92 : decode cX7_day 92 = .ok (.bipush 60, 2) := by decide +kernel
theorem dX7_day_94 : decode cX7_day 94 = .ok (.iload_n 1, 1) := by decide +kernel
theorem dX7_day_95 : decode cX7_day 95 = .ok (.imul, 1) := by decide +kernel
theorem dX7_day_96 : decode cX7_day 96 = .ok (.iload_n 3, 1) := by decide +kernel
theorem dX7_day_97 : decode cX7_day 97 = .ok (.iadd, 1) := by decide +kernel
theorem dX7_day_98 : decode cX7_day 98 = .ok (.istore 7, 2) := by decide +kernel
theorem dX7_day_100 : decode cX7_day 100 = .ok (.iconst 0, 1) := by decide +kernel
theorem dX7_day_101 : decode cX7_day 101 = .ok (.istore 8, 2) := by decide +kernel
theorem dX7_day_103 : decode cX7_day 103 = .ok (.iload 8, 2) := by decide +kernel
theorem dX7_day_105 : decode cX7_day 105 = .ok (.iload 4, 2) := by decide +kernel
theorem dX7_day_107 : decode cX7_day 107 = .ok (.if_icmp .ge 49, 3) := by decide +kernel
theorem dX7_day_110 : decode cX7_day 110 = .ok (.aload_n 0, 1) := by decide +kernel
theorem dX7_day_111 : decode cX7_day 111 = .ok (.aload_n 0, 1) := by decide +kernel
theorem dX7_day_112 : decode cX7_day 112 = .ok (.getfield 16, 3) := by decide +kernel
theorem dX7_day_115 : decode cX7_day 115 = .ok (.iload 7, 2) := by decide +kernel
theorem dX7_day_117 : decode cX7_day 117 = .ok (.iconst 2, 1) := by decide +kernel
theorem dX7_day_118 : decode cX7_day 118 = .ok (.iload 8, 2) := by decide +kernel
theorem dX7_day_120 : decode cX7_day 120 = .ok (.imul, 1) := by decide +kernel
theorem dX7_day_121 : decode cX7_day 121 = .ok (.iadd, 1) := by decide +kernel
theorem dX7_day_122 : decode cX7_day 122 = .ok (.iaload, 1) := by decide +kernel
theorem dX7_day_123 : decode cX7_day 123 = .ok (.aload_n 0, 1) := by decide +kernel
theorem dX7_day_124 : decode cX7_day 124 = .ok (.getfield 16, 3) := by decide +kernel
theorem dX7_day_127 : decode cX7_day 127 = .ok (.iload 7, 2) := by decide +kernel
theorem dX7_day_129 : decode cX7_day 129 = .ok (.iconst 2, 1) := by decide +kernel
theorem dX7_day_130 : decode cX7_day 130 = .ok (.iload 8, 2) := by decide +kernel
theorem dX7_day_132 : decode cX7_day 132 = .ok (.imul, 1) := by decide +kernel
theorem dX7_day_133 : decode cX7_day 133 = .ok (.iadd, 1) := by decide +kernel
theorem dX7_day_134 : decode cX7_day 134 = .ok (.iconst 1, 1) := by decide +kernel
theorem dX7_day_135 : decode cX7_day 135 = .ok (.iadd, 1) := by decide +kernel
theorem dX7_day_136 : decode cX7_day 136 = .ok (.iaload, 1) := by decide +kernel
theorem dX7_day_137 : decode cX7_day 137 = .ok (.invokevirtual 156, 3) := by decide +kernel
theorem dX7_day_140 : decode cX7_day 140 = .ok (.istore 9, 2) := by decide +kernel
theorem dX7_day_142 : decode cX7_day 142 = .ok (.iload 9, 2) := by decide +kernel
theorem dX7_day_144 : decode cX7_day 144 = .ok (.ifCond .eq 6, 3) := by decide +kernel
theorem dX7_day_147 : decode cX7_day 147 = .ok (.iload 9, 2) := by decide +kernel
theorem dX7_day_149 : decode cX7_day 149 = .ok (.ireturn, 1) := by decide +kernel
theorem dX7_day_150 : decode cX7_day 150 = .ok (.iinc 8 1, 3) := by decide +kernel
theorem dX7_day_153 : decode cX7_day 153 = .ok (.goto (-50), 3) := by decide +kernel
theorem dX7_day_156 : decode cX7_day 156 = .ok (.aload_n 0, 1) := by decide +kernel
theorem dX7_day_157 : decode cX7_day 157 = .ok (.invokevirtual 160, 3) := by decide +kernel
theorem dX7_day_160 : decode cX7_day 160 = .ok (.aload_n 0, 1) := by decide +kernel
theorem dX7_day_161 : decode cX7_day 161 = .ok (.iload 7, 2) := by decide +kernel
theorem dX7_day_163 : decode cX7_day 163 = .ok (.iload 4, 2) := by decide +kernel
theorem dX7_day_165 : decode cX7_day 165 = .ok (.invokevirtual 163, 3) := by decide +kernel
theorem dX7_day_168 : decode cX7_day 168 = .ok (.istore 8, 2) := by decide +kernel
theorem dX7_day_170 : decode cX7_day 170 = .ok (.aload_n 0, 1) := by decide +kernel
theorem dX7_day_171 : decode cX7_day 171 = .ok (.iload 5, 2) := by decide +kernel
theorem dX7_day_173 : decode cX7_day 173 = .ok (.invokevirtual 166, 3) := by decide +kernel
theorem dX7_day_176 : decode cX7_day 176 = .ok (.istore 9, 2) := by decide +kernel
theorem dX7_day_178 : decode cX7_day 178 = .ok (.aload_n 0, 1) := by decide +kernel
theorem dX7_day_179 : decode cX7_day 179 = .ok (.invokevirtual 169, 3) := by decide +kernel
theorem dX7_day_182 : decode cX7_day 182 = .ok (.iload 5, 2) := by decide +kernel
theorem dX7_day_184 : decode cX7_day 184 = .ok (.iconst 1, 1) := by decide +kernel
theorem dX7_day_185 : decode cX7_day 185 = .ok (.if_icmp .ne 8, 3) := by decide +kernel
theorem dX7_day_188 : decode cX7_day 188 = .ok (.iload 8, 2) := by decide +kernel
theorem dX7_day_190 : decode cX7_day 190 = .ok (.goto 20, 3) := by decide +kernel
theorem dX7_day_193 : decode cX7_day 193 = .ok (.iload 8, 2) := by decide +kernel
theorem dX7_day_195 : decode cX7_day 195 = .ok (.bipush (-9), 2) := by decide +kernel
theorem dX7_day_197 : decode cX7_day 197 = .ok (.if_icmp .ne 8, 3) := by decide +kernel
theorem dX7_day_200 : decode cX7_day 200 = .ok (.iload 9, 2) := by decide +kernel
theorem dX7_day_202 : decode cX7_day 202 = .ok (.goto 8, 3) := by decide +kernel
theorem dX7_day_205 : decode cX7_day 205 = .ok (.bipush (-100), 2) := by decide +kernel
theorem dX7_day_207 : decode cX7_day 207 = .ok (.iload 8, 2) := by decide +kernel
theorem dX7_day_209 : decode cX7_day 209 = .ok (.isub, 1) := by decide +kernel
theorem dX7_day_210 : decode cX7_day 210 = .ok (.ireturn, 1) := by decide +kernel
theorem dX7_allShades_0 : decode cX7_allShades 0 = .ok (.iconst 0, 1) := by decide +kernel
theorem dX7_allShades_1 : decode cX7_allShades 1 = .ok (.istore_n 1, 1) := by decide +kernel
theorem dX7_allShades_2 : decode cX7_allShades 2 = .ok (.iconst 0, 1) := by decide +kernel
theorem dX7_allShades_3 : decode cX7_allShades 3 = .ok (.istore_n 2, 1) := by decide +kernel
theorem dX7_allShades_4 : decode cX7_allShades 4 = .ok (.iload_n 2, 1) := by decide +kernel
theorem dX7_allShades_5 : decode cX7_allShades 5 = .ok (.aload_n 0, 1) := by decide +kernel
theorem dX7_allShades_6 : decode cX7_allShades 6 = .ok (.getfield 71, 3) := by decide +kernel
theorem dX7_allShades_9 : decode cX7_allShades 9 = .ok (.if_icmp .ge 18, 3) := by decide +kernel
theorem dX7_allShades_12 : decode cX7_allShades 12 = .ok (.iload_n 1, 1) := by decide +kernel
theorem dX7_allShades_13 : decode cX7_allShades 13 = .ok (.aload_n 0, 1) := by decide +kernel
theorem dX7_allShades_14 : decode cX7_allShades 14 = .ok (.getfield 22, 3) := by decide +kernel
theorem dX7_allShades_17 : decode cX7_allShades 17 = .ok (.iload_n 2, 1) := by decide +kernel
theorem dX7_allShades_18 : decode cX7_allShades 18 = .ok (.iaload, 1) := by decide +kernel
theorem dX7_allShades_19 : decode cX7_allShades 19 = .ok (.iadd, 1) := by decide +kernel
theorem dX7_allShades_20 : decode cX7_allShades 20 = .ok (.istore_n 1, 1) := by decide +kernel
theorem dX7_allShades_21 : decode cX7_allShades 21 = .ok (.iinc 2 1, 3) := by decide +kernel
theorem dX7_allShades_24 : decode cX7_allShades 24 = .ok (.goto (-20), 3) := by decide +kernel
theorem dX7_allShades_27 : decode cX7_allShades 27 = .ok (.iload_n 1, 1) := by decide +kernel
theorem dX7_allShades_28 : decode cX7_allShades 28 = .ok (.ireturn, 1) := by decide +kernel
theorem dX7_tellDay_0 : decode cX7_tellDay 0 = .ok (.iload_n 1, 1) := by decide +kernel
theorem dX7_tellDay_1 : decode cX7_tellDay 1 = .ok (.bipush 10, 2) := by decide +kernel
theorem dX7_tellDay_3 : decode cX7_tellDay 3 = .ok (.if_icmp .lt 29, 3) := by decide +kernel
theorem dX7_tellDay_6 : decode cX7_tellDay 6 = .ok (.aload_n 0, 1) := by decide +kernel
theorem dX7_tellDay_7 : decode cX7_tellDay 7 = .ok (.iload_n 1, 1) := by decide +kernel
theorem dX7_tellDay_8 : decode cX7_tellDay 8 = .ok (.bipush 10, 2) := by decide +kernel
theorem dX7_tellDay_10 : decode cX7_tellDay 10 = .ok (.isub, 1) := by decide +kernel
theorem dX7_tellDay_11 : decode cX7_tellDay 11 = .ok (.invokevirtual 127, 3) := by decide +kernel
theorem dX7_tellDay_14 : decode cX7_tellDay 14 = .ok (.ifCond .eq 15, 3) := by decide +kernel
theorem dX7_tellDay_17 : decode cX7_tellDay 17 = .ok (.aload_n 0, 1) := by decide +kernel
theorem dX7_tellDay_18 : decode cX7_tellDay 18 = .ok (.getfield 22, 3) := by decide +kernel
theorem dX7_tellDay_21 : decode cX7_tellDay 21 = .ok (.iload_n 1, 1) := by decide +kernel
theorem dX7_tellDay_22 : decode cX7_tellDay 22 = .ok (.bipush 10, 2) := by decide +kernel
theorem dX7_tellDay_24 : decode cX7_tellDay 24 = .ok (.isub, 1) := by decide +kernel
theorem dX7_tellDay_25 : decode cX7_tellDay 25 = .ok (.iaload, 1) := by decide +kernel
theorem dX7_tellDay_26 : decode cX7_tellDay 26 = .ok (.goto 5, 3) := by decide +kernel
theorem dX7_tellDay_29 : decode cX7_tellDay 29 = .ok (.bipush (-9), 2) := by decide +kernel
theorem dX7_tellDay_31 : decode cX7_tellDay 31 = .ok (.ireturn, 1) := by decide +kernel
theorem dX7_tellDay_32 : decode cX7_tellDay 32 = .ok (.iload_n 1, 1) := by decide +kernel
theorem dX7_tellDay_33 : decode cX7_tellDay 33 = .ok (.tableswitch 46 0 3 #[31, 46, 36, 41], 31) := by decide +kernel
theorem dX7_tellDay_64 : decode cX7_tellDay 64 = .ok (.aload_n 0, 1) := by decide +kernel
theorem dX7_tellDay_65 : decode cX7_tellDay 65 = .ok (.invokevirtual 143, 3) := by decide +kernel
theorem dX7_tellDay_68 : decode cX7_tellDay 68 = .ok (.ireturn, 1) := by decide +kernel
theorem dX7_tellDay_69 : decode cX7_tellDay 69 = .ok (.aload_n 0, 1) := by decide +kernel
theorem dX7_tellDay_70 : decode cX7_tellDay 70 = .ok (.invokevirtual 172, 3) := by decide +kernel
theorem dX7_tellDay_73 : decode cX7_tellDay 73 = .ok (.ireturn, 1) := by decide +kernel
theorem dX7_tellDay_74 : decode cX7_tellDay 74 = .ok (.aload_n 0, 1) := by decide +kernel
theorem dX7_tellDay_75 : decode cX7_tellDay 75 = .ok (.getfield 147, 3) := by decide +kernel
theorem dX7_tellDay_78 : decode cX7_tellDay 78 = .ok (.ireturn, 1) := by decide +kernel
theorem dX7_tellDay_79 : decode cX7_tellDay 79 = .ok (.aload_n 0, 1) := by decide +kernel
theorem dX7_tellDay_80 : decode cX7_tellDay 80 = .ok (.getfield 150, 3) := by decide +kernel
theorem dX7_tellDay_83 : decode cX7_tellDay 83 = .ok (.ireturn, 1) := by decide +kernel
theorem dX7_manyOf_0 : decode cX7_manyOf 0 = .ok (.iconst 1, 1) := by decide +kernel
theorem dX7_manyOf_1 : decode cX7_manyOf 1 = .ok (.istore_n 1, 1) := by decide +kernel
theorem dX7_manyOf_2 : decode cX7_manyOf 2 = .ok (.iconst 0, 1) := by decide +kernel
theorem dX7_manyOf_3 : decode cX7_manyOf 3 = .ok (.istore_n 2, 1) := by decide +kernel
theorem dX7_manyOf_4 : decode cX7_manyOf 4 = .ok (.iload_n 2, 1) := by decide +kernel
theorem dX7_manyOf_5 : decode cX7_manyOf 5 = .ok (.aload_n 0, 1) := by decide +kernel
theorem dX7_manyOf_6 : decode cX7_manyOf 6 = .ok (.getfield 71, 3) := by decide +kernel
theorem dX7_manyOf_9 : decode cX7_manyOf 9 = .ok (.if_icmp .ge 18, 3) := by decide +kernel
theorem dX7_manyOf_12 : decode cX7_manyOf 12 = .ok (.iload_n 1, 1) := by decide +kernel
theorem dX7_manyOf_13 : decode cX7_manyOf 13 = .ok (.aload_n 0, 1) := by decide +kernel
theorem dX7_manyOf_14 : decode cX7_manyOf 14 = .ok (.getfield 19, 3) := by decide +kernel
theorem dX7_manyOf_17 : decode cX7_manyOf 17 = .ok (.iload_n 2, 1) := by decide +kernel
theorem dX7_manyOf_18 : decode cX7_manyOf 18 = .ok (.iaload, 1) := by decide +kernel
theorem dX7_manyOf_19 : decode cX7_manyOf 19 = .ok (.imul, 1) := by decide +kernel
theorem dX7_manyOf_20 : decode cX7_manyOf 20 = .ok (.istore_n 1, 1) := by decide +kernel
theorem dX7_manyOf_21 : decode cX7_manyOf 21 = .ok (.iinc 2 1, 3) := by decide +kernel
theorem dX7_manyOf_24 : decode cX7_manyOf 24 = .ok (.goto (-20), 3) := by decide +kernel
theorem dX7_manyOf_27 : decode cX7_manyOf 27 = .ok (.iload_n 1, 1) := by decide +kernel
theorem dX7_manyOf_28 : decode cX7_manyOf 28 = .ok (.ireturn, 1) := by decide +kernel
theorem dX7_movedBy_0 : decode cX7_movedBy 0 = .ok (.iload_n 1, 1) := by decide +kernel
theorem dX7_movedBy_1 : decode cX7_movedBy 1 = .ok (.istore 4, 2) := by decide +kernel
theorem dX7_movedBy_3 : decode cX7_movedBy 3 = .ok (.iconst 1, 1) := by decide +kernel
theorem dX7_movedBy_4 : decode cX7_movedBy 4 = .ok (.istore 5, 2) := by decide +kernel
theorem dX7_movedBy_6 : decode cX7_movedBy 6 = .ok (.iconst 0, 1) := by decide +kernel
theorem dX7_movedBy_7 : decode cX7_movedBy 7 = .ok (.istore 6, 2) := by decide +kernel
theorem dX7_movedBy_9 : decode cX7_movedBy 9 = .ok (.iconst 0, 1) := by decide +kernel
theorem dX7_movedBy_10 : decode cX7_movedBy 10 = .ok (.istore 7, 2) := by decide +kernel
theorem dX7_movedBy_12 : decode cX7_movedBy 12 = .ok (.iload 7, 2) := by decide +kernel
theorem dX7_movedBy_14 : decode cX7_movedBy 14 = .ok (.aload_n 0, 1) := by decide +kernel
theorem dX7_movedBy_15 : decode cX7_movedBy 15 = .ok (.getfield 71, 3) := by decide +kernel
theorem dX7_movedBy_18 : decode cX7_movedBy 18 = .ok (.if_icmp .ge 123, 3) := by decide +kernel
theorem dX7_movedBy_21 : decode cX7_movedBy 21 = .ok (.iload 4, 2) := by decide +kernel
theorem dX7_movedBy_23 : decode cX7_movedBy 23 = .ok (.aload_n 0, 1) := by decide +kernel
theorem dX7_movedBy_24 : decode cX7_movedBy 24 = .ok (.getfield 19, 3) := by decide +kernel
theorem dX7_movedBy_27 : decode cX7_movedBy 27 = .ok (.iload 7, 2) := by decide +kernel
theorem dX7_movedBy_29 : decode cX7_movedBy 29 = .ok (.iaload, 1) := by decide +kernel
theorem dX7_movedBy_30 : decode cX7_movedBy 30 = .ok (.irem, 1) := by decide +kernel
theorem dX7_movedBy_31 : decode cX7_movedBy 31 = .ok (.istore 8, 2) := by decide +kernel
theorem dX7_movedBy_33 : decode cX7_movedBy 33 = .ok (.iload 4, 2) := by decide +kernel
theorem dX7_movedBy_35 : decode cX7_movedBy 35 = .ok (.aload_n 0, 1) := by decide +kernel
theorem dX7_movedBy_36 : decode cX7_movedBy 36 = .ok (.getfield 19, 3) := by decide +kernel
theorem dX7_movedBy_39 : decode cX7_movedBy 39 = .ok (.iload 7, 2) := by decide +kernel
theorem dX7_movedBy_41 : decode cX7_movedBy 41 = .ok (.iaload, 1) := by decide +kernel
theorem dX7_movedBy_42 : decode cX7_movedBy 42 = .ok (.idiv, 1) := by decide +kernel
theorem dX7_movedBy_43 : decode cX7_movedBy 43 = .ok (.istore 4, 2) := by decide +kernel
theorem dX7_movedBy_45 : decode cX7_movedBy 45 = .ok (.aload_n 0, 1) := by decide +kernel
theorem dX7_movedBy_46 : decode cX7_movedBy 46 = .ok (.getfield 31, 3) := by decide +kernel
theorem dX7_movedBy_49 : decode cX7_movedBy 49 = .ok (.iload_n 2, 1) := by decide +kernel
theorem dX7_movedBy_50 : decode cX7_movedBy 50 = .ok (.iaload, 1) := by decide +kernel
theorem dX7_movedBy_51 : decode cX7_movedBy 51 = .ok (.iload 7, 2) := by decide +kernel
theorem dX7_movedBy_53 : decode cX7_movedBy 53 = .ok (.invokestatic 124, 3) := by decide +kernel
theorem dX7_movedBy_56 : decode cX7_movedBy 56 = .ok (.ifCond .eq 19, 3) := by decide +kernel
theorem dX7_movedBy_59 : decode cX7_movedBy 59 = .ok (.aload_n 0, 1) := by decide +kernel
theorem dX7_movedBy_60 : decode cX7_movedBy 60 = .ok (.iload_n 2, 1) := by decide +kernel
theorem dX7_movedBy_61 : decode cX7_movedBy 61 = .ok (.invokevirtual 136, 3) := by decide +kernel
theorem dX7_movedBy_64 : decode cX7_movedBy 64 = .ok (.aload_n 0, 1) := by decide +kernel
theorem dX7_movedBy_65 : decode cX7_movedBy 65 = .ok (.getfield 19, 3) := by decide +kernel
theorem dX7_movedBy_68 : decode cX7_movedBy 68 = .ok (.iload 7, 2) := by decide +kernel
theorem dX7_movedBy_70 : decode cX7_movedBy 70 = .ok (.iaload, 1) := by decide +kernel
theorem dX7_movedBy_71 : decode cX7_movedBy 71 = .ok (.irem, 1) := by decide +kernel
theorem dX7_movedBy_72 : decode cX7_movedBy 72 = .ok (.goto 4, 3) := by decide +kernel
theorem dX7_movedBy_75 : decode cX7_movedBy 75 = .ok (.iconst 0, 1) := by decide +kernel
theorem dX7_movedBy_76 : decode cX7_movedBy 76 = .ok (.istore 9, 2) := by decide +kernel
theorem dX7_movedBy_78 : decode cX7_movedBy 78 = .ok (.iload_n 3, 1) := by decide +kernel
theorem dX7_movedBy_79 : decode cX7_movedBy 79 = .ok (.ifCond .eq 19, 3) := by decide +kernel
theorem dX7_movedBy_82 : decode cX7_movedBy 82 = .ok (.iload 8, 2) := by decide +kernel
theorem dX7_movedBy_84 : decode cX7_movedBy 84 = .ok (.aload_n 0, 1) := by decide +kernel
theorem dX7_movedBy_85 : decode cX7_movedBy 85 = .ok (.getfield 19, 3) := by decide +kernel
theorem dX7_movedBy_88 : decode cX7_movedBy 88 = .ok (.iload 7, 2) := by decide +kernel
theorem dX7_movedBy_90 : decode cX7_movedBy 90 = .ok (.iaload, 1) := by decide +kernel
theorem dX7_movedBy_91 : decode cX7_movedBy 91 = .ok (.iadd, 1) := by decide +kernel
theorem dX7_movedBy_92 : decode cX7_movedBy 92 = .ok (.iload 9, 2) := by decide +kernel
theorem dX7_movedBy_94 : decode cX7_movedBy 94 = .ok (.isub, 1) := by decide +kernel
theorem dX7_movedBy_95 : decode cX7_movedBy 95 = .ok (.goto 8, 3) := by decide +kernel
theorem dX7_movedBy_98 : decode cX7_movedBy 98 = .ok (.iload 8, 2) := by decide +kernel
theorem dX7_movedBy_100 : decode cX7_movedBy 100 = .ok (.iload 9, 2) := by decide +kernel
theorem dX7_movedBy_102 : decode cX7_movedBy 102 = .ok (.iadd, 1) := by decide +kernel
theorem dX7_movedBy_103 : decode cX7_movedBy 103 = .ok (.istore 10, 2) := by decide +kernel
theorem dX7_movedBy_105 : decode cX7_movedBy 105 = .ok (.iload 6, 2) := by decide +kernel
theorem dX7_movedBy_107 : decode cX7_movedBy 107 = .ok (.iload 10, 2) := by decide +kernel
theorem dX7_movedBy_109 : decode cX7_movedBy 109 = .ok (.aload_n 0, 1) := by decide +kernel
theorem dX7_movedBy_110 : decode cX7_movedBy 110 = .ok (.getfield 19, 3) := by decide +kernel
theorem dX7_movedBy_113 : decode cX7_movedBy 113 = .ok (.iload 7, 2) := by decide +kernel
theorem dX7_movedBy_115 : decode cX7_movedBy 115 = .ok (.iaload, 1) := by decide +kernel
theorem dX7_movedBy_116 : decode cX7_movedBy 116 = .ok (.irem, 1) := by decide +kernel
theorem dX7_movedBy_117 : decode cX7_movedBy 117 = .ok (.iload 5, 2) := by decide +kernel
theorem dX7_movedBy_119 : decode cX7_movedBy 119 = .ok (.imul, 1) := by decide +kernel
theorem dX7_movedBy_120 : decode cX7_movedBy 120 = .ok (.iadd, 1) := by decide +kernel
theorem dX7_movedBy_121 : decode cX7_movedBy 121 = .ok (.istore 6, 2) := by decide +kernel
theorem dX7_movedBy_123 : decode cX7_movedBy 123 = .ok (.iload 5, 2) := by decide +kernel
theorem dX7_movedBy_125 : decode cX7_movedBy 125 = .ok (.aload_n 0, 1) := by decide +kernel
theorem dX7_movedBy_126 : decode cX7_movedBy 126 = .ok (.getfield 19, 3) := by decide +kernel
theorem dX7_movedBy_129 : decode cX7_movedBy 129 = .ok (.iload 7, 2) := by decide +kernel
theorem dX7_movedBy_131 : decode cX7_movedBy 131 = .ok (.iaload, 1) := by decide +kernel
theorem dX7_movedBy_132 : decode cX7_movedBy 132 = .ok (.imul, 1) := by decide +kernel
theorem dX7_movedBy_133 : decode cX7_movedBy 133 = .ok (.istore 5, 2) := by decide +kernel
theorem dX7_movedBy_135 : decode cX7_movedBy 135 = .ok (.iinc 7 1, 3) := by decide +kernel
theorem dX7_movedBy_138 : decode cX7_movedBy 138 = .ok (.goto (-126), 3) := by decide +kernel
theorem dX7_movedBy_141 : decode cX7_movedBy 141 = .ok (.iload 6, 2) := by decide +kernel
theorem dX7_movedBy_143 : decode cX7_movedBy 143 = .ok (.ireturn, 1) := by decide +kernel
theorem dX7_findMany_0 : decode cX7_findMany 0 = .ok (.aload_n 0, 1) := by decide +kernel
theorem dX7_findMany_1 : decode cX7_findMany 1 = .ok (.invokevirtual 175, 3) := by decide +kernel
theorem dX7_findMany_4 : decode cX7_findMany 4 = .ok (.istore_n 2, 1) := by decide +kernel
theorem dX7_findMany_5 : decode cX7_findMany 5 = .ok (.iconst 0, 1) := by decide +kernel
theorem dX7_findMany_6 : decode cX7_findMany 6 = .ok (.istore_n 3, 1) := by decide +kernel
theorem dX7_findMany_7 : decode cX7_findMany 7 = .ok (.iload_n 3, 1) := by decide +kernel
theorem dX7_findMany_8 : decode cX7_findMany 8 = .ok (.iload_n 2, 1) := by decide +kernel
theorem dX7_findMany_9 : decode cX7_findMany 9 = .ok (.if_icmp .ge 17, 3) := by decide +kernel
theorem dX7_findMany_12 : decode cX7_findMany 12 = .ok (.aload_n 0, 1) := by decide +kernel
theorem dX7_findMany_13 : decode cX7_findMany 13 = .ok (.getfield 46, 3) := by decide +kernel
theorem dX7_findMany_16 : decode cX7_findMany 16 = .ok (.iload_n 3, 1) := by decide +kernel
theorem dX7_findMany_17 : decode cX7_findMany 17 = .ok (.bipush (-9), 2) := by decide +kernel
theorem dX7_findMany_19 : decode cX7_findMany 19 = .ok (.iastore, 1) := by decide +kernel
theorem dX7_findMany_20 : decode cX7_findMany 20 = .ok (.iinc 3 1, 3) := by decide +kernel
theorem dX7_findMany_23 : decode cX7_findMany 23 = .ok (.goto (-16), 3) := by decide +kernel
theorem dX7_findMany_26 : decode cX7_findMany 26 = .ok (.aload_n 0, 1) := by decide +kernel
theorem dX7_findMany_27 : decode cX7_findMany 27 = .ok (.getfield 46, 3) := by decide +kernel
theorem dX7_findMany_30 : decode cX7_findMany 30 = .ok (.iconst 0, 1) := by decide +kernel
theorem dX7_findMany_31 : decode cX7_findMany 31 = .ok (.iconst 0, 1) := by decide +kernel
theorem dX7_findMany_32 : decode cX7_findMany 32 = .ok (.iastore, 1) := by decide +kernel
theorem dX7_findMany_33 : decode cX7_findMany 33 = .ok (.aload_n 0, 1) := by decide +kernel
theorem dX7_findMany_34 : decode cX7_findMany 34 = .ok (.getfield 49, 3) := by decide +kernel
theorem dX7_findMany_37 : decode cX7_findMany 37 = .ok (.iconst 0, 1) := by decide +kernel
theorem dX7_findMany_38 : decode cX7_findMany 38 = .ok (.iconst 0, 1) := by decide +kernel
theorem dX7_findMany_39 : decode cX7_findMany 39 = .ok (.iastore, 1) := by decide +kernel
theorem dX7_findMany_40 : decode cX7_findMany 40 = .ok (.iconst 1, 1) := by decide +kernel
theorem dX7_findMany_41 : decode cX7_findMany 41 = .ok (.istore_n 3, 1) := by decide +kernel
theorem dX7_findMany_42 : decode cX7_findMany 42 = .ok (.iconst 0, 1) := by decide +kernel
theorem dX7_findMany_43 : decode cX7_findMany 43 = .ok (.istore 4, 2) := by decide +kernel
theorem dX7_findMany_45 : decode cX7_findMany 45 = .ok (.iload 4, 2) := by decide +kernel
theorem dX7_findMany_47 : decode cX7_findMany 47 = .ok (.aload_n 0, 1) := by decide +kernel
theorem dX7_findMany_48 : decode cX7_findMany 48 = .ok (.getfield 74, 3) := by decide +kernel
theorem dX7_findMany_51 : decode cX7_findMany 51 = .ok (.if_icmp .ge 122, 3) := by decide +kernel
theorem dX7_findMany_54 : decode cX7_findMany 54 = .ok (.iload_n 3, 1) := by decide +kernel
theorem dX7_findMany_55 : decode cX7_findMany 55 = .ok (.istore 5, 2) := by decide +kernel
theorem dX7_findMany_57 : decode cX7_findMany 57 = .ok (.iload 4, 2) := by decide +kernel
theorem dX7_findMany_59 : decode cX7_findMany 59 = .ok (.iload_n 1, 1) := by decide +kernel
theorem dX7_findMany_60 : decode cX7_findMany 60 = .ok (.if_icmp .ne 7, 3) := by decide +kernel
theorem dX7_findMany_63 : decode cX7_findMany 63 = .ok (.iconst 0, 1) := by decide +kernel
theorem dX7_findMany_64 : decode cX7_findMany 64 = .ok (.goto 11, 3) := by decide +kernel
theorem dX7_findMany_67 : decode cX7_findMany 67 = .ok (.aload_n 0, 1) := by decide +kernel
theorem dX7_findMany_68 : decode cX7_findMany 68 = .ok (.iconst 0, 1) := by decide +kernel
theorem dX7_findMany_69 : decode cX7_findMany 69 = .ok (.iload 4, 2) := by decide +kernel
theorem dX7_findMany_71 : decode cX7_findMany 71 = .ok (.iconst 0, 1) := by decide +kernel
theorem dX7_findMany_72 : decode cX7_findMany 72 = .ok (.invokevirtual 178, 3) := by decide +kernel
theorem dX7_findMany_75 : decode cX7_findMany 75 = .ok (.istore 6, 2) := by decide +kernel
theorem dX7_findMany_77 : decode cX7_findMany 77 = .ok (.aload_n 0, 1) := by decide +kernel
theorem dX7_findMany_78 : decode cX7_findMany 78 = .ok (.getfield 46, 3) := by decide +kernel
theorem dX7_findMany_81 : decode cX7_findMany 81 = .ok (.iload 6, 2) := by decide +kernel
theorem dX7_findMany_83 : decode cX7_findMany 83 = .ok (.iaload, 1) := by decide +kernel
theorem dX7_findMany_84 : decode cX7_findMany 84 = .ok (.bipush (-9), 2) := by decide +kernel
theorem dX7_findMany_86 : decode cX7_findMany 86 = .ok (.if_icmp .ne 81, 3) := by decide +kernel
theorem dX7_findMany_89 : decode cX7_findMany 89 = .ok (.iconst 0, 1) := by decide +kernel
theorem dX7_findMany_90 : decode cX7_findMany 90 = .ok (.istore 7, 2) := by decide +kernel
theorem dX7_findMany_92 : decode cX7_findMany 92 = .ok (.iload 7, 2) := by decide +kernel
theorem dX7_findMany_94 : decode cX7_findMany 94 = .ok (.iload 5, 2) := by decide +kernel
theorem dX7_findMany_96 : decode cX7_findMany 96 = .ok (.if_icmp .ge 52, 3) := by decide +kernel
theorem dX7_findMany_99 : decode cX7_findMany 99 = .ok (.aload_n 0, 1) := by decide +kernel
theorem dX7_findMany_100 : decode cX7_findMany 100 = .ok (.getfield 49, 3) := by decide +kernel
theorem dX7_findMany_103 : decode cX7_findMany 103 = .ok (.iload_n 3, 1) := by decide +kernel
theorem dX7_findMany_104 : decode cX7_findMany 104 = .ok (.iload 7, 2) := by decide +kernel
theorem dX7_findMany_106 : decode cX7_findMany 106 = .ok (.iadd, 1) := by decide +kernel
theorem dX7_findMany_107 : decode cX7_findMany 107 = .ok (.aload_n 0, 1) := by decide +kernel
theorem dX7_findMany_108 : decode cX7_findMany 108 = .ok (.aload_n 0, 1) := by decide +kernel
theorem dX7_findMany_109 : decode cX7_findMany 109 = .ok (.getfield 49, 3) := by decide +kernel
theorem dX7_findMany_112 : decode cX7_findMany 112 = .ok (.iload_n 3, 1) := by decide +kernel
theorem dX7_findMany_113 : decode cX7_findMany 113 = .ok (.iload 5, 2) := by decide +kernel
theorem dX7_findMany_115 : decode cX7_findMany 115 = .ok (.isub, 1) := by decide +kernel
theorem dX7_findMany_116 : decode cX7_findMany 116 = .ok (.iload 7, 2) := by decide +kernel
theorem dX7_findMany_118 : decode cX7_findMany 118 = .ok (.iadd, 1) := by decide +kernel
theorem dX7_findMany_119 : decode cX7_findMany 119 = .ok (.iaload, 1) := by decide +kernel
theorem dX7_findMany_120 : decode cX7_findMany 120 = .ok (.iload 4, 2) := by decide +kernel
theorem dX7_findMany_122 : decode cX7_findMany 122 = .ok (.iconst 0, 1) := by decide +kernel
theorem dX7_findMany_123 : decode cX7_findMany 123 = .ok (.invokevirtual 178, 3) := by decide +kernel
theorem dX7_findMany_126 : decode cX7_findMany 126 = .ok (.iastore, 1) := by decide +kernel
theorem dX7_findMany_127 : decode cX7_findMany 127 = .ok (.aload_n 0, 1) := by decide +kernel
theorem dX7_findMany_128 : decode cX7_findMany 128 = .ok (.getfield 46, 3) := by decide +kernel
theorem dX7_findMany_131 : decode cX7_findMany 131 = .ok (.aload_n 0, 1) := by decide +kernel
theorem dX7_findMany_132 : decode cX7_findMany 132 = .ok (.getfield 49, 3) := by decide +kernel
theorem dX7_findMany_135 : decode cX7_findMany 135 = .ok (.iload_n 3, 1) := by decide +kernel
theorem dX7_findMany_136 : decode cX7_findMany 136 = .ok (.iload 7, 2) := by decide +kernel
theorem dX7_findMany_138 : decode cX7_findMany 138 = .ok (.iadd, 1) := by decide +kernel
theorem dX7_findMany_139 : decode cX7_findMany 139 = .ok (.iaload, 1) := by decide +kernel
theorem dX7_findMany_140 : decode cX7_findMany 140 = .ok (.iconst 0, 1) := by decide +kernel
theorem dX7_findMany_141 : decode cX7_findMany 141 = .ok (.iastore, 1) := by decide +kernel
theorem dX7_findMany_142 : decode cX7_findMany 142 = .ok (.iinc 7 1, 3) := by decide +kernel
theorem dX7_findMany_145 : decode cX7_findMany 145 = .ok (.goto (-53), 3) := by decide +kernel
theorem dX7_findMany_148 : decode cX7_findMany 148 = .ok (.iload_n 3, 1) := by decide +kernel
theorem dX7_findMany_149 : decode cX7_findMany 149 = .ok (.iload 5, 2) := by decide +kernel
theorem dX7_findMany_151 : decode cX7_findMany 151 = .ok (.iadd, 1) := by decide +kernel
theorem dX7_findMany_152 : decode cX7_findMany 152 = .ok (.istore_n 3, 1) := by decide +kernel
theorem dX7_findMany_153 : decode cX7_findMany 153 = .ok (.aload_n 0, 1) := by decide +kernel
theorem dX7_findMany_154 : decode cX7_findMany 154 = .ok (.iload 6, 2) := by decide +kernel
theorem dX7_findMany_156 : decode cX7_findMany 156 = .ok (.iload 4, 2) := by decide +kernel
theorem dX7_findMany_158 : decode cX7_findMany 158 = .ok (.iconst 0, 1) := by decide +kernel
theorem dX7_findMany_159 : decode cX7_findMany 159 = .ok (.invokevirtual 178, 3) := by decide +kernel
theorem dX7_findMany_162 : decode cX7_findMany 162 = .ok (.istore 6, 2) := by decide +kernel
theorem dX7_findMany_164 : decode cX7_findMany 164 = .ok (.goto (-87), 3) := by decide +kernel
theorem dX7_findMany_167 : decode cX7_findMany 167 = .ok (.iinc 4 1, 3) := by decide +kernel
theorem dX7_findMany_170 : decode cX7_findMany 170 = .ok (.goto (-125), 3) := by decide +kernel
theorem dX7_findMany_173 : decode cX7_findMany 173 = .ok (.iload_n 3, 1) := by decide +kernel
theorem dX7_findMany_174 : decode cX7_findMany 174 = .ok (.ireturn, 1) := by decide +kernel
theorem dX7_findFar_0 : decode cX7_findFar 0 = .ok (.aload_n 0, 1) := by decide +kernel
theorem dX7_findFar_1 : decode cX7_findFar 1 = .ok (.invokevirtual 175, 3) := by decide +kernel
theorem dX7_findFar_4 : decode cX7_findFar 4 = .ok (.istore_n 1, 1) := by decide +kernel
theorem dX7_findFar_5 : decode cX7_findFar 5 = .ok (.iconst 0, 1) := by decide +kernel
theorem dX7_findFar_6 : decode cX7_findFar 6 = .ok (.istore_n 2, 1) := by decide +kernel
theorem dX7_findFar_7 : decode cX7_findFar 7 = .ok (.iload_n 2, 1) := by decide +kernel
theorem dX7_findFar_8 : decode cX7_findFar 8 = .ok (.iload_n 1, 1) := by decide +kernel
theorem dX7_findFar_9 : decode cX7_findFar 9 = .ok (.if_icmp .ge 17, 3) := by decide +kernel
theorem dX7_findFar_12 : decode cX7_findFar 12 = .ok (.aload_n 0, 1) := by decide +kernel
theorem dX7_findFar_13 : decode cX7_findFar 13 = .ok (.getfield 46, 3) := by decide +kernel
theorem dX7_findFar_16 : decode cX7_findFar 16 = .ok (.iload_n 2, 1) := by decide +kernel
theorem dX7_findFar_17 : decode cX7_findFar 17 = .ok (.bipush (-9), 2) := by decide +kernel
theorem dX7_findFar_19 : decode cX7_findFar 19 = .ok (.iastore, 1) := by decide +kernel
theorem dX7_findFar_20 : decode cX7_findFar 20 = .ok (.iinc 2 1, 3) := by decide +kernel
theorem dX7_findFar_23 : decode cX7_findFar 23 = .ok (.goto (-16), 3) := by decide +kernel
theorem dX7_findFar_26 : decode cX7_findFar 26 = .ok (.aload_n 0, 1) := by decide +kernel
theorem dX7_findFar_27 : decode cX7_findFar 27 = .ok (.getfield 46, 3) := by decide +kernel
theorem dX7_findFar_30 : decode cX7_findFar 30 = .ok (.iconst 0, 1) := by decide +kernel
theorem dX7_findFar_31 : decode cX7_findFar 31 = .ok (.iconst 0, 1) := by decide +kernel
theorem dX7_findFar_32 : decode cX7_findFar 32 = .ok (.iastore, 1) := by decide +kernel
theorem dX7_findFar_33 : decode cX7_findFar 33 = .ok (.aload_n 0, 1) := by decide +kernel
theorem dX7_findFar_34 : decode cX7_findFar 34 = .ok (.getfield 49, 3) := by decide +kernel
theorem dX7_findFar_37 : decode cX7_findFar 37 = .ok (.iconst 0, 1) := by decide +kernel
theorem dX7_findFar_38 : decode cX7_findFar 38 = .ok (.iconst 0, 1) := by decide +kernel
theorem dX7_findFar_39 : decode cX7_findFar 39 = .ok (.iastore, 1) := by decide +kernel
theorem dX7_findFar_40 : decode cX7_findFar 40 = .ok (.iconst 1, 1) := by decide +kernel
theorem dX7_findFar_41 : decode cX7_findFar 41 = .ok (.istore_n 2, 1) := by decide +kernel
theorem dX7_findFar_42 : decode cX7_findFar 42 = .ok (.iconst 0, 1) := by decide +kernel
theorem dX7_findFar_43 : decode cX7_findFar 43 = .ok (.istore_n 3, 1) := by decide +kernel
theorem dX7_findFar_44 : decode cX7_findFar 44 = .ok (.iload_n 3, 1) := by decide +kernel
theorem dX7_findFar_45 : decode cX7_findFar 45 = .ok (.iload_n 2, 1) := by decide +kernel
theorem dX7_findFar_46 : decode cX7_findFar 46 = .ok (.if_icmp .ge 85, 3) := by decide +kernel
theorem dX7_findFar_49 : decode cX7_findFar 49 = .ok (.iconst 0, 1) := by decide +kernel
theorem dX7_findFar_50 : decode cX7_findFar 50 = .ok (.istore 4, 2) := by decide +kernel
theorem dX7_findFar_52 : decode cX7_findFar 52 = .ok (.iload 4, 2) := by decide +kernel
theorem dX7_findFar_54 : decode cX7_findFar 54 = .ok (.aload_n 0, 1) := by decide +kernel
theorem dX7_findFar_55 : decode cX7_findFar 55 = .ok (.getfield 74, 3) := by decide +kernel
theorem dX7_findFar_58 : decode cX7_findFar 58 = .ok (.if_icmp .ge 67, 3) := by decide +kernel
theorem dX7_findFar_61 : decode cX7_findFar 61 = .ok (.aload_n 0, 1) := by decide +kernel
theorem dX7_findFar_62 : decode cX7_findFar 62 = .ok (.aload_n 0, 1) := by decide +kernel
theorem dX7_findFar_63 : decode cX7_findFar 63 = .ok (.getfield 49, 3) := by decide +kernel
theorem dX7_findFar_66 : decode cX7_findFar 66 = .ok (.iload_n 3, 1) := by decide +kernel
theorem dX7_findFar_67 : decode cX7_findFar 67 = .ok (.iaload, 1) := by decide +kernel
theorem dX7_findFar_68 : decode cX7_findFar 68 = .ok (.iload 4, 2) := by decide +kernel
theorem dX7_findFar_70 : decode cX7_findFar 70 = .ok (.iconst 0, 1) := by decide +kernel
theorem dX7_findFar_71 : decode cX7_findFar 71 = .ok (.invokevirtual 178, 3) := by decide +kernel
theorem dX7_findFar_74 : decode cX7_findFar 74 = .ok (.istore 5, 2) := by decide +kernel
theorem dX7_findFar_76 : decode cX7_findFar 76 = .ok (.aload_n 0, 1) := by decide +kernel
theorem dX7_findFar_77 : decode cX7_findFar 77 = .ok (.getfield 46, 3) := by decide +kernel
theorem dX7_findFar_80 : decode cX7_findFar 80 = .ok (.iload 5, 2) := by decide +kernel
theorem dX7_findFar_82 : decode cX7_findFar 82 = .ok (.iaload, 1) := by decide +kernel
theorem dX7_findFar_83 : decode cX7_findFar 83 = .ok (.bipush (-9), 2) := by decide +kernel
theorem dX7_findFar_85 : decode cX7_findFar 85 = .ok (.if_icmp .ne 34, 3) := by decide +kernel
theorem dX7_findFar_88 : decode cX7_findFar 88 = .ok (.aload_n 0, 1) := by decide +kernel
theorem dX7_findFar_89 : decode cX7_findFar 89 = .ok (.getfield 46, 3) := by decide +kernel
theorem dX7_findFar_92 : decode cX7_findFar 92 = .ok (.iload 5, 2) := by decide +kernel
theorem dX7_findFar_94 : decode cX7_findFar 94 = .ok (.aload_n 0, 1) := by decide +kernel
theorem dX7_findFar_95 : decode cX7_findFar 95 = .ok (.getfield 46, 3) := by decide +kernel
theorem dX7_findFar_98 : decode cX7_findFar 98 = .ok (.aload_n 0, 1) := by decide +kernel
theorem dX7_findFar_99 : decode cX7_findFar 99 = .ok (.getfield 49, 3) := by decide +kernel
theorem dX7_findFar_102 : decode cX7_findFar 102 = .ok (.iload_n 3, 1) := by decide +kernel
theorem dX7_findFar_103 : decode cX7_findFar 103 = .ok (.iaload, 1) := by decide +kernel
theorem dX7_findFar_104 : decode cX7_findFar 104 = .ok (.iaload, 1) := by decide +kernel
theorem dX7_findFar_105 : decode cX7_findFar 105 = .ok (.iconst 1, 1) := by decide +kernel
theorem dX7_findFar_106 : decode cX7_findFar 106 = .ok (.iadd, 1) := by decide +kernel
theorem dX7_findFar_107 : decode cX7_findFar 107 = .ok (.iastore, 1) := by decide +kernel
theorem dX7_findFar_108 : decode cX7_findFar 108 = .ok (.aload_n 0, 1) := by decide +kernel
theorem dX7_findFar_109 : decode cX7_findFar 109 = .ok (.getfield 49, 3) := by decide +kernel
theorem dX7_findFar_112 : decode cX7_findFar 112 = .ok (.iload_n 2, 1) := by decide +kernel
theorem dX7_findFar_113 : decode cX7_findFar 113 = .ok (.iload 5, 2) := by decide +kernel
theorem dX7_findFar_115 : decode cX7_findFar 115 = .ok (.iastore, 1) := by decide +kernel
theorem dX7_findFar_116 : decode cX7_findFar 116 = .ok (.iinc 2 1, 3) := by decide +kernel
theorem dX7_findFar_119 : decode cX7_findFar 119 = .ok (.iinc 4 1, 3) := by decide +kernel
theorem dX7_findFar_122 : decode cX7_findFar 122 = .ok (.goto (-70), 3) := by decide +kernel
theorem dX7_findFar_125 : decode cX7_findFar 125 = .ok (.iinc 3 1, 3) := by decide +kernel
theorem dX7_findFar_128 : decode cX7_findFar 128 = .ok (.goto (-84), 3) := by decide +kernel
theorem dX7_findFar_131 : decode cX7_findFar 131 = .ok (.return_, 1) := by decide +kernel
theorem dX7_onTo_0 : decode cX7_onTo 0 = .ok (.iconst 1, 1) := by decide +kernel
theorem dX7_onTo_1 : decode cX7_onTo 1 = .ok (.istore_n 2, 1) := by decide +kernel
theorem dX7_onTo_2 : decode cX7_onTo 2 = .ok (.iconst 0, 1) := by decide +kernel
theorem dX7_onTo_3 : decode cX7_onTo 3 = .ok (.istore_n 3, 1) := by decide +kernel
theorem dX7_onTo_4 : decode cX7_onTo 4 = .ok (.iconst 0, 1) := by decide +kernel
theorem dX7_onTo_5 : decode cX7_onTo 5 = .ok (.istore 4, 2) := by decide +kernel
theorem dX7_onTo_7 : decode cX7_onTo 7 = .ok (.iload 4, 2) := by decide +kernel
theorem dX7_onTo_9 : decode cX7_onTo 9 = .ok (.aload_n 0, 1) := by decide +kernel
theorem dX7_onTo_10 : decode cX7_onTo 10 = .ok (.getfield 71, 3) := by decide +kernel
theorem dX7_onTo_13 : decode cX7_onTo 13 = .ok (.if_icmp .ge 57, 3) := by decide +kernel
theorem dX7_onTo_16 : decode cX7_onTo 16 = .ok (.iload_n 3, 1) := by decide +kernel
theorem dX7_onTo_17 : decode cX7_onTo 17 = .ok (.aload_n 0, 1) := by decide +kernel
theorem dX7_onTo_18 : decode cX7_onTo 18 = .ok (.getfield 16, 3) := by decide +kernel
theorem dX7_onTo_21 : decode cX7_onTo 21 = .ok (.iload_n 1, 1) := by decide +kernel
theorem dX7_onTo_22 : decode cX7_onTo 22 = .ok (.iload 4, 2) := by decide +kernel
theorem dX7_onTo_24 : decode cX7_onTo 24 = .ok (.iadd, 1) := by decide +kernel
theorem dX7_onTo_25 : decode cX7_onTo 25 = .ok (.iaload, 1) := by decide +kernel
theorem dX7_onTo_26 : decode cX7_onTo 26 = .ok (.aload_n 0, 1) := by decide +kernel
theorem dX7_onTo_27 : decode cX7_onTo 27 = .ok (.getfield 19, 3) := by decide +kernel
theorem dX7_onTo_30 : decode cX7_onTo 30 = .ok (.iload 4, 2) := by decide +kernel
theorem dX7_onTo_32 : decode cX7_onTo 32 = .ok (.iaload, 1) := by decide +kernel
theorem dX7_onTo_33 : decode cX7_onTo 33 = .ok (.iadd, 1) := by decide +kernel
theorem dX7_onTo_34 : decode cX7_onTo 34 = .ok (.aload_n 0, 1) := by decide +kernel
theorem dX7_onTo_35 : decode cX7_onTo 35 = .ok (.getfield 22, 3) := by decide +kernel
theorem dX7_onTo_38 : decode cX7_onTo 38 = .ok (.iload 4, 2) := by decide +kernel
theorem dX7_onTo_40 : decode cX7_onTo 40 = .ok (.iaload, 1) := by decide +kernel
theorem dX7_onTo_41 : decode cX7_onTo 41 = .ok (.isub, 1) := by decide +kernel
theorem dX7_onTo_42 : decode cX7_onTo 42 = .ok (.aload_n 0, 1) := by decide +kernel
theorem dX7_onTo_43 : decode cX7_onTo 43 = .ok (.getfield 19, 3) := by decide +kernel
theorem dX7_onTo_46 : decode cX7_onTo 46 = .ok (.iload 4, 2) := by decide +kernel
theorem dX7_onTo_48 : decode cX7_onTo 48 = .ok (.iaload, 1) := by decide +kernel
theorem dX7_onTo_49 : decode cX7_onTo 49 = .ok (.irem, 1) := by decide +kernel
theorem dX7_onTo_50 : decode cX7_onTo 50 = .ok (.iload_n 2, 1) := by decide +kernel
theorem dX7_onTo_51 : decode cX7_onTo 51 = .ok (.imul, 1) := by decide +kernel
theorem dX7_onTo_52 : decode cX7_onTo 52 = .ok (.iadd, 1) := by decide +kernel
theorem dX7_onTo_53 : decode cX7_onTo 53 = .ok (.istore_n 3, 1) := by decide +kernel
theorem dX7_onTo_54 : decode cX7_onTo 54 = .ok (.iload_n 2, 1) := by decide +kernel
theorem dX7_onTo_55 : decode cX7_onTo 55 = .ok (.aload_n 0, 1) := by decide +kernel
theorem dX7_onTo_56 : decode cX7_onTo 56 = .ok (.getfield 19, 3) := by decide +kernel
theorem dX7_onTo_59 : decode cX7_onTo 59 = .ok (.iload 4, 2) := by decide +kernel
theorem dX7_onTo_61 : decode cX7_onTo 61 = .ok (.iaload, 1) := by decide +kernel
theorem dX7_onTo_62 : decode cX7_onTo 62 = .ok (.imul, 1) := by decide +kernel
theorem dX7_onTo_63 : decode cX7_onTo 63 = .ok (.istore_n 2, 1) := by decide +kernel
theorem dX7_onTo_64 : decode cX7_onTo 64 = .ok (.iinc 4 1, 3) := by decide +kernel
theorem dX7_onTo_67 : decode cX7_onTo 67 = .ok (.goto (-60), 3) := by decide +kernel
theorem dX7_onTo_70 : decode cX7_onTo 70 = .ok (.iload_n 3, 1) := by decide +kernel
theorem dX7_onTo_71 : decode cX7_onTo 71 = .ok (.ireturn, 1) := by decide +kernel
theorem dX7_fewest_0 : decode cX7_fewest 0 = .ok (.aload_n 0, 1) := by decide +kernel
theorem dX7_fewest_1 : decode cX7_fewest 1 = .ok (.iconst 0, 1) := by decide +kernel
theorem dX7_fewest_2 : decode cX7_fewest 2 = .ok (.putfield 61, 3) := by decide +kernel
theorem dX7_fewest_5 : decode cX7_fewest 5 = .ok (.aload_n 0, 1) := by decide +kernel
theorem dX7_fewest_6 : decode cX7_fewest 6 = .ok (.getfield 71, 3) := by decide +kernel
theorem dX7_fewest_9 : decode cX7_fewest 9 = .ok (.ifCond .ne 6, 3) := by decide +kernel
theorem dX7_fewest_12 : decode cX7_fewest 12 = .ok (.bipush (-3), 2) := by decide +kernel
theorem dX7_fewest_14 : decode cX7_fewest 14 = .ok (.ireturn, 1) := by decide +kernel
theorem dX7_fewest_15 : decode cX7_fewest 15 = .ok (.iload_n 1, 1) := by decide +kernel
theorem dX7_fewest_16 : decode cX7_fewest 16 = .ok (.invokestatic 80, 3) := by decide +kernel
theorem dX7_fewest_19 : decode cX7_fewest 19 = .ok (.ifCond .ne 5, 3) := by decide +kernel
theorem dX7_fewest_22 : decode cX7_fewest 22 = .ok (.iconst (-1), 1) := by decide +kernel
theorem dX7_fewest_23 : decode cX7_fewest 23 = .ok (.ireturn, 1) := by decide +kernel
theorem dX7_fewest_24 : decode cX7_fewest 24 = .ok (.iload_n 2, 1) := by decide +kernel
theorem dX7_fewest_25 : decode cX7_fewest 25 = .ok (.invokestatic 84, 3) := by decide +kernel
theorem dX7_fewest_28 : decode cX7_fewest 28 = .ok (.ifCond .eq 14, 3) := by decide +kernel
theorem dX7_fewest_31 : decode cX7_fewest 31 = .ok (.iload 4, 2) := by decide +kernel
theorem dX7_fewest_33 : decode cX7_fewest 33 = .ok (.iconst (-1), 1) := by decide +kernel
theorem dX7_fewest_34 : decode cX7_fewest 34 = .ok (.bipush 99, 2) := by decide +kernel
theorem dX7_fewest_36 : decode cX7_fewest 36 = .ok (.invokestatic 67, 3) := by decide +kernel
theorem dX7_fewest_39 : decode cX7_fewest 39 = .ok (.ifCond .ne 6, 3) := by decide +kernel
theorem dX7_fewest_42 : decode cX7_fewest 42 = .ok (.bipush (-2), 2) := by decide +kernel
theorem dX7_fewest_44 : decode cX7_fewest 44 = .ok (.ireturn, 1) := by decide +kernel
theorem dX7_fewest_45 : decode cX7_fewest 45 = .ok (.aload_n 0, 1) := by decide +kernel
theorem dX7_fewest_46 : decode cX7_fewest 46 = .ok (.iload_n 1, 1) := by decide +kernel
theorem dX7_fewest_47 : decode cX7_fewest 47 = .ok (.iload_n 2, 1) := by decide +kernel
theorem dX7_fewest_48 : decode cX7_fewest 48 = .ok (.iload_n 3, 1) := by decide +kernel
theorem dX7_fewest_49 : decode cX7_fewest 49 = .ok (.aload_n 0, 1) := by decide +kernel
theorem dX7_fewest_50 : decode cX7_fewest 50 = .ok (.getfield 71, 3) := by decide +kernel
theorem dX7_fewest_53 : decode cX7_fewest 53 = .ok (.invokevirtual 87, 3) := by decide +kernel
theorem dX7_fewest_56 : decode cX7_fewest 56 = .ok (.istore 5, 2) := by decide +kernel
theorem dX7_fewest_58 : decode cX7_fewest 58 = .ok (.iload 5, 2) := by decide +kernel
theorem dX7_fewest_60 : decode cX7_fewest 60 = .ok (.ifCond .eq 10, 3) := by decide +kernel
theorem dX7_fewest_63 : decode cX7_fewest 63 = .ok (.aload_n 0, 1) := by decide +kernel
theorem dX7_fewest_64 : decode cX7_fewest 64 = .ok (.iload 5, 2) := by decide +kernel
theorem dX7_fewest_66 : decode cX7_fewest 66 = .ok (.invokevirtual 91, 3) := by decide +kernel
theorem dX7_fewest_69 : decode cX7_fewest 69 = .ok (.ireturn, 1) := by decide +kernel
theorem dX7_fewest_70 : decode cX7_fewest 70 = .ok (.bipush 60, 2) := by decide +kernel
theorem dX7_fewest_72 : decode cX7_fewest 72 = .ok (.iload_n 1, 1) := by decide +kernel
theorem dX7_fewest_73 : decode cX7_fewest 73 = .ok (.imul, 1) := by decide +kernel
theorem dX7_fewest_74 : decode cX7_fewest 74 = .ok (.iload_n 3, 1) := by decide +kernel
theorem dX7_fewest_75 : decode cX7_fewest 75 = .ok (.iadd, 1) := by decide +kernel
theorem dX7_fewest_76 : decode cX7_fewest 76 = .ok (.istore 6, 2) := by decide +kernel
theorem dX7_fewest_78 : decode cX7_fewest 78 = .ok (.iconst 0, 1) := by decide +kernel
theorem dX7_fewest_79 : decode cX7_fewest 79 = .ok (.istore 7, 2) := by decide +kernel
theorem dX7_fewest_81 : decode cX7_fewest 81 = .ok (.iload 7, 2) := by decide +kernel
theorem dX7_fewest_83 : decode cX7_fewest 83 = .ok (.aload_n 0, 1) := by decide +kernel
theorem dX7_fewest_84 : decode cX7_fewest 84 = .ok (.getfield 71, 3) := by decide +kernel
theorem dX7_fewest_87 : decode cX7_fewest 87 = .ok (.if_icmp .ge 38, 3) := by decide +kernel
theorem dX7_fewest_90 : decode cX7_fewest 90 = .ok (.aload_n 0, 1) := by decide +kernel
theorem dX7_fewest_91 : decode cX7_fewest 91 = .ok (.getfield 16, 3) := by decide +kernel
theorem dX7_fewest_94 : decode cX7_fewest 94 = .ok (.iload 6, 2) := by decide +kernel
theorem dX7_fewest_96 : decode cX7_fewest 96 = .ok (.iload 7, 2) := by decide +kernel
theorem dX7_fewest_98 : decode cX7_fewest 98 = .ok (.iadd, 1) := by decide +kernel
theorem dX7_fewest_99 : decode cX7_fewest 99 = .ok (.iaload, 1) := by decide +kernel
theorem dX7_fewest_100 : decode cX7_fewest 100 = .ok (.iconst 0, 1) := by decide +kernel
theorem dX7_fewest_101 : decode cX7_fewest 101 = .ok (.aload_n 0, 1) := by decide +kernel
theorem dX7_fewest_102 : decode cX7_fewest 102 = .ok (.getfield 19, 3) := by decide +kernel
theorem dX7_fewest_105 : decode cX7_fewest 105 = .ok (.iload 7, 2) := by decide +kernel
theorem dX7_fewest_107 : decode cX7_fewest 107 = .ok (.iaload, 1) := by decide +kernel
theorem dX7_fewest_108 : decode cX7_fewest 108 = .ok (.iconst 1, 1) := by decide +kernel
theorem dX7_fewest_109 : decode cX7_fewest 109 = .ok (.isub, 1) := by decide +kernel
theorem dX7_fewest_110 : decode cX7_fewest 110 = .ok (.invokestatic 67, 3) := by decide +kernel
theorem dX7_fewest_113 : decode cX7_fewest 113 = .ok (.ifCond .ne 6, 3) := by decide +kernel
theorem dX7_fewest_116 : decode cX7_fewest 116 = .ok (.bipush (-2), 2) := by decide +kernel
theorem dX7_fewest_118 : decode cX7_fewest 118 = .ok (.ireturn, 1) := by decide +kernel
theorem dX7_fewest_119 : decode cX7_fewest 119 = .ok (.iinc 7 1, 3) := by decide +kernel
theorem dX7_fewest_122 : decode cX7_fewest 122 = .ok (.goto (-41), 3) := by decide +kernel
theorem dX7_fewest_125 : decode cX7_fewest 125 = .ok (.aload_n 0, 1) := by decide +kernel
theorem dX7_fewest_126 : decode cX7_fewest 126 = .ok (.invokevirtual 182, 3) := by decide +kernel
theorem dX7_fewest_129 : decode cX7_fewest 129 = .ok (.aload_n 0, 1) := by decide +kernel
theorem dX7_fewest_130 : decode cX7_fewest 130 = .ok (.aload_n 0, 1) := by decide +kernel
theorem dX7_fewest_131 : decode cX7_fewest 131 = .ok (.iload 6, 2) := by decide +kernel
theorem dX7_fewest_133 : decode cX7_fewest 133 = .ok (.invokevirtual 185, 3) := by decide +kernel
theorem dX7_fewest_136 : decode cX7_fewest 136 = .ok (.iload 4, 2) := by decide +kernel
theorem dX7_fewest_138 : decode cX7_fewest 138 = .ok (.invokevirtual 188, 3) := by decide +kernel
theorem dX7_fewest_141 : decode cX7_fewest 141 = .ok (.ireturn, 1) := by decide +kernel
theorem dX7_fewestOf_0 : decode cX7_fewestOf 0 = .ok (.iload_n 2, 1) := by decide +kernel
theorem dX7_fewestOf_1 : decode cX7_fewestOf 1 = .ok (.iconst (-1), 1) := by decide +kernel
theorem dX7_fewestOf_2 : decode cX7_fewestOf 2 = .ok (.if_icmp .ne 10, 3) := by decide +kernel
theorem dX7_fewestOf_5 : decode cX7_fewestOf 5 = .ok (.aload_n 0, 1) := by decide +kernel
theorem dX7_fewestOf_6 : decode cX7_fewestOf 6 = .ok (.getfield 46, 3) := by decide +kernel
theorem dX7_fewestOf_9 : decode cX7_fewestOf 9 = .ok (.iload_n 1, 1) := by decide +kernel
theorem dX7_fewestOf_10 : decode cX7_fewestOf 10 = .ok (.iaload, 1) := by decide +kernel
theorem dX7_fewestOf_11 : decode cX7_fewestOf 11 = .ok (.ireturn, 1) := by decide +kernel
theorem dX7_fewestOf_12 : decode cX7_fewestOf 12 = .ok (.aload_n 0, 1) := by decide +kernel
theorem dX7_fewestOf_13 : decode cX7_fewestOf 13 = .ok (.getfield 46, 3) := by decide +kernel
theorem dX7_fewestOf_16 : decode cX7_fewestOf 16 = .ok (.iload_n 1, 1) := by decide +kernel
theorem dX7_fewestOf_17 : decode cX7_fewestOf 17 = .ok (.iaload, 1) := by decide +kernel
theorem dX7_fewestOf_18 : decode cX7_fewestOf 18 = .ok (.bipush (-9), 2) := by decide +kernel
theorem dX7_fewestOf_20 : decode cX7_fewestOf 20 = .ok (.if_icmp .eq 13, 3) := by decide +kernel
theorem dX7_fewestOf_23 : decode cX7_fewestOf 23 = .ok (.iload_n 2, 1) := by decide +kernel
theorem dX7_fewestOf_24 : decode cX7_fewestOf 24 = .ok (.aload_n 0, 1) := by decide +kernel
theorem dX7_fewestOf_25 : decode cX7_fewestOf 25 = .ok (.getfield 46, 3) := by decide +kernel
theorem dX7_fewestOf_28 : decode cX7_fewestOf 28 = .ok (.iload_n 1, 1) := by decide +kernel
theorem dX7_fewestOf_29 : decode cX7_fewestOf 29 = .ok (.iaload, 1) := by decide +kernel
theorem dX7_fewestOf_30 : decode cX7_fewestOf 30 = .ok (.if_icmp .lt 6, 3) := by decide +kernel
theorem dX7_fewestOf_33 : decode cX7_fewestOf 33 = .ok (.bipush (-9), 2) := by decide +kernel
theorem dX7_fewestOf_35 : decode cX7_fewestOf 35 = .ok (.ireturn, 1) := by decide +kernel
theorem dX7_fewestOf_36 : decode cX7_fewestOf 36 = .ok (.iload_n 1, 1) := by decide +kernel
theorem dX7_fewestOf_37 : decode cX7_fewestOf 37 = .ok (.istore_n 3, 1) := by decide +kernel
theorem dX7_fewestOf_38 : decode cX7_fewestOf 38 = .ok (.iconst 0, 1) := by decide +kernel
theorem dX7_fewestOf_39 : decode cX7_fewestOf 39 = .ok (.istore 4, 2) := by decide +kernel
theorem dX7_fewestOf_41 : decode cX7_fewestOf 41 = .ok (.iconst 0, 1) := by decide +kernel
theorem dX7_fewestOf_42 : decode cX7_fewestOf 42 = .ok (.istore 5, 2) := by decide +kernel
theorem dX7_fewestOf_44 : decode cX7_fewestOf 44 = .ok (.iload 5, 2) := by decide +kernel
theorem dX7_fewestOf_46 : decode cX7_fewestOf 46 = .ok (.iload_n 2, 1) := by decide +kernel
theorem dX7_fewestOf_47 : decode cX7_fewestOf 47 = .ok (.if_icmp .gt 51, 3) := by decide +kernel
theorem dX7_fewestOf_50 : decode cX7_fewestOf 50 = .ok (.iconst 0, 1) := by decide +kernel
theorem dX7_fewestOf_51 : decode cX7_fewestOf 51 = .ok (.istore 4, 2) := by decide +kernel
theorem dX7_fewestOf_53 : decode cX7_fewestOf 53 = .ok (.aload_n 0, 1) := by decide +kernel
theorem dX7_fewestOf_54 : decode cX7_fewestOf 54 = .ok (.getfield 46, 3) := by decide +kernel
theorem dX7_fewestOf_57 : decode cX7_fewestOf 57 = .ok (.aload_n 0, 1) := by decide +kernel
theorem dX7_fewestOf_58 : decode cX7_fewestOf 58 = .ok (.iload_n 3, 1) := by decide +kernel
theorem dX7_fewestOf_59 : decode cX7_fewestOf 59 = .ok (.iload 4, 2) := by decide +kernel
theorem dX7_fewestOf_61 : decode cX7_fewestOf 61 = .ok (.iconst 1, 1) := by decide +kernel
theorem dX7_fewestOf_62 : decode cX7_fewestOf 62 = .ok (.invokevirtual 178, 3) := by decide +kernel
theorem dX7_fewestOf_65 : decode cX7_fewestOf 65 = .ok (.iaload, 1) := by decide +kernel
theorem dX7_fewestOf_66 : decode cX7_fewestOf 66 = .ok (.aload_n 0, 1) := by decide +kernel
theorem dX7_fewestOf_67 : decode cX7_fewestOf 67 = .ok (.getfield 46, 3) := by decide +kernel
theorem dX7_fewestOf_70 : decode cX7_fewestOf 70 = .ok (.iload_n 3, 1) := by decide +kernel
theorem dX7_fewestOf_71 : decode cX7_fewestOf 71 = .ok (.iaload, 1) := by decide +kernel
theorem dX7_fewestOf_72 : decode cX7_fewestOf 72 = .ok (.iconst 1, 1) := by decide +kernel
theorem dX7_fewestOf_73 : decode cX7_fewestOf 73 = .ok (.isub, 1) := by decide +kernel
theorem dX7_fewestOf_74 : decode cX7_fewestOf 74 = .ok (.if_icmp .eq 9, 3) := by decide +kernel
theorem dX7_fewestOf_77 : decode cX7_fewestOf 77 = .ok (.iinc 4 1, 3) := by decide +kernel
theorem dX7_fewestOf_80 : decode cX7_fewestOf 80 = .ok (.goto (-27), 3) := by decide +kernel
theorem dX7_fewestOf_83 : decode cX7_fewestOf 83 = .ok (.aload_n 0, 1) := by decide +kernel
theorem dX7_fewestOf_84 : decode cX7_fewestOf 84 = .ok (.iload_n 3, 1) := by decide +kernel
theorem dX7_fewestOf_85 : decode cX7_fewestOf 85 = .ok (.iload 4, 2) := by decide +kernel
theorem dX7_fewestOf_87 : decode cX7_fewestOf 87 = .ok (.iconst 1, 1) := by decide +kernel
theorem dX7_fewestOf_88 : decode cX7_fewestOf 88 = .ok (.invokevirtual 178, 3) := by decide +kernel
theorem dX7_fewestOf_91 : decode cX7_fewestOf 91 = .ok (.istore_n 3, 1) := by decide +kernel
theorem dX7_fewestOf_92 : decode cX7_fewestOf 92 = .ok (.iinc 5 1, 3) := by decide +kernel
theorem dX7_fewestOf_95 : decode cX7_fewestOf 95 = .ok (.goto (-51), 3) := by decide +kernel
theorem dX7_fewestOf_98 : decode cX7_fewestOf 98 = .ok (.iload 4, 2) := by decide +kernel
theorem dX7_fewestOf_100 : decode cX7_fewestOf 100 = .ok (.ireturn, 1) := by decide +kernel
theorem dX7_halls_0 : decode cX7_halls 0 = .ok (.aload_n 0, 1) := by decide +kernel
theorem dX7_halls_1 : decode cX7_halls 1 = .ok (.getfield 71, 3) := by decide +kernel
theorem dX7_halls_4 : decode cX7_halls 4 = .ok (.ifCond .ne 8, 3) := by decide +kernel
theorem dX7_halls_7 : decode cX7_halls 7 = .ok (.bipush (-3), 2) := by decide +kernel
theorem dX7_halls_9 : decode cX7_halls 9 = .ok (.goto 9, 3) := by decide +kernel
theorem dX7_halls_12 : decode cX7_halls 12 = .ok (.aload_n 0, 1) := by decide +kernel
theorem dX7_halls_13 : decode cX7_halls 13 = .ok (.bipush (-9), 2) := by decide +kernel
theorem dX7_halls_15 : decode cX7_halls 15 = .ok (.invokevirtual 191, 3) := by decide +kernel
theorem dX7_halls_18 : decode cX7_halls 18 = .ok (.ireturn, 1) := by decide +kernel
theorem dX7_alone_0 : decode cX7_alone 0 = .ok (.aload_n 0, 1) := by decide +kernel
theorem dX7_alone_1 : decode cX7_alone 1 = .ok (.iload_n 1, 1) := by decide +kernel
theorem dX7_alone_2 : decode cX7_alone 2 = .ok (.invokevirtual 127, 3) := by decide +kernel
theorem dX7_alone_5 : decode cX7_alone 5 = .ok (.ifCond .ne 5, 3) := by decide +kernel
theorem dX7_alone_8 : decode cX7_alone 8 = .ok (.iconst (-1), 1) := by decide +kernel
theorem dX7_alone_9 : decode cX7_alone 9 = .ok (.ireturn, 1) := by decide +kernel
theorem dX7_alone_10 : decode cX7_alone 10 = .ok (.aload_n 0, 1) := by decide +kernel
theorem dX7_alone_11 : decode cX7_alone 11 = .ok (.invokevirtual 182, 3) := by decide +kernel
theorem dX7_alone_14 : decode cX7_alone 14 = .ok (.iconst 1, 1) := by decide +kernel
theorem dX7_alone_15 : decode cX7_alone 15 = .ok (.istore_n 2, 1) := by decide +kernel
theorem dX7_alone_16 : decode cX7_alone 16 = .ok (.iconst 0, 1) := by decide +kernel
theorem dX7_alone_17 : decode cX7_alone 17 = .ok (.istore_n 3, 1) := by decide +kernel
theorem dX7_alone_18 : decode cX7_alone 18 = .ok (.iload_n 3, 1) := by decide +kernel
theorem dX7_alone_19 : decode cX7_alone 19 = .ok (.iload_n 1, 1) := by decide +kernel
theorem dX7_alone_20 : decode cX7_alone 20 = .ok (.if_icmp .ge 18, 3) := by decide +kernel
theorem dX7_alone_23 : decode cX7_alone 23 = .ok (.iload_n 2, 1) := by decide +kernel
theorem dX7_alone_24 : decode cX7_alone 24 = .ok (.aload_n 0, 1) := by decide +kernel
theorem dX7_alone_25 : decode cX7_alone 25 = .ok (.getfield 19, 3) := by decide +kernel
theorem dX7_alone_28 : decode cX7_alone 28 = .ok (.iload_n 3, 1) := by decide +kernel
theorem dX7_alone_29 : decode cX7_alone 29 = .ok (.iaload, 1) := by decide +kernel
theorem dX7_alone_30 : decode cX7_alone 30 = .ok (.imul, 1) := by decide +kernel
theorem dX7_alone_31 : decode cX7_alone 31 = .ok (.istore_n 2, 1) := by decide +kernel
theorem dX7_alone_32 : decode cX7_alone 32 = .ok (.iinc 3 1, 3) := by decide +kernel
theorem dX7_alone_35 : decode cX7_alone 35 = .ok (.goto (-17), 3) := by decide +kernel
theorem dX7_alone_38 : decode cX7_alone 38 = .ok (.aload_n 0, 1) := by decide +kernel
theorem dX7_alone_39 : decode cX7_alone 39 = .ok (.getfield 46, 3) := by decide +kernel
theorem dX7_alone_42 : decode cX7_alone 42 = .ok (.iload_n 2, 1) := by decide +kernel
theorem dX7_alone_43 : decode cX7_alone 43 = .ok (.iaload, 1) := by decide +kernel
theorem dX7_alone_44 : decode cX7_alone 44 = .ok (.ireturn, 1) := by decide +kernel
theorem dX7_idle_0 : decode cX7_idle 0 = .ok (.aload_n 0, 1) := by decide +kernel
theorem dX7_idle_1 : decode cX7_idle 1 = .ok (.getfield 71, 3) := by decide +kernel
theorem dX7_idle_4 : decode cX7_idle 4 = .ok (.ifCond .ne 6, 3) := by decide +kernel
theorem dX7_idle_7 : decode cX7_idle 7 = .ok (.bipush (-3), 2) := by decide +kernel
theorem dX7_idle_9 : decode cX7_idle 9 = .ok (.ireturn, 1) := by decide +kernel
theorem dX7_idle_10 : decode cX7_idle 10 = .ok (.aload_n 0, 1) := by decide +kernel
theorem dX7_idle_11 : decode cX7_idle 11 = .ok (.invokevirtual 182, 3) := by decide +kernel
theorem dX7_idle_14 : decode cX7_idle 14 = .ok (.bipush (-9), 2) := by decide +kernel
theorem dX7_idle_16 : decode cX7_idle 16 = .ok (.istore_n 1, 1) := by decide +kernel
theorem dX7_idle_17 : decode cX7_idle 17 = .ok (.iconst 0, 1) := by decide +kernel
theorem dX7_idle_18 : decode cX7_idle 18 = .ok (.istore_n 2, 1) := by decide +kernel
theorem dX7_idle_19 : decode cX7_idle 19 = .ok (.iload_n 2, 1) := by decide +kernel
theorem dX7_idle_20 : decode cX7_idle 20 = .ok (.aload_n 0, 1) := by decide +kernel
theorem dX7_idle_21 : decode cX7_idle 21 = .ok (.getfield 74, 3) := by decide +kernel
theorem dX7_idle_24 : decode cX7_idle 24 = .ok (.if_icmp .ge 41, 3) := by decide +kernel
theorem dX7_idle_27 : decode cX7_idle 27 = .ok (.aload_n 0, 1) := by decide +kernel
theorem dX7_idle_28 : decode cX7_idle 28 = .ok (.getfield 46, 3) := by decide +kernel
theorem dX7_idle_31 : decode cX7_idle 31 = .ok (.aload_n 0, 1) := by decide +kernel
theorem dX7_idle_32 : decode cX7_idle 32 = .ok (.iconst 0, 1) := by decide +kernel
theorem dX7_idle_33 : decode cX7_idle 33 = .ok (.iload_n 2, 1) := by decide +kernel
theorem dX7_idle_34 : decode cX7_idle 34 = .ok (.iconst 1, 1) := by decide +kernel
theorem dX7_idle_35 : decode cX7_idle 35 = .ok (.invokevirtual 178, 3) := by decide +kernel
theorem dX7_idle_38 : decode cX7_idle 38 = .ok (.iaload, 1) := by decide +kernel
theorem dX7_idle_39 : decode cX7_idle 39 = .ok (.iconst 1, 1) := by decide +kernel
theorem dX7_idle_40 : decode cX7_idle 40 = .ok (.iadd, 1) := by decide +kernel
theorem dX7_idle_41 : decode cX7_idle 41 = .ok (.istore_n 3, 1) := by decide +kernel
theorem dX7_idle_42 : decode cX7_idle 42 = .ok (.iload_n 1, 1) := by decide +kernel
theorem dX7_idle_43 : decode cX7_idle 43 = .ok (.bipush (-9), 2) := by decide +kernel
theorem dX7_idle_45 : decode cX7_idle 45 = .ok (.if_icmp .eq 8, 3) := by decide +kernel
theorem dX7_idle_48 : decode cX7_idle 48 = .ok (.iload_n 3, 1) := by decide +kernel
theorem dX7_idle_49 : decode cX7_idle 49 = .ok (.iload_n 1, 1) := by decide +kernel
theorem dX7_idle_50 : decode cX7_idle 50 = .ok (.if_icmp .ge 7, 3) := by decide +kernel
theorem dX7_idle_53 : decode cX7_idle 53 = .ok (.iload_n 3, 1) := by decide +kernel
theorem dX7_idle_54 : decode cX7_idle 54 = .ok (.goto 4, 3) := by decide +kernel
theorem dX7_idle_57 : decode cX7_idle 57 = .ok (.iload_n 1, 1) := by decide +kernel
theorem dX7_idle_58 : decode cX7_idle 58 = .ok (.istore_n 1, 1) := by decide +kernel
theorem dX7_idle_59 : decode cX7_idle 59 = .ok (.iinc 2 1, 3) := by decide +kernel
theorem dX7_idle_62 : decode cX7_idle 62 = .ok (.goto (-43), 3) := by decide +kernel
theorem dX7_idle_65 : decode cX7_idle 65 = .ok (.iload_n 1, 1) := by decide +kernel
theorem dX7_idle_66 : decode cX7_idle 66 = .ok (.ireturn, 1) := by decide +kernel
theorem dX7_spare_0 : decode cX7_spare 0 = .ok (.aload_n 0, 1) := by decide +kernel
theorem dX7_spare_1 : decode cX7_spare 1 = .ok (.getfield 71, 3) := by decide +kernel
theorem dX7_spare_4 : decode cX7_spare 4 = .ok (.ifCond .ne 6, 3) := by decide +kernel
theorem dX7_spare_7 : decode cX7_spare 7 = .ok (.bipush (-3), 2) := by decide +kernel
theorem dX7_spare_9 : decode cX7_spare 9 = .ok (.ireturn, 1) := by decide +kernel
theorem dX7_spare_10 : decode cX7_spare 10 = .ok (.aload_n 0, 1) := by decide +kernel
theorem dX7_spare_11 : decode cX7_spare 11 = .ok (.bipush (-9), 2) := by decide +kernel
theorem dX7_spare_13 : decode cX7_spare 13 = .ok (.invokevirtual 191, 3) := by decide +kernel
theorem dX7_spare_16 : decode cX7_spare 16 = .ok (.istore_n 1, 1) := by decide +kernel
theorem dX7_spare_17 : decode cX7_spare 17 = .ok (.iconst 0, 1) := by decide +kernel
theorem dX7_spare_18 : decode cX7_spare 18 = .ok (.istore_n 2, 1) := by decide +kernel
theorem dX7_spare_19 : decode cX7_spare 19 = .ok (.iconst 0, 1) := by decide +kernel
theorem dX7_spare_20 : decode cX7_spare 20 = .ok (.istore_n 3, 1) := by decide +kernel
theorem dX7_spare_21 : decode cX7_spare 21 = .ok (.iload_n 3, 1) := by decide +kernel
theorem dX7_spare_22 : decode cX7_spare 22 = .ok (.aload_n 0, 1) := by decide +kernel
theorem dX7_spare_23 : decode cX7_spare 23 = .ok (.getfield 74, 3) := by decide +kernel
theorem dX7_spare_26 : decode cX7_spare 26 = .ok (.if_icmp .ge 28, 3) := by decide +kernel
theorem dX7_spare_29 : decode cX7_spare 29 = .ok (.iload_n 2, 1) := by decide +kernel
theorem dX7_spare_30 : decode cX7_spare 30 = .ok (.aload_n 0, 1) := by decide +kernel
theorem dX7_spare_31 : decode cX7_spare 31 = .ok (.iload_n 3, 1) := by decide +kernel
theorem dX7_spare_32 : decode cX7_spare 32 = .ok (.invokevirtual 191, 3) := by decide +kernel
theorem dX7_spare_35 : decode cX7_spare 35 = .ok (.iload_n 1, 1) := by decide +kernel
theorem dX7_spare_36 : decode cX7_spare 36 = .ok (.if_icmp .ne 9, 3) := by decide +kernel
theorem dX7_spare_39 : decode cX7_spare 39 = .ok (.iconst 1, 1) := by decide +kernel
theorem dX7_spare_40 : decode cX7_spare 40 = .ok (.iload_n 3, 1) := by decide +kernel
theorem dX7_spare_41 : decode cX7_spare 41 = .ok (.ishl, 1) := by decide +kernel
theorem dX7_spare_42 : decode cX7_spare 42 = .ok (.goto 4, 3) := by decide +kernel
theorem dX7_spare_45 : decode cX7_spare 45 = .ok (.iconst 0, 1) := by decide +kernel
theorem dX7_spare_46 : decode cX7_spare 46 = .ok (.ior, 1) := by decide +kernel
theorem dX7_spare_47 : decode cX7_spare 47 = .ok (.istore_n 2, 1) := by decide +kernel
theorem dX7_spare_48 : decode cX7_spare 48 = .ok (.iinc 3 1, 3) := by decide +kernel
theorem dX7_spare_51 : decode cX7_spare 51 = .ok (.goto (-30), 3) := by decide +kernel
theorem dX7_spare_54 : decode cX7_spare 54 = .ok (.iload_n 2, 1) := by decide +kernel
theorem dX7_spare_55 : decode cX7_spare 55 = .ok (.ireturn, 1) := by decide +kernel
theorem dX7_reading_0 : decode cX7_reading 0 = .ok (.aload_n 0, 1) := by decide +kernel
theorem dX7_reading_1 : decode cX7_reading 1 = .ok (.iload_n 1, 1) := by decide +kernel
theorem dX7_reading_2 : decode cX7_reading 2 = .ok (.invokevirtual 133, 3) := by decide +kernel
theorem dX7_reading_5 : decode cX7_reading 5 = .ok (.ifCond .eq 11, 3) := by decide +kernel
theorem dX7_reading_8 : decode cX7_reading 8 = .ok (.aload_n 0, 1) := by decide +kernel
theorem dX7_reading_9 : decode cX7_reading 9 = .ok (.iload_n 2, 1) := by decide +kernel
theorem dX7_reading_10 : decode cX7_reading 10 = .ok (.invokevirtual 127, 3) := by decide +kernel
theorem dX7_reading_13 : decode cX7_reading 13 = .ok (.ifCond .ne 5, 3) := by decide +kernel
theorem dX7_reading_16 : decode cX7_reading 16 = .ok (.iconst (-1), 1) := by decide +kernel
theorem dX7_reading_17 : decode cX7_reading 17 = .ok (.ireturn, 1) := by decide +kernel
theorem dX7_reading_18 : decode cX7_reading 18 = .ok (.iload_n 3, 1) := by decide +kernel
theorem dX7_reading_19 : decode cX7_reading 19 = .ok (.iconst 0, 1) := by decide +kernel
theorem dX7_reading_20 : decode cX7_reading 20 = .ok (.iconst 4, 1) := by decide +kernel
theorem dX7_reading_21 : decode cX7_reading 21 = .ok (.invokestatic 67, 3) := by decide +kernel
theorem dX7_reading_24 : decode cX7_reading 24 = .ok (.ifCond .ne 6, 3) := by decide +kernel
theorem dX7_reading_27 : decode cX7_reading 27 = .ok (.bipush (-2), 2) := by decide +kernel
theorem dX7_reading_29 : decode cX7_reading 29 = .ok (.ireturn, 1) := by decide +kernel
theorem dX7_reading_30 : decode cX7_reading 30 = .ok (.aload_n 0, 1) := by decide +kernel
theorem dX7_reading_31 : decode cX7_reading 31 = .ok (.getfield 110, 3) := by decide +kernel
theorem dX7_reading_34 : decode cX7_reading 34 = .ok (.bipush 8, 2) := by decide +kernel
theorem dX7_reading_36 : decode cX7_reading 36 = .ok (.if_icmp .ne 6, 3) := by decide +kernel
theorem dX7_reading_39 : decode cX7_reading 39 = .ok (.bipush (-4), 2) := by decide +kernel
theorem dX7_reading_41 : decode cX7_reading 41 = .ok (.ireturn, 1) := by decide +kernel
theorem dX7_reading_42 : decode cX7_reading 42 = .ok (.aload_n 0, 1) := by decide +kernel
theorem dX7_reading_43 : decode cX7_reading 43 = .ok (.getfield 52, 3) := by decide +kernel
theorem dX7_reading_46 : decode cX7_reading 46 = .ok (.aload_n 0, 1) := by decide +kernel
theorem dX7_reading_47 : decode cX7_reading 47 = .ok (.getfield 110, 3) := by decide +kernel
theorem dX7_reading_50 : decode cX7_reading 50 = .ok (.iload_n 1, 1) := by decide +kernel
theorem dX7_reading_51 : decode cX7_reading 51 = .ok (.iastore, 1) := by decide +kernel
theorem dX7_reading_52 : decode cX7_reading 52 = .ok (.aload_n 0, 1) := by decide +kernel
theorem dX7_reading_53 : decode cX7_reading 53 = .ok (.getfield 55, 3) := by decide +kernel
theorem dX7_reading_56 : decode cX7_reading 56 = .ok (.aload_n 0, 1) := by decide +kernel
theorem dX7_reading_57 : decode cX7_reading 57 = .ok (.getfield 110, 3) := by decide +kernel
theorem dX7_reading_60 : decode cX7_reading 60 = .ok (.iload_n 2, 1) := by decide +kernel
theorem dX7_reading_61 : decode cX7_reading 61 = .ok (.iastore, 1) := by decide +kernel
theorem dX7_reading_62 : decode cX7_reading 62 = .ok (.aload_n 0, 1) := by decide +kernel
theorem dX7_reading_63 : decode cX7_reading 63 = .ok (.getfield 58, 3) := by decide +kernel
theorem dX7_reading_66 : decode cX7_reading 66 = .ok (.aload_n 0, 1) := by decide +kernel
theorem dX7_reading_67 : decode cX7_reading 67 = .ok (.getfield 110, 3) := by decide +kernel
theorem dX7_reading_70 : decode cX7_reading 70 = .ok (.iload_n 3, 1) := by decide +kernel
theorem dX7_reading_71 : decode cX7_reading 71 = .ok (.iastore, 1) := by decide +kernel
theorem dX7_reading_72 : decode cX7_reading 72 = .ok (.aload_n 0, 1) := by decide +kernel
theorem dX7_reading_73 : decode cX7_reading 73 = .ok (.dup, 1) := by decide +kernel
theorem dX7_reading_74 : decode cX7_reading 74 = .ok (.getfield 110, 3) := by decide +kernel
theorem dX7_reading_77 : decode cX7_reading 77 = .ok (.iconst 1, 1) := by decide +kernel
theorem dX7_reading_78 : decode cX7_reading 78 = .ok (.iadd, 1) := by decide +kernel
theorem dX7_reading_79 : decode cX7_reading 79 = .ok (.putfield 110, 3) := by decide +kernel
theorem dX7_reading_82 : decode cX7_reading 82 = .ok (.aload_n 0, 1) := by decide +kernel
theorem dX7_reading_83 : decode cX7_reading 83 = .ok (.getfield 110, 3) := by decide +kernel
theorem dX7_reading_86 : decode cX7_reading 86 = .ok (.iconst 1, 1) := by decide +kernel
theorem dX7_reading_87 : decode cX7_reading 87 = .ok (.isub, 1) := by decide +kernel
theorem dX7_reading_88 : decode cX7_reading 88 = .ok (.ireturn, 1) := by decide +kernel
theorem dX7_back_0 : decode cX7_back 0 = .ok (.iload_n 1, 1) := by decide +kernel
theorem dX7_back_1 : decode cX7_back 1 = .ok (.iconst 0, 1) := by decide +kernel
theorem dX7_back_2 : decode cX7_back 2 = .ok (.aload_n 0, 1) := by decide +kernel
theorem dX7_back_3 : decode cX7_back 3 = .ok (.getfield 110, 3) := by decide +kernel
theorem dX7_back_6 : decode cX7_back 6 = .ok (.invokestatic 67, 3) := by decide +kernel
theorem dX7_back_9 : decode cX7_back 9 = .ok (.ifCond .ne 6, 3) := by decide +kernel
theorem dX7_back_12 : decode cX7_back 12 = .ok (.bipush (-2), 2) := by decide +kernel
theorem dX7_back_14 : decode cX7_back 14 = .ok (.ireturn, 1) := by decide +kernel
theorem dX7_back_15 : decode cX7_back 15 = .ok (.aload_n 0, 1) := by decide +kernel
theorem dX7_back_16 : decode cX7_back 16 = .ok (.dup, 1) := by decide +kernel
theorem dX7_back_17 : decode cX7_back 17 = .ok (.getfield 110, 3) := by decide +kernel
theorem dX7_back_20 : decode cX7_back 20 = .ok (.iload_n 1, 1) := by decide +kernel
theorem dX7_back_21 : decode cX7_back 21 = .ok (.isub, 1) := by decide +kernel
theorem dX7_back_22 : decode cX7_back 22 = .ok (.putfield 110, 3) := by decide +kernel
theorem dX7_back_25 : decode cX7_back 25 = .ok (.aload_n 0, 1) := by decide +kernel
theorem dX7_back_26 : decode cX7_back 26 = .ok (.getfield 110, 3) := by decide +kernel
theorem dX7_back_29 : decode cX7_back 29 = .ok (.ireturn, 1) := by decide +kernel
theorem dX7_areSo_0 : decode cX7_areSo 0 = .ok (.iconst 0, 1) := by decide +kernel
theorem dX7_areSo_1 : decode cX7_areSo 1 = .ok (.istore_n 1, 1) := by decide +kernel
theorem dX7_areSo_2 : decode cX7_areSo 2 = .ok (.iload_n 1, 1) := by decide +kernel
theorem dX7_areSo_3 : decode cX7_areSo 3 = .ok (.aload_n 0, 1) := by decide +kernel
theorem dX7_areSo_4 : decode cX7_areSo 4 = .ok (.getfield 110, 3) := by decide +kernel
theorem dX7_areSo_7 : decode cX7_areSo 7 = .ok (.if_icmp .ge 67, 3) := by decide +kernel
theorem dX7_areSo_10 : decode cX7_areSo 10 = .ok (.aload_n 0, 1) := by decide +kernel
theorem dX7_areSo_11 : decode cX7_areSo 11 = .ok (.getfield 52, 3) := by decide +kernel
theorem dX7_areSo_14 : decode cX7_areSo 14 = .ok (.iload_n 1, 1) := by decide +kernel
theorem dX7_areSo_15 : decode cX7_areSo 15 = .ok (.iaload, 1) := by decide +kernel
theorem dX7_areSo_16 : decode cX7_areSo 16 = .ok (.istore_n 2, 1) := by decide +kernel
theorem dX7_areSo_17 : decode cX7_areSo 17 = .ok (.aload_n 0, 1) := by decide +kernel
theorem dX7_areSo_18 : decode cX7_areSo 18 = .ok (.getfield 55, 3) := by decide +kernel
theorem dX7_areSo_21 : decode cX7_areSo 21 = .ok (.iload_n 1, 1) := by decide +kernel
theorem dX7_areSo_22 : decode cX7_areSo 22 = .ok (.iaload, 1) := by decide +kernel
theorem dX7_areSo_23 : decode cX7_areSo 23 = .ok (.istore_n 3, 1) := by decide +kernel
theorem dX7_areSo_24 : decode cX7_areSo 24 = .ok (.aload_n 0, 1) := by decide +kernel
theorem dX7_areSo_25 : decode cX7_areSo 25 = .ok (.getfield 31, 3) := by decide +kernel
theorem dX7_areSo_28 : decode cX7_areSo 28 = .ok (.iload_n 2, 1) := by decide +kernel
theorem dX7_areSo_29 : decode cX7_areSo 29 = .ok (.iaload, 1) := by decide +kernel
theorem dX7_areSo_30 : decode cX7_areSo 30 = .ok (.iload_n 3, 1) := by decide +kernel
theorem dX7_areSo_31 : decode cX7_areSo 31 = .ok (.invokestatic 124, 3) := by decide +kernel
theorem dX7_areSo_34 : decode cX7_areSo 34 = .ok (.ifCond .eq 18, 3) := by decide +kernel
theorem dX7_areSo_37 : decode cX7_areSo 37 = .ok (.aload_n 0, 1) := by decide +kernel
theorem dX7_areSo_38 : decode cX7_areSo 38 = .ok (.iload_n 2, 1) := by decide +kernel
theorem dX7_areSo_39 : decode cX7_areSo 39 = .ok (.invokevirtual 136, 3) := by decide +kernel
theorem dX7_areSo_42 : decode cX7_areSo 42 = .ok (.aload_n 0, 1) := by decide +kernel
theorem dX7_areSo_43 : decode cX7_areSo 43 = .ok (.getfield 19, 3) := by decide +kernel
theorem dX7_areSo_46 : decode cX7_areSo 46 = .ok (.iload_n 3, 1) := by decide +kernel
theorem dX7_areSo_47 : decode cX7_areSo 47 = .ok (.iaload, 1) := by decide +kernel
theorem dX7_areSo_48 : decode cX7_areSo 48 = .ok (.irem, 1) := by decide +kernel
theorem dX7_areSo_49 : decode cX7_areSo 49 = .ok (.goto 4, 3) := by decide +kernel
theorem dX7_areSo_52 : decode cX7_areSo 52 = .ok (.iconst 0, 1) := by decide +kernel
theorem dX7_areSo_53 : decode cX7_areSo 53 = .ok (.istore 4, 2) := by decide +kernel
theorem dX7_areSo_55 : decode cX7_areSo 55 = .ok (.iload 4, 2) := by decide +kernel
theorem dX7_areSo_57 : decode cX7_areSo 57 = .ok (.aload_n 0, 1) := by decide +kernel
theorem dX7_areSo_58 : decode cX7_areSo 58 = .ok (.getfield 58, 3) := by decide +kernel
theorem dX7_areSo_61 : decode cX7_areSo 61 = .ok (.iload_n 1, 1) := by decide +kernel
theorem dX7_areSo_62 : decode cX7_areSo 62 = .ok (.iaload, 1) := by decide +kernel
theorem dX7_areSo_63 : decode cX7_areSo 63 = .ok (.if_icmp .eq 5, 3) := by decide +kernel
theorem dX7_areSo_66 : decode cX7_areSo 66 = .ok (.iconst 0, 1) := by decide +kernel
theorem dX7_areSo_67 : decode cX7_areSo 67 = .ok (.ireturn, 1) := by decide +kernel
theorem dX7_areSo_68 : decode cX7_areSo 68 = .ok (.iinc 1 1, 3) := by decide +kernel
theorem dX7_areSo_71 : decode cX7_areSo 71 = .ok (.goto (-69), 3) := by decide +kernel
theorem dX7_areSo_74 : decode cX7_areSo 74 = .ok (.iconst 1, 1) := by decide +kernel
theorem dX7_areSo_75 : decode cX7_areSo 75 = .ok (.ireturn, 1) := by decide +kernel
theorem dX7_turnings_0 : decode cX7_turnings 0 = .ok (.aload_n 0, 1) := by decide +kernel
theorem dX7_turnings_1 : decode cX7_turnings 1 = .ok (.iload_n 1, 1) := by decide +kernel
theorem dX7_turnings_2 : decode cX7_turnings 2 = .ok (.invokevirtual 133, 3) := by decide +kernel
theorem dX7_turnings_5 : decode cX7_turnings 5 = .ok (.ifCond .ne 5, 3) := by decide +kernel
theorem dX7_turnings_8 : decode cX7_turnings 8 = .ok (.iconst (-1), 1) := by decide +kernel
theorem dX7_turnings_9 : decode cX7_turnings 9 = .ok (.ireturn, 1) := by decide +kernel
theorem dX7_turnings_10 : decode cX7_turnings 10 = .ok (.aload_n 0, 1) := by decide +kernel
theorem dX7_turnings_11 : decode cX7_turnings 11 = .ok (.getfield 28, 3) := by decide +kernel
theorem dX7_turnings_14 : decode cX7_turnings 14 = .ok (.iload_n 1, 1) := by decide +kernel
theorem dX7_turnings_15 : decode cX7_turnings 15 = .ok (.iaload, 1) := by decide +kernel
theorem dX7_turnings_16 : decode cX7_turnings 16 = .ok (.istore_n 2, 1) := by decide +kernel
theorem dX7_turnings_17 : decode cX7_turnings 17 = .ok (.iconst 0, 1) := by decide +kernel
theorem dX7_turnings_18 : decode cX7_turnings 18 = .ok (.istore_n 3, 1) := by decide +kernel
theorem dX7_turnings_19 : decode cX7_turnings 19 = .ok (.iconst 1, 1) := by decide +kernel
theorem dX7_turnings_20 : decode cX7_turnings 20 = .ok (.istore 4, 2) := by decide +kernel
theorem dX7_turnings_22 : decode cX7_turnings 22 = .ok (.iload 4, 2) := by decide +kernel
theorem dX7_turnings_24 : decode cX7_turnings 24 = .ok (.iconst 4, 1) := by decide +kernel
theorem dX7_turnings_25 : decode cX7_turnings 25 = .ok (.if_icmp .gt 35, 3) := by decide +kernel
theorem dX7_turnings_28 : decode cX7_turnings 28 = .ok (.aload_n 0, 1) := by decide +kernel
theorem dX7_turnings_29 : decode cX7_turnings 29 = .ok (.getfield 28, 3) := by decide +kernel
theorem dX7_turnings_32 : decode cX7_turnings 32 = .ok (.iload_n 1, 1) := by decide +kernel
theorem dX7_turnings_33 : decode cX7_turnings 33 = .ok (.iload 4, 2) := by decide +kernel
theorem dX7_turnings_35 : decode cX7_turnings 35 = .ok (.iastore, 1) := by decide +kernel
theorem dX7_turnings_36 : decode cX7_turnings 36 = .ok (.iload_n 3, 1) := by decide +kernel
theorem dX7_turnings_37 : decode cX7_turnings 37 = .ok (.aload_n 0, 1) := by decide +kernel
theorem dX7_turnings_38 : decode cX7_turnings 38 = .ok (.invokevirtual 194, 3) := by decide +kernel
theorem dX7_turnings_41 : decode cX7_turnings 41 = .ok (.ifCond .eq 10, 3) := by decide +kernel
theorem dX7_turnings_44 : decode cX7_turnings 44 = .ok (.iconst 1, 1) := by decide +kernel
theorem dX7_turnings_45 : decode cX7_turnings 45 = .ok (.iload 4, 2) := by decide +kernel
theorem dX7_turnings_47 : decode cX7_turnings 47 = .ok (.ishl, 1) := by decide +kernel
theorem dX7_turnings_48 : decode cX7_turnings 48 = .ok (.goto 4, 3) := by decide +kernel
theorem dX7_turnings_51 : decode cX7_turnings 51 = .ok (.iconst 0, 1) := by decide +kernel
theorem dX7_turnings_52 : decode cX7_turnings 52 = .ok (.ior, 1) := by decide +kernel
theorem dX7_turnings_53 : decode cX7_turnings 53 = .ok (.istore_n 3, 1) := by decide +kernel
theorem dX7_turnings_54 : decode cX7_turnings 54 = .ok (.iinc 4 1, 3) := by decide +kernel
theorem dX7_turnings_57 : decode cX7_turnings 57 = .ok (.goto (-35), 3) := by decide +kernel
theorem dX7_turnings_60 : decode cX7_turnings 60 = .ok (.aload_n 0, 1) := by decide +kernel
theorem dX7_turnings_61 : decode cX7_turnings 61 = .ok (.getfield 28, 3) := by decide +kernel
theorem dX7_turnings_64 : decode cX7_turnings 64 = .ok (.iload_n 1, 1) := by decide +kernel
theorem dX7_turnings_65 : decode cX7_turnings 65 = .ok (.iload_n 2, 1) := by decide +kernel
theorem dX7_turnings_66 : decode cX7_turnings 66 = .ok (.iastore, 1) := by decide +kernel
theorem dX7_turnings_67 : decode cX7_turnings 67 = .ok (.iload_n 3, 1) := by decide +kernel
theorem dX7_turnings_68 : decode cX7_turnings 68 = .ok (.ireturn, 1) := by decide +kernel
theorem dX7_kinds_0 : decode cX7_kinds 0 = .ok (.aload_n 0, 1) := by decide +kernel
theorem dX7_kinds_1 : decode cX7_kinds 1 = .ok (.iload_n 1, 1) := by decide +kernel
theorem dX7_kinds_2 : decode cX7_kinds 2 = .ok (.invokevirtual 133, 3) := by decide +kernel
theorem dX7_kinds_5 : decode cX7_kinds 5 = .ok (.ifCond .ne 5, 3) := by decide +kernel
theorem dX7_kinds_8 : decode cX7_kinds 8 = .ok (.iconst (-1), 1) := by decide +kernel
theorem dX7_kinds_9 : decode cX7_kinds 9 = .ok (.ireturn, 1) := by decide +kernel
theorem dX7_kinds_10 : decode cX7_kinds 10 = .ok (.aload_n 0, 1) := by decide +kernel
theorem dX7_kinds_11 : decode cX7_kinds 11 = .ok (.getfield 25, 3) := by decide +kernel
theorem dX7_kinds_14 : decode cX7_kinds 14 = .ok (.iload_n 1, 1) := by decide +kernel
theorem dX7_kinds_15 : decode cX7_kinds 15 = .ok (.iaload, 1) := by decide +kernel
theorem dX7_kinds_16 : decode cX7_kinds 16 = .ok (.istore_n 2, 1) := by decide +kernel
theorem dX7_kinds_17 : decode cX7_kinds 17 = .ok (.iconst 0, 1) := by decide +kernel
theorem dX7_kinds_18 : decode cX7_kinds 18 = .ok (.istore_n 3, 1) := by decide +kernel
theorem dX7_kinds_19 : decode cX7_kinds 19 = .ok (.iconst 0, 1) := by decide +kernel
theorem dX7_kinds_20 : decode cX7_kinds 20 = .ok (.istore 4, 2) := by decide +kernel
theorem dX7_kinds_22 : decode cX7_kinds 22 = .ok (.iload 4, 2) := by decide +kernel
theorem dX7_kinds_24 : decode cX7_kinds 24 = .ok (.iconst 3, 1) := by decide +kernel
theorem dX7_kinds_25 : decode cX7_kinds 25 = .ok (.if_icmp .ge 35, 3) := by decide +kernel
theorem dX7_kinds_28 : decode cX7_kinds 28 = .ok (.aload_n 0, 1) := by decide +kernel
theorem dX7_kinds_29 : decode cX7_kinds 29 = .ok (.getfield 25, 3) := by decide +kernel
theorem dX7_kinds_32 : decode cX7_kinds 32 = .ok (.iload_n 1, 1) := by decide +kernel
theorem dX7_kinds_33 : decode cX7_kinds 33 = .ok (.iload 4, 2) := by decide +kernel
theorem dX7_kinds_35 : decode cX7_kinds 35 = .ok (.iastore, 1) := by decide +kernel
theorem dX7_kinds_36 : decode cX7_kinds 36 = .ok (.iload_n 3, 1) := by decide +kernel
theorem dX7_kinds_37 : decode cX7_kinds 37 = .ok (.aload_n 0, 1) := by decide +kernel
theorem dX7_kinds_38 : decode cX7_kinds 38 = .ok (.invokevirtual 194, 3) := by decide +kernel
theorem dX7_kinds_41 : decode cX7_kinds 41 = .ok (.ifCond .eq 10, 3) := by decide +kernel
theorem dX7_kinds_44 : decode cX7_kinds 44 = .ok (.iconst 1, 1) := by decide +kernel
theorem dX7_kinds_45 : decode cX7_kinds 45 = .ok (.iload 4, 2) := by decide +kernel
theorem dX7_kinds_47 : decode cX7_kinds 47 = .ok (.ishl, 1) := by decide +kernel
theorem dX7_kinds_48 : decode cX7_kinds 48 = .ok (.goto 4, 3) := by decide +kernel
theorem dX7_kinds_51 : decode cX7_kinds 51 = .ok (.iconst 0, 1) := by decide +kernel
theorem dX7_kinds_52 : decode cX7_kinds 52 = .ok (.ior, 1) := by decide +kernel
theorem dX7_kinds_53 : decode cX7_kinds 53 = .ok (.istore_n 3, 1) := by decide +kernel
theorem dX7_kinds_54 : decode cX7_kinds 54 = .ok (.iinc 4 1, 3) := by decide +kernel
theorem dX7_kinds_57 : decode cX7_kinds 57 = .ok (.goto (-35), 3) := by decide +kernel
theorem dX7_kinds_60 : decode cX7_kinds 60 = .ok (.aload_n 0, 1) := by decide +kernel
theorem dX7_kinds_61 : decode cX7_kinds 61 = .ok (.getfield 25, 3) := by decide +kernel
theorem dX7_kinds_64 : decode cX7_kinds 64 = .ok (.iload_n 1, 1) := by decide +kernel
theorem dX7_kinds_65 : decode cX7_kinds 65 = .ok (.iload_n 2, 1) := by decide +kernel
theorem dX7_kinds_66 : decode cX7_kinds 66 = .ok (.iastore, 1) := by decide +kernel
theorem dX7_kinds_67 : decode cX7_kinds 67 = .ok (.iload_n 3, 1) := by decide +kernel
theorem dX7_kinds_68 : decode cX7_kinds 68 = .ok (.ireturn, 1) := by decide +kernel
theorem dX7_shadings_0 : decode cX7_shadings 0 = .ok (.aload_n 0, 1) := by decide +kernel
theorem dX7_shadings_1 : decode cX7_shadings 1 = .ok (.iload_n 1, 1) := by decide +kernel
theorem dX7_shadings_2 : decode cX7_shadings 2 = .ok (.invokevirtual 127, 3) := by decide +kernel
theorem dX7_shadings_5 : decode cX7_shadings 5 = .ok (.ifCond .ne 5, 3) := by decide +kernel
theorem dX7_shadings_8 : decode cX7_shadings 8 = .ok (.iconst (-1), 1) := by decide +kernel
theorem dX7_shadings_9 : decode cX7_shadings 9 = .ok (.ireturn, 1) := by decide +kernel
theorem dX7_shadings_10 : decode cX7_shadings 10 = .ok (.aload_n 0, 1) := by decide +kernel
theorem dX7_shadings_11 : decode cX7_shadings 11 = .ok (.getfield 19, 3) := by decide +kernel
theorem dX7_shadings_14 : decode cX7_shadings 14 = .ok (.iload_n 1, 1) := by decide +kernel
theorem dX7_shadings_15 : decode cX7_shadings 15 = .ok (.iaload, 1) := by decide +kernel
theorem dX7_shadings_16 : decode cX7_shadings 16 = .ok (.istore_n 2, 1) := by decide +kernel
theorem dX7_shadings_17 : decode cX7_shadings 17 = .ok (.iconst 0, 1) := by decide +kernel
theorem dX7_shadings_18 : decode cX7_shadings 18 = .ok (.istore_n 3, 1) := by decide +kernel
theorem dX7_shadings_19 : decode cX7_shadings 19 = .ok (.iconst 2, 1) := by decide +kernel
theorem dX7_shadings_20 : decode cX7_shadings 20 = .ok (.istore 4, 2) := by decide +kernel
theorem dX7_shadings_22 : decode cX7_shadings 22 = .ok (.iload 4, 2) := by decide +kernel
theorem dX7_shadings_24 : decode cX7_shadings 24 = .ok (.iconst 5, 1) := by decide +kernel
theorem dX7_shadings_25 : decode cX7_shadings 25 = .ok (.if_icmp .gt 35, 3) := by decide +kernel
theorem dX7_shadings_28 : decode cX7_shadings 28 = .ok (.aload_n 0, 1) := by decide +kernel
theorem dX7_shadings_29 : decode cX7_shadings 29 = .ok (.getfield 19, 3) := by decide +kernel
theorem dX7_shadings_32 : decode cX7_shadings 32 = .ok (.iload_n 1, 1) := by decide +kernel
theorem dX7_shadings_33 : decode cX7_shadings 33 = .ok (.iload 4, 2) := by decide +kernel
theorem dX7_shadings_35 : decode cX7_shadings 35 = .ok (.iastore, 1) := by decide +kernel
theorem dX7_shadings_36 : decode cX7_shadings 36 = .ok (.iload_n 3, 1) := by decide +kernel
theorem dX7_shadings_37 : decode cX7_shadings 37 = .ok (.aload_n 0, 1) := by decide +kernel
theorem dX7_shadings_38 : decode cX7_shadings 38 = .ok (.invokevirtual 194, 3) := by decide +kernel
theorem dX7_shadings_41 : decode cX7_shadings 41 = .ok (.ifCond .eq 10, 3) := by decide +kernel
theorem dX7_shadings_44 : decode cX7_shadings 44 = .ok (.iconst 1, 1) := by decide +kernel
theorem dX7_shadings_45 : decode cX7_shadings 45 = .ok (.iload 4, 2) := by decide +kernel
theorem dX7_shadings_47 : decode cX7_shadings 47 = .ok (.ishl, 1) := by decide +kernel
theorem dX7_shadings_48 : decode cX7_shadings 48 = .ok (.goto 4, 3) := by decide +kernel
theorem dX7_shadings_51 : decode cX7_shadings 51 = .ok (.iconst 0, 1) := by decide +kernel
theorem dX7_shadings_52 : decode cX7_shadings 52 = .ok (.ior, 1) := by decide +kernel
theorem dX7_shadings_53 : decode cX7_shadings 53 = .ok (.istore_n 3, 1) := by decide +kernel
theorem dX7_shadings_54 : decode cX7_shadings 54 = .ok (.iinc 4 1, 3) := by decide +kernel
theorem dX7_shadings_57 : decode cX7_shadings 57 = .ok (.goto (-35), 3) := by decide +kernel
theorem dX7_shadings_60 : decode cX7_shadings 60 = .ok (.aload_n 0, 1) := by decide +kernel
theorem dX7_shadings_61 : decode cX7_shadings 61 = .ok (.getfield 19, 3) := by decide +kernel
theorem dX7_shadings_64 : decode cX7_shadings 64 = .ok (.iload_n 1, 1) := by decide +kernel
theorem dX7_shadings_65 : decode cX7_shadings 65 = .ok (.iload_n 2, 1) := by decide +kernel
theorem dX7_shadings_66 : decode cX7_shadings 66 = .ok (.iastore, 1) := by decide +kernel
theorem dX7_shadings_67 : decode cX7_shadings 67 = .ok (.iload_n 3, 1) := by decide +kernel
theorem dX7_shadings_68 : decode cX7_shadings 68 = .ok (.ireturn, 1) := by decide +kernel
theorem dX7_inLeastTerms_0 : decode cX7_inLeastTerms 0 = .ok (.lload_n 0, 1) := by decide +kernel
theorem dX7_inLeastTerms_1 : decode cX7_inLeastTerms 1 = .ok (.lstore 5, 2) := by decide +kernel
theorem dX7_inLeastTerms_3 : decode cX7_inLeastTerms 3 = .ok (.lload_n 2, 1) := by decide +kernel
theorem dX7_inLeastTerms_4 : decode cX7_inLeastTerms 4 = .ok (.lstore 7, 2) := by decide +kernel
theorem dX7_inLeastTerms_6 : decode cX7_inLeastTerms 6 = .ok (.lload 7, 2) := by decide +kernel
theorem dX7_inLeastTerms_8 : decode cX7_inLeastTerms 8 = .ok (.lconst 0, 1) := by decide +kernel
theorem dX7_inLeastTerms_9 : decode cX7_inLeastTerms 9 = .ok (.lcmp, 1) := by decide +kernel
theorem dX7_inLeastTerms_10 : decode cX7_inLeastTerms 10 = .ok (.ifCond .eq 21, 3) := by decide +kernel
theorem dX7_inLeastTerms_13 : decode cX7_inLeastTerms 13 = .ok (.lload 5, 2) := by decide +kernel
theorem dX7_inLeastTerms_15 : decode cX7_inLeastTerms 15 = .ok (.lload 7, 2) := by decide +kernel
theorem dX7_inLeastTerms_17 : decode cX7_inLeastTerms 17 = .ok (.lrem, 1) := by decide +kernel
theorem dX7_inLeastTerms_18 : decode cX7_inLeastTerms 18 = .ok (.lstore 9, 2) := by decide +kernel
theorem dX7_inLeastTerms_20 : decode cX7_inLeastTerms 20 = .ok (.lload 7, 2) := by decide +kernel
theorem dX7_inLeastTerms_22 : decode cX7_inLeastTerms 22 = .ok (.lstore 5, 2) := by decide +kernel
theorem dX7_inLeastTerms_24 : decode cX7_inLeastTerms 24 = .ok (.lload 9, 2) := by decide +kernel
theorem dX7_inLeastTerms_26 : decode cX7_inLeastTerms 26 = .ok (.lstore 7, 2) := by decide +kernel
theorem dX7_inLeastTerms_28 : decode cX7_inLeastTerms 28 = .ok (.goto (-22), 3) := by decide +kernel
theorem dX7_inLeastTerms_31 : decode cX7_inLeastTerms 31 = .ok (.iload 4, 2) := by decide +kernel
theorem dX7_inLeastTerms_33 : decode cX7_inLeastTerms 33 = .ok (.ifCond .ne 10, 3) := by decide +kernel
theorem dX7_inLeastTerms_36 : decode cX7_inLeastTerms 36 = .ok (.lload_n 0, 1) := by decide +kernel
theorem dX7_inLeastTerms_37 : decode cX7_inLeastTerms 37 = .ok (.lload 5, 2) := by decide +kernel
theorem dX7_inLeastTerms_39 : decode cX7_inLeastTerms 39 = .ok (.ldiv, 1) := by decide +kernel
theorem dX7_inLeastTerms_40 : decode cX7_inLeastTerms 40 = .ok (.goto 7, 3) := by decide +kernel
theorem dX7_inLeastTerms_43 : decode cX7_inLeastTerms 43 = .ok (.lload_n 2, 1) := by decide +kernel
theorem dX7_inLeastTerms_44 : decode cX7_inLeastTerms 44 = .ok (.lload 5, 2) := by decide +kernel
theorem dX7_inLeastTerms_46 : decode cX7_inLeastTerms 46 = .ok (.ldiv, 1) := by decide +kernel
theorem dX7_inLeastTerms_47 : decode cX7_inLeastTerms 47 = .ok (.lreturn, 1) := by decide +kernel
theorem dX7_odds_0 : decode cX7_odds 0 = .ok (.iload_n 1, 1) := by decide +kernel
theorem dX7_odds_1 : decode cX7_odds 1 = .ok (.iconst 0, 1) := by decide +kernel
theorem dX7_odds_2 : decode cX7_odds 2 = .ok (.iconst 4, 1) := by decide +kernel
theorem dX7_odds_3 : decode cX7_odds 3 = .ok (.invokestatic 67, 3) := by decide +kernel
theorem dX7_odds_6 : decode cX7_odds 6 = .ok (.ifCond .eq 19, 3) := by decide +kernel
theorem dX7_odds_9 : decode cX7_odds 9 = .ok (.iload_n 2, 1) := by decide +kernel
theorem dX7_odds_10 : decode cX7_odds 10 = .ok (.iconst 0, 1) := by decide +kernel
theorem dX7_odds_11 : decode cX7_odds 11 = .ok (.iconst 1, 1) := by decide +kernel
theorem dX7_odds_12 : decode cX7_odds 12 = .ok (.invokestatic 67, 3) := by decide +kernel
theorem dX7_odds_15 : decode cX7_odds 15 = .ok (.ifCond .eq 10, 3) := by decide +kernel
theorem dX7_odds_18 : decode cX7_odds 18 = .ok (.aload_n 0, 1) := by decide +kernel
theorem dX7_odds_19 : decode cX7_odds 19 = .ok (.getfield 71, 3) := by decide +kernel
theorem dX7_odds_22 : decode cX7_odds 22 = .ok (.ifCond .ne 7, 3) := by decide +kernel
theorem dX7_odds_25 : decode cX7_odds 25 = .ok (.ldc2_w 65, 3) := by decide +kernel
theorem dX7_odds_28 : decode cX7_odds 28 = .ok (.lreturn, 1) := by decide +kernel
theorem dX7_odds_29 : decode cX7_odds 29 = .ok (.iconst 1, 1) := by decide +kernel
theorem dX7_odds_30 : decode cX7_odds 30 = .ok (.istore_n 3, 1) := by decide +kernel
theorem dX7_odds_31 : decode cX7_odds 31 = .ok (.iconst 0, 1) := by decide +kernel
theorem dX7_odds_32 : decode cX7_odds 32 = .ok (.istore 4, 2) := by decide +kernel
theorem dX7_odds_34 : decode cX7_odds 34 = .ok (.iload 4, 2) := by decide +kernel
theorem dX7_odds_36 : decode cX7_odds 36 = .ok (.iload_n 1, 1) := by decide +kernel
theorem dX7_odds_37 : decode cX7_odds 37 = .ok (.if_icmp .ge 16, 3) := by decide +kernel
theorem dX7_odds_40 : decode cX7_odds 40 = .ok (.iload_n 3, 1) := by decide +kernel
theorem dX7_odds_41 : decode cX7_odds 41 = .ok (.aload_n 0, 1) := by decide +kernel
theorem dX7_odds_42 : decode cX7_odds 42 = .ok (.getfield 74, 3) := by decide +kernel
theorem dX7_odds_45 : decode cX7_odds 45 = .ok (.imul, 1) := by decide +kernel
theorem dX7_odds_46 : decode cX7_odds 46 = .ok (.istore_n 3, 1) := by decide +kernel
theorem dX7_odds_47 : decode cX7_odds 47 = .ok (.iinc 4 1, 3) := by decide +kernel
theorem dX7_odds_50 : decode cX7_odds 50 = .ok (.goto (-16), 3) := by decide +kernel
theorem dX7_odds_53 : decode cX7_odds 53 = .ok (.iconst 0, 1) := by decide +kernel
theorem dX7_odds_54 : decode cX7_odds 54 = .ok (.istore 4, 2) := by decide +kernel
theorem dX7_odds_56 : decode cX7_odds 56 = .ok (.aload_n 0, 1) := by decide +kernel
theorem dX7_odds_57 : decode cX7_odds 57 = .ok (.invokevirtual 160, 3) := by decide +kernel
theorem dX7_odds_60 : decode cX7_odds 60 = .ok (.iconst 0, 1) := by decide +kernel
theorem dX7_odds_61 : decode cX7_odds 61 = .ok (.istore 5, 2) := by decide +kernel
theorem dX7_odds_63 : decode cX7_odds 63 = .ok (.iload 5, 2) := by decide +kernel
theorem dX7_odds_65 : decode cX7_odds 65 = .ok (.iload_n 3, 1) := by decide +kernel
theorem dX7_odds_66 : decode cX7_odds 66 = .ok (.if_icmp .ge 74, 3) := by decide +kernel
theorem dX7_odds_69 : decode cX7_odds 69 = .ok (.iload 5, 2) := by decide +kernel
theorem dX7_odds_71 : decode cX7_odds 71 = .ok (.istore 6, 2) := by decide +kernel
theorem dX7_odds_73 : decode cX7_odds 73 = .ok (.iconst 0, 1) := by decide +kernel
theorem dX7_odds_74 : decode cX7_odds 74 = .ok (.istore 7, 2) := by decide +kernel
theorem dX7_odds_76 : decode cX7_odds 76 = .ok (.iload 7, 2) := by decide +kernel
theorem dX7_odds_78 : decode cX7_odds 78 = .ok (.iload_n 1, 1) := by decide +kernel
theorem dX7_odds_79 : decode cX7_odds 79 = .ok (.if_icmp .ge 30, 3) := by decide +kernel
theorem dX7_odds_82 : decode cX7_odds 82 = .ok (.aload_n 0, 1) := by decide +kernel
theorem dX7_odds_83 : decode cX7_odds 83 = .ok (.iload 6, 2) := by decide +kernel
theorem dX7_odds_85 : decode cX7_odds 85 = .ok (.aload_n 0, 1) := by decide +kernel
theorem dX7_odds_86 : decode cX7_odds 86 = .ok (.getfield 74, 3) := by decide +kernel
theorem dX7_odds_89 : decode cX7_odds 89 = .ok (.irem, 1) := by decide +kernel
theorem dX7_odds_90 : decode cX7_odds 90 = .ok (.iconst 1, 1) := by decide +kernel
theorem dX7_odds_91 : decode cX7_odds 91 = .ok (.invokevirtual 139, 3) := by decide +kernel
theorem dX7_odds_94 : decode cX7_odds 94 = .ok (.iload 6, 2) := by decide +kernel
theorem dX7_odds_96 : decode cX7_odds 96 = .ok (.aload_n 0, 1) := by decide +kernel
theorem dX7_odds_97 : decode cX7_odds 97 = .ok (.getfield 74, 3) := by decide +kernel
theorem dX7_odds_100 : decode cX7_odds 100 = .ok (.idiv, 1) := by decide +kernel
theorem dX7_odds_101 : decode cX7_odds 101 = .ok (.istore 6, 2) := by decide +kernel
end
section
theorem dX7_odds_103 : decode cX7_odds 103 = .ok (.iinc 7 1, 3) := by decide +kernel
theorem dX7_odds_106 : decode cX7_odds 106 = .ok (.goto (-30), 3) := by decide +kernel
theorem dX7_odds_109 : decode cX7_odds 109 = .ok (.iload 4, 2) := by decide +kernel
theorem dX7_odds_111 : decode cX7_odds 111 = .ok (.aload_n 0, 1) := by decide +kernel
theorem dX7_odds_112 : decode cX7_odds 112 = .ok (.invokevirtual 143, 3) := by decide +kernel
theorem dX7_odds_115 : decode cX7_odds 115 = .ok (.aload_n 0, 1) := by decide +kernel
theorem dX7_odds_116 : decode cX7_odds 116 = .ok (.getfield 71, 3) := by decide +kernel
theorem dX7_odds_119 : decode cX7_odds 119 = .ok (.if_icmp .ne 7, 3) := by decide +kernel
theorem dX7_odds_122 : decode cX7_odds 122 = .ok (.iconst 1, 1) := by decide +kernel
theorem dX7_odds_123 : decode cX7_odds 123 = .ok (.goto 4, 3) := by decide +kernel
theorem dX7_odds_126 : decode cX7_odds 126 = .ok (.iconst 0, 1) := by decide +kernel
theorem dX7_odds_127 : decode cX7_odds 127 = .ok (.iadd, 1) := by decide +kernel
theorem dX7_odds_128 : decode cX7_odds 128 = .ok (.istore 4, 2) := by decide +kernel
theorem dX7_odds_130 : decode cX7_odds 130 = .ok (.aload_n 0, 1) := by decide +kernel
theorem dX7_odds_131 : decode cX7_odds 131 = .ok (.invokevirtual 169, 3) := by decide +kernel
theorem dX7_odds_134 : decode cX7_odds 134 = .ok (.iinc 5 1, 3) := by decide +kernel
theorem dX7_odds_137 : decode cX7_odds 137 = .ok (.goto (-74), 3) := by decide +kernel
theorem dX7_odds_140 : decode cX7_odds 140 = .ok (.iload 4, 2) := by decide +kernel
theorem dX7_odds_142 : decode cX7_odds 142 = .ok (.i2l, 1) := by decide +kernel
theorem dX7_odds_143 : decode cX7_odds 143 = .ok (.iload_n 3, 1) := by decide +kernel
theorem dX7_odds_144 : decode cX7_odds 144 = .ok (.i2l, 1) := by decide +kernel
theorem dX7_odds_145 : decode cX7_odds 145 = .ok (.iload_n 2, 1) := by decide +kernel
theorem dX7_odds_146 : decode cX7_odds 146 = .ok (.invokestatic 198, 3) := by decide +kernel
theorem dX7_odds_149 : decode cX7_odds 149 = .ok (.lreturn, 1) := by decide +kernel
theorem dX7_sheet_0 : decode cX7_sheet 0 = .ok (.aload_n 0, 1) := by decide +kernel
theorem dX7_sheet_1 : decode cX7_sheet 1 = .ok (.iconst 0, 1) := by decide +kernel
theorem dX7_sheet_2 : decode cX7_sheet 2 = .ok (.putfield 61, 3) := by decide +kernel
theorem dX7_sheet_5 : decode cX7_sheet 5 = .ok (.iload_n 1, 1) := by decide +kernel
theorem dX7_sheet_6 : decode cX7_sheet 6 = .ok (.invokestatic 80, 3) := by decide +kernel
theorem dX7_sheet_9 : decode cX7_sheet 9 = .ok (.ifCond .ne 5, 3) := by decide +kernel
theorem dX7_sheet_12 : decode cX7_sheet 12 = .ok (.iconst (-1), 1) := by decide +kernel
theorem dX7_sheet_13 : decode cX7_sheet 13 = .ok (.ireturn, 1) := by decide +kernel
theorem dX7_sheet_14 : decode cX7_sheet 14 = .ok (.iload_n 2, 1) := by decide +kernel
theorem dX7_sheet_15 : decode cX7_sheet 15 = .ok (.invokestatic 84, 3) := by decide +kernel
theorem dX7_sheet_18 : decode cX7_sheet 18 = .ok (.ifCond .eq 9, 3) := by decide +kernel
theorem dX7_sheet_21 : decode cX7_sheet 21 = .ok (.iload_n 3, 1) := by decide +kernel
theorem dX7_sheet_22 : decode cX7_sheet 22 = .ok (.bipush 60, 2) := by decide +kernel
theorem dX7_sheet_24 : decode cX7_sheet 24 = .ok (.if_icmp .le 6, 3) := by decide +kernel
theorem dX7_sheet_27 : decode cX7_sheet 27 = .ok (.bipush (-2), 2) := by decide +kernel
theorem dX7_sheet_29 : decode cX7_sheet 29 = .ok (.ireturn, 1) := by decide +kernel
theorem dX7_sheet_30 : decode cX7_sheet 30 = .ok (.iload_n 3, 1) := by decide +kernel
theorem dX7_sheet_31 : decode cX7_sheet 31 = .ok (.ifCond .ge 9, 3) := by decide +kernel
theorem dX7_sheet_34 : decode cX7_sheet 34 = .ok (.aload_n 0, 1) := by decide +kernel
theorem dX7_sheet_35 : decode cX7_sheet 35 = .ok (.iconst 4, 1) := by decide +kernel
theorem dX7_sheet_36 : decode cX7_sheet 36 = .ok (.invokevirtual 91, 3) := by decide +kernel
theorem dX7_sheet_39 : decode cX7_sheet 39 = .ok (.ireturn, 1) := by decide +kernel
theorem dX7_sheet_40 : decode cX7_sheet 40 = .ok (.aload_n 0, 1) := by decide +kernel
theorem dX7_sheet_41 : decode cX7_sheet 41 = .ok (.getfield 9, 3) := by decide +kernel
theorem dX7_sheet_44 : decode cX7_sheet 44 = .ok (.iload_n 1, 1) := by decide +kernel
theorem dX7_sheet_45 : decode cX7_sheet 45 = .ok (.iload_n 2, 1) := by decide +kernel
theorem dX7_sheet_46 : decode cX7_sheet 46 = .ok (.iastore, 1) := by decide +kernel
theorem dX7_sheet_47 : decode cX7_sheet 47 = .ok (.aload_n 0, 1) := by decide +kernel
theorem dX7_sheet_48 : decode cX7_sheet 48 = .ok (.getfield 13, 3) := by decide +kernel
theorem dX7_sheet_51 : decode cX7_sheet 51 = .ok (.iload_n 1, 1) := by decide +kernel
theorem dX7_sheet_52 : decode cX7_sheet 52 = .ok (.iload_n 3, 1) := by decide +kernel
theorem dX7_sheet_53 : decode cX7_sheet 53 = .ok (.iastore, 1) := by decide +kernel
theorem dX7_sheet_54 : decode cX7_sheet 54 = .ok (.iconst 0, 1) := by decide +kernel
theorem dX7_sheet_55 : decode cX7_sheet 55 = .ok (.istore 4, 2) := by decide +kernel
theorem dX7_sheet_57 : decode cX7_sheet 57 = .ok (.iload 4, 2) := by decide +kernel
theorem dX7_sheet_59 : decode cX7_sheet 59 = .ok (.bipush 60, 2) := by decide +kernel
theorem dX7_sheet_61 : decode cX7_sheet 61 = .ok (.if_icmp .ge 22, 3) := by decide +kernel
theorem dX7_sheet_64 : decode cX7_sheet 64 = .ok (.aload_n 0, 1) := by decide +kernel
theorem dX7_sheet_65 : decode cX7_sheet 65 = .ok (.getfield 16, 3) := by decide +kernel
theorem dX7_sheet_68 : decode cX7_sheet 68 = .ok (.bipush 60, 2) := by decide +kernel
theorem dX7_sheet_70 : decode cX7_sheet 70 = .ok (.iload_n 1, 1) := by decide +kernel
theorem dX7_sheet_71 : decode cX7_sheet 71 = .ok (.imul, 1) := by decide +kernel
theorem dX7_sheet_72 : decode cX7_sheet 72 = .ok (.iload 4, 2) := by decide +kernel
theorem dX7_sheet_74 : decode cX7_sheet 74 = .ok (.iadd, 1) := by decide +kernel
theorem dX7_sheet_75 : decode cX7_sheet 75 = .ok (.iconst 0, 1) := by decide +kernel
theorem dX7_sheet_76 : decode cX7_sheet 76 = .ok (.iastore, 1) := by decide +kernel
theorem dX7_sheet_77 : decode cX7_sheet 77 = .ok (.iinc 4 1, 3) := by decide +kernel
theorem dX7_sheet_80 : decode cX7_sheet 80 = .ok (.goto (-23), 3) := by decide +kernel
theorem dX7_sheet_83 : decode cX7_sheet 83 = .ok (.iconst 1, 1) := by decide +kernel
theorem dX7_sheet_84 : decode cX7_sheet 84 = .ok (.ireturn, 1) := by decide +kernel
theorem dX7_lose_0 : decode cX7_lose 0 = .ok (.iload_n 1, 1) := by decide +kernel
theorem dX7_lose_1 : decode cX7_lose 1 = .ok (.invokestatic 80, 3) := by decide +kernel
theorem dX7_lose_4 : decode cX7_lose 4 = .ok (.ifCond .ne 5, 3) := by decide +kernel
theorem dX7_lose_7 : decode cX7_lose 7 = .ok (.iconst (-1), 1) := by decide +kernel
theorem dX7_lose_8 : decode cX7_lose 8 = .ok (.ireturn, 1) := by decide +kernel
theorem dX7_lose_9 : decode cX7_lose 9 = .ok (.aload_n 0, 1) := by decide +kernel
theorem dX7_lose_10 : decode cX7_lose 10 = .ok (.getfield 9, 3) := by decide +kernel
theorem dX7_lose_13 : decode cX7_lose 13 = .ok (.iload_n 1, 1) := by decide +kernel
theorem dX7_lose_14 : decode cX7_lose 14 = .ok (.iaload, 1) := by decide +kernel
theorem dX7_lose_15 : decode cX7_lose 15 = .ok (.bipush (-9), 2) := by decide +kernel
theorem dX7_lose_17 : decode cX7_lose 17 = .ok (.if_icmp .ne 7, 3) := by decide +kernel
theorem dX7_lose_20 : decode cX7_lose 20 = .ok (.iconst 0, 1) := by decide +kernel
theorem dX7_lose_21 : decode cX7_lose 21 = .ok (.goto 4, 3) := by decide +kernel
theorem dX7_lose_24 : decode cX7_lose 24 = .ok (.iconst 1, 1) := by decide +kernel
theorem dX7_lose_25 : decode cX7_lose 25 = .ok (.istore_n 2, 1) := by decide +kernel
theorem dX7_lose_26 : decode cX7_lose 26 = .ok (.aload_n 0, 1) := by decide +kernel
theorem dX7_lose_27 : decode cX7_lose 27 = .ok (.getfield 9, 3) := by decide +kernel
theorem dX7_lose_30 : decode cX7_lose 30 = .ok (.iload_n 1, 1) := by decide +kernel
theorem dX7_lose_31 : decode cX7_lose 31 = .ok (.bipush (-9), 2) := by decide +kernel
theorem dX7_lose_33 : decode cX7_lose 33 = .ok (.iastore, 1) := by decide +kernel
theorem dX7_lose_34 : decode cX7_lose 34 = .ok (.iload_n 2, 1) := by decide +kernel
theorem dX7_lose_35 : decode cX7_lose 35 = .ok (.ireturn, 1) := by decide +kernel
theorem dX7_put_0 : decode cX7_put 0 = .ok (.aload_n 0, 1) := by decide +kernel
theorem dX7_put_1 : decode cX7_put 1 = .ok (.iconst 0, 1) := by decide +kernel
theorem dX7_put_2 : decode cX7_put 2 = .ok (.putfield 61, 3) := by decide +kernel
theorem dX7_put_5 : decode cX7_put 5 = .ok (.iload_n 1, 1) := by decide +kernel
theorem dX7_put_6 : decode cX7_put 6 = .ok (.invokestatic 80, 3) := by decide +kernel
theorem dX7_put_9 : decode cX7_put 9 = .ok (.ifCond .ne 5, 3) := by decide +kernel
theorem dX7_put_12 : decode cX7_put 12 = .ok (.iconst (-1), 1) := by decide +kernel
theorem dX7_put_13 : decode cX7_put 13 = .ok (.ireturn, 1) := by decide +kernel
theorem dX7_put_14 : decode cX7_put 14 = .ok (.aload_n 0, 1) := by decide +kernel
theorem dX7_put_15 : decode cX7_put 15 = .ok (.getfield 9, 3) := by decide +kernel
theorem dX7_put_18 : decode cX7_put 18 = .ok (.iload_n 1, 1) := by decide +kernel
theorem dX7_put_19 : decode cX7_put 19 = .ok (.iaload, 1) := by decide +kernel
theorem dX7_put_20 : decode cX7_put 20 = .ok (.bipush (-9), 2) := by decide +kernel
theorem dX7_put_22 : decode cX7_put 22 = .ok (.if_icmp .ne 9, 3) := by decide +kernel
theorem dX7_put_25 : decode cX7_put 25 = .ok (.aload_n 0, 1) := by decide +kernel
theorem dX7_put_26 : decode cX7_put 26 = .ok (.iconst 1, 1) := by decide +kernel
theorem dX7_put_27 : decode cX7_put 27 = .ok (.invokevirtual 91, 3) := by decide +kernel
theorem dX7_put_30 : decode cX7_put 30 = .ok (.ireturn, 1) := by decide +kernel
theorem dX7_put_31 : decode cX7_put 31 = .ok (.iload_n 2, 1) := by decide +kernel
theorem dX7_put_32 : decode cX7_put 32 = .ok (.iconst 0, 1) := by decide +kernel
theorem dX7_put_33 : decode cX7_put 33 = .ok (.aload_n 0, 1) := by decide +kernel
theorem dX7_put_34 : decode cX7_put 34 = .ok (.getfield 13, 3) := by decide +kernel
theorem dX7_put_37 : decode cX7_put 37 = .ok (.iload_n 1, 1) := by decide +kernel
theorem dX7_put_38 : decode cX7_put 38 = .ok (.iaload, 1) := by decide +kernel
theorem dX7_put_39 : decode cX7_put 39 = .ok (.iconst 1, 1) := by decide +kernel
theorem dX7_put_40 : decode cX7_put 40 = .ok (.isub, 1) := by decide +kernel
theorem dX7_put_41 : decode cX7_put 41 = .ok (.invokestatic 67, 3) := by decide +kernel
theorem dX7_put_44 : decode cX7_put 44 = .ok (.ifCond .ne 9, 3) := by decide +kernel
theorem dX7_put_47 : decode cX7_put 47 = .ok (.aload_n 0, 1) := by decide +kernel
theorem dX7_put_48 : decode cX7_put 48 = .ok (.iconst 3, 1) := by decide +kernel
theorem dX7_put_49 : decode cX7_put 49 = .ok (.invokevirtual 91, 3) := by decide +kernel
theorem dX7_put_52 : decode cX7_put 52 = .ok (.ireturn, 1) := by decide +kernel
theorem dX7_put_53 : decode cX7_put 53 = .ok (.aload_n 0, 1) := by decide +kernel
theorem dX7_put_54 : decode cX7_put 54 = .ok (.getfield 16, 3) := by decide +kernel
theorem dX7_put_57 : decode cX7_put 57 = .ok (.bipush 60, 2) := by decide +kernel
theorem dX7_put_59 : decode cX7_put 59 = .ok (.iload_n 1, 1) := by decide +kernel
theorem dX7_put_60 : decode cX7_put 60 = .ok (.imul, 1) := by decide +kernel
theorem dX7_put_61 : decode cX7_put 61 = .ok (.iload_n 2, 1) := by decide +kernel
theorem dX7_put_62 : decode cX7_put 62 = .ok (.iadd, 1) := by decide +kernel
theorem dX7_put_63 : decode cX7_put 63 = .ok (.aload_n 0, 1) := by decide +kernel
theorem dX7_put_64 : decode cX7_put 64 = .ok (.getfield 9, 3) := by decide +kernel
theorem dX7_put_67 : decode cX7_put 67 = .ok (.iload_n 1, 1) := by decide +kernel
theorem dX7_put_68 : decode cX7_put 68 = .ok (.iaload, 1) := by decide +kernel
theorem dX7_put_69 : decode cX7_put 69 = .ok (.ifCond .ne 8, 3) := by decide +kernel
theorem dX7_put_72 : decode cX7_put 72 = .ok (.iload_n 3, 1) := by decide +kernel
theorem dX7_put_73 : decode cX7_put 73 = .ok (.i2b, 1) := by decide +kernel
theorem dX7_put_74 : decode cX7_put 74 = .ok (.goto 19, 3) := by decide +kernel
theorem dX7_put_77 : decode cX7_put 77 = .ok (.aload_n 0, 1) := by decide +kernel
theorem dX7_put_78 : decode cX7_put 78 = .ok (.getfield 9, 3) := by decide +kernel
theorem dX7_put_81 : decode cX7_put 81 = .ok (.iload_n 1, 1) := by decide +kernel
theorem dX7_put_82 : decode cX7_put 82 = .ok (.iaload, 1) := by decide +kernel
theorem dX7_put_83 : decode cX7_put 83 = .ok (.iconst 1, 1) := by decide +kernel
theorem dX7_put_84 : decode cX7_put 84 = .ok (.if_icmp .ne 8, 3) := by decide +kernel
theorem dX7_put_87 : decode cX7_put 87 = .ok (.iload_n 3, 1) := by decide +kernel
theorem dX7_put_88 : decode cX7_put 88 = .ok (.i2s, 1) := by decide +kernel
theorem dX7_put_89 : decode cX7_put 89 = .ok (.goto 4, 3) := by decide +kernel
theorem dX7_put_92 : decode cX7_put 92 = .ok (.iload_n 3, 1) := by decide +kernel
theorem dX7_put_93 : decode cX7_put 93 = .ok (.iastore, 1) := by decide +kernel
theorem dX7_put_94 : decode cX7_put 94 = .ok (.iconst 1, 1) := by decide +kernel
theorem dX7_put_95 : decode cX7_put 95 = .ok (.ireturn, 1) := by decide +kernel
theorem dX7_cell_0 : decode cX7_cell 0 = .ok (.aload_n 0, 1) := by decide +kernel
theorem dX7_cell_1 : decode cX7_cell 1 = .ok (.iconst 0, 1) := by decide +kernel
theorem dX7_cell_2 : decode cX7_cell 2 = .ok (.putfield 61, 3) := by decide +kernel
theorem dX7_cell_5 : decode cX7_cell 5 = .ok (.iload_n 1, 1) := by decide +kernel
theorem dX7_cell_6 : decode cX7_cell 6 = .ok (.invokestatic 80, 3) := by decide +kernel
theorem dX7_cell_9 : decode cX7_cell 9 = .ok (.ifCond .eq 10, 3) := by decide +kernel
theorem dX7_cell_12 : decode cX7_cell 12 = .ok (.iload_n 3, 1) := by decide +kernel
theorem dX7_cell_13 : decode cX7_cell 13 = .ok (.invokestatic 84, 3) := by decide +kernel
theorem dX7_cell_16 : decode cX7_cell 16 = .ok (.ifCond .ne 7, 3) := by decide +kernel
theorem dX7_cell_19 : decode cX7_cell 19 = .ok (.ldc2_w 65, 3) := by decide +kernel
theorem dX7_cell_22 : decode cX7_cell 22 = .ok (.lreturn, 1) := by decide +kernel
theorem dX7_cell_23 : decode cX7_cell 23 = .ok (.aload_n 0, 1) := by decide +kernel
theorem dX7_cell_24 : decode cX7_cell 24 = .ok (.getfield 9, 3) := by decide +kernel
theorem dX7_cell_27 : decode cX7_cell 27 = .ok (.iload_n 1, 1) := by decide +kernel
theorem dX7_cell_28 : decode cX7_cell 28 = .ok (.iaload, 1) := by decide +kernel
theorem dX7_cell_29 : decode cX7_cell 29 = .ok (.bipush (-9), 2) := by decide +kernel
theorem dX7_cell_31 : decode cX7_cell 31 = .ok (.if_icmp .eq 19, 3) := by decide +kernel
theorem dX7_cell_34 : decode cX7_cell 34 = .ok (.aload_n 0, 1) := by decide +kernel
theorem dX7_cell_35 : decode cX7_cell 35 = .ok (.getfield 9, 3) := by decide +kernel
theorem dX7_cell_38 : decode cX7_cell 38 = .ok (.iload_n 1, 1) := by decide +kernel
theorem dX7_cell_39 : decode cX7_cell 39 = .ok (.iaload, 1) := by decide +kernel
theorem dX7_cell_40 : decode cX7_cell 40 = .ok (.iload_n 3, 1) := by decide +kernel
theorem dX7_cell_41 : decode cX7_cell 41 = .ok (.if_icmp .eq 9, 3) := by decide +kernel
theorem dX7_cell_44 : decode cX7_cell 44 = .ok (.aload_n 0, 1) := by decide +kernel
theorem dX7_cell_45 : decode cX7_cell 45 = .ok (.iconst 2, 1) := by decide +kernel
theorem dX7_cell_46 : decode cX7_cell 46 = .ok (.invokevirtual 202, 3) := by decide +kernel
theorem dX7_cell_49 : decode cX7_cell 49 = .ok (.lreturn, 1) := by decide +kernel
theorem dX7_cell_50 : decode cX7_cell 50 = .ok (.aload_n 0, 1) := by decide +kernel
theorem dX7_cell_51 : decode cX7_cell 51 = .ok (.getfield 9, 3) := by decide +kernel
theorem dX7_cell_54 : decode cX7_cell 54 = .ok (.iload_n 1, 1) := by decide +kernel
theorem dX7_cell_55 : decode cX7_cell 55 = .ok (.iaload, 1) := by decide +kernel
theorem dX7_cell_56 : decode cX7_cell 56 = .ok (.bipush (-9), 2) := by decide +kernel
theorem dX7_cell_58 : decode cX7_cell 58 = .ok (.if_icmp .ne 9, 3) := by decide +kernel
theorem dX7_cell_61 : decode cX7_cell 61 = .ok (.aload_n 0, 1) := by decide +kernel
theorem dX7_cell_62 : decode cX7_cell 62 = .ok (.iconst 1, 1) := by decide +kernel
theorem dX7_cell_63 : decode cX7_cell 63 = .ok (.invokevirtual 202, 3) := by decide +kernel
theorem dX7_cell_66 : decode cX7_cell 66 = .ok (.lreturn, 1) := by decide +kernel
theorem dX7_cell_67 : decode cX7_cell 67 = .ok (.iload_n 2, 1) := by decide +kernel
theorem dX7_cell_68 : decode cX7_cell 68 = .ok (.iconst 0, 1) := by decide +kernel
theorem dX7_cell_69 : decode cX7_cell 69 = .ok (.aload_n 0, 1) := by decide +kernel
theorem dX7_cell_70 : decode cX7_cell 70 = .ok (.getfield 13, 3) := by decide +kernel
theorem dX7_cell_73 : decode cX7_cell 73 = .ok (.iload_n 1, 1) := by decide +kernel
theorem dX7_cell_74 : decode cX7_cell 74 = .ok (.iaload, 1) := by decide +kernel
theorem dX7_cell_75 : decode cX7_cell 75 = .ok (.iconst 1, 1) := by decide +kernel
theorem dX7_cell_76 : decode cX7_cell 76 = .ok (.isub, 1) := by decide +kernel
theorem dX7_cell_77 : decode cX7_cell 77 = .ok (.invokestatic 67, 3) := by decide +kernel
theorem dX7_cell_80 : decode cX7_cell 80 = .ok (.ifCond .ne 9, 3) := by decide +kernel
theorem dX7_cell_83 : decode cX7_cell 83 = .ok (.aload_n 0, 1) := by decide +kernel
theorem dX7_cell_84 : decode cX7_cell 84 = .ok (.iconst 3, 1) := by decide +kernel
theorem dX7_cell_85 : decode cX7_cell 85 = .ok (.invokevirtual 202, 3) := by decide +kernel
theorem dX7_cell_88 : decode cX7_cell 88 = .ok (.lreturn, 1) := by decide +kernel
theorem dX7_cell_89 : decode cX7_cell 89 = .ok (.aload_n 0, 1) := by decide +kernel
theorem dX7_cell_90 : decode cX7_cell 90 = .ok (.getfield 16, 3) := by decide +kernel
theorem dX7_cell_93 : decode cX7_cell 93 = .ok (.bipush 60, 2) := by decide +kernel
theorem dX7_cell_95 : decode cX7_cell 95 = .ok (.iload_n 1, 1) := by decide +kernel
theorem dX7_cell_96 : decode cX7_cell 96 = .ok (.imul, 1) := by decide +kernel
theorem dX7_cell_97 : decode cX7_cell 97 = .ok (.iload_n 2, 1) := by decide +kernel
theorem dX7_cell_98 : decode cX7_cell 98 = .ok (.iadd, 1) := by decide +kernel
theorem dX7_cell_99 : decode cX7_cell 99 = .ok (.iaload, 1) := by decide +kernel
theorem dX7_cell_100 : decode cX7_cell 100 = .ok (.i2l, 1) := by decide +kernel
theorem dX7_cell_101 : decode cX7_cell 101 = .ok (.lreturn, 1) := by decide +kernel
theorem dX7_copy_0 : decode cX7_copy 0 = .ok (.aload_n 0, 1) := by decide +kernel
theorem dX7_copy_1 : decode cX7_copy 1 = .ok (.iconst 0, 1) := by decide +kernel
theorem dX7_copy_2 : decode cX7_copy 2 = .ok (.putfield 61, 3) := by decide +kernel
theorem dX7_copy_5 : decode cX7_copy 5 = .ok (.iload_n 1, 1) := by decide +kernel
theorem dX7_copy_6 : decode cX7_copy 6 = .ok (.invokestatic 80, 3) := by decide +kernel
theorem dX7_copy_9 : decode cX7_copy 9 = .ok (.ifCond .eq 10, 3) := by decide +kernel
theorem dX7_copy_12 : decode cX7_copy 12 = .ok (.iload_n 3, 1) := by decide +kernel
theorem dX7_copy_13 : decode cX7_copy 13 = .ok (.invokestatic 80, 3) := by decide +kernel
theorem dX7_copy_16 : decode cX7_copy 16 = .ok (.ifCond .ne 5, 3) := by decide +kernel
theorem dX7_copy_19 : decode cX7_copy 19 = .ok (.iconst (-1), 1) := by decide +kernel
theorem dX7_copy_20 : decode cX7_copy 20 = .ok (.ireturn, 1) := by decide +kernel
theorem dX7_copy_21 : decode cX7_copy 21 = .ok (.aload_n 0, 1) := by decide +kernel
theorem dX7_copy_22 : decode cX7_copy 22 = .ok (.getfield 9, 3) := by decide +kernel
theorem dX7_copy_25 : decode cX7_copy 25 = .ok (.iload_n 1, 1) := by decide +kernel
theorem dX7_copy_26 : decode cX7_copy 26 = .ok (.iaload, 1) := by decide +kernel
theorem dX7_copy_27 : decode cX7_copy 27 = .ok (.bipush (-9), 2) := by decide +kernel
theorem dX7_copy_29 : decode cX7_copy 29 = .ok (.if_icmp .eq 14, 3) := by decide +kernel
theorem dX7_copy_32 : decode cX7_copy 32 = .ok (.aload_n 0, 1) := by decide +kernel
theorem dX7_copy_33 : decode cX7_copy 33 = .ok (.getfield 9, 3) := by decide +kernel
theorem dX7_copy_36 : decode cX7_copy 36 = .ok (.iload_n 3, 1) := by decide +kernel
theorem dX7_copy_37 : decode cX7_copy 37 = .ok (.iaload, 1) := by decide +kernel
theorem dX7_copy_38 : decode cX7_copy 38 = .ok (.bipush (-9), 2) := by decide +kernel
theorem dX7_copy_40 : decode cX7_copy 40 = .ok (.if_icmp .ne 9, 3) := by decide +kernel
theorem dX7_copy_43 : decode cX7_copy 43 = .ok (.aload_n 0, 1) := by decide +kernel
theorem dX7_copy_44 : decode cX7_copy 44 = .ok (.iconst 1, 1) := by decide +kernel
theorem dX7_copy_45 : decode cX7_copy 45 = .ok (.invokevirtual 91, 3) := by decide +kernel
theorem dX7_copy_48 : decode cX7_copy 48 = .ok (.ireturn, 1) := by decide +kernel
theorem dX7_copy_49 : decode cX7_copy 49 = .ok (.aload_n 0, 1) := by decide +kernel
theorem dX7_copy_50 : decode cX7_copy 50 = .ok (.getfield 9, 3) := by decide +kernel
theorem dX7_copy_53 : decode cX7_copy 53 = .ok (.iload_n 1, 1) := by decide +kernel
theorem dX7_copy_54 : decode cX7_copy 54 = .ok (.iaload, 1) := by decide +kernel
theorem dX7_copy_55 : decode cX7_copy 55 = .ok (.aload_n 0, 1) := by decide +kernel
theorem dX7_copy_56 : decode cX7_copy 56 = .ok (.getfield 9, 3) := by decide +kernel
theorem dX7_copy_59 : decode cX7_copy 59 = .ok (.iload_n 3, 1) := by decide +kernel
theorem dX7_copy_60 : decode cX7_copy 60 = .ok (.iaload, 1) := by decide +kernel
theorem dX7_copy_61 : decode cX7_copy 61 = .ok (.if_icmp .eq 9, 3) := by decide +kernel
theorem dX7_copy_64 : decode cX7_copy 64 = .ok (.aload_n 0, 1) := by decide +kernel
theorem dX7_copy_65 : decode cX7_copy 65 = .ok (.iconst 2, 1) := by decide +kernel
theorem dX7_copy_66 : decode cX7_copy 66 = .ok (.invokevirtual 91, 3) := by decide +kernel
theorem dX7_copy_69 : decode cX7_copy 69 = .ok (.ireturn, 1) := by decide +kernel
theorem dX7_copy_70 : decode cX7_copy 70 = .ok (.iload_n 2, 1) := by decide +kernel
theorem dX7_copy_71 : decode cX7_copy 71 = .ok (.ifCond .lt 38, 3) := by decide +kernel
theorem dX7_copy_74 : decode cX7_copy 74 = .ok (.iload 4, 2) := by decide +kernel
theorem dX7_copy_76 : decode cX7_copy 76 = .ok (.ifCond .lt 33, 3) := by decide +kernel
theorem dX7_copy_79 : decode cX7_copy 79 = .ok (.iload 5, 2) := by decide +kernel
theorem dX7_copy_81 : decode cX7_copy 81 = .ok (.ifCond .lt 28, 3) := by decide +kernel
theorem dX7_copy_84 : decode cX7_copy 84 = .ok (.iload_n 2, 1) := by decide +kernel
theorem dX7_copy_85 : decode cX7_copy 85 = .ok (.aload_n 0, 1) := by decide +kernel
theorem dX7_copy_86 : decode cX7_copy 86 = .ok (.getfield 13, 3) := by decide +kernel
theorem dX7_copy_89 : decode cX7_copy 89 = .ok (.iload_n 1, 1) := by decide +kernel
theorem dX7_copy_90 : decode cX7_copy 90 = .ok (.iaload, 1) := by decide +kernel
theorem dX7_copy_91 : decode cX7_copy 91 = .ok (.if_icmp .gt 18, 3) := by decide +kernel
theorem dX7_copy_94 : decode cX7_copy 94 = .ok (.iload 4, 2) := by decide +kernel
theorem dX7_copy_96 : decode cX7_copy 96 = .ok (.aload_n 0, 1) := by decide +kernel
theorem dX7_copy_97 : decode cX7_copy 97 = .ok (.getfield 13, 3) := by decide +kernel
theorem dX7_copy_100 : decode cX7_copy 100 = .ok (.iload_n 3, 1) := by decide +kernel
theorem dX7_copy_101 : decode cX7_copy 101 = .ok (.iaload, 1) := by decide +kernel
theorem dX7_copy_102 : decode cX7_copy 102 = .ok (.if_icmp .gt 7, 3) := by decide +kernel
theorem dX7_copy_105 : decode cX7_copy 105 = .ok (.iconst 1, 1) := by decide +kernel
theorem dX7_copy_106 : decode cX7_copy 106 = .ok (.goto 4, 3) := by decide +kernel
theorem dX7_copy_109 : decode cX7_copy 109 = .ok (.iconst 0, 1) := by decide +kernel
theorem dX7_copy_110 : decode cX7_copy 110 = .ok (.istore 6, 2) := by decide +kernel
theorem dX7_copy_112 : decode cX7_copy 112 = .ok (.iload 6, 2) := by decide +kernel
theorem dX7_copy_114 : decode cX7_copy 114 = .ok (.ifCond .eq 30, 3) := by decide +kernel
theorem dX7_copy_117 : decode cX7_copy 117 = .ok (.iload 5, 2) := by decide +kernel
theorem dX7_copy_119 : decode cX7_copy 119 = .ok (.aload_n 0, 1) := by decide +kernel
theorem dX7_copy_120 : decode cX7_copy 120 = .ok (.getfield 13, 3) := by decide +kernel
theorem dX7_copy_123 : decode cX7_copy 123 = .ok (.iload_n 1, 1) := by decide +kernel
theorem dX7_copy_124 : decode cX7_copy 124 = .ok (.iaload, 1) := by decide +kernel
theorem dX7_copy_125 : decode cX7_copy 125 = .ok (.iload_n 2, 1) := by decide +kernel
theorem dX7_copy_126 : decode cX7_copy 126 = .ok (.isub, 1) := by decide +kernel
theorem dX7_copy_127 : decode cX7_copy 127 = .ok (.if_icmp .gt 17, 3) := by decide +kernel
theorem dX7_copy_130 : decode cX7_copy 130 = .ok (.iload 5, 2) := by decide +kernel
theorem dX7_copy_132 : decode cX7_copy 132 = .ok (.aload_n 0, 1) := by decide +kernel
theorem dX7_copy_133 : decode cX7_copy 133 = .ok (.getfield 13, 3) := by decide +kernel
theorem dX7_copy_136 : decode cX7_copy 136 = .ok (.iload_n 3, 1) := by decide +kernel
theorem dX7_copy_137 : decode cX7_copy 137 = .ok (.iaload, 1) := by decide +kernel
theorem dX7_copy_138 : decode cX7_copy 138 = .ok (.iload 4, 2) := by decide +kernel
theorem dX7_copy_140 : decode cX7_copy 140 = .ok (.isub, 1) := by decide +kernel
theorem dX7_copy_141 : decode cX7_copy 141 = .ok (.if_icmp .le 9, 3) := by decide +kernel
theorem dX7_copy_144 : decode cX7_copy 144 = .ok (.aload_n 0, 1) := by decide +kernel
theorem dX7_copy_145 : decode cX7_copy 145 = .ok (.iconst 3, 1) := by decide +kernel
theorem dX7_copy_146 : decode cX7_copy 146 = .ok (.invokevirtual 91, 3) := by decide +kernel
theorem dX7_copy_149 : decode cX7_copy 149 = .ok (.ireturn, 1) := by decide +kernel
theorem dX7_copy_150 : decode cX7_copy 150 = .ok (.iload_n 2, 1) := by decide +kernel
theorem dX7_copy_151 : decode cX7_copy 151 = .ok (.iload 4, 2) := by decide +kernel
theorem dX7_copy_153 : decode cX7_copy 153 = .ok (.if_icmp .ge 7, 3) := by decide +kernel
theorem dX7_copy_156 : decode cX7_copy 156 = .ok (.iconst 1, 1) := by decide +kernel
theorem dX7_copy_157 : decode cX7_copy 157 = .ok (.goto 4, 3) := by decide +kernel
theorem dX7_copy_160 : decode cX7_copy 160 = .ok (.iconst 0, 1) := by decide +kernel
theorem dX7_copy_161 : decode cX7_copy 161 = .ok (.istore 7, 2) := by decide +kernel
theorem dX7_copy_163 : decode cX7_copy 163 = .ok (.iconst 0, 1) := by decide +kernel
theorem dX7_copy_164 : decode cX7_copy 164 = .ok (.istore 8, 2) := by decide +kernel
theorem dX7_copy_166 : decode cX7_copy 166 = .ok (.iload 8, 2) := by decide +kernel
theorem dX7_copy_168 : decode cX7_copy 168 = .ok (.iload 5, 2) := by decide +kernel
theorem dX7_copy_170 : decode cX7_copy 170 = .ok (.if_icmp .ge 57, 3) := by decide +kernel
theorem dX7_copy_173 : decode cX7_copy 173 = .ok (.iload 7, 2) := by decide +kernel
theorem dX7_copy_175 : decode cX7_copy 175 = .ok (.ifCond .eq 13, 3) := by decide +kernel
theorem dX7_copy_178 : decode cX7_copy 178 = .ok (.iload 5, 2) := by decide +kernel
theorem dX7_copy_180 : decode cX7_copy 180 = .ok (.iconst 1, 1) := by decide +kernel
theorem dX7_copy_181 : decode cX7_copy 181 = .ok (.isub, 1) := by decide +kernel
theorem dX7_copy_182 : decode cX7_copy 182 = .ok (.iload 8, 2) := by decide +kernel
theorem dX7_copy_184 : decode cX7_copy 184 = .ok (.isub, 1) := by decide +kernel
theorem dX7_copy_185 : decode cX7_copy 185 = .ok (.goto 5, 3) := by decide +kernel
theorem dX7_copy_188 : decode cX7_copy 188 = .ok (.iload 8, 2) := by decide +kernel
theorem dX7_copy_190 : decode cX7_copy 190 = .ok (.istore 9, 2) := by decide +kernel
theorem dX7_copy_192 : decode cX7_copy 192 = .ok (.aload_n 0, 1) := by decide +kernel
theorem dX7_copy_193 : decode cX7_copy 193 = .ok (.getfield 16, 3) := by decide +kernel
theorem dX7_copy_196 : decode cX7_copy 196 = .ok (.bipush 60, 2) := by decide +kernel
theorem dX7_copy_198 : decode cX7_copy 198 = .ok (.iload_n 3, 1) := by decide +kernel
theorem dX7_copy_199 : decode cX7_copy 199 = .ok (.imul, 1) := by decide +kernel
theorem dX7_copy_200 : decode cX7_copy 200 = .ok (.iload 4, 2) := by decide +kernel
theorem dX7_copy_202 : decode cX7_copy 202 = .ok (.iadd, 1) := by decide +kernel
theorem dX7_copy_203 : decode cX7_copy 203 = .ok (.iload 9, 2) := by decide +kernel
theorem dX7_copy_205 : decode cX7_copy 205 = .ok (.iadd, 1) := by decide +kernel
theorem dX7_copy_206 : decode cX7_copy 206 = .ok (.aload_n 0, 1) := by decide +kernel
theorem dX7_copy_207 : decode cX7_copy 207 = .ok (.getfield 16, 3) := by decide +kernel
theorem dX7_copy_210 : decode cX7_copy 210 = .ok (.bipush 60, 2) := by decide +kernel
theorem dX7_copy_212 : decode cX7_copy 212 = .ok (.iload_n 1, 1) := by decide +kernel
theorem dX7_copy_213 : decode cX7_copy 213 = .ok (.imul, 1) := by decide +kernel
theorem dX7_copy_214 : decode cX7_copy 214 = .ok (.iload_n 2, 1) := by decide +kernel
theorem dX7_copy_215 : decode cX7_copy 215 = .ok (.iadd, 1) := by decide +kernel
theorem dX7_copy_216 : decode cX7_copy 216 = .ok (.iload 9, 2) := by decide +kernel
theorem dX7_copy_218 : decode cX7_copy 218 = .ok (.iadd, 1) := by decide +kernel
theorem dX7_copy_219 : decode cX7_copy 219 = .ok (.iaload, 1) := by decide +kernel
theorem dX7_copy_220 : decode cX7_copy 220 = .ok (.iastore, 1) := by decide +kernel
theorem dX7_copy_221 : decode cX7_copy 221 = .ok (.iinc 8 1, 3) := by decide +kernel
theorem dX7_copy_224 : decode cX7_copy 224 = .ok (.goto (-58), 3) := by decide +kernel
theorem dX7_copy_227 : decode cX7_copy 227 = .ok (.iload 5, 2) := by decide +kernel
theorem dX7_copy_229 : decode cX7_copy 229 = .ok (.ireturn, 1) := by decide +kernel
theorem dX7_begins_0 : decode cX7_begins 0 = .ok (.aload_n 0, 1) := by decide +kernel
theorem dX7_begins_1 : decode cX7_begins 1 = .ok (.bipush 31, 2) := by decide +kernel
theorem dX7_begins_3 : decode cX7_begins 3 = .ok (.aload_n 0, 1) := by decide +kernel
theorem dX7_begins_4 : decode cX7_begins 4 = .ok (.getfield 206, 3) := by decide +kernel
theorem dX7_begins_7 : decode cX7_begins 7 = .ok (.imul, 1) := by decide +kernel
theorem dX7_begins_8 : decode cX7_begins 8 = .ok (.iload_n 1, 1) := by decide +kernel
theorem dX7_begins_9 : decode cX7_begins 9 = .ok (.iadd, 1) := by decide +kernel
theorem dX7_begins_10 : decode cX7_begins 10 = .ok (.putfield 206, 3) := by decide +kernel
theorem dX7_begins_13 : decode cX7_begins 13 = .ok (.return_, 1) := by decide +kernel
theorem dX7_tell_0 : decode cX7_tell 0 = .ok (.aload_n 0, 1) := by decide +kernel
theorem dX7_tell_1 : decode cX7_tell 1 = .ok (.iload_n 1, 1) := by decide +kernel
theorem dX7_tell_2 : decode cX7_tell 2 = .ok (.invokevirtual 133, 3) := by decide +kernel
theorem dX7_tell_5 : decode cX7_tell 5 = .ok (.ifCond .ne 5, 3) := by decide +kernel
theorem dX7_tell_8 : decode cX7_tell 8 = .ok (.iconst (-1), 1) := by decide +kernel
theorem dX7_tell_9 : decode cX7_tell 9 = .ok (.ireturn, 1) := by decide +kernel
theorem dX7_tell_10 : decode cX7_tell 10 = .ok (.aload_n 0, 1) := by decide +kernel
theorem dX7_tell_11 : decode cX7_tell 11 = .ok (.getfield 28, 3) := by decide +kernel
theorem dX7_tell_14 : decode cX7_tell 14 = .ok (.iload_n 1, 1) := by decide +kernel
theorem dX7_tell_15 : decode cX7_tell 15 = .ok (.iaload, 1) := by decide +kernel
theorem dX7_tell_16 : decode cX7_tell 16 = .ok (.istore_n 2, 1) := by decide +kernel
theorem dX7_tell_17 : decode cX7_tell 17 = .ok (.aload_n 0, 1) := by decide +kernel
theorem dX7_tell_18 : decode cX7_tell 18 = .ok (.getfield 25, 3) := by decide +kernel
theorem dX7_tell_21 : decode cX7_tell 21 = .ok (.iload_n 1, 1) := by decide +kernel
theorem dX7_tell_22 : decode cX7_tell 22 = .ok (.iaload, 1) := by decide +kernel
theorem dX7_tell_23 : decode cX7_tell 23 = .ok (.lookupswitch 67 #[(1, 25), (2, 40)], 25) := by decide +kernel
theorem dX7_tell_48 : decode cX7_tell 48 = .ok (.aload_n 0, 1) := by decide +kernel
theorem dX7_tell_49 : decode cX7_tell 49 = .ok (.iconst 2, 1) := by decide +kernel
theorem dX7_tell_50 : decode cX7_tell 50 = .ok (.invokevirtual 209, 3) := by decide +kernel
theorem dX7_tell_53 : decode cX7_tell 53 = .ok (.aload_n 0, 1) := by decide +kernel
theorem dX7_tell_54 : decode cX7_tell 54 = .ok (.iconst 1, 1) := by decide +kernel
theorem dX7_tell_55 : decode cX7_tell 55 = .ok (.invokevirtual 209, 3) := by decide +kernel
theorem dX7_tell_58 : decode cX7_tell 58 = .ok (.iload_n 2, 1) := by decide +kernel
theorem dX7_tell_59 : decode cX7_tell 59 = .ok (.bipush 100, 2) := by decide +kernel
theorem dX7_tell_61 : decode cX7_tell 61 = .ok (.iadd, 1) := by decide +kernel
theorem dX7_tell_62 : decode cX7_tell 62 = .ok (.ireturn, 1) := by decide +kernel
theorem dX7_tell_63 : decode cX7_tell 63 = .ok (.aload_n 0, 1) := by decide +kernel
theorem dX7_tell_64 : decode cX7_tell 64 = .ok (.iconst 3, 1) := by decide +kernel
theorem dX7_tell_65 : decode cX7_tell 65 = .ok (.invokevirtual 209, 3) := by decide +kernel
theorem dX7_tell_68 : decode cX7_tell 68 = .ok (.aload_n 0, 1) := by decide +kernel
theorem dX7_tell_69 : decode cX7_tell 69 = .ok (.iconst 2, 1) := by decide +kernel
theorem dX7_tell_70 : decode cX7_tell 70 = .ok (.invokevirtual 209, 3) := by decide +kernel
theorem dX7_tell_73 : decode cX7_tell 73 = .ok (.aload_n 0, 1) := by decide +kernel
theorem dX7_tell_74 : decode cX7_tell 74 = .ok (.iconst 1, 1) := by decide +kernel
theorem dX7_tell_75 : decode cX7_tell 75 = .ok (.invokevirtual 209, 3) := by decide +kernel
theorem dX7_tell_78 : decode cX7_tell 78 = .ok (.aload_n 0, 1) := by decide +kernel
theorem dX7_tell_79 : decode cX7_tell 79 = .ok (.iconst 1, 1) := by decide +kernel
theorem dX7_tell_80 : decode cX7_tell 80 = .ok (.invokevirtual 209, 3) := by decide +kernel
theorem dX7_tell_83 : decode cX7_tell 83 = .ok (.iconst 2, 1) := by decide +kernel
theorem dX7_tell_84 : decode cX7_tell 84 = .ok (.iload_n 2, 1) := by decide +kernel
theorem dX7_tell_85 : decode cX7_tell 85 = .ok (.imul, 1) := by decide +kernel
theorem dX7_tell_86 : decode cX7_tell 86 = .ok (.bipush 100, 2) := by decide +kernel
theorem dX7_tell_88 : decode cX7_tell 88 = .ok (.iadd, 1) := by decide +kernel
theorem dX7_tell_89 : decode cX7_tell 89 = .ok (.ireturn, 1) := by decide +kernel
theorem dX7_tell_90 : decode cX7_tell 90 = .ok (.aload_n 0, 1) := by decide +kernel
theorem dX7_tell_91 : decode cX7_tell 91 = .ok (.iconst 1, 1) := by decide +kernel
theorem dX7_tell_92 : decode cX7_tell 92 = .ok (.invokevirtual 209, 3) := by decide +kernel
theorem dX7_tell_95 : decode cX7_tell 95 = .ok (.iload_n 2, 1) := by decide +kernel
theorem dX7_tell_96 : decode cX7_tell 96 = .ok (.ireturn, 1) := by decide +kernel
theorem dX7_feel_0 : decode cX7_feel 0 = .ok (.aload_n 0, 1) := by decide +kernel
theorem dX7_feel_1 : decode cX7_feel 1 = .ok (.iload_n 1, 1) := by decide +kernel
theorem dX7_feel_2 : decode cX7_feel 2 = .ok (.invokevirtual 133, 3) := by decide +kernel
theorem dX7_feel_5 : decode cX7_feel 5 = .ok (.ifCond .ne 5, 3) := by decide +kernel
theorem dX7_feel_8 : decode cX7_feel 8 = .ok (.iconst (-1), 1) := by decide +kernel
theorem dX7_feel_9 : decode cX7_feel 9 = .ok (.ireturn, 1) := by decide +kernel
theorem dX7_feel_10 : decode cX7_feel 10 = .ok (.aload_n 0, 1) := by decide +kernel
theorem dX7_feel_11 : decode cX7_feel 11 = .ok (.aload_n 0, 1) := by decide +kernel
theorem dX7_feel_12 : decode cX7_feel 12 = .ok (.getfield 25, 3) := by decide +kernel
theorem dX7_feel_15 : decode cX7_feel 15 = .ok (.iload_n 1, 1) := by decide +kernel
theorem dX7_feel_16 : decode cX7_feel 16 = .ok (.iaload, 1) := by decide +kernel
theorem dX7_feel_17 : decode cX7_feel 17 = .ok (.iconst 2, 1) := by decide +kernel
theorem dX7_feel_18 : decode cX7_feel 18 = .ok (.if_icmp .ne 7, 3) := by decide +kernel
theorem dX7_feel_21 : decode cX7_feel 21 = .ok (.iconst 5, 1) := by decide +kernel
theorem dX7_feel_22 : decode cX7_feel 22 = .ok (.goto 4, 3) := by decide +kernel
theorem dX7_feel_25 : decode cX7_feel 25 = .ok (.iconst 4, 1) := by decide +kernel
theorem dX7_feel_26 : decode cX7_feel 26 = .ok (.invokevirtual 209, 3) := by decide +kernel
theorem dX7_feel_29 : decode cX7_feel 29 = .ok (.aload_n 0, 1) := by decide +kernel
theorem dX7_feel_30 : decode cX7_feel 30 = .ok (.getfield 25, 3) := by decide +kernel
theorem dX7_feel_33 : decode cX7_feel 33 = .ok (.iload_n 1, 1) := by decide +kernel
theorem dX7_feel_34 : decode cX7_feel 34 = .ok (.iaload, 1) := by decide +kernel
theorem dX7_feel_35 : decode cX7_feel 35 = .ok (.iconst 2, 1) := by decide +kernel
theorem dX7_feel_36 : decode cX7_feel 36 = .ok (.if_icmp .ne 8, 3) := by decide +kernel
theorem dX7_feel_39 : decode cX7_feel 39 = .ok (.bipush 70, 2) := by decide +kernel
theorem dX7_feel_41 : decode cX7_feel 41 = .ok (.goto 4, 3) := by decide +kernel
theorem dX7_feel_44 : decode cX7_feel 44 = .ok (.iload_n 1, 1) := by decide +kernel
theorem dX7_feel_45 : decode cX7_feel 45 = .ok (.ireturn, 1) := by decide +kernel
theorem dX7_as_0 : decode cX7_as 0 = .ok (.aload_n 0, 1) := by decide +kernel
theorem dX7_as_1 : decode cX7_as 1 = .ok (.iconst 0, 1) := by decide +kernel
theorem dX7_as_2 : decode cX7_as 2 = .ok (.putfield 61, 3) := by decide +kernel
theorem dX7_as_5 : decode cX7_as 5 = .ok (.aload_n 0, 1) := by decide +kernel
theorem dX7_as_6 : decode cX7_as 6 = .ok (.iload_n 1, 1) := by decide +kernel
theorem dX7_as_7 : decode cX7_as 7 = .ok (.invokevirtual 133, 3) := by decide +kernel
theorem dX7_as_10 : decode cX7_as 10 = .ok (.ifCond .ne 5, 3) := by decide +kernel
theorem dX7_as_13 : decode cX7_as 13 = .ok (.iconst (-1), 1) := by decide +kernel
theorem dX7_as_14 : decode cX7_as 14 = .ok (.ireturn, 1) := by decide +kernel
theorem dX7_as_15 : decode cX7_as 15 = .ok (.iload_n 2, 1) := by decide +kernel
theorem dX7_as_16 : decode cX7_as 16 = .ok (.iconst 0, 1) := by decide +kernel
theorem dX7_as_17 : decode cX7_as 17 = .ok (.iconst 2, 1) := by decide +kernel
theorem dX7_as_18 : decode cX7_as 18 = .ok (.invokestatic 67, 3) := by decide +kernel
theorem dX7_as_21 : decode cX7_as 21 = .ok (.ifCond .ne 6, 3) := by decide +kernel
theorem dX7_as_24 : decode cX7_as 24 = .ok (.bipush (-2), 2) := by decide +kernel
theorem dX7_as_26 : decode cX7_as 26 = .ok (.ireturn, 1) := by decide +kernel
theorem dX7_as_27 : decode cX7_as 27 = .ok (.aload_n 0, 1) := by decide +kernel
theorem dX7_as_28 : decode cX7_as 28 = .ok (.getfield 25, 3) := by decide +kernel
theorem dX7_as_31 : decode cX7_as 31 = .ok (.iload_n 1, 1) := by decide +kernel
theorem dX7_as_32 : decode cX7_as 32 = .ok (.iaload, 1) := by decide +kernel
theorem dX7_as_33 : decode cX7_as 33 = .ok (.iload_n 2, 1) := by decide +kernel
theorem dX7_as_34 : decode cX7_as 34 = .ok (.if_icmp .lt 7, 3) := by decide +kernel
theorem dX7_as_37 : decode cX7_as 37 = .ok (.iconst 1, 1) := by decide +kernel
theorem dX7_as_38 : decode cX7_as 38 = .ok (.goto 8, 3) := by decide +kernel
theorem dX7_as_41 : decode cX7_as 41 = .ok (.aload_n 0, 1) := by decide +kernel
theorem dX7_as_42 : decode cX7_as 42 = .ok (.iconst 2, 1) := by decide +kernel
theorem dX7_as_43 : decode cX7_as 43 = .ok (.invokevirtual 91, 3) := by decide +kernel
theorem dX7_as_46 : decode cX7_as 46 = .ok (.ireturn, 1) := by decide +kernel
theorem dX7_trace_0 : decode cX7_trace 0 = .ok (.aload_n 0, 1) := by decide +kernel
theorem dX7_trace_1 : decode cX7_trace 1 = .ok (.getfield 206, 3) := by decide +kernel
theorem dX7_trace_4 : decode cX7_trace 4 = .ok (.ireturn, 1) := by decide +kernel
theorem dX7_fault_0 : decode cX7_fault 0 = .ok (.aload_n 0, 1) := by decide +kernel
theorem dX7_fault_1 : decode cX7_fault 1 = .ok (.getfield 61, 3) := by decide +kernel
theorem dX7_fault_4 : decode cX7_fault 4 = .ok (.ireturn, 1) := by decide +kernel
theorem dX7_many_0 : decode cX7_many 0 = .ok (.iload_n 1, 1) := by decide +kernel
theorem dX7_many_1 : decode cX7_many 1 = .ok (.tableswitch 60 0 4 #[35, 40, 45, 50, 55], 35) := by decide +kernel
theorem dX7_many_36 : decode cX7_many 36 = .ok (.aload_n 0, 1) := by decide +kernel
theorem dX7_many_37 : decode cX7_many 37 = .ok (.getfield 71, 3) := by decide +kernel
theorem dX7_many_40 : decode cX7_many 40 = .ok (.ireturn, 1) := by decide +kernel
theorem dX7_many_41 : decode cX7_many 41 = .ok (.aload_n 0, 1) := by decide +kernel
theorem dX7_many_42 : decode cX7_many 42 = .ok (.getfield 74, 3) := by decide +kernel
theorem dX7_many_45 : decode cX7_many 45 = .ok (.ireturn, 1) := by decide +kernel
theorem dX7_many_46 : decode cX7_many 46 = .ok (.aload_n 0, 1) := by decide +kernel
theorem dX7_many_47 : decode cX7_many 47 = .ok (.invokevirtual 143, 3) := by decide +kernel
theorem dX7_many_50 : decode cX7_many 50 = .ok (.ireturn, 1) := by decide +kernel
theorem dX7_many_51 : decode cX7_many 51 = .ok (.aload_n 0, 1) := by decide +kernel
theorem dX7_many_52 : decode cX7_many 52 = .ok (.getfield 107, 3) := by decide +kernel
theorem dX7_many_55 : decode cX7_many 55 = .ok (.ireturn, 1) := by decide +kernel
theorem dX7_many_56 : decode cX7_many 56 = .ok (.aload_n 0, 1) := by decide +kernel
theorem dX7_many_57 : decode cX7_many 57 = .ok (.getfield 110, 3) := by decide +kernel
theorem dX7_many_60 : decode cX7_many 60 = .ok (.ireturn, 1) := by decide +kernel
theorem dX7_many_61 : decode cX7_many 61 = .ok (.bipush (-2), 2) := by decide +kernel
theorem dX7_many_63 : decode cX7_many 63 = .ok (.ireturn, 1) := by decide +kernel
theorem dJ9_floorMod_7cf53_0 : decode cJ9_floorMod_7cf53 0 = .ok (.iload_n 0, 1) := by decide +kernel
theorem dJ9_floorMod_7cf53_1 : decode cJ9_floorMod_7cf53 1 = .ok (.iload_n 1, 1) := by decide +kernel
theorem dJ9_floorMod_7cf53_2 : decode cJ9_floorMod_7cf53 2 = .ok (.irem, 1) := by decide +kernel
theorem dJ9_floorMod_7cf53_3 : decode cJ9_floorMod_7cf53 3 = .ok (.istore_n 2, 1) := by decide +kernel
theorem dJ9_floorMod_7cf53_4 : decode cJ9_floorMod_7cf53 4 = .ok (.iload_n 0, 1) := by decide +kernel
theorem dJ9_floorMod_7cf53_5 : decode cJ9_floorMod_7cf53 5 = .ok (.iload_n 1, 1) := by decide +kernel
theorem dJ9_floorMod_7cf53_6 : decode cJ9_floorMod_7cf53 6 = .ok (.ixor, 1) := by decide +kernel
theorem dJ9_floorMod_7cf53_7 : decode cJ9_floorMod_7cf53 7 = .ok (.ifCond .ge 11, 3) := by decide +kernel
theorem dJ9_floorMod_7cf53_10 : decode cJ9_floorMod_7cf53 10 = .ok (.iload_n 2, 1) := by decide +kernel
theorem dJ9_floorMod_7cf53_11 : decode cJ9_floorMod_7cf53 11 = .ok (.ifCond .eq 7, 3) := by decide +kernel
theorem dJ9_floorMod_7cf53_14 : decode cJ9_floorMod_7cf53 14 = .ok (.iload_n 2, 1) := by decide +kernel
theorem dJ9_floorMod_7cf53_15 : decode cJ9_floorMod_7cf53 15 = .ok (.iload_n 1, 1) := by decide +kernel
theorem dJ9_floorMod_7cf53_16 : decode cJ9_floorMod_7cf53 16 = .ok (.iadd, 1) := by decide +kernel
theorem dJ9_floorMod_7cf53_17 : decode cJ9_floorMod_7cf53 17 = .ok (.ireturn, 1) := by decide +kernel
theorem dJ9_floorMod_7cf53_18 : decode cJ9_floorMod_7cf53 18 = .ok (.iload_n 2, 1) := by decide +kernel
theorem dJ9_floorMod_7cf53_19 : decode cJ9_floorMod_7cf53 19 = .ok (.ireturn, 1) := by decide +kernel
theorem dJ9_max_7cf53_0 : decode cJ9_max_7cf53 0 = .ok (.iload_n 0, 1) := by decide +kernel
theorem dJ9_max_7cf53_1 : decode cJ9_max_7cf53 1 = .ok (.iload_n 1, 1) := by decide +kernel
theorem dJ9_max_7cf53_2 : decode cJ9_max_7cf53 2 = .ok (.if_icmp .lt 7, 3) := by decide +kernel
theorem dJ9_max_7cf53_5 : decode cJ9_max_7cf53 5 = .ok (.iload_n 0, 1) := by decide +kernel
theorem dJ9_max_7cf53_6 : decode cJ9_max_7cf53 6 = .ok (.goto 4, 3) := by decide +kernel
theorem dJ9_max_7cf53_9 : decode cJ9_max_7cf53 9 = .ok (.iload_n 1, 1) := by decide +kernel
theorem dJ9_max_7cf53_10 : decode cJ9_max_7cf53 10 = .ok (.ireturn, 1) := by decide +kernel
theorem dJ9_min_7cf53_0 : decode cJ9_min_7cf53 0 = .ok (.iload_n 0, 1) := by decide +kernel
theorem dJ9_min_7cf53_1 : decode cJ9_min_7cf53 1 = .ok (.iload_n 1, 1) := by decide +kernel
theorem dJ9_min_7cf53_2 : decode cJ9_min_7cf53 2 = .ok (.if_icmp .gt 7, 3) := by decide +kernel
theorem dJ9_min_7cf53_5 : decode cJ9_min_7cf53 5 = .ok (.iload_n 0, 1) := by decide +kernel
theorem dJ9_min_7cf53_6 : decode cJ9_min_7cf53 6 = .ok (.goto 4, 3) := by decide +kernel
theorem dJ9_min_7cf53_9 : decode cJ9_min_7cf53 9 = .ok (.iload_n 1, 1) := by decide +kernel
theorem dJ9_min_7cf53_10 : decode cJ9_min_7cf53 10 = .ok (.ireturn, 1) := by decide +kernel
theorem dL_law_0 : decode cL_law 0 = .ok (.new 7, 3) := by decide +kernel
theorem dL_law_3 : decode cL_law 3 = .ok (.dup, 1) := by decide +kernel
theorem dL_law_4 : decode cL_law 4 = .ok (.invokespecial 9, 3) := by decide +kernel
theorem dL_law_7 : decode cL_law 7 = .ok (.astore_n 1, 1) := by decide +kernel
theorem dL_law_8 : decode cL_law 8 = .ok (.new 10, 3) := by decide +kernel
theorem dL_law_11 : decode cL_law 11 = .ok (.dup, 1) := by decide +kernel
theorem dL_law_12 : decode cL_law 12 = .ok (.invokespecial 12, 3) := by decide +kernel
theorem dL_law_15 : decode cL_law 15 = .ok (.astore_n 2, 1) := by decide +kernel
theorem dL_law_16 : decode cL_law 16 = .ok (.iconst 0, 1) := by decide +kernel
theorem dL_law_17 : decode cL_law 17 = .ok (.istore_n 3, 1) := by decide +kernel
theorem dL_law_18 : decode cL_law 18 = .ok (.iload_n 3, 1) := by decide +kernel
theorem dL_law_19 : decode cL_law 19 = .ok (.aload_n 0, 1) := by decide +kernel
theorem dL_law_20 : decode cL_law 20 = .ok (.arraylength, 1) := by decide +kernel
theorem dL_law_21 : decode cL_law 21 = .ok (.bipush 6, 2) := by decide +kernel
theorem dL_law_23 : decode cL_law 23 = .ok (.isub, 1) := by decide +kernel
theorem dL_law_24 : decode cL_law 24 = .ok (.if_icmp .gt 1092, 3) := by decide +kernel
theorem dL_law_27 : decode cL_law 27 = .ok (.aload_n 0, 1) := by decide +kernel
theorem dL_law_28 : decode cL_law 28 = .ok (.iload_n 3, 1) := by decide +kernel
theorem dL_law_29 : decode cL_law 29 = .ok (.iaload, 1) := by decide +kernel
theorem dL_law_30 : decode cL_law 30 = .ok (.bipush 31, 2) := by decide +kernel
theorem dL_law_32 : decode cL_law 32 = .ok (.iand, 1) := by decide +kernel
theorem dL_law_33 : decode cL_law 33 = .ok (.tableswitch 1077 0 29 #[135, 188, 221, 254, 287, 320, 353, 386, 449, 502, 515, 538, 551, 564, 607, 630, 653, 676, 699, 733, 776, 799, 842, 886, 949, 972, 995, 1028, 1041, 1054], 135) := by decide +kernel
theorem dL_law_168 : decode cL_law 168 = .ok (.aload_n 1, 1) := by decide +kernel
theorem dL_law_169 : decode cL_law 169 = .ok (.aload_n 0, 1) := by decide +kernel
theorem dL_law_170 : decode cL_law 170 = .ok (.iload_n 3, 1) := by decide +kernel
theorem dL_law_171 : decode cL_law 171 = .ok (.iconst 1, 1) := by decide +kernel
theorem dL_law_172 : decode cL_law 172 = .ok (.iadd, 1) := by decide +kernel
theorem dL_law_173 : decode cL_law 173 = .ok (.iaload, 1) := by decide +kernel
theorem dL_law_174 : decode cL_law 174 = .ok (.aload_n 0, 1) := by decide +kernel
theorem dL_law_175 : decode cL_law 175 = .ok (.iload_n 3, 1) := by decide +kernel
theorem dL_law_176 : decode cL_law 176 = .ok (.iconst 2, 1) := by decide +kernel
theorem dL_law_177 : decode cL_law 177 = .ok (.iadd, 1) := by decide +kernel
theorem dL_law_178 : decode cL_law 178 = .ok (.iaload, 1) := by decide +kernel
theorem dL_law_179 : decode cL_law 179 = .ok (.aload_n 0, 1) := by decide +kernel
theorem dL_law_180 : decode cL_law 180 = .ok (.iload_n 3, 1) := by decide +kernel
theorem dL_law_181 : decode cL_law 181 = .ok (.iconst 3, 1) := by decide +kernel
theorem dL_law_182 : decode cL_law 182 = .ok (.iadd, 1) := by decide +kernel
theorem dL_law_183 : decode cL_law 183 = .ok (.iaload, 1) := by decide +kernel
theorem dL_law_184 : decode cL_law 184 = .ok (.aload_n 0, 1) := by decide +kernel
theorem dL_law_185 : decode cL_law 185 = .ok (.iload_n 3, 1) := by decide +kernel
theorem dL_law_186 : decode cL_law 186 = .ok (.iconst 4, 1) := by decide +kernel
theorem dL_law_187 : decode cL_law 187 = .ok (.iadd, 1) := by decide +kernel
theorem dL_law_188 : decode cL_law 188 = .ok (.iaload, 1) := by decide +kernel
theorem dL_law_189 : decode cL_law 189 = .ok (.invokevirtual 13, 3) := by decide +kernel
theorem dL_law_192 : decode cL_law 192 = .ok (.aload_n 2, 1) := by decide +kernel
theorem dL_law_193 : decode cL_law 193 = .ok (.aload_n 0, 1) := by decide +kernel
theorem dL_law_194 : decode cL_law 194 = .ok (.iload_n 3, 1) := by decide +kernel
theorem dL_law_195 : decode cL_law 195 = .ok (.iconst 1, 1) := by decide +kernel
theorem dL_law_196 : decode cL_law 196 = .ok (.iadd, 1) := by decide +kernel
theorem dL_law_197 : decode cL_law 197 = .ok (.iaload, 1) := by decide +kernel
theorem dL_law_198 : decode cL_law 198 = .ok (.aload_n 0, 1) := by decide +kernel
theorem dL_law_199 : decode cL_law 199 = .ok (.iload_n 3, 1) := by decide +kernel
theorem dL_law_200 : decode cL_law 200 = .ok (.iconst 2, 1) := by decide +kernel
theorem dL_law_201 : decode cL_law 201 = .ok (.iadd, 1) := by decide +kernel
theorem dL_law_202 : decode cL_law 202 = .ok (.iaload, 1) := by decide +kernel
theorem dL_law_203 : decode cL_law 203 = .ok (.aload_n 0, 1) := by decide +kernel
theorem dL_law_204 : decode cL_law 204 = .ok (.iload_n 3, 1) := by decide +kernel
theorem dL_law_205 : decode cL_law 205 = .ok (.iconst 3, 1) := by decide +kernel
theorem dL_law_206 : decode cL_law 206 = .ok (.iadd, 1) := by decide +kernel
theorem dL_law_207 : decode cL_law 207 = .ok (.iaload, 1) := by decide +kernel
theorem dL_law_208 : decode cL_law 208 = .ok (.aload_n 0, 1) := by decide +kernel
theorem dL_law_209 : decode cL_law 209 = .ok (.iload_n 3, 1) := by decide +kernel
theorem dL_law_210 : decode cL_law 210 = .ok (.iconst 4, 1) := by decide +kernel
theorem dL_law_211 : decode cL_law 211 = .ok (.iadd, 1) := by decide +kernel
theorem dL_law_212 : decode cL_law 212 = .ok (.iaload, 1) := by decide +kernel
theorem dL_law_213 : decode cL_law 213 = .ok (.invokevirtual 17, 3) := by decide +kernel
theorem dL_law_216 : decode cL_law 216 = .ok (.if_icmp .eq 894, 3) := by decide +kernel
theorem dL_law_219 : decode cL_law 219 = .ok (.iconst 0, 1) := by decide +kernel
theorem dL_law_220 : decode cL_law 220 = .ok (.ireturn, 1) := by decide +kernel
theorem dL_law_221 : decode cL_law 221 = .ok (.aload_n 1, 1) := by decide +kernel
theorem dL_law_222 : decode cL_law 222 = .ok (.aload_n 0, 1) := by decide +kernel
theorem dL_law_223 : decode cL_law 223 = .ok (.iload_n 3, 1) := by decide +kernel
theorem dL_law_224 : decode cL_law 224 = .ok (.iconst 1, 1) := by decide +kernel
theorem dL_law_225 : decode cL_law 225 = .ok (.iadd, 1) := by decide +kernel
theorem dL_law_226 : decode cL_law 226 = .ok (.iaload, 1) := by decide +kernel
theorem dL_law_227 : decode cL_law 227 = .ok (.aload_n 0, 1) := by decide +kernel
theorem dL_law_228 : decode cL_law 228 = .ok (.iload_n 3, 1) := by decide +kernel
theorem dL_law_229 : decode cL_law 229 = .ok (.iconst 2, 1) := by decide +kernel
theorem dL_law_230 : decode cL_law 230 = .ok (.iadd, 1) := by decide +kernel
theorem dL_law_231 : decode cL_law 231 = .ok (.iaload, 1) := by decide +kernel
theorem dL_law_232 : decode cL_law 232 = .ok (.invokevirtual 18, 3) := by decide +kernel
theorem dL_law_235 : decode cL_law 235 = .ok (.aload_n 2, 1) := by decide +kernel
theorem dL_law_236 : decode cL_law 236 = .ok (.aload_n 0, 1) := by decide +kernel
theorem dL_law_237 : decode cL_law 237 = .ok (.iload_n 3, 1) := by decide +kernel
theorem dL_law_238 : decode cL_law 238 = .ok (.iconst 1, 1) := by decide +kernel
theorem dL_law_239 : decode cL_law 239 = .ok (.iadd, 1) := by decide +kernel
theorem dL_law_240 : decode cL_law 240 = .ok (.iaload, 1) := by decide +kernel
theorem dL_law_241 : decode cL_law 241 = .ok (.aload_n 0, 1) := by decide +kernel
theorem dL_law_242 : decode cL_law 242 = .ok (.iload_n 3, 1) := by decide +kernel
theorem dL_law_243 : decode cL_law 243 = .ok (.iconst 2, 1) := by decide +kernel
theorem dL_law_244 : decode cL_law 244 = .ok (.iadd, 1) := by decide +kernel
theorem dL_law_245 : decode cL_law 245 = .ok (.iaload, 1) := by decide +kernel
theorem dL_law_246 : decode cL_law 246 = .ok (.invokevirtual 22, 3) := by decide +kernel
theorem dL_law_249 : decode cL_law 249 = .ok (.if_icmp .eq 861, 3) := by decide +kernel
theorem dL_law_252 : decode cL_law 252 = .ok (.iconst 0, 1) := by decide +kernel
theorem dL_law_253 : decode cL_law 253 = .ok (.ireturn, 1) := by decide +kernel
theorem dL_law_254 : decode cL_law 254 = .ok (.aload_n 1, 1) := by decide +kernel
theorem dL_law_255 : decode cL_law 255 = .ok (.aload_n 0, 1) := by decide +kernel
theorem dL_law_256 : decode cL_law 256 = .ok (.iload_n 3, 1) := by decide +kernel
theorem dL_law_257 : decode cL_law 257 = .ok (.iconst 1, 1) := by decide +kernel
theorem dL_law_258 : decode cL_law 258 = .ok (.iadd, 1) := by decide +kernel
theorem dL_law_259 : decode cL_law 259 = .ok (.iaload, 1) := by decide +kernel
theorem dL_law_260 : decode cL_law 260 = .ok (.aload_n 0, 1) := by decide +kernel
theorem dL_law_261 : decode cL_law 261 = .ok (.iload_n 3, 1) := by decide +kernel
theorem dL_law_262 : decode cL_law 262 = .ok (.iconst 2, 1) := by decide +kernel
theorem dL_law_263 : decode cL_law 263 = .ok (.iadd, 1) := by decide +kernel
theorem dL_law_264 : decode cL_law 264 = .ok (.iaload, 1) := by decide +kernel
theorem dL_law_265 : decode cL_law 265 = .ok (.invokevirtual 23, 3) := by decide +kernel
theorem dL_law_268 : decode cL_law 268 = .ok (.aload_n 2, 1) := by decide +kernel
theorem dL_law_269 : decode cL_law 269 = .ok (.aload_n 0, 1) := by decide +kernel
theorem dL_law_270 : decode cL_law 270 = .ok (.iload_n 3, 1) := by decide +kernel
theorem dL_law_271 : decode cL_law 271 = .ok (.iconst 1, 1) := by decide +kernel
theorem dL_law_272 : decode cL_law 272 = .ok (.iadd, 1) := by decide +kernel
theorem dL_law_273 : decode cL_law 273 = .ok (.iaload, 1) := by decide +kernel
theorem dL_law_274 : decode cL_law 274 = .ok (.aload_n 0, 1) := by decide +kernel
theorem dL_law_275 : decode cL_law 275 = .ok (.iload_n 3, 1) := by decide +kernel
theorem dL_law_276 : decode cL_law 276 = .ok (.iconst 2, 1) := by decide +kernel
theorem dL_law_277 : decode cL_law 277 = .ok (.iadd, 1) := by decide +kernel
theorem dL_law_278 : decode cL_law 278 = .ok (.iaload, 1) := by decide +kernel
theorem dL_law_279 : decode cL_law 279 = .ok (.invokevirtual 26, 3) := by decide +kernel
theorem dL_law_282 : decode cL_law 282 = .ok (.if_icmp .eq 828, 3) := by decide +kernel
theorem dL_law_285 : decode cL_law 285 = .ok (.iconst 0, 1) := by decide +kernel
theorem dL_law_286 : decode cL_law 286 = .ok (.ireturn, 1) := by decide +kernel
theorem dL_law_287 : decode cL_law 287 = .ok (.aload_n 1, 1) := by decide +kernel
theorem dL_law_288 : decode cL_law 288 = .ok (.aload_n 0, 1) := by decide +kernel
theorem dL_law_289 : decode cL_law 289 = .ok (.iload_n 3, 1) := by decide +kernel
theorem dL_law_290 : decode cL_law 290 = .ok (.iconst 1, 1) := by decide +kernel
theorem dL_law_291 : decode cL_law 291 = .ok (.iadd, 1) := by decide +kernel
theorem dL_law_292 : decode cL_law 292 = .ok (.iaload, 1) := by decide +kernel
theorem dL_law_293 : decode cL_law 293 = .ok (.aload_n 0, 1) := by decide +kernel
theorem dL_law_294 : decode cL_law 294 = .ok (.iload_n 3, 1) := by decide +kernel
theorem dL_law_295 : decode cL_law 295 = .ok (.iconst 2, 1) := by decide +kernel
theorem dL_law_296 : decode cL_law 296 = .ok (.iadd, 1) := by decide +kernel
theorem dL_law_297 : decode cL_law 297 = .ok (.iaload, 1) := by decide +kernel
theorem dL_law_298 : decode cL_law 298 = .ok (.invokevirtual 27, 3) := by decide +kernel
theorem dL_law_301 : decode cL_law 301 = .ok (.aload_n 2, 1) := by decide +kernel
theorem dL_law_302 : decode cL_law 302 = .ok (.aload_n 0, 1) := by decide +kernel
theorem dL_law_303 : decode cL_law 303 = .ok (.iload_n 3, 1) := by decide +kernel
theorem dL_law_304 : decode cL_law 304 = .ok (.iconst 1, 1) := by decide +kernel
theorem dL_law_305 : decode cL_law 305 = .ok (.iadd, 1) := by decide +kernel
theorem dL_law_306 : decode cL_law 306 = .ok (.iaload, 1) := by decide +kernel
theorem dL_law_307 : decode cL_law 307 = .ok (.aload_n 0, 1) := by decide +kernel
theorem dL_law_308 : decode cL_law 308 = .ok (.iload_n 3, 1) := by decide +kernel
theorem dL_law_309 : decode cL_law 309 = .ok (.iconst 2, 1) := by decide +kernel
theorem dL_law_310 : decode cL_law 310 = .ok (.iadd, 1) := by decide +kernel
theorem dL_law_311 : decode cL_law 311 = .ok (.iaload, 1) := by decide +kernel
theorem dL_law_312 : decode cL_law 312 = .ok (.invokevirtual 30, 3) := by decide +kernel
theorem dL_law_315 : decode cL_law 315 = .ok (.if_icmp .eq 795, 3) := by decide +kernel
theorem dL_law_318 : decode cL_law 318 = .ok (.iconst 0, 1) := by decide +kernel
theorem dL_law_319 : decode cL_law 319 = .ok (.ireturn, 1) := by decide +kernel
theorem dL_law_320 : decode cL_law 320 = .ok (.aload_n 1, 1) := by decide +kernel
theorem dL_law_321 : decode cL_law 321 = .ok (.aload_n 0, 1) := by decide +kernel
theorem dL_law_322 : decode cL_law 322 = .ok (.iload_n 3, 1) := by decide +kernel
theorem dL_law_323 : decode cL_law 323 = .ok (.iconst 1, 1) := by decide +kernel
theorem dL_law_324 : decode cL_law 324 = .ok (.iadd, 1) := by decide +kernel
theorem dL_law_325 : decode cL_law 325 = .ok (.iaload, 1) := by decide +kernel
theorem dL_law_326 : decode cL_law 326 = .ok (.aload_n 0, 1) := by decide +kernel
theorem dL_law_327 : decode cL_law 327 = .ok (.iload_n 3, 1) := by decide +kernel
theorem dL_law_328 : decode cL_law 328 = .ok (.iconst 2, 1) := by decide +kernel
theorem dL_law_329 : decode cL_law 329 = .ok (.iadd, 1) := by decide +kernel
theorem dL_law_330 : decode cL_law 330 = .ok (.iaload, 1) := by decide +kernel
theorem dL_law_331 : decode cL_law 331 = .ok (.invokevirtual 31, 3) := by decide +kernel
theorem dL_law_334 : decode cL_law 334 = .ok (.aload_n 2, 1) := by decide +kernel
theorem dL_law_335 : decode cL_law 335 = .ok (.aload_n 0, 1) := by decide +kernel
theorem dL_law_336 : decode cL_law 336 = .ok (.iload_n 3, 1) := by decide +kernel
theorem dL_law_337 : decode cL_law 337 = .ok (.iconst 1, 1) := by decide +kernel
theorem dL_law_338 : decode cL_law 338 = .ok (.iadd, 1) := by decide +kernel
theorem dL_law_339 : decode cL_law 339 = .ok (.iaload, 1) := by decide +kernel
theorem dL_law_340 : decode cL_law 340 = .ok (.aload_n 0, 1) := by decide +kernel
theorem dL_law_341 : decode cL_law 341 = .ok (.iload_n 3, 1) := by decide +kernel
theorem dL_law_342 : decode cL_law 342 = .ok (.iconst 2, 1) := by decide +kernel
theorem dL_law_343 : decode cL_law 343 = .ok (.iadd, 1) := by decide +kernel
theorem dL_law_344 : decode cL_law 344 = .ok (.iaload, 1) := by decide +kernel
theorem dL_law_345 : decode cL_law 345 = .ok (.invokevirtual 34, 3) := by decide +kernel
theorem dL_law_348 : decode cL_law 348 = .ok (.if_icmp .eq 762, 3) := by decide +kernel
theorem dL_law_351 : decode cL_law 351 = .ok (.iconst 0, 1) := by decide +kernel
theorem dL_law_352 : decode cL_law 352 = .ok (.ireturn, 1) := by decide +kernel
theorem dL_law_353 : decode cL_law 353 = .ok (.aload_n 1, 1) := by decide +kernel
theorem dL_law_354 : decode cL_law 354 = .ok (.aload_n 0, 1) := by decide +kernel
theorem dL_law_355 : decode cL_law 355 = .ok (.iload_n 3, 1) := by decide +kernel
theorem dL_law_356 : decode cL_law 356 = .ok (.iconst 1, 1) := by decide +kernel
theorem dL_law_357 : decode cL_law 357 = .ok (.iadd, 1) := by decide +kernel
theorem dL_law_358 : decode cL_law 358 = .ok (.iaload, 1) := by decide +kernel
theorem dL_law_359 : decode cL_law 359 = .ok (.aload_n 0, 1) := by decide +kernel
theorem dL_law_360 : decode cL_law 360 = .ok (.iload_n 3, 1) := by decide +kernel
theorem dL_law_361 : decode cL_law 361 = .ok (.iconst 2, 1) := by decide +kernel
theorem dL_law_362 : decode cL_law 362 = .ok (.iadd, 1) := by decide +kernel
theorem dL_law_363 : decode cL_law 363 = .ok (.iaload, 1) := by decide +kernel
theorem dL_law_364 : decode cL_law 364 = .ok (.invokevirtual 35, 3) := by decide +kernel
theorem dL_law_367 : decode cL_law 367 = .ok (.aload_n 2, 1) := by decide +kernel
theorem dL_law_368 : decode cL_law 368 = .ok (.aload_n 0, 1) := by decide +kernel
theorem dL_law_369 : decode cL_law 369 = .ok (.iload_n 3, 1) := by decide +kernel
theorem dL_law_370 : decode cL_law 370 = .ok (.iconst 1, 1) := by decide +kernel
theorem dL_law_371 : decode cL_law 371 = .ok (.iadd, 1) := by decide +kernel
theorem dL_law_372 : decode cL_law 372 = .ok (.iaload, 1) := by decide +kernel
theorem dL_law_373 : decode cL_law 373 = .ok (.aload_n 0, 1) := by decide +kernel
theorem dL_law_374 : decode cL_law 374 = .ok (.iload_n 3, 1) := by decide +kernel
theorem dL_law_375 : decode cL_law 375 = .ok (.iconst 2, 1) := by decide +kernel
theorem dL_law_376 : decode cL_law 376 = .ok (.iadd, 1) := by decide +kernel
theorem dL_law_377 : decode cL_law 377 = .ok (.iaload, 1) := by decide +kernel
theorem dL_law_378 : decode cL_law 378 = .ok (.invokevirtual 38, 3) := by decide +kernel
theorem dL_law_381 : decode cL_law 381 = .ok (.if_icmp .eq 729, 3) := by decide +kernel
theorem dL_law_384 : decode cL_law 384 = .ok (.iconst 0, 1) := by decide +kernel
theorem dL_law_385 : decode cL_law 385 = .ok (.ireturn, 1) := by decide +kernel
theorem dL_law_386 : decode cL_law 386 = .ok (.aload_n 1, 1) := by decide +kernel
theorem dL_law_387 : decode cL_law 387 = .ok (.aload_n 0, 1) := by decide +kernel
theorem dL_law_388 : decode cL_law 388 = .ok (.iload_n 3, 1) := by decide +kernel
theorem dL_law_389 : decode cL_law 389 = .ok (.iconst 1, 1) := by decide +kernel
theorem dL_law_390 : decode cL_law 390 = .ok (.iadd, 1) := by decide +kernel
theorem dL_law_391 : decode cL_law 391 = .ok (.iaload, 1) := by decide +kernel
theorem dL_law_392 : decode cL_law 392 = .ok (.aload_n 0, 1) := by decide +kernel
theorem dL_law_393 : decode cL_law 393 = .ok (.iload_n 3, 1) := by decide +kernel
theorem dL_law_394 : decode cL_law 394 = .ok (.iconst 2, 1) := by decide +kernel
theorem dL_law_395 : decode cL_law 395 = .ok (.iadd, 1) := by decide +kernel
theorem dL_law_396 : decode cL_law 396 = .ok (.iaload, 1) := by decide +kernel
theorem dL_law_397 : decode cL_law 397 = .ok (.invokevirtual 39, 3) := by decide +kernel
theorem dL_law_400 : decode cL_law 400 = .ok (.aload_n 2, 1) := by decide +kernel
theorem dL_law_401 : decode cL_law 401 = .ok (.aload_n 0, 1) := by decide +kernel
theorem dL_law_402 : decode cL_law 402 = .ok (.iload_n 3, 1) := by decide +kernel
theorem dL_law_403 : decode cL_law 403 = .ok (.iconst 1, 1) := by decide +kernel
theorem dL_law_404 : decode cL_law 404 = .ok (.iadd, 1) := by decide +kernel
theorem dL_law_405 : decode cL_law 405 = .ok (.iaload, 1) := by decide +kernel
theorem dL_law_406 : decode cL_law 406 = .ok (.aload_n 0, 1) := by decide +kernel
theorem dL_law_407 : decode cL_law 407 = .ok (.iload_n 3, 1) := by decide +kernel
theorem dL_law_408 : decode cL_law 408 = .ok (.iconst 2, 1) := by decide +kernel
theorem dL_law_409 : decode cL_law 409 = .ok (.iadd, 1) := by decide +kernel
theorem dL_law_410 : decode cL_law 410 = .ok (.iaload, 1) := by decide +kernel
theorem dL_law_411 : decode cL_law 411 = .ok (.invokevirtual 42, 3) := by decide +kernel
theorem dL_law_414 : decode cL_law 414 = .ok (.if_icmp .eq 696, 3) := by decide +kernel
theorem dL_law_417 : decode cL_law 417 = .ok (.iconst 0, 1) := by decide +kernel
theorem dL_law_418 : decode cL_law 418 = .ok (.ireturn, 1) := by decide +kernel
theorem dL_law_419 : decode cL_law 419 = .ok (.aload_n 1, 1) := by decide +kernel
theorem dL_law_420 : decode cL_law 420 = .ok (.aload_n 0, 1) := by decide +kernel
theorem dL_law_421 : decode cL_law 421 = .ok (.iload_n 3, 1) := by decide +kernel
theorem dL_law_422 : decode cL_law 422 = .ok (.iconst 1, 1) := by decide +kernel
theorem dL_law_423 : decode cL_law 423 = .ok (.iadd, 1) := by decide +kernel
theorem dL_law_424 : decode cL_law 424 = .ok (.iaload, 1) := by decide +kernel
theorem dL_law_425 : decode cL_law 425 = .ok (.aload_n 0, 1) := by decide +kernel
theorem dL_law_426 : decode cL_law 426 = .ok (.iload_n 3, 1) := by decide +kernel
theorem dL_law_427 : decode cL_law 427 = .ok (.iconst 2, 1) := by decide +kernel
theorem dL_law_428 : decode cL_law 428 = .ok (.iadd, 1) := by decide +kernel
theorem dL_law_429 : decode cL_law 429 = .ok (.iaload, 1) := by decide +kernel
theorem dL_law_430 : decode cL_law 430 = .ok (.aload_n 0, 1) := by decide +kernel
theorem dL_law_431 : decode cL_law 431 = .ok (.iload_n 3, 1) := by decide +kernel
theorem dL_law_432 : decode cL_law 432 = .ok (.iconst 3, 1) := by decide +kernel
theorem dL_law_433 : decode cL_law 433 = .ok (.iadd, 1) := by decide +kernel
theorem dL_law_434 : decode cL_law 434 = .ok (.iaload, 1) := by decide +kernel
theorem dL_law_435 : decode cL_law 435 = .ok (.aload_n 0, 1) := by decide +kernel
theorem dL_law_436 : decode cL_law 436 = .ok (.iload_n 3, 1) := by decide +kernel
theorem dL_law_437 : decode cL_law 437 = .ok (.iconst 4, 1) := by decide +kernel
theorem dL_law_438 : decode cL_law 438 = .ok (.iadd, 1) := by decide +kernel
theorem dL_law_439 : decode cL_law 439 = .ok (.iaload, 1) := by decide +kernel
theorem dL_law_440 : decode cL_law 440 = .ok (.aload_n 0, 1) := by decide +kernel
theorem dL_law_441 : decode cL_law 441 = .ok (.iload_n 3, 1) := by decide +kernel
theorem dL_law_442 : decode cL_law 442 = .ok (.iconst 5, 1) := by decide +kernel
theorem dL_law_443 : decode cL_law 443 = .ok (.iadd, 1) := by decide +kernel
theorem dL_law_444 : decode cL_law 444 = .ok (.iaload, 1) := by decide +kernel
theorem dL_law_445 : decode cL_law 445 = .ok (.invokevirtual 43, 3) := by decide +kernel
theorem dL_law_448 : decode cL_law 448 = .ok (.aload_n 2, 1) := by decide +kernel
theorem dL_law_449 : decode cL_law 449 = .ok (.aload_n 0, 1) := by decide +kernel
theorem dL_law_450 : decode cL_law 450 = .ok (.iload_n 3, 1) := by decide +kernel
theorem dL_law_451 : decode cL_law 451 = .ok (.iconst 1, 1) := by decide +kernel
theorem dL_law_452 : decode cL_law 452 = .ok (.iadd, 1) := by decide +kernel
theorem dL_law_453 : decode cL_law 453 = .ok (.iaload, 1) := by decide +kernel
theorem dL_law_454 : decode cL_law 454 = .ok (.aload_n 0, 1) := by decide +kernel
theorem dL_law_455 : decode cL_law 455 = .ok (.iload_n 3, 1) := by decide +kernel
theorem dL_law_456 : decode cL_law 456 = .ok (.iconst 2, 1) := by decide +kernel
theorem dL_law_457 : decode cL_law 457 = .ok (.iadd, 1) := by decide +kernel
theorem dL_law_458 : decode cL_law 458 = .ok (.iaload, 1) := by decide +kernel
theorem dL_law_459 : decode cL_law 459 = .ok (.aload_n 0, 1) := by decide +kernel
theorem dL_law_460 : decode cL_law 460 = .ok (.iload_n 3, 1) := by decide +kernel
theorem dL_law_461 : decode cL_law 461 = .ok (.iconst 3, 1) := by decide +kernel
theorem dL_law_462 : decode cL_law 462 = .ok (.iadd, 1) := by decide +kernel
theorem dL_law_463 : decode cL_law 463 = .ok (.iaload, 1) := by decide +kernel
theorem dL_law_464 : decode cL_law 464 = .ok (.aload_n 0, 1) := by decide +kernel
theorem dL_law_465 : decode cL_law 465 = .ok (.iload_n 3, 1) := by decide +kernel
theorem dL_law_466 : decode cL_law 466 = .ok (.iconst 4, 1) := by decide +kernel
theorem dL_law_467 : decode cL_law 467 = .ok (.iadd, 1) := by decide +kernel
theorem dL_law_468 : decode cL_law 468 = .ok (.iaload, 1) := by decide +kernel
theorem dL_law_469 : decode cL_law 469 = .ok (.aload_n 0, 1) := by decide +kernel
theorem dL_law_470 : decode cL_law 470 = .ok (.iload_n 3, 1) := by decide +kernel
theorem dL_law_471 : decode cL_law 471 = .ok (.iconst 5, 1) := by decide +kernel
theorem dL_law_472 : decode cL_law 472 = .ok (.iadd, 1) := by decide +kernel
theorem dL_law_473 : decode cL_law 473 = .ok (.iaload, 1) := by decide +kernel
theorem dL_law_474 : decode cL_law 474 = .ok (.invokevirtual 47, 3) := by decide +kernel
theorem dL_law_477 : decode cL_law 477 = .ok (.if_icmp .eq 633, 3) := by decide +kernel
theorem dL_law_480 : decode cL_law 480 = .ok (.iconst 0, 1) := by decide +kernel
theorem dL_law_481 : decode cL_law 481 = .ok (.ireturn, 1) := by decide +kernel
theorem dL_law_482 : decode cL_law 482 = .ok (.aload_n 1, 1) := by decide +kernel
theorem dL_law_483 : decode cL_law 483 = .ok (.aload_n 0, 1) := by decide +kernel
theorem dL_law_484 : decode cL_law 484 = .ok (.iload_n 3, 1) := by decide +kernel
theorem dL_law_485 : decode cL_law 485 = .ok (.iconst 1, 1) := by decide +kernel
theorem dL_law_486 : decode cL_law 486 = .ok (.iadd, 1) := by decide +kernel
theorem dL_law_487 : decode cL_law 487 = .ok (.iaload, 1) := by decide +kernel
theorem dL_law_488 : decode cL_law 488 = .ok (.aload_n 0, 1) := by decide +kernel
theorem dL_law_489 : decode cL_law 489 = .ok (.iload_n 3, 1) := by decide +kernel
theorem dL_law_490 : decode cL_law 490 = .ok (.iconst 2, 1) := by decide +kernel
theorem dL_law_491 : decode cL_law 491 = .ok (.iadd, 1) := by decide +kernel
theorem dL_law_492 : decode cL_law 492 = .ok (.iaload, 1) := by decide +kernel
theorem dL_law_493 : decode cL_law 493 = .ok (.aload_n 0, 1) := by decide +kernel
theorem dL_law_494 : decode cL_law 494 = .ok (.iload_n 3, 1) := by decide +kernel
theorem dL_law_495 : decode cL_law 495 = .ok (.iconst 3, 1) := by decide +kernel
theorem dL_law_496 : decode cL_law 496 = .ok (.iadd, 1) := by decide +kernel
theorem dL_law_497 : decode cL_law 497 = .ok (.iaload, 1) := by decide +kernel
theorem dL_law_498 : decode cL_law 498 = .ok (.aload_n 0, 1) := by decide +kernel
theorem dL_law_499 : decode cL_law 499 = .ok (.iload_n 3, 1) := by decide +kernel
theorem dL_law_500 : decode cL_law 500 = .ok (.iconst 4, 1) := by decide +kernel
theorem dL_law_501 : decode cL_law 501 = .ok (.iadd, 1) := by decide +kernel
theorem dL_law_502 : decode cL_law 502 = .ok (.iaload, 1) := by decide +kernel
theorem dL_law_503 : decode cL_law 503 = .ok (.invokevirtual 48, 3) := by decide +kernel
theorem dL_law_506 : decode cL_law 506 = .ok (.aload_n 2, 1) := by decide +kernel
theorem dL_law_507 : decode cL_law 507 = .ok (.aload_n 0, 1) := by decide +kernel
theorem dL_law_508 : decode cL_law 508 = .ok (.iload_n 3, 1) := by decide +kernel
theorem dL_law_509 : decode cL_law 509 = .ok (.iconst 1, 1) := by decide +kernel
theorem dL_law_510 : decode cL_law 510 = .ok (.iadd, 1) := by decide +kernel
theorem dL_law_511 : decode cL_law 511 = .ok (.iaload, 1) := by decide +kernel
theorem dL_law_512 : decode cL_law 512 = .ok (.aload_n 0, 1) := by decide +kernel
theorem dL_law_513 : decode cL_law 513 = .ok (.iload_n 3, 1) := by decide +kernel
theorem dL_law_514 : decode cL_law 514 = .ok (.iconst 2, 1) := by decide +kernel
theorem dL_law_515 : decode cL_law 515 = .ok (.iadd, 1) := by decide +kernel
theorem dL_law_516 : decode cL_law 516 = .ok (.iaload, 1) := by decide +kernel
theorem dL_law_517 : decode cL_law 517 = .ok (.aload_n 0, 1) := by decide +kernel
theorem dL_law_518 : decode cL_law 518 = .ok (.iload_n 3, 1) := by decide +kernel
theorem dL_law_519 : decode cL_law 519 = .ok (.iconst 3, 1) := by decide +kernel
theorem dL_law_520 : decode cL_law 520 = .ok (.iadd, 1) := by decide +kernel
theorem dL_law_521 : decode cL_law 521 = .ok (.iaload, 1) := by decide +kernel
theorem dL_law_522 : decode cL_law 522 = .ok (.aload_n 0, 1) := by decide +kernel
theorem dL_law_523 : decode cL_law 523 = .ok (.iload_n 3, 1) := by decide +kernel
theorem dL_law_524 : decode cL_law 524 = .ok (.iconst 4, 1) := by decide +kernel
theorem dL_law_525 : decode cL_law 525 = .ok (.iadd, 1) := by decide +kernel
theorem dL_law_526 : decode cL_law 526 = .ok (.iaload, 1) := by decide +kernel
theorem dL_law_527 : decode cL_law 527 = .ok (.invokevirtual 51, 3) := by decide +kernel
theorem dL_law_530 : decode cL_law 530 = .ok (.if_icmp .eq 580, 3) := by decide +kernel
theorem dL_law_533 : decode cL_law 533 = .ok (.iconst 0, 1) := by decide +kernel
theorem dL_law_534 : decode cL_law 534 = .ok (.ireturn, 1) := by decide +kernel
theorem dL_law_535 : decode cL_law 535 = .ok (.aload_n 1, 1) := by decide +kernel
theorem dL_law_536 : decode cL_law 536 = .ok (.invokevirtual 52, 3) := by decide +kernel
theorem dL_law_539 : decode cL_law 539 = .ok (.aload_n 2, 1) := by decide +kernel
theorem dL_law_540 : decode cL_law 540 = .ok (.invokevirtual 56, 3) := by decide +kernel
theorem dL_law_543 : decode cL_law 543 = .ok (.if_icmp .eq 567, 3) := by decide +kernel
theorem dL_law_546 : decode cL_law 546 = .ok (.iconst 0, 1) := by decide +kernel
theorem dL_law_547 : decode cL_law 547 = .ok (.ireturn, 1) := by decide +kernel
theorem dL_law_548 : decode cL_law 548 = .ok (.aload_n 1, 1) := by decide +kernel
theorem dL_law_549 : decode cL_law 549 = .ok (.aload_n 0, 1) := by decide +kernel
theorem dL_law_550 : decode cL_law 550 = .ok (.iload_n 3, 1) := by decide +kernel
theorem dL_law_551 : decode cL_law 551 = .ok (.iconst 1, 1) := by decide +kernel
theorem dL_law_552 : decode cL_law 552 = .ok (.iadd, 1) := by decide +kernel
theorem dL_law_553 : decode cL_law 553 = .ok (.iaload, 1) := by decide +kernel
theorem dL_law_554 : decode cL_law 554 = .ok (.invokevirtual 57, 3) := by decide +kernel
theorem dL_law_557 : decode cL_law 557 = .ok (.aload_n 2, 1) := by decide +kernel
theorem dL_law_558 : decode cL_law 558 = .ok (.aload_n 0, 1) := by decide +kernel
theorem dL_law_559 : decode cL_law 559 = .ok (.iload_n 3, 1) := by decide +kernel
theorem dL_law_560 : decode cL_law 560 = .ok (.iconst 1, 1) := by decide +kernel
theorem dL_law_561 : decode cL_law 561 = .ok (.iadd, 1) := by decide +kernel
theorem dL_law_562 : decode cL_law 562 = .ok (.iaload, 1) := by decide +kernel
theorem dL_law_563 : decode cL_law 563 = .ok (.invokevirtual 61, 3) := by decide +kernel
theorem dL_law_566 : decode cL_law 566 = .ok (.if_icmp .eq 544, 3) := by decide +kernel
theorem dL_law_569 : decode cL_law 569 = .ok (.iconst 0, 1) := by decide +kernel
theorem dL_law_570 : decode cL_law 570 = .ok (.ireturn, 1) := by decide +kernel
theorem dL_law_571 : decode cL_law 571 = .ok (.aload_n 1, 1) := by decide +kernel
theorem dL_law_572 : decode cL_law 572 = .ok (.invokevirtual 62, 3) := by decide +kernel
theorem dL_law_575 : decode cL_law 575 = .ok (.aload_n 2, 1) := by decide +kernel
theorem dL_law_576 : decode cL_law 576 = .ok (.invokevirtual 65, 3) := by decide +kernel
theorem dL_law_579 : decode cL_law 579 = .ok (.if_icmp .eq 531, 3) := by decide +kernel
theorem dL_law_582 : decode cL_law 582 = .ok (.iconst 0, 1) := by decide +kernel
theorem dL_law_583 : decode cL_law 583 = .ok (.ireturn, 1) := by decide +kernel
theorem dL_law_584 : decode cL_law 584 = .ok (.aload_n 1, 1) := by decide +kernel
theorem dL_law_585 : decode cL_law 585 = .ok (.invokevirtual 66, 3) := by decide +kernel
theorem dL_law_588 : decode cL_law 588 = .ok (.aload_n 2, 1) := by decide +kernel
theorem dL_law_589 : decode cL_law 589 = .ok (.invokevirtual 69, 3) := by decide +kernel
theorem dL_law_592 : decode cL_law 592 = .ok (.if_icmp .eq 518, 3) := by decide +kernel
theorem dL_law_595 : decode cL_law 595 = .ok (.iconst 0, 1) := by decide +kernel
theorem dL_law_596 : decode cL_law 596 = .ok (.ireturn, 1) := by decide +kernel
theorem dL_law_597 : decode cL_law 597 = .ok (.aload_n 1, 1) := by decide +kernel
theorem dL_law_598 : decode cL_law 598 = .ok (.aload_n 0, 1) := by decide +kernel
theorem dL_law_599 : decode cL_law 599 = .ok (.iload_n 3, 1) := by decide +kernel
theorem dL_law_600 : decode cL_law 600 = .ok (.iconst 1, 1) := by decide +kernel
theorem dL_law_601 : decode cL_law 601 = .ok (.iadd, 1) := by decide +kernel
theorem dL_law_602 : decode cL_law 602 = .ok (.iaload, 1) := by decide +kernel
theorem dL_law_603 : decode cL_law 603 = .ok (.aload_n 0, 1) := by decide +kernel
theorem dL_law_604 : decode cL_law 604 = .ok (.iload_n 3, 1) := by decide +kernel
theorem dL_law_605 : decode cL_law 605 = .ok (.iconst 2, 1) := by decide +kernel
theorem dL_law_606 : decode cL_law 606 = .ok (.iadd, 1) := by decide +kernel
theorem dL_law_607 : decode cL_law 607 = .ok (.iaload, 1) := by decide +kernel
theorem dL_law_608 : decode cL_law 608 = .ok (.aload_n 0, 1) := by decide +kernel
theorem dL_law_609 : decode cL_law 609 = .ok (.iload_n 3, 1) := by decide +kernel
theorem dL_law_610 : decode cL_law 610 = .ok (.iconst 3, 1) := by decide +kernel
theorem dL_law_611 : decode cL_law 611 = .ok (.iadd, 1) := by decide +kernel
theorem dL_law_612 : decode cL_law 612 = .ok (.iaload, 1) := by decide +kernel
theorem dL_law_613 : decode cL_law 613 = .ok (.invokevirtual 70, 3) := by decide +kernel
theorem dL_law_616 : decode cL_law 616 = .ok (.aload_n 2, 1) := by decide +kernel
theorem dL_law_617 : decode cL_law 617 = .ok (.aload_n 0, 1) := by decide +kernel
theorem dL_law_618 : decode cL_law 618 = .ok (.iload_n 3, 1) := by decide +kernel
theorem dL_law_619 : decode cL_law 619 = .ok (.iconst 1, 1) := by decide +kernel
theorem dL_law_620 : decode cL_law 620 = .ok (.iadd, 1) := by decide +kernel
theorem dL_law_621 : decode cL_law 621 = .ok (.iaload, 1) := by decide +kernel
theorem dL_law_622 : decode cL_law 622 = .ok (.aload_n 0, 1) := by decide +kernel
theorem dL_law_623 : decode cL_law 623 = .ok (.iload_n 3, 1) := by decide +kernel
theorem dL_law_624 : decode cL_law 624 = .ok (.iconst 2, 1) := by decide +kernel
theorem dL_law_625 : decode cL_law 625 = .ok (.iadd, 1) := by decide +kernel
theorem dL_law_626 : decode cL_law 626 = .ok (.iaload, 1) := by decide +kernel
theorem dL_law_627 : decode cL_law 627 = .ok (.aload_n 0, 1) := by decide +kernel
theorem dL_law_628 : decode cL_law 628 = .ok (.iload_n 3, 1) := by decide +kernel
theorem dL_law_629 : decode cL_law 629 = .ok (.iconst 3, 1) := by decide +kernel
theorem dL_law_630 : decode cL_law 630 = .ok (.iadd, 1) := by decide +kernel
theorem dL_law_631 : decode cL_law 631 = .ok (.iaload, 1) := by decide +kernel
theorem dL_law_632 : decode cL_law 632 = .ok (.invokevirtual 74, 3) := by decide +kernel
theorem dL_law_635 : decode cL_law 635 = .ok (.if_icmp .eq 475, 3) := by decide +kernel
theorem dL_law_638 : decode cL_law 638 = .ok (.iconst 0, 1) := by decide +kernel
theorem dL_law_639 : decode cL_law 639 = .ok (.ireturn, 1) := by decide +kernel
theorem dL_law_640 : decode cL_law 640 = .ok (.aload_n 1, 1) := by decide +kernel
theorem dL_law_641 : decode cL_law 641 = .ok (.aload_n 0, 1) := by decide +kernel
theorem dL_law_642 : decode cL_law 642 = .ok (.iload_n 3, 1) := by decide +kernel
theorem dL_law_643 : decode cL_law 643 = .ok (.iconst 1, 1) := by decide +kernel
theorem dL_law_644 : decode cL_law 644 = .ok (.iadd, 1) := by decide +kernel
theorem dL_law_645 : decode cL_law 645 = .ok (.iaload, 1) := by decide +kernel
theorem dL_law_646 : decode cL_law 646 = .ok (.invokevirtual 75, 3) := by decide +kernel
theorem dL_law_649 : decode cL_law 649 = .ok (.aload_n 2, 1) := by decide +kernel
theorem dL_law_650 : decode cL_law 650 = .ok (.aload_n 0, 1) := by decide +kernel
theorem dL_law_651 : decode cL_law 651 = .ok (.iload_n 3, 1) := by decide +kernel
theorem dL_law_652 : decode cL_law 652 = .ok (.iconst 1, 1) := by decide +kernel
theorem dL_law_653 : decode cL_law 653 = .ok (.iadd, 1) := by decide +kernel
theorem dL_law_654 : decode cL_law 654 = .ok (.iaload, 1) := by decide +kernel
theorem dL_law_655 : decode cL_law 655 = .ok (.invokevirtual 78, 3) := by decide +kernel
theorem dL_law_658 : decode cL_law 658 = .ok (.if_icmp .eq 452, 3) := by decide +kernel
theorem dL_law_661 : decode cL_law 661 = .ok (.iconst 0, 1) := by decide +kernel
theorem dL_law_662 : decode cL_law 662 = .ok (.ireturn, 1) := by decide +kernel
theorem dL_law_663 : decode cL_law 663 = .ok (.aload_n 1, 1) := by decide +kernel
theorem dL_law_664 : decode cL_law 664 = .ok (.aload_n 0, 1) := by decide +kernel
theorem dL_law_665 : decode cL_law 665 = .ok (.iload_n 3, 1) := by decide +kernel
theorem dL_law_666 : decode cL_law 666 = .ok (.iconst 1, 1) := by decide +kernel
theorem dL_law_667 : decode cL_law 667 = .ok (.iadd, 1) := by decide +kernel
theorem dL_law_668 : decode cL_law 668 = .ok (.iaload, 1) := by decide +kernel
theorem dL_law_669 : decode cL_law 669 = .ok (.invokevirtual 79, 3) := by decide +kernel
theorem dL_law_672 : decode cL_law 672 = .ok (.aload_n 2, 1) := by decide +kernel
theorem dL_law_673 : decode cL_law 673 = .ok (.aload_n 0, 1) := by decide +kernel
theorem dL_law_674 : decode cL_law 674 = .ok (.iload_n 3, 1) := by decide +kernel
theorem dL_law_675 : decode cL_law 675 = .ok (.iconst 1, 1) := by decide +kernel
theorem dL_law_676 : decode cL_law 676 = .ok (.iadd, 1) := by decide +kernel
theorem dL_law_677 : decode cL_law 677 = .ok (.iaload, 1) := by decide +kernel
theorem dL_law_678 : decode cL_law 678 = .ok (.invokevirtual 82, 3) := by decide +kernel
theorem dL_law_681 : decode cL_law 681 = .ok (.if_icmp .eq 429, 3) := by decide +kernel
theorem dL_law_684 : decode cL_law 684 = .ok (.iconst 0, 1) := by decide +kernel
theorem dL_law_685 : decode cL_law 685 = .ok (.ireturn, 1) := by decide +kernel
theorem dL_law_686 : decode cL_law 686 = .ok (.aload_n 1, 1) := by decide +kernel
theorem dL_law_687 : decode cL_law 687 = .ok (.aload_n 0, 1) := by decide +kernel
theorem dL_law_688 : decode cL_law 688 = .ok (.iload_n 3, 1) := by decide +kernel
theorem dL_law_689 : decode cL_law 689 = .ok (.iconst 1, 1) := by decide +kernel
theorem dL_law_690 : decode cL_law 690 = .ok (.iadd, 1) := by decide +kernel
theorem dL_law_691 : decode cL_law 691 = .ok (.iaload, 1) := by decide +kernel
theorem dL_law_692 : decode cL_law 692 = .ok (.invokevirtual 83, 3) := by decide +kernel
theorem dL_law_695 : decode cL_law 695 = .ok (.aload_n 2, 1) := by decide +kernel
theorem dL_law_696 : decode cL_law 696 = .ok (.aload_n 0, 1) := by decide +kernel
theorem dL_law_697 : decode cL_law 697 = .ok (.iload_n 3, 1) := by decide +kernel
theorem dL_law_698 : decode cL_law 698 = .ok (.iconst 1, 1) := by decide +kernel
theorem dL_law_699 : decode cL_law 699 = .ok (.iadd, 1) := by decide +kernel
theorem dL_law_700 : decode cL_law 700 = .ok (.iaload, 1) := by decide +kernel
theorem dL_law_701 : decode cL_law 701 = .ok (.invokevirtual 86, 3) := by decide +kernel
theorem dL_law_704 : decode cL_law 704 = .ok (.if_icmp .eq 406, 3) := by decide +kernel
theorem dL_law_707 : decode cL_law 707 = .ok (.iconst 0, 1) := by decide +kernel
theorem dL_law_708 : decode cL_law 708 = .ok (.ireturn, 1) := by decide +kernel
theorem dL_law_709 : decode cL_law 709 = .ok (.aload_n 1, 1) := by decide +kernel
theorem dL_law_710 : decode cL_law 710 = .ok (.aload_n 0, 1) := by decide +kernel
theorem dL_law_711 : decode cL_law 711 = .ok (.iload_n 3, 1) := by decide +kernel
theorem dL_law_712 : decode cL_law 712 = .ok (.iconst 1, 1) := by decide +kernel
theorem dL_law_713 : decode cL_law 713 = .ok (.iadd, 1) := by decide +kernel
theorem dL_law_714 : decode cL_law 714 = .ok (.iaload, 1) := by decide +kernel
theorem dL_law_715 : decode cL_law 715 = .ok (.invokevirtual 87, 3) := by decide +kernel
theorem dL_law_718 : decode cL_law 718 = .ok (.aload_n 2, 1) := by decide +kernel
theorem dL_law_719 : decode cL_law 719 = .ok (.aload_n 0, 1) := by decide +kernel
theorem dL_law_720 : decode cL_law 720 = .ok (.iload_n 3, 1) := by decide +kernel
theorem dL_law_721 : decode cL_law 721 = .ok (.iconst 1, 1) := by decide +kernel
theorem dL_law_722 : decode cL_law 722 = .ok (.iadd, 1) := by decide +kernel
theorem dL_law_723 : decode cL_law 723 = .ok (.iaload, 1) := by decide +kernel
theorem dL_law_724 : decode cL_law 724 = .ok (.invokevirtual 90, 3) := by decide +kernel
theorem dL_law_727 : decode cL_law 727 = .ok (.if_icmp .eq 383, 3) := by decide +kernel
theorem dL_law_730 : decode cL_law 730 = .ok (.iconst 0, 1) := by decide +kernel
theorem dL_law_731 : decode cL_law 731 = .ok (.ireturn, 1) := by decide +kernel
theorem dL_law_732 : decode cL_law 732 = .ok (.aload_n 1, 1) := by decide +kernel
theorem dL_law_733 : decode cL_law 733 = .ok (.aload_n 0, 1) := by decide +kernel
theorem dL_law_734 : decode cL_law 734 = .ok (.iload_n 3, 1) := by decide +kernel
theorem dL_law_735 : decode cL_law 735 = .ok (.iconst 1, 1) := by decide +kernel
theorem dL_law_736 : decode cL_law 736 = .ok (.iadd, 1) := by decide +kernel
theorem dL_law_737 : decode cL_law 737 = .ok (.iaload, 1) := by decide +kernel
theorem dL_law_738 : decode cL_law 738 = .ok (.aload_n 0, 1) := by decide +kernel
theorem dL_law_739 : decode cL_law 739 = .ok (.iload_n 3, 1) := by decide +kernel
theorem dL_law_740 : decode cL_law 740 = .ok (.iconst 2, 1) := by decide +kernel
theorem dL_law_741 : decode cL_law 741 = .ok (.iadd, 1) := by decide +kernel
theorem dL_law_742 : decode cL_law 742 = .ok (.iaload, 1) := by decide +kernel
theorem dL_law_743 : decode cL_law 743 = .ok (.invokevirtual 91, 3) := by decide +kernel
theorem dL_law_746 : decode cL_law 746 = .ok (.aload_n 2, 1) := by decide +kernel
theorem dL_law_747 : decode cL_law 747 = .ok (.aload_n 0, 1) := by decide +kernel
theorem dL_law_748 : decode cL_law 748 = .ok (.iload_n 3, 1) := by decide +kernel
theorem dL_law_749 : decode cL_law 749 = .ok (.iconst 1, 1) := by decide +kernel
theorem dL_law_750 : decode cL_law 750 = .ok (.iadd, 1) := by decide +kernel
theorem dL_law_751 : decode cL_law 751 = .ok (.iaload, 1) := by decide +kernel
theorem dL_law_752 : decode cL_law 752 = .ok (.aload_n 0, 1) := by decide +kernel
theorem dL_law_753 : decode cL_law 753 = .ok (.iload_n 3, 1) := by decide +kernel
theorem dL_law_754 : decode cL_law 754 = .ok (.iconst 2, 1) := by decide +kernel
theorem dL_law_755 : decode cL_law 755 = .ok (.iadd, 1) := by decide +kernel
theorem dL_law_756 : decode cL_law 756 = .ok (.iaload, 1) := by decide +kernel
theorem dL_law_757 : decode cL_law 757 = .ok (.invokevirtual 95, 3) := by decide +kernel
theorem dL_law_760 : decode cL_law 760 = .ok (.lcmp, 1) := by decide +kernel
theorem dL_law_761 : decode cL_law 761 = .ok (.ifCond .eq 349, 3) := by decide +kernel
theorem dL_law_764 : decode cL_law 764 = .ok (.iconst 0, 1) := by decide +kernel
theorem dL_law_765 : decode cL_law 765 = .ok (.ireturn, 1) := by decide +kernel
theorem dL_law_766 : decode cL_law 766 = .ok (.aload_n 1, 1) := by decide +kernel
theorem dL_law_767 : decode cL_law 767 = .ok (.aload_n 0, 1) := by decide +kernel
theorem dL_law_768 : decode cL_law 768 = .ok (.iload_n 3, 1) := by decide +kernel
theorem dL_law_769 : decode cL_law 769 = .ok (.iconst 1, 1) := by decide +kernel
theorem dL_law_770 : decode cL_law 770 = .ok (.iadd, 1) := by decide +kernel
theorem dL_law_771 : decode cL_law 771 = .ok (.iaload, 1) := by decide +kernel
theorem dL_law_772 : decode cL_law 772 = .ok (.aload_n 0, 1) := by decide +kernel
theorem dL_law_773 : decode cL_law 773 = .ok (.iload_n 3, 1) := by decide +kernel
theorem dL_law_774 : decode cL_law 774 = .ok (.iconst 2, 1) := by decide +kernel
theorem dL_law_775 : decode cL_law 775 = .ok (.iadd, 1) := by decide +kernel
theorem dL_law_776 : decode cL_law 776 = .ok (.iaload, 1) := by decide +kernel
theorem dL_law_777 : decode cL_law 777 = .ok (.aload_n 0, 1) := by decide +kernel
theorem dL_law_778 : decode cL_law 778 = .ok (.iload_n 3, 1) := by decide +kernel
theorem dL_law_779 : decode cL_law 779 = .ok (.iconst 3, 1) := by decide +kernel
theorem dL_law_780 : decode cL_law 780 = .ok (.iadd, 1) := by decide +kernel
theorem dL_law_781 : decode cL_law 781 = .ok (.iaload, 1) := by decide +kernel
theorem dL_law_782 : decode cL_law 782 = .ok (.invokevirtual 96, 3) := by decide +kernel
theorem dL_law_785 : decode cL_law 785 = .ok (.aload_n 2, 1) := by decide +kernel
theorem dL_law_786 : decode cL_law 786 = .ok (.aload_n 0, 1) := by decide +kernel
theorem dL_law_787 : decode cL_law 787 = .ok (.iload_n 3, 1) := by decide +kernel
theorem dL_law_788 : decode cL_law 788 = .ok (.iconst 1, 1) := by decide +kernel
theorem dL_law_789 : decode cL_law 789 = .ok (.iadd, 1) := by decide +kernel
theorem dL_law_790 : decode cL_law 790 = .ok (.iaload, 1) := by decide +kernel
theorem dL_law_791 : decode cL_law 791 = .ok (.aload_n 0, 1) := by decide +kernel
theorem dL_law_792 : decode cL_law 792 = .ok (.iload_n 3, 1) := by decide +kernel
theorem dL_law_793 : decode cL_law 793 = .ok (.iconst 2, 1) := by decide +kernel
theorem dL_law_794 : decode cL_law 794 = .ok (.iadd, 1) := by decide +kernel
theorem dL_law_795 : decode cL_law 795 = .ok (.iaload, 1) := by decide +kernel
theorem dL_law_796 : decode cL_law 796 = .ok (.aload_n 0, 1) := by decide +kernel
theorem dL_law_797 : decode cL_law 797 = .ok (.iload_n 3, 1) := by decide +kernel
theorem dL_law_798 : decode cL_law 798 = .ok (.iconst 3, 1) := by decide +kernel
theorem dL_law_799 : decode cL_law 799 = .ok (.iadd, 1) := by decide +kernel
theorem dL_law_800 : decode cL_law 800 = .ok (.iaload, 1) := by decide +kernel
theorem dL_law_801 : decode cL_law 801 = .ok (.invokevirtual 99, 3) := by decide +kernel
theorem dL_law_804 : decode cL_law 804 = .ok (.if_icmp .eq 306, 3) := by decide +kernel
theorem dL_law_807 : decode cL_law 807 = .ok (.iconst 0, 1) := by decide +kernel
theorem dL_law_808 : decode cL_law 808 = .ok (.ireturn, 1) := by decide +kernel
theorem dL_law_809 : decode cL_law 809 = .ok (.aload_n 1, 1) := by decide +kernel
theorem dL_law_810 : decode cL_law 810 = .ok (.aload_n 0, 1) := by decide +kernel
theorem dL_law_811 : decode cL_law 811 = .ok (.iload_n 3, 1) := by decide +kernel
theorem dL_law_812 : decode cL_law 812 = .ok (.iconst 1, 1) := by decide +kernel
theorem dL_law_813 : decode cL_law 813 = .ok (.iadd, 1) := by decide +kernel
theorem dL_law_814 : decode cL_law 814 = .ok (.iaload, 1) := by decide +kernel
theorem dL_law_815 : decode cL_law 815 = .ok (.invokevirtual 100, 3) := by decide +kernel
theorem dL_law_818 : decode cL_law 818 = .ok (.aload_n 2, 1) := by decide +kernel
theorem dL_law_819 : decode cL_law 819 = .ok (.aload_n 0, 1) := by decide +kernel
theorem dL_law_820 : decode cL_law 820 = .ok (.iload_n 3, 1) := by decide +kernel
theorem dL_law_821 : decode cL_law 821 = .ok (.iconst 1, 1) := by decide +kernel
theorem dL_law_822 : decode cL_law 822 = .ok (.iadd, 1) := by decide +kernel
theorem dL_law_823 : decode cL_law 823 = .ok (.iaload, 1) := by decide +kernel
theorem dL_law_824 : decode cL_law 824 = .ok (.invokevirtual 103, 3) := by decide +kernel
theorem dL_law_827 : decode cL_law 827 = .ok (.if_icmp .eq 283, 3) := by decide +kernel
theorem dL_law_830 : decode cL_law 830 = .ok (.iconst 0, 1) := by decide +kernel
theorem dL_law_831 : decode cL_law 831 = .ok (.ireturn, 1) := by decide +kernel
theorem dL_law_832 : decode cL_law 832 = .ok (.aload_n 1, 1) := by decide +kernel
theorem dL_law_833 : decode cL_law 833 = .ok (.aload_n 0, 1) := by decide +kernel
theorem dL_law_834 : decode cL_law 834 = .ok (.iload_n 3, 1) := by decide +kernel
theorem dL_law_835 : decode cL_law 835 = .ok (.iconst 1, 1) := by decide +kernel
theorem dL_law_836 : decode cL_law 836 = .ok (.iadd, 1) := by decide +kernel
theorem dL_law_837 : decode cL_law 837 = .ok (.iaload, 1) := by decide +kernel
theorem dL_law_838 : decode cL_law 838 = .ok (.aload_n 0, 1) := by decide +kernel
theorem dL_law_839 : decode cL_law 839 = .ok (.iload_n 3, 1) := by decide +kernel
theorem dL_law_840 : decode cL_law 840 = .ok (.iconst 2, 1) := by decide +kernel
theorem dL_law_841 : decode cL_law 841 = .ok (.iadd, 1) := by decide +kernel
theorem dL_law_842 : decode cL_law 842 = .ok (.iaload, 1) := by decide +kernel
theorem dL_law_843 : decode cL_law 843 = .ok (.aload_n 0, 1) := by decide +kernel
theorem dL_law_844 : decode cL_law 844 = .ok (.iload_n 3, 1) := by decide +kernel
theorem dL_law_845 : decode cL_law 845 = .ok (.iconst 3, 1) := by decide +kernel
theorem dL_law_846 : decode cL_law 846 = .ok (.iadd, 1) := by decide +kernel
theorem dL_law_847 : decode cL_law 847 = .ok (.iaload, 1) := by decide +kernel
theorem dL_law_848 : decode cL_law 848 = .ok (.invokevirtual 104, 3) := by decide +kernel
theorem dL_law_851 : decode cL_law 851 = .ok (.aload_n 2, 1) := by decide +kernel
theorem dL_law_852 : decode cL_law 852 = .ok (.aload_n 0, 1) := by decide +kernel
theorem dL_law_853 : decode cL_law 853 = .ok (.iload_n 3, 1) := by decide +kernel
theorem dL_law_854 : decode cL_law 854 = .ok (.iconst 1, 1) := by decide +kernel
theorem dL_law_855 : decode cL_law 855 = .ok (.iadd, 1) := by decide +kernel
theorem dL_law_856 : decode cL_law 856 = .ok (.iaload, 1) := by decide +kernel
theorem dL_law_857 : decode cL_law 857 = .ok (.aload_n 0, 1) := by decide +kernel
theorem dL_law_858 : decode cL_law 858 = .ok (.iload_n 3, 1) := by decide +kernel
theorem dL_law_859 : decode cL_law 859 = .ok (.iconst 2, 1) := by decide +kernel
theorem dL_law_860 : decode cL_law 860 = .ok (.iadd, 1) := by decide +kernel
theorem dL_law_861 : decode cL_law 861 = .ok (.iaload, 1) := by decide +kernel
theorem dL_law_862 : decode cL_law 862 = .ok (.aload_n 0, 1) := by decide +kernel
theorem dL_law_863 : decode cL_law 863 = .ok (.iload_n 3, 1) := by decide +kernel
theorem dL_law_864 : decode cL_law 864 = .ok (.iconst 3, 1) := by decide +kernel
theorem dL_law_865 : decode cL_law 865 = .ok (.iadd, 1) := by decide +kernel
theorem dL_law_866 : decode cL_law 866 = .ok (.iaload, 1) := by decide +kernel
theorem dL_law_867 : decode cL_law 867 = .ok (.invokevirtual 107, 3) := by decide +kernel
theorem dL_law_870 : decode cL_law 870 = .ok (.if_icmp .eq 240, 3) := by decide +kernel
theorem dL_law_873 : decode cL_law 873 = .ok (.iconst 0, 1) := by decide +kernel
theorem dL_law_874 : decode cL_law 874 = .ok (.ireturn, 1) := by decide +kernel
theorem dL_law_875 : decode cL_law 875 = .ok (.aload_n 1, 1) := by decide +kernel
theorem dL_law_876 : decode cL_law 876 = .ok (.aload_n 0, 1) := by decide +kernel
theorem dL_law_877 : decode cL_law 877 = .ok (.iload_n 3, 1) := by decide +kernel
theorem dL_law_878 : decode cL_law 878 = .ok (.iconst 1, 1) := by decide +kernel
theorem dL_law_879 : decode cL_law 879 = .ok (.iadd, 1) := by decide +kernel
theorem dL_law_880 : decode cL_law 880 = .ok (.iaload, 1) := by decide +kernel
theorem dL_law_881 : decode cL_law 881 = .ok (.aload_n 0, 1) := by decide +kernel
theorem dL_law_882 : decode cL_law 882 = .ok (.iload_n 3, 1) := by decide +kernel
theorem dL_law_883 : decode cL_law 883 = .ok (.iconst 2, 1) := by decide +kernel
theorem dL_law_884 : decode cL_law 884 = .ok (.iadd, 1) := by decide +kernel
theorem dL_law_885 : decode cL_law 885 = .ok (.iaload, 1) := by decide +kernel
theorem dL_law_886 : decode cL_law 886 = .ok (.aload_n 0, 1) := by decide +kernel
theorem dL_law_887 : decode cL_law 887 = .ok (.iload_n 3, 1) := by decide +kernel
theorem dL_law_888 : decode cL_law 888 = .ok (.iconst 3, 1) := by decide +kernel
theorem dL_law_889 : decode cL_law 889 = .ok (.iadd, 1) := by decide +kernel
theorem dL_law_890 : decode cL_law 890 = .ok (.iaload, 1) := by decide +kernel
theorem dL_law_891 : decode cL_law 891 = .ok (.invokevirtual 108, 3) := by decide +kernel
theorem dL_law_894 : decode cL_law 894 = .ok (.aload_n 2, 1) := by decide +kernel
theorem dL_law_895 : decode cL_law 895 = .ok (.aload_n 0, 1) := by decide +kernel
theorem dL_law_896 : decode cL_law 896 = .ok (.iload_n 3, 1) := by decide +kernel
theorem dL_law_897 : decode cL_law 897 = .ok (.iconst 1, 1) := by decide +kernel
theorem dL_law_898 : decode cL_law 898 = .ok (.iadd, 1) := by decide +kernel
theorem dL_law_899 : decode cL_law 899 = .ok (.iaload, 1) := by decide +kernel
theorem dL_law_900 : decode cL_law 900 = .ok (.aload_n 0, 1) := by decide +kernel
theorem dL_law_901 : decode cL_law 901 = .ok (.iload_n 3, 1) := by decide +kernel
theorem dL_law_902 : decode cL_law 902 = .ok (.iconst 2, 1) := by decide +kernel
theorem dL_law_903 : decode cL_law 903 = .ok (.iadd, 1) := by decide +kernel
theorem dL_law_904 : decode cL_law 904 = .ok (.iaload, 1) := by decide +kernel
theorem dL_law_905 : decode cL_law 905 = .ok (.aload_n 0, 1) := by decide +kernel
theorem dL_law_906 : decode cL_law 906 = .ok (.iload_n 3, 1) := by decide +kernel
theorem dL_law_907 : decode cL_law 907 = .ok (.iconst 3, 1) := by decide +kernel
theorem dL_law_908 : decode cL_law 908 = .ok (.iadd, 1) := by decide +kernel
theorem dL_law_909 : decode cL_law 909 = .ok (.iaload, 1) := by decide +kernel
theorem dL_law_910 : decode cL_law 910 = .ok (.invokevirtual 112, 3) := by decide +kernel
theorem dL_law_913 : decode cL_law 913 = .ok (.lcmp, 1) := by decide +kernel
theorem dL_law_914 : decode cL_law 914 = .ok (.ifCond .eq 196, 3) := by decide +kernel
theorem dL_law_917 : decode cL_law 917 = .ok (.iconst 0, 1) := by decide +kernel
theorem dL_law_918 : decode cL_law 918 = .ok (.ireturn, 1) := by decide +kernel
theorem dL_law_919 : decode cL_law 919 = .ok (.aload_n 1, 1) := by decide +kernel
theorem dL_law_920 : decode cL_law 920 = .ok (.aload_n 0, 1) := by decide +kernel
theorem dL_law_921 : decode cL_law 921 = .ok (.iload_n 3, 1) := by decide +kernel
theorem dL_law_922 : decode cL_law 922 = .ok (.iconst 1, 1) := by decide +kernel
theorem dL_law_923 : decode cL_law 923 = .ok (.iadd, 1) := by decide +kernel
theorem dL_law_924 : decode cL_law 924 = .ok (.iaload, 1) := by decide +kernel
theorem dL_law_925 : decode cL_law 925 = .ok (.aload_n 0, 1) := by decide +kernel
theorem dL_law_926 : decode cL_law 926 = .ok (.iload_n 3, 1) := by decide +kernel
theorem dL_law_927 : decode cL_law 927 = .ok (.iconst 2, 1) := by decide +kernel
theorem dL_law_928 : decode cL_law 928 = .ok (.iadd, 1) := by decide +kernel
theorem dL_law_929 : decode cL_law 929 = .ok (.iaload, 1) := by decide +kernel
theorem dL_law_930 : decode cL_law 930 = .ok (.aload_n 0, 1) := by decide +kernel
theorem dL_law_931 : decode cL_law 931 = .ok (.iload_n 3, 1) := by decide +kernel
theorem dL_law_932 : decode cL_law 932 = .ok (.iconst 3, 1) := by decide +kernel
theorem dL_law_933 : decode cL_law 933 = .ok (.iadd, 1) := by decide +kernel
theorem dL_law_934 : decode cL_law 934 = .ok (.iaload, 1) := by decide +kernel
theorem dL_law_935 : decode cL_law 935 = .ok (.aload_n 0, 1) := by decide +kernel
theorem dL_law_936 : decode cL_law 936 = .ok (.iload_n 3, 1) := by decide +kernel
theorem dL_law_937 : decode cL_law 937 = .ok (.iconst 4, 1) := by decide +kernel
theorem dL_law_938 : decode cL_law 938 = .ok (.iadd, 1) := by decide +kernel
theorem dL_law_939 : decode cL_law 939 = .ok (.iaload, 1) := by decide +kernel
theorem dL_law_940 : decode cL_law 940 = .ok (.aload_n 0, 1) := by decide +kernel
theorem dL_law_941 : decode cL_law 941 = .ok (.iload_n 3, 1) := by decide +kernel
theorem dL_law_942 : decode cL_law 942 = .ok (.iconst 5, 1) := by decide +kernel
theorem dL_law_943 : decode cL_law 943 = .ok (.iadd, 1) := by decide +kernel
theorem dL_law_944 : decode cL_law 944 = .ok (.iaload, 1) := by decide +kernel
theorem dL_law_945 : decode cL_law 945 = .ok (.invokevirtual 113, 3) := by decide +kernel
theorem dL_law_948 : decode cL_law 948 = .ok (.aload_n 2, 1) := by decide +kernel
theorem dL_law_949 : decode cL_law 949 = .ok (.aload_n 0, 1) := by decide +kernel
theorem dL_law_950 : decode cL_law 950 = .ok (.iload_n 3, 1) := by decide +kernel
theorem dL_law_951 : decode cL_law 951 = .ok (.iconst 1, 1) := by decide +kernel
theorem dL_law_952 : decode cL_law 952 = .ok (.iadd, 1) := by decide +kernel
theorem dL_law_953 : decode cL_law 953 = .ok (.iaload, 1) := by decide +kernel
theorem dL_law_954 : decode cL_law 954 = .ok (.aload_n 0, 1) := by decide +kernel
theorem dL_law_955 : decode cL_law 955 = .ok (.iload_n 3, 1) := by decide +kernel
theorem dL_law_956 : decode cL_law 956 = .ok (.iconst 2, 1) := by decide +kernel
theorem dL_law_957 : decode cL_law 957 = .ok (.iadd, 1) := by decide +kernel
theorem dL_law_958 : decode cL_law 958 = .ok (.iaload, 1) := by decide +kernel
theorem dL_law_959 : decode cL_law 959 = .ok (.aload_n 0, 1) := by decide +kernel
theorem dL_law_960 : decode cL_law 960 = .ok (.iload_n 3, 1) := by decide +kernel
theorem dL_law_961 : decode cL_law 961 = .ok (.iconst 3, 1) := by decide +kernel
theorem dL_law_962 : decode cL_law 962 = .ok (.iadd, 1) := by decide +kernel
theorem dL_law_963 : decode cL_law 963 = .ok (.iaload, 1) := by decide +kernel
theorem dL_law_964 : decode cL_law 964 = .ok (.aload_n 0, 1) := by decide +kernel
theorem dL_law_965 : decode cL_law 965 = .ok (.iload_n 3, 1) := by decide +kernel
theorem dL_law_966 : decode cL_law 966 = .ok (.iconst 4, 1) := by decide +kernel
theorem dL_law_967 : decode cL_law 967 = .ok (.iadd, 1) := by decide +kernel
theorem dL_law_968 : decode cL_law 968 = .ok (.iaload, 1) := by decide +kernel
theorem dL_law_969 : decode cL_law 969 = .ok (.aload_n 0, 1) := by decide +kernel
theorem dL_law_970 : decode cL_law 970 = .ok (.iload_n 3, 1) := by decide +kernel
theorem dL_law_971 : decode cL_law 971 = .ok (.iconst 5, 1) := by decide +kernel
theorem dL_law_972 : decode cL_law 972 = .ok (.iadd, 1) := by decide +kernel
theorem dL_law_973 : decode cL_law 973 = .ok (.iaload, 1) := by decide +kernel
theorem dL_law_974 : decode cL_law 974 = .ok (.invokevirtual 116, 3) := by decide +kernel
theorem dL_law_977 : decode cL_law 977 = .ok (.if_icmp .eq 133, 3) := by decide +kernel
theorem dL_law_980 : decode cL_law 980 = .ok (.iconst 0, 1) := by decide +kernel
theorem dL_law_981 : decode cL_law 981 = .ok (.ireturn, 1) := by decide +kernel
theorem dL_law_982 : decode cL_law 982 = .ok (.aload_n 1, 1) := by decide +kernel
theorem dL_law_983 : decode cL_law 983 = .ok (.aload_n 0, 1) := by decide +kernel
theorem dL_law_984 : decode cL_law 984 = .ok (.iload_n 3, 1) := by decide +kernel
theorem dL_law_985 : decode cL_law 985 = .ok (.iconst 1, 1) := by decide +kernel
theorem dL_law_986 : decode cL_law 986 = .ok (.iadd, 1) := by decide +kernel
theorem dL_law_987 : decode cL_law 987 = .ok (.iaload, 1) := by decide +kernel
theorem dL_law_988 : decode cL_law 988 = .ok (.invokevirtual 117, 3) := by decide +kernel
theorem dL_law_991 : decode cL_law 991 = .ok (.aload_n 2, 1) := by decide +kernel
theorem dL_law_992 : decode cL_law 992 = .ok (.aload_n 0, 1) := by decide +kernel
theorem dL_law_993 : decode cL_law 993 = .ok (.iload_n 3, 1) := by decide +kernel
theorem dL_law_994 : decode cL_law 994 = .ok (.iconst 1, 1) := by decide +kernel
theorem dL_law_995 : decode cL_law 995 = .ok (.iadd, 1) := by decide +kernel
theorem dL_law_996 : decode cL_law 996 = .ok (.iaload, 1) := by decide +kernel
theorem dL_law_997 : decode cL_law 997 = .ok (.invokevirtual 120, 3) := by decide +kernel
theorem dL_law_1000 : decode cL_law 1000 = .ok (.if_icmp .eq 110, 3) := by decide +kernel
theorem dL_law_1003 : decode cL_law 1003 = .ok (.iconst 0, 1) := by decide +kernel
theorem dL_law_1004 : decode cL_law 1004 = .ok (.ireturn, 1) := by decide +kernel
theorem dL_law_1005 : decode cL_law 1005 = .ok (.aload_n 1, 1) := by decide +kernel
theorem dL_law_1006 : decode cL_law 1006 = .ok (.aload_n 0, 1) := by decide +kernel
theorem dL_law_1007 : decode cL_law 1007 = .ok (.iload_n 3, 1) := by decide +kernel
theorem dL_law_1008 : decode cL_law 1008 = .ok (.iconst 1, 1) := by decide +kernel
theorem dL_law_1009 : decode cL_law 1009 = .ok (.iadd, 1) := by decide +kernel
theorem dL_law_1010 : decode cL_law 1010 = .ok (.iaload, 1) := by decide +kernel
theorem dL_law_1011 : decode cL_law 1011 = .ok (.invokevirtual 121, 3) := by decide +kernel
theorem dL_law_1014 : decode cL_law 1014 = .ok (.aload_n 2, 1) := by decide +kernel
theorem dL_law_1015 : decode cL_law 1015 = .ok (.aload_n 0, 1) := by decide +kernel
theorem dL_law_1016 : decode cL_law 1016 = .ok (.iload_n 3, 1) := by decide +kernel
theorem dL_law_1017 : decode cL_law 1017 = .ok (.iconst 1, 1) := by decide +kernel
theorem dL_law_1018 : decode cL_law 1018 = .ok (.iadd, 1) := by decide +kernel
theorem dL_law_1019 : decode cL_law 1019 = .ok (.iaload, 1) := by decide +kernel
theorem dL_law_1020 : decode cL_law 1020 = .ok (.invokevirtual 124, 3) := by decide +kernel
theorem dL_law_1023 : decode cL_law 1023 = .ok (.if_icmp .eq 87, 3) := by decide +kernel
theorem dL_law_1026 : decode cL_law 1026 = .ok (.iconst 0, 1) := by decide +kernel
theorem dL_law_1027 : decode cL_law 1027 = .ok (.ireturn, 1) := by decide +kernel
theorem dL_law_1028 : decode cL_law 1028 = .ok (.aload_n 1, 1) := by decide +kernel
theorem dL_law_1029 : decode cL_law 1029 = .ok (.aload_n 0, 1) := by decide +kernel
theorem dL_law_1030 : decode cL_law 1030 = .ok (.iload_n 3, 1) := by decide +kernel
theorem dL_law_1031 : decode cL_law 1031 = .ok (.iconst 1, 1) := by decide +kernel
theorem dL_law_1032 : decode cL_law 1032 = .ok (.iadd, 1) := by decide +kernel
theorem dL_law_1033 : decode cL_law 1033 = .ok (.iaload, 1) := by decide +kernel
theorem dL_law_1034 : decode cL_law 1034 = .ok (.aload_n 0, 1) := by decide +kernel
theorem dL_law_1035 : decode cL_law 1035 = .ok (.iload_n 3, 1) := by decide +kernel
theorem dL_law_1036 : decode cL_law 1036 = .ok (.iconst 2, 1) := by decide +kernel
theorem dL_law_1037 : decode cL_law 1037 = .ok (.iadd, 1) := by decide +kernel
theorem dL_law_1038 : decode cL_law 1038 = .ok (.iaload, 1) := by decide +kernel
theorem dL_law_1039 : decode cL_law 1039 = .ok (.invokevirtual 125, 3) := by decide +kernel
theorem dL_law_1042 : decode cL_law 1042 = .ok (.aload_n 2, 1) := by decide +kernel
theorem dL_law_1043 : decode cL_law 1043 = .ok (.aload_n 0, 1) := by decide +kernel
theorem dL_law_1044 : decode cL_law 1044 = .ok (.iload_n 3, 1) := by decide +kernel
theorem dL_law_1045 : decode cL_law 1045 = .ok (.iconst 1, 1) := by decide +kernel
theorem dL_law_1046 : decode cL_law 1046 = .ok (.iadd, 1) := by decide +kernel
theorem dL_law_1047 : decode cL_law 1047 = .ok (.iaload, 1) := by decide +kernel
theorem dL_law_1048 : decode cL_law 1048 = .ok (.aload_n 0, 1) := by decide +kernel
theorem dL_law_1049 : decode cL_law 1049 = .ok (.iload_n 3, 1) := by decide +kernel
theorem dL_law_1050 : decode cL_law 1050 = .ok (.iconst 2, 1) := by decide +kernel
theorem dL_law_1051 : decode cL_law 1051 = .ok (.iadd, 1) := by decide +kernel
theorem dL_law_1052 : decode cL_law 1052 = .ok (.iaload, 1) := by decide +kernel
theorem dL_law_1053 : decode cL_law 1053 = .ok (.invokevirtual 128, 3) := by decide +kernel
theorem dL_law_1056 : decode cL_law 1056 = .ok (.if_icmp .eq 54, 3) := by decide +kernel
theorem dL_law_1059 : decode cL_law 1059 = .ok (.iconst 0, 1) := by decide +kernel
theorem dL_law_1060 : decode cL_law 1060 = .ok (.ireturn, 1) := by decide +kernel
theorem dL_law_1061 : decode cL_law 1061 = .ok (.aload_n 1, 1) := by decide +kernel
theorem dL_law_1062 : decode cL_law 1062 = .ok (.invokevirtual 129, 3) := by decide +kernel
theorem dL_law_1065 : decode cL_law 1065 = .ok (.aload_n 2, 1) := by decide +kernel
theorem dL_law_1066 : decode cL_law 1066 = .ok (.invokevirtual 132, 3) := by decide +kernel
theorem dL_law_1069 : decode cL_law 1069 = .ok (.if_icmp .eq 41, 3) := by decide +kernel
theorem dL_law_1072 : decode cL_law 1072 = .ok (.iconst 0, 1) := by decide +kernel
theorem dL_law_1073 : decode cL_law 1073 = .ok (.ireturn, 1) := by decide +kernel
theorem dL_law_1074 : decode cL_law 1074 = .ok (.aload_n 1, 1) := by decide +kernel
theorem dL_law_1075 : decode cL_law 1075 = .ok (.invokevirtual 133, 3) := by decide +kernel
theorem dL_law_1078 : decode cL_law 1078 = .ok (.aload_n 2, 1) := by decide +kernel
theorem dL_law_1079 : decode cL_law 1079 = .ok (.invokevirtual 136, 3) := by decide +kernel
theorem dL_law_1082 : decode cL_law 1082 = .ok (.if_icmp .eq 28, 3) := by decide +kernel
theorem dL_law_1085 : decode cL_law 1085 = .ok (.iconst 0, 1) := by decide +kernel
theorem dL_law_1086 : decode cL_law 1086 = .ok (.ireturn, 1) := by decide +kernel
theorem dL_law_1087 : decode cL_law 1087 = .ok (.aload_n 1, 1) := by decide +kernel
theorem dL_law_1088 : decode cL_law 1088 = .ok (.aload_n 0, 1) := by decide +kernel
theorem dL_law_1089 : decode cL_law 1089 = .ok (.iload_n 3, 1) := by decide +kernel
theorem dL_law_1090 : decode cL_law 1090 = .ok (.iconst 1, 1) := by decide +kernel
theorem dL_law_1091 : decode cL_law 1091 = .ok (.iadd, 1) := by decide +kernel
theorem dL_law_1092 : decode cL_law 1092 = .ok (.iaload, 1) := by decide +kernel
theorem dL_law_1093 : decode cL_law 1093 = .ok (.invokevirtual 137, 3) := by decide +kernel
theorem dL_law_1096 : decode cL_law 1096 = .ok (.aload_n 2, 1) := by decide +kernel
theorem dL_law_1097 : decode cL_law 1097 = .ok (.aload_n 0, 1) := by decide +kernel
theorem dL_law_1098 : decode cL_law 1098 = .ok (.iload_n 3, 1) := by decide +kernel
theorem dL_law_1099 : decode cL_law 1099 = .ok (.iconst 1, 1) := by decide +kernel
theorem dL_law_1100 : decode cL_law 1100 = .ok (.iadd, 1) := by decide +kernel
theorem dL_law_1101 : decode cL_law 1101 = .ok (.iaload, 1) := by decide +kernel
theorem dL_law_1102 : decode cL_law 1102 = .ok (.invokevirtual 140, 3) := by decide +kernel
theorem dL_law_1105 : decode cL_law 1105 = .ok (.if_icmp .eq 5, 3) := by decide +kernel
theorem dL_law_1108 : decode cL_law 1108 = .ok (.iconst 0, 1) := by decide +kernel
theorem dL_law_1109 : decode cL_law 1109 = .ok (.ireturn, 1) := by decide +kernel
theorem dL_law_1110 : decode cL_law 1110 = .ok (.iinc 3 6, 3) := by decide +kernel
theorem dL_law_1113 : decode cL_law 1113 = .ok (.goto (-1095), 3) := by decide +kernel
theorem dL_law_1116 : decode cL_law 1116 = .ok (.iconst 1, 1) := by decide +kernel
theorem dL_law_1117 : decode cL_law 1117 = .ok (.ireturn, 1) := by decide +kernel
end
section
/-- the tables' words that stay true -/
def gtbl : List Cond := lw_tbl.filter goodWord
theorem gm {w : Cond} (h : w ∈ lw_tbl) (hg : goodWord w = true) : w ∈ gtbl := List.mem_filter.mpr ⟨h, hg⟩
theorem gtbl_lw {w : Cond} (h : w ∈ gtbl) : w ∈ lw_tbl := (List.mem_filter.mp h).1
theorem gtbl_good {w : Cond} (h : w ∈ gtbl) : (w.onTables && w.keeps) = true ∨ ∃ ty, w = .arrayClass ty := good_of_word (List.mem_filter.mp h).2
theorem uSEL_X6_sheetAt : (.selects RX6 yX6_sheetAt yX6_sheetAt : Cond) ∈ gtbl := gm (List.mem_of_getElem? (i := 0) (by decide +kernel)) (by decide +kernel)
theorem uSEL_X6_faulted : (.selects RX6 yX6_faulted yX6_faulted : Cond) ∈ gtbl := gm (List.mem_of_getElem? (i := 1) (by decide +kernel)) (by decide +kernel)
theorem uSEL_X5_codeAt : (.selects RX5 yX5_codeAt yX5_codeAt : Cond) ∈ gtbl := gm (List.mem_of_getElem? (i := 2) (by decide +kernel)) (by decide +kernel)
theorem uSEL_X5_isDigit : (.selects RX5 yX5_isDigit yX5_isDigit : Cond) ∈ gtbl := gm (List.mem_of_getElem? (i := 3) (by decide +kernel)) (by decide +kernel)
theorem uSEL_X5_placeOf : (.selects RX5 yX5_placeOf yX5_placeOf : Cond) ∈ gtbl := gm (List.mem_of_getElem? (i := 4) (by decide +kernel)) (by decide +kernel)
theorem uSEL_X5_faultInSwitch : (.selects RX5 yX5_faultInSwitch yX5_faultInSwitch : Cond) ∈ gtbl := gm (List.mem_of_getElem? (i := 5) (by decide +kernel)) (by decide +kernel)
theorem uSEL_X5_wiresFrom : (.selects RX5 yX5_wiresFrom yX5_wiresFrom : Cond) ∈ gtbl := gm (List.mem_of_getElem? (i := 6) (by decide +kernel)) (by decide +kernel)
theorem uSEL_X6_refusalOfPairs : (.selects RX6 yX6_refusalOfPairs yX6_refusalOfPairs : Cond) ∈ gtbl := gm (List.mem_of_getElem? (i := 7) (by decide +kernel)) (by decide +kernel)
theorem uSEL_X6_refusalOfPair : (.selects RX6 yX6_refusalOfPair yX6_refusalOfPair : Cond) ∈ gtbl := gm (List.mem_of_getElem? (i := 8) (by decide +kernel)) (by decide +kernel)
theorem uSEL_X0_happens : (.selects RX0 yX0_happens yX0_happens : Cond) ∈ gtbl := gm (List.mem_of_getElem? (i := 9) (by decide +kernel)) (by decide +kernel)
theorem uSEL_X6_ofDay : (.selects RX6 yX6_ofDay yX6_ofDay : Cond) ∈ gtbl := gm (List.mem_of_getElem? (i := 10) (by decide +kernel)) (by decide +kernel)
theorem uSEL_X2_spread : (.selects RX2 yX2_spread yX2_spread : Cond) ∈ gtbl := gm (List.mem_of_getElem? (i := 11) (by decide +kernel)) (by decide +kernel)
theorem uSEL_X2_measure : (.selects RX2 yX2_measure yX2_measure : Cond) ∈ gtbl := gm (List.mem_of_getElem? (i := 12) (by decide +kernel)) (by decide +kernel)
theorem uSEL_X2_meet : (.selects RX2 yX2_meet yX2_meet : Cond) ∈ gtbl := gm (List.mem_of_getElem? (i := 13) (by decide +kernel)) (by decide +kernel)
theorem uSEL_X2_splitUp : (.selects RX2 yX2_splitUp yX2_splitUp : Cond) ∈ gtbl := gm (List.mem_of_getElem? (i := 14) (by decide +kernel)) (by decide +kernel)
theorem uSEL_X2_numberBy : (.selects RX2 yX2_numberBy yX2_numberBy : Cond) ∈ gtbl := gm (List.mem_of_getElem? (i := 15) (by decide +kernel)) (by decide +kernel)
theorem uSEL_X2_fewestTo : (.selects RX2 yX2_fewestTo yX2_fewestTo : Cond) ∈ gtbl := gm (List.mem_of_getElem? (i := 16) (by decide +kernel)) (by decide +kernel)
theorem uSEL_X2_numberOf : (.selects RX2 yX2_numberOf yX2_numberOf : Cond) ∈ gtbl := gm (List.mem_of_getElem? (i := 17) (by decide +kernel)) (by decide +kernel)
theorem uSEL_X2_firstThatLeaves : (.selects RX2 yX2_firstThatLeaves yX2_firstThatLeaves : Cond) ∈ gtbl := gm (List.mem_of_getElem? (i := 18) (by decide +kernel)) (by decide +kernel)
theorem uSEL_X6_fitting : (.selects RX6 yX6_fitting yX6_fitting : Cond) ∈ gtbl := gm (List.mem_of_getElem? (i := 19) (by decide +kernel)) (by decide +kernel)
theorem uSEL_X4_cut : (.selects RX4 yX4_cut yX4_cut : Cond) ∈ gtbl := gm (List.mem_of_getElem? (i := 20) (by decide +kernel)) (by decide +kernel)
theorem uSEL_X6_doubleBody : (.selects RX6 yX6_doubleBody yX6_doubleBody : Cond) ∈ gtbl := gm (List.mem_of_getElem? (i := 21) (by decide +kernel)) (by decide +kernel)
theorem uSEL_X6_leave : (.selects RX6 yX6_leave yX6_leave : Cond) ∈ gtbl := gm (List.mem_of_getElem? (i := 22) (by decide +kernel)) (by decide +kernel)
theorem uSEL_X6_broadBody : (.selects RX6 yX6_broadBody yX6_broadBody : Cond) ∈ gtbl := gm (List.mem_of_getElem? (i := 23) (by decide +kernel)) (by decide +kernel)
theorem uSEL_X6_plainBody : (.selects RX6 yX6_plainBody yX6_plainBody : Cond) ∈ gtbl := gm (List.mem_of_getElem? (i := 24) (by decide +kernel)) (by decide +kernel)
theorem uSEL_X6_ownBody : (.selects RX6 yX6_ownBody yX6_ownBody : Cond) ∈ gtbl := gm (List.mem_of_getElem? (i := 25) (by decide +kernel)) (by decide +kernel)
theorem uSEL_X6_lentBody : (.selects RX6 yX6_lentBody yX6_lentBody : Cond) ∈ gtbl := gm (List.mem_of_getElem? (i := 26) (by decide +kernel)) (by decide +kernel)
theorem uSEL_X7_against : (.selects RX7 yX7_against yX7_against : Cond) ∈ gtbl := gm (List.mem_of_getElem? (i := 27) (by decide +kernel)) (by decide +kernel)
theorem uSEL_X7_fails : (.selects RX7 yX7_fails yX7_fails : Cond) ∈ gtbl := gm (List.mem_of_getElem? (i := 28) (by decide +kernel)) (by decide +kernel)
theorem uSEL_X7_readHall : (.selects RX7 yX7_readHall yX7_readHall : Cond) ∈ gtbl := gm (List.mem_of_getElem? (i := 29) (by decide +kernel)) (by decide +kernel)
theorem uSEL_X7_isSign : (.selects RX7 yX7_isSign yX7_isSign : Cond) ∈ gtbl := gm (List.mem_of_getElem? (i := 30) (by decide +kernel)) (by decide +kernel)
theorem uSEL_X7_digit : (.selects RX7 yX7_digit yX7_digit : Cond) ∈ gtbl := gm (List.mem_of_getElem? (i := 31) (by decide +kernel)) (by decide +kernel)
theorem uSEL_X7_readSwitch : (.selects RX7 yX7_readSwitch yX7_readSwitch : Cond) ∈ gtbl := gm (List.mem_of_getElem? (i := 32) (by decide +kernel)) (by decide +kernel)
theorem uSEL_X7_takeHall : (.selects RX7 yX7_takeHall yX7_takeHall : Cond) ∈ gtbl := gm (List.mem_of_getElem? (i := 33) (by decide +kernel)) (by decide +kernel)
theorem uSEL_X7_isLamp : (.selects RX7 yX7_isLamp yX7_isLamp : Cond) ∈ gtbl := gm (List.mem_of_getElem? (i := 34) (by decide +kernel)) (by decide +kernel)
theorem uSEL_X7_wiredTo : (.selects RX7 yX7_wiredTo yX7_wiredTo : Cond) ∈ gtbl := gm (List.mem_of_getElem? (i := 35) (by decide +kernel)) (by decide +kernel)
theorem uSEL_X7_isSwitch : (.selects RX7 yX7_isSwitch yX7_isSwitch : Cond) ∈ gtbl := gm (List.mem_of_getElem? (i := 36) (by decide +kernel)) (by decide +kernel)
theorem uSEL_X7_movesOf : (.selects RX7 yX7_movesOf yX7_movesOf : Cond) ∈ gtbl := gm (List.mem_of_getElem? (i := 37) (by decide +kernel)) (by decide +kernel)
theorem uSEL_X7_turnsAll : (.selects RX7 yX7_turnsAll yX7_turnsAll : Cond) ∈ gtbl := gm (List.mem_of_getElem? (i := 38) (by decide +kernel)) (by decide +kernel)
theorem uSEL_X7_darkNow : (.selects RX7 yX7_darkNow yX7_darkNow : Cond) ∈ gtbl := gm (List.mem_of_getElem? (i := 39) (by decide +kernel)) (by decide +kernel)
theorem uSEL_X7_refusesPair : (.selects RX7 yX7_refusesPair yX7_refusesPair : Cond) ∈ gtbl := gm (List.mem_of_getElem? (i := 40) (by decide +kernel)) (by decide +kernel)
theorem uSEL_X7_keep : (.selects RX7 yX7_keep yX7_keep : Cond) ∈ gtbl := gm (List.mem_of_getElem? (i := 41) (by decide +kernel)) (by decide +kernel)
theorem uSEL_X7_goDay : (.selects RX7 yX7_goDay yX7_goDay : Cond) ∈ gtbl := gm (List.mem_of_getElem? (i := 42) (by decide +kernel)) (by decide +kernel)
theorem uSEL_X7_does : (.selects RX7 yX7_does yX7_does : Cond) ∈ gtbl := gm (List.mem_of_getElem? (i := 43) (by decide +kernel)) (by decide +kernel)
theorem uSEL_X7_tellDay : (.selects RX7 yX7_tellDay yX7_tellDay : Cond) ∈ gtbl := gm (List.mem_of_getElem? (i := 44) (by decide +kernel)) (by decide +kernel)
theorem uSEL_X7_allShades : (.selects RX7 yX7_allShades yX7_allShades : Cond) ∈ gtbl := gm (List.mem_of_getElem? (i := 45) (by decide +kernel)) (by decide +kernel)
theorem uSEL_X7_putBack : (.selects RX7 yX7_putBack yX7_putBack : Cond) ∈ gtbl := gm (List.mem_of_getElem? (i := 46) (by decide +kernel)) (by decide +kernel)
theorem uSEL_X7_findFar : (.selects RX7 yX7_findFar yX7_findFar : Cond) ∈ gtbl := gm (List.mem_of_getElem? (i := 47) (by decide +kernel)) (by decide +kernel)
theorem uSEL_X7_manyOf : (.selects RX7 yX7_manyOf yX7_manyOf : Cond) ∈ gtbl := gm (List.mem_of_getElem? (i := 48) (by decide +kernel)) (by decide +kernel)
theorem uSEL_X7_movedBy : (.selects RX7 yX7_movedBy yX7_movedBy : Cond) ∈ gtbl := gm (List.mem_of_getElem? (i := 49) (by decide +kernel)) (by decide +kernel)
theorem uSEL_X7_onTo : (.selects RX7 yX7_onTo yX7_onTo : Cond) ∈ gtbl := gm (List.mem_of_getElem? (i := 50) (by decide +kernel)) (by decide +kernel)
theorem uSEL_X7_fewestOf : (.selects RX7 yX7_fewestOf yX7_fewestOf : Cond) ∈ gtbl := gm (List.mem_of_getElem? (i := 51) (by decide +kernel)) (by decide +kernel)
theorem uSEL_X7_findMany : (.selects RX7 yX7_findMany yX7_findMany : Cond) ∈ gtbl := gm (List.mem_of_getElem? (i := 52) (by decide +kernel)) (by decide +kernel)
theorem uSEL_X7_areSo : (.selects RX7 yX7_areSo yX7_areSo : Cond) ∈ gtbl := gm (List.mem_of_getElem? (i := 53) (by decide +kernel)) (by decide +kernel)
theorem uSEL_X7_lost : (.selects RX7 yX7_lost yX7_lost : Cond) ∈ gtbl := gm (List.mem_of_getElem? (i := 54) (by decide +kernel)) (by decide +kernel)
theorem uSEL_X7_begins : (.selects RX7 yX7_begins yX7_begins : Cond) ∈ gtbl := gm (List.mem_of_getElem? (i := 55) (by decide +kernel)) (by decide +kernel)
theorem uINI_RL : (.initialized RL : Cond) ∈ gtbl := gm (List.mem_of_getElem? (i := 56) (by decide +kernel)) (by decide +kernel)
theorem uINI_RX6 : (.initialized RX6 : Cond) ∈ gtbl := gm (List.mem_of_getElem? (i := 57) (by decide +kernel)) (by decide +kernel)
theorem uINI_RX1 : (.initialized RX1 : Cond) ∈ gtbl := gm (List.mem_of_getElem? (i := 58) (by decide +kernel)) (by decide +kernel)
theorem uINI_RX5 : (.initialized RX5 : Cond) ∈ gtbl := gm (List.mem_of_getElem? (i := 59) (by decide +kernel)) (by decide +kernel)
theorem uINI_RX2 : (.initialized RX2 : Cond) ∈ gtbl := gm (List.mem_of_getElem? (i := 60) (by decide +kernel)) (by decide +kernel)
theorem uINI_RX3 : (.initialized RX3 : Cond) ∈ gtbl := gm (List.mem_of_getElem? (i := 61) (by decide +kernel)) (by decide +kernel)
theorem uINI_RX0 : (.initialized RX0 : Cond) ∈ gtbl := gm (List.mem_of_getElem? (i := 62) (by decide +kernel)) (by decide +kernel)
theorem uINI_RX4 : (.initialized RX4 : Cond) ∈ gtbl := gm (List.mem_of_getElem? (i := 63) (by decide +kernel)) (by decide +kernel)
theorem uINI_RX7 : (.initialized RX7 : Cond) ∈ gtbl := gm (List.mem_of_getElem? (i := 64) (by decide +kernel)) (by decide +kernel)
theorem uINI_RJ9 : (.initialized RJ9 : Cond) ∈ gtbl := gm (List.mem_of_getElem? (i := 65) (by decide +kernel)) (by decide +kernel)
theorem uINI_RJ10 : (.initialized RJ10 : Cond) ∈ gtbl := gm (List.mem_of_getElem? (i := 66) (by decide +kernel)) (by decide +kernel)
theorem uCL_RL_7 : (.classLink RL 7 RX6 : Cond) ∈ gtbl := gm (List.mem_of_getElem? (i := 67) (by decide +kernel)) (by decide +kernel)
theorem uIN_RX6 : (.instantiable RX6 9 : Cond) ∈ gtbl := gm (List.mem_of_getElem? (i := 68) (by decide +kernel)) (by decide +kernel)
theorem uML_RL_9 : (.methodLink RL 9 yX6_init : Cond) ∈ gtbl := gm (List.mem_of_getElem? (i := 69) (by decide +kernel)) (by decide +kernel)
theorem uIM_X6_init : (.instanceMethod yX6_init : Cond) ∈ gtbl := gm (List.mem_of_getElem? (i := 70) (by decide +kernel)) (by decide +kernel)
theorem uCO_X6_init : (.code yX6_init cX6_init 2 none : Cond) ∈ gtbl := gm (List.mem_of_getElem? (i := 71) (by decide +kernel)) (by decide +kernel)
theorem uML_RX6_5 : (.methodLink RX6 5 objectInit : Cond) ∈ gtbl := gm (List.mem_of_getElem? (i := 72) (by decide +kernel)) (by decide +kernel)
theorem uIM_objectInit : (.instanceMethod objectInit : Cond) ∈ gtbl := gm (List.mem_of_getElem? (i := 73) (by decide +kernel)) (by decide +kernel)
theorem uCO_objectInit : (.code objectInit ⟨#[0xb1]⟩ 1 none : Cond) ∈ gtbl := gm (List.mem_of_getElem? (i := 74) (by decide +kernel)) (by decide +kernel)
theorem uCL_RX6_11 : (.classLink RX6 11 RX1 : Cond) ∈ gtbl := gm (List.mem_of_getElem? (i := 75) (by decide +kernel)) (by decide +kernel)
theorem uIN_RX1 : (.instantiable RX1 8 : Cond) ∈ gtbl := gm (List.mem_of_getElem? (i := 76) (by decide +kernel)) (by decide +kernel)
theorem uMN_RX6_13 : (.methodLinkNest RX6 13 yX1_init RX6 : Cond) ∈ lw_tbl := List.mem_of_getElem? (i := 77) (by decide +kernel)
theorem uIM_X1_init : (.instanceMethod yX1_init : Cond) ∈ gtbl := gm (List.mem_of_getElem? (i := 78) (by decide +kernel)) (by decide +kernel)
theorem uCO_X1_init : (.code yX1_init cX1_init 1 none : Cond) ∈ gtbl := gm (List.mem_of_getElem? (i := 79) (by decide +kernel)) (by decide +kernel)
theorem uML_RX1_3 : (.methodLink RX1 3 objectInit : Cond) ∈ gtbl := gm (List.mem_of_getElem? (i := 80) (by decide +kernel)) (by decide +kernel)
theorem uFL_RX1_30 : (.fieldLink RX1 30 "LampSwitches$Hall" "lamps" "I" : Cond) ∈ gtbl := gm (List.mem_of_getElem? (i := 81) (by decide +kernel)) (by decide +kernel)
theorem uFL_RX0_50 : (.fieldLink RX0 50 "LampSwitches$Hall" "lamps" "I" : Cond) ∈ gtbl := gm (List.mem_of_getElem? (i := 82) (by decide +kernel)) (by decide +kernel)
theorem uFL_RX5_57 : (.fieldLink RX5 57 "LampSwitches$Hall" "lamps" "I" : Cond) ∈ gtbl := gm (List.mem_of_getElem? (i := 83) (by decide +kernel)) (by decide +kernel)
theorem uFL_RX2_79 : (.fieldLink RX2 79 "LampSwitches$Hall" "lamps" "I" : Cond) ∈ gtbl := gm (List.mem_of_getElem? (i := 84) (by decide +kernel)) (by decide +kernel)
theorem uFL_RX6_193 : (.fieldLink RX6 193 "LampSwitches$Hall" "lamps" "I" : Cond) ∈ gtbl := gm (List.mem_of_getElem? (i := 85) (by decide +kernel)) (by decide +kernel)
theorem uFL_RX1_9 : (.fieldLink RX1 9 "LampSwitches$Hall" "shades" "[I" : Cond) ∈ gtbl := gm (List.mem_of_getElem? (i := 86) (by decide +kernel)) (by decide +kernel)
theorem uFL_RX6_104 : (.fieldLink RX6 104 "LampSwitches$Hall" "shades" "[I" : Cond) ∈ gtbl := gm (List.mem_of_getElem? (i := 87) (by decide +kernel)) (by decide +kernel)
theorem uFL_RX5_60 : (.fieldLink RX5 60 "LampSwitches$Hall" "shades" "[I" : Cond) ∈ gtbl := gm (List.mem_of_getElem? (i := 88) (by decide +kernel)) (by decide +kernel)
theorem uFL_RX2_82 : (.fieldLink RX2 82 "LampSwitches$Hall" "shades" "[I" : Cond) ∈ gtbl := gm (List.mem_of_getElem? (i := 89) (by decide +kernel)) (by decide +kernel)
theorem uFL_RX1_15 : (.fieldLink RX1 15 "LampSwitches$Hall" "now" "[I" : Cond) ∈ gtbl := gm (List.mem_of_getElem? (i := 90) (by decide +kernel)) (by decide +kernel)
theorem uFL_RX0_15 : (.fieldLink RX0 15 "LampSwitches$Hall" "now" "[I" : Cond) ∈ gtbl := gm (List.mem_of_getElem? (i := 91) (by decide +kernel)) (by decide +kernel)
theorem uFL_RX6_107 : (.fieldLink RX6 107 "LampSwitches$Hall" "now" "[I" : Cond) ∈ gtbl := gm (List.mem_of_getElem? (i := 92) (by decide +kernel)) (by decide +kernel)
theorem uFL_RX5_63 : (.fieldLink RX5 63 "LampSwitches$Hall" "now" "[I" : Cond) ∈ gtbl := gm (List.mem_of_getElem? (i := 93) (by decide +kernel)) (by decide +kernel)
theorem uFL_RX6_98 : (.fieldLink RX6 98 "LampSwitches$Hall" "switches" "I" : Cond) ∈ gtbl := gm (List.mem_of_getElem? (i := 94) (by decide +kernel)) (by decide +kernel)
theorem uFL_RX1_34 : (.fieldLink RX1 34 "LampSwitches$Hall" "switches" "I" : Cond) ∈ gtbl := gm (List.mem_of_getElem? (i := 95) (by decide +kernel)) (by decide +kernel)
theorem uFL_RX2_57 : (.fieldLink RX2 57 "LampSwitches$Hall" "switches" "I" : Cond) ∈ gtbl := gm (List.mem_of_getElem? (i := 96) (by decide +kernel)) (by decide +kernel)
theorem uFL_RX5_66 : (.fieldLink RX5 66 "LampSwitches$Hall" "switches" "I" : Cond) ∈ gtbl := gm (List.mem_of_getElem? (i := 97) (by decide +kernel)) (by decide +kernel)
theorem uFL_RX1_18 : (.fieldLink RX1 18 "LampSwitches$Hall" "kind" "[I" : Cond) ∈ gtbl := gm (List.mem_of_getElem? (i := 98) (by decide +kernel)) (by decide +kernel)
theorem uFL_RX6_116 : (.fieldLink RX6 116 "LampSwitches$Hall" "kind" "[I" : Cond) ∈ gtbl := gm (List.mem_of_getElem? (i := 99) (by decide +kernel)) (by decide +kernel)
theorem uFL_RX5_67 : (.fieldLink RX5 67 "LampSwitches$Hall" "kind" "[I" : Cond) ∈ gtbl := gm (List.mem_of_getElem? (i := 100) (by decide +kernel)) (by decide +kernel)
theorem uFL_RX1_21 : (.fieldLink RX1 21 "LampSwitches$Hall" "turn" "[I" : Cond) ∈ gtbl := gm (List.mem_of_getElem? (i := 101) (by decide +kernel)) (by decide +kernel)
theorem uFL_RX6_119 : (.fieldLink RX6 119 "LampSwitches$Hall" "turn" "[I" : Cond) ∈ gtbl := gm (List.mem_of_getElem? (i := 102) (by decide +kernel)) (by decide +kernel)
theorem uFL_RX5_70 : (.fieldLink RX5 70 "LampSwitches$Hall" "turn" "[I" : Cond) ∈ gtbl := gm (List.mem_of_getElem? (i := 103) (by decide +kernel)) (by decide +kernel)
theorem uFL_RX1_24 : (.fieldLink RX1 24 "LampSwitches$Hall" "wires" "[I" : Cond) ∈ gtbl := gm (List.mem_of_getElem? (i := 104) (by decide +kernel)) (by decide +kernel)
theorem uFL_RX6_125 : (.fieldLink RX6 125 "LampSwitches$Hall" "wires" "[I" : Cond) ∈ gtbl := gm (List.mem_of_getElem? (i := 105) (by decide +kernel)) (by decide +kernel)
theorem uFL_RX5_73 : (.fieldLink RX5 73 "LampSwitches$Hall" "wires" "[I" : Cond) ∈ gtbl := gm (List.mem_of_getElem? (i := 106) (by decide +kernel)) (by decide +kernel)
theorem uFL_RX1_27 : (.fieldLink RX1 27 "LampSwitches$Hall" "presses" "[I" : Cond) ∈ gtbl := gm (List.mem_of_getElem? (i := 107) (by decide +kernel)) (by decide +kernel)
theorem uFL_RX6_128 : (.fieldLink RX6 128 "LampSwitches$Hall" "presses" "[I" : Cond) ∈ gtbl := gm (List.mem_of_getElem? (i := 108) (by decide +kernel)) (by decide +kernel)
theorem uFL_RX5_79 : (.fieldLink RX5 79 "LampSwitches$Hall" "presses" "[I" : Cond) ∈ gtbl := gm (List.mem_of_getElem? (i := 109) (by decide +kernel)) (by decide +kernel)
theorem uAC : (.arrayClass .int : Cond) ∈ gtbl := gm (List.mem_of_getElem? (i := 127) (by decide +kernel)) (by decide +kernel)
theorem uCL_RX6_18 : (.classLink RX6 18 RX5 : Cond) ∈ gtbl := gm (List.mem_of_getElem? (i := 128) (by decide +kernel)) (by decide +kernel)
theorem uIN_RX5 : (.instantiable RX5 4 : Cond) ∈ gtbl := gm (List.mem_of_getElem? (i := 129) (by decide +kernel)) (by decide +kernel)
theorem uMN_RX6_20 : (.methodLinkNest RX6 20 yX5_init RX6 : Cond) ∈ lw_tbl := List.mem_of_getElem? (i := 130) (by decide +kernel)
theorem uIM_X5_init : (.instanceMethod yX5_init : Cond) ∈ gtbl := gm (List.mem_of_getElem? (i := 131) (by decide +kernel)) (by decide +kernel)
theorem uCO_X5_init : (.code yX5_init cX5_init 1 none : Cond) ∈ gtbl := gm (List.mem_of_getElem? (i := 132) (by decide +kernel)) (by decide +kernel)
theorem uML_RX5_3 : (.methodLink RX5 3 objectInit : Cond) ∈ gtbl := gm (List.mem_of_getElem? (i := 133) (by decide +kernel)) (by decide +kernel)
theorem uFL_RX5_9 : (.fieldLink RX5 9 "LampSwitches$TextReader" "codes" "[I" : Cond) ∈ gtbl := gm (List.mem_of_getElem? (i := 134) (by decide +kernel)) (by decide +kernel)
theorem uFL_RX5_21 : (.fieldLink RX5 21 "LampSwitches$TextReader" "many" "I" : Cond) ∈ gtbl := gm (List.mem_of_getElem? (i := 135) (by decide +kernel)) (by decide +kernel)
theorem uFL_RX5_38 : (.fieldLink RX5 38 "LampSwitches$TextReader" "lamps" "I" : Cond) ∈ gtbl := gm (List.mem_of_getElem? (i := 136) (by decide +kernel)) (by decide +kernel)
theorem uFL_RX5_45 : (.fieldLink RX5 45 "LampSwitches$TextReader" "switches" "I" : Cond) ∈ gtbl := gm (List.mem_of_getElem? (i := 137) (by decide +kernel)) (by decide +kernel)
theorem uCL_RX6_25 : (.classLink RX6 25 RX2 : Cond) ∈ gtbl := gm (List.mem_of_getElem? (i := 147) (by decide +kernel)) (by decide +kernel)
theorem uIN_RX2 : (.instantiable RX2 7 : Cond) ∈ gtbl := gm (List.mem_of_getElem? (i := 148) (by decide +kernel)) (by decide +kernel)
theorem uMN_RX6_27 : (.methodLinkNest RX6 27 yX2_init RX6 : Cond) ∈ lw_tbl := List.mem_of_getElem? (i := 149) (by decide +kernel)
theorem uIM_X2_init : (.instanceMethod yX2_init : Cond) ∈ gtbl := gm (List.mem_of_getElem? (i := 150) (by decide +kernel)) (by decide +kernel)
theorem uCO_X2_init : (.code yX2_init cX2_init 1 none : Cond) ∈ gtbl := gm (List.mem_of_getElem? (i := 151) (by decide +kernel)) (by decide +kernel)
theorem uML_RX2_3 : (.methodLink RX2 3 objectInit : Cond) ∈ gtbl := gm (List.mem_of_getElem? (i := 152) (by decide +kernel)) (by decide +kernel)
theorem uCL_RX2_15 : (.classLink RX2 15 "[[I" : Cond) ∈ gtbl := gm (List.mem_of_getElem? (i := 153) (by decide +kernel)) (by decide +kernel)
theorem uFL_RX2_9 : (.fieldLink RX2 9 "LampSwitches$Reach" "weight" "[I" : Cond) ∈ gtbl := gm (List.mem_of_getElem? (i := 155) (by decide +kernel)) (by decide +kernel)
theorem uFL_RX2_17 : (.fieldLink RX2 17 "LampSwitches$Reach" "steps" "[[I" : Cond) ∈ gtbl := gm (List.mem_of_getElem? (i := 156) (by decide +kernel)) (by decide +kernel)
theorem uFL_RX2_20 : (.fieldLink RX2 20 "LampSwitches$Reach" "digits" "[I" : Cond) ∈ gtbl := gm (List.mem_of_getElem? (i := 157) (by decide +kernel)) (by decide +kernel)
theorem uFL_RX2_23 : (.fieldLink RX2 23 "LampSwitches$Reach" "fewest" "[I" : Cond) ∈ gtbl := gm (List.mem_of_getElem? (i := 158) (by decide +kernel)) (by decide +kernel)
theorem uFL_RX2_26 : (.fieldLink RX2 26 "LampSwitches$Reach" "queue" "[I" : Cond) ∈ gtbl := gm (List.mem_of_getElem? (i := 159) (by decide +kernel)) (by decide +kernel)
theorem uFL_RX2_37 : (.fieldLink RX2 37 "LampSwitches$Reach" "found" "I" : Cond) ∈ gtbl := gm (List.mem_of_getElem? (i := 160) (by decide +kernel)) (by decide +kernel)
theorem uFL_RX2_29 : (.fieldLink RX2 29 "LampSwitches$Reach" "setOfRows" "I" : Cond) ∈ gtbl := gm (List.mem_of_getElem? (i := 161) (by decide +kernel)) (by decide +kernel)
theorem uCL_RX6_32 : (.classLink RX6 32 RX3 : Cond) ∈ gtbl := gm (List.mem_of_getElem? (i := 177) (by decide +kernel)) (by decide +kernel)
theorem uIN_RX3 : (.instantiable RX3 4 : Cond) ∈ gtbl := gm (List.mem_of_getElem? (i := 178) (by decide +kernel)) (by decide +kernel)
theorem uMN_RX6_34 : (.methodLinkNest RX6 34 yX3_init RX6 : Cond) ∈ lw_tbl := List.mem_of_getElem? (i := 179) (by decide +kernel)
theorem uIM_X3_init : (.instanceMethod yX3_init : Cond) ∈ gtbl := gm (List.mem_of_getElem? (i := 180) (by decide +kernel)) (by decide +kernel)
theorem uCO_X3_init : (.code yX3_init cX3_init 1 none : Cond) ∈ gtbl := gm (List.mem_of_getElem? (i := 181) (by decide +kernel)) (by decide +kernel)
theorem uML_RX3_3 : (.methodLink RX3 3 objectInit : Cond) ∈ gtbl := gm (List.mem_of_getElem? (i := 182) (by decide +kernel)) (by decide +kernel)
theorem uFL_RX3_21 : (.fieldLink RX3 21 "LampSwitches$Readings" "many" "I" : Cond) ∈ gtbl := gm (List.mem_of_getElem? (i := 183) (by decide +kernel)) (by decide +kernel)
theorem uFL_RX6_92 : (.fieldLink RX6 92 "LampSwitches$Readings" "many" "I" : Cond) ∈ gtbl := gm (List.mem_of_getElem? (i := 184) (by decide +kernel)) (by decide +kernel)
theorem uFL_RX3_9 : (.fieldLink RX3 9 "LampSwitches$Readings" "pressed" "[I" : Cond) ∈ gtbl := gm (List.mem_of_getElem? (i := 185) (by decide +kernel)) (by decide +kernel)
theorem uFL_RX3_15 : (.fieldLink RX3 15 "LampSwitches$Readings" "lamp" "[I" : Cond) ∈ gtbl := gm (List.mem_of_getElem? (i := 186) (by decide +kernel)) (by decide +kernel)
theorem uFL_RX3_18 : (.fieldLink RX3 18 "LampSwitches$Readings" "seen" "[I" : Cond) ∈ gtbl := gm (List.mem_of_getElem? (i := 187) (by decide +kernel)) (by decide +kernel)
theorem uCL_RX6_39 : (.classLink RX6 39 RX0 : Cond) ∈ gtbl := gm (List.mem_of_getElem? (i := 197) (by decide +kernel)) (by decide +kernel)
theorem uIN_RX0 : (.instantiable RX0 4 : Cond) ∈ gtbl := gm (List.mem_of_getElem? (i := 198) (by decide +kernel)) (by decide +kernel)
theorem uMN_RX6_41 : (.methodLinkNest RX6 41 yX0_init RX6 : Cond) ∈ lw_tbl := List.mem_of_getElem? (i := 199) (by decide +kernel)
theorem uIM_X0_init : (.instanceMethod yX0_init : Cond) ∈ gtbl := gm (List.mem_of_getElem? (i := 200) (by decide +kernel)) (by decide +kernel)
theorem uCO_X0_init : (.code yX0_init cX0_init 1 none : Cond) ∈ gtbl := gm (List.mem_of_getElem? (i := 201) (by decide +kernel)) (by decide +kernel)
theorem uML_RX0_3 : (.methodLink RX0 3 objectInit : Cond) ∈ gtbl := gm (List.mem_of_getElem? (i := 202) (by decide +kernel)) (by decide +kernel)
theorem uFL_RX0_9 : (.fieldLink RX0 9 "LampSwitches$Day" "then" "[I" : Cond) ∈ gtbl := gm (List.mem_of_getElem? (i := 203) (by decide +kernel)) (by decide +kernel)
theorem uFL_RX6_181 : (.fieldLink RX6 181 "LampSwitches$Day" "then" "[I" : Cond) ∈ gtbl := gm (List.mem_of_getElem? (i := 204) (by decide +kernel)) (by decide +kernel)
theorem uFL_RX0_26 : (.fieldLink RX0 26 "LampSwitches$Day" "firstWrong" "I" : Cond) ∈ gtbl := gm (List.mem_of_getElem? (i := 205) (by decide +kernel)) (by decide +kernel)
theorem uFL_RX6_178 : (.fieldLink RX6 178 "LampSwitches$Day" "firstWrong" "I" : Cond) ∈ gtbl := gm (List.mem_of_getElem? (i := 206) (by decide +kernel)) (by decide +kernel)
theorem uFL_RX0_30 : (.fieldLink RX0 30 "LampSwitches$Day" "pressed" "I" : Cond) ∈ gtbl := gm (List.mem_of_getElem? (i := 207) (by decide +kernel)) (by decide +kernel)
theorem uFL_RX6_187 : (.fieldLink RX6 187 "LampSwitches$Day" "pressed" "I" : Cond) ∈ gtbl := gm (List.mem_of_getElem? (i := 208) (by decide +kernel)) (by decide +kernel)
theorem uFL_RX0_33 : (.fieldLink RX0 33 "LampSwitches$Day" "darkBehind" "I" : Cond) ∈ gtbl := gm (List.mem_of_getElem? (i := 209) (by decide +kernel)) (by decide +kernel)
theorem uFL_RX6_190 : (.fieldLink RX6 190 "LampSwitches$Day" "darkBehind" "I" : Cond) ∈ gtbl := gm (List.mem_of_getElem? (i := 210) (by decide +kernel)) (by decide +kernel)
theorem uCL_RX6_46 : (.classLink RX6 46 RX4 : Cond) ∈ gtbl := gm (List.mem_of_getElem? (i := 220) (by decide +kernel)) (by decide +kernel)
theorem uIN_RX4 : (.instantiable RX4 3 : Cond) ∈ gtbl := gm (List.mem_of_getElem? (i := 222) (by decide +kernel)) (by decide +kernel)
theorem uMN_RX6_56 : (.methodLinkNest RX6 56 yX4_init RX6 : Cond) ∈ lw_tbl := List.mem_of_getElem? (i := 223) (by decide +kernel)
theorem uIM_X4_init : (.instanceMethod yX4_init : Cond) ∈ gtbl := gm (List.mem_of_getElem? (i := 224) (by decide +kernel)) (by decide +kernel)
theorem uCO_X4_init : (.code yX4_init cX4_init 1 none : Cond) ∈ gtbl := gm (List.mem_of_getElem? (i := 225) (by decide +kernel)) (by decide +kernel)
theorem uML_RX4_3 : (.methodLink RX4 3 objectInit : Cond) ∈ gtbl := gm (List.mem_of_getElem? (i := 226) (by decide +kernel)) (by decide +kernel)
theorem uFL_RX4_19 : (.fieldLink RX4 19 "LampSwitches$Sheet" "lane" "I" : Cond) ∈ gtbl := gm (List.mem_of_getElem? (i := 227) (by decide +kernel)) (by decide +kernel)
theorem uFL_RX6_257 : (.fieldLink RX6 257 "LampSwitches$Sheet" "lane" "I" : Cond) ∈ gtbl := gm (List.mem_of_getElem? (i := 228) (by decide +kernel)) (by decide +kernel)
theorem uFL_RX4_9 : (.fieldLink RX4 9 "LampSwitches$Sheet" "cells" "[I" : Cond) ∈ gtbl := gm (List.mem_of_getElem? (i := 229) (by decide +kernel)) (by decide +kernel)
theorem uFL_RX6_260 : (.fieldLink RX6 260 "LampSwitches$Sheet" "cells" "[I" : Cond) ∈ gtbl := gm (List.mem_of_getElem? (i := 230) (by decide +kernel)) (by decide +kernel)
theorem uFL_RX4_15 : (.fieldLink RX4 15 "LampSwitches$Sheet" "size" "I" : Cond) ∈ gtbl := gm (List.mem_of_getElem? (i := 231) (by decide +kernel)) (by decide +kernel)
theorem uFL_RX6_14 : (.fieldLink RX6 14 "LampSwitches" "hall" "LLampSwitches$Hall;" : Cond) ∈ gtbl := gm (List.mem_of_getElem? (i := 239) (by decide +kernel)) (by decide +kernel)
theorem uFL_RX6_21 : (.fieldLink RX6 21 "LampSwitches" "reader" "LLampSwitches$TextReader;" : Cond) ∈ gtbl := gm (List.mem_of_getElem? (i := 240) (by decide +kernel)) (by decide +kernel)
theorem uFL_RX6_28 : (.fieldLink RX6 28 "LampSwitches" "reach" "LLampSwitches$Reach;" : Cond) ∈ gtbl := gm (List.mem_of_getElem? (i := 241) (by decide +kernel)) (by decide +kernel)
theorem uFL_RX6_35 : (.fieldLink RX6 35 "LampSwitches" "readings" "LLampSwitches$Readings;" : Cond) ∈ gtbl := gm (List.mem_of_getElem? (i := 242) (by decide +kernel)) (by decide +kernel)
theorem uFL_RX6_42 : (.fieldLink RX6 42 "LampSwitches" "told" "LLampSwitches$Day;" : Cond) ∈ gtbl := gm (List.mem_of_getElem? (i := 243) (by decide +kernel)) (by decide +kernel)
theorem uFL_RX6_48 : (.fieldLink RX6 48 "LampSwitches" "sheets" "[LLampSwitches$Sheet;" : Cond) ∈ gtbl := gm (List.mem_of_getElem? (i := 244) (by decide +kernel)) (by decide +kernel)
theorem uFL_RX6_52 : (.fieldLink RX6 52 "LampSwitches" "tried" "[I" : Cond) ∈ gtbl := gm (List.mem_of_getElem? (i := 245) (by decide +kernel)) (by decide +kernel)
theorem uFL_RX6_282 : (.fieldLink RX6 282 "LampSwitches" "left" "I" : Cond) ∈ gtbl := gm (List.mem_of_getElem? (i := 246) (by decide +kernel)) (by decide +kernel)
theorem uFL_RX6_57 : (.fieldLink RX6 57 "LampSwitches" "latestFault" "I" : Cond) ∈ gtbl := gm (List.mem_of_getElem? (i := 247) (by decide +kernel)) (by decide +kernel)
theorem uML_RL_13 : (.methodLink RL 13 yX6_hall : Cond) ∈ gtbl := gm (List.mem_of_getElem? (i := 267) (by decide +kernel)) (by decide +kernel)
theorem uIM_X6_hall : (.instanceMethod yX6_hall : Cond) ∈ gtbl := gm (List.mem_of_getElem? (i := 268) (by decide +kernel)) (by decide +kernel)
theorem uSEL_X6_hall : (.selects RX6 yX6_hall yX6_hall : Cond) ∈ gtbl := gm (List.mem_of_getElem? (i := 269) (by decide +kernel)) (by decide +kernel)
theorem uCO_X6_hall : (.code yX6_hall cX6_hall 8 (some .int) : Cond) ∈ gtbl := gm (List.mem_of_getElem? (i := 270) (by decide +kernel)) (by decide +kernel)
theorem uML_RX6_61 : (.methodLink RX6 61 yX6_sheetAt : Cond) ∈ gtbl := gm (List.mem_of_getElem? (i := 271) (by decide +kernel)) (by decide +kernel)
theorem uIM_X6_sheetAt : (.instanceMethod yX6_sheetAt : Cond) ∈ gtbl := gm (List.mem_of_getElem? (i := 273) (by decide +kernel)) (by decide +kernel)
theorem uCO_X6_sheetAt : (.code yX6_sheetAt cX6_sheetAt 2 (some (.object "LampSwitches$Sheet")) : Cond) ∈ gtbl := gm (List.mem_of_getElem? (i := 274) (by decide +kernel)) (by decide +kernel)
theorem uML_RX6_65 : (.methodLink RX6 65 yX6_isLane : Cond) ∈ gtbl := gm (List.mem_of_getElem? (i := 275) (by decide +kernel)) (by decide +kernel)
theorem uST_X6_isLane : (.static yX6_isLane : Cond) ∈ gtbl := gm (List.mem_of_getElem? (i := 276) (by decide +kernel)) (by decide +kernel)
theorem uCO_X6_isLane : (.code yX6_isLane cX6_isLane 1 (some .boolean) : Cond) ∈ gtbl := gm (List.mem_of_getElem? (i := 277) (by decide +kernel)) (by decide +kernel)
theorem uML_RX6_134 : (.methodLink RX6 134 yX6_isIn : Cond) ∈ gtbl := gm (List.mem_of_getElem? (i := 278) (by decide +kernel)) (by decide +kernel)
theorem uST_X6_isIn : (.static yX6_isIn : Cond) ∈ gtbl := gm (List.mem_of_getElem? (i := 279) (by decide +kernel)) (by decide +kernel)
theorem uCO_X6_isIn : (.code yX6_isIn cX6_isIn 3 (some .boolean) : Cond) ∈ gtbl := gm (List.mem_of_getElem? (i := 280) (by decide +kernel)) (by decide +kernel)
theorem uML_RX6_69 : (.methodLink RX6 69 yX4_faultAs : Cond) ∈ gtbl := gm (List.mem_of_getElem? (i := 281) (by decide +kernel)) (by decide +kernel)
theorem uIM_X4_faultAs : (.instanceMethod yX4_faultAs : Cond) ∈ gtbl := gm (List.mem_of_getElem? (i := 282) (by decide +kernel)) (by decide +kernel)
theorem uSEL_X4_faultAs : (.selects RX4 yX4_faultAs yX4_faultAs : Cond) ∈ gtbl := gm (List.mem_of_getElem? (i := 283) (by decide +kernel)) (by decide +kernel)
theorem uCO_X4_faultAs : (.code yX4_faultAs cX4_faultAs 2 (some .int) : Cond) ∈ gtbl := gm (List.mem_of_getElem? (i := 284) (by decide +kernel)) (by decide +kernel)
theorem uML_RX4_31 : (.methodLink RX4 31 yX4_isNothing : Cond) ∈ gtbl := gm (List.mem_of_getElem? (i := 285) (by decide +kernel)) (by decide +kernel)
theorem uIM_X4_isNothing : (.instanceMethod yX4_isNothing : Cond) ∈ gtbl := gm (List.mem_of_getElem? (i := 286) (by decide +kernel)) (by decide +kernel)
theorem uSEL_X4_isNothing : (.selects RX4 yX4_isNothing yX4_isNothing : Cond) ∈ gtbl := gm (List.mem_of_getElem? (i := 287) (by decide +kernel)) (by decide +kernel)
theorem uCO_X4_isNothing : (.code yX4_isNothing cX4_isNothing 1 (some .boolean) : Cond) ∈ gtbl := gm (List.mem_of_getElem? (i := 288) (by decide +kernel)) (by decide +kernel)
theorem uML_RX6_73 : (.methodLink RX6 73 yX4_hasCells : Cond) ∈ gtbl := gm (List.mem_of_getElem? (i := 289) (by decide +kernel)) (by decide +kernel)
theorem uIM_X4_hasCells : (.instanceMethod yX4_hasCells : Cond) ∈ gtbl := gm (List.mem_of_getElem? (i := 290) (by decide +kernel)) (by decide +kernel)
theorem uSEL_X4_hasCells : (.selects RX4 yX4_hasCells yX4_hasCells : Cond) ∈ gtbl := gm (List.mem_of_getElem? (i := 291) (by decide +kernel)) (by decide +kernel)
theorem uCO_X4_hasCells : (.code yX4_hasCells cX4_hasCells 3 (some .boolean) : Cond) ∈ gtbl := gm (List.mem_of_getElem? (i := 292) (by decide +kernel)) (by decide +kernel)
theorem uML_RX6_77 : (.methodLink RX6 77 yX6_faulted : Cond) ∈ gtbl := gm (List.mem_of_getElem? (i := 293) (by decide +kernel)) (by decide +kernel)
theorem uIM_X6_faulted : (.instanceMethod yX6_faulted : Cond) ∈ gtbl := gm (List.mem_of_getElem? (i := 295) (by decide +kernel)) (by decide +kernel)
theorem uCO_X6_faulted : (.code yX6_faulted cX6_faulted 2 (some .int) : Cond) ∈ gtbl := gm (List.mem_of_getElem? (i := 296) (by decide +kernel)) (by decide +kernel)
theorem uML_RX6_80 : (.methodLink RX6 80 yX5_take : Cond) ∈ gtbl := gm (List.mem_of_getElem? (i := 297) (by decide +kernel)) (by decide +kernel)
theorem uIM_X5_take : (.instanceMethod yX5_take : Cond) ∈ gtbl := gm (List.mem_of_getElem? (i := 298) (by decide +kernel)) (by decide +kernel)
theorem uSEL_X5_take : (.selects RX5 yX5_take yX5_take : Cond) ∈ gtbl := gm (List.mem_of_getElem? (i := 299) (by decide +kernel)) (by decide +kernel)
theorem uCO_X5_take : (.code yX5_take cX5_take 5 none : Cond) ∈ gtbl := gm (List.mem_of_getElem? (i := 300) (by decide +kernel)) (by decide +kernel)
theorem uML_RX5_15 : (.methodLink RX5 15 yJ9_min_7cf53 : Cond) ∈ gtbl := gm (List.mem_of_getElem? (i := 301) (by decide +kernel)) (by decide +kernel)
theorem uST_J9_min_7cf53 : (.static yJ9_min_7cf53 : Cond) ∈ gtbl := gm (List.mem_of_getElem? (i := 302) (by decide +kernel)) (by decide +kernel)
theorem uCO_J9_min_7cf53 : (.code yJ9_min_7cf53 cJ9_min_7cf53 2 (some .int) : Cond) ∈ gtbl := gm (List.mem_of_getElem? (i := 303) (by decide +kernel)) (by decide +kernel)
theorem uML_RX5_25 : (.methodLink RX5 25 yX4_at : Cond) ∈ gtbl := gm (List.mem_of_getElem? (i := 304) (by decide +kernel)) (by decide +kernel)
theorem uIM_X4_at : (.instanceMethod yX4_at : Cond) ∈ gtbl := gm (List.mem_of_getElem? (i := 305) (by decide +kernel)) (by decide +kernel)
theorem uSEL_X4_at : (.selects RX4 yX4_at yX4_at : Cond) ∈ gtbl := gm (List.mem_of_getElem? (i := 306) (by decide +kernel)) (by decide +kernel)
theorem uCO_X4_at : (.code yX4_at cX4_at 2 (some .int) : Cond) ∈ gtbl := gm (List.mem_of_getElem? (i := 307) (by decide +kernel)) (by decide +kernel)
theorem uML_RX4_39 : (.methodLink RX4 39 yX4_hasCells : Cond) ∈ gtbl := gm (List.mem_of_getElem? (i := 308) (by decide +kernel)) (by decide +kernel)
theorem uML_RX6_84 : (.methodLink RX6 84 yX5_firstFault : Cond) ∈ gtbl := gm (List.mem_of_getElem? (i := 309) (by decide +kernel)) (by decide +kernel)
theorem uIM_X5_firstFault : (.instanceMethod yX5_firstFault : Cond) ∈ gtbl := gm (List.mem_of_getElem? (i := 310) (by decide +kernel)) (by decide +kernel)
theorem uSEL_X5_firstFault : (.selects RX5 yX5_firstFault yX5_firstFault : Cond) ∈ gtbl := gm (List.mem_of_getElem? (i := 311) (by decide +kernel)) (by decide +kernel)
theorem uCO_X5_firstFault : (.code yX5_firstFault cX5_firstFault 2 (some .int) : Cond) ∈ gtbl := gm (List.mem_of_getElem? (i := 312) (by decide +kernel)) (by decide +kernel)
theorem uML_RX5_31 : (.methodLink RX5 31 yX5_codeAt : Cond) ∈ gtbl := gm (List.mem_of_getElem? (i := 313) (by decide +kernel)) (by decide +kernel)
theorem uIM_X5_codeAt : (.instanceMethod yX5_codeAt : Cond) ∈ gtbl := gm (List.mem_of_getElem? (i := 315) (by decide +kernel)) (by decide +kernel)
theorem uCO_X5_codeAt : (.code yX5_codeAt cX5_codeAt 2 (some .int) : Cond) ∈ gtbl := gm (List.mem_of_getElem? (i := 316) (by decide +kernel)) (by decide +kernel)
theorem uML_RX5_41 : (.methodLink RX5 41 yX5_isDigit : Cond) ∈ gtbl := gm (List.mem_of_getElem? (i := 317) (by decide +kernel)) (by decide +kernel)
theorem uIM_X5_isDigit : (.instanceMethod yX5_isDigit : Cond) ∈ gtbl := gm (List.mem_of_getElem? (i := 319) (by decide +kernel)) (by decide +kernel)
theorem uCO_X5_isDigit : (.code yX5_isDigit cX5_isDigit 4 (some .boolean) : Cond) ∈ gtbl := gm (List.mem_of_getElem? (i := 320) (by decide +kernel)) (by decide +kernel)
theorem uMN_RX5_34 : (.methodLinkNest RX5 34 yX6_isIn RX6 : Cond) ∈ lw_tbl := List.mem_of_getElem? (i := 321) (by decide +kernel)
theorem uML_RX5_48 : (.methodLink RX5 48 yX5_placeOf : Cond) ∈ gtbl := gm (List.mem_of_getElem? (i := 322) (by decide +kernel)) (by decide +kernel)
theorem uIM_X5_placeOf : (.instanceMethod yX5_placeOf : Cond) ∈ gtbl := gm (List.mem_of_getElem? (i := 324) (by decide +kernel)) (by decide +kernel)
theorem uCO_X5_placeOf : (.code yX5_placeOf cX5_placeOf 2 (some .int) : Cond) ∈ gtbl := gm (List.mem_of_getElem? (i := 325) (by decide +kernel)) (by decide +kernel)
theorem uML_RX5_51 : (.methodLink RX5 51 yX5_faultInSwitch : Cond) ∈ gtbl := gm (List.mem_of_getElem? (i := 326) (by decide +kernel)) (by decide +kernel)
theorem uIM_X5_faultInSwitch : (.instanceMethod yX5_faultInSwitch : Cond) ∈ gtbl := gm (List.mem_of_getElem? (i := 328) (by decide +kernel)) (by decide +kernel)
theorem uCO_X5_faultInSwitch : (.code yX5_faultInSwitch cX5_faultInSwitch 3 (some .int) : Cond) ∈ gtbl := gm (List.mem_of_getElem? (i := 329) (by decide +kernel)) (by decide +kernel)
theorem uML_RX5_54 : (.methodLink RX5 54 yX5_kindOf : Cond) ∈ gtbl := gm (List.mem_of_getElem? (i := 330) (by decide +kernel)) (by decide +kernel)
theorem uST_X5_kindOf : (.static yX5_kindOf : Cond) ∈ gtbl := gm (List.mem_of_getElem? (i := 331) (by decide +kernel)) (by decide +kernel)
theorem uCO_X5_kindOf : (.code yX5_kindOf cX5_kindOf 1 (some .int) : Cond) ∈ gtbl := gm (List.mem_of_getElem? (i := 332) (by decide +kernel)) (by decide +kernel)
theorem uML_RX6_88 : (.methodLink RX6 88 yX5_layOut : Cond) ∈ gtbl := gm (List.mem_of_getElem? (i := 333) (by decide +kernel)) (by decide +kernel)
theorem uIM_X5_layOut : (.instanceMethod yX5_layOut : Cond) ∈ gtbl := gm (List.mem_of_getElem? (i := 334) (by decide +kernel)) (by decide +kernel)
theorem uSEL_X5_layOut : (.selects RX5 yX5_layOut yX5_layOut : Cond) ∈ gtbl := gm (List.mem_of_getElem? (i := 335) (by decide +kernel)) (by decide +kernel)
theorem uCO_X5_layOut : (.code yX5_layOut cX5_layOut 4 none : Cond) ∈ gtbl := gm (List.mem_of_getElem? (i := 336) (by decide +kernel)) (by decide +kernel)
theorem uML_RX5_76 : (.methodLink RX5 76 yX5_wiresFrom : Cond) ∈ gtbl := gm (List.mem_of_getElem? (i := 337) (by decide +kernel)) (by decide +kernel)
theorem uIM_X5_wiresFrom : (.instanceMethod yX5_wiresFrom : Cond) ∈ gtbl := gm (List.mem_of_getElem? (i := 339) (by decide +kernel)) (by decide +kernel)
theorem uCO_X5_wiresFrom : (.code yX5_wiresFrom cX5_wiresFrom 4 (some .int) : Cond) ∈ gtbl := gm (List.mem_of_getElem? (i := 340) (by decide +kernel)) (by decide +kernel)
theorem uML_RX6_95 : (.methodLink RX6 95 yX2_forget : Cond) ∈ gtbl := gm (List.mem_of_getElem? (i := 341) (by decide +kernel)) (by decide +kernel)
theorem uIM_X2_forget : (.instanceMethod yX2_forget : Cond) ∈ gtbl := gm (List.mem_of_getElem? (i := 342) (by decide +kernel)) (by decide +kernel)
theorem uSEL_X2_forget : (.selects RX2 yX2_forget yX2_forget : Cond) ∈ gtbl := gm (List.mem_of_getElem? (i := 343) (by decide +kernel)) (by decide +kernel)
theorem uCO_X2_forget : (.code yX2_forget cX2_forget 1 none : Cond) ∈ gtbl := gm (List.mem_of_getElem? (i := 344) (by decide +kernel)) (by decide +kernel)
theorem uML_RL_18 : (.methodLink RL 18 yX6_ofLamp : Cond) ∈ gtbl := gm (List.mem_of_getElem? (i := 345) (by decide +kernel)) (by decide +kernel)
theorem uIM_X6_ofLamp : (.instanceMethod yX6_ofLamp : Cond) ∈ gtbl := gm (List.mem_of_getElem? (i := 346) (by decide +kernel)) (by decide +kernel)
theorem uSEL_X6_ofLamp : (.selects RX6 yX6_ofLamp yX6_ofLamp : Cond) ∈ gtbl := gm (List.mem_of_getElem? (i := 347) (by decide +kernel)) (by decide +kernel)
theorem uCO_X6_ofLamp : (.code yX6_ofLamp cX6_ofLamp 3 (some .int) : Cond) ∈ gtbl := gm (List.mem_of_getElem? (i := 348) (by decide +kernel)) (by decide +kernel)
theorem uML_RX6_101 : (.methodLink RX6 101 yX1_hasLamp : Cond) ∈ gtbl := gm (List.mem_of_getElem? (i := 349) (by decide +kernel)) (by decide +kernel)
theorem uIM_X1_hasLamp : (.instanceMethod yX1_hasLamp : Cond) ∈ gtbl := gm (List.mem_of_getElem? (i := 350) (by decide +kernel)) (by decide +kernel)
theorem uSEL_X1_hasLamp : (.selects RX1 yX1_hasLamp yX1_hasLamp : Cond) ∈ gtbl := gm (List.mem_of_getElem? (i := 351) (by decide +kernel)) (by decide +kernel)
theorem uCO_X1_hasLamp : (.code yX1_hasLamp cX1_hasLamp 2 (some .boolean) : Cond) ∈ gtbl := gm (List.mem_of_getElem? (i := 352) (by decide +kernel)) (by decide +kernel)
theorem uML_RX6_110 : (.methodLink RX6 110 yX1_switchesTo : Cond) ∈ gtbl := gm (List.mem_of_getElem? (i := 353) (by decide +kernel)) (by decide +kernel)
theorem uIM_X1_switchesTo : (.instanceMethod yX1_switchesTo : Cond) ∈ gtbl := gm (List.mem_of_getElem? (i := 354) (by decide +kernel)) (by decide +kernel)
theorem uSEL_X1_switchesTo : (.selects RX1 yX1_switchesTo yX1_switchesTo : Cond) ∈ gtbl := gm (List.mem_of_getElem? (i := 355) (by decide +kernel)) (by decide +kernel)
theorem uCO_X1_switchesTo : (.code yX1_switchesTo cX1_switchesTo 4 (some .int) : Cond) ∈ gtbl := gm (List.mem_of_getElem? (i := 356) (by decide +kernel)) (by decide +kernel)
theorem uML_RX1_41 : (.methodLink RX1 41 yX1_isWired : Cond) ∈ gtbl := gm (List.mem_of_getElem? (i := 357) (by decide +kernel)) (by decide +kernel)
theorem uIM_X1_isWired : (.instanceMethod yX1_isWired : Cond) ∈ gtbl := gm (List.mem_of_getElem? (i := 358) (by decide +kernel)) (by decide +kernel)
theorem uSEL_X1_isWired : (.selects RX1 yX1_isWired yX1_isWired : Cond) ∈ gtbl := gm (List.mem_of_getElem? (i := 359) (by decide +kernel)) (by decide +kernel)
theorem uCO_X1_isWired : (.code yX1_isWired cX1_isWired 3 (some .boolean) : Cond) ∈ gtbl := gm (List.mem_of_getElem? (i := 360) (by decide +kernel)) (by decide +kernel)
theorem uML_RL_23 : (.methodLink RL 23 yX6_ofSwitch : Cond) ∈ gtbl := gm (List.mem_of_getElem? (i := 361) (by decide +kernel)) (by decide +kernel)
theorem uIM_X6_ofSwitch : (.instanceMethod yX6_ofSwitch : Cond) ∈ gtbl := gm (List.mem_of_getElem? (i := 362) (by decide +kernel)) (by decide +kernel)
theorem uSEL_X6_ofSwitch : (.selects RX6 yX6_ofSwitch yX6_ofSwitch : Cond) ∈ gtbl := gm (List.mem_of_getElem? (i := 363) (by decide +kernel)) (by decide +kernel)
theorem uCO_X6_ofSwitch : (.code yX6_ofSwitch cX6_ofSwitch 3 (some .int) : Cond) ∈ gtbl := gm (List.mem_of_getElem? (i := 364) (by decide +kernel)) (by decide +kernel)
theorem uML_RX6_113 : (.methodLink RX6 113 yX1_hasSwitch : Cond) ∈ gtbl := gm (List.mem_of_getElem? (i := 365) (by decide +kernel)) (by decide +kernel)
theorem uIM_X1_hasSwitch : (.instanceMethod yX1_hasSwitch : Cond) ∈ gtbl := gm (List.mem_of_getElem? (i := 366) (by decide +kernel)) (by decide +kernel)
theorem uSEL_X1_hasSwitch : (.selects RX1 yX1_hasSwitch yX1_hasSwitch : Cond) ∈ gtbl := gm (List.mem_of_getElem? (i := 367) (by decide +kernel)) (by decide +kernel)
theorem uCO_X1_hasSwitch : (.code yX1_hasSwitch cX1_hasSwitch 2 (some .boolean) : Cond) ∈ gtbl := gm (List.mem_of_getElem? (i := 368) (by decide +kernel)) (by decide +kernel)
theorem uML_RX6_122 : (.methodLink RX6 122 yX1_moves : Cond) ∈ gtbl := gm (List.mem_of_getElem? (i := 369) (by decide +kernel)) (by decide +kernel)
theorem uIM_X1_moves : (.instanceMethod yX1_moves : Cond) ∈ gtbl := gm (List.mem_of_getElem? (i := 370) (by decide +kernel)) (by decide +kernel)
theorem uSEL_X1_moves : (.selects RX1 yX1_moves yX1_moves : Cond) ∈ gtbl := gm (List.mem_of_getElem? (i := 371) (by decide +kernel)) (by decide +kernel)
theorem uCO_X1_moves : (.code yX1_moves cX1_moves 2 (some .int) : Cond) ∈ gtbl := gm (List.mem_of_getElem? (i := 372) (by decide +kernel)) (by decide +kernel)
theorem uML_RL_27 : (.methodLink RL 27 yX6_shade : Cond) ∈ gtbl := gm (List.mem_of_getElem? (i := 373) (by decide +kernel)) (by decide +kernel)
theorem uIM_X6_shade : (.instanceMethod yX6_shade : Cond) ∈ gtbl := gm (List.mem_of_getElem? (i := 374) (by decide +kernel)) (by decide +kernel)
theorem uSEL_X6_shade : (.selects RX6 yX6_shade yX6_shade : Cond) ∈ gtbl := gm (List.mem_of_getElem? (i := 375) (by decide +kernel)) (by decide +kernel)
theorem uCO_X6_shade : (.code yX6_shade cX6_shade 4 (some .int) : Cond) ∈ gtbl := gm (List.mem_of_getElem? (i := 376) (by decide +kernel)) (by decide +kernel)
theorem uML_RX6_131 : (.methodLink RX6 131 yX1_hasShade : Cond) ∈ gtbl := gm (List.mem_of_getElem? (i := 377) (by decide +kernel)) (by decide +kernel)
theorem uIM_X1_hasShade : (.instanceMethod yX1_hasShade : Cond) ∈ gtbl := gm (List.mem_of_getElem? (i := 378) (by decide +kernel)) (by decide +kernel)
theorem uSEL_X1_hasShade : (.selects RX1 yX1_hasShade yX1_hasShade : Cond) ∈ gtbl := gm (List.mem_of_getElem? (i := 379) (by decide +kernel)) (by decide +kernel)
theorem uCO_X1_hasShade : (.code yX1_hasShade cX1_hasShade 3 (some .boolean) : Cond) ∈ gtbl := gm (List.mem_of_getElem? (i := 380) (by decide +kernel)) (by decide +kernel)
theorem uML_RX1_37 : (.methodLink RX1 37 yX1_hasLamp : Cond) ∈ gtbl := gm (List.mem_of_getElem? (i := 381) (by decide +kernel)) (by decide +kernel)
theorem uML_RL_31 : (.methodLink RL 31 yX6_turn : Cond) ∈ gtbl := gm (List.mem_of_getElem? (i := 382) (by decide +kernel)) (by decide +kernel)
theorem uIM_X6_turn : (.instanceMethod yX6_turn : Cond) ∈ gtbl := gm (List.mem_of_getElem? (i := 383) (by decide +kernel)) (by decide +kernel)
theorem uSEL_X6_turn : (.selects RX6 yX6_turn yX6_turn : Cond) ∈ gtbl := gm (List.mem_of_getElem? (i := 384) (by decide +kernel)) (by decide +kernel)
theorem uCO_X6_turn : (.code yX6_turn cX6_turn 4 (some .int) : Cond) ∈ gtbl := gm (List.mem_of_getElem? (i := 385) (by decide +kernel)) (by decide +kernel)
theorem uML_RL_35 : (.methodLink RL 35 yX6_wire : Cond) ∈ gtbl := gm (List.mem_of_getElem? (i := 386) (by decide +kernel)) (by decide +kernel)
theorem uIM_X6_wire : (.instanceMethod yX6_wire : Cond) ∈ gtbl := gm (List.mem_of_getElem? (i := 387) (by decide +kernel)) (by decide +kernel)
theorem uSEL_X6_wire : (.selects RX6 yX6_wire yX6_wire : Cond) ∈ gtbl := gm (List.mem_of_getElem? (i := 388) (by decide +kernel)) (by decide +kernel)
theorem uCO_X6_wire : (.code yX6_wire cX6_wire 3 (some .int) : Cond) ∈ gtbl := gm (List.mem_of_getElem? (i := 389) (by decide +kernel)) (by decide +kernel)
theorem uML_RX6_138 : (.methodLink RX6 138 yX1_isWired : Cond) ∈ gtbl := gm (List.mem_of_getElem? (i := 390) (by decide +kernel)) (by decide +kernel)
theorem uML_RL_39 : (.methodLink RL 39 yX6_press : Cond) ∈ gtbl := gm (List.mem_of_getElem? (i := 391) (by decide +kernel)) (by decide +kernel)
theorem uIM_X6_press : (.instanceMethod yX6_press : Cond) ∈ gtbl := gm (List.mem_of_getElem? (i := 392) (by decide +kernel)) (by decide +kernel)
theorem uSEL_X6_press : (.selects RX6 yX6_press yX6_press : Cond) ∈ gtbl := gm (List.mem_of_getElem? (i := 393) (by decide +kernel)) (by decide +kernel)
theorem uCO_X6_press : (.code yX6_press cX6_press 3 (some .int) : Cond) ∈ gtbl := gm (List.mem_of_getElem? (i := 394) (by decide +kernel)) (by decide +kernel)
theorem uML_RX6_141 : (.methodLink RX6 141 yX1_turnOn : Cond) ∈ gtbl := gm (List.mem_of_getElem? (i := 395) (by decide +kernel)) (by decide +kernel)
theorem uIM_X1_turnOn : (.instanceMethod yX1_turnOn : Cond) ∈ gtbl := gm (List.mem_of_getElem? (i := 396) (by decide +kernel)) (by decide +kernel)
theorem uSEL_X1_turnOn : (.selects RX1 yX1_turnOn yX1_turnOn : Cond) ∈ gtbl := gm (List.mem_of_getElem? (i := 397) (by decide +kernel)) (by decide +kernel)
theorem uCO_X1_turnOn : (.code yX1_turnOn cX1_turnOn 5 none : Cond) ∈ gtbl := gm (List.mem_of_getElem? (i := 398) (by decide +kernel)) (by decide +kernel)
theorem uML_RX1_53 : (.methodLink RX1 53 yX1_stepOf : Cond) ∈ gtbl := gm (List.mem_of_getElem? (i := 399) (by decide +kernel)) (by decide +kernel)
theorem uIM_X1_stepOf : (.instanceMethod yX1_stepOf : Cond) ∈ gtbl := gm (List.mem_of_getElem? (i := 400) (by decide +kernel)) (by decide +kernel)
theorem uSEL_X1_stepOf : (.selects RX1 yX1_stepOf yX1_stepOf : Cond) ∈ gtbl := gm (List.mem_of_getElem? (i := 401) (by decide +kernel)) (by decide +kernel)
theorem uCO_X1_stepOf : (.code yX1_stepOf cX1_stepOf 3 (some .int) : Cond) ∈ gtbl := gm (List.mem_of_getElem? (i := 402) (by decide +kernel)) (by decide +kernel)
theorem uML_RX1_45 : (.methodLink RX1 45 yX1_moves : Cond) ∈ gtbl := gm (List.mem_of_getElem? (i := 403) (by decide +kernel)) (by decide +kernel)
theorem uMN_RX1_49 : (.methodLinkNest RX1 49 yX6_wrapped RX6 : Cond) ∈ lw_tbl := List.mem_of_getElem? (i := 404) (by decide +kernel)
theorem uST_X6_wrapped : (.static yX6_wrapped : Cond) ∈ gtbl := gm (List.mem_of_getElem? (i := 405) (by decide +kernel)) (by decide +kernel)
theorem uCO_X6_wrapped : (.code yX6_wrapped cX6_wrapped 2 (some .int) : Cond) ∈ gtbl := gm (List.mem_of_getElem? (i := 406) (by decide +kernel)) (by decide +kernel)
theorem uML_RX6_288 : (.methodLink RX6 288 yJ9_floorMod_7cf53 : Cond) ∈ gtbl := gm (List.mem_of_getElem? (i := 407) (by decide +kernel)) (by decide +kernel)
theorem uST_J9_floorMod_7cf53 : (.static yJ9_floorMod_7cf53 : Cond) ∈ gtbl := gm (List.mem_of_getElem? (i := 408) (by decide +kernel)) (by decide +kernel)
theorem uCO_J9_floorMod_7cf53 : (.code yJ9_floorMod_7cf53 cJ9_floorMod_7cf53 3 (some .int) : Cond) ∈ gtbl := gm (List.mem_of_getElem? (i := 409) (by decide +kernel)) (by decide +kernel)
theorem uML_RX6_145 : (.methodLink RX6 145 yX1_darkIn : Cond) ∈ gtbl := gm (List.mem_of_getElem? (i := 410) (by decide +kernel)) (by decide +kernel)
theorem uIM_X1_darkIn : (.instanceMethod yX1_darkIn : Cond) ∈ gtbl := gm (List.mem_of_getElem? (i := 411) (by decide +kernel)) (by decide +kernel)
theorem uSEL_X1_darkIn : (.selects RX1 yX1_darkIn yX1_darkIn : Cond) ∈ gtbl := gm (List.mem_of_getElem? (i := 412) (by decide +kernel)) (by decide +kernel)
theorem uCO_X1_darkIn : (.code yX1_darkIn cX1_darkIn 4 (some .int) : Cond) ∈ gtbl := gm (List.mem_of_getElem? (i := 413) (by decide +kernel)) (by decide +kernel)
theorem uML_RL_43 : (.methodLink RL 43 yX6_day : Cond) ∈ gtbl := gm (List.mem_of_getElem? (i := 414) (by decide +kernel)) (by decide +kernel)
theorem uIM_X6_day : (.instanceMethod yX6_day : Cond) ∈ gtbl := gm (List.mem_of_getElem? (i := 415) (by decide +kernel)) (by decide +kernel)
theorem uSEL_X6_day : (.selects RX6 yX6_day yX6_day : Cond) ∈ gtbl := gm (List.mem_of_getElem? (i := 416) (by decide +kernel)) (by decide +kernel)
theorem uCO_X6_day : (.code yX6_day cX6_day 9 (some .int) : Cond) ∈ gtbl := gm (List.mem_of_getElem? (i := 417) (by decide +kernel)) (by decide +kernel)
theorem uML_RX6_149 : (.methodLink RX6 149 yX6_isAskedOfDay : Cond) ∈ gtbl := gm (List.mem_of_getElem? (i := 418) (by decide +kernel)) (by decide +kernel)
theorem uST_X6_isAskedOfDay : (.static yX6_isAskedOfDay : Cond) ∈ gtbl := gm (List.mem_of_getElem? (i := 419) (by decide +kernel)) (by decide +kernel)
theorem uCO_X6_isAskedOfDay : (.code yX6_isAskedOfDay cX6_isAskedOfDay 1 (some .boolean) : Cond) ∈ gtbl := gm (List.mem_of_getElem? (i := 420) (by decide +kernel)) (by decide +kernel)
theorem uML_RX6_152 : (.methodLink RX6 152 yX4_faultOfCells : Cond) ∈ gtbl := gm (List.mem_of_getElem? (i := 421) (by decide +kernel)) (by decide +kernel)
theorem uIM_X4_faultOfCells : (.instanceMethod yX4_faultOfCells : Cond) ∈ gtbl := gm (List.mem_of_getElem? (i := 422) (by decide +kernel)) (by decide +kernel)
theorem uSEL_X4_faultOfCells : (.selects RX4 yX4_faultOfCells yX4_faultOfCells : Cond) ∈ gtbl := gm (List.mem_of_getElem? (i := 423) (by decide +kernel)) (by decide +kernel)
theorem uCO_X4_faultOfCells : (.code yX4_faultOfCells cX4_faultOfCells 5 (some .int) : Cond) ∈ gtbl := gm (List.mem_of_getElem? (i := 424) (by decide +kernel)) (by decide +kernel)
theorem uML_RX4_35 : (.methodLink RX4 35 yX4_faultAs : Cond) ∈ gtbl := gm (List.mem_of_getElem? (i := 425) (by decide +kernel)) (by decide +kernel)
theorem uML_RX6_156 : (.methodLink RX6 156 yX1_isMissing : Cond) ∈ gtbl := gm (List.mem_of_getElem? (i := 426) (by decide +kernel)) (by decide +kernel)
theorem uIM_X1_isMissing : (.instanceMethod yX1_isMissing : Cond) ∈ gtbl := gm (List.mem_of_getElem? (i := 427) (by decide +kernel)) (by decide +kernel)
theorem uSEL_X1_isMissing : (.selects RX1 yX1_isMissing yX1_isMissing : Cond) ∈ gtbl := gm (List.mem_of_getElem? (i := 428) (by decide +kernel)) (by decide +kernel)
theorem uCO_X1_isMissing : (.code yX1_isMissing cX1_isMissing 1 (some .boolean) : Cond) ∈ gtbl := gm (List.mem_of_getElem? (i := 429) (by decide +kernel)) (by decide +kernel)
theorem uML_RX6_160 : (.methodLink RX6 160 yX6_refusalOfPairs : Cond) ∈ gtbl := gm (List.mem_of_getElem? (i := 430) (by decide +kernel)) (by decide +kernel)
theorem uIM_X6_refusalOfPairs : (.instanceMethod yX6_refusalOfPairs : Cond) ∈ gtbl := gm (List.mem_of_getElem? (i := 432) (by decide +kernel)) (by decide +kernel)
theorem uCO_X6_refusalOfPairs : (.code yX6_refusalOfPairs cX6_refusalOfPairs 6 (some .int) : Cond) ∈ gtbl := gm (List.mem_of_getElem? (i := 433) (by decide +kernel)) (by decide +kernel)
theorem uML_RX6_171 : (.methodLink RX6 171 yX4_at : Cond) ∈ gtbl := gm (List.mem_of_getElem? (i := 434) (by decide +kernel)) (by decide +kernel)
theorem uML_RX6_174 : (.methodLink RX6 174 yX6_refusalOfPair : Cond) ∈ gtbl := gm (List.mem_of_getElem? (i := 435) (by decide +kernel)) (by decide +kernel)
theorem uIM_X6_refusalOfPair : (.instanceMethod yX6_refusalOfPair : Cond) ∈ gtbl := gm (List.mem_of_getElem? (i := 437) (by decide +kernel)) (by decide +kernel)
theorem uCO_X6_refusalOfPair : (.code yX6_refusalOfPair cX6_refusalOfPair 3 (some .int) : Cond) ∈ gtbl := gm (List.mem_of_getElem? (i := 438) (by decide +kernel)) (by decide +kernel)
theorem uML_RX6_164 : (.methodLink RX6 164 yX0_goThrough : Cond) ∈ gtbl := gm (List.mem_of_getElem? (i := 439) (by decide +kernel)) (by decide +kernel)
theorem uIM_X0_goThrough : (.instanceMethod yX0_goThrough : Cond) ∈ gtbl := gm (List.mem_of_getElem? (i := 440) (by decide +kernel)) (by decide +kernel)
theorem uSEL_X0_goThrough : (.selects RX0 yX0_goThrough yX0_goThrough : Cond) ∈ gtbl := gm (List.mem_of_getElem? (i := 441) (by decide +kernel)) (by decide +kernel)
theorem uCO_X0_goThrough : (.code yX0_goThrough cX0_goThrough 6 none : Cond) ∈ gtbl := gm (List.mem_of_getElem? (i := 442) (by decide +kernel)) (by decide +kernel)
theorem uML_RX0_20 : (.methodLink RX0 20 arraycopyName : Cond) ∈ gtbl := gm (List.mem_of_getElem? (i := 443) (by decide +kernel)) (by decide +kernel)
theorem uST_arraycopyName : (.static arraycopyName : Cond) ∈ gtbl := gm (List.mem_of_getElem? (i := 444) (by decide +kernel)) (by decide +kernel)
theorem uNA_arraycopyName : (.native arraycopyName : Cond) ∈ gtbl := gm (List.mem_of_getElem? (i := 445) (by decide +kernel)) (by decide +kernel)
theorem uML_RX0_36 : (.methodLink RX0 36 yX4_at : Cond) ∈ gtbl := gm (List.mem_of_getElem? (i := 446) (by decide +kernel)) (by decide +kernel)
theorem uML_RX0_42 : (.methodLink RX0 42 yX0_happens : Cond) ∈ gtbl := gm (List.mem_of_getElem? (i := 447) (by decide +kernel)) (by decide +kernel)
theorem uIM_X0_happens : (.instanceMethod yX0_happens : Cond) ∈ gtbl := gm (List.mem_of_getElem? (i := 449) (by decide +kernel)) (by decide +kernel)
theorem uCO_X0_happens : (.code yX0_happens cX0_happens 5 (some .boolean) : Cond) ∈ gtbl := gm (List.mem_of_getElem? (i := 450) (by decide +kernel)) (by decide +kernel)
theorem uML_RX0_53 : (.methodLink RX0 53 yX1_hasShade : Cond) ∈ gtbl := gm (List.mem_of_getElem? (i := 451) (by decide +kernel)) (by decide +kernel)
theorem uML_RX0_57 : (.methodLink RX0 57 yX1_hasSwitch : Cond) ∈ gtbl := gm (List.mem_of_getElem? (i := 452) (by decide +kernel)) (by decide +kernel)
theorem uML_RX0_61 : (.methodLink RX0 61 yX1_turnOn : Cond) ∈ gtbl := gm (List.mem_of_getElem? (i := 453) (by decide +kernel)) (by decide +kernel)
theorem uML_RX0_46 : (.methodLink RX0 46 yX1_darkIn : Cond) ∈ gtbl := gm (List.mem_of_getElem? (i := 454) (by decide +kernel)) (by decide +kernel)
theorem uML_RX6_168 : (.methodLink RX6 168 yX6_ofDay : Cond) ∈ gtbl := gm (List.mem_of_getElem? (i := 455) (by decide +kernel)) (by decide +kernel)
theorem uIM_X6_ofDay : (.instanceMethod yX6_ofDay : Cond) ∈ gtbl := gm (List.mem_of_getElem? (i := 457) (by decide +kernel)) (by decide +kernel)
theorem uCO_X6_ofDay : (.code yX6_ofDay cX6_ofDay 3 (some .int) : Cond) ∈ gtbl := gm (List.mem_of_getElem? (i := 458) (by decide +kernel)) (by decide +kernel)
theorem uML_RX6_184 : (.methodLink RX6 184 yX1_shadesIn : Cond) ∈ gtbl := gm (List.mem_of_getElem? (i := 459) (by decide +kernel)) (by decide +kernel)
theorem uIM_X1_shadesIn : (.instanceMethod yX1_shadesIn : Cond) ∈ gtbl := gm (List.mem_of_getElem? (i := 460) (by decide +kernel)) (by decide +kernel)
theorem uSEL_X1_shadesIn : (.selects RX1 yX1_shadesIn yX1_shadesIn : Cond) ∈ gtbl := gm (List.mem_of_getElem? (i := 461) (by decide +kernel)) (by decide +kernel)
theorem uCO_X1_shadesIn : (.code yX1_shadesIn cX1_shadesIn 4 (some .int) : Cond) ∈ gtbl := gm (List.mem_of_getElem? (i := 462) (by decide +kernel)) (by decide +kernel)
theorem uML_RL_48 : (.methodLink RL 48 yX6_fewest : Cond) ∈ gtbl := gm (List.mem_of_getElem? (i := 463) (by decide +kernel)) (by decide +kernel)
theorem uIM_X6_fewest : (.instanceMethod yX6_fewest : Cond) ∈ gtbl := gm (List.mem_of_getElem? (i := 464) (by decide +kernel)) (by decide +kernel)
theorem uSEL_X6_fewest : (.selects RX6 yX6_fewest yX6_fewest : Cond) ∈ gtbl := gm (List.mem_of_getElem? (i := 465) (by decide +kernel)) (by decide +kernel)
theorem uCO_X6_fewest : (.code yX6_fewest cX6_fewest 9 (some .int) : Cond) ∈ gtbl := gm (List.mem_of_getElem? (i := 466) (by decide +kernel)) (by decide +kernel)
theorem uML_RX6_196 : (.methodLink RX6 196 yX6_wrapped : Cond) ∈ gtbl := gm (List.mem_of_getElem? (i := 467) (by decide +kernel)) (by decide +kernel)
theorem uML_RX6_199 : (.methodLink RX6 199 yX2_pressesFor : Cond) ∈ gtbl := gm (List.mem_of_getElem? (i := 468) (by decide +kernel)) (by decide +kernel)
theorem uIM_X2_pressesFor : (.instanceMethod yX2_pressesFor : Cond) ∈ gtbl := gm (List.mem_of_getElem? (i := 469) (by decide +kernel)) (by decide +kernel)
theorem uSEL_X2_pressesFor : (.selects RX2 yX2_pressesFor yX2_pressesFor : Cond) ∈ gtbl := gm (List.mem_of_getElem? (i := 470) (by decide +kernel)) (by decide +kernel)
theorem uCO_X2_pressesFor : (.code yX2_pressesFor cX2_pressesFor 3 (some .int) : Cond) ∈ gtbl := gm (List.mem_of_getElem? (i := 471) (by decide +kernel)) (by decide +kernel)
theorem uML_RX2_40 : (.methodLink RX2 40 yX1_allSwitches : Cond) ∈ gtbl := gm (List.mem_of_getElem? (i := 472) (by decide +kernel)) (by decide +kernel)
theorem uIM_X1_allSwitches : (.instanceMethod yX1_allSwitches : Cond) ∈ gtbl := gm (List.mem_of_getElem? (i := 473) (by decide +kernel)) (by decide +kernel)
theorem uSEL_X1_allSwitches : (.selects RX1 yX1_allSwitches yX1_allSwitches : Cond) ∈ gtbl := gm (List.mem_of_getElem? (i := 474) (by decide +kernel)) (by decide +kernel)
theorem uCO_X1_allSwitches : (.code yX1_allSwitches cX1_allSwitches 1 (some .int) : Cond) ∈ gtbl := gm (List.mem_of_getElem? (i := 475) (by decide +kernel)) (by decide +kernel)
theorem uML_RX2_33 : (.methodLink RX2 33 yX2_spread : Cond) ∈ gtbl := gm (List.mem_of_getElem? (i := 476) (by decide +kernel)) (by decide +kernel)
theorem uIM_X2_spread : (.instanceMethod yX2_spread : Cond) ∈ gtbl := gm (List.mem_of_getElem? (i := 478) (by decide +kernel)) (by decide +kernel)
theorem uCO_X2_spread : (.code yX2_spread cX2_spread 7 none : Cond) ∈ gtbl := gm (List.mem_of_getElem? (i := 479) (by decide +kernel)) (by decide +kernel)
theorem uML_RX2_71 : (.methodLink RX2 71 yX2_measure : Cond) ∈ gtbl := gm (List.mem_of_getElem? (i := 480) (by decide +kernel)) (by decide +kernel)
theorem uIM_X2_measure : (.instanceMethod yX2_measure : Cond) ∈ gtbl := gm (List.mem_of_getElem? (i := 482) (by decide +kernel)) (by decide +kernel)
theorem uCO_X2_measure : (.code yX2_measure cX2_measure 5 (some .int) : Cond) ∈ gtbl := gm (List.mem_of_getElem? (i := 483) (by decide +kernel)) (by decide +kernel)
theorem uML_RX2_85 : (.methodLink RX2 85 yX1_stepOf : Cond) ∈ gtbl := gm (List.mem_of_getElem? (i := 484) (by decide +kernel)) (by decide +kernel)
theorem uML_RX2_75 : (.methodLink RX2 75 yX2_meet : Cond) ∈ gtbl := gm (List.mem_of_getElem? (i := 485) (by decide +kernel)) (by decide +kernel)
theorem uIM_X2_meet : (.instanceMethod yX2_meet : Cond) ∈ gtbl := gm (List.mem_of_getElem? (i := 487) (by decide +kernel)) (by decide +kernel)
theorem uCO_X2_meet : (.code yX2_meet cX2_meet 3 none : Cond) ∈ gtbl := gm (List.mem_of_getElem? (i := 488) (by decide +kernel)) (by decide +kernel)
theorem uML_RX2_54 : (.methodLink RX2 54 yX2_splitUp : Cond) ∈ gtbl := gm (List.mem_of_getElem? (i := 489) (by decide +kernel)) (by decide +kernel)
theorem uIM_X2_splitUp : (.instanceMethod yX2_splitUp : Cond) ∈ gtbl := gm (List.mem_of_getElem? (i := 491) (by decide +kernel)) (by decide +kernel)
theorem uCO_X2_splitUp : (.code yX2_splitUp cX2_splitUp 6 none : Cond) ∈ gtbl := gm (List.mem_of_getElem? (i := 492) (by decide +kernel)) (by decide +kernel)
theorem uML_RX2_89 : (.methodLink RX2 89 yJ9_max_7cf53 : Cond) ∈ gtbl := gm (List.mem_of_getElem? (i := 493) (by decide +kernel)) (by decide +kernel)
theorem uST_J9_max_7cf53 : (.static yJ9_max_7cf53 : Cond) ∈ gtbl := gm (List.mem_of_getElem? (i := 494) (by decide +kernel)) (by decide +kernel)
theorem uCO_J9_max_7cf53 : (.code yJ9_max_7cf53 cJ9_max_7cf53 2 (some .int) : Cond) ∈ gtbl := gm (List.mem_of_getElem? (i := 495) (by decide +kernel)) (by decide +kernel)
theorem uML_RX2_60 : (.methodLink RX2 60 yX2_numberBy : Cond) ∈ gtbl := gm (List.mem_of_getElem? (i := 496) (by decide +kernel)) (by decide +kernel)
theorem uIM_X2_numberBy : (.instanceMethod yX2_numberBy : Cond) ∈ gtbl := gm (List.mem_of_getElem? (i := 498) (by decide +kernel)) (by decide +kernel)
theorem uCO_X2_numberBy : (.code yX2_numberBy cX2_numberBy 7 (some .int) : Cond) ∈ gtbl := gm (List.mem_of_getElem? (i := 499) (by decide +kernel)) (by decide +kernel)
theorem uML_RX2_50 : (.methodLink RX2 50 yX2_fewestTo : Cond) ∈ gtbl := gm (List.mem_of_getElem? (i := 500) (by decide +kernel)) (by decide +kernel)
theorem uIM_X2_fewestTo : (.instanceMethod yX2_fewestTo : Cond) ∈ gtbl := gm (List.mem_of_getElem? (i := 502) (by decide +kernel)) (by decide +kernel)
theorem uCO_X2_fewestTo : (.code yX2_fewestTo cX2_fewestTo 2 (some .int) : Cond) ∈ gtbl := gm (List.mem_of_getElem? (i := 503) (by decide +kernel)) (by decide +kernel)
theorem uML_RX2_46 : (.methodLink RX2 46 yX2_numberOf : Cond) ∈ gtbl := gm (List.mem_of_getElem? (i := 504) (by decide +kernel)) (by decide +kernel)
theorem uIM_X2_numberOf : (.instanceMethod yX2_numberOf : Cond) ∈ gtbl := gm (List.mem_of_getElem? (i := 506) (by decide +kernel)) (by decide +kernel)
theorem uCO_X2_numberOf : (.code yX2_numberOf cX2_numberOf 6 (some .int) : Cond) ∈ gtbl := gm (List.mem_of_getElem? (i := 507) (by decide +kernel)) (by decide +kernel)
theorem uML_RX6_203 : (.methodLink RX6 203 yX2_placeInRow : Cond) ∈ gtbl := gm (List.mem_of_getElem? (i := 508) (by decide +kernel)) (by decide +kernel)
theorem uIM_X2_placeInRow : (.instanceMethod yX2_placeInRow : Cond) ∈ gtbl := gm (List.mem_of_getElem? (i := 509) (by decide +kernel)) (by decide +kernel)
theorem uSEL_X2_placeInRow : (.selects RX2 yX2_placeInRow yX2_placeInRow : Cond) ∈ gtbl := gm (List.mem_of_getElem? (i := 510) (by decide +kernel)) (by decide +kernel)
theorem uCO_X2_placeInRow : (.code yX2_placeInRow cX2_placeInRow 8 (some .int) : Cond) ∈ gtbl := gm (List.mem_of_getElem? (i := 511) (by decide +kernel)) (by decide +kernel)
theorem uML_RX2_64 : (.methodLink RX2 64 yX2_pressesFor : Cond) ∈ gtbl := gm (List.mem_of_getElem? (i := 512) (by decide +kernel)) (by decide +kernel)
theorem uML_RX2_67 : (.methodLink RX2 67 yX2_firstThatLeaves : Cond) ∈ gtbl := gm (List.mem_of_getElem? (i := 513) (by decide +kernel)) (by decide +kernel)
theorem uIM_X2_firstThatLeaves : (.instanceMethod yX2_firstThatLeaves : Cond) ∈ gtbl := gm (List.mem_of_getElem? (i := 515) (by decide +kernel)) (by decide +kernel)
theorem uCO_X2_firstThatLeaves : (.code yX2_firstThatLeaves cX2_firstThatLeaves 4 (some .int) : Cond) ∈ gtbl := gm (List.mem_of_getElem? (i := 516) (by decide +kernel)) (by decide +kernel)
theorem uML_RL_52 : (.methodLink RL 52 yX6_halls : Cond) ∈ gtbl := gm (List.mem_of_getElem? (i := 517) (by decide +kernel)) (by decide +kernel)
end
section
theorem uIM_X6_halls : (.instanceMethod yX6_halls : Cond) ∈ gtbl := gm (List.mem_of_getElem? (i := 518) (by decide +kernel)) (by decide +kernel)
theorem uSEL_X6_halls : (.selects RX6 yX6_halls yX6_halls : Cond) ∈ gtbl := gm (List.mem_of_getElem? (i := 519) (by decide +kernel)) (by decide +kernel)
theorem uCO_X6_halls : (.code yX6_halls cX6_halls 1 (some .int) : Cond) ∈ gtbl := gm (List.mem_of_getElem? (i := 520) (by decide +kernel)) (by decide +kernel)
theorem uML_RX6_207 : (.methodLink RX6 207 yX1_allSwitches : Cond) ∈ gtbl := gm (List.mem_of_getElem? (i := 521) (by decide +kernel)) (by decide +kernel)
theorem uML_RX6_210 : (.methodLink RX6 210 yX2_manyBy : Cond) ∈ gtbl := gm (List.mem_of_getElem? (i := 522) (by decide +kernel)) (by decide +kernel)
theorem uIM_X2_manyBy : (.instanceMethod yX2_manyBy : Cond) ∈ gtbl := gm (List.mem_of_getElem? (i := 523) (by decide +kernel)) (by decide +kernel)
theorem uSEL_X2_manyBy : (.selects RX2 yX2_manyBy yX2_manyBy : Cond) ∈ gtbl := gm (List.mem_of_getElem? (i := 524) (by decide +kernel)) (by decide +kernel)
theorem uCO_X2_manyBy : (.code yX2_manyBy cX2_manyBy 3 (some .int) : Cond) ∈ gtbl := gm (List.mem_of_getElem? (i := 525) (by decide +kernel)) (by decide +kernel)
theorem uML_RL_57 : (.methodLink RL 57 yX6_alone : Cond) ∈ gtbl := gm (List.mem_of_getElem? (i := 526) (by decide +kernel)) (by decide +kernel)
theorem uIM_X6_alone : (.instanceMethod yX6_alone : Cond) ∈ gtbl := gm (List.mem_of_getElem? (i := 527) (by decide +kernel)) (by decide +kernel)
theorem uSEL_X6_alone : (.selects RX6 yX6_alone yX6_alone : Cond) ∈ gtbl := gm (List.mem_of_getElem? (i := 528) (by decide +kernel)) (by decide +kernel)
theorem uCO_X6_alone : (.code yX6_alone cX6_alone 3 (some .int) : Cond) ∈ gtbl := gm (List.mem_of_getElem? (i := 529) (by decide +kernel)) (by decide +kernel)
theorem uML_RL_62 : (.methodLink RL 62 yX6_idle : Cond) ∈ gtbl := gm (List.mem_of_getElem? (i := 530) (by decide +kernel)) (by decide +kernel)
theorem uIM_X6_idle : (.instanceMethod yX6_idle : Cond) ∈ gtbl := gm (List.mem_of_getElem? (i := 531) (by decide +kernel)) (by decide +kernel)
theorem uSEL_X6_idle : (.selects RX6 yX6_idle yX6_idle : Cond) ∈ gtbl := gm (List.mem_of_getElem? (i := 532) (by decide +kernel)) (by decide +kernel)
theorem uCO_X6_idle : (.code yX6_idle cX6_idle 1 (some .int) : Cond) ∈ gtbl := gm (List.mem_of_getElem? (i := 533) (by decide +kernel)) (by decide +kernel)
theorem uML_RX6_214 : (.methodLink RX6 214 yX2_pressesForNothing : Cond) ∈ gtbl := gm (List.mem_of_getElem? (i := 534) (by decide +kernel)) (by decide +kernel)
theorem uIM_X2_pressesForNothing : (.instanceMethod yX2_pressesForNothing : Cond) ∈ gtbl := gm (List.mem_of_getElem? (i := 535) (by decide +kernel)) (by decide +kernel)
theorem uSEL_X2_pressesForNothing : (.selects RX2 yX2_pressesForNothing yX2_pressesForNothing : Cond) ∈ gtbl := gm (List.mem_of_getElem? (i := 536) (by decide +kernel)) (by decide +kernel)
theorem uCO_X2_pressesForNothing : (.code yX2_pressesForNothing cX2_pressesForNothing 5 (some .int) : Cond) ∈ gtbl := gm (List.mem_of_getElem? (i := 537) (by decide +kernel)) (by decide +kernel)
theorem uML_RL_66 : (.methodLink RL 66 yX6_spare : Cond) ∈ gtbl := gm (List.mem_of_getElem? (i := 538) (by decide +kernel)) (by decide +kernel)
theorem uIM_X6_spare : (.instanceMethod yX6_spare : Cond) ∈ gtbl := gm (List.mem_of_getElem? (i := 539) (by decide +kernel)) (by decide +kernel)
theorem uSEL_X6_spare : (.selects RX6 yX6_spare yX6_spare : Cond) ∈ gtbl := gm (List.mem_of_getElem? (i := 540) (by decide +kernel)) (by decide +kernel)
theorem uCO_X6_spare : (.code yX6_spare cX6_spare 5 (some .int) : Cond) ∈ gtbl := gm (List.mem_of_getElem? (i := 541) (by decide +kernel)) (by decide +kernel)
theorem uML_RL_70 : (.methodLink RL 70 yX6_reading : Cond) ∈ gtbl := gm (List.mem_of_getElem? (i := 542) (by decide +kernel)) (by decide +kernel)
theorem uIM_X6_reading : (.instanceMethod yX6_reading : Cond) ∈ gtbl := gm (List.mem_of_getElem? (i := 543) (by decide +kernel)) (by decide +kernel)
theorem uSEL_X6_reading : (.selects RX6 yX6_reading yX6_reading : Cond) ∈ gtbl := gm (List.mem_of_getElem? (i := 544) (by decide +kernel)) (by decide +kernel)
theorem uCO_X6_reading : (.code yX6_reading cX6_reading 4 (some .int) : Cond) ∈ gtbl := gm (List.mem_of_getElem? (i := 545) (by decide +kernel)) (by decide +kernel)
theorem uML_RX6_218 : (.methodLink RX6 218 yX3_add : Cond) ∈ gtbl := gm (List.mem_of_getElem? (i := 546) (by decide +kernel)) (by decide +kernel)
theorem uIM_X3_add : (.instanceMethod yX3_add : Cond) ∈ gtbl := gm (List.mem_of_getElem? (i := 547) (by decide +kernel)) (by decide +kernel)
theorem uSEL_X3_add : (.selects RX3 yX3_add yX3_add : Cond) ∈ gtbl := gm (List.mem_of_getElem? (i := 548) (by decide +kernel)) (by decide +kernel)
theorem uCO_X3_add : (.code yX3_add cX3_add 4 (some .int) : Cond) ∈ gtbl := gm (List.mem_of_getElem? (i := 549) (by decide +kernel)) (by decide +kernel)
theorem uML_RL_75 : (.methodLink RL 75 yX6_back : Cond) ∈ gtbl := gm (List.mem_of_getElem? (i := 550) (by decide +kernel)) (by decide +kernel)
theorem uIM_X6_back : (.instanceMethod yX6_back : Cond) ∈ gtbl := gm (List.mem_of_getElem? (i := 551) (by decide +kernel)) (by decide +kernel)
theorem uSEL_X6_back : (.selects RX6 yX6_back yX6_back : Cond) ∈ gtbl := gm (List.mem_of_getElem? (i := 552) (by decide +kernel)) (by decide +kernel)
theorem uCO_X6_back : (.code yX6_back cX6_back 2 (some .int) : Cond) ∈ gtbl := gm (List.mem_of_getElem? (i := 553) (by decide +kernel)) (by decide +kernel)
theorem uML_RL_79 : (.methodLink RL 79 yX6_turnings : Cond) ∈ gtbl := gm (List.mem_of_getElem? (i := 554) (by decide +kernel)) (by decide +kernel)
theorem uIM_X6_turnings : (.instanceMethod yX6_turnings : Cond) ∈ gtbl := gm (List.mem_of_getElem? (i := 555) (by decide +kernel)) (by decide +kernel)
theorem uSEL_X6_turnings : (.selects RX6 yX6_turnings yX6_turnings : Cond) ∈ gtbl := gm (List.mem_of_getElem? (i := 556) (by decide +kernel)) (by decide +kernel)
theorem uCO_X6_turnings : (.code yX6_turnings cX6_turnings 2 (some .int) : Cond) ∈ gtbl := gm (List.mem_of_getElem? (i := 557) (by decide +kernel)) (by decide +kernel)
theorem uML_RX6_221 : (.methodLink RX6 221 yX6_fitting : Cond) ∈ gtbl := gm (List.mem_of_getElem? (i := 558) (by decide +kernel)) (by decide +kernel)
theorem uIM_X6_fitting : (.instanceMethod yX6_fitting : Cond) ∈ gtbl := gm (List.mem_of_getElem? (i := 560) (by decide +kernel)) (by decide +kernel)
theorem uCO_X6_fitting : (.code yX6_fitting cX6_fitting 8 (some .int) : Cond) ∈ gtbl := gm (List.mem_of_getElem? (i := 561) (by decide +kernel)) (by decide +kernel)
theorem uML_RX6_225 : (.methodLink RX6 225 yX3_areSo : Cond) ∈ gtbl := gm (List.mem_of_getElem? (i := 562) (by decide +kernel)) (by decide +kernel)
theorem uIM_X3_areSo : (.instanceMethod yX3_areSo : Cond) ∈ gtbl := gm (List.mem_of_getElem? (i := 563) (by decide +kernel)) (by decide +kernel)
theorem uSEL_X3_areSo : (.selects RX3 yX3_areSo yX3_areSo : Cond) ∈ gtbl := gm (List.mem_of_getElem? (i := 564) (by decide +kernel)) (by decide +kernel)
theorem uCO_X3_areSo : (.code yX3_areSo cX3_areSo 3 (some .boolean) : Cond) ∈ gtbl := gm (List.mem_of_getElem? (i := 565) (by decide +kernel)) (by decide +kernel)
theorem uML_RX3_25 : (.methodLink RX3 25 yX1_stepOf : Cond) ∈ gtbl := gm (List.mem_of_getElem? (i := 566) (by decide +kernel)) (by decide +kernel)
theorem uML_RL_83 : (.methodLink RL 83 yX6_kinds : Cond) ∈ gtbl := gm (List.mem_of_getElem? (i := 567) (by decide +kernel)) (by decide +kernel)
theorem uIM_X6_kinds : (.instanceMethod yX6_kinds : Cond) ∈ gtbl := gm (List.mem_of_getElem? (i := 568) (by decide +kernel)) (by decide +kernel)
theorem uSEL_X6_kinds : (.selects RX6 yX6_kinds yX6_kinds : Cond) ∈ gtbl := gm (List.mem_of_getElem? (i := 569) (by decide +kernel)) (by decide +kernel)
theorem uCO_X6_kinds : (.code yX6_kinds cX6_kinds 2 (some .int) : Cond) ∈ gtbl := gm (List.mem_of_getElem? (i := 570) (by decide +kernel)) (by decide +kernel)
theorem uML_RL_87 : (.methodLink RL 87 yX6_shadings : Cond) ∈ gtbl := gm (List.mem_of_getElem? (i := 571) (by decide +kernel)) (by decide +kernel)
theorem uIM_X6_shadings : (.instanceMethod yX6_shadings : Cond) ∈ gtbl := gm (List.mem_of_getElem? (i := 572) (by decide +kernel)) (by decide +kernel)
theorem uSEL_X6_shadings : (.selects RX6 yX6_shadings yX6_shadings : Cond) ∈ gtbl := gm (List.mem_of_getElem? (i := 573) (by decide +kernel)) (by decide +kernel)
theorem uCO_X6_shadings : (.code yX6_shadings cX6_shadings 2 (some .int) : Cond) ∈ gtbl := gm (List.mem_of_getElem? (i := 574) (by decide +kernel)) (by decide +kernel)
theorem uML_RL_91 : (.methodLink RL 91 yX6_odds : Cond) ∈ gtbl := gm (List.mem_of_getElem? (i := 575) (by decide +kernel)) (by decide +kernel)
theorem uIM_X6_odds : (.instanceMethod yX6_odds : Cond) ∈ gtbl := gm (List.mem_of_getElem? (i := 576) (by decide +kernel)) (by decide +kernel)
theorem uSEL_X6_odds : (.selects RX6 yX6_odds yX6_odds : Cond) ∈ gtbl := gm (List.mem_of_getElem? (i := 577) (by decide +kernel)) (by decide +kernel)
theorem uCO_X6_odds : (.code yX6_odds cX6_odds 6 (some .long) : Cond) ∈ gtbl := gm (List.mem_of_getElem? (i := 578) (by decide +kernel)) (by decide +kernel)
theorem uKL_RX6_229 : (.constantLong RX6 229 (-9223372036854775808) : Cond) ∈ gtbl := gm (List.mem_of_getElem? (i := 579) (by decide +kernel)) (by decide +kernel)
theorem uML_RX6_231 : (.methodLink RX6 231 arraycopyName : Cond) ∈ gtbl := gm (List.mem_of_getElem? (i := 580) (by decide +kernel)) (by decide +kernel)
theorem uML_RX6_237 : (.methodLink RX6 237 yX1_darkRows : Cond) ∈ gtbl := gm (List.mem_of_getElem? (i := 581) (by decide +kernel)) (by decide +kernel)
theorem uIM_X1_darkRows : (.instanceMethod yX1_darkRows : Cond) ∈ gtbl := gm (List.mem_of_getElem? (i := 582) (by decide +kernel)) (by decide +kernel)
theorem uSEL_X1_darkRows : (.selects RX1 yX1_darkRows yX1_darkRows : Cond) ∈ gtbl := gm (List.mem_of_getElem? (i := 583) (by decide +kernel)) (by decide +kernel)
theorem uCO_X1_darkRows : (.code yX1_darkRows cX1_darkRows 5 (some .int) : Cond) ∈ gtbl := gm (List.mem_of_getElem? (i := 584) (by decide +kernel)) (by decide +kernel)
theorem uML_RX1_56 : (.methodLink RX1 56 yX1_darkIn : Cond) ∈ gtbl := gm (List.mem_of_getElem? (i := 585) (by decide +kernel)) (by decide +kernel)
theorem uML_RX1_60 : (.methodLink RX1 60 yX1_turnOn : Cond) ∈ gtbl := gm (List.mem_of_getElem? (i := 586) (by decide +kernel)) (by decide +kernel)
theorem uML_RX1_64 : (.methodLink RX1 64 yX1_darkRows : Cond) ∈ gtbl := gm (List.mem_of_getElem? (i := 587) (by decide +kernel)) (by decide +kernel)
theorem uML_RX6_241 : (.methodLink RX6 241 yX6_commonDivisor : Cond) ∈ gtbl := gm (List.mem_of_getElem? (i := 588) (by decide +kernel)) (by decide +kernel)
theorem uST_X6_commonDivisor : (.static yX6_commonDivisor : Cond) ∈ gtbl := gm (List.mem_of_getElem? (i := 589) (by decide +kernel)) (by decide +kernel)
theorem uCO_X6_commonDivisor : (.code yX6_commonDivisor cX6_commonDivisor 6 (some .int) : Cond) ∈ gtbl := gm (List.mem_of_getElem? (i := 590) (by decide +kernel)) (by decide +kernel)
theorem uML_RL_96 : (.methodLink RL 96 yX6_sheet : Cond) ∈ gtbl := gm (List.mem_of_getElem? (i := 591) (by decide +kernel)) (by decide +kernel)
theorem uIM_X6_sheet : (.instanceMethod yX6_sheet : Cond) ∈ gtbl := gm (List.mem_of_getElem? (i := 592) (by decide +kernel)) (by decide +kernel)
theorem uSEL_X6_sheet : (.selects RX6 yX6_sheet yX6_sheet : Cond) ∈ gtbl := gm (List.mem_of_getElem? (i := 593) (by decide +kernel)) (by decide +kernel)
theorem uCO_X6_sheet : (.code yX6_sheet cX6_sheet 5 (some .int) : Cond) ∈ gtbl := gm (List.mem_of_getElem? (i := 594) (by decide +kernel)) (by decide +kernel)
theorem uML_RX6_244 : (.methodLink RX6 244 yX4_begin : Cond) ∈ gtbl := gm (List.mem_of_getElem? (i := 595) (by decide +kernel)) (by decide +kernel)
theorem uIM_X4_begin : (.instanceMethod yX4_begin : Cond) ∈ gtbl := gm (List.mem_of_getElem? (i := 596) (by decide +kernel)) (by decide +kernel)
theorem uSEL_X4_begin : (.selects RX4 yX4_begin yX4_begin : Cond) ∈ gtbl := gm (List.mem_of_getElem? (i := 597) (by decide +kernel)) (by decide +kernel)
theorem uCO_X4_begin : (.code yX4_begin cX4_begin 4 none : Cond) ∈ gtbl := gm (List.mem_of_getElem? (i := 598) (by decide +kernel)) (by decide +kernel)
theorem uML_RX4_22 : (.methodLink RX4 22 yJ9_min_7cf53 : Cond) ∈ gtbl := gm (List.mem_of_getElem? (i := 599) (by decide +kernel)) (by decide +kernel)
theorem uML_RX4_28 : (.methodLink RX4 28 yJ9_max_7cf53 : Cond) ∈ gtbl := gm (List.mem_of_getElem? (i := 600) (by decide +kernel)) (by decide +kernel)
theorem uML_RL_100 : (.methodLink RL 100 yX6_lose : Cond) ∈ gtbl := gm (List.mem_of_getElem? (i := 601) (by decide +kernel)) (by decide +kernel)
theorem uIM_X6_lose : (.instanceMethod yX6_lose : Cond) ∈ gtbl := gm (List.mem_of_getElem? (i := 602) (by decide +kernel)) (by decide +kernel)
theorem uSEL_X6_lose : (.selects RX6 yX6_lose yX6_lose : Cond) ∈ gtbl := gm (List.mem_of_getElem? (i := 603) (by decide +kernel)) (by decide +kernel)
theorem uCO_X6_lose : (.code yX6_lose cX6_lose 3 (some .int) : Cond) ∈ gtbl := gm (List.mem_of_getElem? (i := 604) (by decide +kernel)) (by decide +kernel)
theorem uML_RX6_248 : (.methodLink RX6 248 yX4_isNothing : Cond) ∈ gtbl := gm (List.mem_of_getElem? (i := 605) (by decide +kernel)) (by decide +kernel)
theorem uML_RX6_251 : (.methodLink RX6 251 yX4_end : Cond) ∈ gtbl := gm (List.mem_of_getElem? (i := 606) (by decide +kernel)) (by decide +kernel)
theorem uIM_X4_end : (.instanceMethod yX4_end : Cond) ∈ gtbl := gm (List.mem_of_getElem? (i := 607) (by decide +kernel)) (by decide +kernel)
theorem uSEL_X4_end : (.selects RX4 yX4_end yX4_end : Cond) ∈ gtbl := gm (List.mem_of_getElem? (i := 608) (by decide +kernel)) (by decide +kernel)
theorem uCO_X4_end : (.code yX4_end cX4_end 1 none : Cond) ∈ gtbl := gm (List.mem_of_getElem? (i := 609) (by decide +kernel)) (by decide +kernel)
theorem uML_RL_104 : (.methodLink RL 104 yX6_put : Cond) ∈ gtbl := gm (List.mem_of_getElem? (i := 610) (by decide +kernel)) (by decide +kernel)
theorem uIM_X6_put : (.instanceMethod yX6_put : Cond) ∈ gtbl := gm (List.mem_of_getElem? (i := 611) (by decide +kernel)) (by decide +kernel)
theorem uSEL_X6_put : (.selects RX6 yX6_put yX6_put : Cond) ∈ gtbl := gm (List.mem_of_getElem? (i := 612) (by decide +kernel)) (by decide +kernel)
theorem uCO_X6_put : (.code yX6_put cX6_put 5 (some .int) : Cond) ∈ gtbl := gm (List.mem_of_getElem? (i := 613) (by decide +kernel)) (by decide +kernel)
theorem uML_RX6_254 : (.methodLink RX6 254 yX4_set : Cond) ∈ gtbl := gm (List.mem_of_getElem? (i := 614) (by decide +kernel)) (by decide +kernel)
theorem uIM_X4_set : (.instanceMethod yX4_set : Cond) ∈ gtbl := gm (List.mem_of_getElem? (i := 615) (by decide +kernel)) (by decide +kernel)
theorem uSEL_X4_set : (.selects RX4 yX4_set yX4_set : Cond) ∈ gtbl := gm (List.mem_of_getElem? (i := 616) (by decide +kernel)) (by decide +kernel)
theorem uCO_X4_set : (.code yX4_set cX4_set 3 none : Cond) ∈ gtbl := gm (List.mem_of_getElem? (i := 617) (by decide +kernel)) (by decide +kernel)
theorem uML_RX4_43 : (.methodLink RX4 43 yX4_cut : Cond) ∈ gtbl := gm (List.mem_of_getElem? (i := 618) (by decide +kernel)) (by decide +kernel)
theorem uIM_X4_cut : (.instanceMethod yX4_cut : Cond) ∈ gtbl := gm (List.mem_of_getElem? (i := 620) (by decide +kernel)) (by decide +kernel)
theorem uCO_X4_cut : (.code yX4_cut cX4_cut 2 (some .int) : Cond) ∈ gtbl := gm (List.mem_of_getElem? (i := 621) (by decide +kernel)) (by decide +kernel)
theorem uML_RL_108 : (.methodLink RL 108 yX6_cell : Cond) ∈ gtbl := gm (List.mem_of_getElem? (i := 622) (by decide +kernel)) (by decide +kernel)
theorem uIM_X6_cell : (.instanceMethod yX6_cell : Cond) ∈ gtbl := gm (List.mem_of_getElem? (i := 623) (by decide +kernel)) (by decide +kernel)
theorem uSEL_X6_cell : (.selects RX6 yX6_cell yX6_cell : Cond) ∈ gtbl := gm (List.mem_of_getElem? (i := 624) (by decide +kernel)) (by decide +kernel)
theorem uCO_X6_cell : (.code yX6_cell cX6_cell 6 (some .long) : Cond) ∈ gtbl := gm (List.mem_of_getElem? (i := 625) (by decide +kernel)) (by decide +kernel)
theorem uML_RL_113 : (.methodLink RL 113 yX6_copy : Cond) ∈ gtbl := gm (List.mem_of_getElem? (i := 626) (by decide +kernel)) (by decide +kernel)
theorem uIM_X6_copy : (.instanceMethod yX6_copy : Cond) ∈ gtbl := gm (List.mem_of_getElem? (i := 627) (by decide +kernel)) (by decide +kernel)
theorem uSEL_X6_copy : (.selects RX6 yX6_copy yX6_copy : Cond) ∈ gtbl := gm (List.mem_of_getElem? (i := 628) (by decide +kernel)) (by decide +kernel)
theorem uCO_X6_copy : (.code yX6_copy cX6_copy 8 (some .int) : Cond) ∈ gtbl := gm (List.mem_of_getElem? (i := 629) (by decide +kernel)) (by decide +kernel)
theorem uML_RL_117 : (.methodLink RL 117 yX6_tell : Cond) ∈ gtbl := gm (List.mem_of_getElem? (i := 630) (by decide +kernel)) (by decide +kernel)
theorem uIM_X6_tell : (.instanceMethod yX6_tell : Cond) ∈ gtbl := gm (List.mem_of_getElem? (i := 631) (by decide +kernel)) (by decide +kernel)
theorem uSEL_X6_tell : (.selects RX6 yX6_tell yX6_tell : Cond) ∈ gtbl := gm (List.mem_of_getElem? (i := 632) (by decide +kernel)) (by decide +kernel)
theorem uCO_X6_tell : (.code yX6_tell cX6_tell 2 (some .int) : Cond) ∈ gtbl := gm (List.mem_of_getElem? (i := 633) (by decide +kernel)) (by decide +kernel)
theorem uML_RX6_263 : (.methodLink RX6 263 yX6_doubleBody : Cond) ∈ gtbl := gm (List.mem_of_getElem? (i := 634) (by decide +kernel)) (by decide +kernel)
theorem uIM_X6_doubleBody : (.instanceMethod yX6_doubleBody : Cond) ∈ gtbl := gm (List.mem_of_getElem? (i := 636) (by decide +kernel)) (by decide +kernel)
theorem uCO_X6_doubleBody : (.code yX6_doubleBody cX6_doubleBody 3 (some .int) : Cond) ∈ gtbl := gm (List.mem_of_getElem? (i := 637) (by decide +kernel)) (by decide +kernel)
theorem uML_RX6_272 : (.methodLink RX6 272 yX6_leave : Cond) ∈ gtbl := gm (List.mem_of_getElem? (i := 638) (by decide +kernel)) (by decide +kernel)
theorem uIM_X6_leave : (.instanceMethod yX6_leave : Cond) ∈ gtbl := gm (List.mem_of_getElem? (i := 640) (by decide +kernel)) (by decide +kernel)
theorem uCO_X6_leave : (.code yX6_leave cX6_leave 2 none : Cond) ∈ gtbl := gm (List.mem_of_getElem? (i := 641) (by decide +kernel)) (by decide +kernel)
theorem uML_RX6_266 : (.methodLink RX6 266 yX6_broadBody : Cond) ∈ gtbl := gm (List.mem_of_getElem? (i := 642) (by decide +kernel)) (by decide +kernel)
theorem uIM_X6_broadBody : (.instanceMethod yX6_broadBody : Cond) ∈ gtbl := gm (List.mem_of_getElem? (i := 644) (by decide +kernel)) (by decide +kernel)
theorem uCO_X6_broadBody : (.code yX6_broadBody cX6_broadBody 2 (some .int) : Cond) ∈ gtbl := gm (List.mem_of_getElem? (i := 645) (by decide +kernel)) (by decide +kernel)
theorem uML_RX6_269 : (.methodLink RX6 269 yX6_plainBody : Cond) ∈ gtbl := gm (List.mem_of_getElem? (i := 646) (by decide +kernel)) (by decide +kernel)
theorem uIM_X6_plainBody : (.instanceMethod yX6_plainBody : Cond) ∈ gtbl := gm (List.mem_of_getElem? (i := 648) (by decide +kernel)) (by decide +kernel)
theorem uCO_X6_plainBody : (.code yX6_plainBody cX6_plainBody 2 (some .int) : Cond) ∈ gtbl := gm (List.mem_of_getElem? (i := 649) (by decide +kernel)) (by decide +kernel)
theorem uML_RL_121 : (.methodLink RL 121 yX6_feel : Cond) ∈ gtbl := gm (List.mem_of_getElem? (i := 650) (by decide +kernel)) (by decide +kernel)
theorem uIM_X6_feel : (.instanceMethod yX6_feel : Cond) ∈ gtbl := gm (List.mem_of_getElem? (i := 651) (by decide +kernel)) (by decide +kernel)
theorem uSEL_X6_feel : (.selects RX6 yX6_feel yX6_feel : Cond) ∈ gtbl := gm (List.mem_of_getElem? (i := 652) (by decide +kernel)) (by decide +kernel)
theorem uCO_X6_feel : (.code yX6_feel cX6_feel 2 (some .int) : Cond) ∈ gtbl := gm (List.mem_of_getElem? (i := 653) (by decide +kernel)) (by decide +kernel)
theorem uML_RX6_276 : (.methodLink RX6 276 yX6_ownBody : Cond) ∈ gtbl := gm (List.mem_of_getElem? (i := 654) (by decide +kernel)) (by decide +kernel)
theorem uIM_X6_ownBody : (.instanceMethod yX6_ownBody : Cond) ∈ gtbl := gm (List.mem_of_getElem? (i := 656) (by decide +kernel)) (by decide +kernel)
theorem uCO_X6_ownBody : (.code yX6_ownBody cX6_ownBody 1 (some .int) : Cond) ∈ gtbl := gm (List.mem_of_getElem? (i := 657) (by decide +kernel)) (by decide +kernel)
theorem uML_RX6_279 : (.methodLink RX6 279 yX6_lentBody : Cond) ∈ gtbl := gm (List.mem_of_getElem? (i := 658) (by decide +kernel)) (by decide +kernel)
theorem uIM_X6_lentBody : (.instanceMethod yX6_lentBody : Cond) ∈ gtbl := gm (List.mem_of_getElem? (i := 660) (by decide +kernel)) (by decide +kernel)
theorem uCO_X6_lentBody : (.code yX6_lentBody cX6_lentBody 2 (some .int) : Cond) ∈ gtbl := gm (List.mem_of_getElem? (i := 661) (by decide +kernel)) (by decide +kernel)
theorem uML_RL_125 : (.methodLink RL 125 yX6_as : Cond) ∈ gtbl := gm (List.mem_of_getElem? (i := 662) (by decide +kernel)) (by decide +kernel)
theorem uIM_X6_as : (.instanceMethod yX6_as : Cond) ∈ gtbl := gm (List.mem_of_getElem? (i := 663) (by decide +kernel)) (by decide +kernel)
theorem uSEL_X6_as : (.selects RX6 yX6_as yX6_as : Cond) ∈ gtbl := gm (List.mem_of_getElem? (i := 664) (by decide +kernel)) (by decide +kernel)
theorem uCO_X6_as : (.code yX6_as cX6_as 3 (some .int) : Cond) ∈ gtbl := gm (List.mem_of_getElem? (i := 665) (by decide +kernel)) (by decide +kernel)
theorem uML_RL_129 : (.methodLink RL 129 yX6_trace : Cond) ∈ gtbl := gm (List.mem_of_getElem? (i := 666) (by decide +kernel)) (by decide +kernel)
theorem uIM_X6_trace : (.instanceMethod yX6_trace : Cond) ∈ gtbl := gm (List.mem_of_getElem? (i := 667) (by decide +kernel)) (by decide +kernel)
theorem uSEL_X6_trace : (.selects RX6 yX6_trace yX6_trace : Cond) ∈ gtbl := gm (List.mem_of_getElem? (i := 668) (by decide +kernel)) (by decide +kernel)
theorem uCO_X6_trace : (.code yX6_trace cX6_trace 1 (some .int) : Cond) ∈ gtbl := gm (List.mem_of_getElem? (i := 669) (by decide +kernel)) (by decide +kernel)
theorem uML_RL_133 : (.methodLink RL 133 yX6_fault : Cond) ∈ gtbl := gm (List.mem_of_getElem? (i := 670) (by decide +kernel)) (by decide +kernel)
theorem uIM_X6_fault : (.instanceMethod yX6_fault : Cond) ∈ gtbl := gm (List.mem_of_getElem? (i := 671) (by decide +kernel)) (by decide +kernel)
theorem uSEL_X6_fault : (.selects RX6 yX6_fault yX6_fault : Cond) ∈ gtbl := gm (List.mem_of_getElem? (i := 672) (by decide +kernel)) (by decide +kernel)
theorem uCO_X6_fault : (.code yX6_fault cX6_fault 1 (some .int) : Cond) ∈ gtbl := gm (List.mem_of_getElem? (i := 673) (by decide +kernel)) (by decide +kernel)
theorem uML_RL_137 : (.methodLink RL 137 yX6_many : Cond) ∈ gtbl := gm (List.mem_of_getElem? (i := 674) (by decide +kernel)) (by decide +kernel)
theorem uIM_X6_many : (.instanceMethod yX6_many : Cond) ∈ gtbl := gm (List.mem_of_getElem? (i := 675) (by decide +kernel)) (by decide +kernel)
theorem uSEL_X6_many : (.selects RX6 yX6_many yX6_many : Cond) ∈ gtbl := gm (List.mem_of_getElem? (i := 676) (by decide +kernel)) (by decide +kernel)
theorem uCO_X6_many : (.code yX6_many cX6_many 2 (some .int) : Cond) ∈ gtbl := gm (List.mem_of_getElem? (i := 677) (by decide +kernel)) (by decide +kernel)
theorem uML_RX6_285 : (.methodLink RX6 285 yX1_pressesInAll : Cond) ∈ gtbl := gm (List.mem_of_getElem? (i := 678) (by decide +kernel)) (by decide +kernel)
theorem uIM_X1_pressesInAll : (.instanceMethod yX1_pressesInAll : Cond) ∈ gtbl := gm (List.mem_of_getElem? (i := 679) (by decide +kernel)) (by decide +kernel)
theorem uSEL_X1_pressesInAll : (.selects RX1 yX1_pressesInAll yX1_pressesInAll : Cond) ∈ gtbl := gm (List.mem_of_getElem? (i := 680) (by decide +kernel)) (by decide +kernel)
theorem uCO_X1_pressesInAll : (.code yX1_pressesInAll cX1_pressesInAll 3 (some .int) : Cond) ∈ gtbl := gm (List.mem_of_getElem? (i := 681) (by decide +kernel)) (by decide +kernel)
theorem uCL_RL_10 : (.classLink RL 10 RX7 : Cond) ∈ gtbl := gm (List.mem_of_getElem? (i := 682) (by decide +kernel)) (by decide +kernel)
theorem uIN_RX7 : (.instantiable RX7 28 : Cond) ∈ gtbl := gm (List.mem_of_getElem? (i := 683) (by decide +kernel)) (by decide +kernel)
theorem uML_RL_12 : (.methodLink RL 12 yX7_init : Cond) ∈ gtbl := gm (List.mem_of_getElem? (i := 684) (by decide +kernel)) (by decide +kernel)
theorem uIM_X7_init : (.instanceMethod yX7_init : Cond) ∈ gtbl := gm (List.mem_of_getElem? (i := 685) (by decide +kernel)) (by decide +kernel)
theorem uCO_X7_init : (.code yX7_init cX7_init 1 none : Cond) ∈ gtbl := gm (List.mem_of_getElem? (i := 686) (by decide +kernel)) (by decide +kernel)
theorem uML_RX7_1 : (.methodLink RX7 1 objectInit : Cond) ∈ gtbl := gm (List.mem_of_getElem? (i := 687) (by decide +kernel)) (by decide +kernel)
theorem uFL_RX7_61 : (.fieldLink RX7 61 "LampSwitchesModel" "fault" "I" : Cond) ∈ gtbl := gm (List.mem_of_getElem? (i := 688) (by decide +kernel)) (by decide +kernel)
theorem uFL_RX7_206 : (.fieldLink RX7 206 "LampSwitchesModel" "trace" "I" : Cond) ∈ gtbl := gm (List.mem_of_getElem? (i := 689) (by decide +kernel)) (by decide +kernel)
theorem uFL_RX7_9 : (.fieldLink RX7 9 "LampSwitchesModel" "sorts" "[I" : Cond) ∈ gtbl := gm (List.mem_of_getElem? (i := 690) (by decide +kernel)) (by decide +kernel)
theorem uFL_RX7_13 : (.fieldLink RX7 13 "LampSwitchesModel" "sheetLong" "[I" : Cond) ∈ gtbl := gm (List.mem_of_getElem? (i := 691) (by decide +kernel)) (by decide +kernel)
theorem uFL_RX7_16 : (.fieldLink RX7 16 "LampSwitchesModel" "cells" "[I" : Cond) ∈ gtbl := gm (List.mem_of_getElem? (i := 692) (by decide +kernel)) (by decide +kernel)
theorem uFL_RX7_71 : (.fieldLink RX7 71 "LampSwitchesModel" "lamps" "I" : Cond) ∈ gtbl := gm (List.mem_of_getElem? (i := 693) (by decide +kernel)) (by decide +kernel)
theorem uFL_RX7_74 : (.fieldLink RX7 74 "LampSwitchesModel" "switches" "I" : Cond) ∈ gtbl := gm (List.mem_of_getElem? (i := 694) (by decide +kernel)) (by decide +kernel)
theorem uFL_RX7_107 : (.fieldLink RX7 107 "LampSwitchesModel" "presses" "I" : Cond) ∈ gtbl := gm (List.mem_of_getElem? (i := 695) (by decide +kernel)) (by decide +kernel)
theorem uFL_RX7_19 : (.fieldLink RX7 19 "LampSwitchesModel" "shades" "[I" : Cond) ∈ gtbl := gm (List.mem_of_getElem? (i := 696) (by decide +kernel)) (by decide +kernel)
theorem uFL_RX7_22 : (.fieldLink RX7 22 "LampSwitchesModel" "shadeNow" "[I" : Cond) ∈ gtbl := gm (List.mem_of_getElem? (i := 697) (by decide +kernel)) (by decide +kernel)
theorem uFL_RX7_25 : (.fieldLink RX7 25 "LampSwitchesModel" "kind" "[I" : Cond) ∈ gtbl := gm (List.mem_of_getElem? (i := 698) (by decide +kernel)) (by decide +kernel)
theorem uFL_RX7_28 : (.fieldLink RX7 28 "LampSwitchesModel" "turns" "[I" : Cond) ∈ gtbl := gm (List.mem_of_getElem? (i := 699) (by decide +kernel)) (by decide +kernel)
theorem uFL_RX7_31 : (.fieldLink RX7 31 "LampSwitchesModel" "wired" "[I" : Cond) ∈ gtbl := gm (List.mem_of_getElem? (i := 700) (by decide +kernel)) (by decide +kernel)
theorem uFL_RX7_34 : (.fieldLink RX7 34 "LampSwitchesModel" "pressed" "[I" : Cond) ∈ gtbl := gm (List.mem_of_getElem? (i := 701) (by decide +kernel)) (by decide +kernel)
theorem uFL_RX7_77 : (.fieldLink RX7 77 "LampSwitchesModel" "at" "I" : Cond) ∈ gtbl := gm (List.mem_of_getElem? (i := 702) (by decide +kernel)) (by decide +kernel)
theorem uFL_RX7_101 : (.fieldLink RX7 101 "LampSwitchesModel" "readLamps" "I" : Cond) ∈ gtbl := gm (List.mem_of_getElem? (i := 703) (by decide +kernel)) (by decide +kernel)
theorem uFL_RX7_104 : (.fieldLink RX7 104 "LampSwitchesModel" "readSwitches" "I" : Cond) ∈ gtbl := gm (List.mem_of_getElem? (i := 704) (by decide +kernel)) (by decide +kernel)
theorem uFL_RX7_37 : (.fieldLink RX7 37 "LampSwitchesModel" "readShades" "[I" : Cond) ∈ gtbl := gm (List.mem_of_getElem? (i := 705) (by decide +kernel)) (by decide +kernel)
theorem uFL_RX7_40 : (.fieldLink RX7 40 "LampSwitchesModel" "read" "[I" : Cond) ∈ gtbl := gm (List.mem_of_getElem? (i := 706) (by decide +kernel)) (by decide +kernel)
theorem uFL_RX7_43 : (.fieldLink RX7 43 "LampSwitchesModel" "keptShades" "[I" : Cond) ∈ gtbl := gm (List.mem_of_getElem? (i := 707) (by decide +kernel)) (by decide +kernel)
theorem uFL_RX7_147 : (.fieldLink RX7 147 "LampSwitchesModel" "dayPresses" "I" : Cond) ∈ gtbl := gm (List.mem_of_getElem? (i := 708) (by decide +kernel)) (by decide +kernel)
theorem uFL_RX7_150 : (.fieldLink RX7 150 "LampSwitchesModel" "dayDark" "I" : Cond) ∈ gtbl := gm (List.mem_of_getElem? (i := 709) (by decide +kernel)) (by decide +kernel)
theorem uFL_RX7_46 : (.fieldLink RX7 46 "LampSwitchesModel" "far" "[I" : Cond) ∈ gtbl := gm (List.mem_of_getElem? (i := 710) (by decide +kernel)) (by decide +kernel)
theorem uFL_RX7_49 : (.fieldLink RX7 49 "LampSwitchesModel" "line" "[I" : Cond) ∈ gtbl := gm (List.mem_of_getElem? (i := 711) (by decide +kernel)) (by decide +kernel)
theorem uFL_RX7_110 : (.fieldLink RX7 110 "LampSwitchesModel" "readings" "I" : Cond) ∈ gtbl := gm (List.mem_of_getElem? (i := 712) (by decide +kernel)) (by decide +kernel)
theorem uFL_RX7_52 : (.fieldLink RX7 52 "LampSwitchesModel" "readSwitchOf" "[I" : Cond) ∈ gtbl := gm (List.mem_of_getElem? (i := 713) (by decide +kernel)) (by decide +kernel)
theorem uFL_RX7_55 : (.fieldLink RX7 55 "LampSwitchesModel" "readLampOf" "[I" : Cond) ∈ gtbl := gm (List.mem_of_getElem? (i := 714) (by decide +kernel)) (by decide +kernel)
theorem uFL_RX7_58 : (.fieldLink RX7 58 "LampSwitchesModel" "readShadeOf" "[I" : Cond) ∈ gtbl := gm (List.mem_of_getElem? (i := 715) (by decide +kernel)) (by decide +kernel)
theorem uML_RL_17 : (.methodLink RL 17 yX7_hall : Cond) ∈ gtbl := gm (List.mem_of_getElem? (i := 773) (by decide +kernel)) (by decide +kernel)
theorem uIM_X7_hall : (.instanceMethod yX7_hall : Cond) ∈ gtbl := gm (List.mem_of_getElem? (i := 774) (by decide +kernel)) (by decide +kernel)
theorem uSEL_X7_hall : (.selects RX7 yX7_hall yX7_hall : Cond) ∈ gtbl := gm (List.mem_of_getElem? (i := 775) (by decide +kernel)) (by decide +kernel)
theorem uCO_X7_hall : (.code yX7_hall cX7_hall 7 (some .int) : Cond) ∈ gtbl := gm (List.mem_of_getElem? (i := 776) (by decide +kernel)) (by decide +kernel)
theorem uML_RX7_80 : (.methodLink RX7 80 yX7_isSheet : Cond) ∈ gtbl := gm (List.mem_of_getElem? (i := 777) (by decide +kernel)) (by decide +kernel)
theorem uST_X7_isSheet : (.static yX7_isSheet : Cond) ∈ gtbl := gm (List.mem_of_getElem? (i := 778) (by decide +kernel)) (by decide +kernel)
theorem uCO_X7_isSheet : (.code yX7_isSheet cX7_isSheet 1 (some .boolean) : Cond) ∈ gtbl := gm (List.mem_of_getElem? (i := 779) (by decide +kernel)) (by decide +kernel)
theorem uML_RX7_67 : (.methodLink RX7 67 yX7_within : Cond) ∈ gtbl := gm (List.mem_of_getElem? (i := 780) (by decide +kernel)) (by decide +kernel)
theorem uST_X7_within : (.static yX7_within : Cond) ∈ gtbl := gm (List.mem_of_getElem? (i := 781) (by decide +kernel)) (by decide +kernel)
theorem uCO_X7_within : (.code yX7_within cX7_within 3 (some .boolean) : Cond) ∈ gtbl := gm (List.mem_of_getElem? (i := 782) (by decide +kernel)) (by decide +kernel)
theorem uML_RX7_84 : (.methodLink RX7 84 yX7_isSort : Cond) ∈ gtbl := gm (List.mem_of_getElem? (i := 783) (by decide +kernel)) (by decide +kernel)
theorem uST_X7_isSort : (.static yX7_isSort : Cond) ∈ gtbl := gm (List.mem_of_getElem? (i := 784) (by decide +kernel)) (by decide +kernel)
theorem uCO_X7_isSort : (.code yX7_isSort cX7_isSort 1 (some .boolean) : Cond) ∈ gtbl := gm (List.mem_of_getElem? (i := 785) (by decide +kernel)) (by decide +kernel)
theorem uML_RX7_87 : (.methodLink RX7 87 yX7_against : Cond) ∈ gtbl := gm (List.mem_of_getElem? (i := 786) (by decide +kernel)) (by decide +kernel)
theorem uIM_X7_against : (.instanceMethod yX7_against : Cond) ∈ gtbl := gm (List.mem_of_getElem? (i := 788) (by decide +kernel)) (by decide +kernel)
theorem uCO_X7_against : (.code yX7_against cX7_against 5 (some .int) : Cond) ∈ gtbl := gm (List.mem_of_getElem? (i := 789) (by decide +kernel)) (by decide +kernel)
theorem uML_RX7_91 : (.methodLink RX7 91 yX7_fails : Cond) ∈ gtbl := gm (List.mem_of_getElem? (i := 790) (by decide +kernel)) (by decide +kernel)
theorem uIM_X7_fails : (.instanceMethod yX7_fails : Cond) ∈ gtbl := gm (List.mem_of_getElem? (i := 792) (by decide +kernel)) (by decide +kernel)
theorem uCO_X7_fails : (.code yX7_fails cX7_fails 2 (some .int) : Cond) ∈ gtbl := gm (List.mem_of_getElem? (i := 793) (by decide +kernel)) (by decide +kernel)
theorem uML_RX7_95 : (.methodLink RX7 95 yX7_readHall : Cond) ∈ gtbl := gm (List.mem_of_getElem? (i := 794) (by decide +kernel)) (by decide +kernel)
theorem uIM_X7_readHall : (.instanceMethod yX7_readHall : Cond) ∈ gtbl := gm (List.mem_of_getElem? (i := 796) (by decide +kernel)) (by decide +kernel)
theorem uCO_X7_readHall : (.code yX7_readHall cX7_readHall 3 (some .boolean) : Cond) ∈ gtbl := gm (List.mem_of_getElem? (i := 797) (by decide +kernel)) (by decide +kernel)
theorem uML_RX7_113 : (.methodLink RX7 113 yX7_isSign : Cond) ∈ gtbl := gm (List.mem_of_getElem? (i := 798) (by decide +kernel)) (by decide +kernel)
theorem uIM_X7_isSign : (.instanceMethod yX7_isSign : Cond) ∈ gtbl := gm (List.mem_of_getElem? (i := 800) (by decide +kernel)) (by decide +kernel)
theorem uCO_X7_isSign : (.code yX7_isSign cX7_isSign 3 (some .boolean) : Cond) ∈ gtbl := gm (List.mem_of_getElem? (i := 801) (by decide +kernel)) (by decide +kernel)
theorem uML_RX7_117 : (.methodLink RX7 117 yX7_digit : Cond) ∈ gtbl := gm (List.mem_of_getElem? (i := 802) (by decide +kernel)) (by decide +kernel)
theorem uIM_X7_digit : (.instanceMethod yX7_digit : Cond) ∈ gtbl := gm (List.mem_of_getElem? (i := 804) (by decide +kernel)) (by decide +kernel)
theorem uCO_X7_digit : (.code yX7_digit cX7_digit 4 (some .int) : Cond) ∈ gtbl := gm (List.mem_of_getElem? (i := 805) (by decide +kernel)) (by decide +kernel)
theorem uML_RX7_121 : (.methodLink RX7 121 yX7_readSwitch : Cond) ∈ gtbl := gm (List.mem_of_getElem? (i := 806) (by decide +kernel)) (by decide +kernel)
theorem uIM_X7_readSwitch : (.instanceMethod yX7_readSwitch : Cond) ∈ gtbl := gm (List.mem_of_getElem? (i := 808) (by decide +kernel)) (by decide +kernel)
theorem uCO_X7_readSwitch : (.code yX7_readSwitch cX7_readSwitch 6 (some .boolean) : Cond) ∈ gtbl := gm (List.mem_of_getElem? (i := 809) (by decide +kernel)) (by decide +kernel)
theorem uML_RX7_98 : (.methodLink RX7 98 yX7_takeHall : Cond) ∈ gtbl := gm (List.mem_of_getElem? (i := 810) (by decide +kernel)) (by decide +kernel)
theorem uIM_X7_takeHall : (.instanceMethod yX7_takeHall : Cond) ∈ gtbl := gm (List.mem_of_getElem? (i := 812) (by decide +kernel)) (by decide +kernel)
theorem uCO_X7_takeHall : (.code yX7_takeHall cX7_takeHall 2 none : Cond) ∈ gtbl := gm (List.mem_of_getElem? (i := 813) (by decide +kernel)) (by decide +kernel)
theorem uML_RL_22 : (.methodLink RL 22 yX7_ofLamp : Cond) ∈ gtbl := gm (List.mem_of_getElem? (i := 814) (by decide +kernel)) (by decide +kernel)
theorem uIM_X7_ofLamp : (.instanceMethod yX7_ofLamp : Cond) ∈ gtbl := gm (List.mem_of_getElem? (i := 815) (by decide +kernel)) (by decide +kernel)
theorem uSEL_X7_ofLamp : (.selects RX7 yX7_ofLamp yX7_ofLamp : Cond) ∈ gtbl := gm (List.mem_of_getElem? (i := 816) (by decide +kernel)) (by decide +kernel)
theorem uCO_X7_ofLamp : (.code yX7_ofLamp cX7_ofLamp 3 (some .int) : Cond) ∈ gtbl := gm (List.mem_of_getElem? (i := 817) (by decide +kernel)) (by decide +kernel)
theorem uML_RX7_127 : (.methodLink RX7 127 yX7_isLamp : Cond) ∈ gtbl := gm (List.mem_of_getElem? (i := 818) (by decide +kernel)) (by decide +kernel)
theorem uIM_X7_isLamp : (.instanceMethod yX7_isLamp : Cond) ∈ gtbl := gm (List.mem_of_getElem? (i := 820) (by decide +kernel)) (by decide +kernel)
theorem uCO_X7_isLamp : (.code yX7_isLamp cX7_isLamp 2 (some .boolean) : Cond) ∈ gtbl := gm (List.mem_of_getElem? (i := 821) (by decide +kernel)) (by decide +kernel)
theorem uML_RX7_130 : (.methodLink RX7 130 yX7_wiredTo : Cond) ∈ gtbl := gm (List.mem_of_getElem? (i := 822) (by decide +kernel)) (by decide +kernel)
theorem uIM_X7_wiredTo : (.instanceMethod yX7_wiredTo : Cond) ∈ gtbl := gm (List.mem_of_getElem? (i := 824) (by decide +kernel)) (by decide +kernel)
theorem uCO_X7_wiredTo : (.code yX7_wiredTo cX7_wiredTo 4 (some .int) : Cond) ∈ gtbl := gm (List.mem_of_getElem? (i := 825) (by decide +kernel)) (by decide +kernel)
theorem uML_RX7_124 : (.methodLink RX7 124 yX7_isOf : Cond) ∈ gtbl := gm (List.mem_of_getElem? (i := 826) (by decide +kernel)) (by decide +kernel)
theorem uST_X7_isOf : (.static yX7_isOf : Cond) ∈ gtbl := gm (List.mem_of_getElem? (i := 827) (by decide +kernel)) (by decide +kernel)
theorem uCO_X7_isOf : (.code yX7_isOf cX7_isOf 2 (some .boolean) : Cond) ∈ gtbl := gm (List.mem_of_getElem? (i := 828) (by decide +kernel)) (by decide +kernel)
theorem uML_RL_26 : (.methodLink RL 26 yX7_ofSwitch : Cond) ∈ gtbl := gm (List.mem_of_getElem? (i := 829) (by decide +kernel)) (by decide +kernel)
theorem uIM_X7_ofSwitch : (.instanceMethod yX7_ofSwitch : Cond) ∈ gtbl := gm (List.mem_of_getElem? (i := 830) (by decide +kernel)) (by decide +kernel)
theorem uSEL_X7_ofSwitch : (.selects RX7 yX7_ofSwitch yX7_ofSwitch : Cond) ∈ gtbl := gm (List.mem_of_getElem? (i := 831) (by decide +kernel)) (by decide +kernel)
theorem uCO_X7_ofSwitch : (.code yX7_ofSwitch cX7_ofSwitch 3 (some .int) : Cond) ∈ gtbl := gm (List.mem_of_getElem? (i := 832) (by decide +kernel)) (by decide +kernel)
theorem uML_RX7_133 : (.methodLink RX7 133 yX7_isSwitch : Cond) ∈ gtbl := gm (List.mem_of_getElem? (i := 833) (by decide +kernel)) (by decide +kernel)
theorem uIM_X7_isSwitch : (.instanceMethod yX7_isSwitch : Cond) ∈ gtbl := gm (List.mem_of_getElem? (i := 835) (by decide +kernel)) (by decide +kernel)
theorem uCO_X7_isSwitch : (.code yX7_isSwitch cX7_isSwitch 2 (some .boolean) : Cond) ∈ gtbl := gm (List.mem_of_getElem? (i := 836) (by decide +kernel)) (by decide +kernel)
theorem uML_RX7_136 : (.methodLink RX7 136 yX7_movesOf : Cond) ∈ gtbl := gm (List.mem_of_getElem? (i := 837) (by decide +kernel)) (by decide +kernel)
theorem uIM_X7_movesOf : (.instanceMethod yX7_movesOf : Cond) ∈ gtbl := gm (List.mem_of_getElem? (i := 839) (by decide +kernel)) (by decide +kernel)
theorem uCO_X7_movesOf : (.code yX7_movesOf cX7_movesOf 2 (some .int) : Cond) ∈ gtbl := gm (List.mem_of_getElem? (i := 840) (by decide +kernel)) (by decide +kernel)
theorem uML_RL_30 : (.methodLink RL 30 yX7_shade : Cond) ∈ gtbl := gm (List.mem_of_getElem? (i := 841) (by decide +kernel)) (by decide +kernel)
theorem uIM_X7_shade : (.instanceMethod yX7_shade : Cond) ∈ gtbl := gm (List.mem_of_getElem? (i := 842) (by decide +kernel)) (by decide +kernel)
theorem uSEL_X7_shade : (.selects RX7 yX7_shade yX7_shade : Cond) ∈ gtbl := gm (List.mem_of_getElem? (i := 843) (by decide +kernel)) (by decide +kernel)
theorem uCO_X7_shade : (.code yX7_shade cX7_shade 4 (some .int) : Cond) ∈ gtbl := gm (List.mem_of_getElem? (i := 844) (by decide +kernel)) (by decide +kernel)
theorem uML_RL_34 : (.methodLink RL 34 yX7_turn : Cond) ∈ gtbl := gm (List.mem_of_getElem? (i := 845) (by decide +kernel)) (by decide +kernel)
theorem uIM_X7_turn : (.instanceMethod yX7_turn : Cond) ∈ gtbl := gm (List.mem_of_getElem? (i := 846) (by decide +kernel)) (by decide +kernel)
theorem uSEL_X7_turn : (.selects RX7 yX7_turn yX7_turn : Cond) ∈ gtbl := gm (List.mem_of_getElem? (i := 847) (by decide +kernel)) (by decide +kernel)
theorem uCO_X7_turn : (.code yX7_turn cX7_turn 4 (some .int) : Cond) ∈ gtbl := gm (List.mem_of_getElem? (i := 848) (by decide +kernel)) (by decide +kernel)
theorem uML_RL_38 : (.methodLink RL 38 yX7_wire : Cond) ∈ gtbl := gm (List.mem_of_getElem? (i := 849) (by decide +kernel)) (by decide +kernel)
theorem uIM_X7_wire : (.instanceMethod yX7_wire : Cond) ∈ gtbl := gm (List.mem_of_getElem? (i := 850) (by decide +kernel)) (by decide +kernel)
theorem uSEL_X7_wire : (.selects RX7 yX7_wire yX7_wire : Cond) ∈ gtbl := gm (List.mem_of_getElem? (i := 851) (by decide +kernel)) (by decide +kernel)
theorem uCO_X7_wire : (.code yX7_wire cX7_wire 3 (some .int) : Cond) ∈ gtbl := gm (List.mem_of_getElem? (i := 852) (by decide +kernel)) (by decide +kernel)
theorem uML_RL_42 : (.methodLink RL 42 yX7_press : Cond) ∈ gtbl := gm (List.mem_of_getElem? (i := 853) (by decide +kernel)) (by decide +kernel)
theorem uIM_X7_press : (.instanceMethod yX7_press : Cond) ∈ gtbl := gm (List.mem_of_getElem? (i := 854) (by decide +kernel)) (by decide +kernel)
theorem uSEL_X7_press : (.selects RX7 yX7_press yX7_press : Cond) ∈ gtbl := gm (List.mem_of_getElem? (i := 855) (by decide +kernel)) (by decide +kernel)
theorem uCO_X7_press : (.code yX7_press cX7_press 3 (some .int) : Cond) ∈ gtbl := gm (List.mem_of_getElem? (i := 856) (by decide +kernel)) (by decide +kernel)
theorem uML_RX7_139 : (.methodLink RX7 139 yX7_turnsAll : Cond) ∈ gtbl := gm (List.mem_of_getElem? (i := 857) (by decide +kernel)) (by decide +kernel)
theorem uIM_X7_turnsAll : (.instanceMethod yX7_turnsAll : Cond) ∈ gtbl := gm (List.mem_of_getElem? (i := 859) (by decide +kernel)) (by decide +kernel)
theorem uCO_X7_turnsAll : (.code yX7_turnsAll cX7_turnsAll 4 none : Cond) ∈ gtbl := gm (List.mem_of_getElem? (i := 860) (by decide +kernel)) (by decide +kernel)
theorem uML_RX7_143 : (.methodLink RX7 143 yX7_darkNow : Cond) ∈ gtbl := gm (List.mem_of_getElem? (i := 861) (by decide +kernel)) (by decide +kernel)
theorem uIM_X7_darkNow : (.instanceMethod yX7_darkNow : Cond) ∈ gtbl := gm (List.mem_of_getElem? (i := 863) (by decide +kernel)) (by decide +kernel)
theorem uCO_X7_darkNow : (.code yX7_darkNow cX7_darkNow 3 (some .int) : Cond) ∈ gtbl := gm (List.mem_of_getElem? (i := 864) (by decide +kernel)) (by decide +kernel)
theorem uML_RL_47 : (.methodLink RL 47 yX7_day : Cond) ∈ gtbl := gm (List.mem_of_getElem? (i := 865) (by decide +kernel)) (by decide +kernel)
theorem uIM_X7_day : (.instanceMethod yX7_day : Cond) ∈ gtbl := gm (List.mem_of_getElem? (i := 866) (by decide +kernel)) (by decide +kernel)
theorem uSEL_X7_day : (.selects RX7 yX7_day yX7_day : Cond) ∈ gtbl := gm (List.mem_of_getElem? (i := 867) (by decide +kernel)) (by decide +kernel)
theorem uCO_X7_day : (.code yX7_day cX7_day 10 (some .int) : Cond) ∈ gtbl := gm (List.mem_of_getElem? (i := 868) (by decide +kernel)) (by decide +kernel)
theorem uML_RX7_156 : (.methodLink RX7 156 yX7_refusesPair : Cond) ∈ gtbl := gm (List.mem_of_getElem? (i := 869) (by decide +kernel)) (by decide +kernel)
theorem uIM_X7_refusesPair : (.instanceMethod yX7_refusesPair : Cond) ∈ gtbl := gm (List.mem_of_getElem? (i := 871) (by decide +kernel)) (by decide +kernel)
theorem uCO_X7_refusesPair : (.code yX7_refusesPair cX7_refusesPair 4 (some .int) : Cond) ∈ gtbl := gm (List.mem_of_getElem? (i := 872) (by decide +kernel)) (by decide +kernel)
theorem uML_RX7_160 : (.methodLink RX7 160 yX7_keep : Cond) ∈ gtbl := gm (List.mem_of_getElem? (i := 873) (by decide +kernel)) (by decide +kernel)
theorem uIM_X7_keep : (.instanceMethod yX7_keep : Cond) ∈ gtbl := gm (List.mem_of_getElem? (i := 875) (by decide +kernel)) (by decide +kernel)
theorem uCO_X7_keep : (.code yX7_keep cX7_keep 2 none : Cond) ∈ gtbl := gm (List.mem_of_getElem? (i := 876) (by decide +kernel)) (by decide +kernel)
theorem uML_RX7_163 : (.methodLink RX7 163 yX7_goDay : Cond) ∈ gtbl := gm (List.mem_of_getElem? (i := 877) (by decide +kernel)) (by decide +kernel)
theorem uIM_X7_goDay : (.instanceMethod yX7_goDay : Cond) ∈ gtbl := gm (List.mem_of_getElem? (i := 879) (by decide +kernel)) (by decide +kernel)
theorem uCO_X7_goDay : (.code yX7_goDay cX7_goDay 4 (some .int) : Cond) ∈ gtbl := gm (List.mem_of_getElem? (i := 880) (by decide +kernel)) (by decide +kernel)
theorem uML_RX7_153 : (.methodLink RX7 153 yX7_does : Cond) ∈ gtbl := gm (List.mem_of_getElem? (i := 881) (by decide +kernel)) (by decide +kernel)
theorem uIM_X7_does : (.instanceMethod yX7_does : Cond) ∈ gtbl := gm (List.mem_of_getElem? (i := 883) (by decide +kernel)) (by decide +kernel)
theorem uCO_X7_does : (.code yX7_does cX7_does 4 (some .boolean) : Cond) ∈ gtbl := gm (List.mem_of_getElem? (i := 884) (by decide +kernel)) (by decide +kernel)
theorem uML_RX7_166 : (.methodLink RX7 166 yX7_tellDay : Cond) ∈ gtbl := gm (List.mem_of_getElem? (i := 885) (by decide +kernel)) (by decide +kernel)
theorem uIM_X7_tellDay : (.instanceMethod yX7_tellDay : Cond) ∈ gtbl := gm (List.mem_of_getElem? (i := 887) (by decide +kernel)) (by decide +kernel)
theorem uCO_X7_tellDay : (.code yX7_tellDay cX7_tellDay 2 (some .int) : Cond) ∈ gtbl := gm (List.mem_of_getElem? (i := 888) (by decide +kernel)) (by decide +kernel)
theorem uML_RX7_172 : (.methodLink RX7 172 yX7_allShades : Cond) ∈ gtbl := gm (List.mem_of_getElem? (i := 889) (by decide +kernel)) (by decide +kernel)
theorem uIM_X7_allShades : (.instanceMethod yX7_allShades : Cond) ∈ gtbl := gm (List.mem_of_getElem? (i := 891) (by decide +kernel)) (by decide +kernel)
theorem uCO_X7_allShades : (.code yX7_allShades cX7_allShades 3 (some .int) : Cond) ∈ gtbl := gm (List.mem_of_getElem? (i := 892) (by decide +kernel)) (by decide +kernel)
theorem uML_RX7_169 : (.methodLink RX7 169 yX7_putBack : Cond) ∈ gtbl := gm (List.mem_of_getElem? (i := 893) (by decide +kernel)) (by decide +kernel)
theorem uIM_X7_putBack : (.instanceMethod yX7_putBack : Cond) ∈ gtbl := gm (List.mem_of_getElem? (i := 895) (by decide +kernel)) (by decide +kernel)
theorem uCO_X7_putBack : (.code yX7_putBack cX7_putBack 2 none : Cond) ∈ gtbl := gm (List.mem_of_getElem? (i := 896) (by decide +kernel)) (by decide +kernel)
theorem uML_RL_51 : (.methodLink RL 51 yX7_fewest : Cond) ∈ gtbl := gm (List.mem_of_getElem? (i := 897) (by decide +kernel)) (by decide +kernel)
theorem uIM_X7_fewest : (.instanceMethod yX7_fewest : Cond) ∈ gtbl := gm (List.mem_of_getElem? (i := 898) (by decide +kernel)) (by decide +kernel)
theorem uSEL_X7_fewest : (.selects RX7 yX7_fewest yX7_fewest : Cond) ∈ gtbl := gm (List.mem_of_getElem? (i := 899) (by decide +kernel)) (by decide +kernel)
theorem uCO_X7_fewest : (.code yX7_fewest cX7_fewest 8 (some .int) : Cond) ∈ gtbl := gm (List.mem_of_getElem? (i := 900) (by decide +kernel)) (by decide +kernel)
theorem uML_RX7_182 : (.methodLink RX7 182 yX7_findFar : Cond) ∈ gtbl := gm (List.mem_of_getElem? (i := 901) (by decide +kernel)) (by decide +kernel)
theorem uIM_X7_findFar : (.instanceMethod yX7_findFar : Cond) ∈ gtbl := gm (List.mem_of_getElem? (i := 903) (by decide +kernel)) (by decide +kernel)
theorem uCO_X7_findFar : (.code yX7_findFar cX7_findFar 6 none : Cond) ∈ gtbl := gm (List.mem_of_getElem? (i := 904) (by decide +kernel)) (by decide +kernel)
theorem uML_RX7_175 : (.methodLink RX7 175 yX7_manyOf : Cond) ∈ gtbl := gm (List.mem_of_getElem? (i := 905) (by decide +kernel)) (by decide +kernel)
theorem uIM_X7_manyOf : (.instanceMethod yX7_manyOf : Cond) ∈ gtbl := gm (List.mem_of_getElem? (i := 907) (by decide +kernel)) (by decide +kernel)
theorem uCO_X7_manyOf : (.code yX7_manyOf cX7_manyOf 3 (some .int) : Cond) ∈ gtbl := gm (List.mem_of_getElem? (i := 908) (by decide +kernel)) (by decide +kernel)
theorem uML_RX7_178 : (.methodLink RX7 178 yX7_movedBy : Cond) ∈ gtbl := gm (List.mem_of_getElem? (i := 909) (by decide +kernel)) (by decide +kernel)
theorem uIM_X7_movedBy : (.instanceMethod yX7_movedBy : Cond) ∈ gtbl := gm (List.mem_of_getElem? (i := 911) (by decide +kernel)) (by decide +kernel)
theorem uCO_X7_movedBy : (.code yX7_movedBy cX7_movedBy 11 (some .int) : Cond) ∈ gtbl := gm (List.mem_of_getElem? (i := 912) (by decide +kernel)) (by decide +kernel)
theorem uML_RX7_185 : (.methodLink RX7 185 yX7_onTo : Cond) ∈ gtbl := gm (List.mem_of_getElem? (i := 913) (by decide +kernel)) (by decide +kernel)
theorem uIM_X7_onTo : (.instanceMethod yX7_onTo : Cond) ∈ gtbl := gm (List.mem_of_getElem? (i := 915) (by decide +kernel)) (by decide +kernel)
theorem uCO_X7_onTo : (.code yX7_onTo cX7_onTo 5 (some .int) : Cond) ∈ gtbl := gm (List.mem_of_getElem? (i := 916) (by decide +kernel)) (by decide +kernel)
theorem uML_RX7_188 : (.methodLink RX7 188 yX7_fewestOf : Cond) ∈ gtbl := gm (List.mem_of_getElem? (i := 917) (by decide +kernel)) (by decide +kernel)
theorem uIM_X7_fewestOf : (.instanceMethod yX7_fewestOf : Cond) ∈ gtbl := gm (List.mem_of_getElem? (i := 919) (by decide +kernel)) (by decide +kernel)
theorem uCO_X7_fewestOf : (.code yX7_fewestOf cX7_fewestOf 6 (some .int) : Cond) ∈ gtbl := gm (List.mem_of_getElem? (i := 920) (by decide +kernel)) (by decide +kernel)
theorem uML_RL_56 : (.methodLink RL 56 yX7_halls : Cond) ∈ gtbl := gm (List.mem_of_getElem? (i := 921) (by decide +kernel)) (by decide +kernel)
theorem uIM_X7_halls : (.instanceMethod yX7_halls : Cond) ∈ gtbl := gm (List.mem_of_getElem? (i := 922) (by decide +kernel)) (by decide +kernel)
theorem uSEL_X7_halls : (.selects RX7 yX7_halls yX7_halls : Cond) ∈ gtbl := gm (List.mem_of_getElem? (i := 923) (by decide +kernel)) (by decide +kernel)
theorem uCO_X7_halls : (.code yX7_halls cX7_halls 1 (some .int) : Cond) ∈ gtbl := gm (List.mem_of_getElem? (i := 924) (by decide +kernel)) (by decide +kernel)
theorem uML_RX7_191 : (.methodLink RX7 191 yX7_findMany : Cond) ∈ gtbl := gm (List.mem_of_getElem? (i := 925) (by decide +kernel)) (by decide +kernel)
theorem uIM_X7_findMany : (.instanceMethod yX7_findMany : Cond) ∈ gtbl := gm (List.mem_of_getElem? (i := 927) (by decide +kernel)) (by decide +kernel)
theorem uCO_X7_findMany : (.code yX7_findMany cX7_findMany 8 (some .int) : Cond) ∈ gtbl := gm (List.mem_of_getElem? (i := 928) (by decide +kernel)) (by decide +kernel)
theorem uML_RL_61 : (.methodLink RL 61 yX7_alone : Cond) ∈ gtbl := gm (List.mem_of_getElem? (i := 929) (by decide +kernel)) (by decide +kernel)
theorem uIM_X7_alone : (.instanceMethod yX7_alone : Cond) ∈ gtbl := gm (List.mem_of_getElem? (i := 930) (by decide +kernel)) (by decide +kernel)
theorem uSEL_X7_alone : (.selects RX7 yX7_alone yX7_alone : Cond) ∈ gtbl := gm (List.mem_of_getElem? (i := 931) (by decide +kernel)) (by decide +kernel)
theorem uCO_X7_alone : (.code yX7_alone cX7_alone 4 (some .int) : Cond) ∈ gtbl := gm (List.mem_of_getElem? (i := 932) (by decide +kernel)) (by decide +kernel)
theorem uML_RL_65 : (.methodLink RL 65 yX7_idle : Cond) ∈ gtbl := gm (List.mem_of_getElem? (i := 933) (by decide +kernel)) (by decide +kernel)
theorem uIM_X7_idle : (.instanceMethod yX7_idle : Cond) ∈ gtbl := gm (List.mem_of_getElem? (i := 934) (by decide +kernel)) (by decide +kernel)
theorem uSEL_X7_idle : (.selects RX7 yX7_idle yX7_idle : Cond) ∈ gtbl := gm (List.mem_of_getElem? (i := 935) (by decide +kernel)) (by decide +kernel)
theorem uCO_X7_idle : (.code yX7_idle cX7_idle 4 (some .int) : Cond) ∈ gtbl := gm (List.mem_of_getElem? (i := 936) (by decide +kernel)) (by decide +kernel)
theorem uML_RL_69 : (.methodLink RL 69 yX7_spare : Cond) ∈ gtbl := gm (List.mem_of_getElem? (i := 937) (by decide +kernel)) (by decide +kernel)
theorem uIM_X7_spare : (.instanceMethod yX7_spare : Cond) ∈ gtbl := gm (List.mem_of_getElem? (i := 938) (by decide +kernel)) (by decide +kernel)
theorem uSEL_X7_spare : (.selects RX7 yX7_spare yX7_spare : Cond) ∈ gtbl := gm (List.mem_of_getElem? (i := 939) (by decide +kernel)) (by decide +kernel)
theorem uCO_X7_spare : (.code yX7_spare cX7_spare 4 (some .int) : Cond) ∈ gtbl := gm (List.mem_of_getElem? (i := 940) (by decide +kernel)) (by decide +kernel)
theorem uML_RL_74 : (.methodLink RL 74 yX7_reading : Cond) ∈ gtbl := gm (List.mem_of_getElem? (i := 941) (by decide +kernel)) (by decide +kernel)
theorem uIM_X7_reading : (.instanceMethod yX7_reading : Cond) ∈ gtbl := gm (List.mem_of_getElem? (i := 942) (by decide +kernel)) (by decide +kernel)
theorem uSEL_X7_reading : (.selects RX7 yX7_reading yX7_reading : Cond) ∈ gtbl := gm (List.mem_of_getElem? (i := 943) (by decide +kernel)) (by decide +kernel)
theorem uCO_X7_reading : (.code yX7_reading cX7_reading 4 (some .int) : Cond) ∈ gtbl := gm (List.mem_of_getElem? (i := 944) (by decide +kernel)) (by decide +kernel)
theorem uML_RL_78 : (.methodLink RL 78 yX7_back : Cond) ∈ gtbl := gm (List.mem_of_getElem? (i := 945) (by decide +kernel)) (by decide +kernel)
theorem uIM_X7_back : (.instanceMethod yX7_back : Cond) ∈ gtbl := gm (List.mem_of_getElem? (i := 946) (by decide +kernel)) (by decide +kernel)
theorem uSEL_X7_back : (.selects RX7 yX7_back yX7_back : Cond) ∈ gtbl := gm (List.mem_of_getElem? (i := 947) (by decide +kernel)) (by decide +kernel)
theorem uCO_X7_back : (.code yX7_back cX7_back 2 (some .int) : Cond) ∈ gtbl := gm (List.mem_of_getElem? (i := 948) (by decide +kernel)) (by decide +kernel)
theorem uML_RL_82 : (.methodLink RL 82 yX7_turnings : Cond) ∈ gtbl := gm (List.mem_of_getElem? (i := 949) (by decide +kernel)) (by decide +kernel)
theorem uIM_X7_turnings : (.instanceMethod yX7_turnings : Cond) ∈ gtbl := gm (List.mem_of_getElem? (i := 950) (by decide +kernel)) (by decide +kernel)
theorem uSEL_X7_turnings : (.selects RX7 yX7_turnings yX7_turnings : Cond) ∈ gtbl := gm (List.mem_of_getElem? (i := 951) (by decide +kernel)) (by decide +kernel)
theorem uCO_X7_turnings : (.code yX7_turnings cX7_turnings 5 (some .int) : Cond) ∈ gtbl := gm (List.mem_of_getElem? (i := 952) (by decide +kernel)) (by decide +kernel)
theorem uML_RX7_194 : (.methodLink RX7 194 yX7_areSo : Cond) ∈ gtbl := gm (List.mem_of_getElem? (i := 953) (by decide +kernel)) (by decide +kernel)
theorem uIM_X7_areSo : (.instanceMethod yX7_areSo : Cond) ∈ gtbl := gm (List.mem_of_getElem? (i := 955) (by decide +kernel)) (by decide +kernel)
theorem uCO_X7_areSo : (.code yX7_areSo cX7_areSo 5 (some .boolean) : Cond) ∈ gtbl := gm (List.mem_of_getElem? (i := 956) (by decide +kernel)) (by decide +kernel)
theorem uML_RL_86 : (.methodLink RL 86 yX7_kinds : Cond) ∈ gtbl := gm (List.mem_of_getElem? (i := 957) (by decide +kernel)) (by decide +kernel)
theorem uIM_X7_kinds : (.instanceMethod yX7_kinds : Cond) ∈ gtbl := gm (List.mem_of_getElem? (i := 958) (by decide +kernel)) (by decide +kernel)
theorem uSEL_X7_kinds : (.selects RX7 yX7_kinds yX7_kinds : Cond) ∈ gtbl := gm (List.mem_of_getElem? (i := 959) (by decide +kernel)) (by decide +kernel)
theorem uCO_X7_kinds : (.code yX7_kinds cX7_kinds 5 (some .int) : Cond) ∈ gtbl := gm (List.mem_of_getElem? (i := 960) (by decide +kernel)) (by decide +kernel)
theorem uML_RL_90 : (.methodLink RL 90 yX7_shadings : Cond) ∈ gtbl := gm (List.mem_of_getElem? (i := 961) (by decide +kernel)) (by decide +kernel)
theorem uIM_X7_shadings : (.instanceMethod yX7_shadings : Cond) ∈ gtbl := gm (List.mem_of_getElem? (i := 962) (by decide +kernel)) (by decide +kernel)
theorem uSEL_X7_shadings : (.selects RX7 yX7_shadings yX7_shadings : Cond) ∈ gtbl := gm (List.mem_of_getElem? (i := 963) (by decide +kernel)) (by decide +kernel)
theorem uCO_X7_shadings : (.code yX7_shadings cX7_shadings 5 (some .int) : Cond) ∈ gtbl := gm (List.mem_of_getElem? (i := 964) (by decide +kernel)) (by decide +kernel)
theorem uML_RL_95 : (.methodLink RL 95 yX7_odds : Cond) ∈ gtbl := gm (List.mem_of_getElem? (i := 965) (by decide +kernel)) (by decide +kernel)
theorem uIM_X7_odds : (.instanceMethod yX7_odds : Cond) ∈ gtbl := gm (List.mem_of_getElem? (i := 966) (by decide +kernel)) (by decide +kernel)
theorem uSEL_X7_odds : (.selects RX7 yX7_odds yX7_odds : Cond) ∈ gtbl := gm (List.mem_of_getElem? (i := 967) (by decide +kernel)) (by decide +kernel)
theorem uCO_X7_odds : (.code yX7_odds cX7_odds 8 (some .long) : Cond) ∈ gtbl := gm (List.mem_of_getElem? (i := 968) (by decide +kernel)) (by decide +kernel)
theorem uKL_RX7_65 : (.constantLong RX7 65 (-9223372036854775808) : Cond) ∈ gtbl := gm (List.mem_of_getElem? (i := 969) (by decide +kernel)) (by decide +kernel)
theorem uML_RX7_198 : (.methodLink RX7 198 yX7_inLeastTerms : Cond) ∈ gtbl := gm (List.mem_of_getElem? (i := 970) (by decide +kernel)) (by decide +kernel)
theorem uST_X7_inLeastTerms : (.static yX7_inLeastTerms : Cond) ∈ gtbl := gm (List.mem_of_getElem? (i := 971) (by decide +kernel)) (by decide +kernel)
theorem uCO_X7_inLeastTerms : (.code yX7_inLeastTerms cX7_inLeastTerms 11 (some .long) : Cond) ∈ gtbl := gm (List.mem_of_getElem? (i := 972) (by decide +kernel)) (by decide +kernel)
theorem uML_RL_99 : (.methodLink RL 99 yX7_sheet : Cond) ∈ gtbl := gm (List.mem_of_getElem? (i := 973) (by decide +kernel)) (by decide +kernel)
theorem uIM_X7_sheet : (.instanceMethod yX7_sheet : Cond) ∈ gtbl := gm (List.mem_of_getElem? (i := 974) (by decide +kernel)) (by decide +kernel)
theorem uSEL_X7_sheet : (.selects RX7 yX7_sheet yX7_sheet : Cond) ∈ gtbl := gm (List.mem_of_getElem? (i := 975) (by decide +kernel)) (by decide +kernel)
theorem uCO_X7_sheet : (.code yX7_sheet cX7_sheet 5 (some .int) : Cond) ∈ gtbl := gm (List.mem_of_getElem? (i := 976) (by decide +kernel)) (by decide +kernel)
theorem uML_RL_103 : (.methodLink RL 103 yX7_lose : Cond) ∈ gtbl := gm (List.mem_of_getElem? (i := 977) (by decide +kernel)) (by decide +kernel)
theorem uIM_X7_lose : (.instanceMethod yX7_lose : Cond) ∈ gtbl := gm (List.mem_of_getElem? (i := 978) (by decide +kernel)) (by decide +kernel)
theorem uSEL_X7_lose : (.selects RX7 yX7_lose yX7_lose : Cond) ∈ gtbl := gm (List.mem_of_getElem? (i := 979) (by decide +kernel)) (by decide +kernel)
theorem uCO_X7_lose : (.code yX7_lose cX7_lose 3 (some .int) : Cond) ∈ gtbl := gm (List.mem_of_getElem? (i := 980) (by decide +kernel)) (by decide +kernel)
theorem uML_RL_107 : (.methodLink RL 107 yX7_put : Cond) ∈ gtbl := gm (List.mem_of_getElem? (i := 981) (by decide +kernel)) (by decide +kernel)
theorem uIM_X7_put : (.instanceMethod yX7_put : Cond) ∈ gtbl := gm (List.mem_of_getElem? (i := 982) (by decide +kernel)) (by decide +kernel)
theorem uSEL_X7_put : (.selects RX7 yX7_put yX7_put : Cond) ∈ gtbl := gm (List.mem_of_getElem? (i := 983) (by decide +kernel)) (by decide +kernel)
theorem uCO_X7_put : (.code yX7_put cX7_put 4 (some .int) : Cond) ∈ gtbl := gm (List.mem_of_getElem? (i := 984) (by decide +kernel)) (by decide +kernel)
theorem uML_RL_112 : (.methodLink RL 112 yX7_cell : Cond) ∈ gtbl := gm (List.mem_of_getElem? (i := 985) (by decide +kernel)) (by decide +kernel)
theorem uIM_X7_cell : (.instanceMethod yX7_cell : Cond) ∈ gtbl := gm (List.mem_of_getElem? (i := 986) (by decide +kernel)) (by decide +kernel)
theorem uSEL_X7_cell : (.selects RX7 yX7_cell yX7_cell : Cond) ∈ gtbl := gm (List.mem_of_getElem? (i := 987) (by decide +kernel)) (by decide +kernel)
theorem uCO_X7_cell : (.code yX7_cell cX7_cell 4 (some .long) : Cond) ∈ gtbl := gm (List.mem_of_getElem? (i := 988) (by decide +kernel)) (by decide +kernel)
theorem uML_RX7_202 : (.methodLink RX7 202 yX7_lost : Cond) ∈ gtbl := gm (List.mem_of_getElem? (i := 989) (by decide +kernel)) (by decide +kernel)
theorem uIM_X7_lost : (.instanceMethod yX7_lost : Cond) ∈ gtbl := gm (List.mem_of_getElem? (i := 991) (by decide +kernel)) (by decide +kernel)
theorem uCO_X7_lost : (.code yX7_lost cX7_lost 2 (some .long) : Cond) ∈ gtbl := gm (List.mem_of_getElem? (i := 992) (by decide +kernel)) (by decide +kernel)
theorem uML_RL_116 : (.methodLink RL 116 yX7_copy : Cond) ∈ gtbl := gm (List.mem_of_getElem? (i := 993) (by decide +kernel)) (by decide +kernel)
theorem uIM_X7_copy : (.instanceMethod yX7_copy : Cond) ∈ gtbl := gm (List.mem_of_getElem? (i := 994) (by decide +kernel)) (by decide +kernel)
theorem uSEL_X7_copy : (.selects RX7 yX7_copy yX7_copy : Cond) ∈ gtbl := gm (List.mem_of_getElem? (i := 995) (by decide +kernel)) (by decide +kernel)
theorem uCO_X7_copy : (.code yX7_copy cX7_copy 10 (some .int) : Cond) ∈ gtbl := gm (List.mem_of_getElem? (i := 996) (by decide +kernel)) (by decide +kernel)
theorem uML_RL_120 : (.methodLink RL 120 yX7_tell : Cond) ∈ gtbl := gm (List.mem_of_getElem? (i := 997) (by decide +kernel)) (by decide +kernel)
theorem uIM_X7_tell : (.instanceMethod yX7_tell : Cond) ∈ gtbl := gm (List.mem_of_getElem? (i := 998) (by decide +kernel)) (by decide +kernel)
theorem uSEL_X7_tell : (.selects RX7 yX7_tell yX7_tell : Cond) ∈ gtbl := gm (List.mem_of_getElem? (i := 999) (by decide +kernel)) (by decide +kernel)
theorem uCO_X7_tell : (.code yX7_tell cX7_tell 3 (some .int) : Cond) ∈ gtbl := gm (List.mem_of_getElem? (i := 1000) (by decide +kernel)) (by decide +kernel)
theorem uML_RX7_209 : (.methodLink RX7 209 yX7_begins : Cond) ∈ gtbl := gm (List.mem_of_getElem? (i := 1001) (by decide +kernel)) (by decide +kernel)
theorem uIM_X7_begins : (.instanceMethod yX7_begins : Cond) ∈ gtbl := gm (List.mem_of_getElem? (i := 1003) (by decide +kernel)) (by decide +kernel)
theorem uCO_X7_begins : (.code yX7_begins cX7_begins 2 none : Cond) ∈ gtbl := gm (List.mem_of_getElem? (i := 1004) (by decide +kernel)) (by decide +kernel)
theorem uML_RL_124 : (.methodLink RL 124 yX7_feel : Cond) ∈ gtbl := gm (List.mem_of_getElem? (i := 1005) (by decide +kernel)) (by decide +kernel)
theorem uIM_X7_feel : (.instanceMethod yX7_feel : Cond) ∈ gtbl := gm (List.mem_of_getElem? (i := 1006) (by decide +kernel)) (by decide +kernel)
theorem uSEL_X7_feel : (.selects RX7 yX7_feel yX7_feel : Cond) ∈ gtbl := gm (List.mem_of_getElem? (i := 1007) (by decide +kernel)) (by decide +kernel)
theorem uCO_X7_feel : (.code yX7_feel cX7_feel 2 (some .int) : Cond) ∈ gtbl := gm (List.mem_of_getElem? (i := 1008) (by decide +kernel)) (by decide +kernel)
theorem uML_RL_128 : (.methodLink RL 128 yX7_as : Cond) ∈ gtbl := gm (List.mem_of_getElem? (i := 1009) (by decide +kernel)) (by decide +kernel)
theorem uIM_X7_as : (.instanceMethod yX7_as : Cond) ∈ gtbl := gm (List.mem_of_getElem? (i := 1010) (by decide +kernel)) (by decide +kernel)
theorem uSEL_X7_as : (.selects RX7 yX7_as yX7_as : Cond) ∈ gtbl := gm (List.mem_of_getElem? (i := 1011) (by decide +kernel)) (by decide +kernel)
theorem uCO_X7_as : (.code yX7_as cX7_as 3 (some .int) : Cond) ∈ gtbl := gm (List.mem_of_getElem? (i := 1012) (by decide +kernel)) (by decide +kernel)
theorem uML_RL_132 : (.methodLink RL 132 yX7_trace : Cond) ∈ gtbl := gm (List.mem_of_getElem? (i := 1013) (by decide +kernel)) (by decide +kernel)
theorem uIM_X7_trace : (.instanceMethod yX7_trace : Cond) ∈ gtbl := gm (List.mem_of_getElem? (i := 1014) (by decide +kernel)) (by decide +kernel)
theorem uSEL_X7_trace : (.selects RX7 yX7_trace yX7_trace : Cond) ∈ gtbl := gm (List.mem_of_getElem? (i := 1015) (by decide +kernel)) (by decide +kernel)
theorem uCO_X7_trace : (.code yX7_trace cX7_trace 1 (some .int) : Cond) ∈ gtbl := gm (List.mem_of_getElem? (i := 1016) (by decide +kernel)) (by decide +kernel)
theorem uML_RL_136 : (.methodLink RL 136 yX7_fault : Cond) ∈ gtbl := gm (List.mem_of_getElem? (i := 1017) (by decide +kernel)) (by decide +kernel)
theorem uIM_X7_fault : (.instanceMethod yX7_fault : Cond) ∈ gtbl := gm (List.mem_of_getElem? (i := 1018) (by decide +kernel)) (by decide +kernel)
theorem uSEL_X7_fault : (.selects RX7 yX7_fault yX7_fault : Cond) ∈ gtbl := gm (List.mem_of_getElem? (i := 1019) (by decide +kernel)) (by decide +kernel)
theorem uCO_X7_fault : (.code yX7_fault cX7_fault 1 (some .int) : Cond) ∈ gtbl := gm (List.mem_of_getElem? (i := 1020) (by decide +kernel)) (by decide +kernel)
theorem uML_RL_140 : (.methodLink RL 140 yX7_many : Cond) ∈ gtbl := gm (List.mem_of_getElem? (i := 1021) (by decide +kernel)) (by decide +kernel)
theorem uIM_X7_many : (.instanceMethod yX7_many : Cond) ∈ gtbl := gm (List.mem_of_getElem? (i := 1022) (by decide +kernel)) (by decide +kernel)
theorem uSEL_X7_many : (.selects RX7 yX7_many yX7_many : Cond) ∈ gtbl := gm (List.mem_of_getElem? (i := 1023) (by decide +kernel)) (by decide +kernel)
theorem uCO_X7_many : (.code yX7_many cX7_many 2 (some .int) : Cond) ∈ gtbl := gm (List.mem_of_getElem? (i := 1024) (by decide +kernel)) (by decide +kernel)
theorem inX0 : ∀ w ∈ wsX00, w ∈ gtbl := by decide +kernel
theorem inX1 : ∀ w ∈ wsX10, w ∈ gtbl := by decide +kernel
theorem inX2 : ∀ w ∈ wsX20, w ∈ gtbl := by decide +kernel
theorem inX3 : ∀ w ∈ wsX30, w ∈ gtbl := by decide +kernel
theorem inX4 : ∀ w ∈ wsX40, w ∈ gtbl := by decide +kernel
theorem inX5 : ∀ w ∈ wsX50, w ∈ gtbl := by decide +kernel
theorem inX6 : ∀ w ∈ wsX60, w ∈ gtbl := by decide +kernel
theorem inX7 : ∀ w ∈ wsX70, w ∈ gtbl := by decide +kernel
end
section
/-! the pure state: a row of ints for each cell (an object's int slots, an array's places), by the cell's number -/
abbrev St : Type := Nat → Nat → Int32
def up (S : St) (k j : Nat) (v : Int32) : St := va_up S k (upd (S k) j v)
abbrev Geo : Type := va_G × (Nat → Nat) × ClassId × ClassId × ClassId
abbrev adr (G : Geo) : Nat → Nat := G.2.1
abbrev Ef : Type := Geo → Nat → (Nat → Int32) → va_E
abbrev tysG (G : Geo) : List (ClassId × FieldType) := [(G.2.2.1, .int), (G.2.2.2.1, .object "LampSwitches$Sheet"), (G.2.2.2.2, .array .int)]
def wld (N : Nat) (ef : Ef) (G : Geo) (S : St) : va_W := (List.range N).map (fun k => (adr G k, ef G k (S k)))
theorem wld_get {N : Nat} {ef : Ef} {G : Geo} {S : St} {k : Nat} (h : k < N) : (wld N ef G S)[k]? = some (adr G k, ef G k (S k)) := by
  unfold wld
  rw [List.getElem?_map, List.getElem?_range h]
  rfl
theorem wld_len {N : Nat} {ef : Ef} {G : Geo} {S : St} : (wld N ef G S).length = N := by simp [wld]
theorem wld_of {N : Nat} {ef : Ef} {G : Geo} {S : St} {k : Nat} {q : Nat × va_E} (h : (wld N ef G S)[k]? = some q) : k < N ∧ q = (adr G k, ef G k (S k)) := by
  have h1 : k < N := by
    have := (List.getElem?_eq_some_iff.mp h).1
    rwa [wld_len] at this
  rw [wld_get h1] at h
  exact ⟨h1, (Option.some.inj h).symm⟩
theorem wld_set {N : Nat} {ef : Ef} {G : Geo} {S : St} {k : Nat} {r : Nat → Int32} (h : k < N) : (wld N ef G S).set k (adr G k, ef G k r) = wld N ef G (va_up S k r) := by
  apply List.ext_getElem?
  intro j
  rw [List.getElem?_set]
  by_cases e : k = j
  · subst e
    rw [if_pos rfl, wld_len, if_pos h, wld_get h]
    simp [va_up]
  · rw [if_neg e]
    by_cases hj : j < N
    · rw [wld_get hj, wld_get hj]
      have : va_up S k r j = S j := by simp [va_up, Ne.symm e]
      rw [this]
    · rw [List.getElem?_eq_none (by rw [wld_len]; omega), List.getElem?_eq_none (by rw [wld_len]; omega)]
abbrev wNest1 : Cond := .methodLinkNest RX1 49 yX6_wrapped RX6
abbrev wNest2 : Cond := .methodLinkNest RX5 34 yX6_isIn RX6
def KN (G : Geo) (U : State) : Prop := va_K G.1 vwCl (tysG G) U ∧ va_Nw wNest1 U ∧ va_Nw wNest2 U
theorem KN.calling {G : Geo} {U : State} {g : JFrame} {mk : MethodId} {a : Array Value} (h : KN G U) : KN G (U.calling g mk a) := ⟨va_K.moved (u := U) (U := U.calling g mk a) (Vm.Alike.refl U.vm) h.1, va_Nw.same rfl rfl h.2.1, va_Nw.same rfl rfl h.2.2⟩
theorem KN.warmed {G : Geo} {s U : State} (hW : s.WarmedH U.vm) (h : KN G s) : KN G U := ⟨va_K.moved hW.alike h.1, va_Nw.warmM hW h.2.1, va_Nw.warmM hW h.2.2⟩
/-- the addresses of a world, and all that are new -/
def AW (N : Nat) (G : Geo) (sz : Nat) : Nat → Prop := fun q => (∃ k, k < N ∧ q = adr G k) ∨ sz ≤ q
def PreW (N : Nat) (ef : Ef) (G : Geo) (sz : Nat) (S : St) (U : State) : Prop := U.heap.size = sz ∧ va_P G.1 vwCl (wld N ef G S) U.heap ∧ KN G U ∧ va_D (fun _ => True) (wld N ef G S)
def PostW (N : Nat) (ef : Ef) (G : Geo) (sz : Nat) (u : St) (t : State) : Prop := va_P G.1 vwCl (wld N ef G u) t.heap ∧ va_D (AW N G sz) (wld N ef G u)
def Hw (N : Nat) (ef : Ef) (G : Geo) (A : Nat → Prop) (H0 : Heap) (S : St) (H : Heap) (locs : List Loc) : Prop := va_P G.1 vwCl (wld N ef G S) H ∧ va_D A (wld N ef G S) ∧ va_S A H0 H locs ∧ ∀ q, H0.size ≤ q → A q
def wU (y : MethodName) (cc : ByteArray) (nL : Nat) (rt : Option FieldType) : List Cond := .code y cc nL rt :: gtbl
def rmK (k : Nat) : Room := { frames := k, cells := 0, slots := 0, locals := 100 * k }
/-- what a method's body has of the machine -/
def Cx (G : Geo) (own : String) (cc : ByteArray) (nL : Nat) (p : Program) (s : State) (m : MethodId) (args : Array Value) (c : Code) : Prop :=
  p.tables.exec = Jvm.exec ∧ c.code = cc ∧ c.maxLocals = nL ∧ s.vm.findClass own = some m.cls ∧ (∀ w ∈ gtbl, w.before args s = true) ∧ KN G s
theorem Cx.fix {G : Geo} {own : String} {cc : ByteArray} {nL : Nat} {p : Program} {s : State} {m : MethodId} {args : Array Value} {c : Code} (C : Cx G own cc nL p s m args c) : CallFix p m c cc nL s args gtbl own := ⟨C.1, C.2.1, C.2.2.1, C.2.2.2.1, C.2.2.2.2.1⟩
/-! contracts: the answer and the new state -/
def MI (N : Nat) (ef : Ef) (G : Geo) (l : Launch) (y : MethodName) (cc : ByteArray) (nL : Nat) (rt : Option FieldType) (k : Nat) (av : List Value) (S : St) (r : Int32) (S' : St) : Prop :=
  ∀ sz : Nat, Met l y (wU y cc nL rt) (rmK k) (va_Pc av (PreW N ef G sz S)) (va_Qi (fun (r' : Int32) (u : St) => r' = r ∧ u = S') (PostW N ef G sz) (AW N G sz)) 0 0 (AW N G sz)
def ML (N : Nat) (ef : Ef) (G : Geo) (l : Launch) (y : MethodName) (cc : ByteArray) (nL : Nat) (rt : Option FieldType) (k : Nat) (av : List Value) (S : St) (r : Int64) (S' : St) : Prop :=
  ∀ sz : Nat, Met l y (wU y cc nL rt) (rmK k) (va_Pc av (PreW N ef G sz S)) (va_Ql (fun (r' : Int64) (u : St) => r' = r ∧ u = S') (PostW N ef G sz) (AW N G sz)) 0 0 (AW N G sz)
def MV (N : Nat) (ef : Ef) (G : Geo) (l : Launch) (y : MethodName) (cc : ByteArray) (nL : Nat) (rt : Option FieldType) (k : Nat) (av : List Value) (S : St) (S' : St) : Prop :=
  ∀ sz : Nat, Met l y (wU y cc nL rt) (rmK k) (va_Pc av (PreW N ef G sz S)) (va_Qv (fun (u : St) => u = S') (PostW N ef G sz) (AW N G sz)) 0 0 (AW N G sz)
def ME (N : Nat) (ef : Ef) (G : Geo) (l : Launch) (y : MethodName) (cc : ByteArray) (nL : Nat) (rt : Option FieldType) (k : Nat) (av : List Value) (S : St) (r : Option Nat) (S' : St) : Prop :=
  ∀ sz : Nat, Met l y (wU y cc nL rt) (rmK k) (va_Pc av (PreW N ef G sz S)) (va_Qe (adr G) (fun (r' : Option Nat) (u : St) => r' = r ∧ u = S') (PostW N ef G sz) (AW N G sz)) 0 0 (AW N G sz)
/-! loops and checks of the pure functions -/
def BIG : Nat := 10000
def iter {σ τ : Type} (it : σ → Option (σ ⊕ τ)) : Nat → σ → Option τ
  | 0, _ => none
  | n + 1, s => match it s with
    | none => none
    | some (.inl s') => iter it n s'
    | some (.inr t) => some t
theorem iter_W {σ τ : Type} {it : σ → Option (σ ⊕ τ)} {P : σ → Prop} {K : τ → Prop} (h : ∀ s o, it s = some o → (∀ s', o = .inl s' → P s') → (∀ t, o = .inr t → K t) → P s) : ∀ (n : Nat) (s : σ) (t : τ), iter it n s = some t → K t → P s := by
  intro n
  induction n with
  | zero => intro s t h1; simp [iter] at h1
  | succ n ih =>
    intro s t h1 hk
    cases hit : it s with
    | none => simp [iter, hit] at h1
    | some o =>
      cases o with
      | inl s' =>
        simp only [iter, hit] at h1
        exact h s _ hit (fun s2 e => by cases e; exact ih s' t h1 hk) (fun t2 e => by cases e)
      | inr t' =>
        simp only [iter, hit] at h1
        cases h1
        exact h s _ hit (fun s2 e => by cases e) (fun t2 e => by cases e; exact hk)
def ck {α : Type} (c : Prop) [Decidable c] (x : Option α) : Option α := if c then x else none
theorem ck_some {α : Type} {c : Prop} [Decidable c] {x : Option α} {r : α} (h : ck c x = some r) : c ∧ x = some r := by
  unfold ck at h
  by_cases hc : c
  · rw [if_pos hc] at h; exact ⟨hc, h⟩
  · rw [if_neg hc] at h; cases h
def bd {α β : Type} (o : Option α) (k : α → Option β) : Option β := match o with
  | none => none
  | some a => k a
theorem bd_some {α β : Type} {o : Option α} {k : α → Option β} {r : β} (h : bd o k = some r) : ∃ a, o = some a ∧ k a = some r := by
  cases o with
  | none => cases h
  | some a => exact ⟨a, rfl, h⟩
theorem it_t {α : Type} {c : Prop} [Decidable c] {a b : Option α} {r : α} (hc : c) (h : (if c then a else b) = some r) : a = some r := by rw [if_pos hc] at h; exact h
theorem it_f {α : Type} {c : Prop} [Decidable c] {a b : Option α} {r : α} (hc : ¬ c) (h : (if c then a else b) = some r) : b = some r := by rw [if_neg hc] at h; exact h
def bi : Bool → Int32
  | true => 1
  | false => 0
abbrev okx (i : Int32) (n : Nat) : Prop := 0 ≤ i.toInt ∧ i.toInt < n
theorem okx_in {i : Int32} {n : Nat} (h : okx i n) : vp_in i n := vp_in_iff.mpr h
abbrev ix (i : Int32) : Nat := i.toNatClampNeg
end
section
section ROWS
variable {p : Program} {l : Launch} {e : Env} {R : Room} {s : State} {m : MethodId} {args : Array Value} {below : List Frame} {meth : Method} {c : Code} {H : Heap} {locs : List Loc} {cells slots : Nat} {Q : State → Prop}
variable {cc : ByteArray} {pc nL : Nat} {ls : Array Slot} {rest : List Value} {N : Nat} {ef : Ef} {G : Geo} {A : Nat → Prop} {H0 : Heap} {S : St} {own : String}
theorem x_get (C : Cx G own cc nL p s m args c) (h : Hw N ef G A H0 S H locs) {Cn : String} {T : u_T} {n ci index : Nat} (hin : ∀ w ∈ u_ws Cn T n, w ∈ gtbl) {k : Nat} (hk : k < N) {fs : List Value} (he : ef G k (S k) = .inr (ci, fs)) (hc : vwCl[ci]? = some (Cn, T, n)) (j : Nat) (hj : j < n) (hlink : Cond.fieldLink own index (T j).1 (T j).2.1 (T j).2.2.1 ∈ gtbl) {v : Value} (hv : fs[j]? = some v) (hdg : decode cc pc = .ok (.getfield index, 3))
    (kk : W p l e R s m args below meth c H locs cells slots Q (F0 m (pc + 3) ls (v :: rest))) : W p l e R s m args below meth c H locs cells slots Q (F0 m pc ls (.ref (adr G k) :: rest)) :=
  va_get (D := G.1) C.1 C.2.1 C.2.2.2.2.1 hin C.2.2.2.1 C.2.2.2.2.2.1 h.1 k ((wld_get hk).trans (by rw [he])) hc j hj (C.2.2.2.2.1 _ hlink) (fun _ h9 => h9) hv hdg kk
theorem x_put (C : Cx G own cc nL p s m args c) (h : Hw N ef G A H0 S H locs) {Cn : String} {T : u_T} {n ci index : Nat} (hin : ∀ w ∈ u_ws Cn T n, w ∈ gtbl) (ty0 : Nat → FieldType) (hty : ∀ k, k < n → parseFieldDescriptor (T k).2.2.1 = some (ty0 k)) (hnm : ∀ a, a < n → ∀ b, b < n → a ≠ b → (T a).2.1 ≠ (T b).2.1) {k : Nat} (hk : k < N) {fs : List Value} (he : ef G k (S k) = .inr (ci, fs)) (hc : vwCl[ci]? = some (Cn, T, n)) (j : Nat) (hj : j < n) (hlink : Cond.fieldLink own index (T j).1 (T j).2.1 (T j).2.2.1 ∈ gtbl) (hfin : (T j).2.2.2 = false) (hd : parseFieldDescriptor (T j).2.2.1 = some .int) {v : Int32} (hl : j < fs.length) (hs : ef G k (upd (S k) j v) = .inr (ci, fs.set j (.int v))) (hdg : decode cc pc = .ok (.putfield index, 3))
    (kk : ∀ (H1 : Heap) (locs1 : List Loc), Hw N ef G A H0 (up S k j v) H1 locs1 → W p l e R s m args below meth c H1 locs1 cells slots Q (F0 m (pc + 3) ls rest)) : W p l e R s m args below meth c H locs cells slots Q (F0 m pc ls (.int v :: .ref (adr G k) :: rest)) :=
  va_put (D := G.1) (v := .int v) (ty := .int) C.1 C.2.1 C.2.2.2.2.1 hin ty0 hty hnm C.2.2.2.1 C.2.2.2.2.2.1 h.1 h.2.1 h.2.2.1 k ((wld_get hk).trans (by rw [he])) hc j hj (C.2.2.2.2.1 _ hlink) (fun _ h9 => h9) hfin hd rfl rfl hl hdg (fun H1 locs1 hP hD hS => kk H1 locs1 ⟨by rw [← hs, wld_set hk] at hP; exact hP, by rw [← hs, wld_set hk] at hD; exact hD, hS, h.2.2.2⟩)
theorem x_iald (C : Cx G own cc nL p s m args c) (h : Hw N ef G A H0 S H locs) {k n : Nat} (hk : k < N) (ha : ∀ r, ef G k r = .inl (G.2.2.1, n, .inl r)) {i : Int32} (hin : okx i n) (hdg : decode cc pc = .ok (.iaload, 1))
    (kk : W p l e R s m args below meth c H locs cells slots Q (F0 m (pc + 1) ls (.int (S k (ix i)) :: rest))) : W p l e R s m args below meth c H locs cells slots Q (F0 m pc ls (.int i :: .ref (adr G k) :: rest)) :=
  va_iald C.1 C.2.1 C.2.2.2.2.2.1 h.1 k 0 ((wld_get hk).trans (by rw [ha])) rfl (okx_in hin) hdg kk
theorem x_iast (C : Cx G own cc nL p s m args c) (h : Hw N ef G A H0 S H locs) {k n : Nat} (hk : k < N) (ha : ∀ r, ef G k r = .inl (G.2.2.1, n, .inl r)) {i x : Int32} (hin : okx i n) (hdg : decode cc pc = .ok (.iastore, 1))
    (kk : ∀ (H1 : Heap) (locs1 : List Loc), Hw N ef G A H0 (up S k (ix i) x) H1 locs1 → W p l e R s m args below meth c H1 locs1 cells slots Q (F0 m (pc + 1) ls rest)) : W p l e R s m args below meth c H locs cells slots Q (F0 m pc ls (.int x :: .int i :: .ref (adr G k) :: rest)) :=
  va_iast C.1 C.2.1 C.2.2.2.2.2.1 h.1 h.2.1 h.2.2.1 k 0 ((wld_get hk).trans (by rw [ha])) rfl (okx_in hin) hdg (fun H1 locs1 hP hD hS => kk H1 locs1 ⟨by rw [← ha, wld_set hk] at hP; exact hP, by rw [← ha, wld_set hk] at hD; exact hD, hS, h.2.2.2⟩)
theorem x_aald (C : Cx G own cc nL p s m args c) (h : Hw N ef G A H0 S H locs) {k n t0 : Nat} (hk : k < N) {cA : ClassId} {ty : FieldType} {f : Nat → Option Nat} (ha : ef G k (S k) = .inl (cA, n, .inr (.inr (.inr (.inr f))))) (ht : (tysG G)[t0]? = some (cA, ty)) (hty : ty.isReference = true) {i : Int32} (hin : okx i n) {a : Nat} (hf : f (ix i) = some a) (hdg : decode cc pc = .ok (.aaload, 1))
    (kk : W p l e R s m args below meth c H locs cells slots Q (F0 m (pc + 1) ls (.ref a :: rest))) : W p l e R s m args below meth c H locs cells slots Q (F0 m pc ls (.int i :: .ref (adr G k) :: rest)) := by
  have hin' := okx_in hin
  have hlt : i.toNatClampNeg < n := Nat.not_le.mp fun q => hin' (Or.inr q)
  have hP := h.1 k _ ((wld_get hk).trans (by rw [ha]))
  exact W.aald (v := .ref a) (ty := ty) C.1 C.2.1 hP ((C.2.2.2.2.2.1.2 t0 _ ht).1 n (fun j => va_rf (f j))) hty (fun q => by cases q) (by show ¬ (i < 0 ∨ (arrV _ _ _).slots.size ≤ _); rw [arrV_size]; exact hin') (by show (arrV _ _ _).slots[_]? = _; rw [arrV_read _ _ hlt, hf]; rfl) rfl rfl hdg kk
abbrev okc (sp dp n : Int32) (n0 n1 : Nat) : Prop := (0 ≤ sp.toInt ∧ 0 ≤ dp.toInt ∧ 0 ≤ n.toInt) ∧ ix sp + ix n ≤ n0 ∧ ix dp + ix n ≤ n1
theorem nneg {x : Int32} (h : 0 ≤ x.toInt) : ¬ x < 0 := by
  rw [Int32.lt_iff_toInt_lt]
  simp
  exact h
theorem x_copy (C : Cx G own cc nL p s m args c) (h : Hw N ef G A H0 S H locs) (hls : ls.size = nL) {index : Nat} (hlink : Cond.methodLink own index arraycopyName ∈ gtbl) (hnat : Cond.native arraycopyName ∈ gtbl) (hstat : Cond.static arraycopyName ∈ gtbl) (hini : Cond.initialized "java/lang/System" ∈ gtbl) {k0 k1 n0 n1 : Nat} (hk0 : k0 < N) (ha0 : ∀ r, ef G k0 r = .inl (G.2.2.1, n0, .inl r)) (hk1 : k1 < N) (ha1 : ∀ r, ef G k1 r = .inl (G.2.2.1, n1, .inl r)) {sp dp n : Int32} (ho : okc sp dp n n0 n1) (hframes : 1 ≤ R.frames) (hlocals : (rest.map fun v => v.category).sum + (nativeFrameWords "java/lang/System" "arraycopy" 5 + 11) ≤ R.locals) (hdg : decode cc pc = .ok (.invokestatic index, 3))
    (kk : ∀ (H1 : Heap) (locs1 : List Loc), Hw N ef G A H0 (va_up S k1 (va_cpy (S k0) (S k1) (ix sp) (ix dp) (ix n))) H1 locs1 → W p l e R s m args below meth c H1 locs1 cells slots Q (F0 m (pc + 3) ls rest)) : W p l e R s m args below meth c H locs cells slots Q (F0 m pc ls (.int n :: .int dp :: .ref (adr G k1) :: .int sp :: .ref (adr G k0) :: rest)) :=
  va_copyi C.1 C.2.1 (C.2.2.1.trans hls.symm) C.2.2.2.1 (C.2.2.2.2.1 _ hlink) (C.2.2.2.2.1 _ hnat) (C.2.2.2.2.1 _ hstat) (C.2.2.2.2.1 _ hini) C.2.2.2.2.2.1 h.1 h.2.1 h.2.2.1 k0 k1 0 0 ((wld_get hk0).trans (by rw [ha0])) ((wld_get hk1).trans (by rw [ha1])) rfl rfl rfl (nneg ho.1.1) (nneg ho.1.2.1) (nneg ho.1.2.2) ho.2.1 ho.2.2 (fun _ _ => rfl) hframes hlocals hdg (fun H1 locs1 hP hD hS => kk H1 locs1 ⟨by rw [← ha1, wld_set hk1] at hP; exact hP, by rw [← ha1, wld_set hk1] at hD; exact hD, hS, h.2.2.2⟩)
/-! calls -/
theorem AW_in {sz : Nat} (h : Hw N ef G A H0 S H locs) (hs : H0.size ≤ sz) : ∀ q, AW N G sz q → A q := by
  rintro q (⟨k, hk, rfl⟩ | hq)
  · exact h.2.1.2 k _ (wld_get hk)
  · exact h.2.2.2 q (Nat.le_trans hs hq)
theorem Hw_back {S' : St} {H1 : Heap} {locs1 : List Loc} {t : State} {sz : Nat} (h : Hw N ef G A H0 S H locs) (hs : H0.size ≤ sz) (ht : t.heap = H1) (hB : PostW N ef G sz S' t) (hS : va_S A H0 H1 locs1) : Hw N ef G A H0 S' H1 locs1 :=
  ⟨by rw [← ht]; exact hB.1, hB.2.weaken (fun _ _ _ hq => AW_in h hs _ hq), hS, h.2.2.2⟩
theorem Pre_blind {av : List Value} {sz : Nat} : FrameBlind (va_Pc av (PreW N ef G sz S)) := fun a U g mk q => ⟨q.1, q.2.1, q.2.2.1, KN.calling q.2.2.2.1, q.2.2.2.2⟩
theorem Pre_at {av : List Value} (C : Cx G own cc nL p s m args c) (h : Hw N ef G A H0 S H locs) : ∀ U : State, U.heap = H → s.WarmedH U.vm → va_Pc av (PreW N ef G H.size S) av.toArray U := fun U hU hW => ⟨rfl, by rw [hU], by rw [hU]; exact h.1, KN.warmed hW C.2.2.2.2.2, h.2.1.weaken (fun _ _ _ _ => trivial)⟩
theorem gU {own' : String} {idx : Nat} {y : MethodName} {c' : ByteArray} {n' : Nat} {r' : Option FieldType} (h1 : Cond.methodLink own' idx y ∈ gtbl) (h2 : Cond.instanceMethod y ∈ gtbl) (h3 : Cond.selects y.cls y y ∈ gtbl) (h4 : Cond.initialized y.cls ∈ gtbl) (h5 : Cond.code y c' n' r' ∈ gtbl) : GoodIn gtbl (wsV own' idx y.cls y (wU y c' n' r')) := by
  intro w hw
  have hm : w ∈ gtbl := by
    simp only [wsV, wU, List.cons_append, List.nil_append, List.mem_cons] at hw
    rcases hw with rfl | rfl | rfl | rfl | rfl | hw
    · exact h1
    · exact h2
    · exact h3
    · exact h4
    · exact h5
    · exact hw
  exact ⟨hm, gtbl_good hm⟩
theorem gUc {y : MethodName} {c' : ByteArray} {n' : Nat} {r' : Option FieldType} (h5 : Cond.code y c' n' r' ∈ gtbl) : GoodIn gtbl (wU y c' n' r') := by
  intro w hw
  have hm : w ∈ gtbl := by
    simp only [wU, List.mem_cons] at hw
    rcases hw with rfl | hw
    · exact h5
    · exact hw
  exact ⟨hm, gtbl_good hm⟩
/-- what a virtual call needs of the tables -/
def CV (own : String) (idx : Nat) (y : MethodName) (bytes : ByteArray) (maxL : Nat) (rt : Option FieldType) (n : Nat) : Prop := GoodIn gtbl (wsV own idx y.cls y (wU y bytes maxL rt)) ∧ (y.cls ≠ "java/lang/invoke/MethodHandle" ∧ y.cls ≠ "java/lang/invoke/VarHandle" ∧ (parseMethodDescriptor y.desc).map (fun d => d.parameters.length) = some n)
/-- what a static call needs of the tables -/
def CSt (own : String) (idx : Nat) (y : MethodName) (bytes : ByteArray) (maxL : Nat) (rt : Option FieldType) (n : Nat) : Prop := Cond.methodLink own idx y ∈ gtbl ∧ Cond.static y ∈ gtbl ∧ Cond.initialized y.cls ∈ gtbl ∧ Cond.code y bytes maxL rt ∈ gtbl ∧ (y.cls ≠ "java/lang/invoke/MethodHandle" ∧ y.cls ≠ "java/lang/invoke/VarHandle" ∧ (parseMethodDescriptor y.desc).map (fun d => d.parameters.length) = some n)
/-- a receiver in the world -/
def Rv (N : Nat) (ef : Ef) (G : Geo) (S : St) (b : Nat) (Cn : String) : Prop := ∃ (ci : Nat) (q : vw_C) (fs : List Value), b < N ∧ ef G b (S b) = .inr (ci, fs) ∧ vwCl[ci]? = some q ∧ q.1 = Cn
theorem Rv.cell {b : Nat} {Cn : String} (C : Cx G own cc nL p s m args c) (h : Hw N ef G A H0 S H locs) (r : Rv N ef G S b Cn) : ∃ cellB : Cell, H[adr G b]? = some cellB ∧ cellB.vm.isStatics = false ∧ s.vm.findClass Cn = some cellB.cls := by
  obtain ⟨ci, q, fs, hb, he, hc, rfl⟩ := r
  exact va_recv C.2.2.2.2.2.1 h.1 hc ((wld_get hb).trans (by rw [he]))
variable {y : MethodName} {bytes : ByteArray} {maxL : Nat} {rt : Option FieldType} {idx n k b : Nat} {As : List Value} {S' : St} {st : List Value}
theorem x_runV {Qc : Array Value → State → Outcome → State → Prop} {free : Addr → Prop} (C : Cx G own cc nL p s m args c) (h : Hw N ef G A H0 S H locs) (hM : Met l y (wU y bytes maxL rt) (rmK k) (va_Pc (.ref (adr G b) :: As) (PreW N ef G H.size S)) Qc 0 0 free) (hcv : CV own idx y bytes maxL rt n) (hr : Rv N ef G S b y.cls) (hls : ls.size = nL) (hn : As.length = n) (hst : st = As.reverse ++ .ref (adr G b) :: rest) (hR : k + 1 ≤ R.frames ∧ 8 + (maxL + 11) + 100 * k ≤ R.locals) (hcat : (rest.map fun v => v.category).sum ≤ 8) (hcs : cells ≤ R.cells ∧ slots ≤ R.slots) (hdg : decode cc pc = .ok (.invokevirtual idx, 3)) :
    va_Run p l e R s m args below meth c H locs cells slots 0 0 (F0 m pc ls st) rest (Qc (Value.ref (adr G b) :: As).toArray) free :=
  va_runV (As := As) (rest := rest) (C := y.cls) C.fix hM (cwV n C.2.2.2.2.1 hcv.1 rfl rfl rfl ⟨rfl, hcv.2⟩ hR) ⟨Pre_blind, hr.cell C h, Pre_at (av := .ref (adr G b) :: As) C h⟩ rfl hn hls hst (lv_room hcat) hdg hcs
theorem x_runS {Qc : Array Value → State → Outcome → State → Prop} {free : Addr → Prop} (C : Cx G own cc nL p s m args c) (h : Hw N ef G A H0 S H locs) (hM : Met l y (wU y bytes maxL rt) (rmK k) (va_Pc As (PreW N ef G H.size S)) Qc 0 0 free) (hcv : CSt own idx y bytes maxL rt n) (hls : ls.size = nL) (hn : As.length = n) (hst : st = As.reverse ++ rest) (hR : k + 1 ≤ R.frames ∧ 8 + (maxL + 11) + 100 * k ≤ R.locals) (hcat : (rest.map fun v => v.category).sum ≤ 8) (hcs : cells ≤ R.cells ∧ slots ≤ R.slots) (hdg : decode cc pc = .ok (.invokestatic idx, 3)) :
    va_Run p l e R s m args below meth c H locs cells slots 0 0 (F0 m pc ls st) rest (Qc As.toArray) free :=
  va_runS (As := As) (rest := rest) C.fix hM ⟨callB_of n C.2.2.2.2.1 (gUc hcv.2.2.2.1) rfl rfl rfl (C.2.2.2.2.1 _ hcv.2.2.1) (C.2.2.2.2.1 _ hcv.1) hcv.2.2.2.2 hR, C.2.2.2.2.1 _ hcv.2.1⟩ ⟨Pre_blind, Pre_at C h⟩ rfl hn hls hst (lv_room hcat) hdg hcs
theorem x_runSN {Qc : Array Value → State → Outcome → State → Prop} {free : Addr → Prop} {host : String} (C : Cx G own cc nL p s m args c) (h : Hw N ef G A H0 S H locs) (hM : Met l y (wU y bytes maxL rt) (rmK k) (va_Pc As (PreW N ef G H.size S)) Qc 0 0 free) (hnest : va_Nw (.methodLinkNest own idx y host) s) (hstat : Cond.static y ∈ gtbl) (hini : Cond.initialized y.cls ∈ gtbl) (hco : Cond.code y bytes maxL rt ∈ gtbl) (hd : y.cls ≠ "java/lang/invoke/MethodHandle" ∧ y.cls ≠ "java/lang/invoke/VarHandle" ∧ (parseMethodDescriptor y.desc).map (fun d => d.parameters.length) = some n) (hls : ls.size = nL) (hn : As.length = n) (hst : st = As.reverse ++ rest) (hR : k + 1 ≤ R.frames ∧ 8 + (maxL + 11) + 100 * k ≤ R.locals) (hcat : (rest.map fun v => v.category).sum ≤ 8) (hcs : cells ≤ R.cells ∧ slots ≤ R.slots) (hdg : decode cc pc = .ok (.invokestatic idx, 3)) :
    va_Run p l e R s m args below meth c H locs cells slots 0 0 (F0 m pc ls st) rest (Qc As.toArray) free :=
  va_runSN (As := As) (rest := rest) C.fix hM ⟨va_cnB n C.2.2.2.2.1 (gUc hco) rfl rfl rfl hnest (C.2.2.2.2.1 _ hini) hd hR, C.2.2.2.2.1 _ hstat, trivial⟩ ⟨Pre_blind, Pre_at C h⟩ rfl hn hls hst (lv_room hcat) hdg hcs
theorem x_backI {a : Array Value} {r : Int32} (h : Hw N ef G A H0 S H locs) (hr : va_Run p l e R s m args below meth c H locs cells slots 0 0 (F0 m pc ls st) rest (va_Qi (fun (r' : Int32) (u : St) => r' = r ∧ u = S') (PostW N ef G H.size) (AW N G H.size) a) (AW N G H.size))
    (kk : ∀ (H1 : Heap) (locs1 : List Loc), Hw N ef G A H0 S' H1 locs1 → W p l e R s m args below meth c H1 locs1 cells slots Q (F0 m (pc + 3) ls (.int r :: rest))) : W p l e R s m args below meth c H locs cells slots Q (F0 m pc ls st) :=
  va_calli hr h.2.2.1 (fun q _ hq => AW_in h h.2.2.1.1 q hq) (AW_in h h.2.2.1.1) (fun r' u t H1 locs1 ht hvm hw hB hz hk hS => by
    obtain ⟨rfl, rfl⟩ := hw
    exact kk H1 locs1 (Hw_back h h.2.2.1.1 ht hB hS))
theorem x_backL {a : Array Value} {r : Int64} (h : Hw N ef G A H0 S H locs) (hr : va_Run p l e R s m args below meth c H locs cells slots 0 0 (F0 m pc ls st) rest (va_Ql (fun (r' : Int64) (u : St) => r' = r ∧ u = S') (PostW N ef G H.size) (AW N G H.size) a) (AW N G H.size))
    (kk : ∀ (H1 : Heap) (locs1 : List Loc), Hw N ef G A H0 S' H1 locs1 → W p l e R s m args below meth c H1 locs1 cells slots Q (F0 m (pc + 3) ls (.long r :: rest))) : W p l e R s m args below meth c H locs cells slots Q (F0 m pc ls st) :=
  va_calll hr h.2.2.1 (fun q _ hq => AW_in h h.2.2.1.1 q hq) (AW_in h h.2.2.1.1) (fun r' u t H1 locs1 ht hvm hw hB hz hk hS => by
    obtain ⟨rfl, rfl⟩ := hw
    exact kk H1 locs1 (Hw_back h h.2.2.1.1 ht hB hS))
theorem x_backV {a : Array Value} (h : Hw N ef G A H0 S H locs) (hr : va_Run p l e R s m args below meth c H locs cells slots 0 0 (F0 m pc ls st) rest (va_Qv (fun (u : St) => u = S') (PostW N ef G H.size) (AW N G H.size) a) (AW N G H.size))
    (kk : ∀ (H1 : Heap) (locs1 : List Loc), Hw N ef G A H0 S' H1 locs1 → W p l e R s m args below meth c H1 locs1 cells slots Q (F0 m (pc + 3) ls rest)) : W p l e R s m args below meth c H locs cells slots Q (F0 m pc ls st) :=
  va_callv hr h.2.2.1 (fun q _ hq => AW_in h h.2.2.1.1 q hq) (AW_in h h.2.2.1.1) (fun u t H1 locs1 ht hvm hw hB hz hk hS => by
    obtain rfl := hw
    exact kk H1 locs1 (Hw_back h h.2.2.1.1 ht hB hS))
theorem x_backE {a : Array Value} {r : Option Nat} (h : Hw N ef G A H0 S H locs) (hr : va_Run p l e R s m args below meth c H locs cells slots 0 0 (F0 m pc ls st) rest (va_Qe (adr G) (fun (r' : Option Nat) (u : St) => r' = r ∧ u = S') (PostW N ef G H.size) (AW N G H.size) a) (AW N G H.size))
    (kk : ∀ (H1 : Heap) (locs1 : List Loc), Hw N ef G A H0 S' H1 locs1 → W p l e R s m args below meth c H1 locs1 cells slots Q (F0 m (pc + 3) ls (va_re (adr G) r :: rest))) : W p l e R s m args below meth c H locs cells slots Q (F0 m pc ls st) :=
  va_calle hr h.2.2.1 (fun q _ hq => AW_in h h.2.2.1.1 q hq) (AW_in h h.2.2.1.1) (fun r' u t H1 locs1 ht hvm hw hB hz hk hS => by
    obtain ⟨rfl, rfl⟩ := hw
    exact kk H1 locs1 (Hw_back h h.2.2.1.1 ht hB hS))
end ROWS
end
section
section CLOSE
variable {l : Launch} {N : Nat} {ef : Ef} {G : Geo} {S S' : St} {y : MethodName} {cc : ByteArray} {nL k : Nat} {av : List Value}
theorem x_entry (hy : plainName y.cls = true) {rt : Option FieldType} (hlen : (lg_sl av).length ≤ nL) {Qc : Array Value → State → Outcome → State → Prop} {free : Addr → Prop} {sz : Nat}
    (body : ∀ (p : Program) (e : Env) (s : State) (m : MethodId) (below : List Frame) (meth : Method) (c : Code), Cx G y.cls cc nL p s m av.toArray c → meth.sig.returnType = rt → meth.locks = false → s.heap.size = sz → ∀ ls : Array Slot, lv_has ls nL (lv_args 0 av) → Hw N ef G (AW N G sz) s.heap S s.heap [] → W p l e (rmK k) s m av.toArray below meth c s.heap [] 0 0 (MQ below Qc av.toArray s 0 0 free) (F0 m 0 ls [])) :
    Met l y (wU y cc nL rt) (rmK k) (va_Pc av (PreW N ef G sz S)) Qc 0 0 free := by
  refine Met.ofW (cc := cc) (maxL := nL) (ret := rt) hy rfl ?_
  intro p e s m args below meth c s₁ B hml hv
  obtain ⟨rfl, hsz, hP, hK, hD⟩ := hv
  have hts := atoms_spec (ws := wU y cc nL rt) B.pre
  have hl := lv_entry av (n := nL) hlen
  rw [lg_entry_eq]
  refine body p e s m below meth c ⟨B.exec, B.bytes, hml, findClass_of_methodNamed B.named, fun w hw => hts w (List.mem_cons_of_mem _ hw), hK⟩ B.returns B.notSynchronized hsz _ hl ⟨hP, ⟨hD.1, fun j q hq => ?_⟩, va_S.rf, fun q hq => Or.inr (by omega)⟩
  obtain ⟨h1, rfl⟩ := wld_of hq
  exact Or.inl ⟨j, h1, rfl⟩
/-- how a walk of an int method ends -/
def KI (N : Nat) (ef : Ef) (G : Geo) (A : Nat → Prop) (H0 : Heap) (cc : ByteArray) (p : Program) (l : Launch) (e : Env) (k : Nat) (s : State) (m : MethodId) (args : Array Value) (below : List Frame) (meth : Method) (c : Code) (Q : State → Prop) (r : Int32) (S' : St) : Prop := ∀ (pc : Nat) (H : Heap) (locs : List Loc) (ls : Array Slot), decode cc pc = .ok (.ireturn, 1) → Hw N ef G A H0 S' H locs → W p l e (rmK k) s m args below meth c H locs 0 0 Q (F0 m pc ls [.int r])
def KL (N : Nat) (ef : Ef) (G : Geo) (A : Nat → Prop) (H0 : Heap) (cc : ByteArray) (p : Program) (l : Launch) (e : Env) (k : Nat) (s : State) (m : MethodId) (args : Array Value) (below : List Frame) (meth : Method) (c : Code) (Q : State → Prop) (r : Int64) (S' : St) : Prop := ∀ (pc : Nat) (H : Heap) (locs : List Loc) (ls : Array Slot), decode cc pc = .ok (.lreturn, 1) → Hw N ef G A H0 S' H locs → W p l e (rmK k) s m args below meth c H locs 0 0 Q (F0 m pc ls [.long r])
def KV (N : Nat) (ef : Ef) (G : Geo) (A : Nat → Prop) (H0 : Heap) (cc : ByteArray) (p : Program) (l : Launch) (e : Env) (k : Nat) (s : State) (m : MethodId) (args : Array Value) (below : List Frame) (meth : Method) (c : Code) (Q : State → Prop) (S' : St) : Prop := ∀ (pc : Nat) (H : Heap) (locs : List Loc) (ls : Array Slot), decode cc pc = .ok (.return_, 1) → Hw N ef G A H0 S' H locs → W p l e (rmK k) s m args below meth c H locs 0 0 Q (F0 m pc ls [])
def KE (N : Nat) (ef : Ef) (G : Geo) (A : Nat → Prop) (H0 : Heap) (cc : ByteArray) (p : Program) (l : Launch) (e : Env) (k : Nat) (s : State) (m : MethodId) (args : Array Value) (below : List Frame) (meth : Method) (c : Code) (Q : State → Prop) (r : Option Nat) (S' : St) : Prop := ∀ (pc : Nat) (H : Heap) (locs : List Loc) (ls : Array Slot), decode cc pc = .ok (.areturn, 1) → Hw N ef G A H0 S' H locs → W p l e (rmK k) s m args below meth c H locs 0 0 Q (F0 m pc ls [va_re (adr G) r])
theorem post_of {sz : Nat} {s t : State} {H : Heap} {locs : List Loc} (h : Hw N ef G (AW N G sz) s.heap S' H locs) (ht : t.heap = H) : PostW N ef G sz S' t := ⟨by rw [ht]; exact h.1, h.2.1⟩
theorem mI_of (hy : plainName y.cls = true) (hlen : (lg_sl av).length ≤ nL) {r : Int32}
    (body : ∀ (p : Program) (e : Env) (s : State) (m : MethodId) (below : List Frame) (meth : Method) (c : Code) (A : Nat → Prop) (H0 : Heap) (Q : State → Prop), Cx G y.cls cc nL p s m av.toArray c → KI N ef G A H0 cc p l e k s m av.toArray below meth c Q r S' → ∀ (H : Heap) (locs : List Loc) (ls : Array Slot), Hw N ef G A H0 S H locs → lv_has ls nL (lv_args 0 av) → W p l e (rmK k) s m av.toArray below meth c H locs 0 0 Q (F0 m 0 ls [])) :
    MI N ef G l y cc nL (some .int) k av S r S' := by
  intro sz
  refine x_entry hy hlen (fun p e s m below meth c C hr hlk hz ls hl hw => body p e s m below meth c _ _ _ C (fun pc H locs ls hd h => ?_) _ _ ls hw hl)
  exact W.iret C.1 C.2.1 hr (fun t ht hW => ⟨⟨r, S', rfl, ⟨rfl, rfl⟩, post_of h ht⟩, h.2.2.1.F ht⟩) h.2.2.1.2.2 hd hlk
theorem mZ_of (hy : plainName y.cls = true) (hlen : (lg_sl av).length ≤ nL) {r : Bool}
    (body : ∀ (p : Program) (e : Env) (s : State) (m : MethodId) (below : List Frame) (meth : Method) (c : Code) (A : Nat → Prop) (H0 : Heap) (Q : State → Prop), Cx G y.cls cc nL p s m av.toArray c → KI N ef G A H0 cc p l e k s m av.toArray below meth c Q (bi r) S' → ∀ (H : Heap) (locs : List Loc) (ls : Array Slot), Hw N ef G A H0 S H locs → lv_has ls nL (lv_args 0 av) → W p l e (rmK k) s m av.toArray below meth c H locs 0 0 Q (F0 m 0 ls [])) :
    MI N ef G l y cc nL (some .boolean) k av S (bi r) S' := by
  intro sz
  refine x_entry hy hlen (fun p e s m below meth c C hr hlk hz ls hl hw => body p e s m below meth c _ _ _ C (fun pc H locs ls hd h => ?_) _ _ ls hw hl)
  exact W.zret C.1 C.2.1 hr (by cases r <;> rfl) (fun t ht hW => ⟨⟨bi r, S', rfl, ⟨rfl, rfl⟩, post_of h ht⟩, h.2.2.1.F ht⟩) h.2.2.1.2.2 hd hlk
theorem mL_of (hy : plainName y.cls = true) (hlen : (lg_sl av).length ≤ nL) {r : Int64}
    (body : ∀ (p : Program) (e : Env) (s : State) (m : MethodId) (below : List Frame) (meth : Method) (c : Code) (A : Nat → Prop) (H0 : Heap) (Q : State → Prop), Cx G y.cls cc nL p s m av.toArray c → KL N ef G A H0 cc p l e k s m av.toArray below meth c Q r S' → ∀ (H : Heap) (locs : List Loc) (ls : Array Slot), Hw N ef G A H0 S H locs → lv_has ls nL (lv_args 0 av) → W p l e (rmK k) s m av.toArray below meth c H locs 0 0 Q (F0 m 0 ls [])) :
    ML N ef G l y cc nL (some .long) k av S r S' := by
  intro sz
  refine x_entry hy hlen (fun p e s m below meth c C hr hlk hz ls hl hw => body p e s m below meth c _ _ _ C (fun pc H locs ls hd h => ?_) _ _ ls hw hl)
  exact W.lret C.1 C.2.1 hr (fun t ht hW => ⟨⟨r, S', rfl, ⟨rfl, rfl⟩, post_of h ht⟩, h.2.2.1.F ht⟩) h.2.2.1.2.2 hd hlk
theorem mV_of (hy : plainName y.cls = true) (hlen : (lg_sl av).length ≤ nL)
    (body : ∀ (p : Program) (e : Env) (s : State) (m : MethodId) (below : List Frame) (meth : Method) (c : Code) (A : Nat → Prop) (H0 : Heap) (Q : State → Prop), Cx G y.cls cc nL p s m av.toArray c → KV N ef G A H0 cc p l e k s m av.toArray below meth c Q S' → ∀ (H : Heap) (locs : List Loc) (ls : Array Slot), Hw N ef G A H0 S H locs → lv_has ls nL (lv_args 0 av) → W p l e (rmK k) s m av.toArray below meth c H locs 0 0 Q (F0 m 0 ls [])) :
    MV N ef G l y cc nL none k av S S' := by
  intro sz
  refine x_entry hy hlen (fun p e s m below meth c C hr hlk hz ls hl hw => body p e s m below meth c _ _ _ C (fun pc H locs ls hd h => ?_) _ _ ls hw hl)
  exact W.vret C.1 C.2.1 hr (fun t ht hW => ⟨⟨S', rfl, rfl, post_of h ht⟩, h.2.2.1.F ht⟩) h.2.2.1.2.2 hd hlk
theorem mE_of (hy : plainName y.cls = true) (hlen : (lg_sl av).length ≤ nL) {r : Option Nat} {Cn : String}
    (body : ∀ (p : Program) (e : Env) (s : State) (m : MethodId) (below : List Frame) (meth : Method) (c : Code) (A : Nat → Prop) (H0 : Heap) (Q : State → Prop), Cx G y.cls cc nL p s m av.toArray c → KE N ef G A H0 cc p l e k s m av.toArray below meth c Q r S' → ∀ (H : Heap) (locs : List Loc) (ls : Array Slot), Hw N ef G A H0 S H locs → lv_has ls nL (lv_args 0 av) → W p l e (rmK k) s m av.toArray below meth c H locs 0 0 Q (F0 m 0 ls [])) :
    ME N ef G l y cc nL (some (.object Cn)) k av S r S' := by
  intro sz
  refine x_entry hy hlen (fun p e s m below meth c C hr hlk hz ls hl hw => body p e s m below meth c _ _ _ C (fun pc H locs ls hd h => ?_) _ _ ls hw hl)
  exact W.aret C.1 C.2.1 hr (Or.inl ⟨_, rfl⟩) (by cases r with | none => exact Or.inl rfl | some a => exact Or.inr ⟨_, rfl⟩) (fun t ht hW => ⟨⟨r, S', rfl, ⟨rfl, rfl⟩, post_of h ht⟩, h.2.2.1.F ht⟩) h.2.2.1.2.2 hd hlk
end CLOSE
/-! the class's world: 37 cells -/
def lenX (k : Nat) : Nat := if k < 16 then 60 else if k < 28 then 5 else if k < 29 then 60 else if k < 31 then 5 else if k < 33 then 3125 else if k < 36 then 8 else 5
def eX : Ef := fun G k r => match k with
  | 0 => .inr (6, [.ref (adr G 1), .ref (adr G 2), .ref (adr G 3), .ref (adr G 4), .ref (adr G 5), .ref (adr G 6), .ref (adr G 21), .int (r 7), .int (r 8)])
  | 1 => .inr (1, [.int (r 0), .ref (adr G 22), .ref (adr G 23), .int (r 3), .ref (adr G 24), .ref (adr G 25), .ref (adr G 26), .ref (adr G 27)])
  | 2 => .inr (5, [.ref (adr G 28), .int (r 1), .int (r 2), .int (r 3)])
  | 3 => .inr (2, [.ref (adr G 29), .ref (adr G 7), .ref (adr G 30), .ref (adr G 31), .ref (adr G 32), .int (r 5), .int (r 6)])
  | 4 => .inr (3, [.int (r 0), .ref (adr G 33), .ref (adr G 34), .ref (adr G 35)])
  | 5 => .inr (0, [.ref (adr G 36), .int (r 1), .int (r 2), .int (r 3)])
  | 6 => .inl (G.2.2.2.1, 4, .inr (.inr (.inr (.inr (fun i => if i < 4 then some (adr G (8 + i)) else none)))))
  | 7 => .inl (G.2.2.2.2, 5, .inr (.inr (.inr (.inr (fun i => if i < 5 then some (adr G (16 + i)) else none)))))
  | k + 8 => if k < 4 then .inr (4, [.int (r 0), .ref (adr G (k + 12)), .int (r 2)]) else .inl (G.2.2.1, lenX (k + 8), .inl r)
abbrev shX (k : Nat) : Prop := 8 ≤ k ∧ k < 12
abbrev arX (k : Nat) : Prop := 12 ≤ k ∧ k < 37
theorem eX_sh {G : Geo} {k : Nat} {r : Nat → Int32} (h : shX k) : eX G k r = .inr (4, [.int (r 0), .ref (adr G (k + 4)), .int (r 2)]) := by
  obtain ⟨j, rfl⟩ : ∃ j, k = j + 8 := ⟨k - 8, by omega⟩
  show (if j < 4 then _ else _) = _
  rw [if_pos (by omega)]
theorem eX_ar {G : Geo} {k : Nat} (h : arX k) : ∀ r, eX G k r = .inl (G.2.2.1, lenX k, .inl r) := by
  intro r
  obtain ⟨j, rfl⟩ : ∃ j, k = j + 8 := ⟨k - 8, by omega⟩
  show (if j < 4 then _ else _) = _
  rw [if_neg (by omega)]
theorem sh_ar {k : Nat} (h : shX k) : arX (k + 4) := ⟨by omega, by omega⟩
theorem sh_len {k : Nat} (h : shX k) : lenX (k + 4) = 60 := by unfold lenX; rw [if_pos (by omega)]
/-! the reference's world: 18 cells -/
def lenM (k : Nat) : Nat := if k < 3 then 4 else if k < 4 then 240 else if k < 11 then 5 else if k < 12 then 15 else if k < 13 then 5 else if k < 15 then 3125 else 8
def eM : Ef := fun G k r => match k with
  | 0 => .inr (7, [.int (r 0), .int (r 1), .ref (adr G 1), .ref (adr G 2), .ref (adr G 3), .int (r 5), .int (r 6), .int (r 7), .ref (adr G 4), .ref (adr G 5), .ref (adr G 6), .ref (adr G 7), .ref (adr G 8), .ref (adr G 9), .int (r 14), .int (r 15), .int (r 16), .ref (adr G 10), .ref (adr G 11), .ref (adr G 12), .int (r 20), .int (r 21), .ref (adr G 13), .ref (adr G 14), .int (r 24), .ref (adr G 15), .ref (adr G 16), .ref (adr G 17)])
  | k + 1 => .inl (G.2.2.1, lenM (k + 1), .inl r)
abbrev HX := Hw 37 eX
abbrev HM := Hw 18 eM
end
