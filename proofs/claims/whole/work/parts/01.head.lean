-- ===== PART A: goes FIRST, ahead of the names: the tables' words, and 'selects' of the private methods out of them =====
/-- a private method of a class that the tables say can be made, by its rows of tables_1 -/
def lw_okq (q : MethodName × Nat) : Prop := (q.1.cls ≠ "java/lang/invoke/MethodHandle" ∧ q.1.cls ≠ "java/lang/invoke/VarHandle") ∧ Cond.instantiable q.1.cls q.2 ∈ tables_1 ∧ Cond.privateMethod q.1 ∈ tables_1 ∧ Cond.instanceMethod q.1 ∈ tables_1
theorem lw_p0 : lw_okq (⟨"ChairGrudge", "faultAnswer", "()I"⟩, 10) := ⟨⟨by decide +kernel, by decide +kernel⟩, List.mem_of_getElem? (i := 12) (by decide +kernel), List.mem_of_getElem? (i := 211) (by decide +kernel), List.mem_of_getElem? (i := 212) (by decide +kernel)⟩
theorem lw_p1 : lw_okq (⟨"ChairGrudge", "noteDown", "(LChairGrudge$Notes;III)I"⟩, 10) := ⟨⟨by decide +kernel, by decide +kernel⟩, List.mem_of_getElem? (i := 12) (by decide +kernel), List.mem_of_getElem? (i := 243) (by decide +kernel), List.mem_of_getElem? (i := 244) (by decide +kernel)⟩
theorem lw_p2 : lw_okq (⟨"ChairGrudge$Memory", "isHeld", "(III)Z"⟩, 6) := ⟨⟨by decide +kernel, by decide +kernel⟩, List.mem_of_getElem? (i := 82) (by decide +kernel), List.mem_of_getElem? (i := 294) (by decide +kernel), List.mem_of_getElem? (i := 295) (by decide +kernel)⟩
theorem lw_p3 : lw_okq (⟨"ChairGrudge$Memory", "isForgiven", "(III)Z"⟩, 6) := ⟨⟨by decide +kernel, by decide +kernel⟩, List.mem_of_getElem? (i := 82) (by decide +kernel), List.mem_of_getElem? (i := 301) (by decide +kernel), List.mem_of_getElem? (i := 302) (by decide +kernel)⟩
theorem lw_p4 : lw_okq (⟨"ChairGrudge$Memory", "guestsOf", "(I)I"⟩, 6) := ⟨⟨by decide +kernel, by decide +kernel⟩, List.mem_of_getElem? (i := 82) (by decide +kernel), List.mem_of_getElem? (i := 309) (by decide +kernel), List.mem_of_getElem? (i := 310) (by decide +kernel)⟩
theorem lw_p5 : lw_okq (⟨"ChairGrudge", "refusalOfSeating", "(II)I"⟩, 10) := ⟨⟨by decide +kernel, by decide +kernel⟩, List.mem_of_getElem? (i := 12) (by decide +kernel), List.mem_of_getElem? (i := 325) (by decide +kernel), List.mem_of_getElem? (i := 326) (by decide +kernel)⟩
theorem lw_p6 : lw_okq (⟨"ChairGrudge", "refusalOfDinner", "(I)I"⟩, 10) := ⟨⟨by decide +kernel, by decide +kernel⟩, List.mem_of_getElem? (i := 12) (by decide +kernel), List.mem_of_getElem? (i := 329) (by decide +kernel), List.mem_of_getElem? (i := 330) (by decide +kernel)⟩
theorem lw_p7 : lw_okq (⟨"ChairGrudge$Seating", "seatCheapest", "()I"⟩, 6) := ⟨⟨by decide +kernel, by decide +kernel⟩, List.mem_of_getElem? (i := 109) (by decide +kernel), List.mem_of_getElem? (i := 341) (by decide +kernel), List.mem_of_getElem? (i := 342) (by decide +kernel)⟩
theorem lw_p8 : lw_okq (⟨"ChairGrudge$Seating", "bestChair", "(II)I"⟩, 6) := ⟨⟨by decide +kernel, by decide +kernel⟩, List.mem_of_getElem? (i := 109) (by decide +kernel), List.mem_of_getElem? (i := 348) (by decide +kernel), List.mem_of_getElem? (i := 349) (by decide +kernel)⟩
theorem lw_p9 : lw_okq (⟨"ChairGrudge$Seating", "costOf", "(III)I"⟩, 6) := ⟨⟨by decide +kernel, by decide +kernel⟩, List.mem_of_getElem? (i := 109) (by decide +kernel), List.mem_of_getElem? (i := 352) (by decide +kernel), List.mem_of_getElem? (i := 353) (by decide +kernel)⟩
theorem lw_p10 : lw_okq (⟨"ChairGrudge$Memory", "isShort", "(I)Z"⟩, 6) := ⟨⟨by decide +kernel, by decide +kernel⟩, List.mem_of_getElem? (i := 82) (by decide +kernel), List.mem_of_getElem? (i := 370) (by decide +kernel), List.mem_of_getElem? (i := 371) (by decide +kernel)⟩
theorem lw_p11 : lw_okq (⟨"ChairGrudge", "fitting", "([III)I"⟩, 10) := ⟨⟨by decide +kernel, by decide +kernel⟩, List.mem_of_getElem? (i := 12) (by decide +kernel), List.mem_of_getElem? (i := 421) (by decide +kernel), List.mem_of_getElem? (i := 422) (by decide +kernel)⟩
theorem lw_p12 : lw_okq (⟨"ChairGrudge", "allReadingsAreSo", "()Z"⟩, 10) := ⟨⟨by decide +kernel, by decide +kernel⟩, List.mem_of_getElem? (i := 12) (by decide +kernel), List.mem_of_getElem? (i := 425) (by decide +kernel), List.mem_of_getElem? (i := 426) (by decide +kernel)⟩
theorem lw_p13 : lw_okq (⟨"ChairGrudge$Sheet", "cut", "(I)I"⟩, 3) := ⟨⟨by decide +kernel, by decide +kernel⟩, List.mem_of_getElem? (i := 136) (by decide +kernel), List.mem_of_getElem? (i := 475) (by decide +kernel), List.mem_of_getElem? (i := 476) (by decide +kernel)⟩
theorem lw_p14 : lw_okq (⟨"ChairGrudge", "tellAsBench", "(I)I"⟩, 10) := ⟨⟨by decide +kernel, by decide +kernel⟩, List.mem_of_getElem? (i := 12) (by decide +kernel), List.mem_of_getElem? (i := 500) (by decide +kernel), List.mem_of_getElem? (i := 501) (by decide +kernel)⟩
theorem lw_p15 : lw_okq (⟨"ChairGrudge", "leaveTrace", "(I)V"⟩, 10) := ⟨⟨by decide +kernel, by decide +kernel⟩, List.mem_of_getElem? (i := 12) (by decide +kernel), List.mem_of_getElem? (i := 504) (by decide +kernel), List.mem_of_getElem? (i := 505) (by decide +kernel)⟩
def lw_privs_1 : List (MethodName × Nat) := [(⟨"ChairGrudge", "faultAnswer", "()I"⟩, 10), (⟨"ChairGrudge", "noteDown", "(LChairGrudge$Notes;III)I"⟩, 10), (⟨"ChairGrudge$Memory", "isHeld", "(III)Z"⟩, 6), (⟨"ChairGrudge$Memory", "isForgiven", "(III)Z"⟩, 6), (⟨"ChairGrudge$Memory", "guestsOf", "(I)I"⟩, 6), (⟨"ChairGrudge", "refusalOfSeating", "(II)I"⟩, 10), (⟨"ChairGrudge", "refusalOfDinner", "(I)I"⟩, 10), (⟨"ChairGrudge$Seating", "seatCheapest", "()I"⟩, 6), (⟨"ChairGrudge$Seating", "bestChair", "(II)I"⟩, 6), (⟨"ChairGrudge$Seating", "costOf", "(III)I"⟩, 6), (⟨"ChairGrudge$Memory", "isShort", "(I)Z"⟩, 6), (⟨"ChairGrudge", "fitting", "([III)I"⟩, 10), (⟨"ChairGrudge", "allReadingsAreSo", "()Z"⟩, 10), (⟨"ChairGrudge$Sheet", "cut", "(I)I"⟩, 3), (⟨"ChairGrudge", "tellAsBench", "(I)I"⟩, 10), (⟨"ChairGrudge", "leaveTrace", "(I)V"⟩, 10)]
theorem lw_r1 : ∀ q ∈ lw_privs_1, lw_okq q := List.forall_mem_cons.mpr ⟨lw_p0, List.forall_mem_cons.mpr ⟨lw_p1, List.forall_mem_cons.mpr ⟨lw_p2, List.forall_mem_cons.mpr ⟨lw_p3, List.forall_mem_cons.mpr ⟨lw_p4, List.forall_mem_cons.mpr ⟨lw_p5, List.forall_mem_cons.mpr ⟨lw_p6, List.forall_mem_cons.mpr ⟨lw_p7, List.forall_mem_cons.mpr ⟨lw_p8, List.forall_mem_cons.mpr ⟨lw_p9, List.forall_mem_cons.mpr ⟨lw_p10, List.forall_mem_cons.mpr ⟨lw_p11, List.forall_mem_cons.mpr ⟨lw_p12, List.forall_mem_cons.mpr ⟨lw_p13, List.forall_mem_cons.mpr ⟨lw_p14, List.forall_mem_cons.mpr ⟨lw_p15, fun _ h => absurd h List.not_mem_nil⟩⟩⟩⟩⟩⟩⟩⟩⟩⟩⟩⟩⟩⟩⟩⟩
theorem lw_p16 : lw_okq (⟨"ChairGrudge", "tellAsChair", "(I)I"⟩, 10) := ⟨⟨by decide +kernel, by decide +kernel⟩, List.mem_of_getElem? (i := 12) (by decide +kernel), List.mem_of_getElem? (i := 508) (by decide +kernel), List.mem_of_getElem? (i := 509) (by decide +kernel)⟩
theorem lw_p17 : lw_okq (⟨"ChairGrudge", "tellAsThrone", "(I)I"⟩, 10) := ⟨⟨by decide +kernel, by decide +kernel⟩, List.mem_of_getElem? (i := 12) (by decide +kernel), List.mem_of_getElem? (i := 512) (by decide +kernel), List.mem_of_getElem? (i := 513) (by decide +kernel)⟩
theorem lw_p18 : lw_okq (⟨"ChairGrudgeModel", "against", "(IIII)I"⟩, 33) := ⟨⟨by decide +kernel, by decide +kernel⟩, List.mem_of_getElem? (i := 536) (by decide +kernel), List.mem_of_getElem? (i := 655) (by decide +kernel), List.mem_of_getElem? (i := 656) (by decide +kernel)⟩
theorem lw_p19 : lw_okq (⟨"ChairGrudgeModel", "fails", "(I)I"⟩, 33) := ⟨⟨by decide +kernel, by decide +kernel⟩, List.mem_of_getElem? (i := 536) (by decide +kernel), List.mem_of_getElem? (i := 659) (by decide +kernel), List.mem_of_getElem? (i := 660) (by decide +kernel)⟩
theorem lw_p20 : lw_okq (⟨"ChairGrudgeModel", "readHall", "(I)Z"⟩, 33) := ⟨⟨by decide +kernel, by decide +kernel⟩, List.mem_of_getElem? (i := 536) (by decide +kernel), List.mem_of_getElem? (i := 663) (by decide +kernel), List.mem_of_getElem? (i := 664) (by decide +kernel)⟩
theorem lw_p21 : lw_okq (⟨"ChairGrudgeModel", "isSign", "(II)Z"⟩, 33) := ⟨⟨by decide +kernel, by decide +kernel⟩, List.mem_of_getElem? (i := 536) (by decide +kernel), List.mem_of_getElem? (i := 667) (by decide +kernel), List.mem_of_getElem? (i := 668) (by decide +kernel)⟩
theorem lw_p22 : lw_okq (⟨"ChairGrudgeModel", "digit", "(III)I"⟩, 33) := ⟨⟨by decide +kernel, by decide +kernel⟩, List.mem_of_getElem? (i := 536) (by decide +kernel), List.mem_of_getElem? (i := 671) (by decide +kernel), List.mem_of_getElem? (i := 672) (by decide +kernel)⟩
theorem lw_p23 : lw_okq (⟨"ChairGrudgeModel", "readChair", "(I)Z"⟩, 33) := ⟨⟨by decide +kernel, by decide +kernel⟩, List.mem_of_getElem? (i := 536) (by decide +kernel), List.mem_of_getElem? (i := 675) (by decide +kernel), List.mem_of_getElem? (i := 676) (by decide +kernel)⟩
theorem lw_p24 : lw_okq (⟨"ChairGrudgeModel", "isChair", "(I)Z"⟩, 33) := ⟨⟨by decide +kernel, by decide +kernel⟩, List.mem_of_getElem? (i := 536) (by decide +kernel), List.mem_of_getElem? (i := 683) (by decide +kernel), List.mem_of_getElem? (i := 684) (by decide +kernel)⟩
theorem lw_p25 : lw_okq (⟨"ChairGrudgeModel", "isGuest", "(I)Z"⟩, 33) := ⟨⟨by decide +kernel, by decide +kernel⟩, List.mem_of_getElem? (i := 536) (by decide +kernel), List.mem_of_getElem? (i := 691) (by decide +kernel), List.mem_of_getElem? (i := 692) (by decide +kernel)⟩
theorem lw_p26 : lw_okq (⟨"ChairGrudgeModel", "isSlip", "(I)Z"⟩, 33) := ⟨⟨by decide +kernel, by decide +kernel⟩, List.mem_of_getElem? (i := 536) (by decide +kernel), List.mem_of_getElem? (i := 702) (by decide +kernel), List.mem_of_getElem? (i := 703) (by decide +kernel)⟩
theorem lw_p27 : lw_okq (⟨"ChairGrudgeModel", "doesBear", "(III)Z"⟩, 33) := ⟨⟨by decide +kernel, by decide +kernel⟩, List.mem_of_getElem? (i := 536) (by decide +kernel), List.mem_of_getElem? (i := 722) (by decide +kernel), List.mem_of_getElem? (i := 723) (by decide +kernel)⟩
theorem lw_p28 : lw_okq (⟨"ChairGrudgeModel", "minds", "(III)Z"⟩, 33) := ⟨⟨by decide +kernel, by decide +kernel⟩, List.mem_of_getElem? (i := 536) (by decide +kernel), List.mem_of_getElem? (i := 726) (by decide +kernel), List.mem_of_getElem? (i := 727) (by decide +kernel)⟩
theorem lw_p29 : lw_okq (⟨"ChairGrudgeModel", "isForgiven", "(III)Z"⟩, 33) := ⟨⟨by decide +kernel, by decide +kernel⟩, List.mem_of_getElem? (i := 536) (by decide +kernel), List.mem_of_getElem? (i := 730) (by decide +kernel), List.mem_of_getElem? (i := 731) (by decide +kernel)⟩
theorem lw_p30 : lw_okq (⟨"ChairGrudgeModel", "isOneOr", "(I)Z"⟩, 33) := ⟨⟨by decide +kernel, by decide +kernel⟩, List.mem_of_getElem? (i := 536) (by decide +kernel), List.mem_of_getElem? (i := 742) (by decide +kernel), List.mem_of_getElem? (i := 743) (by decide +kernel)⟩
theorem lw_p31 : lw_okq (⟨"ChairGrudgeModel", "layDinner", "(I)V"⟩, 33) := ⟨⟨by decide +kernel, by decide +kernel⟩, List.mem_of_getElem? (i := 536) (by decide +kernel), List.mem_of_getElem? (i := 746) (by decide +kernel), List.mem_of_getElem? (i := 747) (by decide +kernel)⟩
def lw_privs_2 : List (MethodName × Nat) := [(⟨"ChairGrudge", "tellAsChair", "(I)I"⟩, 10), (⟨"ChairGrudge", "tellAsThrone", "(I)I"⟩, 10), (⟨"ChairGrudgeModel", "against", "(IIII)I"⟩, 33), (⟨"ChairGrudgeModel", "fails", "(I)I"⟩, 33), (⟨"ChairGrudgeModel", "readHall", "(I)Z"⟩, 33), (⟨"ChairGrudgeModel", "isSign", "(II)Z"⟩, 33), (⟨"ChairGrudgeModel", "digit", "(III)I"⟩, 33), (⟨"ChairGrudgeModel", "readChair", "(I)Z"⟩, 33), (⟨"ChairGrudgeModel", "isChair", "(I)Z"⟩, 33), (⟨"ChairGrudgeModel", "isGuest", "(I)Z"⟩, 33), (⟨"ChairGrudgeModel", "isSlip", "(I)Z"⟩, 33), (⟨"ChairGrudgeModel", "doesBear", "(III)Z"⟩, 33), (⟨"ChairGrudgeModel", "minds", "(III)Z"⟩, 33), (⟨"ChairGrudgeModel", "isForgiven", "(III)Z"⟩, 33), (⟨"ChairGrudgeModel", "isOneOr", "(I)Z"⟩, 33), (⟨"ChairGrudgeModel", "layDinner", "(I)V"⟩, 33)]
theorem lw_r2 : ∀ q ∈ lw_privs_2, lw_okq q := List.forall_mem_cons.mpr ⟨lw_p16, List.forall_mem_cons.mpr ⟨lw_p17, List.forall_mem_cons.mpr ⟨lw_p18, List.forall_mem_cons.mpr ⟨lw_p19, List.forall_mem_cons.mpr ⟨lw_p20, List.forall_mem_cons.mpr ⟨lw_p21, List.forall_mem_cons.mpr ⟨lw_p22, List.forall_mem_cons.mpr ⟨lw_p23, List.forall_mem_cons.mpr ⟨lw_p24, List.forall_mem_cons.mpr ⟨lw_p25, List.forall_mem_cons.mpr ⟨lw_p26, List.forall_mem_cons.mpr ⟨lw_p27, List.forall_mem_cons.mpr ⟨lw_p28, List.forall_mem_cons.mpr ⟨lw_p29, List.forall_mem_cons.mpr ⟨lw_p30, List.forall_mem_cons.mpr ⟨lw_p31, fun _ h => absurd h List.not_mem_nil⟩⟩⟩⟩⟩⟩⟩⟩⟩⟩⟩⟩⟩⟩⟩⟩
theorem lw_p32 : lw_okq (⟨"ChairGrudgeModel", "rowsOf", "(I)I"⟩, 33) := ⟨⟨by decide +kernel, by decide +kernel⟩, List.mem_of_getElem? (i := 536) (by decide +kernel), List.mem_of_getElem? (i := 750) (by decide +kernel), List.mem_of_getElem? (i := 751) (by decide +kernel)⟩
theorem lw_p33 : lw_okq (⟨"ChairGrudgeModel", "layRow", "(II)Z"⟩, 33) := ⟨⟨by decide +kernel, by decide +kernel⟩, List.mem_of_getElem? (i := 536) (by decide +kernel), List.mem_of_getElem? (i := 754) (by decide +kernel), List.mem_of_getElem? (i := 755) (by decide +kernel)⟩
theorem lw_p34 : lw_okq (⟨"ChairGrudgeModel", "sitBy", "()I"⟩, 33) := ⟨⟨by decide +kernel, by decide +kernel⟩, List.mem_of_getElem? (i := 536) (by decide +kernel), List.mem_of_getElem? (i := 758) (by decide +kernel), List.mem_of_getElem? (i := 759) (by decide +kernel)⟩
theorem lw_p35 : lw_okq (⟨"ChairGrudgeModel", "keepRow", "()V"⟩, 33) := ⟨⟨by decide +kernel, by decide +kernel⟩, List.mem_of_getElem? (i := 536) (by decide +kernel), List.mem_of_getElem? (i := 762) (by decide +kernel), List.mem_of_getElem? (i := 763) (by decide +kernel)⟩
theorem lw_p36 : lw_okq (⟨"ChairGrudgeModel", "tippedBy", "(III)I"⟩, 33) := ⟨⟨by decide +kernel, by decide +kernel⟩, List.mem_of_getElem? (i := 536) (by decide +kernel), List.mem_of_getElem? (i := 777) (by decide +kernel), List.mem_of_getElem? (i := 778) (by decide +kernel)⟩
theorem lw_p37 : lw_okq (⟨"ChairGrudgeModel", "mostIn", "(I)I"⟩, 33) := ⟨⟨by decide +kernel, by decide +kernel⟩, List.mem_of_getElem? (i := 536) (by decide +kernel), List.mem_of_getElem? (i := 789) (by decide +kernel), List.mem_of_getElem? (i := 790) (by decide +kernel)⟩
theorem lw_p38 : lw_okq (⟨"ChairGrudgeModel", "mostSit", "()I"⟩, 33) := ⟨⟨by decide +kernel, by decide +kernel⟩, List.mem_of_getElem? (i := 536) (by decide +kernel), List.mem_of_getElem? (i := 793) (by decide +kernel), List.mem_of_getElem? (i := 794) (by decide +kernel)⟩
theorem lw_p39 : lw_okq (⟨"ChairGrudgeModel", "areSo", "()Z"⟩, 33) := ⟨⟨by decide +kernel, by decide +kernel⟩, List.mem_of_getElem? (i := 536) (by decide +kernel), List.mem_of_getElem? (i := 813) (by decide +kernel), List.mem_of_getElem? (i := 814) (by decide +kernel)⟩
theorem lw_p40 : lw_okq (⟨"ChairGrudgeModel", "lost", "(I)J"⟩, 33) := ⟨⟨by decide +kernel, by decide +kernel⟩, List.mem_of_getElem? (i := 536) (by decide +kernel), List.mem_of_getElem? (i := 853) (by decide +kernel), List.mem_of_getElem? (i := 854) (by decide +kernel)⟩
theorem lw_p41 : lw_okq (⟨"ChairGrudgeModel", "begins", "(I)V"⟩, 33) := ⟨⟨by decide +kernel, by decide +kernel⟩, List.mem_of_getElem? (i := 536) (by decide +kernel), List.mem_of_getElem? (i := 865) (by decide +kernel), List.mem_of_getElem? (i := 866) (by decide +kernel)⟩
def lw_privs_3 : List (MethodName × Nat) := [(⟨"ChairGrudgeModel", "rowsOf", "(I)I"⟩, 33), (⟨"ChairGrudgeModel", "layRow", "(II)Z"⟩, 33), (⟨"ChairGrudgeModel", "sitBy", "()I"⟩, 33), (⟨"ChairGrudgeModel", "keepRow", "()V"⟩, 33), (⟨"ChairGrudgeModel", "tippedBy", "(III)I"⟩, 33), (⟨"ChairGrudgeModel", "mostIn", "(I)I"⟩, 33), (⟨"ChairGrudgeModel", "mostSit", "()I"⟩, 33), (⟨"ChairGrudgeModel", "areSo", "()Z"⟩, 33), (⟨"ChairGrudgeModel", "lost", "(I)J"⟩, 33), (⟨"ChairGrudgeModel", "begins", "(I)V"⟩, 33)]
theorem lw_r3 : ∀ q ∈ lw_privs_3, lw_okq q := List.forall_mem_cons.mpr ⟨lw_p32, List.forall_mem_cons.mpr ⟨lw_p33, List.forall_mem_cons.mpr ⟨lw_p34, List.forall_mem_cons.mpr ⟨lw_p35, List.forall_mem_cons.mpr ⟨lw_p36, List.forall_mem_cons.mpr ⟨lw_p37, List.forall_mem_cons.mpr ⟨lw_p38, List.forall_mem_cons.mpr ⟨lw_p39, List.forall_mem_cons.mpr ⟨lw_p40, List.forall_mem_cons.mpr ⟨lw_p41, fun _ h => absurd h List.not_mem_nil⟩⟩⟩⟩⟩⟩⟩⟩⟩⟩
def lw_privs : List (MethodName × Nat) := lw_privs_1 ++ (lw_privs_2 ++ (lw_privs_3))
def lw_tbl : List Cond := k2_sels lw_privs ++ tables_1
theorem lw_privs_ok : ∀ q ∈ lw_privs, lw_okq q := by
  show ∀ q ∈ lw_privs_1 ++ (lw_privs_2 ++ (lw_privs_3)), lw_okq q
  exact List.forall_mem_append.mpr ⟨lw_r1, List.forall_mem_append.mpr ⟨lw_r2, lw_r3⟩⟩

def RX0 : String := "ChairGrudge$Hall"
def TX0 : u_T := fun k => match k with
  | 0 => ("ChairGrudge$Hall", "kind", "[I", true)
  | 1 => ("ChairGrudge$Hall", "ear", "[I", true)
  | 2 => ("ChairGrudge$Hall", "grudge", "[I", true)
  | 3 => ("ChairGrudge$Hall", "chairs", "I", false)
  | _ => ("ChairGrudge$Hall", "guests", "I", false)
def tyX0 : Nat → FieldType := fun k => match k with
  | 0 => .array .int
  | 1 => .array .int
  | 2 => .array .int
  | 3 => .int
  | _ => .int
abbrev wsX00 : List Cond := u_ws RX0 TX0 5
theorem nmX0 : ∀ a, a < 5 → ∀ b, b < 5 → a ≠ b → (TX0 a).2.1 ≠ (TX0 b).2.1 := by decide +kernel
theorem tyX0_ok : ∀ k, k < 5 → parseFieldDescriptor (TX0 k).2.2.1 = some (tyX0 k) := by decide +kernel
abbrev cX0_init : ByteArray := prog_2_method_1_code
def yX0_init : MethodName := ⟨RX0, "<init>", "()V"⟩
abbrev cX0_stands : ByteArray := prog_2_method_2_code
def yX0_stands : MethodName := ⟨RX0, "stands", "()Z"⟩
abbrev cX0_hasChair : ByteArray := prog_2_method_3_code
def yX0_hasChair : MethodName := ⟨RX0, "hasChair", "(I)Z"⟩
abbrev cX0_hasGuest : ByteArray := prog_2_method_4_code
def yX0_hasGuest : MethodName := ⟨RX0, "hasGuest", "(I)Z"⟩
abbrev cX0_namesOnlyChairs : ByteArray := prog_2_method_5_code
def yX0_namesOnlyChairs : MethodName := ⟨RX0, "namesOnlyChairs", "([III)Z"⟩
abbrev cX0_firstFault : ByteArray := prog_2_method_6_code
def yX0_firstFault : MethodName := ⟨RX0, "firstFault", "([III)I"⟩
abbrev cX0_goesOn : ByteArray := prog_2_method_7_code
def yX0_goesOn : MethodName := ⟨RX0, "goesOn", "(II)Z"⟩
abbrev cX0_takeText : ByteArray := prog_2_method_8_code
def yX0_takeText : MethodName := ⟨RX0, "takeText", "([III)V"⟩
abbrev cX0_kindOf : ByteArray := prog_2_method_9_code
def yX0_kindOf : MethodName := ⟨RX0, "kindOf", "(I)I"⟩
def RX1 : String := "ChairGrudge$Memory"
def TX1 : u_T := fun k => match k with
  | 0 => ("ChairGrudge$Memory", "hall", "LChairGrudge$Hall;", true)
  | 1 => ("ChairGrudge$Memory", "slips", "LChairGrudge$Notes;", true)
  | 2 => ("ChairGrudge$Memory", "butters", "LChairGrudge$Notes;", true)
  | 3 => ("ChairGrudge$Memory", "held", "[I", true)
  | 4 => ("ChairGrudge$Memory", "minded", "[I", true)
  | _ => ("ChairGrudge$Memory", "borne", "[I", true)
def tyX1 : Nat → FieldType := fun k => match k with
  | 0 => .object "ChairGrudge$Hall"
  | 1 => .object "ChairGrudge$Notes"
  | 2 => .object "ChairGrudge$Notes"
  | 3 => .array .int
  | 4 => .array .int
  | _ => .array .int
abbrev wsX10 : List Cond := u_ws RX1 TX1 6
theorem nmX1 : ∀ a, a < 6 → ∀ b, b < 6 → a ≠ b → (TX1 a).2.1 ≠ (TX1 b).2.1 := by decide +kernel
theorem tyX1_ok : ∀ k, k < 6 → parseFieldDescriptor (TX1 k).2.2.1 = some (tyX1 k) := by decide +kernel
abbrev cX1_init : ByteArray := prog_3_method_1_code
def yX1_init : MethodName := ⟨RX1, "<init>", "(LChairGrudge$Hall;LChairGrudge$Notes;LChairGrudge$Notes;)V"⟩
abbrev cX1_judgeDinner : ByteArray := prog_3_method_2_code
def yX1_judgeDinner : MethodName := ⟨RX1, "judgeDinner", "(I)V"⟩
abbrev cX1_recall : ByteArray := prog_3_method_3_code
def yX1_recall : MethodName := ⟨RX1, "recall", "(I)V"⟩
abbrev cX1_isHeld : ByteArray := prog_3_method_4_code
def yX1_isHeld : MethodName := ⟨RX1, "isHeld", "(III)Z"⟩
abbrev cX1_isForgiven : ByteArray := prog_3_method_5_code
def yX1_isForgiven : MethodName := ⟨RX1, "isForgiven", "(III)Z"⟩
abbrev cX1_judge : ByteArray := prog_3_method_6_code
def yX1_judge : MethodName := ⟨RX1, "judge", "(II)V"⟩
abbrev cX1_guestsOf : ByteArray := prog_3_method_7_code
def yX1_guestsOf : MethodName := ⟨RX1, "guestsOf", "(I)I"⟩
abbrev cX1_isBorne : ByteArray := prog_3_method_8_code
def yX1_isBorne : MethodName := ⟨RX1, "isBorne", "(II)Z"⟩
abbrev cX1_allCanSit : ByteArray := prog_3_method_9_code
def yX1_allCanSit : MethodName := ⟨RX1, "allCanSit", "()Z"⟩
abbrev cX1_smallestShortSet : ByteArray := prog_3_method_10_code
def yX1_smallestShortSet : MethodName := ⟨RX1, "smallestShortSet", "()I"⟩
abbrev cX1_isShort : ByteArray := prog_3_method_11_code
def yX1_isShort : MethodName := ⟨RX1, "isShort", "(I)Z"⟩
abbrev cX1_firstTipped : ByteArray := prog_3_method_12_code
def yX1_firstTipped : MethodName := ⟨RX1, "firstTipped", "([III)I"⟩
def RX2 : String := "ChairGrudge$Notes"
def TX2 : u_T := fun k => match k with
  | 0 => ("ChairGrudge$Notes", "dinner", "[I", true)
  | 1 => ("ChairGrudge$Notes", "guest", "[I", true)
  | 2 => ("ChairGrudge$Notes", "chair", "[I", true)
  | _ => ("ChairGrudge$Notes", "size", "I", false)
def tyX2 : Nat → FieldType := fun k => match k with
  | 0 => .array .int
  | 1 => .array .int
  | 2 => .array .int
  | _ => .int
abbrev wsX20 : List Cond := u_ws RX2 TX2 4
theorem nmX2 : ∀ a, a < 4 → ∀ b, b < 4 → a ≠ b → (TX2 a).2.1 ≠ (TX2 b).2.1 := by decide +kernel
theorem tyX2_ok : ∀ k, k < 4 → parseFieldDescriptor (TX2 k).2.2.1 = some (tyX2 k) := by decide +kernel
abbrev cX2_init : ByteArray := prog_4_method_1_code
def yX2_init : MethodName := ⟨RX2, "<init>", "()V"⟩
abbrev cX2_has : ByteArray := prog_4_method_2_code
def yX2_has : MethodName := ⟨RX2, "has", "(I)Z"⟩
abbrev cX2_add : ByteArray := prog_4_method_3_code
def yX2_add : MethodName := ⟨RX2, "add", "(III)I"⟩
abbrev cX2_dropLast : ByteArray := prog_4_method_4_code
def yX2_dropLast : MethodName := ⟨RX2, "dropLast", "(I)I"⟩
def RX3 : String := "ChairGrudge$Seating"
def TX3 : u_T := fun k => match k with
  | 0 => ("ChairGrudge$Seating", "hall", "LChairGrudge$Hall;", true)
  | 1 => ("ChairGrudge$Seating", "borne", "[I", true)
  | 2 => ("ChairGrudge$Seating", "costs", "[I", true)
  | 3 => ("ChairGrudge$Seating", "chairOf", "[I", true)
  | 4 => ("ChairGrudge$Seating", "priceOfUnborne", "I", false)
  | _ => ("ChairGrudge$Seating", "priceOfStanding", "I", false)
def tyX3 : Nat → FieldType := fun k => match k with
  | 0 => .object "ChairGrudge$Hall"
  | 1 => .array .int
  | 2 => .array .int
  | 3 => .array .int
  | 4 => .int
  | _ => .int
abbrev wsX30 : List Cond := u_ws RX3 TX3 6
theorem nmX3 : ∀ a, a < 6 → ∀ b, b < 6 → a ≠ b → (TX3 a).2.1 ≠ (TX3 b).2.1 := by decide +kernel
theorem tyX3_ok : ∀ k, k < 6 → parseFieldDescriptor (TX3 k).2.2.1 = some (tyX3 k) := by decide +kernel
abbrev cX3_init : ByteArray := prog_5_method_1_code
def yX3_init : MethodName := ⟨RX3, "<init>", "(LChairGrudge$Hall;[I)V"⟩
abbrev cX3_seatMost : ByteArray := prog_5_method_2_code
def yX3_seatMost : MethodName := ⟨RX3, "seatMost", "()I"⟩
abbrev cX3_seatAllByButter : ByteArray := prog_5_method_3_code
def yX3_seatAllByButter : MethodName := ⟨RX3, "seatAllByButter", "()I"⟩
abbrev cX3_seatCheapest : ByteArray := prog_5_method_4_code
def yX3_seatCheapest : MethodName := ⟨RX3, "seatCheapest", "()I"⟩
abbrev cX3_bestChair : ByteArray := prog_5_method_5_code
def yX3_bestChair : MethodName := ⟨RX3, "bestChair", "(II)I"⟩
abbrev cX3_costOf : ByteArray := prog_5_method_6_code
def yX3_costOf : MethodName := ⟨RX3, "costOf", "(III)I"⟩
abbrev cX3_at : ByteArray := prog_5_method_7_code
def yX3_at : MethodName := ⟨RX3, "at", "(II)I"⟩
def RX4 : String := "ChairGrudge$Sheet"
def TX4 : u_T := fun k => match k with
  | 0 => ("ChairGrudge$Sheet", "cells", "[I", true)
  | 1 => ("ChairGrudge$Sheet", "lane", "I", false)
  | _ => ("ChairGrudge$Sheet", "length", "I", false)
def tyX4 : Nat → FieldType := fun k => match k with
  | 0 => .array .int
  | 1 => .int
  | _ => .int
abbrev wsX40 : List Cond := u_ws RX4 TX4 3
theorem nmX4 : ∀ a, a < 3 → ∀ b, b < 3 → a ≠ b → (TX4 a).2.1 ≠ (TX4 b).2.1 := by decide +kernel
theorem tyX4_ok : ∀ k, k < 3 → parseFieldDescriptor (TX4 k).2.2.1 = some (tyX4 k) := by decide +kernel
abbrev cX4_init : ByteArray := prog_6_method_1_code
def yX4_init : MethodName := ⟨RX4, "<init>", "()V"⟩
abbrev cX4_isEmpty : ByteArray := prog_6_method_2_code
def yX4_isEmpty : MethodName := ⟨RX4, "isEmpty", "()Z"⟩
abbrev cX4_begin : ByteArray := prog_6_method_3_code
def yX4_begin : MethodName := ⟨RX4, "begin", "(II)V"⟩
abbrev cX4_drop : ByteArray := prog_6_method_4_code
def yX4_drop : MethodName := ⟨RX4, "drop", "()Z"⟩
abbrev cX4_reaches : ByteArray := prog_6_method_5_code
def yX4_reaches : MethodName := ⟨RX4, "reaches", "(II)Z"⟩
abbrev cX4_faultOfLane : ByteArray := prog_6_method_6_code
def yX4_faultOfLane : MethodName := ⟨RX4, "faultOfLane", "(I)I"⟩
abbrev cX4_faultOfPlace : ByteArray := prog_6_method_7_code
def yX4_faultOfPlace : MethodName := ⟨RX4, "faultOfPlace", "(I)I"⟩
abbrev cX4_faultOfCells : ByteArray := prog_6_method_8_code
def yX4_faultOfCells : MethodName := ⟨RX4, "faultOfCells", "(III)I"⟩
abbrev cX4_write : ByteArray := prog_6_method_9_code
def yX4_write : MethodName := ⟨RX4, "write", "(II)V"⟩
abbrev cX4_cut : ByteArray := prog_6_method_10_code
def yX4_cut : MethodName := ⟨RX4, "cut", "(I)I"⟩
def RX5 : String := "ChairGrudge"
def TX5 : u_T := fun k => match k with
  | 0 => ("ChairGrudge", "current", "LChairGrudge$Hall;", true)
  | 1 => ("ChairGrudge", "slips", "LChairGrudge$Notes;", true)
  | 2 => ("ChairGrudge", "butters", "LChairGrudge$Notes;", true)
  | 3 => ("ChairGrudge", "readings", "LChairGrudge$Notes;", true)
  | 4 => ("ChairGrudge", "wasBorne", "[Z", true)
  | 5 => ("ChairGrudge", "memory", "LChairGrudge$Memory;", true)
  | 6 => ("ChairGrudge", "seating", "LChairGrudge$Seating;", true)
  | 7 => ("ChairGrudge", "sheets", "[LChairGrudge$Sheet;", true)
  | 8 => ("ChairGrudge", "traced", "I", false)
  | _ => ("ChairGrudge", "latestFault", "I", false)
def tyX5 : Nat → FieldType := fun k => match k with
  | 0 => .object "ChairGrudge$Hall"
  | 1 => .object "ChairGrudge$Notes"
  | 2 => .object "ChairGrudge$Notes"
  | 3 => .object "ChairGrudge$Notes"
  | 4 => .array .boolean
  | 5 => .object "ChairGrudge$Memory"
  | 6 => .object "ChairGrudge$Seating"
  | 7 => .array (.object "ChairGrudge$Sheet")
  | 8 => .int
  | _ => .int
abbrev wsX50 : List Cond := u_ws RX5 TX5 10
theorem nmX5 : ∀ a, a < 10 → ∀ b, b < 10 → a ≠ b → (TX5 a).2.1 ≠ (TX5 b).2.1 := by decide +kernel
theorem tyX5_ok : ∀ k, k < 10 → parseFieldDescriptor (TX5 k).2.2.1 = some (tyX5 k) := by decide +kernel
abbrev cX5_init : ByteArray := prog_1_method_1_code
def yX5_init : MethodName := ⟨RX5, "<init>", "()V"⟩
abbrev cX5_hall : ByteArray := prog_1_method_2_code
def yX5_hall : MethodName := ⟨RX5, "hall", "(IIII)I"⟩
abbrev cX5_ofChair : ByteArray := prog_1_method_3_code
def yX5_ofChair : MethodName := ⟨RX5, "ofChair", "(II)I"⟩
abbrev cX5_slip : ByteArray := prog_1_method_4_code
def yX5_slip : MethodName := ⟨RX5, "slip", "(III)I"⟩
abbrev cX5_ofSlip : ByteArray := prog_1_method_5_code
def yX5_ofSlip : MethodName := ⟨RX5, "ofSlip", "(II)I"⟩
abbrev cX5_unsay : ByteArray := prog_1_method_6_code
def yX5_unsay : MethodName := ⟨RX5, "unsay", "(I)I"⟩
abbrev cX5_butter : ByteArray := prog_1_method_7_code
def yX5_butter : MethodName := ⟨RX5, "butter", "(III)I"⟩
abbrev cX5_melt : ByteArray := prog_1_method_8_code
def yX5_melt : MethodName := ⟨RX5, "melt", "(I)I"⟩
abbrev cX5_noteDown : ByteArray := prog_1_method_9_code
def yX5_noteDown : MethodName := ⟨RX5, "noteDown", "(LChairGrudge$Notes;III)I"⟩
abbrev cX5_bears : ByteArray := prog_1_method_10_code
def yX5_bears : MethodName := ⟨RX5, "bears", "(III)I"⟩
abbrev cX5_whom : ByteArray := prog_1_method_11_code
def yX5_whom : MethodName := ⟨RX5, "whom", "(II)I"⟩
abbrev cX5_seats : ByteArray := prog_1_method_12_code
def yX5_seats : MethodName := ⟨RX5, "seats", "(II)I"⟩
abbrev cX5_few : ByteArray := prog_1_method_13_code
def yX5_few : MethodName := ⟨RX5, "few", "(I)I"⟩
abbrev cX5_tipped : ByteArray := prog_1_method_14_code
def yX5_tipped : MethodName := ⟨RX5, "tipped", "(IIIII)I"⟩
abbrev cX5_refusalOfSeating : ByteArray := prog_1_method_15_code
def yX5_refusalOfSeating : MethodName := ⟨RX5, "refusalOfSeating", "(II)I"⟩
abbrev cX5_refusalOfDinner : ByteArray := prog_1_method_16_code
def yX5_refusalOfDinner : MethodName := ⟨RX5, "refusalOfDinner", "(I)I"⟩
abbrev cX5_least : ByteArray := prog_1_method_17_code
def yX5_least : MethodName := ⟨RX5, "least", "(II)I"⟩
abbrev cX5_when : ByteArray := prog_1_method_18_code
def yX5_when : MethodName := ⟨RX5, "when", "(I)I"⟩
abbrev cX5_fresh : ByteArray := prog_1_method_19_code
def yX5_fresh : MethodName := ⟨RX5, "fresh", "(II)I"⟩
abbrev cX5_reading : ByteArray := prog_1_method_20_code
def yX5_reading : MethodName := ⟨RX5, "reading", "(IIIZ)I"⟩
abbrev cX5_back : ByteArray := prog_1_method_21_code
def yX5_back : MethodName := ⟨RX5, "back", "(I)I"⟩
abbrev cX5_times : ByteArray := prog_1_method_22_code
def yX5_times : MethodName := ⟨RX5, "times", "(I)I"⟩
abbrev cX5_grudges : ByteArray := prog_1_method_23_code
def yX5_grudges : MethodName := ⟨RX5, "grudges", "(I)I"⟩
abbrev cX5_ears : ByteArray := prog_1_method_24_code
def yX5_ears : MethodName := ⟨RX5, "ears", "(I)I"⟩
abbrev cX5_kinds : ByteArray := prog_1_method_25_code
def yX5_kinds : MethodName := ⟨RX5, "kinds", "(I)I"⟩
abbrev cX5_odds : ByteArray := prog_1_method_26_code
def yX5_odds : MethodName := ⟨RX5, "odds", "(II)J"⟩
abbrev cX5_fitting : ByteArray := prog_1_method_27_code
def yX5_fitting : MethodName := ⟨RX5, "fitting", "([III)I"⟩
abbrev cX5_allReadingsAreSo : ByteArray := prog_1_method_28_code
def yX5_allReadingsAreSo : MethodName := ⟨RX5, "allReadingsAreSo", "()Z"⟩
abbrev cX5_sheet : ByteArray := prog_1_method_29_code
def yX5_sheet : MethodName := ⟨RX5, "sheet", "(III)I"⟩
abbrev cX5_lose : ByteArray := prog_1_method_30_code
def yX5_lose : MethodName := ⟨RX5, "lose", "(I)I"⟩
abbrev cX5_put : ByteArray := prog_1_method_31_code
def yX5_put : MethodName := ⟨RX5, "put", "(III)I"⟩
abbrev cX5_cell : ByteArray := prog_1_method_32_code
def yX5_cell : MethodName := ⟨RX5, "cell", "(III)J"⟩
abbrev cX5_copy : ByteArray := prog_1_method_33_code
def yX5_copy : MethodName := ⟨RX5, "copy", "(IIIII)I"⟩
abbrev cX5_faultOfCopy : ByteArray := prog_1_method_34_code
def yX5_faultOfCopy : MethodName := ⟨RX5, "faultOfCopy", "(LChairGrudge$Sheet;ILChairGrudge$Sheet;II)I"⟩
abbrev cX5_tell : ByteArray := prog_1_method_35_code
def yX5_tell : MethodName := ⟨RX5, "tell", "(I)I"⟩
abbrev cX5_tellAsChair : ByteArray := prog_1_method_36_code
def yX5_tellAsChair : MethodName := ⟨RX5, "tellAsChair", "(I)I"⟩
abbrev cX5_tellAsBench : ByteArray := prog_1_method_37_code
def yX5_tellAsBench : MethodName := ⟨RX5, "tellAsBench", "(I)I"⟩
abbrev cX5_tellAsThrone : ByteArray := prog_1_method_38_code
def yX5_tellAsThrone : MethodName := ⟨RX5, "tellAsThrone", "(I)I"⟩
abbrev cX5_creak : ByteArray := prog_1_method_39_code
def yX5_creak : MethodName := ⟨RX5, "creak", "(I)I"⟩
abbrev cX5_leaveTrace : ByteArray := prog_1_method_40_code
def yX5_leaveTrace : MethodName := ⟨RX5, "leaveTrace", "(I)V"⟩
abbrev cX5_as : ByteArray := prog_1_method_41_code
def yX5_as : MethodName := ⟨RX5, "as", "(II)I"⟩
abbrev cX5_trace : ByteArray := prog_1_method_42_code
def yX5_trace : MethodName := ⟨RX5, "trace", "()I"⟩
abbrev cX5_fault : ByteArray := prog_1_method_43_code
def yX5_fault : MethodName := ⟨RX5, "fault", "()I"⟩
abbrev cX5_many : ByteArray := prog_1_method_44_code
def yX5_many : MethodName := ⟨RX5, "many", "(I)I"⟩
abbrev cX5_faultAnswer : ByteArray := prog_1_method_45_code
def yX5_faultAnswer : MethodName := ⟨RX5, "faultAnswer", "()I"⟩
abbrev cX5_isSheet : ByteArray := prog_1_method_46_code
def yX5_isSheet : MethodName := ⟨RX5, "isSheet", "(I)Z"⟩
abbrev cX5_isLane : ByteArray := prog_1_method_47_code
def yX5_isLane : MethodName := ⟨RX5, "isLane", "(I)Z"⟩
abbrev cX5_isDinner : ByteArray := prog_1_method_48_code
def yX5_isDinner : MethodName := ⟨RX5, "isDinner", "(I)Z"⟩
def RX6 : String := "ChairGrudgeModel"
def TX6 : u_T := fun k => match k with
  | 0 => ("ChairGrudgeModel", "fault", "I", false)
  | 1 => ("ChairGrudgeModel", "trace", "I", false)
  | 2 => ("ChairGrudgeModel", "sorts", "[I", true)
  | 3 => ("ChairGrudgeModel", "sheetLong", "[I", true)
  | 4 => ("ChairGrudgeModel", "cells", "[I", true)
  | 5 => ("ChairGrudgeModel", "guests", "I", false)
  | 6 => ("ChairGrudgeModel", "chairs", "I", false)
  | 7 => ("ChairGrudgeModel", "kind", "[I", true)
  | 8 => ("ChairGrudgeModel", "ear", "[I", true)
  | 9 => ("ChairGrudgeModel", "grudge", "[I", true)
  | 10 => ("ChairGrudgeModel", "slips", "I", false)
  | 11 => ("ChairGrudgeModel", "slipWhen", "[I", true)
  | 12 => ("ChairGrudgeModel", "slipOf", "[I", true)
  | 13 => ("ChairGrudgeModel", "slipOn", "[I", true)
  | 14 => ("ChairGrudgeModel", "butters", "I", false)
  | 15 => ("ChairGrudgeModel", "butterWhen", "[I", true)
  | 16 => ("ChairGrudgeModel", "butterOf", "[I", true)
  | 17 => ("ChairGrudgeModel", "butterTo", "[I", true)
  | 18 => ("ChairGrudgeModel", "unsaid", "I", false)
  | 19 => ("ChairGrudgeModel", "fresh", "I", false)
  | 20 => ("ChairGrudgeModel", "at", "I", false)
  | 21 => ("ChairGrudgeModel", "readGuests", "I", false)
  | 22 => ("ChairGrudgeModel", "readMany", "I", false)
  | 23 => ("ChairGrudgeModel", "read", "[I", true)
  | 24 => ("ChairGrudgeModel", "bornBy", "[I", true)
  | 25 => ("ChairGrudgeModel", "canSit", "[Z", true)
  | 26 => ("ChairGrudgeModel", "row", "[I", true)
  | 27 => ("ChairGrudgeModel", "found", "[I", true)
  | 28 => ("ChairGrudgeModel", "readings", "I", false)
  | 29 => ("ChairGrudgeModel", "readDinner", "[I", true)
  | 30 => ("ChairGrudgeModel", "readChairOf", "[I", true)
  | 31 => ("ChairGrudgeModel", "readGuestOf", "[I", true)
  | _ => ("ChairGrudgeModel", "readBore", "[Z", true)
def tyX6 : Nat → FieldType := fun k => match k with
  | 0 => .int
  | 1 => .int
  | 2 => .array .int
  | 3 => .array .int
  | 4 => .array .int
  | 5 => .int
  | 6 => .int
  | 7 => .array .int
  | 8 => .array .int
  | 9 => .array .int
  | 10 => .int
  | 11 => .array .int
  | 12 => .array .int
  | 13 => .array .int
  | 14 => .int
  | 15 => .array .int
  | 16 => .array .int
  | 17 => .array .int
  | 18 => .int
  | 19 => .int
  | 20 => .int
  | 21 => .int
  | 22 => .int
  | 23 => .array .int
  | 24 => .array .int
  | 25 => .array .boolean
  | 26 => .array .int
  | 27 => .array .int
  | 28 => .int
  | 29 => .array .int
  | 30 => .array .int
  | 31 => .array .int
  | _ => .array .boolean
abbrev wsX60 : List Cond := u_ws RX6 TX6 33
theorem nmX6 : ∀ a, a < 33 → ∀ b, b < 33 → a ≠ b → (TX6 a).2.1 ≠ (TX6 b).2.1 := by decide +kernel
theorem tyX6_ok : ∀ k, k < 33 → parseFieldDescriptor (TX6 k).2.2.1 = some (tyX6 k) := by decide +kernel
abbrev cX6_init : ByteArray := prog_8_method_1_code
def yX6_init : MethodName := ⟨RX6, "<init>", "()V"⟩
abbrev cX6_fails : ByteArray := prog_8_method_3_code
def yX6_fails : MethodName := ⟨RX6, "fails", "(I)I"⟩
abbrev cX6_lost : ByteArray := prog_8_method_4_code
def yX6_lost : MethodName := ⟨RX6, "lost", "(I)J"⟩
abbrev cX6_within : ByteArray := prog_8_method_5_code
def yX6_within : MethodName := ⟨RX6, "within", "(III)Z"⟩
abbrev cX6_isSheet : ByteArray := prog_8_method_6_code
def yX6_isSheet : MethodName := ⟨RX6, "isSheet", "(I)Z"⟩
abbrev cX6_isSort : ByteArray := prog_8_method_7_code
def yX6_isSort : MethodName := ⟨RX6, "isSort", "(I)Z"⟩
abbrev cX6_against : ByteArray := prog_8_method_8_code
def yX6_against : MethodName := ⟨RX6, "against", "(IIII)I"⟩
abbrev cX6_isGuest : ByteArray := prog_8_method_9_code
def yX6_isGuest : MethodName := ⟨RX6, "isGuest", "(I)Z"⟩
abbrev cX6_isChair : ByteArray := prog_8_method_10_code
def yX6_isChair : MethodName := ⟨RX6, "isChair", "(I)Z"⟩
abbrev cX6_isDinner : ByteArray := prog_8_method_11_code
def yX6_isDinner : MethodName := ⟨RX6, "isDinner", "(I)Z"⟩
abbrev cX6_digit : ByteArray := prog_8_method_12_code
def yX6_digit : MethodName := ⟨RX6, "digit", "(III)I"⟩
abbrev cX6_isSign : ByteArray := prog_8_method_13_code
def yX6_isSign : MethodName := ⟨RX6, "isSign", "(II)Z"⟩
abbrev cX6_hall : ByteArray := prog_8_method_14_code
def yX6_hall : MethodName := ⟨RX6, "hall", "(IIII)I"⟩
abbrev cX6_readHall : ByteArray := prog_8_method_15_code
def yX6_readHall : MethodName := ⟨RX6, "readHall", "(I)Z"⟩
abbrev cX6_readChair : ByteArray := prog_8_method_16_code
def yX6_readChair : MethodName := ⟨RX6, "readChair", "(I)Z"⟩
abbrev cX6_ofChair : ByteArray := prog_8_method_17_code
def yX6_ofChair : MethodName := ⟨RX6, "ofChair", "(II)I"⟩
abbrev cX6_slip : ByteArray := prog_8_method_18_code
def yX6_slip : MethodName := ⟨RX6, "slip", "(III)I"⟩
abbrev cX6_isSlip : ByteArray := prog_8_method_19_code
def yX6_isSlip : MethodName := ⟨RX6, "isSlip", "(I)Z"⟩
abbrev cX6_ofSlip : ByteArray := prog_8_method_20_code
def yX6_ofSlip : MethodName := ⟨RX6, "ofSlip", "(II)I"⟩
abbrev cX6_unsay : ByteArray := prog_8_method_21_code
def yX6_unsay : MethodName := ⟨RX6, "unsay", "(I)I"⟩
abbrev cX6_butter : ByteArray := prog_8_method_22_code
def yX6_butter : MethodName := ⟨RX6, "butter", "(III)I"⟩
abbrev cX6_melt : ByteArray := prog_8_method_23_code
def yX6_melt : MethodName := ⟨RX6, "melt", "(I)I"⟩
abbrev cX6_isForgiven : ByteArray := prog_8_method_24_code
def yX6_isForgiven : MethodName := ⟨RX6, "isForgiven", "(III)Z"⟩
abbrev cX6_minds : ByteArray := prog_8_method_25_code
def yX6_minds : MethodName := ⟨RX6, "minds", "(III)Z"⟩
abbrev cX6_doesBear : ByteArray := prog_8_method_26_code
def yX6_doesBear : MethodName := ⟨RX6, "doesBear", "(III)Z"⟩
abbrev cX6_bears : ByteArray := prog_8_method_27_code
def yX6_bears : MethodName := ⟨RX6, "bears", "(III)I"⟩
abbrev cX6_whom : ByteArray := prog_8_method_28_code
def yX6_whom : MethodName := ⟨RX6, "whom", "(II)I"⟩
abbrev cX6_layDinner : ByteArray := prog_8_method_29_code
def yX6_layDinner : MethodName := ⟨RX6, "layDinner", "(I)V"⟩
abbrev cX6_size : ByteArray := prog_8_method_30_code
def yX6_size : MethodName := ⟨RX6, "size", "(I)I"⟩
abbrev cX6_mostSit : ByteArray := prog_8_method_31_code
def yX6_mostSit : MethodName := ⟨RX6, "mostSit", "()I"⟩
abbrev cX6_layRow : ByteArray := prog_8_method_32_code
def yX6_layRow : MethodName := ⟨RX6, "layRow", "(II)Z"⟩
abbrev cX6_rowsOf : ByteArray := prog_8_method_33_code
def yX6_rowsOf : MethodName := ⟨RX6, "rowsOf", "(I)I"⟩
abbrev cX6_sitBy : ByteArray := prog_8_method_34_code
def yX6_sitBy : MethodName := ⟨RX6, "sitBy", "()I"⟩
abbrev cX6_keepRow : ByteArray := prog_8_method_35_code
def yX6_keepRow : MethodName := ⟨RX6, "keepRow", "()V"⟩
abbrev cX6_isOneOr : ByteArray := prog_8_method_36_code
def yX6_isOneOr : MethodName := ⟨RX6, "isOneOr", "(I)Z"⟩
abbrev cX6_seats : ByteArray := prog_8_method_37_code
def yX6_seats : MethodName := ⟨RX6, "seats", "(II)I"⟩
abbrev cX6_few : ByteArray := prog_8_method_38_code
def yX6_few : MethodName := ⟨RX6, "few", "(I)I"⟩
abbrev cX6_tipped : ByteArray := prog_8_method_39_code
def yX6_tipped : MethodName := ⟨RX6, "tipped", "(IIIII)I"⟩
abbrev cX6_tippedBy : ByteArray := prog_8_method_40_code
def yX6_tippedBy : MethodName := ⟨RX6, "tippedBy", "(III)I"⟩
abbrev cX6_least : ByteArray := prog_8_method_41_code
def yX6_least : MethodName := ⟨RX6, "least", "(II)I"⟩
abbrev cX6_mostIn : ByteArray := prog_8_method_42_code
def yX6_mostIn : MethodName := ⟨RX6, "mostIn", "(I)I"⟩
abbrev cX6_when : ByteArray := prog_8_method_43_code
def yX6_when : MethodName := ⟨RX6, "when", "(I)I"⟩
abbrev cX6_fresh : ByteArray := prog_8_method_44_code
def yX6_fresh : MethodName := ⟨RX6, "fresh", "(II)I"⟩
abbrev cX6_reading : ByteArray := prog_8_method_45_code
def yX6_reading : MethodName := ⟨RX6, "reading", "(IIIZ)I"⟩
abbrev cX6_back : ByteArray := prog_8_method_46_code
def yX6_back : MethodName := ⟨RX6, "back", "(I)I"⟩
abbrev cX6_areSo : ByteArray := prog_8_method_47_code
def yX6_areSo : MethodName := ⟨RX6, "areSo", "()Z"⟩
abbrev cX6_times : ByteArray := prog_8_method_48_code
def yX6_times : MethodName := ⟨RX6, "times", "(I)I"⟩
abbrev cX6_grudges : ByteArray := prog_8_method_49_code
def yX6_grudges : MethodName := ⟨RX6, "grudges", "(I)I"⟩
abbrev cX6_ears : ByteArray := prog_8_method_50_code
def yX6_ears : MethodName := ⟨RX6, "ears", "(I)I"⟩
abbrev cX6_kinds : ByteArray := prog_8_method_51_code
def yX6_kinds : MethodName := ⟨RX6, "kinds", "(I)I"⟩
abbrev cX6_inLeastTerms : ByteArray := prog_8_method_52_code
def yX6_inLeastTerms : MethodName := ⟨RX6, "inLeastTerms", "(JJI)J"⟩
abbrev cX6_odds : ByteArray := prog_8_method_53_code
def yX6_odds : MethodName := ⟨RX6, "odds", "(II)J"⟩
abbrev cX6_sheet : ByteArray := prog_8_method_54_code
def yX6_sheet : MethodName := ⟨RX6, "sheet", "(III)I"⟩
abbrev cX6_lose : ByteArray := prog_8_method_55_code
def yX6_lose : MethodName := ⟨RX6, "lose", "(I)I"⟩
abbrev cX6_put : ByteArray := prog_8_method_56_code
def yX6_put : MethodName := ⟨RX6, "put", "(III)I"⟩
abbrev cX6_cell : ByteArray := prog_8_method_57_code
def yX6_cell : MethodName := ⟨RX6, "cell", "(III)J"⟩
abbrev cX6_copy : ByteArray := prog_8_method_58_code
def yX6_copy : MethodName := ⟨RX6, "copy", "(IIIII)I"⟩
abbrev cX6_begins : ByteArray := prog_8_method_59_code
def yX6_begins : MethodName := ⟨RX6, "begins", "(I)V"⟩
abbrev cX6_tell : ByteArray := prog_8_method_60_code
def yX6_tell : MethodName := ⟨RX6, "tell", "(I)I"⟩
abbrev cX6_creak : ByteArray := prog_8_method_61_code
def yX6_creak : MethodName := ⟨RX6, "creak", "(I)I"⟩
abbrev cX6_as : ByteArray := prog_8_method_62_code
def yX6_as : MethodName := ⟨RX6, "as", "(II)I"⟩
abbrev cX6_trace : ByteArray := prog_8_method_63_code
def yX6_trace : MethodName := ⟨RX6, "trace", "()I"⟩
abbrev cX6_fault : ByteArray := prog_8_method_64_code
def yX6_fault : MethodName := ⟨RX6, "fault", "()I"⟩
abbrev cX6_many : ByteArray := prog_8_method_65_code
def yX6_many : MethodName := ⟨RX6, "many", "(I)I"⟩
def RJ6 : String := "java/lang/Integer"
def TJ6 : u_T := fun k => match k with
  | _ => ("", "", "", false)
def tyJ6 : Nat → FieldType := fun k => match k with
  | _ => .int
abbrev wsJ60 : List Cond := u_ws RJ6 TJ6 0
theorem nmJ6 : ∀ a, a < 0 → ∀ b, b < 0 → a ≠ b → (TJ6 a).2.1 ≠ (TJ6 b).2.1 := by decide +kernel
theorem tyJ6_ok : ∀ k, k < 0 → parseFieldDescriptor (TJ6 k).2.2.1 = some (tyJ6 k) := by decide +kernel
abbrev cJ6_bitCount_0f7a4 : ByteArray := prog_9_method_49_code
def yJ6_bitCount_0f7a4 : MethodName := ⟨RJ6, "bitCount", "(I)I"⟩
def RJ9 : String := "java/lang/Math"
def TJ9 : u_T := fun k => match k with
  | _ => ("", "", "", false)
def tyJ9 : Nat → FieldType := fun k => match k with
  | _ => .int
abbrev wsJ90 : List Cond := u_ws RJ9 TJ9 0
theorem nmJ9 : ∀ a, a < 0 → ∀ b, b < 0 → a ≠ b → (TJ9 a).2.1 ≠ (TJ9 b).2.1 := by decide +kernel
theorem tyJ9_ok : ∀ k, k < 0 → parseFieldDescriptor (TJ9 k).2.2.1 = some (tyJ9 k) := by decide +kernel
abbrev cJ9_abs_0f7a4 : ByteArray := prog_10_method_59_code
def yJ9_abs_0f7a4 : MethodName := ⟨RJ9, "abs", "(I)I"⟩
abbrev cJ9_min_7cf53 : ByteArray := prog_10_method_69_code
def yJ9_min_7cf53 : MethodName := ⟨RJ9, "min", "(II)I"⟩
def RJ10 : String := "java/lang/System"
def TJ10 : u_T := fun k => match k with
  | _ => ("", "", "", false)
def tyJ10 : Nat → FieldType := fun k => match k with
  | _ => .int
abbrev wsJ100 : List Cond := u_ws RJ10 TJ10 0
theorem nmJ10 : ∀ a, a < 0 → ∀ b, b < 0 → a ≠ b → (TJ10 a).2.1 ≠ (TJ10 b).2.1 := by decide +kernel
theorem tyJ10_ok : ∀ k, k < 0 → parseFieldDescriptor (TJ10 k).2.2.1 = some (tyJ10 k) := by decide +kernel
def RL : String := "ChairGrudgeLaw"
abbrev cL_law : ByteArray := code
def yL_law : MethodName := ⟨RL, "law", "([I)Z"⟩
abbrev vwCl : List vw_C := [(RX0, TX0, 5), (RX1, TX1, 6), (RX2, TX2, 4), (RX3, TX3, 6), (RX4, TX4, 3), (RX5, TX5, 10), (RX6, TX6, 33)]
