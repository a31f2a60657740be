section
-- ===== PART A: goes FIRST, ahead of the names: the tables' words, and 'selects' of the private methods out of them =====
/-- a private method of a class that the tables say can be made, by its rows of tables_1 -/
def lw_okq (q : MethodName × Nat) : Prop := (q.1.cls ≠ "java/lang/invoke/MethodHandle" ∧ q.1.cls ≠ "java/lang/invoke/VarHandle") ∧ Cond.instantiable q.1.cls q.2 ∈ tables_1 ∧ Cond.privateMethod q.1 ∈ tables_1 ∧ Cond.instanceMethod q.1 ∈ tables_1
theorem lw_p0 : lw_okq (⟨"ChairGrudge", "faultAnswer", "()I"⟩, 10) := ⟨⟨by decide +kernel, by decide +kernel⟩, List.mem_of_getElem? (i := 12) (by decide +kernel), List.mem_of_getElem? (i := 211) (by decide +kernel), List.mem_of_getElem? (i := 212) (by decide +kernel)⟩
theorem lw_p1 : lw_okq (⟨"ChairGrudge", "noteDown", "(LChairGrudge$Notes;III)I"⟩, 10) := ⟨⟨by decide +kernel, by decide +kernel⟩, List.mem_of_getElem? (i := 12) (by decide +kernel), List.mem_of_getElem? (i := 243) (by decide +kernel), List.mem_of_getElem? (i := 244) (by decide +kernel)⟩
theorem lw_p2 : lw_okq (⟨"ChairGrudge$Memory", "isHeld", "(III)Z"⟩, 6) := ⟨⟨by decide +kernel, by decide +kernel⟩, List.mem_of_getElem? (i := 82) (by decide +kernel), List.mem_of_getElem? (i := 294) (by decide +kernel), List.mem_of_getElem? (i := 295) (by decide +kernel)⟩
theorem lw_p3 : lw_okq (⟨"ChairGrudge$Memory", "isForgiven", "(III)Z"⟩, 6) := ⟨⟨by decide +kernel, by decide +kernel⟩, List.mem_of_getElem? (i := 82) (by decide +kernel), List.mem_of_getElem? (i := 301) (by decide +kernel), List.mem_of_getElem? (i := 302) (by decide +kernel)⟩
theorem lw_p4 : lw_okq (⟨"ChairGrudge$Memory", "guestsOf", "(I)I"⟩, 6) := ⟨⟨by decide +kernel, by decide +kernel⟩, List.mem_of_getElem? (i := 82) (by decide +kernel), List.mem_of_getElem? (i := 309) (by decide +kernel), List.mem_of_getElem? (i := 310) (by decide +kernel)⟩
theorem lw_p5 : lw_okq (⟨"ChairGrudge", "refusalOfSeating", "(II)I"⟩, 10) := ⟨⟨by decide +kernel, by decide +kernel⟩, List.mem_of_getElem? (i := 12) (by decide +kernel), List.mem_of_getElem? (i := 325) (by decide +kernel), List.mem_of_getElem? (i := 326) (by decide +kernel)⟩
theorem lw_p6 : lw_okq (⟨"ChairGrudge", "refusalOfDinner", "(I)I"⟩, 10) := ⟨⟨by decide +kernel, by decide +kernel⟩, List.mem_of_getElem? (i := 12) (by decide +kernel), List.mem_of_getElem? (i := 329) (by decide +kernel), List.mem_of_getElem? (i := 330) (by decide +kernel)⟩
theorem lw_p7 : lw_okq (⟨"ChairGrudge$Seating", "seatCheapest", "()I"⟩, 6) := ⟨⟨by decide +kernel, by decide +kernel⟩, List.mem_of_getElem? (i := 109) (by decide +kernel), List.mem_of_getElem? (i := 341) (by decide +kernel), List.mem_of_getElem? (i := 342) (by decide +kernel)⟩
theorem lw_p8 : lw_okq (⟨"ChairGrudge$Seating", "bestChair", "(II)I"⟩, 6) := ⟨⟨by decide +kernel, by decide +kernel⟩, List.mem_of_getElem? (i := 109) (by decide +kernel), List.mem_of_getElem? (i := 348) (by decide +kernel), List.mem_of_getElem? (i := 349) (by decide +kernel)⟩
theorem lw_p9 : lw_okq (⟨"ChairGrudge$Seating", "costOf", "(III)I"⟩, 6) := ⟨⟨by decide +kernel, by decide +kernel⟩, List.mem_of_getElem? (i := 109) (by decide +kernel), List.mem_of_getElem? (i := 352) (by decide +kernel), List.mem_of_getElem? (i := 353) (by decide +kernel)⟩
theorem lw_p10 : lw_okq (⟨"ChairGrudge$Memory", "isShort", "(I)Z"⟩, 6) := ⟨⟨by decide +kernel, by decide +kernel⟩, List.mem_of_getElem? (i := 82) (by decide +kernel), List.mem_of_getElem? (i := 370) (by decide +kernel), List.mem_of_getElem? (i := 371) (by decide +kernel)⟩
theorem lw_p11 : lw_okq (⟨"ChairGrudge", "fitting", "([III)I"⟩, 10) := ⟨⟨by decide +kernel, by decide +kernel⟩, List.mem_of_getElem? (i := 12) (by decide +kernel), List.mem_of_getElem? (i := 421) (by decide +kernel), List.mem_of_getElem? (i := 422) (by decide +kernel)⟩
theorem lw_p12 : lw_okq (⟨"ChairGrudge", "allReadingsAreSo", "()Z"⟩, 10) := ⟨⟨by decide +kernel, by decide +kernel⟩, List.mem_of_getElem? (i := 12) (by decide +kernel), List.mem_of_getElem? (i := 425) (by decide +kernel), List.mem_of_getElem? (i := 426) (by decide +kernel)⟩
theorem lw_p13 : lw_okq (⟨"ChairGrudge$Sheet", "cut", "(I)I"⟩, 3) := ⟨⟨by decide +kernel, by decide +kernel⟩, List.mem_of_getElem? (i := 136) (by decide +kernel), List.mem_of_getElem? (i := 475) (by decide +kernel), List.mem_of_getElem? (i := 476) (by decide +kernel)⟩
theorem lw_p14 : lw_okq (⟨"ChairGrudge", "tellAsBench", "(I)I"⟩, 10) := ⟨⟨by decide +kernel, by decide +kernel⟩, List.mem_of_getElem? (i := 12) (by decide +kernel), List.mem_of_getElem? (i := 500) (by decide +kernel), List.mem_of_getElem? (i := 501) (by decide +kernel)⟩
theorem lw_p15 : lw_okq (⟨"ChairGrudge", "leaveTrace", "(I)V"⟩, 10) := ⟨⟨by decide +kernel, by decide +kernel⟩, List.mem_of_getElem? (i := 12) (by decide +kernel), List.mem_of_getElem? (i := 504) (by decide +kernel), List.mem_of_getElem? (i := 505) (by decide +kernel)⟩
def lw_privs_1 : List (MethodName × Nat) := [(⟨"ChairGrudge", "faultAnswer", "()I"⟩, 10), (⟨"ChairGrudge", "noteDown", "(LChairGrudge$Notes;III)I"⟩, 10), (⟨"ChairGrudge$Memory", "isHeld", "(III)Z"⟩, 6), (⟨"ChairGrudge$Memory", "isForgiven", "(III)Z"⟩, 6), (⟨"ChairGrudge$Memory", "guestsOf", "(I)I"⟩, 6), (⟨"ChairGrudge", "refusalOfSeating", "(II)I"⟩, 10), (⟨"ChairGrudge", "refusalOfDinner", "(I)I"⟩, 10), (⟨"ChairGrudge$Seating", "seatCheapest", "()I"⟩, 6), (⟨"ChairGrudge$Seating", "bestChair", "(II)I"⟩, 6), (⟨"ChairGrudge$Seating", "costOf", "(III)I"⟩, 6), (⟨"ChairGrudge$Memory", "isShort", "(I)Z"⟩, 6), (⟨"ChairGrudge", "fitting", "([III)I"⟩, 10), (⟨"ChairGrudge", "allReadingsAreSo", "()Z"⟩, 10), (⟨"ChairGrudge$Sheet", "cut", "(I)I"⟩, 3), (⟨"ChairGrudge", "tellAsBench", "(I)I"⟩, 10), (⟨"ChairGrudge", "leaveTrace", "(I)V"⟩, 10)]
theorem lw_r1 : ∀ q ∈ lw_privs_1, lw_okq q := List.forall_mem_cons.mpr ⟨lw_p0, List.forall_mem_cons.mpr ⟨lw_p1, List.forall_mem_cons.mpr ⟨lw_p2, List.forall_mem_cons.mpr ⟨lw_p3, List.forall_mem_cons.mpr ⟨lw_p4, List.forall_mem_cons.mpr ⟨lw_p5, List.forall_mem_cons.mpr ⟨lw_p6, List.forall_mem_cons.mpr ⟨lw_p7, List.forall_mem_cons.mpr ⟨lw_p8, List.forall_mem_cons.mpr ⟨lw_p9, List.forall_mem_cons.mpr ⟨lw_p10, List.forall_mem_cons.mpr ⟨lw_p11, List.forall_mem_cons.mpr ⟨lw_p12, List.forall_mem_cons.mpr ⟨lw_p13, List.forall_mem_cons.mpr ⟨lw_p14, List.forall_mem_cons.mpr ⟨lw_p15, fun _ h => absurd h List.not_mem_nil⟩⟩⟩⟩⟩⟩⟩⟩⟩⟩⟩⟩⟩⟩⟩⟩
theorem lw_p16 : lw_okq (⟨"ChairGrudge", "tellAsChair", "(I)I"⟩, 10) := ⟨⟨by decide +kernel, by decide +kernel⟩, List.mem_of_getElem? (i := 12) (by decide +kernel), List.mem_of_getElem? (i := 508) (by decide +kernel), List.mem_of_getElem? (i := 509) (by decide +kernel)⟩
theorem lw_p17 : lw_okq (⟨"ChairGrudge", "tellAsThrone", "(I)I"⟩, 10) := ⟨⟨by decide +kernel, by decide +kernel⟩, List.mem_of_getElem? (i := 12) (by decide +kernel), List.mem_of_getElem? (i := 512) (by decide +kernel), List.mem_of_getElem? (i := 513) (by decide +kernel)⟩
theorem lw_p18 : lw_okq (⟨"ChairGrudgeModel", "against", "(IIII)I"⟩, 33) := ⟨⟨by decide +kernel, by decide +kernel⟩, List.mem_of_getElem? (i := 536) (by decide +kernel), List.mem_of_getElem? (i := 655) (by decide +kernel), List.mem_of_getElem? (i := 656) (by decide +kernel)⟩
theorem lw_p19 : lw_okq (⟨"ChairGrudgeModel", "fails", "(I)I"⟩, 33) := ⟨⟨by decide +kernel, by decide +kernel⟩, List.mem_of_getElem? (i := 536) (by decide +kernel), List.mem_of_getElem? (i := 659) (by decide +kernel), List.mem_of_getElem? (i := 660) (by decide +kernel)⟩
theorem lw_p20 : lw_okq (⟨"ChairGrudgeModel", "readHall", "(I)Z"⟩, 33) := ⟨⟨by decide +kernel, by decide +kernel⟩, List.mem_of_getElem? (i := 536) (by decide +kernel), List.mem_of_getElem? (i := 663) (by decide +kernel), List.mem_of_getElem? (i := 664) (by decide +kernel)⟩
theorem lw_p21 : lw_okq (⟨"ChairGrudgeModel", "isSign", "(II)Z"⟩, 33) := ⟨⟨by decide +kernel, by decide +kernel⟩, List.mem_of_getElem? (i := 536) (by decide +kernel), List.mem_of_getElem? (i := 667) (by decide +kernel), List.mem_of_getElem? (i := 668) (by decide +kernel)⟩
theorem lw_p22 : lw_okq (⟨"ChairGrudgeModel", "digit", "(III)I"⟩, 33) := ⟨⟨by decide +kernel, by decide +kernel⟩, List.mem_of_getElem? (i := 536) (by decide +kernel), List.mem_of_getElem? (i := 671) (by decide +kernel), List.mem_of_getElem? (i := 672) (by decide +kernel)⟩
theorem lw_p23 : lw_okq (⟨"ChairGrudgeModel", "readChair", "(I)Z"⟩, 33) := ⟨⟨by decide +kernel, by decide +kernel⟩, List.mem_of_getElem? (i := 536) (by decide +kernel), List.mem_of_getElem? (i := 675) (by decide +kernel), List.mem_of_getElem? (i := 676) (by decide +kernel)⟩
theorem lw_p24 : lw_okq (⟨"ChairGrudgeModel", "isChair", "(I)Z"⟩, 33) := ⟨⟨by decide +kernel, by decide +kernel⟩, List.mem_of_getElem? (i := 536) (by decide +kernel), List.mem_of_getElem? (i := 683) (by decide +kernel), List.mem_of_getElem? (i := 684) (by decide +kernel)⟩
theorem lw_p25 : lw_okq (⟨"ChairGrudgeModel", "isGuest", "(I)Z"⟩, 33) := ⟨⟨by decide +kernel, by decide +kernel⟩, List.mem_of_getElem? (i := 536) (by decide +kernel), List.mem_of_getElem? (i := 691) (by decide +kernel), List.mem_of_getElem? (i := 692) (by decide +kernel)⟩
theorem lw_p26 : lw_okq (⟨"ChairGrudgeModel", "isSlip", "(I)Z"⟩, 33) := ⟨⟨by decide +kernel, by decide +kernel⟩, List.mem_of_getElem? (i := 536) (by decide +kernel), List.mem_of_getElem? (i := 702) (by decide +kernel), List.mem_of_getElem? (i := 703) (by decide +kernel)⟩
theorem lw_p27 : lw_okq (⟨"ChairGrudgeModel", "doesBear", "(III)Z"⟩, 33) := ⟨⟨by decide +kernel, by decide +kernel⟩, List.mem_of_getElem? (i := 536) (by decide +kernel), List.mem_of_getElem? (i := 722) (by decide +kernel), List.mem_of_getElem? (i := 723) (by decide +kernel)⟩
theorem lw_p28 : lw_okq (⟨"ChairGrudgeModel", "minds", "(III)Z"⟩, 33) := ⟨⟨by decide +kernel, by decide +kernel⟩, List.mem_of_getElem? (i := 536) (by decide +kernel), List.mem_of_getElem? (i := 726) (by decide +kernel), List.mem_of_getElem? (i := 727) (by decide +kernel)⟩
theorem lw_p29 : lw_okq (⟨"ChairGrudgeModel", "isForgiven", "(III)Z"⟩, 33) := ⟨⟨by decide +kernel, by decide +kernel⟩, List.mem_of_getElem? (i := 536) (by decide +kernel), List.mem_of_getElem? (i := 730) (by decide +kernel), List.mem_of_getElem? (i := 731) (by decide +kernel)⟩
theorem lw_p30 : lw_okq (⟨"ChairGrudgeModel", "isOneOr", "(I)Z"⟩, 33) := ⟨⟨by decide +kernel, by decide +kernel⟩, List.mem_of_getElem? (i := 536) (by decide +kernel), List.mem_of_getElem? (i := 742) (by decide +kernel), List.mem_of_getElem? (i := 743) (by decide +kernel)⟩
theorem lw_p31 : lw_okq (⟨"ChairGrudgeModel", "layDinner", "(I)V"⟩, 33) := ⟨⟨by decide +kernel, by decide +kernel⟩, List.mem_of_getElem? (i := 536) (by decide +kernel), List.mem_of_getElem? (i := 746) (by decide +kernel), List.mem_of_getElem? (i := 747) (by decide +kernel)⟩
def lw_privs_2 : List (MethodName × Nat) := [(⟨"ChairGrudge", "tellAsChair", "(I)I"⟩, 10), (⟨"ChairGrudge", "tellAsThrone", "(I)I"⟩, 10), (⟨"ChairGrudgeModel", "against", "(IIII)I"⟩, 33), (⟨"ChairGrudgeModel", "fails", "(I)I"⟩, 33), (⟨"ChairGrudgeModel", "readHall", "(I)Z"⟩, 33), (⟨"ChairGrudgeModel", "isSign", "(II)Z"⟩, 33), (⟨"ChairGrudgeModel", "digit", "(III)I"⟩, 33), (⟨"ChairGrudgeModel", "readChair", "(I)Z"⟩, 33), (⟨"ChairGrudgeModel", "isChair", "(I)Z"⟩, 33), (⟨"ChairGrudgeModel", "isGuest", "(I)Z"⟩, 33), (⟨"ChairGrudgeModel", "isSlip", "(I)Z"⟩, 33), (⟨"ChairGrudgeModel", "doesBear", "(III)Z"⟩, 33), (⟨"ChairGrudgeModel", "minds", "(III)Z"⟩, 33), (⟨"ChairGrudgeModel", "isForgiven", "(III)Z"⟩, 33), (⟨"ChairGrudgeModel", "isOneOr", "(I)Z"⟩, 33), (⟨"ChairGrudgeModel", "layDinner", "(I)V"⟩, 33)]
theorem lw_r2 : ∀ q ∈ lw_privs_2, lw_okq q := List.forall_mem_cons.mpr ⟨lw_p16, List.forall_mem_cons.mpr ⟨lw_p17, List.forall_mem_cons.mpr ⟨lw_p18, List.forall_mem_cons.mpr ⟨lw_p19, List.forall_mem_cons.mpr ⟨lw_p20, List.forall_mem_cons.mpr ⟨lw_p21, List.forall_mem_cons.mpr ⟨lw_p22, List.forall_mem_cons.mpr ⟨lw_p23, List.forall_mem_cons.mpr ⟨lw_p24, List.forall_mem_cons.mpr ⟨lw_p25, List.forall_mem_cons.mpr ⟨lw_p26, List.forall_mem_cons.mpr ⟨lw_p27, List.forall_mem_cons.mpr ⟨lw_p28, List.forall_mem_cons.mpr ⟨lw_p29, List.forall_mem_cons.mpr ⟨lw_p30, List.forall_mem_cons.mpr ⟨lw_p31, fun _ h => absurd h List.not_mem_nil⟩⟩⟩⟩⟩⟩⟩⟩⟩⟩⟩⟩⟩⟩⟩⟩
theorem lw_p32 : lw_okq (⟨"ChairGrudgeModel", "rowsOf", "(I)I"⟩, 33) := ⟨⟨by decide +kernel, by decide +kernel⟩, List.mem_of_getElem? (i := 536) (by decide +kernel), List.mem_of_getElem? (i := 750) (by decide +kernel), List.mem_of_getElem? (i := 751) (by decide +kernel)⟩
theorem lw_p33 : lw_okq (⟨"ChairGrudgeModel", "layRow", "(II)Z"⟩, 33) := ⟨⟨by decide +kernel, by decide +kernel⟩, List.mem_of_getElem? (i := 536) (by decide +kernel), List.mem_of_getElem? (i := 754) (by decide +kernel), List.mem_of_getElem? (i := 755) (by decide +kernel)⟩
theorem lw_p34 : lw_okq (⟨"ChairGrudgeModel", "sitBy", "()I"⟩, 33) := ⟨⟨by decide +kernel, by decide +kernel⟩, List.mem_of_getElem? (i := 536) (by decide +kernel), List.mem_of_getElem? (i := 758) (by decide +kernel), List.mem_of_getElem? (i := 759) (by decide +kernel)⟩
theorem lw_p35 : lw_okq (⟨"ChairGrudgeModel", "keepRow", "()V"⟩, 33) := ⟨⟨by decide +kernel, by decide +kernel⟩, List.mem_of_getElem? (i := 536) (by decide +kernel), List.mem_of_getElem? (i := 762) (by decide +kernel), List.mem_of_getElem? (i := 763) (by decide +kernel)⟩
theorem lw_p36 : lw_okq (⟨"ChairGrudgeModel", "tippedBy", "(III)I"⟩, 33) := ⟨⟨by decide +kernel, by decide +kernel⟩, List.mem_of_getElem? (i := 536) (by decide +kernel), List.mem_of_getElem? (i := 777) (by decide +kernel), List.mem_of_getElem? (i := 778) (by decide +kernel)⟩
theorem lw_p37 : lw_okq (⟨"ChairGrudgeModel", "mostIn", "(I)I"⟩, 33) := ⟨⟨by decide +kernel, by decide +kernel⟩, List.mem_of_getElem? (i := 536) (by decide +kernel), List.mem_of_getElem? (i := 789) (by decide +kernel), List.mem_of_getElem? (i := 790) (by decide +kernel)⟩
theorem lw_p38 : lw_okq (⟨"ChairGrudgeModel", "mostSit", "()I"⟩, 33) := ⟨⟨by decide +kernel, by decide +kernel⟩, List.mem_of_getElem? (i := 536) (by decide +kernel), List.mem_of_getElem? (i := 793) (by decide +kernel), List.mem_of_getElem? (i := 794) (by decide +kernel)⟩
theorem lw_p39 : lw_okq (⟨"ChairGrudgeModel", "areSo", "()Z"⟩, 33) := ⟨⟨by decide +kernel, by decide +kernel⟩, List.mem_of_getElem? (i := 536) (by decide +kernel), List.mem_of_getElem? (i := 813) (by decide +kernel), List.mem_of_getElem? (i := 814) (by decide +kernel)⟩
theorem lw_p40 : lw_okq (⟨"ChairGrudgeModel", "lost", "(I)J"⟩, 33) := ⟨⟨by decide +kernel, by decide +kernel⟩, List.mem_of_getElem? (i := 536) (by decide +kernel), List.mem_of_getElem? (i := 853) (by decide +kernel), List.mem_of_getElem? (i := 854) (by decide +kernel)⟩
theorem lw_p41 : lw_okq (⟨"ChairGrudgeModel", "begins", "(I)V"⟩, 33) := ⟨⟨by decide +kernel, by decide +kernel⟩, List.mem_of_getElem? (i := 536) (by decide +kernel), List.mem_of_getElem? (i := 865) (by decide +kernel), List.mem_of_getElem? (i := 866) (by decide +kernel)⟩
def lw_privs_3 : List (MethodName × Nat) := [(⟨"ChairGrudgeModel", "rowsOf", "(I)I"⟩, 33), (⟨"ChairGrudgeModel", "layRow", "(II)Z"⟩, 33), (⟨"ChairGrudgeModel", "sitBy", "()I"⟩, 33), (⟨"ChairGrudgeModel", "keepRow", "()V"⟩, 33), (⟨"ChairGrudgeModel", "tippedBy", "(III)I"⟩, 33), (⟨"ChairGrudgeModel", "mostIn", "(I)I"⟩, 33), (⟨"ChairGrudgeModel", "mostSit", "()I"⟩, 33), (⟨"ChairGrudgeModel", "areSo", "()Z"⟩, 33), (⟨"ChairGrudgeModel", "lost", "(I)J"⟩, 33), (⟨"ChairGrudgeModel", "begins", "(I)V"⟩, 33)]
theorem lw_r3 : ∀ q ∈ lw_privs_3, lw_okq q := List.forall_mem_cons.mpr ⟨lw_p32, List.forall_mem_cons.mpr ⟨lw_p33, List.forall_mem_cons.mpr ⟨lw_p34, List.forall_mem_cons.mpr ⟨lw_p35, List.forall_mem_cons.mpr ⟨lw_p36, List.forall_mem_cons.mpr ⟨lw_p37, List.forall_mem_cons.mpr ⟨lw_p38, List.forall_mem_cons.mpr ⟨lw_p39, List.forall_mem_cons.mpr ⟨lw_p40, List.forall_mem_cons.mpr ⟨lw_p41, fun _ h => absurd h List.not_mem_nil⟩⟩⟩⟩⟩⟩⟩⟩⟩⟩
def lw_privs : List (MethodName × Nat) := lw_privs_1 ++ (lw_privs_2 ++ (lw_privs_3))
def lw_tbl : List Cond := k2_sels lw_privs ++ tables_1
theorem lw_privs_ok : ∀ q ∈ lw_privs, lw_okq q := by
  show ∀ q ∈ lw_privs_1 ++ (lw_privs_2 ++ (lw_privs_3)), lw_okq q
  exact List.forall_mem_append.mpr ⟨lw_r1, List.forall_mem_append.mpr ⟨lw_r2, lw_r3⟩⟩

def RX0 : String := "ChairGrudge$Hall"
def TX0 : u_T := fun k => match k with
  | 0 => ("ChairGrudge$Hall", "kind", "[I", true)
  | 1 => ("ChairGrudge$Hall", "ear", "[I", true)
  | 2 => ("ChairGrudge$Hall", "grudge", "[I", true)
  | 3 => ("ChairGrudge$Hall", "chairs", "I", false)
  | _ => ("ChairGrudge$Hall", "guests", "I", false)
def tyX0 : Nat → FieldType := fun k => match k with
  | 0 => .array .int
  | 1 => .array .int
  | 2 => .array .int
  | 3 => .int
  | _ => .int
abbrev wsX00 : List Cond := u_ws RX0 TX0 5
theorem nmX0 : ∀ a, a < 5 → ∀ b, b < 5 → a ≠ b → (TX0 a).2.1 ≠ (TX0 b).2.1 := by decide +kernel
theorem tyX0_ok : ∀ k, k < 5 → parseFieldDescriptor (TX0 k).2.2.1 = some (tyX0 k) := by decide +kernel
abbrev cX0_init : ByteArray := prog_2_method_1_code
def yX0_init : MethodName := ⟨RX0, "<init>", "()V"⟩
abbrev cX0_stands : ByteArray := prog_2_method_2_code
def yX0_stands : MethodName := ⟨RX0, "stands", "()Z"⟩
abbrev cX0_hasChair : ByteArray := prog_2_method_3_code
def yX0_hasChair : MethodName := ⟨RX0, "hasChair", "(I)Z"⟩
abbrev cX0_hasGuest : ByteArray := prog_2_method_4_code
def yX0_hasGuest : MethodName := ⟨RX0, "hasGuest", "(I)Z"⟩
abbrev cX0_namesOnlyChairs : ByteArray := prog_2_method_5_code
def yX0_namesOnlyChairs : MethodName := ⟨RX0, "namesOnlyChairs", "([III)Z"⟩
abbrev cX0_firstFault : ByteArray := prog_2_method_6_code
def yX0_firstFault : MethodName := ⟨RX0, "firstFault", "([III)I"⟩
abbrev cX0_goesOn : ByteArray := prog_2_method_7_code
def yX0_goesOn : MethodName := ⟨RX0, "goesOn", "(II)Z"⟩
abbrev cX0_takeText : ByteArray := prog_2_method_8_code
def yX0_takeText : MethodName := ⟨RX0, "takeText", "([III)V"⟩
abbrev cX0_kindOf : ByteArray := prog_2_method_9_code
def yX0_kindOf : MethodName := ⟨RX0, "kindOf", "(I)I"⟩
def RX1 : String := "ChairGrudge$Memory"
def TX1 : u_T := fun k => match k with
  | 0 => ("ChairGrudge$Memory", "hall", "LChairGrudge$Hall;", true)
  | 1 => ("ChairGrudge$Memory", "slips", "LChairGrudge$Notes;", true)
  | 2 => ("ChairGrudge$Memory", "butters", "LChairGrudge$Notes;", true)
  | 3 => ("ChairGrudge$Memory", "held", "[I", true)
  | 4 => ("ChairGrudge$Memory", "minded", "[I", true)
  | _ => ("ChairGrudge$Memory", "borne", "[I", true)
def tyX1 : Nat → FieldType := fun k => match k with
  | 0 => .object "ChairGrudge$Hall"
  | 1 => .object "ChairGrudge$Notes"
  | 2 => .object "ChairGrudge$Notes"
  | 3 => .array .int
  | 4 => .array .int
  | _ => .array .int
abbrev wsX10 : List Cond := u_ws RX1 TX1 6
theorem nmX1 : ∀ a, a < 6 → ∀ b, b < 6 → a ≠ b → (TX1 a).2.1 ≠ (TX1 b).2.1 := by decide +kernel
theorem tyX1_ok : ∀ k, k < 6 → parseFieldDescriptor (TX1 k).2.2.1 = some (tyX1 k) := by decide +kernel
abbrev cX1_init : ByteArray := prog_3_method_1_code
def yX1_init : MethodName := ⟨RX1, "<init>", "(LChairGrudge$Hall;LChairGrudge$Notes;LChairGrudge$Notes;)V"⟩
abbrev cX1_judgeDinner : ByteArray := prog_3_method_2_code
def yX1_judgeDinner : MethodName := ⟨RX1, "judgeDinner", "(I)V"⟩
abbrev cX1_recall : ByteArray := prog_3_method_3_code
def yX1_recall : MethodName := ⟨RX1, "recall", "(I)V"⟩
abbrev cX1_isHeld : ByteArray := prog_3_method_4_code
def yX1_isHeld : MethodName := ⟨RX1, "isHeld", "(III)Z"⟩
abbrev cX1_isForgiven : ByteArray := prog_3_method_5_code
def yX1_isForgiven : MethodName := ⟨RX1, "isForgiven", "(III)Z"⟩
abbrev cX1_judge : ByteArray := prog_3_method_6_code
def yX1_judge : MethodName := ⟨RX1, "judge", "(II)V"⟩
abbrev cX1_guestsOf : ByteArray := prog_3_method_7_code
def yX1_guestsOf : MethodName := ⟨RX1, "guestsOf", "(I)I"⟩
abbrev cX1_isBorne : ByteArray := prog_3_method_8_code
def yX1_isBorne : MethodName := ⟨RX1, "isBorne", "(II)Z"⟩
abbrev cX1_allCanSit : ByteArray := prog_3_method_9_code
def yX1_allCanSit : MethodName := ⟨RX1, "allCanSit", "()Z"⟩
abbrev cX1_smallestShortSet : ByteArray := prog_3_method_10_code
def yX1_smallestShortSet : MethodName := ⟨RX1, "smallestShortSet", "()I"⟩
abbrev cX1_isShort : ByteArray := prog_3_method_11_code
def yX1_isShort : MethodName := ⟨RX1, "isShort", "(I)Z"⟩
abbrev cX1_firstTipped : ByteArray := prog_3_method_12_code
def yX1_firstTipped : MethodName := ⟨RX1, "firstTipped", "([III)I"⟩
def RX2 : String := "ChairGrudge$Notes"
def TX2 : u_T := fun k => match k with
  | 0 => ("ChairGrudge$Notes", "dinner", "[I", true)
  | 1 => ("ChairGrudge$Notes", "guest", "[I", true)
  | 2 => ("ChairGrudge$Notes", "chair", "[I", true)
  | _ => ("ChairGrudge$Notes", "size", "I", false)
def tyX2 : Nat → FieldType := fun k => match k with
  | 0 => .array .int
  | 1 => .array .int
  | 2 => .array .int
  | _ => .int
abbrev wsX20 : List Cond := u_ws RX2 TX2 4
theorem nmX2 : ∀ a, a < 4 → ∀ b, b < 4 → a ≠ b → (TX2 a).2.1 ≠ (TX2 b).2.1 := by decide +kernel
theorem tyX2_ok : ∀ k, k < 4 → parseFieldDescriptor (TX2 k).2.2.1 = some (tyX2 k) := by decide +kernel
abbrev cX2_init : ByteArray := prog_4_method_1_code
def yX2_init : MethodName := ⟨RX2, "<init>", "()V"⟩
abbrev cX2_has : ByteArray := prog_4_method_2_code
def yX2_has : MethodName := ⟨RX2, "has", "(I)Z"⟩
abbrev cX2_add : ByteArray := prog_4_method_3_code
def yX2_add : MethodName := ⟨RX2, "add", "(III)I"⟩
abbrev cX2_dropLast : ByteArray := prog_4_method_4_code
def yX2_dropLast : MethodName := ⟨RX2, "dropLast", "(I)I"⟩
def RX3 : String := "ChairGrudge$Seating"
def TX3 : u_T := fun k => match k with
  | 0 => ("ChairGrudge$Seating", "hall", "LChairGrudge$Hall;", true)
  | 1 => ("ChairGrudge$Seating", "borne", "[I", true)
  | 2 => ("ChairGrudge$Seating", "costs", "[I", true)
  | 3 => ("ChairGrudge$Seating", "chairOf", "[I", true)
  | 4 => ("ChairGrudge$Seating", "priceOfUnborne", "I", false)
  | _ => ("ChairGrudge$Seating", "priceOfStanding", "I", false)
def tyX3 : Nat → FieldType := fun k => match k with
  | 0 => .object "ChairGrudge$Hall"
  | 1 => .array .int
  | 2 => .array .int
  | 3 => .array .int
  | 4 => .int
  | _ => .int
abbrev wsX30 : List Cond := u_ws RX3 TX3 6
theorem nmX3 : ∀ a, a < 6 → ∀ b, b < 6 → a ≠ b → (TX3 a).2.1 ≠ (TX3 b).2.1 := by decide +kernel
theorem tyX3_ok : ∀ k, k < 6 → parseFieldDescriptor (TX3 k).2.2.1 = some (tyX3 k) := by decide +kernel
abbrev cX3_init : ByteArray := prog_5_method_1_code
def yX3_init : MethodName := ⟨RX3, "<init>", "(LChairGrudge$Hall;[I)V"⟩
abbrev cX3_seatMost : ByteArray := prog_5_method_2_code
def yX3_seatMost : MethodName := ⟨RX3, "seatMost", "()I"⟩
abbrev cX3_seatAllByButter : ByteArray := prog_5_method_3_code
def yX3_seatAllByButter : MethodName := ⟨RX3, "seatAllByButter", "()I"⟩
abbrev cX3_seatCheapest : ByteArray := prog_5_method_4_code
def yX3_seatCheapest : MethodName := ⟨RX3, "seatCheapest", "()I"⟩
abbrev cX3_bestChair : ByteArray := prog_5_method_5_code
def yX3_bestChair : MethodName := ⟨RX3, "bestChair", "(II)I"⟩
abbrev cX3_costOf : ByteArray := prog_5_method_6_code
def yX3_costOf : MethodName := ⟨RX3, "costOf", "(III)I"⟩
abbrev cX3_at : ByteArray := prog_5_method_7_code
def yX3_at : MethodName := ⟨RX3, "at", "(II)I"⟩
def RX4 : String := "ChairGrudge$Sheet"
def TX4 : u_T := fun k => match k with
  | 0 => ("ChairGrudge$Sheet", "cells", "[I", true)
  | 1 => ("ChairGrudge$Sheet", "lane", "I", false)
  | _ => ("ChairGrudge$Sheet", "length", "I", false)
def tyX4 : Nat → FieldType := fun k => match k with
  | 0 => .array .int
  | 1 => .int
  | _ => .int
abbrev wsX40 : List Cond := u_ws RX4 TX4 3
theorem nmX4 : ∀ a, a < 3 → ∀ b, b < 3 → a ≠ b → (TX4 a).2.1 ≠ (TX4 b).2.1 := by decide +kernel
theorem tyX4_ok : ∀ k, k < 3 → parseFieldDescriptor (TX4 k).2.2.1 = some (tyX4 k) := by decide +kernel
abbrev cX4_init : ByteArray := prog_6_method_1_code
def yX4_init : MethodName := ⟨RX4, "<init>", "()V"⟩
abbrev cX4_isEmpty : ByteArray := prog_6_method_2_code
def yX4_isEmpty : MethodName := ⟨RX4, "isEmpty", "()Z"⟩
abbrev cX4_begin : ByteArray := prog_6_method_3_code
def yX4_begin : MethodName := ⟨RX4, "begin", "(II)V"⟩
abbrev cX4_drop : ByteArray := prog_6_method_4_code
def yX4_drop : MethodName := ⟨RX4, "drop", "()Z"⟩
abbrev cX4_reaches : ByteArray := prog_6_method_5_code
def yX4_reaches : MethodName := ⟨RX4, "reaches", "(II)Z"⟩
abbrev cX4_faultOfLane : ByteArray := prog_6_method_6_code
def yX4_faultOfLane : MethodName := ⟨RX4, "faultOfLane", "(I)I"⟩
abbrev cX4_faultOfPlace : ByteArray := prog_6_method_7_code
def yX4_faultOfPlace : MethodName := ⟨RX4, "faultOfPlace", "(I)I"⟩
abbrev cX4_faultOfCells : ByteArray := prog_6_method_8_code
def yX4_faultOfCells : MethodName := ⟨RX4, "faultOfCells", "(III)I"⟩
abbrev cX4_write : ByteArray := prog_6_method_9_code
def yX4_write : MethodName := ⟨RX4, "write", "(II)V"⟩
abbrev cX4_cut : ByteArray := prog_6_method_10_code
def yX4_cut : MethodName := ⟨RX4, "cut", "(I)I"⟩
def RX5 : String := "ChairGrudge"
def TX5 : u_T := fun k => match k with
  | 0 => ("ChairGrudge", "current", "LChairGrudge$Hall;", true)
  | 1 => ("ChairGrudge", "slips", "LChairGrudge$Notes;", true)
  | 2 => ("ChairGrudge", "butters", "LChairGrudge$Notes;", true)
  | 3 => ("ChairGrudge", "readings", "LChairGrudge$Notes;", true)
  | 4 => ("ChairGrudge", "wasBorne", "[Z", true)
  | 5 => ("ChairGrudge", "memory", "LChairGrudge$Memory;", true)
  | 6 => ("ChairGrudge", "seating", "LChairGrudge$Seating;", true)
  | 7 => ("ChairGrudge", "sheets", "[LChairGrudge$Sheet;", true)
  | 8 => ("ChairGrudge", "traced", "I", false)
  | _ => ("ChairGrudge", "latestFault", "I", false)
def tyX5 : Nat → FieldType := fun k => match k with
  | 0 => .object "ChairGrudge$Hall"
  | 1 => .object "ChairGrudge$Notes"
  | 2 => .object "ChairGrudge$Notes"
  | 3 => .object "ChairGrudge$Notes"
  | 4 => .array .boolean
  | 5 => .object "ChairGrudge$Memory"
  | 6 => .object "ChairGrudge$Seating"
  | 7 => .array (.object "ChairGrudge$Sheet")
  | 8 => .int
  | _ => .int
abbrev wsX50 : List Cond := u_ws RX5 TX5 10
theorem nmX5 : ∀ a, a < 10 → ∀ b, b < 10 → a ≠ b → (TX5 a).2.1 ≠ (TX5 b).2.1 := by decide +kernel
theorem tyX5_ok : ∀ k, k < 10 → parseFieldDescriptor (TX5 k).2.2.1 = some (tyX5 k) := by decide +kernel
abbrev cX5_init : ByteArray := prog_1_method_1_code
def yX5_init : MethodName := ⟨RX5, "<init>", "()V"⟩
abbrev cX5_hall : ByteArray := prog_1_method_2_code
def yX5_hall : MethodName := ⟨RX5, "hall", "(IIII)I"⟩
abbrev cX5_ofChair : ByteArray := prog_1_method_3_code
def yX5_ofChair : MethodName := ⟨RX5, "ofChair", "(II)I"⟩
abbrev cX5_slip : ByteArray := prog_1_method_4_code
def yX5_slip : MethodName := ⟨RX5, "slip", "(III)I"⟩
abbrev cX5_ofSlip : ByteArray := prog_1_method_5_code
def yX5_ofSlip : MethodName := ⟨RX5, "ofSlip", "(II)I"⟩
abbrev cX5_unsay : ByteArray := prog_1_method_6_code
def yX5_unsay : MethodName := ⟨RX5, "unsay", "(I)I"⟩
abbrev cX5_butter : ByteArray := prog_1_method_7_code
def yX5_butter : MethodName := ⟨RX5, "butter", "(III)I"⟩
abbrev cX5_melt : ByteArray := prog_1_method_8_code
def yX5_melt : MethodName := ⟨RX5, "melt", "(I)I"⟩
abbrev cX5_noteDown : ByteArray := prog_1_method_9_code
def yX5_noteDown : MethodName := ⟨RX5, "noteDown", "(LChairGrudge$Notes;III)I"⟩
abbrev cX5_bears : ByteArray := prog_1_method_10_code
def yX5_bears : MethodName := ⟨RX5, "bears", "(III)I"⟩
abbrev cX5_whom : ByteArray := prog_1_method_11_code
def yX5_whom : MethodName := ⟨RX5, "whom", "(II)I"⟩
abbrev cX5_seats : ByteArray := prog_1_method_12_code
def yX5_seats : MethodName := ⟨RX5, "seats", "(II)I"⟩
abbrev cX5_few : ByteArray := prog_1_method_13_code
def yX5_few : MethodName := ⟨RX5, "few", "(I)I"⟩
abbrev cX5_tipped : ByteArray := prog_1_method_14_code
def yX5_tipped : MethodName := ⟨RX5, "tipped", "(IIIII)I"⟩
abbrev cX5_refusalOfSeating : ByteArray := prog_1_method_15_code
def yX5_refusalOfSeating : MethodName := ⟨RX5, "refusalOfSeating", "(II)I"⟩
abbrev cX5_refusalOfDinner : ByteArray := prog_1_method_16_code
def yX5_refusalOfDinner : MethodName := ⟨RX5, "refusalOfDinner", "(I)I"⟩
abbrev cX5_least : ByteArray := prog_1_method_17_code
def yX5_least : MethodName := ⟨RX5, "least", "(II)I"⟩
abbrev cX5_when : ByteArray := prog_1_method_18_code
def yX5_when : MethodName := ⟨RX5, "when", "(I)I"⟩
abbrev cX5_fresh : ByteArray := prog_1_method_19_code
def yX5_fresh : MethodName := ⟨RX5, "fresh", "(II)I"⟩
abbrev cX5_reading : ByteArray := prog_1_method_20_code
def yX5_reading : MethodName := ⟨RX5, "reading", "(IIIZ)I"⟩
abbrev cX5_back : ByteArray := prog_1_method_21_code
def yX5_back : MethodName := ⟨RX5, "back", "(I)I"⟩
abbrev cX5_times : ByteArray := prog_1_method_22_code
def yX5_times : MethodName := ⟨RX5, "times", "(I)I"⟩
abbrev cX5_grudges : ByteArray := prog_1_method_23_code
def yX5_grudges : MethodName := ⟨RX5, "grudges", "(I)I"⟩
abbrev cX5_ears : ByteArray := prog_1_method_24_code
def yX5_ears : MethodName := ⟨RX5, "ears", "(I)I"⟩
abbrev cX5_kinds : ByteArray := prog_1_method_25_code
def yX5_kinds : MethodName := ⟨RX5, "kinds", "(I)I"⟩
abbrev cX5_odds : ByteArray := prog_1_method_26_code
def yX5_odds : MethodName := ⟨RX5, "odds", "(II)J"⟩
abbrev cX5_fitting : ByteArray := prog_1_method_27_code
def yX5_fitting : MethodName := ⟨RX5, "fitting", "([III)I"⟩
abbrev cX5_allReadingsAreSo : ByteArray := prog_1_method_28_code
def yX5_allReadingsAreSo : MethodName := ⟨RX5, "allReadingsAreSo", "()Z"⟩
abbrev cX5_sheet : ByteArray := prog_1_method_29_code
def yX5_sheet : MethodName := ⟨RX5, "sheet", "(III)I"⟩
abbrev cX5_lose : ByteArray := prog_1_method_30_code
def yX5_lose : MethodName := ⟨RX5, "lose", "(I)I"⟩
abbrev cX5_put : ByteArray := prog_1_method_31_code
def yX5_put : MethodName := ⟨RX5, "put", "(III)I"⟩
abbrev cX5_cell : ByteArray := prog_1_method_32_code
def yX5_cell : MethodName := ⟨RX5, "cell", "(III)J"⟩
abbrev cX5_copy : ByteArray := prog_1_method_33_code
def yX5_copy : MethodName := ⟨RX5, "copy", "(IIIII)I"⟩
abbrev cX5_faultOfCopy : ByteArray := prog_1_method_34_code
def yX5_faultOfCopy : MethodName := ⟨RX5, "faultOfCopy", "(LChairGrudge$Sheet;ILChairGrudge$Sheet;II)I"⟩
abbrev cX5_tell : ByteArray := prog_1_method_35_code
def yX5_tell : MethodName := ⟨RX5, "tell", "(I)I"⟩
abbrev cX5_tellAsChair : ByteArray := prog_1_method_36_code
def yX5_tellAsChair : MethodName := ⟨RX5, "tellAsChair", "(I)I"⟩
abbrev cX5_tellAsBench : ByteArray := prog_1_method_37_code
def yX5_tellAsBench : MethodName := ⟨RX5, "tellAsBench", "(I)I"⟩
abbrev cX5_tellAsThrone : ByteArray := prog_1_method_38_code
def yX5_tellAsThrone : MethodName := ⟨RX5, "tellAsThrone", "(I)I"⟩
abbrev cX5_creak : ByteArray := prog_1_method_39_code
def yX5_creak : MethodName := ⟨RX5, "creak", "(I)I"⟩
abbrev cX5_leaveTrace : ByteArray := prog_1_method_40_code
def yX5_leaveTrace : MethodName := ⟨RX5, "leaveTrace", "(I)V"⟩
abbrev cX5_as : ByteArray := prog_1_method_41_code
def yX5_as : MethodName := ⟨RX5, "as", "(II)I"⟩
abbrev cX5_trace : ByteArray := prog_1_method_42_code
def yX5_trace : MethodName := ⟨RX5, "trace", "()I"⟩
abbrev cX5_fault : ByteArray := prog_1_method_43_code
def yX5_fault : MethodName := ⟨RX5, "fault", "()I"⟩
abbrev cX5_many : ByteArray := prog_1_method_44_code
def yX5_many : MethodName := ⟨RX5, "many", "(I)I"⟩
abbrev cX5_faultAnswer : ByteArray := prog_1_method_45_code
def yX5_faultAnswer : MethodName := ⟨RX5, "faultAnswer", "()I"⟩
abbrev cX5_isSheet : ByteArray := prog_1_method_46_code
def yX5_isSheet : MethodName := ⟨RX5, "isSheet", "(I)Z"⟩
abbrev cX5_isLane : ByteArray := prog_1_method_47_code
def yX5_isLane : MethodName := ⟨RX5, "isLane", "(I)Z"⟩
abbrev cX5_isDinner : ByteArray := prog_1_method_48_code
def yX5_isDinner : MethodName := ⟨RX5, "isDinner", "(I)Z"⟩
def RX6 : String := "ChairGrudgeModel"
def TX6 : u_T := fun k => match k with
  | 0 => ("ChairGrudgeModel", "fault", "I", false)
  | 1 => ("ChairGrudgeModel", "trace", "I", false)
  | 2 => ("ChairGrudgeModel", "sorts", "[I", true)
  | 3 => ("ChairGrudgeModel", "sheetLong", "[I", true)
  | 4 => ("ChairGrudgeModel", "cells", "[I", true)
  | 5 => ("ChairGrudgeModel", "guests", "I", false)
  | 6 => ("ChairGrudgeModel", "chairs", "I", false)
  | 7 => ("ChairGrudgeModel", "kind", "[I", true)
  | 8 => ("ChairGrudgeModel", "ear", "[I", true)
  | 9 => ("ChairGrudgeModel", "grudge", "[I", true)
  | 10 => ("ChairGrudgeModel", "slips", "I", false)
  | 11 => ("ChairGrudgeModel", "slipWhen", "[I", true)
  | 12 => ("ChairGrudgeModel", "slipOf", "[I", true)
  | 13 => ("ChairGrudgeModel", "slipOn", "[I", true)
  | 14 => ("ChairGrudgeModel", "butters", "I", false)
  | 15 => ("ChairGrudgeModel", "butterWhen", "[I", true)
  | 16 => ("ChairGrudgeModel", "butterOf", "[I", true)
  | 17 => ("ChairGrudgeModel", "butterTo", "[I", true)
  | 18 => ("ChairGrudgeModel", "unsaid", "I", false)
  | 19 => ("ChairGrudgeModel", "fresh", "I", false)
  | 20 => ("ChairGrudgeModel", "at", "I", false)
  | 21 => ("ChairGrudgeModel", "readGuests", "I", false)
  | 22 => ("ChairGrudgeModel", "readMany", "I", false)
  | 23 => ("ChairGrudgeModel", "read", "[I", true)
  | 24 => ("ChairGrudgeModel", "bornBy", "[I", true)
  | 25 => ("ChairGrudgeModel", "canSit", "[Z", true)
  | 26 => ("ChairGrudgeModel", "row", "[I", true)
  | 27 => ("ChairGrudgeModel", "found", "[I", true)
  | 28 => ("ChairGrudgeModel", "readings", "I", false)
  | 29 => ("ChairGrudgeModel", "readDinner", "[I", true)
  | 30 => ("ChairGrudgeModel", "readChairOf", "[I", true)
  | 31 => ("ChairGrudgeModel", "readGuestOf", "[I", true)
  | _ => ("ChairGrudgeModel", "readBore", "[Z", true)
def tyX6 : Nat → FieldType := fun k => match k with
  | 0 => .int
  | 1 => .int
  | 2 => .array .int
  | 3 => .array .int
  | 4 => .array .int
  | 5 => .int
  | 6 => .int
  | 7 => .array .int
  | 8 => .array .int
  | 9 => .array .int
  | 10 => .int
  | 11 => .array .int
  | 12 => .array .int
  | 13 => .array .int
  | 14 => .int
  | 15 => .array .int
  | 16 => .array .int
  | 17 => .array .int
  | 18 => .int
  | 19 => .int
  | 20 => .int
  | 21 => .int
  | 22 => .int
  | 23 => .array .int
  | 24 => .array .int
  | 25 => .array .boolean
  | 26 => .array .int
  | 27 => .array .int
  | 28 => .int
  | 29 => .array .int
  | 30 => .array .int
  | 31 => .array .int
  | _ => .array .boolean
abbrev wsX60 : List Cond := u_ws RX6 TX6 33
theorem nmX6 : ∀ a, a < 33 → ∀ b, b < 33 → a ≠ b → (TX6 a).2.1 ≠ (TX6 b).2.1 := by decide +kernel
theorem tyX6_ok : ∀ k, k < 33 → parseFieldDescriptor (TX6 k).2.2.1 = some (tyX6 k) := by decide +kernel
abbrev cX6_init : ByteArray := prog_8_method_1_code
def yX6_init : MethodName := ⟨RX6, "<init>", "()V"⟩
abbrev cX6_fails : ByteArray := prog_8_method_3_code
def yX6_fails : MethodName := ⟨RX6, "fails", "(I)I"⟩
abbrev cX6_lost : ByteArray := prog_8_method_4_code
def yX6_lost : MethodName := ⟨RX6, "lost", "(I)J"⟩
abbrev cX6_within : ByteArray := prog_8_method_5_code
def yX6_within : MethodName := ⟨RX6, "within", "(III)Z"⟩
abbrev cX6_isSheet : ByteArray := prog_8_method_6_code
def yX6_isSheet : MethodName := ⟨RX6, "isSheet", "(I)Z"⟩
abbrev cX6_isSort : ByteArray := prog_8_method_7_code
def yX6_isSort : MethodName := ⟨RX6, "isSort", "(I)Z"⟩
abbrev cX6_against : ByteArray := prog_8_method_8_code
def yX6_against : MethodName := ⟨RX6, "against", "(IIII)I"⟩
abbrev cX6_isGuest : ByteArray := prog_8_method_9_code
def yX6_isGuest : MethodName := ⟨RX6, "isGuest", "(I)Z"⟩
abbrev cX6_isChair : ByteArray := prog_8_method_10_code
def yX6_isChair : MethodName := ⟨RX6, "isChair", "(I)Z"⟩
abbrev cX6_isDinner : ByteArray := prog_8_method_11_code
def yX6_isDinner : MethodName := ⟨RX6, "isDinner", "(I)Z"⟩
abbrev cX6_digit : ByteArray := prog_8_method_12_code
def yX6_digit : MethodName := ⟨RX6, "digit", "(III)I"⟩
abbrev cX6_isSign : ByteArray := prog_8_method_13_code
def yX6_isSign : MethodName := ⟨RX6, "isSign", "(II)Z"⟩
abbrev cX6_hall : ByteArray := prog_8_method_14_code
def yX6_hall : MethodName := ⟨RX6, "hall", "(IIII)I"⟩
abbrev cX6_readHall : ByteArray := prog_8_method_15_code
def yX6_readHall : MethodName := ⟨RX6, "readHall", "(I)Z"⟩
abbrev cX6_readChair : ByteArray := prog_8_method_16_code
def yX6_readChair : MethodName := ⟨RX6, "readChair", "(I)Z"⟩
abbrev cX6_ofChair : ByteArray := prog_8_method_17_code
def yX6_ofChair : MethodName := ⟨RX6, "ofChair", "(II)I"⟩
abbrev cX6_slip : ByteArray := prog_8_method_18_code
def yX6_slip : MethodName := ⟨RX6, "slip", "(III)I"⟩
abbrev cX6_isSlip : ByteArray := prog_8_method_19_code
def yX6_isSlip : MethodName := ⟨RX6, "isSlip", "(I)Z"⟩
abbrev cX6_ofSlip : ByteArray := prog_8_method_20_code
def yX6_ofSlip : MethodName := ⟨RX6, "ofSlip", "(II)I"⟩
abbrev cX6_unsay : ByteArray := prog_8_method_21_code
def yX6_unsay : MethodName := ⟨RX6, "unsay", "(I)I"⟩
abbrev cX6_butter : ByteArray := prog_8_method_22_code
def yX6_butter : MethodName := ⟨RX6, "butter", "(III)I"⟩
abbrev cX6_melt : ByteArray := prog_8_method_23_code
def yX6_melt : MethodName := ⟨RX6, "melt", "(I)I"⟩
abbrev cX6_isForgiven : ByteArray := prog_8_method_24_code
def yX6_isForgiven : MethodName := ⟨RX6, "isForgiven", "(III)Z"⟩
abbrev cX6_minds : ByteArray := prog_8_method_25_code
def yX6_minds : MethodName := ⟨RX6, "minds", "(III)Z"⟩
abbrev cX6_doesBear : ByteArray := prog_8_method_26_code
def yX6_doesBear : MethodName := ⟨RX6, "doesBear", "(III)Z"⟩
abbrev cX6_bears : ByteArray := prog_8_method_27_code
def yX6_bears : MethodName := ⟨RX6, "bears", "(III)I"⟩
abbrev cX6_whom : ByteArray := prog_8_method_28_code
def yX6_whom : MethodName := ⟨RX6, "whom", "(II)I"⟩
abbrev cX6_layDinner : ByteArray := prog_8_method_29_code
def yX6_layDinner : MethodName := ⟨RX6, "layDinner", "(I)V"⟩
abbrev cX6_size : ByteArray := prog_8_method_30_code
def yX6_size : MethodName := ⟨RX6, "size", "(I)I"⟩
abbrev cX6_mostSit : ByteArray := prog_8_method_31_code
def yX6_mostSit : MethodName := ⟨RX6, "mostSit", "()I"⟩
abbrev cX6_layRow : ByteArray := prog_8_method_32_code
def yX6_layRow : MethodName := ⟨RX6, "layRow", "(II)Z"⟩
abbrev cX6_rowsOf : ByteArray := prog_8_method_33_code
def yX6_rowsOf : MethodName := ⟨RX6, "rowsOf", "(I)I"⟩
abbrev cX6_sitBy : ByteArray := prog_8_method_34_code
def yX6_sitBy : MethodName := ⟨RX6, "sitBy", "()I"⟩
abbrev cX6_keepRow : ByteArray := prog_8_method_35_code
def yX6_keepRow : MethodName := ⟨RX6, "keepRow", "()V"⟩
abbrev cX6_isOneOr : ByteArray := prog_8_method_36_code
def yX6_isOneOr : MethodName := ⟨RX6, "isOneOr", "(I)Z"⟩
abbrev cX6_seats : ByteArray := prog_8_method_37_code
def yX6_seats : MethodName := ⟨RX6, "seats", "(II)I"⟩
abbrev cX6_few : ByteArray := prog_8_method_38_code
def yX6_few : MethodName := ⟨RX6, "few", "(I)I"⟩
abbrev cX6_tipped : ByteArray := prog_8_method_39_code
def yX6_tipped : MethodName := ⟨RX6, "tipped", "(IIIII)I"⟩
abbrev cX6_tippedBy : ByteArray := prog_8_method_40_code
def yX6_tippedBy : MethodName := ⟨RX6, "tippedBy", "(III)I"⟩
abbrev cX6_least : ByteArray := prog_8_method_41_code
def yX6_least : MethodName := ⟨RX6, "least", "(II)I"⟩
abbrev cX6_mostIn : ByteArray := prog_8_method_42_code
def yX6_mostIn : MethodName := ⟨RX6, "mostIn", "(I)I"⟩
abbrev cX6_when : ByteArray := prog_8_method_43_code
def yX6_when : MethodName := ⟨RX6, "when", "(I)I"⟩
abbrev cX6_fresh : ByteArray := prog_8_method_44_code
def yX6_fresh : MethodName := ⟨RX6, "fresh", "(II)I"⟩
abbrev cX6_reading : ByteArray := prog_8_method_45_code
def yX6_reading : MethodName := ⟨RX6, "reading", "(IIIZ)I"⟩
abbrev cX6_back : ByteArray := prog_8_method_46_code
def yX6_back : MethodName := ⟨RX6, "back", "(I)I"⟩
abbrev cX6_areSo : ByteArray := prog_8_method_47_code
def yX6_areSo : MethodName := ⟨RX6, "areSo", "()Z"⟩
abbrev cX6_times : ByteArray := prog_8_method_48_code
def yX6_times : MethodName := ⟨RX6, "times", "(I)I"⟩
abbrev cX6_grudges : ByteArray := prog_8_method_49_code
def yX6_grudges : MethodName := ⟨RX6, "grudges", "(I)I"⟩
abbrev cX6_ears : ByteArray := prog_8_method_50_code
def yX6_ears : MethodName := ⟨RX6, "ears", "(I)I"⟩
abbrev cX6_kinds : ByteArray := prog_8_method_51_code
def yX6_kinds : MethodName := ⟨RX6, "kinds", "(I)I"⟩
abbrev cX6_inLeastTerms : ByteArray := prog_8_method_52_code
def yX6_inLeastTerms : MethodName := ⟨RX6, "inLeastTerms", "(JJI)J"⟩
abbrev cX6_odds : ByteArray := prog_8_method_53_code
def yX6_odds : MethodName := ⟨RX6, "odds", "(II)J"⟩
abbrev cX6_sheet : ByteArray := prog_8_method_54_code
def yX6_sheet : MethodName := ⟨RX6, "sheet", "(III)I"⟩
abbrev cX6_lose : ByteArray := prog_8_method_55_code
def yX6_lose : MethodName := ⟨RX6, "lose", "(I)I"⟩
abbrev cX6_put : ByteArray := prog_8_method_56_code
def yX6_put : MethodName := ⟨RX6, "put", "(III)I"⟩
abbrev cX6_cell : ByteArray := prog_8_method_57_code
def yX6_cell : MethodName := ⟨RX6, "cell", "(III)J"⟩
abbrev cX6_copy : ByteArray := prog_8_method_58_code
def yX6_copy : MethodName := ⟨RX6, "copy", "(IIIII)I"⟩
abbrev cX6_begins : ByteArray := prog_8_method_59_code
def yX6_begins : MethodName := ⟨RX6, "begins", "(I)V"⟩
abbrev cX6_tell : ByteArray := prog_8_method_60_code
def yX6_tell : MethodName := ⟨RX6, "tell", "(I)I"⟩
abbrev cX6_creak : ByteArray := prog_8_method_61_code
def yX6_creak : MethodName := ⟨RX6, "creak", "(I)I"⟩
abbrev cX6_as : ByteArray := prog_8_method_62_code
def yX6_as : MethodName := ⟨RX6, "as", "(II)I"⟩
abbrev cX6_trace : ByteArray := prog_8_method_63_code
def yX6_trace : MethodName := ⟨RX6, "trace", "()I"⟩
abbrev cX6_fault : ByteArray := prog_8_method_64_code
def yX6_fault : MethodName := ⟨RX6, "fault", "()I"⟩
abbrev cX6_many : ByteArray := prog_8_method_65_code
def yX6_many : MethodName := ⟨RX6, "many", "(I)I"⟩
def RJ6 : String := "java/lang/Integer"
def TJ6 : u_T := fun k => match k with
  | _ => ("", "", "", false)
def tyJ6 : Nat → FieldType := fun k => match k with
  | _ => .int
abbrev wsJ60 : List Cond := u_ws RJ6 TJ6 0
theorem nmJ6 : ∀ a, a < 0 → ∀ b, b < 0 → a ≠ b → (TJ6 a).2.1 ≠ (TJ6 b).2.1 := by decide +kernel
theorem tyJ6_ok : ∀ k, k < 0 → parseFieldDescriptor (TJ6 k).2.2.1 = some (tyJ6 k) := by decide +kernel
abbrev cJ6_bitCount_0f7a4 : ByteArray := prog_9_method_49_code
def yJ6_bitCount_0f7a4 : MethodName := ⟨RJ6, "bitCount", "(I)I"⟩
def RJ9 : String := "java/lang/Math"
def TJ9 : u_T := fun k => match k with
  | _ => ("", "", "", false)
def tyJ9 : Nat → FieldType := fun k => match k with
  | _ => .int
abbrev wsJ90 : List Cond := u_ws RJ9 TJ9 0
theorem nmJ9 : ∀ a, a < 0 → ∀ b, b < 0 → a ≠ b → (TJ9 a).2.1 ≠ (TJ9 b).2.1 := by decide +kernel
theorem tyJ9_ok : ∀ k, k < 0 → parseFieldDescriptor (TJ9 k).2.2.1 = some (tyJ9 k) := by decide +kernel
abbrev cJ9_abs_0f7a4 : ByteArray := prog_10_method_59_code
def yJ9_abs_0f7a4 : MethodName := ⟨RJ9, "abs", "(I)I"⟩
abbrev cJ9_min_7cf53 : ByteArray := prog_10_method_69_code
def yJ9_min_7cf53 : MethodName := ⟨RJ9, "min", "(II)I"⟩
def RJ10 : String := "java/lang/System"
def TJ10 : u_T := fun k => match k with
  | _ => ("", "", "", false)
def tyJ10 : Nat → FieldType := fun k => match k with
  | _ => .int
abbrev wsJ100 : List Cond := u_ws RJ10 TJ10 0
theorem nmJ10 : ∀ a, a < 0 → ∀ b, b < 0 → a ≠ b → (TJ10 a).2.1 ≠ (TJ10 b).2.1 := by decide +kernel
theorem tyJ10_ok : ∀ k, k < 0 → parseFieldDescriptor (TJ10 k).2.2.1 = some (tyJ10 k) := by decide +kernel
def RL : String := "ChairGrudgeLaw"
abbrev cL_law : ByteArray := code
def yL_law : MethodName := ⟨RL, "law", "([I)Z"⟩
abbrev vwCl : List vw_C := [(RX0, TX0, 5), (RX1, TX1, 6), (RX2, TX2, 4), (RX3, TX3, 6), (RX4, TX4, 3), (RX5, TX5, 10), (RX6, TX6, 33)]
end
section
theorem dX0_init_0 : decode cX0_init 0 = .ok (.aload_n 0, 1) := by decide +kernel
theorem dX0_init_1 : decode cX0_init 1 = .ok (.invokespecial 3, 3) := by decide +kernel
theorem dX0_init_4 : decode cX0_init 4 = .ok (.aload_n 0, 1) := by decide +kernel
theorem dX0_init_5 : decode cX0_init 5 = .ok (.iconst 5, 1) := by decide +kernel
theorem dX0_init_6 : decode cX0_init 6 = .ok (.newarray .int, 2) := by decide +kernel
theorem dX0_init_8 : decode cX0_init 8 = .ok (.putfield 9, 3) := by decide +kernel
theorem dX0_init_11 : decode cX0_init 11 = .ok (.aload_n 0, 1) := by decide +kernel
theorem dX0_init_12 : decode cX0_init 12 = .ok (.iconst 5, 1) := by decide +kernel
theorem dX0_init_13 : decode cX0_init 13 = .ok (.newarray .int, 2) := by decide +kernel
theorem dX0_init_15 : decode cX0_init 15 = .ok (.putfield 15, 3) := by decide +kernel
theorem dX0_init_18 : decode cX0_init 18 = .ok (.aload_n 0, 1) := by decide +kernel
theorem dX0_init_19 : decode cX0_init 19 = .ok (.iconst 5, 1) := by decide +kernel
theorem dX0_init_20 : decode cX0_init 20 = .ok (.newarray .int, 2) := by decide +kernel
theorem dX0_init_22 : decode cX0_init 22 = .ok (.putfield 18, 3) := by decide +kernel
theorem dX0_init_25 : decode cX0_init 25 = .ok (.aload_n 0, 1) := by decide +kernel
theorem dX0_init_26 : decode cX0_init 26 = .ok (.iconst 0, 1) := by decide +kernel
theorem dX0_init_27 : decode cX0_init 27 = .ok (.putfield 21, 3) := by decide +kernel
theorem dX0_init_30 : decode cX0_init 30 = .ok (.aload_n 0, 1) := by decide +kernel
theorem dX0_init_31 : decode cX0_init 31 = .ok (.iconst 0, 1) := by decide +kernel
theorem dX0_init_32 : decode cX0_init 32 = .ok (.putfield 25, 3) := by decide +kernel
theorem dX0_init_35 : decode cX0_init 35 = .ok (.return_, 1) := by decide +kernel
theorem dX0_stands_0 : decode cX0_stands 0 = .ok (.aload_n 0, 1) := by decide +kernel
theorem dX0_stands_1 : decode cX0_stands 1 = .ok (.getfield 21, 3) := by decide +kernel
theorem dX0_stands_4 : decode cX0_stands 4 = .ok (.ifCond .le 7, 3) := by decide +kernel
theorem dX0_stands_7 : decode cX0_stands 7 = .ok (.iconst 1, 1) := by decide +kernel
theorem dX0_stands_8 : decode cX0_stands 8 = .ok (.goto 4, 3) := by decide +kernel
theorem dX0_stands_11 : decode cX0_stands 11 = .ok (.iconst 0, 1) := by decide +kernel
theorem dX0_stands_12 : decode cX0_stands 12 = .ok (.ireturn, 1) := by decide +kernel
theorem dX0_hasChair_0 : decode cX0_hasChair 0 = .ok (.iload_n 1, 1) := by decide +kernel
theorem dX0_hasChair_1 : decode cX0_hasChair 1 = .ok (.ifCond .lt 15, 3) := by decide +kernel
theorem dX0_hasChair_4 : decode cX0_hasChair 4 = .ok (.iload_n 1, 1) := by decide +kernel
theorem dX0_hasChair_5 : decode cX0_hasChair 5 = .ok (.aload_n 0, 1) := by decide +kernel
theorem dX0_hasChair_6 : decode cX0_hasChair 6 = .ok (.getfield 21, 3) := by decide +kernel
theorem dX0_hasChair_9 : decode cX0_hasChair 9 = .ok (.if_icmp .ge 7, 3) := by decide +kernel
theorem dX0_hasChair_12 : decode cX0_hasChair 12 = .ok (.iconst 1, 1) := by decide +kernel
theorem dX0_hasChair_13 : decode cX0_hasChair 13 = .ok (.goto 4, 3) := by decide +kernel
theorem dX0_hasChair_16 : decode cX0_hasChair 16 = .ok (.iconst 0, 1) := by decide +kernel
theorem dX0_hasChair_17 : decode cX0_hasChair 17 = .ok (.ireturn, 1) := by decide +kernel
theorem dX0_hasGuest_0 : decode cX0_hasGuest 0 = .ok (.iload_n 1, 1) := by decide +kernel
theorem dX0_hasGuest_1 : decode cX0_hasGuest 1 = .ok (.ifCond .lt 15, 3) := by decide +kernel
theorem dX0_hasGuest_4 : decode cX0_hasGuest 4 = .ok (.iload_n 1, 1) := by decide +kernel
theorem dX0_hasGuest_5 : decode cX0_hasGuest 5 = .ok (.aload_n 0, 1) := by decide +kernel
theorem dX0_hasGuest_6 : decode cX0_hasGuest 6 = .ok (.getfield 25, 3) := by decide +kernel
theorem dX0_hasGuest_9 : decode cX0_hasGuest 9 = .ok (.if_icmp .ge 7, 3) := by decide +kernel
theorem dX0_hasGuest_12 : decode cX0_hasGuest 12 = .ok (.iconst 1, 1) := by decide +kernel
theorem dX0_hasGuest_13 : decode cX0_hasGuest 13 = .ok (.goto 4, 3) := by decide +kernel
theorem dX0_hasGuest_16 : decode cX0_hasGuest 16 = .ok (.iconst 0, 1) := by decide +kernel
theorem dX0_hasGuest_17 : decode cX0_hasGuest 17 = .ok (.ireturn, 1) := by decide +kernel
theorem dX0_namesOnlyChairs_0 : decode cX0_namesOnlyChairs 0 = .ok (.iconst 0, 1) := by decide +kernel
theorem dX0_namesOnlyChairs_1 : decode cX0_namesOnlyChairs 1 = .ok (.istore 4, 2) := by decide +kernel
theorem dX0_namesOnlyChairs_3 : decode cX0_namesOnlyChairs 3 = .ok (.iload 4, 2) := by decide +kernel
theorem dX0_namesOnlyChairs_5 : decode cX0_namesOnlyChairs 5 = .ok (.iload_n 3, 1) := by decide +kernel
theorem dX0_namesOnlyChairs_6 : decode cX0_namesOnlyChairs 6 = .ok (.if_icmp .ge 35, 3) := by decide +kernel
theorem dX0_namesOnlyChairs_9 : decode cX0_namesOnlyChairs 9 = .ok (.aload_n 1, 1) := by decide +kernel
theorem dX0_namesOnlyChairs_10 : decode cX0_namesOnlyChairs 10 = .ok (.iload_n 2, 1) := by decide +kernel
theorem dX0_namesOnlyChairs_11 : decode cX0_namesOnlyChairs 11 = .ok (.iload 4, 2) := by decide +kernel
theorem dX0_namesOnlyChairs_13 : decode cX0_namesOnlyChairs 13 = .ok (.iadd, 1) := by decide +kernel
theorem dX0_namesOnlyChairs_14 : decode cX0_namesOnlyChairs 14 = .ok (.iaload, 1) := by decide +kernel
theorem dX0_namesOnlyChairs_15 : decode cX0_namesOnlyChairs 15 = .ok (.istore 5, 2) := by decide +kernel
theorem dX0_namesOnlyChairs_17 : decode cX0_namesOnlyChairs 17 = .ok (.iload 5, 2) := by decide +kernel
theorem dX0_namesOnlyChairs_19 : decode cX0_namesOnlyChairs 19 = .ok (.bipush (-9), 2) := by decide +kernel
theorem dX0_namesOnlyChairs_21 : decode cX0_namesOnlyChairs 21 = .ok (.if_icmp .eq 14, 3) := by decide +kernel
theorem dX0_namesOnlyChairs_24 : decode cX0_namesOnlyChairs 24 = .ok (.aload_n 0, 1) := by decide +kernel
theorem dX0_namesOnlyChairs_25 : decode cX0_namesOnlyChairs 25 = .ok (.iload 5, 2) := by decide +kernel
theorem dX0_namesOnlyChairs_27 : decode cX0_namesOnlyChairs 27 = .ok (.invokevirtual 28, 3) := by decide +kernel
theorem dX0_namesOnlyChairs_30 : decode cX0_namesOnlyChairs 30 = .ok (.ifCond .ne 5, 3) := by decide +kernel
theorem dX0_namesOnlyChairs_33 : decode cX0_namesOnlyChairs 33 = .ok (.iconst 0, 1) := by decide +kernel
theorem dX0_namesOnlyChairs_34 : decode cX0_namesOnlyChairs 34 = .ok (.ireturn, 1) := by decide +kernel
theorem dX0_namesOnlyChairs_35 : decode cX0_namesOnlyChairs 35 = .ok (.iinc 4 1, 3) := by decide +kernel
theorem dX0_namesOnlyChairs_38 : decode cX0_namesOnlyChairs 38 = .ok (.goto (-35), 3) := by decide +kernel
theorem dX0_namesOnlyChairs_41 : decode cX0_namesOnlyChairs 41 = .ok (.iconst 1, 1) := by decide +kernel
theorem dX0_namesOnlyChairs_42 : decode cX0_namesOnlyChairs 42 = .ok (.ireturn, 1) := by decide +kernel
theorem dX0_firstFault_0 : decode cX0_firstFault 0 = .ok (.iconst 0, 1) := by decide +kernel
theorem dX0_firstFault_1 : decode cX0_firstFault 1 = .ok (.istore_n 3, 1) := by decide +kernel
theorem dX0_firstFault_2 : decode cX0_firstFault 2 = .ok (.iload_n 3, 1) := by decide +kernel
theorem dX0_firstFault_3 : decode cX0_firstFault 3 = .ok (.iload_n 2, 1) := by decide +kernel
theorem dX0_firstFault_4 : decode cX0_firstFault 4 = .ok (.if_icmp .ge 23, 3) := by decide +kernel
theorem dX0_firstFault_7 : decode cX0_firstFault 7 = .ok (.iload_n 3, 1) := by decide +kernel
theorem dX0_firstFault_8 : decode cX0_firstFault 8 = .ok (.aload_n 0, 1) := by decide +kernel
theorem dX0_firstFault_9 : decode cX0_firstFault 9 = .ok (.iload_n 1, 1) := by decide +kernel
theorem dX0_firstFault_10 : decode cX0_firstFault 10 = .ok (.iload_n 3, 1) := by decide +kernel
theorem dX0_firstFault_11 : decode cX0_firstFault 11 = .ok (.iadd, 1) := by decide +kernel
theorem dX0_firstFault_12 : decode cX0_firstFault 12 = .ok (.iaload, 1) := by decide +kernel
theorem dX0_firstFault_13 : decode cX0_firstFault 13 = .ok (.invokestatic 32, 3) := by decide +kernel
theorem dX0_firstFault_16 : decode cX0_firstFault 16 = .ok (.ifCond .ne 5, 3) := by decide +kernel
theorem dX0_firstFault_19 : decode cX0_firstFault 19 = .ok (.iload_n 3, 1) := by decide +kernel
theorem dX0_firstFault_20 : decode cX0_firstFault 20 = .ok (.ireturn, 1) := by decide +kernel
theorem dX0_firstFault_21 : decode cX0_firstFault 21 = .ok (.iinc 3 1, 3) := by decide +kernel
theorem dX0_firstFault_24 : decode cX0_firstFault 24 = .ok (.goto (-22), 3) := by decide +kernel
theorem dX0_firstFault_27 : decode cX0_firstFault 27 = .ok (.iload_n 2, 1) := by decide +kernel
theorem dX0_firstFault_28 : decode cX0_firstFault 28 = .ok (.iconst 2, 1) := by decide +kernel
theorem dX0_firstFault_29 : decode cX0_firstFault 29 = .ok (.if_icmp .le 15, 3) := by decide +kernel
theorem dX0_firstFault_32 : decode cX0_firstFault 32 = .ok (.iload_n 2, 1) := by decide +kernel
theorem dX0_firstFault_33 : decode cX0_firstFault 33 = .ok (.iconst 2, 1) := by decide +kernel
theorem dX0_firstFault_34 : decode cX0_firstFault 34 = .ok (.isub, 1) := by decide +kernel
theorem dX0_firstFault_35 : decode cX0_firstFault 35 = .ok (.iconst 4, 1) := by decide +kernel
theorem dX0_firstFault_36 : decode cX0_firstFault 36 = .ok (.irem, 1) := by decide +kernel
theorem dX0_firstFault_37 : decode cX0_firstFault 37 = .ok (.ifCond .ne 7, 3) := by decide +kernel
theorem dX0_firstFault_40 : decode cX0_firstFault 40 = .ok (.iconst 1, 1) := by decide +kernel
theorem dX0_firstFault_41 : decode cX0_firstFault 41 = .ok (.goto 4, 3) := by decide +kernel
theorem dX0_firstFault_44 : decode cX0_firstFault 44 = .ok (.iconst 0, 1) := by decide +kernel
theorem dX0_firstFault_45 : decode cX0_firstFault 45 = .ok (.istore_n 3, 1) := by decide +kernel
theorem dX0_firstFault_46 : decode cX0_firstFault 46 = .ok (.iload_n 3, 1) := by decide +kernel
theorem dX0_firstFault_47 : decode cX0_firstFault 47 = .ok (.ifCond .eq 8, 3) := by decide +kernel
theorem dX0_firstFault_50 : decode cX0_firstFault 50 = .ok (.bipush (-9), 2) := by decide +kernel
theorem dX0_firstFault_52 : decode cX0_firstFault 52 = .ok (.goto 4, 3) := by decide +kernel
theorem dX0_firstFault_55 : decode cX0_firstFault 55 = .ok (.iload_n 2, 1) := by decide +kernel
theorem dX0_firstFault_56 : decode cX0_firstFault 56 = .ok (.ireturn, 1) := by decide +kernel
theorem dX0_goesOn_0 : decode cX0_goesOn 0 = .ok (.iload_n 0, 1) := by decide +kernel
theorem dX0_goesOn_1 : decode cX0_goesOn 1 = .ok (.ifCond .ne 15, 3) := by decide +kernel
theorem dX0_goesOn_4 : decode cX0_goesOn 4 = .ok (.iload_n 1, 1) := by decide +kernel
theorem dX0_goesOn_5 : decode cX0_goesOn 5 = .ok (.bipush 122, 2) := by decide +kernel
theorem dX0_goesOn_7 : decode cX0_goesOn 7 = .ok (.if_icmp .ne 7, 3) := by decide +kernel
theorem dX0_goesOn_10 : decode cX0_goesOn 10 = .ok (.iconst 1, 1) := by decide +kernel
theorem dX0_goesOn_11 : decode cX0_goesOn 11 = .ok (.goto 4, 3) := by decide +kernel
theorem dX0_goesOn_14 : decode cX0_goesOn 14 = .ok (.iconst 0, 1) := by decide +kernel
theorem dX0_goesOn_15 : decode cX0_goesOn 15 = .ok (.ireturn, 1) := by decide +kernel
theorem dX0_goesOn_16 : decode cX0_goesOn 16 = .ok (.iload_n 0, 1) := by decide +kernel
theorem dX0_goesOn_17 : decode cX0_goesOn 17 = .ok (.iconst 1, 1) := by decide +kernel
theorem dX0_goesOn_18 : decode cX0_goesOn 18 = .ok (.if_icmp .ne 21, 3) := by decide +kernel
theorem dX0_goesOn_21 : decode cX0_goesOn 21 = .ok (.iload_n 1, 1) := by decide +kernel
theorem dX0_goesOn_22 : decode cX0_goesOn 22 = .ok (.bipush 49, 2) := by decide +kernel
theorem dX0_goesOn_24 : decode cX0_goesOn 24 = .ok (.if_icmp .lt 13, 3) := by decide +kernel
theorem dX0_goesOn_27 : decode cX0_goesOn 27 = .ok (.iload_n 1, 1) := by decide +kernel
theorem dX0_goesOn_28 : decode cX0_goesOn 28 = .ok (.bipush 53, 2) := by decide +kernel
theorem dX0_goesOn_30 : decode cX0_goesOn 30 = .ok (.if_icmp .gt 7, 3) := by decide +kernel
theorem dX0_goesOn_33 : decode cX0_goesOn 33 = .ok (.iconst 1, 1) := by decide +kernel
theorem dX0_goesOn_34 : decode cX0_goesOn 34 = .ok (.goto 4, 3) := by decide +kernel
theorem dX0_goesOn_37 : decode cX0_goesOn 37 = .ok (.iconst 0, 1) := by decide +kernel
theorem dX0_goesOn_38 : decode cX0_goesOn 38 = .ok (.ireturn, 1) := by decide +kernel
theorem dX0_goesOn_39 : decode cX0_goesOn 39 = .ok (.iload_n 0, 1) := by decide +kernel
theorem dX0_goesOn_40 : decode cX0_goesOn 40 = .ok (.iconst 2, 1) := by decide +kernel
theorem dX0_goesOn_41 : decode cX0_goesOn 41 = .ok (.isub, 1) := by decide +kernel
theorem dX0_goesOn_42 : decode cX0_goesOn 42 = .ok (.iconst 4, 1) := by decide +kernel
theorem dX0_goesOn_43 : decode cX0_goesOn 43 = .ok (.irem, 1) := by decide +kernel
theorem dX0_goesOn_44 : decode cX0_goesOn 44 = .ok (.tableswitch 88 0 2 #[28, 46, 70], 28) := by decide +kernel
theorem dX0_goesOn_72 : decode cX0_goesOn 72 = .ok (.iload_n 1, 1) := by decide +kernel
theorem dX0_goesOn_73 : decode cX0_goesOn 73 = .ok (.bipush 44, 2) := by decide +kernel
theorem dX0_goesOn_75 : decode cX0_goesOn 75 = .ok (.if_icmp .ne 13, 3) := by decide +kernel
theorem dX0_goesOn_78 : decode cX0_goesOn 78 = .ok (.iload_n 0, 1) := by decide +kernel
theorem dX0_goesOn_79 : decode cX0_goesOn 79 = .ok (.bipush 22, 2) := by decide +kernel
theorem dX0_goesOn_81 : decode cX0_goesOn 81 = .ok (.if_icmp .ge 7, 3) := by decide +kernel
theorem dX0_goesOn_84 : decode cX0_goesOn 84 = .ok (.iconst 1, 1) := by decide +kernel
theorem dX0_goesOn_85 : decode cX0_goesOn 85 = .ok (.goto 4, 3) := by decide +kernel
theorem dX0_goesOn_88 : decode cX0_goesOn 88 = .ok (.iconst 0, 1) := by decide +kernel
theorem dX0_goesOn_89 : decode cX0_goesOn 89 = .ok (.ireturn, 1) := by decide +kernel
theorem dX0_goesOn_90 : decode cX0_goesOn 90 = .ok (.iload_n 1, 1) := by decide +kernel
theorem dX0_goesOn_91 : decode cX0_goesOn 91 = .ok (.bipush 99, 2) := by decide +kernel
theorem dX0_goesOn_93 : decode cX0_goesOn 93 = .ok (.if_icmp .eq 15, 3) := by decide +kernel
theorem dX0_goesOn_96 : decode cX0_goesOn 96 = .ok (.iload_n 1, 1) := by decide +kernel
theorem dX0_goesOn_97 : decode cX0_goesOn 97 = .ok (.bipush 98, 2) := by decide +kernel
theorem dX0_goesOn_99 : decode cX0_goesOn 99 = .ok (.if_icmp .eq 9, 3) := by decide +kernel
theorem dX0_goesOn_102 : decode cX0_goesOn 102 = .ok (.iload_n 1, 1) := by decide +kernel
theorem dX0_goesOn_103 : decode cX0_goesOn 103 = .ok (.bipush 116, 2) := by decide +kernel
theorem dX0_goesOn_105 : decode cX0_goesOn 105 = .ok (.if_icmp .ne 7, 3) := by decide +kernel
theorem dX0_goesOn_108 : decode cX0_goesOn 108 = .ok (.iconst 1, 1) := by decide +kernel
theorem dX0_goesOn_109 : decode cX0_goesOn 109 = .ok (.goto 4, 3) := by decide +kernel
theorem dX0_goesOn_112 : decode cX0_goesOn 112 = .ok (.iconst 0, 1) := by decide +kernel
theorem dX0_goesOn_113 : decode cX0_goesOn 113 = .ok (.ireturn, 1) := by decide +kernel
theorem dX0_goesOn_114 : decode cX0_goesOn 114 = .ok (.iload_n 1, 1) := by decide +kernel
theorem dX0_goesOn_115 : decode cX0_goesOn 115 = .ok (.bipush 48, 2) := by decide +kernel
theorem dX0_goesOn_117 : decode cX0_goesOn 117 = .ok (.if_icmp .lt 13, 3) := by decide +kernel
theorem dX0_goesOn_120 : decode cX0_goesOn 120 = .ok (.iload_n 1, 1) := by decide +kernel
theorem dX0_goesOn_121 : decode cX0_goesOn 121 = .ok (.bipush 52, 2) := by decide +kernel
theorem dX0_goesOn_123 : decode cX0_goesOn 123 = .ok (.if_icmp .gt 7, 3) := by decide +kernel
theorem dX0_goesOn_126 : decode cX0_goesOn 126 = .ok (.iconst 1, 1) := by decide +kernel
theorem dX0_goesOn_127 : decode cX0_goesOn 127 = .ok (.goto 4, 3) := by decide +kernel
theorem dX0_goesOn_130 : decode cX0_goesOn 130 = .ok (.iconst 0, 1) := by decide +kernel
theorem dX0_goesOn_131 : decode cX0_goesOn 131 = .ok (.ireturn, 1) := by decide +kernel
theorem dX0_goesOn_132 : decode cX0_goesOn 132 = .ok (.iload_n 1, 1) := by decide +kernel
theorem dX0_goesOn_133 : decode cX0_goesOn 133 = .ok (.bipush 48, 2) := by decide +kernel
theorem dX0_goesOn_135 : decode cX0_goesOn 135 = .ok (.if_icmp .lt 13, 3) := by decide +kernel
theorem dX0_goesOn_138 : decode cX0_goesOn 138 = .ok (.iload_n 1, 1) := by decide +kernel
theorem dX0_goesOn_139 : decode cX0_goesOn 139 = .ok (.bipush 57, 2) := by decide +kernel
theorem dX0_goesOn_141 : decode cX0_goesOn 141 = .ok (.if_icmp .gt 7, 3) := by decide +kernel
theorem dX0_goesOn_144 : decode cX0_goesOn 144 = .ok (.iconst 1, 1) := by decide +kernel
theorem dX0_goesOn_145 : decode cX0_goesOn 145 = .ok (.goto 4, 3) := by decide +kernel
theorem dX0_goesOn_148 : decode cX0_goesOn 148 = .ok (.iconst 0, 1) := by decide +kernel
theorem dX0_goesOn_149 : decode cX0_goesOn 149 = .ok (.ireturn, 1) := by decide +kernel
theorem dX0_takeText_0 : decode cX0_takeText 0 = .ok (.aload_n 0, 1) := by decide +kernel
theorem dX0_takeText_1 : decode cX0_takeText 1 = .ok (.aload_n 1, 1) := by decide +kernel
theorem dX0_takeText_2 : decode cX0_takeText 2 = .ok (.iload_n 2, 1) := by decide +kernel
theorem dX0_takeText_3 : decode cX0_takeText 3 = .ok (.iconst 1, 1) := by decide +kernel
theorem dX0_takeText_4 : decode cX0_takeText 4 = .ok (.iadd, 1) := by decide +kernel
theorem dX0_takeText_5 : decode cX0_takeText 5 = .ok (.iaload, 1) := by decide +kernel
theorem dX0_takeText_6 : decode cX0_takeText 6 = .ok (.bipush 48, 2) := by decide +kernel
theorem dX0_takeText_8 : decode cX0_takeText 8 = .ok (.isub, 1) := by decide +kernel
theorem dX0_takeText_9 : decode cX0_takeText 9 = .ok (.putfield 25, 3) := by decide +kernel
theorem dX0_takeText_12 : decode cX0_takeText 12 = .ok (.aload_n 0, 1) := by decide +kernel
theorem dX0_takeText_13 : decode cX0_takeText 13 = .ok (.iload_n 3, 1) := by decide +kernel
theorem dX0_takeText_14 : decode cX0_takeText 14 = .ok (.iconst 2, 1) := by decide +kernel
theorem dX0_takeText_15 : decode cX0_takeText 15 = .ok (.isub, 1) := by decide +kernel
theorem dX0_takeText_16 : decode cX0_takeText 16 = .ok (.iconst 4, 1) := by decide +kernel
theorem dX0_takeText_17 : decode cX0_takeText 17 = .ok (.idiv, 1) := by decide +kernel
theorem dX0_takeText_18 : decode cX0_takeText 18 = .ok (.iconst 5, 1) := by decide +kernel
theorem dX0_takeText_19 : decode cX0_takeText 19 = .ok (.invokestatic 36, 3) := by decide +kernel
theorem dX0_takeText_22 : decode cX0_takeText 22 = .ok (.putfield 21, 3) := by decide +kernel
theorem dX0_takeText_25 : decode cX0_takeText 25 = .ok (.iconst 0, 1) := by decide +kernel
theorem dX0_takeText_26 : decode cX0_takeText 26 = .ok (.istore 4, 2) := by decide +kernel
theorem dX0_takeText_28 : decode cX0_takeText 28 = .ok (.iload 4, 2) := by decide +kernel
theorem dX0_takeText_30 : decode cX0_takeText 30 = .ok (.aload_n 0, 1) := by decide +kernel
theorem dX0_takeText_31 : decode cX0_takeText 31 = .ok (.getfield 21, 3) := by decide +kernel
theorem dX0_takeText_34 : decode cX0_takeText 34 = .ok (.if_icmp .ge 67, 3) := by decide +kernel
theorem dX0_takeText_37 : decode cX0_takeText 37 = .ok (.iload_n 2, 1) := by decide +kernel
theorem dX0_takeText_38 : decode cX0_takeText 38 = .ok (.iconst 2, 1) := by decide +kernel
theorem dX0_takeText_39 : decode cX0_takeText 39 = .ok (.iadd, 1) := by decide +kernel
theorem dX0_takeText_40 : decode cX0_takeText 40 = .ok (.iload 4, 2) := by decide +kernel
theorem dX0_takeText_42 : decode cX0_takeText 42 = .ok (.iconst 4, 1) := by decide +kernel
theorem dX0_takeText_43 : decode cX0_takeText 43 = .ok (.imul, 1) := by decide +kernel
theorem dX0_takeText_44 : decode cX0_takeText 44 = .ok (.iadd, 1) := by decide +kernel
theorem dX0_takeText_45 : decode cX0_takeText 45 = .ok (.istore 5, 2) := by decide +kernel
theorem dX0_takeText_47 : decode cX0_takeText 47 = .ok (.aload_n 0, 1) := by decide +kernel
theorem dX0_takeText_48 : decode cX0_takeText 48 = .ok (.getfield 9, 3) := by decide +kernel
theorem dX0_takeText_51 : decode cX0_takeText 51 = .ok (.iload 4, 2) := by decide +kernel
theorem dX0_takeText_53 : decode cX0_takeText 53 = .ok (.aload_n 1, 1) := by decide +kernel
theorem dX0_takeText_54 : decode cX0_takeText 54 = .ok (.iload 5, 2) := by decide +kernel
theorem dX0_takeText_56 : decode cX0_takeText 56 = .ok (.iconst 1, 1) := by decide +kernel
theorem dX0_takeText_57 : decode cX0_takeText 57 = .ok (.iadd, 1) := by decide +kernel
theorem dX0_takeText_58 : decode cX0_takeText 58 = .ok (.iaload, 1) := by decide +kernel
theorem dX0_takeText_59 : decode cX0_takeText 59 = .ok (.invokestatic 42, 3) := by decide +kernel
theorem dX0_takeText_62 : decode cX0_takeText 62 = .ok (.iastore, 1) := by decide +kernel
theorem dX0_takeText_63 : decode cX0_takeText 63 = .ok (.aload_n 0, 1) := by decide +kernel
theorem dX0_takeText_64 : decode cX0_takeText 64 = .ok (.getfield 15, 3) := by decide +kernel
theorem dX0_takeText_67 : decode cX0_takeText 67 = .ok (.iload 4, 2) := by decide +kernel
theorem dX0_takeText_69 : decode cX0_takeText 69 = .ok (.aload_n 1, 1) := by decide +kernel
theorem dX0_takeText_70 : decode cX0_takeText 70 = .ok (.iload 5, 2) := by decide +kernel
theorem dX0_takeText_72 : decode cX0_takeText 72 = .ok (.iconst 2, 1) := by decide +kernel
theorem dX0_takeText_73 : decode cX0_takeText 73 = .ok (.iadd, 1) := by decide +kernel
theorem dX0_takeText_74 : decode cX0_takeText 74 = .ok (.iaload, 1) := by decide +kernel
theorem dX0_takeText_75 : decode cX0_takeText 75 = .ok (.bipush 48, 2) := by decide +kernel
theorem dX0_takeText_77 : decode cX0_takeText 77 = .ok (.isub, 1) := by decide +kernel
theorem dX0_takeText_78 : decode cX0_takeText 78 = .ok (.iastore, 1) := by decide +kernel
theorem dX0_takeText_79 : decode cX0_takeText 79 = .ok (.aload_n 0, 1) := by decide +kernel
theorem dX0_takeText_80 : decode cX0_takeText 80 = .ok (.getfield 18, 3) := by decide +kernel
theorem dX0_takeText_83 : decode cX0_takeText 83 = .ok (.iload 4, 2) := by decide +kernel
theorem dX0_takeText_85 : decode cX0_takeText 85 = .ok (.aload_n 1, 1) := by decide +kernel
theorem dX0_takeText_86 : decode cX0_takeText 86 = .ok (.iload 5, 2) := by decide +kernel
theorem dX0_takeText_88 : decode cX0_takeText 88 = .ok (.iconst 3, 1) := by decide +kernel
theorem dX0_takeText_89 : decode cX0_takeText 89 = .ok (.iadd, 1) := by decide +kernel
theorem dX0_takeText_90 : decode cX0_takeText 90 = .ok (.iaload, 1) := by decide +kernel
theorem dX0_takeText_91 : decode cX0_takeText 91 = .ok (.bipush 48, 2) := by decide +kernel
theorem dX0_takeText_93 : decode cX0_takeText 93 = .ok (.isub, 1) := by decide +kernel
theorem dX0_takeText_94 : decode cX0_takeText 94 = .ok (.iastore, 1) := by decide +kernel
theorem dX0_takeText_95 : decode cX0_takeText 95 = .ok (.iinc 4 1, 3) := by decide +kernel
theorem dX0_takeText_98 : decode cX0_takeText 98 = .ok (.goto (-70), 3) := by decide +kernel
theorem dX0_takeText_101 : decode cX0_takeText 101 = .ok (.return_, 1) := by decide +kernel
theorem dX0_kindOf_0 : decode cX0_kindOf 0 = .ok (.iload_n 0, 1) := by decide +kernel
theorem dX0_kindOf_1 : decode cX0_kindOf 1 = .ok (.bipush 116, 2) := by decide +kernel
theorem dX0_kindOf_3 : decode cX0_kindOf 3 = .ok (.if_icmp .ne 5, 3) := by decide +kernel
theorem dX0_kindOf_6 : decode cX0_kindOf 6 = .ok (.iconst 2, 1) := by decide +kernel
theorem dX0_kindOf_7 : decode cX0_kindOf 7 = .ok (.ireturn, 1) := by decide +kernel
theorem dX0_kindOf_8 : decode cX0_kindOf 8 = .ok (.iload_n 0, 1) := by decide +kernel
theorem dX0_kindOf_9 : decode cX0_kindOf 9 = .ok (.bipush 98, 2) := by decide +kernel
theorem dX0_kindOf_11 : decode cX0_kindOf 11 = .ok (.if_icmp .ne 7, 3) := by decide +kernel
theorem dX0_kindOf_14 : decode cX0_kindOf 14 = .ok (.iconst 1, 1) := by decide +kernel
theorem dX0_kindOf_15 : decode cX0_kindOf 15 = .ok (.goto 4, 3) := by decide +kernel
theorem dX0_kindOf_18 : decode cX0_kindOf 18 = .ok (.iconst 0, 1) := by decide +kernel
theorem dX0_kindOf_19 : decode cX0_kindOf 19 = .ok (.ireturn, 1) := by decide +kernel
theorem dX1_init_0 : decode cX1_init 0 = .ok (.aload_n 0, 1) := by decide +kernel
theorem dX1_init_1 : decode cX1_init 1 = .ok (.invokespecial 3, 3) := by decide +kernel
theorem dX1_init_4 : decode cX1_init 4 = .ok (.aload_n 0, 1) := by decide +kernel
theorem dX1_init_5 : decode cX1_init 5 = .ok (.aload_n 1, 1) := by decide +kernel
theorem dX1_init_6 : decode cX1_init 6 = .ok (.putfield 9, 3) := by decide +kernel
theorem dX1_init_9 : decode cX1_init 9 = .ok (.aload_n 0, 1) := by decide +kernel
theorem dX1_init_10 : decode cX1_init 10 = .ok (.aload_n 2, 1) := by decide +kernel
theorem dX1_init_11 : decode cX1_init 11 = .ok (.putfield 15, 3) := by decide +kernel
theorem dX1_init_14 : decode cX1_init 14 = .ok (.aload_n 0, 1) := by decide +kernel
theorem dX1_init_15 : decode cX1_init 15 = .ok (.aload_n 3, 1) := by decide +kernel
theorem dX1_init_16 : decode cX1_init 16 = .ok (.putfield 19, 3) := by decide +kernel
theorem dX1_init_19 : decode cX1_init 19 = .ok (.aload_n 0, 1) := by decide +kernel
theorem dX1_init_20 : decode cX1_init 20 = .ok (.iconst 5, 1) := by decide +kernel
theorem dX1_init_21 : decode cX1_init 21 = .ok (.newarray .int, 2) := by decide +kernel
theorem dX1_init_23 : decode cX1_init 23 = .ok (.putfield 22, 3) := by decide +kernel
theorem dX1_init_26 : decode cX1_init 26 = .ok (.aload_n 0, 1) := by decide +kernel
theorem dX1_init_27 : decode cX1_init 27 = .ok (.iconst 5, 1) := by decide +kernel
theorem dX1_init_28 : decode cX1_init 28 = .ok (.newarray .int, 2) := by decide +kernel
theorem dX1_init_30 : decode cX1_init 30 = .ok (.putfield 26, 3) := by decide +kernel
theorem dX1_init_33 : decode cX1_init 33 = .ok (.aload_n 0, 1) := by decide +kernel
theorem dX1_init_34 : decode cX1_init 34 = .ok (.iconst 5, 1) := by decide +kernel
theorem dX1_init_35 : decode cX1_init 35 = .ok (.newarray .int, 2) := by decide +kernel
theorem dX1_init_37 : decode cX1_init 37 = .ok (.putfield 29, 3) := by decide +kernel
theorem dX1_init_40 : decode cX1_init 40 = .ok (.return_, 1) := by decide +kernel
theorem dX1_judgeDinner_0 : decode cX1_judgeDinner 0 = .ok (.aload_n 0, 1) := by decide +kernel
theorem dX1_judgeDinner_1 : decode cX1_judgeDinner 1 = .ok (.iload_n 1, 1) := by decide +kernel
theorem dX1_judgeDinner_2 : decode cX1_judgeDinner 2 = .ok (.invokevirtual 32, 3) := by decide +kernel
theorem dX1_judgeDinner_5 : decode cX1_judgeDinner 5 = .ok (.aload_n 0, 1) := by decide +kernel
theorem dX1_judgeDinner_6 : decode cX1_judgeDinner 6 = .ok (.iconst (-1), 1) := by decide +kernel
theorem dX1_judgeDinner_7 : decode cX1_judgeDinner 7 = .ok (.iconst (-1), 1) := by decide +kernel
theorem dX1_judgeDinner_8 : decode cX1_judgeDinner 8 = .ok (.invokevirtual 36, 3) := by decide +kernel
theorem dX1_judgeDinner_11 : decode cX1_judgeDinner 11 = .ok (.return_, 1) := by decide +kernel
theorem dX1_recall_0 : decode cX1_recall 0 = .ok (.iconst 0, 1) := by decide +kernel
theorem dX1_recall_1 : decode cX1_recall 1 = .ok (.istore_n 2, 1) := by decide +kernel
theorem dX1_recall_2 : decode cX1_recall 2 = .ok (.iload_n 2, 1) := by decide +kernel
theorem dX1_recall_3 : decode cX1_recall 3 = .ok (.aload_n 0, 1) := by decide +kernel
theorem dX1_recall_4 : decode cX1_recall 4 = .ok (.getfield 9, 3) := by decide +kernel
theorem dX1_recall_7 : decode cX1_recall 7 = .ok (.getfield 40, 3) := by decide +kernel
theorem dX1_recall_10 : decode cX1_recall 10 = .ok (.if_icmp .ge 57, 3) := by decide +kernel
theorem dX1_recall_13 : decode cX1_recall 13 = .ok (.aload_n 0, 1) := by decide +kernel
theorem dX1_recall_14 : decode cX1_recall 14 = .ok (.getfield 22, 3) := by decide +kernel
theorem dX1_recall_17 : decode cX1_recall 17 = .ok (.iload_n 2, 1) := by decide +kernel
theorem dX1_recall_18 : decode cX1_recall 18 = .ok (.iconst 0, 1) := by decide +kernel
theorem dX1_recall_19 : decode cX1_recall 19 = .ok (.iastore, 1) := by decide +kernel
theorem dX1_recall_20 : decode cX1_recall 20 = .ok (.iconst 0, 1) := by decide +kernel
theorem dX1_recall_21 : decode cX1_recall 21 = .ok (.istore_n 3, 1) := by decide +kernel
theorem dX1_recall_22 : decode cX1_recall 22 = .ok (.iload_n 3, 1) := by decide +kernel
theorem dX1_recall_23 : decode cX1_recall 23 = .ok (.aload_n 0, 1) := by decide +kernel
theorem dX1_recall_24 : decode cX1_recall 24 = .ok (.getfield 15, 3) := by decide +kernel
theorem dX1_recall_27 : decode cX1_recall 27 = .ok (.getfield 46, 3) := by decide +kernel
theorem dX1_recall_30 : decode cX1_recall 30 = .ok (.if_icmp .ge 31, 3) := by decide +kernel
theorem dX1_recall_33 : decode cX1_recall 33 = .ok (.aload_n 0, 1) := by decide +kernel
theorem dX1_recall_34 : decode cX1_recall 34 = .ok (.iload_n 2, 1) := by decide +kernel
theorem dX1_recall_35 : decode cX1_recall 35 = .ok (.iload_n 3, 1) := by decide +kernel
theorem dX1_recall_36 : decode cX1_recall 36 = .ok (.iload_n 1, 1) := by decide +kernel
theorem dX1_recall_37 : decode cX1_recall 37 = .ok (.invokevirtual 51, 3) := by decide +kernel
theorem dX1_recall_40 : decode cX1_recall 40 = .ok (.ifCond .eq 15, 3) := by decide +kernel
theorem dX1_recall_43 : decode cX1_recall 43 = .ok (.aload_n 0, 1) := by decide +kernel
theorem dX1_recall_44 : decode cX1_recall 44 = .ok (.getfield 22, 3) := by decide +kernel
theorem dX1_recall_47 : decode cX1_recall 47 = .ok (.iload_n 2, 1) := by decide +kernel
theorem dX1_recall_48 : decode cX1_recall 48 = .ok (.dup2, 1) := by decide +kernel
theorem dX1_recall_49 : decode cX1_recall 49 = .ok (.iaload, 1) := by decide +kernel
theorem dX1_recall_50 : decode cX1_recall 50 = .ok (.iconst 1, 1) := by decide +kernel
theorem dX1_recall_51 : decode cX1_recall 51 = .ok (.iload_n 3, 1) := by decide +kernel
theorem dX1_recall_52 : decode cX1_recall 52 = .ok (.ishl, 1) := by decide +kernel
theorem dX1_recall_53 : decode cX1_recall 53 = .ok (.ior, 1) := by decide +kernel
theorem dX1_recall_54 : decode cX1_recall 54 = .ok (.iastore, 1) := by decide +kernel
theorem dX1_recall_55 : decode cX1_recall 55 = .ok (.iinc 3 1, 3) := by decide +kernel
theorem dX1_recall_58 : decode cX1_recall 58 = .ok (.goto (-36), 3) := by decide +kernel
theorem dX1_recall_61 : decode cX1_recall 61 = .ok (.iinc 2 1, 3) := by decide +kernel
theorem dX1_recall_64 : decode cX1_recall 64 = .ok (.goto (-62), 3) := by decide +kernel
theorem dX1_recall_67 : decode cX1_recall 67 = .ok (.return_, 1) := by decide +kernel
theorem dX1_isHeld_0 : decode cX1_isHeld 0 = .ok (.iload_n 3, 1) := by decide +kernel
theorem dX1_isHeld_1 : decode cX1_isHeld 1 = .ok (.aload_n 0, 1) := by decide +kernel
theorem dX1_isHeld_2 : decode cX1_isHeld 2 = .ok (.getfield 15, 3) := by decide +kernel
theorem dX1_isHeld_5 : decode cX1_isHeld 5 = .ok (.getfield 55, 3) := by decide +kernel
theorem dX1_isHeld_8 : decode cX1_isHeld 8 = .ok (.iload_n 2, 1) := by decide +kernel
theorem dX1_isHeld_9 : decode cX1_isHeld 9 = .ok (.iaload, 1) := by decide +kernel
theorem dX1_isHeld_10 : decode cX1_isHeld 10 = .ok (.isub, 1) := by decide +kernel
theorem dX1_isHeld_11 : decode cX1_isHeld 11 = .ok (.istore 4, 2) := by decide +kernel
theorem dX1_isHeld_13 : decode cX1_isHeld 13 = .ok (.aload_n 0, 1) := by decide +kernel
theorem dX1_isHeld_14 : decode cX1_isHeld 14 = .ok (.getfield 9, 3) := by decide +kernel
theorem dX1_isHeld_17 : decode cX1_isHeld 17 = .ok (.getfield 58, 3) := by decide +kernel
theorem dX1_isHeld_20 : decode cX1_isHeld 20 = .ok (.iload_n 1, 1) := by decide +kernel
theorem dX1_isHeld_21 : decode cX1_isHeld 21 = .ok (.iaload, 1) := by decide +kernel
theorem dX1_isHeld_22 : decode cX1_isHeld 22 = .ok (.iconst 2, 1) := by decide +kernel
theorem dX1_isHeld_23 : decode cX1_isHeld 23 = .ok (.if_icmp .ne 17, 3) := by decide +kernel
theorem dX1_isHeld_26 : decode cX1_isHeld 26 = .ok (.iconst 2, 1) := by decide +kernel
theorem dX1_isHeld_27 : decode cX1_isHeld 27 = .ok (.aload_n 0, 1) := by decide +kernel
theorem dX1_isHeld_28 : decode cX1_isHeld 28 = .ok (.getfield 9, 3) := by decide +kernel
theorem dX1_isHeld_31 : decode cX1_isHeld 31 = .ok (.getfield 61, 3) := by decide +kernel
theorem dX1_isHeld_34 : decode cX1_isHeld 34 = .ok (.iload_n 1, 1) := by decide +kernel
theorem dX1_isHeld_35 : decode cX1_isHeld 35 = .ok (.iaload, 1) := by decide +kernel
theorem dX1_isHeld_36 : decode cX1_isHeld 36 = .ok (.imul, 1) := by decide +kernel
theorem dX1_isHeld_37 : decode cX1_isHeld 37 = .ok (.goto 12, 3) := by decide +kernel
theorem dX1_isHeld_40 : decode cX1_isHeld 40 = .ok (.aload_n 0, 1) := by decide +kernel
theorem dX1_isHeld_41 : decode cX1_isHeld 41 = .ok (.getfield 9, 3) := by decide +kernel
theorem dX1_isHeld_44 : decode cX1_isHeld 44 = .ok (.getfield 61, 3) := by decide +kernel
theorem dX1_isHeld_47 : decode cX1_isHeld 47 = .ok (.iload_n 1, 1) := by decide +kernel
theorem dX1_isHeld_48 : decode cX1_isHeld 48 = .ok (.iaload, 1) := by decide +kernel
theorem dX1_isHeld_49 : decode cX1_isHeld 49 = .ok (.istore 5, 2) := by decide +kernel
theorem dX1_isHeld_51 : decode cX1_isHeld 51 = .ok (.iload 4, 2) := by decide +kernel
theorem dX1_isHeld_53 : decode cX1_isHeld 53 = .ok (.iconst 1, 1) := by decide +kernel
theorem dX1_isHeld_54 : decode cX1_isHeld 54 = .ok (.if_icmp .lt 50, 3) := by decide +kernel
theorem dX1_isHeld_57 : decode cX1_isHeld 57 = .ok (.iload 4, 2) := by decide +kernel
theorem dX1_isHeld_59 : decode cX1_isHeld 59 = .ok (.iload 5, 2) := by decide +kernel
theorem dX1_isHeld_61 : decode cX1_isHeld 61 = .ok (.if_icmp .gt 43, 3) := by decide +kernel
theorem dX1_isHeld_64 : decode cX1_isHeld 64 = .ok (.iload_n 1, 1) := by decide +kernel
theorem dX1_isHeld_65 : decode cX1_isHeld 65 = .ok (.aload_n 0, 1) := by decide +kernel
theorem dX1_isHeld_66 : decode cX1_isHeld 66 = .ok (.getfield 15, 3) := by decide +kernel
theorem dX1_isHeld_69 : decode cX1_isHeld 69 = .ok (.getfield 64, 3) := by decide +kernel
theorem dX1_isHeld_72 : decode cX1_isHeld 72 = .ok (.iload_n 2, 1) := by decide +kernel
theorem dX1_isHeld_73 : decode cX1_isHeld 73 = .ok (.iaload, 1) := by decide +kernel
theorem dX1_isHeld_74 : decode cX1_isHeld 74 = .ok (.isub, 1) := by decide +kernel
theorem dX1_isHeld_75 : decode cX1_isHeld 75 = .ok (.invokestatic 67, 3) := by decide +kernel
theorem dX1_isHeld_78 : decode cX1_isHeld 78 = .ok (.aload_n 0, 1) := by decide +kernel
theorem dX1_isHeld_79 : decode cX1_isHeld 79 = .ok (.getfield 9, 3) := by decide +kernel
theorem dX1_isHeld_82 : decode cX1_isHeld 82 = .ok (.getfield 73, 3) := by decide +kernel
theorem dX1_isHeld_85 : decode cX1_isHeld 85 = .ok (.iload_n 1, 1) := by decide +kernel
theorem dX1_isHeld_86 : decode cX1_isHeld 86 = .ok (.iaload, 1) := by decide +kernel
theorem dX1_isHeld_87 : decode cX1_isHeld 87 = .ok (.if_icmp .gt 17, 3) := by decide +kernel
theorem dX1_isHeld_90 : decode cX1_isHeld 90 = .ok (.aload_n 0, 1) := by decide +kernel
theorem dX1_isHeld_91 : decode cX1_isHeld 91 = .ok (.iload_n 1, 1) := by decide +kernel
theorem dX1_isHeld_92 : decode cX1_isHeld 92 = .ok (.iload_n 2, 1) := by decide +kernel
theorem dX1_isHeld_93 : decode cX1_isHeld 93 = .ok (.iload_n 3, 1) := by decide +kernel
theorem dX1_isHeld_94 : decode cX1_isHeld 94 = .ok (.invokevirtual 76, 3) := by decide +kernel
theorem dX1_isHeld_97 : decode cX1_isHeld 97 = .ok (.ifCond .ne 7, 3) := by decide +kernel
theorem dX1_isHeld_100 : decode cX1_isHeld 100 = .ok (.iconst 1, 1) := by decide +kernel
theorem dX1_isHeld_101 : decode cX1_isHeld 101 = .ok (.goto 4, 3) := by decide +kernel
theorem dX1_isHeld_104 : decode cX1_isHeld 104 = .ok (.iconst 0, 1) := by decide +kernel
theorem dX1_isHeld_105 : decode cX1_isHeld 105 = .ok (.ireturn, 1) := by decide +kernel
theorem dX1_isForgiven_0 : decode cX1_isForgiven 0 = .ok (.iconst 0, 1) := by decide +kernel
theorem dX1_isForgiven_1 : decode cX1_isForgiven 1 = .ok (.istore 4, 2) := by decide +kernel
theorem dX1_isForgiven_3 : decode cX1_isForgiven 3 = .ok (.iload 4, 2) := by decide +kernel
theorem dX1_isForgiven_5 : decode cX1_isForgiven 5 = .ok (.aload_n 0, 1) := by decide +kernel
theorem dX1_isForgiven_6 : decode cX1_isForgiven 6 = .ok (.getfield 19, 3) := by decide +kernel
theorem dX1_isForgiven_9 : decode cX1_isForgiven 9 = .ok (.getfield 46, 3) := by decide +kernel
theorem dX1_isForgiven_12 : decode cX1_isForgiven 12 = .ok (.if_icmp .ge 83, 3) := by decide +kernel
theorem dX1_isForgiven_15 : decode cX1_isForgiven 15 = .ok (.aload_n 0, 1) := by decide +kernel
theorem dX1_isForgiven_16 : decode cX1_isForgiven 16 = .ok (.getfield 19, 3) := by decide +kernel
theorem dX1_isForgiven_19 : decode cX1_isForgiven 19 = .ok (.getfield 64, 3) := by decide +kernel
theorem dX1_isForgiven_22 : decode cX1_isForgiven 22 = .ok (.iload 4, 2) := by decide +kernel
theorem dX1_isForgiven_24 : decode cX1_isForgiven 24 = .ok (.iaload, 1) := by decide +kernel
theorem dX1_isForgiven_25 : decode cX1_isForgiven 25 = .ok (.iload_n 1, 1) := by decide +kernel
theorem dX1_isForgiven_26 : decode cX1_isForgiven 26 = .ok (.if_icmp .ne 63, 3) := by decide +kernel
theorem dX1_isForgiven_29 : decode cX1_isForgiven 29 = .ok (.aload_n 0, 1) := by decide +kernel
theorem dX1_isForgiven_30 : decode cX1_isForgiven 30 = .ok (.getfield 19, 3) := by decide +kernel
theorem dX1_isForgiven_33 : decode cX1_isForgiven 33 = .ok (.getfield 79, 3) := by decide +kernel
theorem dX1_isForgiven_36 : decode cX1_isForgiven 36 = .ok (.iload 4, 2) := by decide +kernel
theorem dX1_isForgiven_38 : decode cX1_isForgiven 38 = .ok (.iaload, 1) := by decide +kernel
theorem dX1_isForgiven_39 : decode cX1_isForgiven 39 = .ok (.aload_n 0, 1) := by decide +kernel
theorem dX1_isForgiven_40 : decode cX1_isForgiven 40 = .ok (.getfield 15, 3) := by decide +kernel
theorem dX1_isForgiven_43 : decode cX1_isForgiven 43 = .ok (.getfield 79, 3) := by decide +kernel
theorem dX1_isForgiven_46 : decode cX1_isForgiven 46 = .ok (.iload_n 2, 1) := by decide +kernel
theorem dX1_isForgiven_47 : decode cX1_isForgiven 47 = .ok (.iaload, 1) := by decide +kernel
theorem dX1_isForgiven_48 : decode cX1_isForgiven 48 = .ok (.if_icmp .ne 41, 3) := by decide +kernel
theorem dX1_isForgiven_51 : decode cX1_isForgiven 51 = .ok (.aload_n 0, 1) := by decide +kernel
theorem dX1_isForgiven_52 : decode cX1_isForgiven 52 = .ok (.getfield 19, 3) := by decide +kernel
theorem dX1_isForgiven_55 : decode cX1_isForgiven 55 = .ok (.getfield 55, 3) := by decide +kernel
theorem dX1_isForgiven_58 : decode cX1_isForgiven 58 = .ok (.iload 4, 2) := by decide +kernel
theorem dX1_isForgiven_60 : decode cX1_isForgiven 60 = .ok (.iaload, 1) := by decide +kernel
theorem dX1_isForgiven_61 : decode cX1_isForgiven 61 = .ok (.aload_n 0, 1) := by decide +kernel
theorem dX1_isForgiven_62 : decode cX1_isForgiven 62 = .ok (.getfield 15, 3) := by decide +kernel
theorem dX1_isForgiven_65 : decode cX1_isForgiven 65 = .ok (.getfield 55, 3) := by decide +kernel
theorem dX1_isForgiven_68 : decode cX1_isForgiven 68 = .ok (.iload_n 2, 1) := by decide +kernel
theorem dX1_isForgiven_69 : decode cX1_isForgiven 69 = .ok (.iaload, 1) := by decide +kernel
theorem dX1_isForgiven_70 : decode cX1_isForgiven 70 = .ok (.if_icmp .lt 19, 3) := by decide +kernel
theorem dX1_isForgiven_73 : decode cX1_isForgiven 73 = .ok (.aload_n 0, 1) := by decide +kernel
theorem dX1_isForgiven_74 : decode cX1_isForgiven 74 = .ok (.getfield 19, 3) := by decide +kernel
theorem dX1_isForgiven_77 : decode cX1_isForgiven 77 = .ok (.getfield 55, 3) := by decide +kernel
theorem dX1_isForgiven_80 : decode cX1_isForgiven 80 = .ok (.iload 4, 2) := by decide +kernel
theorem dX1_isForgiven_82 : decode cX1_isForgiven 82 = .ok (.iaload, 1) := by decide +kernel
theorem dX1_isForgiven_83 : decode cX1_isForgiven 83 = .ok (.iload_n 3, 1) := by decide +kernel
theorem dX1_isForgiven_84 : decode cX1_isForgiven 84 = .ok (.if_icmp .ge 5, 3) := by decide +kernel
theorem dX1_isForgiven_87 : decode cX1_isForgiven 87 = .ok (.iconst 1, 1) := by decide +kernel
theorem dX1_isForgiven_88 : decode cX1_isForgiven 88 = .ok (.ireturn, 1) := by decide +kernel
theorem dX1_isForgiven_89 : decode cX1_isForgiven 89 = .ok (.iinc 4 1, 3) := by decide +kernel
theorem dX1_isForgiven_92 : decode cX1_isForgiven 92 = .ok (.goto (-89), 3) := by decide +kernel
theorem dX1_isForgiven_95 : decode cX1_isForgiven 95 = .ok (.iconst 0, 1) := by decide +kernel
theorem dX1_isForgiven_96 : decode cX1_isForgiven 96 = .ok (.ireturn, 1) := by decide +kernel
theorem dX1_judge_0 : decode cX1_judge 0 = .ok (.iconst 0, 1) := by decide +kernel
theorem dX1_judge_1 : decode cX1_judge 1 = .ok (.istore_n 3, 1) := by decide +kernel
theorem dX1_judge_2 : decode cX1_judge 2 = .ok (.iconst 0, 1) := by decide +kernel
theorem dX1_judge_3 : decode cX1_judge 3 = .ok (.istore 4, 2) := by decide +kernel
theorem dX1_judge_5 : decode cX1_judge 5 = .ok (.iload 4, 2) := by decide +kernel
theorem dX1_judge_7 : decode cX1_judge 7 = .ok (.aload_n 0, 1) := by decide +kernel
theorem dX1_judge_8 : decode cX1_judge 8 = .ok (.getfield 9, 3) := by decide +kernel
theorem dX1_judge_11 : decode cX1_judge 11 = .ok (.getfield 40, 3) := by decide +kernel
theorem dX1_judge_14 : decode cX1_judge 14 = .ok (.if_icmp .ge 63, 3) := by decide +kernel
theorem dX1_judge_17 : decode cX1_judge 17 = .ok (.aload_n 0, 1) := by decide +kernel
theorem dX1_judge_18 : decode cX1_judge 18 = .ok (.getfield 26, 3) := by decide +kernel
theorem dX1_judge_21 : decode cX1_judge 21 = .ok (.iload 4, 2) := by decide +kernel
theorem dX1_judge_23 : decode cX1_judge 23 = .ok (.iload 4, 2) := by decide +kernel
theorem dX1_judge_25 : decode cX1_judge 25 = .ok (.iload_n 2, 1) := by decide +kernel
theorem dX1_judge_26 : decode cX1_judge 26 = .ok (.if_icmp .ne 7, 3) := by decide +kernel
theorem dX1_judge_29 : decode cX1_judge 29 = .ok (.iconst 0, 1) := by decide +kernel
theorem dX1_judge_30 : decode cX1_judge 30 = .ok (.goto 16, 3) := by decide +kernel
theorem dX1_judge_33 : decode cX1_judge 33 = .ok (.aload_n 0, 1) := by decide +kernel
theorem dX1_judge_34 : decode cX1_judge 34 = .ok (.aload_n 0, 1) := by decide +kernel
theorem dX1_judge_35 : decode cX1_judge 35 = .ok (.getfield 22, 3) := by decide +kernel
theorem dX1_judge_38 : decode cX1_judge 38 = .ok (.iload 4, 2) := by decide +kernel
theorem dX1_judge_40 : decode cX1_judge 40 = .ok (.iaload, 1) := by decide +kernel
theorem dX1_judge_41 : decode cX1_judge 41 = .ok (.iload_n 1, 1) := by decide +kernel
theorem dX1_judge_42 : decode cX1_judge 42 = .ok (.iand, 1) := by decide +kernel
theorem dX1_judge_43 : decode cX1_judge 43 = .ok (.invokevirtual 82, 3) := by decide +kernel
theorem dX1_judge_46 : decode cX1_judge 46 = .ok (.iastore, 1) := by decide +kernel
theorem dX1_judge_47 : decode cX1_judge 47 = .ok (.aload_n 0, 1) := by decide +kernel
theorem dX1_judge_48 : decode cX1_judge 48 = .ok (.getfield 9, 3) := by decide +kernel
theorem dX1_judge_51 : decode cX1_judge 51 = .ok (.getfield 58, 3) := by decide +kernel
theorem dX1_judge_54 : decode cX1_judge 54 = .ok (.iload 4, 2) := by decide +kernel
theorem dX1_judge_56 : decode cX1_judge 56 = .ok (.iaload, 1) := by decide +kernel
theorem dX1_judge_57 : decode cX1_judge 57 = .ok (.iconst 1, 1) := by decide +kernel
theorem dX1_judge_58 : decode cX1_judge 58 = .ok (.if_icmp .ne 13, 3) := by decide +kernel
theorem dX1_judge_61 : decode cX1_judge 61 = .ok (.iload_n 3, 1) := by decide +kernel
theorem dX1_judge_62 : decode cX1_judge 62 = .ok (.aload_n 0, 1) := by decide +kernel
theorem dX1_judge_63 : decode cX1_judge 63 = .ok (.getfield 26, 3) := by decide +kernel
theorem dX1_judge_66 : decode cX1_judge 66 = .ok (.iload 4, 2) := by decide +kernel
theorem dX1_judge_68 : decode cX1_judge 68 = .ok (.iaload, 1) := by decide +kernel
theorem dX1_judge_69 : decode cX1_judge 69 = .ok (.ior, 1) := by decide +kernel
theorem dX1_judge_70 : decode cX1_judge 70 = .ok (.istore_n 3, 1) := by decide +kernel
theorem dX1_judge_71 : decode cX1_judge 71 = .ok (.iinc 4 1, 3) := by decide +kernel
theorem dX1_judge_74 : decode cX1_judge 74 = .ok (.goto (-69), 3) := by decide +kernel
theorem dX1_judge_77 : decode cX1_judge 77 = .ok (.iconst 1, 1) := by decide +kernel
theorem dX1_judge_78 : decode cX1_judge 78 = .ok (.aload_n 0, 1) := by decide +kernel
theorem dX1_judge_79 : decode cX1_judge 79 = .ok (.getfield 9, 3) := by decide +kernel
theorem dX1_judge_82 : decode cX1_judge 82 = .ok (.getfield 85, 3) := by decide +kernel
theorem dX1_judge_85 : decode cX1_judge 85 = .ok (.ishl, 1) := by decide +kernel
theorem dX1_judge_86 : decode cX1_judge 86 = .ok (.iconst 1, 1) := by decide +kernel
theorem dX1_judge_87 : decode cX1_judge 87 = .ok (.isub, 1) := by decide +kernel
theorem dX1_judge_88 : decode cX1_judge 88 = .ok (.istore 4, 2) := by decide +kernel
theorem dX1_judge_90 : decode cX1_judge 90 = .ok (.iconst 0, 1) := by decide +kernel
theorem dX1_judge_91 : decode cX1_judge 91 = .ok (.istore 5, 2) := by decide +kernel
theorem dX1_judge_93 : decode cX1_judge 93 = .ok (.iload 5, 2) := by decide +kernel
theorem dX1_judge_95 : decode cX1_judge 95 = .ok (.aload_n 0, 1) := by decide +kernel
theorem dX1_judge_96 : decode cX1_judge 96 = .ok (.getfield 9, 3) := by decide +kernel
theorem dX1_judge_99 : decode cX1_judge 99 = .ok (.getfield 40, 3) := by decide +kernel
theorem dX1_judge_102 : decode cX1_judge 102 = .ok (.if_icmp .ge 64, 3) := by decide +kernel
theorem dX1_judge_105 : decode cX1_judge 105 = .ok (.aload_n 0, 1) := by decide +kernel
theorem dX1_judge_106 : decode cX1_judge 106 = .ok (.getfield 9, 3) := by decide +kernel
theorem dX1_judge_109 : decode cX1_judge 109 = .ok (.getfield 58, 3) := by decide +kernel
theorem dX1_judge_112 : decode cX1_judge 112 = .ok (.iload 5, 2) := by decide +kernel
theorem dX1_judge_114 : decode cX1_judge 114 = .ok (.iaload, 1) := by decide +kernel
theorem dX1_judge_115 : decode cX1_judge 115 = .ok (.iconst 1, 1) := by decide +kernel
theorem dX1_judge_116 : decode cX1_judge 116 = .ok (.if_icmp .ne 13, 3) := by decide +kernel
theorem dX1_judge_119 : decode cX1_judge 119 = .ok (.iload 5, 2) := by decide +kernel
theorem dX1_judge_121 : decode cX1_judge 121 = .ok (.iload_n 2, 1) := by decide +kernel
theorem dX1_judge_122 : decode cX1_judge 122 = .ok (.if_icmp .eq 7, 3) := by decide +kernel
theorem dX1_judge_125 : decode cX1_judge 125 = .ok (.iconst 1, 1) := by decide +kernel
theorem dX1_judge_126 : decode cX1_judge 126 = .ok (.goto 4, 3) := by decide +kernel
theorem dX1_judge_129 : decode cX1_judge 129 = .ok (.iconst 0, 1) := by decide +kernel
theorem dX1_judge_130 : decode cX1_judge 130 = .ok (.istore 6, 2) := by decide +kernel
theorem dX1_judge_132 : decode cX1_judge 132 = .ok (.aload_n 0, 1) := by decide +kernel
theorem dX1_judge_133 : decode cX1_judge 133 = .ok (.getfield 29, 3) := by decide +kernel
theorem dX1_judge_136 : decode cX1_judge 136 = .ok (.iload 5, 2) := by decide +kernel
theorem dX1_judge_138 : decode cX1_judge 138 = .ok (.iload 4, 2) := by decide +kernel
theorem dX1_judge_140 : decode cX1_judge 140 = .ok (.iload 6, 2) := by decide +kernel
theorem dX1_judge_142 : decode cX1_judge 142 = .ok (.ifCond .eq 7, 3) := by decide +kernel
theorem dX1_judge_145 : decode cX1_judge 145 = .ok (.iload_n 3, 1) := by decide +kernel
theorem dX1_judge_146 : decode cX1_judge 146 = .ok (.goto 10, 3) := by decide +kernel
theorem dX1_judge_149 : decode cX1_judge 149 = .ok (.aload_n 0, 1) := by decide +kernel
theorem dX1_judge_150 : decode cX1_judge 150 = .ok (.getfield 26, 3) := by decide +kernel
theorem dX1_judge_153 : decode cX1_judge 153 = .ok (.iload 5, 2) := by decide +kernel
theorem dX1_judge_155 : decode cX1_judge 155 = .ok (.iaload, 1) := by decide +kernel
theorem dX1_judge_156 : decode cX1_judge 156 = .ok (.iconst (-1), 1) := by decide +kernel
theorem dX1_judge_157 : decode cX1_judge 157 = .ok (.ixor, 1) := by decide +kernel
theorem dX1_judge_158 : decode cX1_judge 158 = .ok (.iand, 1) := by decide +kernel
theorem dX1_judge_159 : decode cX1_judge 159 = .ok (.iastore, 1) := by decide +kernel
theorem dX1_judge_160 : decode cX1_judge 160 = .ok (.iinc 5 1, 3) := by decide +kernel
theorem dX1_judge_163 : decode cX1_judge 163 = .ok (.goto (-70), 3) := by decide +kernel
theorem dX1_judge_166 : decode cX1_judge 166 = .ok (.return_, 1) := by decide +kernel
theorem dX1_guestsOf_0 : decode cX1_guestsOf 0 = .ok (.iconst 0, 1) := by decide +kernel
theorem dX1_guestsOf_1 : decode cX1_guestsOf 1 = .ok (.istore_n 2, 1) := by decide +kernel
theorem dX1_guestsOf_2 : decode cX1_guestsOf 2 = .ok (.iconst 0, 1) := by decide +kernel
theorem dX1_guestsOf_3 : decode cX1_guestsOf 3 = .ok (.istore_n 3, 1) := by decide +kernel
theorem dX1_guestsOf_4 : decode cX1_guestsOf 4 = .ok (.iload_n 3, 1) := by decide +kernel
theorem dX1_guestsOf_5 : decode cX1_guestsOf 5 = .ok (.aload_n 0, 1) := by decide +kernel
theorem dX1_guestsOf_6 : decode cX1_guestsOf 6 = .ok (.getfield 15, 3) := by decide +kernel
theorem dX1_guestsOf_9 : decode cX1_guestsOf 9 = .ok (.getfield 46, 3) := by decide +kernel
theorem dX1_guestsOf_12 : decode cX1_guestsOf 12 = .ok (.if_icmp .ge 31, 3) := by decide +kernel
theorem dX1_guestsOf_15 : decode cX1_guestsOf 15 = .ok (.iload_n 1, 1) := by decide +kernel
theorem dX1_guestsOf_16 : decode cX1_guestsOf 16 = .ok (.iload_n 3, 1) := by decide +kernel
theorem dX1_guestsOf_17 : decode cX1_guestsOf 17 = .ok (.ishr, 1) := by decide +kernel
theorem dX1_guestsOf_18 : decode cX1_guestsOf 18 = .ok (.iconst 1, 1) := by decide +kernel
theorem dX1_guestsOf_19 : decode cX1_guestsOf 19 = .ok (.iand, 1) := by decide +kernel
theorem dX1_guestsOf_20 : decode cX1_guestsOf 20 = .ok (.ifCond .eq 17, 3) := by decide +kernel
theorem dX1_guestsOf_23 : decode cX1_guestsOf 23 = .ok (.iload_n 2, 1) := by decide +kernel
theorem dX1_guestsOf_24 : decode cX1_guestsOf 24 = .ok (.iconst 1, 1) := by decide +kernel
theorem dX1_guestsOf_25 : decode cX1_guestsOf 25 = .ok (.aload_n 0, 1) := by decide +kernel
theorem dX1_guestsOf_26 : decode cX1_guestsOf 26 = .ok (.getfield 15, 3) := by decide +kernel
theorem dX1_guestsOf_29 : decode cX1_guestsOf 29 = .ok (.getfield 79, 3) := by decide +kernel
theorem dX1_guestsOf_32 : decode cX1_guestsOf 32 = .ok (.iload_n 3, 1) := by decide +kernel
theorem dX1_guestsOf_33 : decode cX1_guestsOf 33 = .ok (.iaload, 1) := by decide +kernel
theorem dX1_guestsOf_34 : decode cX1_guestsOf 34 = .ok (.ishl, 1) := by decide +kernel
theorem dX1_guestsOf_35 : decode cX1_guestsOf 35 = .ok (.ior, 1) := by decide +kernel
theorem dX1_guestsOf_36 : decode cX1_guestsOf 36 = .ok (.istore_n 2, 1) := by decide +kernel
theorem dX1_guestsOf_37 : decode cX1_guestsOf 37 = .ok (.iinc 3 1, 3) := by decide +kernel
theorem dX1_guestsOf_40 : decode cX1_guestsOf 40 = .ok (.goto (-36), 3) := by decide +kernel
theorem dX1_guestsOf_43 : decode cX1_guestsOf 43 = .ok (.iload_n 2, 1) := by decide +kernel
theorem dX1_guestsOf_44 : decode cX1_guestsOf 44 = .ok (.ireturn, 1) := by decide +kernel
theorem dX1_isBorne_0 : decode cX1_isBorne 0 = .ok (.aload_n 0, 1) := by decide +kernel
theorem dX1_isBorne_1 : decode cX1_isBorne 1 = .ok (.getfield 29, 3) := by decide +kernel
theorem dX1_isBorne_4 : decode cX1_isBorne 4 = .ok (.iload_n 1, 1) := by decide +kernel
theorem dX1_isBorne_5 : decode cX1_isBorne 5 = .ok (.iaload, 1) := by decide +kernel
theorem dX1_isBorne_6 : decode cX1_isBorne 6 = .ok (.iload_n 2, 1) := by decide +kernel
theorem dX1_isBorne_7 : decode cX1_isBorne 7 = .ok (.ishr, 1) := by decide +kernel
theorem dX1_isBorne_8 : decode cX1_isBorne 8 = .ok (.iconst 1, 1) := by decide +kernel
theorem dX1_isBorne_9 : decode cX1_isBorne 9 = .ok (.iand, 1) := by decide +kernel
theorem dX1_isBorne_10 : decode cX1_isBorne 10 = .ok (.ifCond .eq 7, 3) := by decide +kernel
theorem dX1_isBorne_13 : decode cX1_isBorne 13 = .ok (.iconst 1, 1) := by decide +kernel
theorem dX1_isBorne_14 : decode cX1_isBorne 14 = .ok (.goto 4, 3) := by decide +kernel
theorem dX1_isBorne_17 : decode cX1_isBorne 17 = .ok (.iconst 0, 1) := by decide +kernel
theorem dX1_isBorne_18 : decode cX1_isBorne 18 = .ok (.ireturn, 1) := by decide +kernel
theorem dX1_allCanSit_0 : decode cX1_allCanSit 0 = .ok (.iconst 1, 1) := by decide +kernel
theorem dX1_allCanSit_1 : decode cX1_allCanSit 1 = .ok (.istore_n 1, 1) := by decide +kernel
theorem dX1_allCanSit_2 : decode cX1_allCanSit 2 = .ok (.iload_n 1, 1) := by decide +kernel
theorem dX1_allCanSit_3 : decode cX1_allCanSit 3 = .ok (.iconst 1, 1) := by decide +kernel
theorem dX1_allCanSit_4 : decode cX1_allCanSit 4 = .ok (.aload_n 0, 1) := by decide +kernel
theorem dX1_allCanSit_5 : decode cX1_allCanSit 5 = .ok (.getfield 9, 3) := by decide +kernel
theorem dX1_allCanSit_8 : decode cX1_allCanSit 8 = .ok (.getfield 85, 3) := by decide +kernel
theorem dX1_allCanSit_11 : decode cX1_allCanSit 11 = .ok (.ishl, 1) := by decide +kernel
theorem dX1_allCanSit_12 : decode cX1_allCanSit 12 = .ok (.if_icmp .ge 19, 3) := by decide +kernel
theorem dX1_allCanSit_15 : decode cX1_allCanSit 15 = .ok (.aload_n 0, 1) := by decide +kernel
theorem dX1_allCanSit_16 : decode cX1_allCanSit 16 = .ok (.iload_n 1, 1) := by decide +kernel
theorem dX1_allCanSit_17 : decode cX1_allCanSit 17 = .ok (.invokevirtual 88, 3) := by decide +kernel
theorem dX1_allCanSit_20 : decode cX1_allCanSit 20 = .ok (.ifCond .eq 5, 3) := by decide +kernel
theorem dX1_allCanSit_23 : decode cX1_allCanSit 23 = .ok (.iconst 0, 1) := by decide +kernel
theorem dX1_allCanSit_24 : decode cX1_allCanSit 24 = .ok (.ireturn, 1) := by decide +kernel
theorem dX1_allCanSit_25 : decode cX1_allCanSit 25 = .ok (.iinc 1 1, 3) := by decide +kernel
theorem dX1_allCanSit_28 : decode cX1_allCanSit 28 = .ok (.goto (-26), 3) := by decide +kernel
theorem dX1_allCanSit_31 : decode cX1_allCanSit 31 = .ok (.iconst 1, 1) := by decide +kernel
theorem dX1_allCanSit_32 : decode cX1_allCanSit 32 = .ok (.ireturn, 1) := by decide +kernel
theorem dX1_smallestShortSet_0 : decode cX1_smallestShortSet 0 = .ok (.bipush (-9), 2) := by decide +kernel
theorem dX1_smallestShortSet_2 : decode cX1_smallestShortSet 2 = .ok (.istore_n 1, 1) := by decide +kernel
theorem dX1_smallestShortSet_3 : decode cX1_smallestShortSet 3 = .ok (.bipush 6, 2) := by decide +kernel
theorem dX1_smallestShortSet_5 : decode cX1_smallestShortSet 5 = .ok (.istore_n 2, 1) := by decide +kernel
theorem dX1_smallestShortSet_6 : decode cX1_smallestShortSet 6 = .ok (.iconst 1, 1) := by decide +kernel
theorem dX1_smallestShortSet_7 : decode cX1_smallestShortSet 7 = .ok (.istore_n 3, 1) := by decide +kernel
theorem dX1_smallestShortSet_8 : decode cX1_smallestShortSet 8 = .ok (.iload_n 3, 1) := by decide +kernel
theorem dX1_smallestShortSet_9 : decode cX1_smallestShortSet 9 = .ok (.iconst 1, 1) := by decide +kernel
theorem dX1_smallestShortSet_10 : decode cX1_smallestShortSet 10 = .ok (.aload_n 0, 1) := by decide +kernel
theorem dX1_smallestShortSet_11 : decode cX1_smallestShortSet 11 = .ok (.getfield 9, 3) := by decide +kernel
theorem dX1_smallestShortSet_14 : decode cX1_smallestShortSet 14 = .ok (.getfield 85, 3) := by decide +kernel
theorem dX1_smallestShortSet_17 : decode cX1_smallestShortSet 17 = .ok (.ishl, 1) := by decide +kernel
theorem dX1_smallestShortSet_18 : decode cX1_smallestShortSet 18 = .ok (.if_icmp .ge 32, 3) := by decide +kernel
theorem dX1_smallestShortSet_21 : decode cX1_smallestShortSet 21 = .ok (.iload_n 3, 1) := by decide +kernel
theorem dX1_smallestShortSet_22 : decode cX1_smallestShortSet 22 = .ok (.invokestatic 92, 3) := by decide +kernel
theorem dX1_smallestShortSet_25 : decode cX1_smallestShortSet 25 = .ok (.iload_n 2, 1) := by decide +kernel
theorem dX1_smallestShortSet_26 : decode cX1_smallestShortSet 26 = .ok (.if_icmp .ge 18, 3) := by decide +kernel
theorem dX1_smallestShortSet_29 : decode cX1_smallestShortSet 29 = .ok (.aload_n 0, 1) := by decide +kernel
theorem dX1_smallestShortSet_30 : decode cX1_smallestShortSet 30 = .ok (.iload_n 3, 1) := by decide +kernel
theorem dX1_smallestShortSet_31 : decode cX1_smallestShortSet 31 = .ok (.invokevirtual 88, 3) := by decide +kernel
theorem dX1_smallestShortSet_34 : decode cX1_smallestShortSet 34 = .ok (.ifCond .eq 10, 3) := by decide +kernel
theorem dX1_smallestShortSet_37 : decode cX1_smallestShortSet 37 = .ok (.iload_n 3, 1) := by decide +kernel
theorem dX1_smallestShortSet_38 : decode cX1_smallestShortSet 38 = .ok (.istore_n 1, 1) := by decide +kernel
theorem dX1_smallestShortSet_39 : decode cX1_smallestShortSet 39 = .ok (.iload_n 3, 1) := by decide +kernel
theorem dX1_smallestShortSet_40 : decode cX1_smallestShortSet 40 = .ok (.invokestatic 92, 3) := by decide +kernel
theorem dX1_smallestShortSet_43 : decode cX1_smallestShortSet 43 = .ok (.istore_n 2, 1) := by decide +kernel
theorem dX1_smallestShortSet_44 : decode cX1_smallestShortSet 44 = .ok (.iinc 3 1, 3) := by decide +kernel
theorem dX1_smallestShortSet_47 : decode cX1_smallestShortSet 47 = .ok (.goto (-39), 3) := by decide +kernel
theorem dX1_smallestShortSet_50 : decode cX1_smallestShortSet 50 = .ok (.iload_n 1, 1) := by decide +kernel
theorem dX1_smallestShortSet_51 : decode cX1_smallestShortSet 51 = .ok (.ireturn, 1) := by decide +kernel
theorem dX1_isShort_0 : decode cX1_isShort 0 = .ok (.iconst 0, 1) := by decide +kernel
theorem dX1_isShort_1 : decode cX1_isShort 1 = .ok (.istore_n 2, 1) := by decide +kernel
theorem dX1_isShort_2 : decode cX1_isShort 2 = .ok (.iconst 0, 1) := by decide +kernel
theorem dX1_isShort_3 : decode cX1_isShort 3 = .ok (.istore_n 3, 1) := by decide +kernel
theorem dX1_isShort_4 : decode cX1_isShort 4 = .ok (.iload_n 3, 1) := by decide +kernel
theorem dX1_isShort_5 : decode cX1_isShort 5 = .ok (.aload_n 0, 1) := by decide +kernel
theorem dX1_isShort_6 : decode cX1_isShort 6 = .ok (.getfield 9, 3) := by decide +kernel
theorem dX1_isShort_9 : decode cX1_isShort 9 = .ok (.getfield 40, 3) := by decide +kernel
theorem dX1_isShort_12 : decode cX1_isShort 12 = .ok (.if_icmp .ge 23, 3) := by decide +kernel
theorem dX1_isShort_15 : decode cX1_isShort 15 = .ok (.aload_n 0, 1) := by decide +kernel
theorem dX1_isShort_16 : decode cX1_isShort 16 = .ok (.getfield 29, 3) := by decide +kernel
theorem dX1_isShort_19 : decode cX1_isShort 19 = .ok (.iload_n 3, 1) := by decide +kernel
theorem dX1_isShort_20 : decode cX1_isShort 20 = .ok (.iaload, 1) := by decide +kernel
theorem dX1_isShort_21 : decode cX1_isShort 21 = .ok (.iload_n 1, 1) := by decide +kernel
theorem dX1_isShort_22 : decode cX1_isShort 22 = .ok (.iand, 1) := by decide +kernel
theorem dX1_isShort_23 : decode cX1_isShort 23 = .ok (.ifCond .eq 6, 3) := by decide +kernel
theorem dX1_isShort_26 : decode cX1_isShort 26 = .ok (.iinc 2 1, 3) := by decide +kernel
theorem dX1_isShort_29 : decode cX1_isShort 29 = .ok (.iinc 3 1, 3) := by decide +kernel
theorem dX1_isShort_32 : decode cX1_isShort 32 = .ok (.goto (-28), 3) := by decide +kernel
theorem dX1_isShort_35 : decode cX1_isShort 35 = .ok (.iload_n 2, 1) := by decide +kernel
theorem dX1_isShort_36 : decode cX1_isShort 36 = .ok (.iload_n 1, 1) := by decide +kernel
theorem dX1_isShort_37 : decode cX1_isShort 37 = .ok (.invokestatic 92, 3) := by decide +kernel
theorem dX1_isShort_40 : decode cX1_isShort 40 = .ok (.if_icmp .ge 7, 3) := by decide +kernel
theorem dX1_isShort_43 : decode cX1_isShort 43 = .ok (.iconst 1, 1) := by decide +kernel
theorem dX1_isShort_44 : decode cX1_isShort 44 = .ok (.goto 4, 3) := by decide +kernel
theorem dX1_isShort_47 : decode cX1_isShort 47 = .ok (.iconst 0, 1) := by decide +kernel
theorem dX1_isShort_48 : decode cX1_isShort 48 = .ok (.ireturn, 1) := by decide +kernel
theorem dX1_firstTipped_0 : decode cX1_firstTipped 0 = .ok (.iconst 0, 1) := by decide +kernel
theorem dX1_firstTipped_1 : decode cX1_firstTipped 1 = .ok (.istore 4, 2) := by decide +kernel
theorem dX1_firstTipped_3 : decode cX1_firstTipped 3 = .ok (.iconst 0, 1) := by decide +kernel
theorem dX1_firstTipped_4 : decode cX1_firstTipped 4 = .ok (.istore 5, 2) := by decide +kernel
theorem dX1_firstTipped_6 : decode cX1_firstTipped 6 = .ok (.iload 5, 2) := by decide +kernel
theorem dX1_firstTipped_8 : decode cX1_firstTipped 8 = .ok (.iload_n 3, 1) := by decide +kernel
theorem dX1_firstTipped_9 : decode cX1_firstTipped 9 = .ok (.if_icmp .ge 60, 3) := by decide +kernel
theorem dX1_firstTipped_12 : decode cX1_firstTipped 12 = .ok (.aload_n 1, 1) := by decide +kernel
theorem dX1_firstTipped_13 : decode cX1_firstTipped 13 = .ok (.iload_n 2, 1) := by decide +kernel
theorem dX1_firstTipped_14 : decode cX1_firstTipped 14 = .ok (.iload 5, 2) := by decide +kernel
theorem dX1_firstTipped_16 : decode cX1_firstTipped 16 = .ok (.iadd, 1) := by decide +kernel
theorem dX1_firstTipped_17 : decode cX1_firstTipped 17 = .ok (.iaload, 1) := by decide +kernel
theorem dX1_firstTipped_18 : decode cX1_firstTipped 18 = .ok (.istore 6, 2) := by decide +kernel
theorem dX1_firstTipped_20 : decode cX1_firstTipped 20 = .ok (.iload 6, 2) := by decide +kernel
theorem dX1_firstTipped_22 : decode cX1_firstTipped 22 = .ok (.bipush (-9), 2) := by decide +kernel
theorem dX1_firstTipped_24 : decode cX1_firstTipped 24 = .ok (.if_icmp .ne 6, 3) := by decide +kernel
theorem dX1_firstTipped_27 : decode cX1_firstTipped 27 = .ok (.goto 36, 3) := by decide +kernel
theorem dX1_firstTipped_30 : decode cX1_firstTipped 30 = .ok (.aload_n 0, 1) := by decide +kernel
theorem dX1_firstTipped_31 : decode cX1_firstTipped 31 = .ok (.iload 6, 2) := by decide +kernel
theorem dX1_firstTipped_33 : decode cX1_firstTipped 33 = .ok (.iload 5, 2) := by decide +kernel
theorem dX1_firstTipped_35 : decode cX1_firstTipped 35 = .ok (.invokevirtual 97, 3) := by decide +kernel
theorem dX1_firstTipped_38 : decode cX1_firstTipped 38 = .ok (.ifCond .eq 13, 3) := by decide +kernel
theorem dX1_firstTipped_41 : decode cX1_firstTipped 41 = .ok (.iload 4, 2) := by decide +kernel
theorem dX1_firstTipped_43 : decode cX1_firstTipped 43 = .ok (.iload 6, 2) := by decide +kernel
theorem dX1_firstTipped_45 : decode cX1_firstTipped 45 = .ok (.ishr, 1) := by decide +kernel
theorem dX1_firstTipped_46 : decode cX1_firstTipped 46 = .ok (.iconst 1, 1) := by decide +kernel
theorem dX1_firstTipped_47 : decode cX1_firstTipped 47 = .ok (.iand, 1) := by decide +kernel
theorem dX1_firstTipped_48 : decode cX1_firstTipped 48 = .ok (.ifCond .eq 6, 3) := by decide +kernel
theorem dX1_firstTipped_51 : decode cX1_firstTipped 51 = .ok (.iload 5, 2) := by decide +kernel
theorem dX1_firstTipped_53 : decode cX1_firstTipped 53 = .ok (.ireturn, 1) := by decide +kernel
theorem dX1_firstTipped_54 : decode cX1_firstTipped 54 = .ok (.iload 4, 2) := by decide +kernel
theorem dX1_firstTipped_56 : decode cX1_firstTipped 56 = .ok (.iconst 1, 1) := by decide +kernel
theorem dX1_firstTipped_57 : decode cX1_firstTipped 57 = .ok (.iload 6, 2) := by decide +kernel
theorem dX1_firstTipped_59 : decode cX1_firstTipped 59 = .ok (.ishl, 1) := by decide +kernel
theorem dX1_firstTipped_60 : decode cX1_firstTipped 60 = .ok (.ior, 1) := by decide +kernel
theorem dX1_firstTipped_61 : decode cX1_firstTipped 61 = .ok (.istore 4, 2) := by decide +kernel
theorem dX1_firstTipped_63 : decode cX1_firstTipped 63 = .ok (.iinc 5 1, 3) := by decide +kernel
theorem dX1_firstTipped_66 : decode cX1_firstTipped 66 = .ok (.goto (-60), 3) := by decide +kernel
theorem dX1_firstTipped_69 : decode cX1_firstTipped 69 = .ok (.bipush (-9), 2) := by decide +kernel
theorem dX1_firstTipped_71 : decode cX1_firstTipped 71 = .ok (.ireturn, 1) := by decide +kernel
theorem dX2_init_0 : decode cX2_init 0 = .ok (.aload_n 0, 1) := by decide +kernel
theorem dX2_init_1 : decode cX2_init 1 = .ok (.invokespecial 3, 3) := by decide +kernel
theorem dX2_init_4 : decode cX2_init 4 = .ok (.aload_n 0, 1) := by decide +kernel
theorem dX2_init_5 : decode cX2_init 5 = .ok (.bipush 8, 2) := by decide +kernel
theorem dX2_init_7 : decode cX2_init 7 = .ok (.newarray .int, 2) := by decide +kernel
theorem dX2_init_9 : decode cX2_init 9 = .ok (.putfield 9, 3) := by decide +kernel
theorem dX2_init_12 : decode cX2_init 12 = .ok (.aload_n 0, 1) := by decide +kernel
theorem dX2_init_13 : decode cX2_init 13 = .ok (.bipush 8, 2) := by decide +kernel
theorem dX2_init_15 : decode cX2_init 15 = .ok (.newarray .int, 2) := by decide +kernel
theorem dX2_init_17 : decode cX2_init 17 = .ok (.putfield 15, 3) := by decide +kernel
theorem dX2_init_20 : decode cX2_init 20 = .ok (.aload_n 0, 1) := by decide +kernel
theorem dX2_init_21 : decode cX2_init 21 = .ok (.bipush 8, 2) := by decide +kernel
theorem dX2_init_23 : decode cX2_init 23 = .ok (.newarray .int, 2) := by decide +kernel
theorem dX2_init_25 : decode cX2_init 25 = .ok (.putfield 18, 3) := by decide +kernel
theorem dX2_init_28 : decode cX2_init 28 = .ok (.aload_n 0, 1) := by decide +kernel
theorem dX2_init_29 : decode cX2_init 29 = .ok (.iconst 0, 1) := by decide +kernel
theorem dX2_init_30 : decode cX2_init 30 = .ok (.putfield 21, 3) := by decide +kernel
theorem dX2_init_33 : decode cX2_init 33 = .ok (.return_, 1) := by decide +kernel
theorem dX2_has_0 : decode cX2_has 0 = .ok (.iload_n 1, 1) := by decide +kernel
theorem dX2_has_1 : decode cX2_has 1 = .ok (.ifCond .lt 15, 3) := by decide +kernel
theorem dX2_has_4 : decode cX2_has 4 = .ok (.iload_n 1, 1) := by decide +kernel
theorem dX2_has_5 : decode cX2_has 5 = .ok (.aload_n 0, 1) := by decide +kernel
theorem dX2_has_6 : decode cX2_has 6 = .ok (.getfield 21, 3) := by decide +kernel
theorem dX2_has_9 : decode cX2_has 9 = .ok (.if_icmp .ge 7, 3) := by decide +kernel
theorem dX2_has_12 : decode cX2_has 12 = .ok (.iconst 1, 1) := by decide +kernel
theorem dX2_has_13 : decode cX2_has 13 = .ok (.goto 4, 3) := by decide +kernel
theorem dX2_has_16 : decode cX2_has 16 = .ok (.iconst 0, 1) := by decide +kernel
theorem dX2_has_17 : decode cX2_has 17 = .ok (.ireturn, 1) := by decide +kernel
theorem dX2_add_0 : decode cX2_add 0 = .ok (.aload_n 0, 1) := by decide +kernel
theorem dX2_add_1 : decode cX2_add 1 = .ok (.getfield 21, 3) := by decide +kernel
theorem dX2_add_4 : decode cX2_add 4 = .ok (.bipush 8, 2) := by decide +kernel
theorem dX2_add_6 : decode cX2_add 6 = .ok (.if_icmp .lt 6, 3) := by decide +kernel
theorem dX2_add_9 : decode cX2_add 9 = .ok (.bipush (-4), 2) := by decide +kernel
theorem dX2_add_11 : decode cX2_add 11 = .ok (.ireturn, 1) := by decide +kernel
theorem dX2_add_12 : decode cX2_add 12 = .ok (.aload_n 0, 1) := by decide +kernel
theorem dX2_add_13 : decode cX2_add 13 = .ok (.getfield 9, 3) := by decide +kernel
theorem dX2_add_16 : decode cX2_add 16 = .ok (.aload_n 0, 1) := by decide +kernel
theorem dX2_add_17 : decode cX2_add 17 = .ok (.getfield 21, 3) := by decide +kernel
theorem dX2_add_20 : decode cX2_add 20 = .ok (.iload_n 1, 1) := by decide +kernel
theorem dX2_add_21 : decode cX2_add 21 = .ok (.iastore, 1) := by decide +kernel
theorem dX2_add_22 : decode cX2_add 22 = .ok (.aload_n 0, 1) := by decide +kernel
theorem dX2_add_23 : decode cX2_add 23 = .ok (.getfield 15, 3) := by decide +kernel
theorem dX2_add_26 : decode cX2_add 26 = .ok (.aload_n 0, 1) := by decide +kernel
theorem dX2_add_27 : decode cX2_add 27 = .ok (.getfield 21, 3) := by decide +kernel
theorem dX2_add_30 : decode cX2_add 30 = .ok (.iload_n 2, 1) := by decide +kernel
theorem dX2_add_31 : decode cX2_add 31 = .ok (.iastore, 1) := by decide +kernel
theorem dX2_add_32 : decode cX2_add 32 = .ok (.aload_n 0, 1) := by decide +kernel
theorem dX2_add_33 : decode cX2_add 33 = .ok (.getfield 18, 3) := by decide +kernel
theorem dX2_add_36 : decode cX2_add 36 = .ok (.aload_n 0, 1) := by decide +kernel
theorem dX2_add_37 : decode cX2_add 37 = .ok (.getfield 21, 3) := by decide +kernel
theorem dX2_add_40 : decode cX2_add 40 = .ok (.iload_n 3, 1) := by decide +kernel
theorem dX2_add_41 : decode cX2_add 41 = .ok (.iastore, 1) := by decide +kernel
theorem dX2_add_42 : decode cX2_add 42 = .ok (.aload_n 0, 1) := by decide +kernel
theorem dX2_add_43 : decode cX2_add 43 = .ok (.dup, 1) := by decide +kernel
theorem dX2_add_44 : decode cX2_add 44 = .ok (.getfield 21, 3) := by decide +kernel
theorem dX2_add_47 : decode cX2_add 47 = .ok (.iconst 1, 1) := by decide +kernel
theorem dX2_add_48 : decode cX2_add 48 = .ok (.iadd, 1) := by decide +kernel
theorem dX2_add_49 : decode cX2_add 49 = .ok (.putfield 21, 3) := by decide +kernel
theorem dX2_add_52 : decode cX2_add 52 = .ok (.aload_n 0, 1) := by decide +kernel
theorem dX2_add_53 : decode cX2_add 53 = .ok (.getfield 21, 3) := by decide +kernel
theorem dX2_add_56 : decode cX2_add 56 = .ok (.iconst 1, 1) := by decide +kernel
theorem dX2_add_57 : decode cX2_add 57 = .ok (.isub, 1) := by decide +kernel
theorem dX2_add_58 : decode cX2_add 58 = .ok (.ireturn, 1) := by decide +kernel
theorem dX2_dropLast_0 : decode cX2_dropLast 0 = .ok (.iload_n 1, 1) := by decide +kernel
theorem dX2_dropLast_1 : decode cX2_dropLast 1 = .ok (.ifCond .lt 11, 3) := by decide +kernel
theorem dX2_dropLast_4 : decode cX2_dropLast 4 = .ok (.iload_n 1, 1) := by decide +kernel
theorem dX2_dropLast_5 : decode cX2_dropLast 5 = .ok (.aload_n 0, 1) := by decide +kernel
theorem dX2_dropLast_6 : decode cX2_dropLast 6 = .ok (.getfield 21, 3) := by decide +kernel
theorem dX2_dropLast_9 : decode cX2_dropLast 9 = .ok (.if_icmp .le 6, 3) := by decide +kernel
theorem dX2_dropLast_12 : decode cX2_dropLast 12 = .ok (.bipush (-2), 2) := by decide +kernel
theorem dX2_dropLast_14 : decode cX2_dropLast 14 = .ok (.ireturn, 1) := by decide +kernel
theorem dX2_dropLast_15 : decode cX2_dropLast 15 = .ok (.aload_n 0, 1) := by decide +kernel
theorem dX2_dropLast_16 : decode cX2_dropLast 16 = .ok (.dup, 1) := by decide +kernel
theorem dX2_dropLast_17 : decode cX2_dropLast 17 = .ok (.getfield 21, 3) := by decide +kernel
theorem dX2_dropLast_20 : decode cX2_dropLast 20 = .ok (.iload_n 1, 1) := by decide +kernel
theorem dX2_dropLast_21 : decode cX2_dropLast 21 = .ok (.isub, 1) := by decide +kernel
theorem dX2_dropLast_22 : decode cX2_dropLast 22 = .ok (.putfield 21, 3) := by decide +kernel
theorem dX2_dropLast_25 : decode cX2_dropLast 25 = .ok (.aload_n 0, 1) := by decide +kernel
theorem dX2_dropLast_26 : decode cX2_dropLast 26 = .ok (.getfield 21, 3) := by decide +kernel
theorem dX2_dropLast_29 : decode cX2_dropLast 29 = .ok (.ireturn, 1) := by decide +kernel
theorem dX3_init_0 : decode cX3_init 0 = .ok (.aload_n 0, 1) := by decide +kernel
theorem dX3_init_1 : decode cX3_init 1 = .ok (.invokespecial 3, 3) := by decide +kernel
theorem dX3_init_4 : decode cX3_init 4 = .ok (.aload_n 0, 1) := by decide +kernel
theorem dX3_init_5 : decode cX3_init 5 = .ok (.aload_n 1, 1) := by decide +kernel
theorem dX3_init_6 : decode cX3_init 6 = .ok (.putfield 9, 3) := by decide +kernel
theorem dX3_init_9 : decode cX3_init 9 = .ok (.aload_n 0, 1) := by decide +kernel
theorem dX3_init_10 : decode cX3_init 10 = .ok (.aload_n 2, 1) := by decide +kernel
theorem dX3_init_11 : decode cX3_init 11 = .ok (.putfield 15, 3) := by decide +kernel
theorem dX3_init_14 : decode cX3_init 14 = .ok (.aload_n 0, 1) := by decide +kernel
theorem dX3_init_15 : decode cX3_init 15 = .ok (.sipush 192, 3) := by decide +kernel
theorem dX3_init_18 : decode cX3_init 18 = .ok (.newarray .int, 2) := by decide +kernel
theorem dX3_init_20 : decode cX3_init 20 = .ok (.putfield 19, 3) := by decide +kernel
theorem dX3_init_23 : decode cX3_init 23 = .ok (.aload_n 0, 1) := by decide +kernel
theorem dX3_init_24 : decode cX3_init 24 = .ok (.iconst 5, 1) := by decide +kernel
theorem dX3_init_25 : decode cX3_init 25 = .ok (.newarray .int, 2) := by decide +kernel
theorem dX3_init_27 : decode cX3_init 27 = .ok (.putfield 22, 3) := by decide +kernel
theorem dX3_init_30 : decode cX3_init 30 = .ok (.aload_n 0, 1) := by decide +kernel
theorem dX3_init_31 : decode cX3_init 31 = .ok (.iconst 0, 1) := by decide +kernel
theorem dX3_init_32 : decode cX3_init 32 = .ok (.putfield 25, 3) := by decide +kernel
theorem dX3_init_35 : decode cX3_init 35 = .ok (.aload_n 0, 1) := by decide +kernel
theorem dX3_init_36 : decode cX3_init 36 = .ok (.iconst 0, 1) := by decide +kernel
theorem dX3_init_37 : decode cX3_init 37 = .ok (.putfield 29, 3) := by decide +kernel
theorem dX3_init_40 : decode cX3_init 40 = .ok (.return_, 1) := by decide +kernel
theorem dX3_seatMost_0 : decode cX3_seatMost 0 = .ok (.aload_n 0, 1) := by decide +kernel
theorem dX3_seatMost_1 : decode cX3_seatMost 1 = .ok (.bipush 100, 2) := by decide +kernel
theorem dX3_seatMost_3 : decode cX3_seatMost 3 = .ok (.putfield 25, 3) := by decide +kernel
theorem dX3_seatMost_6 : decode cX3_seatMost 6 = .ok (.aload_n 0, 1) := by decide +kernel
theorem dX3_seatMost_7 : decode cX3_seatMost 7 = .ok (.iconst 1, 1) := by decide +kernel
theorem dX3_seatMost_8 : decode cX3_seatMost 8 = .ok (.putfield 29, 3) := by decide +kernel
theorem dX3_seatMost_11 : decode cX3_seatMost 11 = .ok (.aload_n 0, 1) := by decide +kernel
theorem dX3_seatMost_12 : decode cX3_seatMost 12 = .ok (.getfield 9, 3) := by decide +kernel
theorem dX3_seatMost_15 : decode cX3_seatMost 15 = .ok (.getfield 32, 3) := by decide +kernel
theorem dX3_seatMost_18 : decode cX3_seatMost 18 = .ok (.aload_n 0, 1) := by decide +kernel
theorem dX3_seatMost_19 : decode cX3_seatMost 19 = .ok (.invokevirtual 37, 3) := by decide +kernel
theorem dX3_seatMost_22 : decode cX3_seatMost 22 = .ok (.isub, 1) := by decide +kernel
theorem dX3_seatMost_23 : decode cX3_seatMost 23 = .ok (.ireturn, 1) := by decide +kernel
theorem dX3_seatAllByButter_0 : decode cX3_seatAllByButter 0 = .ok (.aload_n 0, 1) := by decide +kernel
theorem dX3_seatAllByButter_1 : decode cX3_seatAllByButter 1 = .ok (.iconst 1, 1) := by decide +kernel
theorem dX3_seatAllByButter_2 : decode cX3_seatAllByButter 2 = .ok (.putfield 25, 3) := by decide +kernel
theorem dX3_seatAllByButter_5 : decode cX3_seatAllByButter 5 = .ok (.aload_n 0, 1) := by decide +kernel
theorem dX3_seatAllByButter_6 : decode cX3_seatAllByButter 6 = .ok (.bipush 100, 2) := by decide +kernel
theorem dX3_seatAllByButter_8 : decode cX3_seatAllByButter 8 = .ok (.putfield 29, 3) := by decide +kernel
theorem dX3_seatAllByButter_11 : decode cX3_seatAllByButter 11 = .ok (.aload_n 0, 1) := by decide +kernel
theorem dX3_seatAllByButter_12 : decode cX3_seatAllByButter 12 = .ok (.invokevirtual 37, 3) := by decide +kernel
theorem dX3_seatAllByButter_15 : decode cX3_seatAllByButter 15 = .ok (.istore_n 1, 1) := by decide +kernel
theorem dX3_seatAllByButter_16 : decode cX3_seatAllByButter 16 = .ok (.iload_n 1, 1) := by decide +kernel
theorem dX3_seatAllByButter_17 : decode cX3_seatAllByButter 17 = .ok (.bipush 100, 2) := by decide +kernel
theorem dX3_seatAllByButter_19 : decode cX3_seatAllByButter 19 = .ok (.if_icmp .ge 7, 3) := by decide +kernel
theorem dX3_seatAllByButter_22 : decode cX3_seatAllByButter 22 = .ok (.iload_n 1, 1) := by decide +kernel
theorem dX3_seatAllByButter_23 : decode cX3_seatAllByButter 23 = .ok (.goto 5, 3) := by decide +kernel
theorem dX3_seatAllByButter_26 : decode cX3_seatAllByButter 26 = .ok (.bipush (-9), 2) := by decide +kernel
theorem dX3_seatAllByButter_28 : decode cX3_seatAllByButter 28 = .ok (.ireturn, 1) := by decide +kernel
theorem dX3_seatCheapest_0 : decode cX3_seatCheapest 0 = .ok (.iconst 1, 1) := by decide +kernel
theorem dX3_seatCheapest_1 : decode cX3_seatCheapest 1 = .ok (.aload_n 0, 1) := by decide +kernel
theorem dX3_seatCheapest_2 : decode cX3_seatCheapest 2 = .ok (.getfield 9, 3) := by decide +kernel
theorem dX3_seatCheapest_5 : decode cX3_seatCheapest 5 = .ok (.getfield 41, 3) := by decide +kernel
theorem dX3_seatCheapest_8 : decode cX3_seatCheapest 8 = .ok (.ishl, 1) := by decide +kernel
theorem dX3_seatCheapest_9 : decode cX3_seatCheapest 9 = .ok (.istore_n 1, 1) := by decide +kernel
theorem dX3_seatCheapest_10 : decode cX3_seatCheapest 10 = .ok (.iconst 0, 1) := by decide +kernel
theorem dX3_seatCheapest_11 : decode cX3_seatCheapest 11 = .ok (.istore_n 2, 1) := by decide +kernel
theorem dX3_seatCheapest_12 : decode cX3_seatCheapest 12 = .ok (.iload_n 2, 1) := by decide +kernel
theorem dX3_seatCheapest_13 : decode cX3_seatCheapest 13 = .ok (.iload_n 1, 1) := by decide +kernel
theorem dX3_seatCheapest_14 : decode cX3_seatCheapest 14 = .ok (.if_icmp .ge 26, 3) := by decide +kernel
theorem dX3_seatCheapest_17 : decode cX3_seatCheapest 17 = .ok (.aload_n 0, 1) := by decide +kernel
theorem dX3_seatCheapest_18 : decode cX3_seatCheapest 18 = .ok (.getfield 19, 3) := by decide +kernel
theorem dX3_seatCheapest_21 : decode cX3_seatCheapest 21 = .ok (.aload_n 0, 1) := by decide +kernel
theorem dX3_seatCheapest_22 : decode cX3_seatCheapest 22 = .ok (.getfield 9, 3) := by decide +kernel
theorem dX3_seatCheapest_25 : decode cX3_seatCheapest 25 = .ok (.getfield 32, 3) := by decide +kernel
theorem dX3_seatCheapest_28 : decode cX3_seatCheapest 28 = .ok (.iload_n 2, 1) := by decide +kernel
theorem dX3_seatCheapest_29 : decode cX3_seatCheapest 29 = .ok (.invokestatic 44, 3) := by decide +kernel
theorem dX3_seatCheapest_32 : decode cX3_seatCheapest 32 = .ok (.iconst 0, 1) := by decide +kernel
theorem dX3_seatCheapest_33 : decode cX3_seatCheapest 33 = .ok (.iastore, 1) := by decide +kernel
theorem dX3_seatCheapest_34 : decode cX3_seatCheapest 34 = .ok (.iinc 2 1, 3) := by decide +kernel
theorem dX3_seatCheapest_37 : decode cX3_seatCheapest 37 = .ok (.goto (-25), 3) := by decide +kernel
theorem dX3_seatCheapest_40 : decode cX3_seatCheapest 40 = .ok (.aload_n 0, 1) := by decide +kernel
theorem dX3_seatCheapest_41 : decode cX3_seatCheapest 41 = .ok (.getfield 9, 3) := by decide +kernel
theorem dX3_seatCheapest_44 : decode cX3_seatCheapest 44 = .ok (.getfield 32, 3) := by decide +kernel
theorem dX3_seatCheapest_47 : decode cX3_seatCheapest 47 = .ok (.iconst 1, 1) := by decide +kernel
theorem dX3_seatCheapest_48 : decode cX3_seatCheapest 48 = .ok (.isub, 1) := by decide +kernel
theorem dX3_seatCheapest_49 : decode cX3_seatCheapest 49 = .ok (.istore_n 2, 1) := by decide +kernel
theorem dX3_seatCheapest_50 : decode cX3_seatCheapest 50 = .ok (.iload_n 2, 1) := by decide +kernel
theorem dX3_seatCheapest_51 : decode cX3_seatCheapest 51 = .ok (.ifCond .lt 44, 3) := by decide +kernel
theorem dX3_seatCheapest_54 : decode cX3_seatCheapest 54 = .ok (.iconst 0, 1) := by decide +kernel
theorem dX3_seatCheapest_55 : decode cX3_seatCheapest 55 = .ok (.istore_n 3, 1) := by decide +kernel
theorem dX3_seatCheapest_56 : decode cX3_seatCheapest 56 = .ok (.iload_n 3, 1) := by decide +kernel
theorem dX3_seatCheapest_57 : decode cX3_seatCheapest 57 = .ok (.iload_n 1, 1) := by decide +kernel
theorem dX3_seatCheapest_58 : decode cX3_seatCheapest 58 = .ok (.if_icmp .ge 31, 3) := by decide +kernel
theorem dX3_seatCheapest_61 : decode cX3_seatCheapest 61 = .ok (.aload_n 0, 1) := by decide +kernel
theorem dX3_seatCheapest_62 : decode cX3_seatCheapest 62 = .ok (.getfield 19, 3) := by decide +kernel
theorem dX3_seatCheapest_65 : decode cX3_seatCheapest 65 = .ok (.iload_n 2, 1) := by decide +kernel
theorem dX3_seatCheapest_66 : decode cX3_seatCheapest 66 = .ok (.iload_n 3, 1) := by decide +kernel
theorem dX3_seatCheapest_67 : decode cX3_seatCheapest 67 = .ok (.invokestatic 44, 3) := by decide +kernel
theorem dX3_seatCheapest_70 : decode cX3_seatCheapest 70 = .ok (.aload_n 0, 1) := by decide +kernel
theorem dX3_seatCheapest_71 : decode cX3_seatCheapest 71 = .ok (.iload_n 2, 1) := by decide +kernel
theorem dX3_seatCheapest_72 : decode cX3_seatCheapest 72 = .ok (.iload_n 3, 1) := by decide +kernel
theorem dX3_seatCheapest_73 : decode cX3_seatCheapest 73 = .ok (.aload_n 0, 1) := by decide +kernel
theorem dX3_seatCheapest_74 : decode cX3_seatCheapest 74 = .ok (.iload_n 2, 1) := by decide +kernel
theorem dX3_seatCheapest_75 : decode cX3_seatCheapest 75 = .ok (.iload_n 3, 1) := by decide +kernel
theorem dX3_seatCheapest_76 : decode cX3_seatCheapest 76 = .ok (.invokevirtual 48, 3) := by decide +kernel
theorem dX3_seatCheapest_79 : decode cX3_seatCheapest 79 = .ok (.invokevirtual 51, 3) := by decide +kernel
theorem dX3_seatCheapest_82 : decode cX3_seatCheapest 82 = .ok (.iastore, 1) := by decide +kernel
theorem dX3_seatCheapest_83 : decode cX3_seatCheapest 83 = .ok (.iinc 3 1, 3) := by decide +kernel
theorem dX3_seatCheapest_86 : decode cX3_seatCheapest 86 = .ok (.goto (-30), 3) := by decide +kernel
theorem dX3_seatCheapest_89 : decode cX3_seatCheapest 89 = .ok (.iinc 2 (-1), 3) := by decide +kernel
theorem dX3_seatCheapest_92 : decode cX3_seatCheapest 92 = .ok (.goto (-42), 3) := by decide +kernel
theorem dX3_seatCheapest_95 : decode cX3_seatCheapest 95 = .ok (.iconst 0, 1) := by decide +kernel
theorem dX3_seatCheapest_96 : decode cX3_seatCheapest 96 = .ok (.istore_n 2, 1) := by decide +kernel
theorem dX3_seatCheapest_97 : decode cX3_seatCheapest 97 = .ok (.iconst 0, 1) := by decide +kernel
theorem dX3_seatCheapest_98 : decode cX3_seatCheapest 98 = .ok (.istore_n 3, 1) := by decide +kernel
theorem dX3_seatCheapest_99 : decode cX3_seatCheapest 99 = .ok (.iload_n 3, 1) := by decide +kernel
theorem dX3_seatCheapest_100 : decode cX3_seatCheapest 100 = .ok (.aload_n 0, 1) := by decide +kernel
theorem dX3_seatCheapest_101 : decode cX3_seatCheapest 101 = .ok (.getfield 9, 3) := by decide +kernel
theorem dX3_seatCheapest_104 : decode cX3_seatCheapest 104 = .ok (.getfield 32, 3) := by decide +kernel
theorem dX3_seatCheapest_107 : decode cX3_seatCheapest 107 = .ok (.if_icmp .ge 43, 3) := by decide +kernel
theorem dX3_seatCheapest_110 : decode cX3_seatCheapest 110 = .ok (.aload_n 0, 1) := by decide +kernel
theorem dX3_seatCheapest_111 : decode cX3_seatCheapest 111 = .ok (.getfield 22, 3) := by decide +kernel
theorem dX3_seatCheapest_114 : decode cX3_seatCheapest 114 = .ok (.iload_n 3, 1) := by decide +kernel
theorem dX3_seatCheapest_115 : decode cX3_seatCheapest 115 = .ok (.aload_n 0, 1) := by decide +kernel
theorem dX3_seatCheapest_116 : decode cX3_seatCheapest 116 = .ok (.iload_n 3, 1) := by decide +kernel
theorem dX3_seatCheapest_117 : decode cX3_seatCheapest 117 = .ok (.iload_n 2, 1) := by decide +kernel
theorem dX3_seatCheapest_118 : decode cX3_seatCheapest 118 = .ok (.invokevirtual 48, 3) := by decide +kernel
theorem dX3_seatCheapest_121 : decode cX3_seatCheapest 121 = .ok (.iastore, 1) := by decide +kernel
theorem dX3_seatCheapest_122 : decode cX3_seatCheapest 122 = .ok (.aload_n 0, 1) := by decide +kernel
theorem dX3_seatCheapest_123 : decode cX3_seatCheapest 123 = .ok (.getfield 22, 3) := by decide +kernel
theorem dX3_seatCheapest_126 : decode cX3_seatCheapest 126 = .ok (.iload_n 3, 1) := by decide +kernel
theorem dX3_seatCheapest_127 : decode cX3_seatCheapest 127 = .ok (.iaload, 1) := by decide +kernel
theorem dX3_seatCheapest_128 : decode cX3_seatCheapest 128 = .ok (.bipush (-9), 2) := by decide +kernel
theorem dX3_seatCheapest_130 : decode cX3_seatCheapest 130 = .ok (.if_icmp .eq 14, 3) := by decide +kernel
theorem dX3_seatCheapest_133 : decode cX3_seatCheapest 133 = .ok (.iload_n 2, 1) := by decide +kernel
theorem dX3_seatCheapest_134 : decode cX3_seatCheapest 134 = .ok (.iconst 1, 1) := by decide +kernel
theorem dX3_seatCheapest_135 : decode cX3_seatCheapest 135 = .ok (.aload_n 0, 1) := by decide +kernel
theorem dX3_seatCheapest_136 : decode cX3_seatCheapest 136 = .ok (.getfield 22, 3) := by decide +kernel
theorem dX3_seatCheapest_139 : decode cX3_seatCheapest 139 = .ok (.iload_n 3, 1) := by decide +kernel
theorem dX3_seatCheapest_140 : decode cX3_seatCheapest 140 = .ok (.iaload, 1) := by decide +kernel
theorem dX3_seatCheapest_141 : decode cX3_seatCheapest 141 = .ok (.ishl, 1) := by decide +kernel
theorem dX3_seatCheapest_142 : decode cX3_seatCheapest 142 = .ok (.ior, 1) := by decide +kernel
theorem dX3_seatCheapest_143 : decode cX3_seatCheapest 143 = .ok (.istore_n 2, 1) := by decide +kernel
theorem dX3_seatCheapest_144 : decode cX3_seatCheapest 144 = .ok (.iinc 3 1, 3) := by decide +kernel
theorem dX3_seatCheapest_147 : decode cX3_seatCheapest 147 = .ok (.goto (-48), 3) := by decide +kernel
theorem dX3_seatCheapest_150 : decode cX3_seatCheapest 150 = .ok (.aload_n 0, 1) := by decide +kernel
theorem dX3_seatCheapest_151 : decode cX3_seatCheapest 151 = .ok (.getfield 19, 3) := by decide +kernel
theorem dX3_seatCheapest_154 : decode cX3_seatCheapest 154 = .ok (.iconst 0, 1) := by decide +kernel
theorem dX3_seatCheapest_155 : decode cX3_seatCheapest 155 = .ok (.iconst 0, 1) := by decide +kernel
theorem dX3_seatCheapest_156 : decode cX3_seatCheapest 156 = .ok (.invokestatic 44, 3) := by decide +kernel
theorem dX3_seatCheapest_159 : decode cX3_seatCheapest 159 = .ok (.iaload, 1) := by decide +kernel
theorem dX3_seatCheapest_160 : decode cX3_seatCheapest 160 = .ok (.ireturn, 1) := by decide +kernel
theorem dX3_bestChair_0 : decode cX3_bestChair 0 = .ok (.bipush (-9), 2) := by decide +kernel
theorem dX3_bestChair_2 : decode cX3_bestChair 2 = .ok (.istore_n 3, 1) := by decide +kernel
theorem dX3_bestChair_3 : decode cX3_bestChair 3 = .ok (.aload_n 0, 1) := by decide +kernel
theorem dX3_bestChair_4 : decode cX3_bestChair 4 = .ok (.iload_n 1, 1) := by decide +kernel
theorem dX3_bestChair_5 : decode cX3_bestChair 5 = .ok (.iload_n 2, 1) := by decide +kernel
theorem dX3_bestChair_6 : decode cX3_bestChair 6 = .ok (.bipush (-9), 2) := by decide +kernel
theorem dX3_bestChair_8 : decode cX3_bestChair 8 = .ok (.invokevirtual 51, 3) := by decide +kernel
theorem dX3_bestChair_11 : decode cX3_bestChair 11 = .ok (.istore 4, 2) := by decide +kernel
theorem dX3_bestChair_13 : decode cX3_bestChair 13 = .ok (.aload_n 0, 1) := by decide +kernel
theorem dX3_bestChair_14 : decode cX3_bestChair 14 = .ok (.getfield 9, 3) := by decide +kernel
theorem dX3_bestChair_17 : decode cX3_bestChair 17 = .ok (.getfield 41, 3) := by decide +kernel
theorem dX3_bestChair_20 : decode cX3_bestChair 20 = .ok (.iconst 1, 1) := by decide +kernel
theorem dX3_bestChair_21 : decode cX3_bestChair 21 = .ok (.isub, 1) := by decide +kernel
theorem dX3_bestChair_22 : decode cX3_bestChair 22 = .ok (.istore 5, 2) := by decide +kernel
theorem dX3_bestChair_24 : decode cX3_bestChair 24 = .ok (.iload 5, 2) := by decide +kernel
theorem dX3_bestChair_26 : decode cX3_bestChair 26 = .ok (.ifCond .lt 44, 3) := by decide +kernel
theorem dX3_bestChair_29 : decode cX3_bestChair 29 = .ok (.iload_n 2, 1) := by decide +kernel
theorem dX3_bestChair_30 : decode cX3_bestChair 30 = .ok (.iload 5, 2) := by decide +kernel
theorem dX3_bestChair_32 : decode cX3_bestChair 32 = .ok (.ishr, 1) := by decide +kernel
theorem dX3_bestChair_33 : decode cX3_bestChair 33 = .ok (.iconst 1, 1) := by decide +kernel
theorem dX3_bestChair_34 : decode cX3_bestChair 34 = .ok (.iand, 1) := by decide +kernel
theorem dX3_bestChair_35 : decode cX3_bestChair 35 = .ok (.ifCond .ne 29, 3) := by decide +kernel
theorem dX3_bestChair_38 : decode cX3_bestChair 38 = .ok (.aload_n 0, 1) := by decide +kernel
theorem dX3_bestChair_39 : decode cX3_bestChair 39 = .ok (.iload_n 1, 1) := by decide +kernel
theorem dX3_bestChair_40 : decode cX3_bestChair 40 = .ok (.iload_n 2, 1) := by decide +kernel
theorem dX3_bestChair_41 : decode cX3_bestChair 41 = .ok (.iload 5, 2) := by decide +kernel
theorem dX3_bestChair_43 : decode cX3_bestChair 43 = .ok (.invokevirtual 51, 3) := by decide +kernel
theorem dX3_bestChair_46 : decode cX3_bestChair 46 = .ok (.iload 4, 2) := by decide +kernel
theorem dX3_bestChair_48 : decode cX3_bestChair 48 = .ok (.if_icmp .gt 16, 3) := by decide +kernel
theorem dX3_bestChair_51 : decode cX3_bestChair 51 = .ok (.iload 5, 2) := by decide +kernel
theorem dX3_bestChair_53 : decode cX3_bestChair 53 = .ok (.istore_n 3, 1) := by decide +kernel
theorem dX3_bestChair_54 : decode cX3_bestChair 54 = .ok (.aload_n 0, 1) := by decide +kernel
theorem dX3_bestChair_55 : decode cX3_bestChair 55 = .ok (.iload_n 1, 1) := by decide +kernel
theorem dX3_bestChair_56 : decode cX3_bestChair 56 = .ok (.iload_n 2, 1) := by decide +kernel
theorem dX3_bestChair_57 : decode cX3_bestChair 57 = .ok (.iload 5, 2) := by decide +kernel
theorem dX3_bestChair_59 : decode cX3_bestChair 59 = .ok (.invokevirtual 51, 3) := by decide +kernel
theorem dX3_bestChair_62 : decode cX3_bestChair 62 = .ok (.istore 4, 2) := by decide +kernel
theorem dX3_bestChair_64 : decode cX3_bestChair 64 = .ok (.iinc 5 (-1), 3) := by decide +kernel
theorem dX3_bestChair_67 : decode cX3_bestChair 67 = .ok (.goto (-43), 3) := by decide +kernel
theorem dX3_bestChair_70 : decode cX3_bestChair 70 = .ok (.iload_n 3, 1) := by decide +kernel
theorem dX3_bestChair_71 : decode cX3_bestChair 71 = .ok (.ireturn, 1) := by decide +kernel
theorem dX3_costOf_0 : decode cX3_costOf 0 = .ok (.iload_n 3, 1) := by decide +kernel
theorem dX3_costOf_1 : decode cX3_costOf 1 = .ok (.bipush (-9), 2) := by decide +kernel
theorem dX3_costOf_3 : decode cX3_costOf 3 = .ok (.if_icmp .ne 21, 3) := by decide +kernel
theorem dX3_costOf_6 : decode cX3_costOf 6 = .ok (.aload_n 0, 1) := by decide +kernel
theorem dX3_costOf_7 : decode cX3_costOf 7 = .ok (.getfield 29, 3) := by decide +kernel
theorem dX3_costOf_10 : decode cX3_costOf 10 = .ok (.aload_n 0, 1) := by decide +kernel
theorem dX3_costOf_11 : decode cX3_costOf 11 = .ok (.getfield 19, 3) := by decide +kernel
theorem dX3_costOf_14 : decode cX3_costOf 14 = .ok (.iload_n 1, 1) := by decide +kernel
theorem dX3_costOf_15 : decode cX3_costOf 15 = .ok (.iconst 1, 1) := by decide +kernel
theorem dX3_costOf_16 : decode cX3_costOf 16 = .ok (.iadd, 1) := by decide +kernel
theorem dX3_costOf_17 : decode cX3_costOf 17 = .ok (.iload_n 2, 1) := by decide +kernel
theorem dX3_costOf_18 : decode cX3_costOf 18 = .ok (.invokestatic 44, 3) := by decide +kernel
theorem dX3_costOf_21 : decode cX3_costOf 21 = .ok (.iaload, 1) := by decide +kernel
theorem dX3_costOf_22 : decode cX3_costOf 22 = .ok (.iadd, 1) := by decide +kernel
theorem dX3_costOf_23 : decode cX3_costOf 23 = .ok (.ireturn, 1) := by decide +kernel
theorem dX3_costOf_24 : decode cX3_costOf 24 = .ok (.aload_n 0, 1) := by decide +kernel
theorem dX3_costOf_25 : decode cX3_costOf 25 = .ok (.getfield 15, 3) := by decide +kernel
theorem dX3_costOf_28 : decode cX3_costOf 28 = .ok (.iload_n 3, 1) := by decide +kernel
theorem dX3_costOf_29 : decode cX3_costOf 29 = .ok (.iaload, 1) := by decide +kernel
theorem dX3_costOf_30 : decode cX3_costOf 30 = .ok (.iload_n 1, 1) := by decide +kernel
theorem dX3_costOf_31 : decode cX3_costOf 31 = .ok (.ishr, 1) := by decide +kernel
theorem dX3_costOf_32 : decode cX3_costOf 32 = .ok (.iconst 1, 1) := by decide +kernel
theorem dX3_costOf_33 : decode cX3_costOf 33 = .ok (.iand, 1) := by decide +kernel
theorem dX3_costOf_34 : decode cX3_costOf 34 = .ok (.ifCond .eq 7, 3) := by decide +kernel
theorem dX3_costOf_37 : decode cX3_costOf 37 = .ok (.iconst 0, 1) := by decide +kernel
theorem dX3_costOf_38 : decode cX3_costOf 38 = .ok (.goto 7, 3) := by decide +kernel
theorem dX3_costOf_41 : decode cX3_costOf 41 = .ok (.aload_n 0, 1) := by decide +kernel
theorem dX3_costOf_42 : decode cX3_costOf 42 = .ok (.getfield 25, 3) := by decide +kernel
theorem dX3_costOf_45 : decode cX3_costOf 45 = .ok (.istore 4, 2) := by decide +kernel
theorem dX3_costOf_47 : decode cX3_costOf 47 = .ok (.iload 4, 2) := by decide +kernel
theorem dX3_costOf_49 : decode cX3_costOf 49 = .ok (.aload_n 0, 1) := by decide +kernel
theorem dX3_costOf_50 : decode cX3_costOf 50 = .ok (.getfield 19, 3) := by decide +kernel
theorem dX3_costOf_53 : decode cX3_costOf 53 = .ok (.iload_n 1, 1) := by decide +kernel
theorem dX3_costOf_54 : decode cX3_costOf 54 = .ok (.iconst 1, 1) := by decide +kernel
theorem dX3_costOf_55 : decode cX3_costOf 55 = .ok (.iadd, 1) := by decide +kernel
theorem dX3_costOf_56 : decode cX3_costOf 56 = .ok (.iload_n 2, 1) := by decide +kernel
theorem dX3_costOf_57 : decode cX3_costOf 57 = .ok (.iconst 1, 1) := by decide +kernel
theorem dX3_costOf_58 : decode cX3_costOf 58 = .ok (.iload_n 3, 1) := by decide +kernel
theorem dX3_costOf_59 : decode cX3_costOf 59 = .ok (.ishl, 1) := by decide +kernel
theorem dX3_costOf_60 : decode cX3_costOf 60 = .ok (.ior, 1) := by decide +kernel
theorem dX3_costOf_61 : decode cX3_costOf 61 = .ok (.invokestatic 44, 3) := by decide +kernel
theorem dX3_costOf_64 : decode cX3_costOf 64 = .ok (.iaload, 1) := by decide +kernel
theorem dX3_costOf_65 : decode cX3_costOf 65 = .ok (.iadd, 1) := by decide +kernel
theorem dX3_costOf_66 : decode cX3_costOf 66 = .ok (.ireturn, 1) := by decide +kernel
theorem dX3_at_0 : decode cX3_at 0 = .ok (.iload_n 0, 1) := by decide +kernel
theorem dX3_at_1 : decode cX3_at 1 = .ok (.iconst 5, 1) := by decide +kernel
theorem dX3_at_2 : decode cX3_at 2 = .ok (.ishl, 1) := by decide +kernel
theorem dX3_at_3 : decode cX3_at 3 = .ok (.iload_n 1, 1) := by decide +kernel
theorem dX3_at_4 : decode cX3_at 4 = .ok (.iadd, 1) := by decide +kernel
theorem dX3_at_5 : decode cX3_at 5 = .ok (.ireturn, 1) := by decide +kernel
theorem dX4_init_0 : decode cX4_init 0 = .ok (.aload_n 0, 1) := by decide +kernel
theorem dX4_init_1 : decode cX4_init 1 = .ok (.invokespecial 3, 3) := by decide +kernel
theorem dX4_init_4 : decode cX4_init 4 = .ok (.aload_n 0, 1) := by decide +kernel
theorem dX4_init_5 : decode cX4_init 5 = .ok (.bipush 60, 2) := by decide +kernel
theorem dX4_init_7 : decode cX4_init 7 = .ok (.newarray .int, 2) := by decide +kernel
theorem dX4_init_9 : decode cX4_init 9 = .ok (.putfield 9, 3) := by decide +kernel
theorem dX4_init_12 : decode cX4_init 12 = .ok (.aload_n 0, 1) := by decide +kernel
theorem dX4_init_13 : decode cX4_init 13 = .ok (.iconst 0, 1) := by decide +kernel
theorem dX4_init_14 : decode cX4_init 14 = .ok (.putfield 15, 3) := by decide +kernel
theorem dX4_init_17 : decode cX4_init 17 = .ok (.aload_n 0, 1) := by decide +kernel
theorem dX4_init_18 : decode cX4_init 18 = .ok (.iconst (-1), 1) := by decide +kernel
theorem dX4_init_19 : decode cX4_init 19 = .ok (.putfield 19, 3) := by decide +kernel
theorem dX4_init_22 : decode cX4_init 22 = .ok (.return_, 1) := by decide +kernel
theorem dX4_isEmpty_0 : decode cX4_isEmpty 0 = .ok (.aload_n 0, 1) := by decide +kernel
theorem dX4_isEmpty_1 : decode cX4_isEmpty 1 = .ok (.getfield 19, 3) := by decide +kernel
theorem dX4_isEmpty_4 : decode cX4_isEmpty 4 = .ok (.iconst (-1), 1) := by decide +kernel
theorem dX4_isEmpty_5 : decode cX4_isEmpty 5 = .ok (.if_icmp .ne 7, 3) := by decide +kernel
theorem dX4_isEmpty_8 : decode cX4_isEmpty 8 = .ok (.iconst 1, 1) := by decide +kernel
theorem dX4_isEmpty_9 : decode cX4_isEmpty 9 = .ok (.goto 4, 3) := by decide +kernel
theorem dX4_isEmpty_12 : decode cX4_isEmpty 12 = .ok (.iconst 0, 1) := by decide +kernel
theorem dX4_isEmpty_13 : decode cX4_isEmpty 13 = .ok (.ireturn, 1) := by decide +kernel
theorem dX4_begin_0 : decode cX4_begin 0 = .ok (.aload_n 0, 1) := by decide +kernel
theorem dX4_begin_1 : decode cX4_begin 1 = .ok (.iload_n 1, 1) := by decide +kernel
theorem dX4_begin_2 : decode cX4_begin 2 = .ok (.putfield 15, 3) := by decide +kernel
theorem dX4_begin_5 : decode cX4_begin 5 = .ok (.aload_n 0, 1) := by decide +kernel
theorem dX4_begin_6 : decode cX4_begin 6 = .ok (.iload_n 2, 1) := by decide +kernel
theorem dX4_begin_7 : decode cX4_begin 7 = .ok (.putfield 19, 3) := by decide +kernel
theorem dX4_begin_10 : decode cX4_begin 10 = .ok (.iconst 0, 1) := by decide +kernel
theorem dX4_begin_11 : decode cX4_begin 11 = .ok (.istore_n 3, 1) := by decide +kernel
theorem dX4_begin_12 : decode cX4_begin 12 = .ok (.iload_n 3, 1) := by decide +kernel
theorem dX4_begin_13 : decode cX4_begin 13 = .ok (.bipush 60, 2) := by decide +kernel
theorem dX4_begin_15 : decode cX4_begin 15 = .ok (.if_icmp .ge 16, 3) := by decide +kernel
theorem dX4_begin_18 : decode cX4_begin 18 = .ok (.aload_n 0, 1) := by decide +kernel
theorem dX4_begin_19 : decode cX4_begin 19 = .ok (.getfield 9, 3) := by decide +kernel
theorem dX4_begin_22 : decode cX4_begin 22 = .ok (.iload_n 3, 1) := by decide +kernel
theorem dX4_begin_23 : decode cX4_begin 23 = .ok (.iconst 0, 1) := by decide +kernel
theorem dX4_begin_24 : decode cX4_begin 24 = .ok (.iastore, 1) := by decide +kernel
theorem dX4_begin_25 : decode cX4_begin 25 = .ok (.iinc 3 1, 3) := by decide +kernel
theorem dX4_begin_28 : decode cX4_begin 28 = .ok (.goto (-16), 3) := by decide +kernel
theorem dX4_begin_31 : decode cX4_begin 31 = .ok (.return_, 1) := by decide +kernel
theorem dX4_drop_0 : decode cX4_drop 0 = .ok (.aload_n 0, 1) := by decide +kernel
theorem dX4_drop_1 : decode cX4_drop 1 = .ok (.invokevirtual 22, 3) := by decide +kernel
theorem dX4_drop_4 : decode cX4_drop 4 = .ok (.ifCond .ne 7, 3) := by decide +kernel
theorem dX4_drop_7 : decode cX4_drop 7 = .ok (.iconst 1, 1) := by decide +kernel
theorem dX4_drop_8 : decode cX4_drop 8 = .ok (.goto 4, 3) := by decide +kernel
theorem dX4_drop_11 : decode cX4_drop 11 = .ok (.iconst 0, 1) := by decide +kernel
theorem dX4_drop_12 : decode cX4_drop 12 = .ok (.istore_n 1, 1) := by decide +kernel
theorem dX4_drop_13 : decode cX4_drop 13 = .ok (.aload_n 0, 1) := by decide +kernel
theorem dX4_drop_14 : decode cX4_drop 14 = .ok (.iconst (-1), 1) := by decide +kernel
theorem dX4_drop_15 : decode cX4_drop 15 = .ok (.putfield 19, 3) := by decide +kernel
theorem dX4_drop_18 : decode cX4_drop 18 = .ok (.iload_n 1, 1) := by decide +kernel
theorem dX4_drop_19 : decode cX4_drop 19 = .ok (.ireturn, 1) := by decide +kernel
theorem dX4_reaches_0 : decode cX4_reaches 0 = .ok (.iload_n 1, 1) := by decide +kernel
theorem dX4_reaches_1 : decode cX4_reaches 1 = .ok (.ifCond .lt 29, 3) := by decide +kernel
theorem dX4_reaches_4 : decode cX4_reaches 4 = .ok (.iload_n 1, 1) := by decide +kernel
theorem dX4_reaches_5 : decode cX4_reaches 5 = .ok (.aload_n 0, 1) := by decide +kernel
theorem dX4_reaches_6 : decode cX4_reaches 6 = .ok (.getfield 19, 3) := by decide +kernel
theorem dX4_reaches_9 : decode cX4_reaches 9 = .ok (.if_icmp .gt 21, 3) := by decide +kernel
theorem dX4_reaches_12 : decode cX4_reaches 12 = .ok (.iload_n 2, 1) := by decide +kernel
theorem dX4_reaches_13 : decode cX4_reaches 13 = .ok (.ifCond .lt 17, 3) := by decide +kernel
theorem dX4_reaches_16 : decode cX4_reaches 16 = .ok (.iload_n 2, 1) := by decide +kernel
theorem dX4_reaches_17 : decode cX4_reaches 17 = .ok (.aload_n 0, 1) := by decide +kernel
theorem dX4_reaches_18 : decode cX4_reaches 18 = .ok (.getfield 19, 3) := by decide +kernel
theorem dX4_reaches_21 : decode cX4_reaches 21 = .ok (.iload_n 1, 1) := by decide +kernel
theorem dX4_reaches_22 : decode cX4_reaches 22 = .ok (.isub, 1) := by decide +kernel
theorem dX4_reaches_23 : decode cX4_reaches 23 = .ok (.if_icmp .gt 7, 3) := by decide +kernel
theorem dX4_reaches_26 : decode cX4_reaches 26 = .ok (.iconst 1, 1) := by decide +kernel
theorem dX4_reaches_27 : decode cX4_reaches 27 = .ok (.goto 4, 3) := by decide +kernel
theorem dX4_reaches_30 : decode cX4_reaches 30 = .ok (.iconst 0, 1) := by decide +kernel
theorem dX4_reaches_31 : decode cX4_reaches 31 = .ok (.ireturn, 1) := by decide +kernel
theorem dX4_faultOfLane_0 : decode cX4_faultOfLane 0 = .ok (.aload_n 0, 1) := by decide +kernel
theorem dX4_faultOfLane_1 : decode cX4_faultOfLane 1 = .ok (.invokevirtual 22, 3) := by decide +kernel
theorem dX4_faultOfLane_4 : decode cX4_faultOfLane 4 = .ok (.ifCond .eq 5, 3) := by decide +kernel
theorem dX4_faultOfLane_7 : decode cX4_faultOfLane 7 = .ok (.iconst 1, 1) := by decide +kernel
theorem dX4_faultOfLane_8 : decode cX4_faultOfLane 8 = .ok (.ireturn, 1) := by decide +kernel
theorem dX4_faultOfLane_9 : decode cX4_faultOfLane 9 = .ok (.aload_n 0, 1) := by decide +kernel
theorem dX4_faultOfLane_10 : decode cX4_faultOfLane 10 = .ok (.getfield 15, 3) := by decide +kernel
theorem dX4_faultOfLane_13 : decode cX4_faultOfLane 13 = .ok (.iload_n 1, 1) := by decide +kernel
theorem dX4_faultOfLane_14 : decode cX4_faultOfLane 14 = .ok (.if_icmp .ne 7, 3) := by decide +kernel
theorem dX4_faultOfLane_17 : decode cX4_faultOfLane 17 = .ok (.iconst 0, 1) := by decide +kernel
theorem dX4_faultOfLane_18 : decode cX4_faultOfLane 18 = .ok (.goto 4, 3) := by decide +kernel
theorem dX4_faultOfLane_21 : decode cX4_faultOfLane 21 = .ok (.iconst 2, 1) := by decide +kernel
theorem dX4_faultOfLane_22 : decode cX4_faultOfLane 22 = .ok (.ireturn, 1) := by decide +kernel
theorem dX4_faultOfPlace_0 : decode cX4_faultOfPlace 0 = .ok (.aload_n 0, 1) := by decide +kernel
theorem dX4_faultOfPlace_1 : decode cX4_faultOfPlace 1 = .ok (.invokevirtual 22, 3) := by decide +kernel
theorem dX4_faultOfPlace_4 : decode cX4_faultOfPlace 4 = .ok (.ifCond .eq 5, 3) := by decide +kernel
theorem dX4_faultOfPlace_7 : decode cX4_faultOfPlace 7 = .ok (.iconst 1, 1) := by decide +kernel
theorem dX4_faultOfPlace_8 : decode cX4_faultOfPlace 8 = .ok (.ireturn, 1) := by decide +kernel
theorem dX4_faultOfPlace_9 : decode cX4_faultOfPlace 9 = .ok (.iload_n 1, 1) := by decide +kernel
theorem dX4_faultOfPlace_10 : decode cX4_faultOfPlace 10 = .ok (.ifCond .lt 15, 3) := by decide +kernel
theorem dX4_faultOfPlace_13 : decode cX4_faultOfPlace 13 = .ok (.iload_n 1, 1) := by decide +kernel
theorem dX4_faultOfPlace_14 : decode cX4_faultOfPlace 14 = .ok (.aload_n 0, 1) := by decide +kernel
theorem dX4_faultOfPlace_15 : decode cX4_faultOfPlace 15 = .ok (.getfield 19, 3) := by decide +kernel
theorem dX4_faultOfPlace_18 : decode cX4_faultOfPlace 18 = .ok (.if_icmp .ge 7, 3) := by decide +kernel
theorem dX4_faultOfPlace_21 : decode cX4_faultOfPlace 21 = .ok (.iconst 0, 1) := by decide +kernel
theorem dX4_faultOfPlace_22 : decode cX4_faultOfPlace 22 = .ok (.goto 4, 3) := by decide +kernel
theorem dX4_faultOfPlace_25 : decode cX4_faultOfPlace 25 = .ok (.iconst 3, 1) := by decide +kernel
theorem dX4_faultOfPlace_26 : decode cX4_faultOfPlace 26 = .ok (.ireturn, 1) := by decide +kernel
theorem dX4_faultOfCells_0 : decode cX4_faultOfCells 0 = .ok (.aload_n 0, 1) := by decide +kernel
theorem dX4_faultOfCells_1 : decode cX4_faultOfCells 1 = .ok (.iload_n 1, 1) := by decide +kernel
theorem dX4_faultOfCells_2 : decode cX4_faultOfCells 2 = .ok (.invokevirtual 26, 3) := by decide +kernel
theorem dX4_faultOfCells_5 : decode cX4_faultOfCells 5 = .ok (.istore 4, 2) := by decide +kernel
theorem dX4_faultOfCells_7 : decode cX4_faultOfCells 7 = .ok (.iload 4, 2) := by decide +kernel
theorem dX4_faultOfCells_9 : decode cX4_faultOfCells 9 = .ok (.ifCond .eq 6, 3) := by decide +kernel
theorem dX4_faultOfCells_12 : decode cX4_faultOfCells 12 = .ok (.iload 4, 2) := by decide +kernel
theorem dX4_faultOfCells_14 : decode cX4_faultOfCells 14 = .ok (.ireturn, 1) := by decide +kernel
theorem dX4_faultOfCells_15 : decode cX4_faultOfCells 15 = .ok (.iload_n 3, 1) := by decide +kernel
theorem dX4_faultOfCells_16 : decode cX4_faultOfCells 16 = .ok (.ifCond .ge 5, 3) := by decide +kernel
theorem dX4_faultOfCells_19 : decode cX4_faultOfCells 19 = .ok (.iconst 4, 1) := by decide +kernel
theorem dX4_faultOfCells_20 : decode cX4_faultOfCells 20 = .ok (.ireturn, 1) := by decide +kernel
theorem dX4_faultOfCells_21 : decode cX4_faultOfCells 21 = .ok (.aload_n 0, 1) := by decide +kernel
theorem dX4_faultOfCells_22 : decode cX4_faultOfCells 22 = .ok (.iload_n 2, 1) := by decide +kernel
theorem dX4_faultOfCells_23 : decode cX4_faultOfCells 23 = .ok (.iload_n 3, 1) := by decide +kernel
theorem dX4_faultOfCells_24 : decode cX4_faultOfCells 24 = .ok (.invokevirtual 30, 3) := by decide +kernel
theorem dX4_faultOfCells_27 : decode cX4_faultOfCells 27 = .ok (.ifCond .eq 7, 3) := by decide +kernel
theorem dX4_faultOfCells_30 : decode cX4_faultOfCells 30 = .ok (.iconst 0, 1) := by decide +kernel
theorem dX4_faultOfCells_31 : decode cX4_faultOfCells 31 = .ok (.goto 4, 3) := by decide +kernel
theorem dX4_faultOfCells_34 : decode cX4_faultOfCells 34 = .ok (.iconst 3, 1) := by decide +kernel
theorem dX4_faultOfCells_35 : decode cX4_faultOfCells 35 = .ok (.ireturn, 1) := by decide +kernel
theorem dX4_write_0 : decode cX4_write 0 = .ok (.aload_n 0, 1) := by decide +kernel
theorem dX4_write_1 : decode cX4_write 1 = .ok (.getfield 9, 3) := by decide +kernel
theorem dX4_write_4 : decode cX4_write 4 = .ok (.iload_n 1, 1) := by decide +kernel
theorem dX4_write_5 : decode cX4_write 5 = .ok (.aload_n 0, 1) := by decide +kernel
theorem dX4_write_6 : decode cX4_write 6 = .ok (.iload_n 2, 1) := by decide +kernel
theorem dX4_write_7 : decode cX4_write 7 = .ok (.invokevirtual 34, 3) := by decide +kernel
theorem dX4_write_10 : decode cX4_write 10 = .ok (.iastore, 1) := by decide +kernel
theorem dX4_write_11 : decode cX4_write 11 = .ok (.return_, 1) := by decide +kernel
theorem dX4_cut_0 : decode cX4_cut 0 = .ok (.aload_n 0, 1) := by decide +kernel
theorem dX4_cut_1 : decode cX4_cut 1 = .ok (.getfield 15, 3) := by decide +kernel
theorem dX4_cut_4 : decode cX4_cut 4 = .ok (.ifCond .ne 6, 3) := by decide +kernel
theorem dX4_cut_7 : decode cX4_cut 7 = .ok (.iload_n 1, 1) := by decide +kernel
theorem dX4_cut_8 : decode cX4_cut 8 = .ok (.i2b, 1) := by decide +kernel
theorem dX4_cut_9 : decode cX4_cut 9 = .ok (.ireturn, 1) := by decide +kernel
theorem dX4_cut_10 : decode cX4_cut 10 = .ok (.aload_n 0, 1) := by decide +kernel
theorem dX4_cut_11 : decode cX4_cut 11 = .ok (.getfield 15, 3) := by decide +kernel
theorem dX4_cut_14 : decode cX4_cut 14 = .ok (.iconst 1, 1) := by decide +kernel
theorem dX4_cut_15 : decode cX4_cut 15 = .ok (.if_icmp .ne 8, 3) := by decide +kernel
theorem dX4_cut_18 : decode cX4_cut 18 = .ok (.iload_n 1, 1) := by decide +kernel
theorem dX4_cut_19 : decode cX4_cut 19 = .ok (.i2s, 1) := by decide +kernel
theorem dX4_cut_20 : decode cX4_cut 20 = .ok (.goto 4, 3) := by decide +kernel
theorem dX4_cut_23 : decode cX4_cut 23 = .ok (.iload_n 1, 1) := by decide +kernel
theorem dX4_cut_24 : decode cX4_cut 24 = .ok (.ireturn, 1) := by decide +kernel
theorem dX5_init_0 : decode cX5_init 0 = .ok (.aload_n 0, 1) := by decide +kernel
theorem dX5_init_1 : decode cX5_init 1 = .ok (.invokespecial 3, 3) := by decide +kernel
theorem dX5_init_4 : decode cX5_init 4 = .ok (.aload_n 0, 1) := by decide +kernel
theorem dX5_init_5 : decode cX5_init 5 = .ok (.new 9, 3) := by decide +kernel
theorem dX5_init_8 : decode cX5_init 8 = .ok (.dup, 1) := by decide +kernel
theorem dX5_init_9 : decode cX5_init 9 = .ok (.invokespecial 11, 3) := by decide +kernel
theorem dX5_init_12 : decode cX5_init 12 = .ok (.putfield 12, 3) := by decide +kernel
theorem dX5_init_15 : decode cX5_init 15 = .ok (.aload_n 0, 1) := by decide +kernel
theorem dX5_init_16 : decode cX5_init 16 = .ok (.new 18, 3) := by decide +kernel
theorem dX5_init_19 : decode cX5_init 19 = .ok (.dup, 1) := by decide +kernel
theorem dX5_init_20 : decode cX5_init 20 = .ok (.invokespecial 20, 3) := by decide +kernel
theorem dX5_init_23 : decode cX5_init 23 = .ok (.putfield 21, 3) := by decide +kernel
theorem dX5_init_26 : decode cX5_init 26 = .ok (.aload_n 0, 1) := by decide +kernel
theorem dX5_init_27 : decode cX5_init 27 = .ok (.new 18, 3) := by decide +kernel
theorem dX5_init_30 : decode cX5_init 30 = .ok (.dup, 1) := by decide +kernel
theorem dX5_init_31 : decode cX5_init 31 = .ok (.invokespecial 20, 3) := by decide +kernel
theorem dX5_init_34 : decode cX5_init 34 = .ok (.putfield 25, 3) := by decide +kernel
theorem dX5_init_37 : decode cX5_init 37 = .ok (.aload_n 0, 1) := by decide +kernel
theorem dX5_init_38 : decode cX5_init 38 = .ok (.new 18, 3) := by decide +kernel
theorem dX5_init_41 : decode cX5_init 41 = .ok (.dup, 1) := by decide +kernel
theorem dX5_init_42 : decode cX5_init 42 = .ok (.invokespecial 20, 3) := by decide +kernel
theorem dX5_init_45 : decode cX5_init 45 = .ok (.putfield 28, 3) := by decide +kernel
theorem dX5_init_48 : decode cX5_init 48 = .ok (.aload_n 0, 1) := by decide +kernel
theorem dX5_init_49 : decode cX5_init 49 = .ok (.bipush 8, 2) := by decide +kernel
theorem dX5_init_51 : decode cX5_init 51 = .ok (.newarray .boolean, 2) := by decide +kernel
theorem dX5_init_53 : decode cX5_init 53 = .ok (.putfield 31, 3) := by decide +kernel
theorem dX5_init_56 : decode cX5_init 56 = .ok (.aload_n 0, 1) := by decide +kernel
theorem dX5_init_57 : decode cX5_init 57 = .ok (.new 35, 3) := by decide +kernel
theorem dX5_init_60 : decode cX5_init 60 = .ok (.dup, 1) := by decide +kernel
theorem dX5_init_61 : decode cX5_init 61 = .ok (.aload_n 0, 1) := by decide +kernel
theorem dX5_init_62 : decode cX5_init 62 = .ok (.getfield 12, 3) := by decide +kernel
theorem dX5_init_65 : decode cX5_init 65 = .ok (.aload_n 0, 1) := by decide +kernel
theorem dX5_init_66 : decode cX5_init 66 = .ok (.getfield 21, 3) := by decide +kernel
theorem dX5_init_69 : decode cX5_init 69 = .ok (.aload_n 0, 1) := by decide +kernel
theorem dX5_init_70 : decode cX5_init 70 = .ok (.getfield 25, 3) := by decide +kernel
theorem dX5_init_73 : decode cX5_init 73 = .ok (.invokespecial 37, 3) := by decide +kernel
theorem dX5_init_76 : decode cX5_init 76 = .ok (.putfield 40, 3) := by decide +kernel
theorem dX5_init_79 : decode cX5_init 79 = .ok (.aload_n 0, 1) := by decide +kernel
theorem dX5_init_80 : decode cX5_init 80 = .ok (.new 44, 3) := by decide +kernel
theorem dX5_init_83 : decode cX5_init 83 = .ok (.dup, 1) := by decide +kernel
theorem dX5_init_84 : decode cX5_init 84 = .ok (.aload_n 0, 1) := by decide +kernel
theorem dX5_init_85 : decode cX5_init 85 = .ok (.getfield 12, 3) := by decide +kernel
theorem dX5_init_88 : decode cX5_init 88 = .ok (.aload_n 0, 1) := by decide +kernel
theorem dX5_init_89 : decode cX5_init 89 = .ok (.getfield 40, 3) := by decide +kernel
theorem dX5_init_92 : decode cX5_init 92 = .ok (.getfield 46, 3) := by decide +kernel
theorem dX5_init_95 : decode cX5_init 95 = .ok (.invokespecial 50, 3) := by decide +kernel
theorem dX5_init_98 : decode cX5_init 98 = .ok (.putfield 53, 3) := by decide +kernel
theorem dX5_init_101 : decode cX5_init 101 = .ok (.aload_n 0, 1) := by decide +kernel
theorem dX5_init_102 : decode cX5_init 102 = .ok (.iconst 4, 1) := by decide +kernel
theorem dX5_init_103 : decode cX5_init 103 = .ok (.anewarray 57, 3) := by decide +kernel
theorem dX5_init_106 : decode cX5_init 106 = .ok (.putfield 59, 3) := by decide +kernel
theorem dX5_init_109 : decode cX5_init 109 = .ok (.iconst 0, 1) := by decide +kernel
theorem dX5_init_110 : decode cX5_init 110 = .ok (.istore_n 1, 1) := by decide +kernel
theorem dX5_init_111 : decode cX5_init 111 = .ok (.iload_n 1, 1) := by decide +kernel
theorem dX5_init_112 : decode cX5_init 112 = .ok (.iconst 4, 1) := by decide +kernel
theorem dX5_init_113 : decode cX5_init 113 = .ok (.if_icmp .ge 22, 3) := by decide +kernel
theorem dX5_init_116 : decode cX5_init 116 = .ok (.aload_n 0, 1) := by decide +kernel
theorem dX5_init_117 : decode cX5_init 117 = .ok (.getfield 59, 3) := by decide +kernel
theorem dX5_init_120 : decode cX5_init 120 = .ok (.iload_n 1, 1) := by decide +kernel
theorem dX5_init_121 : decode cX5_init 121 = .ok (.new 57, 3) := by decide +kernel
theorem dX5_init_124 : decode cX5_init 124 = .ok (.dup, 1) := by decide +kernel
theorem dX5_init_125 : decode cX5_init 125 = .ok (.invokespecial 63, 3) := by decide +kernel
theorem dX5_init_128 : decode cX5_init 128 = .ok (.aastore, 1) := by decide +kernel
theorem dX5_init_129 : decode cX5_init 129 = .ok (.iinc 1 1, 3) := by decide +kernel
theorem dX5_init_132 : decode cX5_init 132 = .ok (.goto (-21), 3) := by decide +kernel
theorem dX5_init_135 : decode cX5_init 135 = .ok (.aload_n 0, 1) := by decide +kernel
theorem dX5_init_136 : decode cX5_init 136 = .ok (.iconst 0, 1) := by decide +kernel
theorem dX5_init_137 : decode cX5_init 137 = .ok (.putfield 64, 3) := by decide +kernel
theorem dX5_init_140 : decode cX5_init 140 = .ok (.aload_n 0, 1) := by decide +kernel
theorem dX5_init_141 : decode cX5_init 141 = .ok (.iconst 0, 1) := by decide +kernel
theorem dX5_init_142 : decode cX5_init 142 = .ok (.putfield 68, 3) := by decide +kernel
theorem dX5_init_145 : decode cX5_init 145 = .ok (.return_, 1) := by decide +kernel
theorem dX5_hall_0 : decode cX5_hall 0 = .ok (.aload_n 0, 1) := by decide +kernel
theorem dX5_hall_1 : decode cX5_hall 1 = .ok (.iconst 0, 1) := by decide +kernel
theorem dX5_hall_2 : decode cX5_hall 2 = .ok (.putfield 68, 3) := by decide +kernel
theorem dX5_hall_5 : decode cX5_hall 5 = .ok (.iload_n 1, 1) := by decide +kernel
theorem dX5_hall_6 : decode cX5_hall 6 = .ok (.invokestatic 71, 3) := by decide +kernel
theorem dX5_hall_9 : decode cX5_hall 9 = .ok (.ifCond .ne 5, 3) := by decide +kernel
theorem dX5_hall_12 : decode cX5_hall 12 = .ok (.iconst (-1), 1) := by decide +kernel
theorem dX5_hall_13 : decode cX5_hall 13 = .ok (.ireturn, 1) := by decide +kernel
theorem dX5_hall_14 : decode cX5_hall 14 = .ok (.iload_n 2, 1) := by decide +kernel
theorem dX5_hall_15 : decode cX5_hall 15 = .ok (.invokestatic 75, 3) := by decide +kernel
theorem dX5_hall_18 : decode cX5_hall 18 = .ok (.ifCond .ne 6, 3) := by decide +kernel
theorem dX5_hall_21 : decode cX5_hall 21 = .ok (.bipush (-2), 2) := by decide +kernel
theorem dX5_hall_23 : decode cX5_hall 23 = .ok (.ireturn, 1) := by decide +kernel
theorem dX5_hall_24 : decode cX5_hall 24 = .ok (.aload_n 0, 1) := by decide +kernel
theorem dX5_hall_25 : decode cX5_hall 25 = .ok (.getfield 59, 3) := by decide +kernel
theorem dX5_hall_28 : decode cX5_hall 28 = .ok (.iload_n 1, 1) := by decide +kernel
theorem dX5_hall_29 : decode cX5_hall 29 = .ok (.aaload, 1) := by decide +kernel
theorem dX5_hall_30 : decode cX5_hall 30 = .ok (.astore 5, 2) := by decide +kernel
theorem dX5_hall_32 : decode cX5_hall 32 = .ok (.aload_n 0, 1) := by decide +kernel
theorem dX5_hall_33 : decode cX5_hall 33 = .ok (.aload 5, 2) := by decide +kernel
theorem dX5_hall_35 : decode cX5_hall 35 = .ok (.iload_n 2, 1) := by decide +kernel
theorem dX5_hall_36 : decode cX5_hall 36 = .ok (.iload_n 3, 1) := by decide +kernel
theorem dX5_hall_37 : decode cX5_hall 37 = .ok (.iload 4, 2) := by decide +kernel
theorem dX5_hall_39 : decode cX5_hall 39 = .ok (.invokevirtual 78, 3) := by decide +kernel
theorem dX5_hall_42 : decode cX5_hall 42 = .ok (.putfield 68, 3) := by decide +kernel
theorem dX5_hall_45 : decode cX5_hall 45 = .ok (.aload_n 0, 1) := by decide +kernel
theorem dX5_hall_46 : decode cX5_hall 46 = .ok (.getfield 68, 3) := by decide +kernel
theorem dX5_hall_49 : decode cX5_hall 49 = .ok (.ifCond .eq 8, 3) := by decide +kernel
theorem dX5_hall_52 : decode cX5_hall 52 = .ok (.aload_n 0, 1) := by decide +kernel
theorem dX5_hall_53 : decode cX5_hall 53 = .ok (.invokevirtual 82, 3) := by decide +kernel
theorem dX5_hall_56 : decode cX5_hall 56 = .ok (.ireturn, 1) := by decide +kernel
theorem dX5_hall_57 : decode cX5_hall 57 = .ok (.aload 5, 2) := by decide +kernel
theorem dX5_hall_59 : decode cX5_hall 59 = .ok (.getfield 86, 3) := by decide +kernel
theorem dX5_hall_62 : decode cX5_hall 62 = .ok (.iload_n 3, 1) := by decide +kernel
theorem dX5_hall_63 : decode cX5_hall 63 = .ok (.iload 4, 2) := by decide +kernel
theorem dX5_hall_65 : decode cX5_hall 65 = .ok (.invokestatic 89, 3) := by decide +kernel
theorem dX5_hall_68 : decode cX5_hall 68 = .ok (.istore 6, 2) := by decide +kernel
theorem dX5_hall_70 : decode cX5_hall 70 = .ok (.iload 6, 2) := by decide +kernel
theorem dX5_hall_72 : decode cX5_hall 72 = .ok (.bipush (-9), 2) := by decide +kernel
theorem dX5_hall_74 : decode cX5_hall 74 = .ok (.if_icmp .eq 9, 3) := by decide +kernel
theorem dX5_hall_77 : decode cX5_hall 77 = .ok (.bipush (-100), 2) := by decide +kernel
theorem dX5_hall_79 : decode cX5_hall 79 = .ok (.iload 6, 2) := by decide +kernel
theorem dX5_hall_81 : decode cX5_hall 81 = .ok (.isub, 1) := by decide +kernel
theorem dX5_hall_82 : decode cX5_hall 82 = .ok (.ireturn, 1) := by decide +kernel
theorem dX5_hall_83 : decode cX5_hall 83 = .ok (.aload_n 0, 1) := by decide +kernel
theorem dX5_hall_84 : decode cX5_hall 84 = .ok (.getfield 12, 3) := by decide +kernel
theorem dX5_hall_87 : decode cX5_hall 87 = .ok (.aload 5, 2) := by decide +kernel
theorem dX5_hall_89 : decode cX5_hall 89 = .ok (.getfield 86, 3) := by decide +kernel
theorem dX5_hall_92 : decode cX5_hall 92 = .ok (.iload_n 3, 1) := by decide +kernel
theorem dX5_hall_93 : decode cX5_hall 93 = .ok (.iload 4, 2) := by decide +kernel
theorem dX5_hall_95 : decode cX5_hall 95 = .ok (.invokevirtual 93, 3) := by decide +kernel
theorem dX5_hall_98 : decode cX5_hall 98 = .ok (.aload_n 0, 1) := by decide +kernel
theorem dX5_hall_99 : decode cX5_hall 99 = .ok (.getfield 21, 3) := by decide +kernel
theorem dX5_hall_102 : decode cX5_hall 102 = .ok (.iconst 0, 1) := by decide +kernel
theorem dX5_hall_103 : decode cX5_hall 103 = .ok (.putfield 97, 3) := by decide +kernel
theorem dX5_hall_106 : decode cX5_hall 106 = .ok (.aload_n 0, 1) := by decide +kernel
theorem dX5_hall_107 : decode cX5_hall 107 = .ok (.getfield 25, 3) := by decide +kernel
theorem dX5_hall_110 : decode cX5_hall 110 = .ok (.iconst 0, 1) := by decide +kernel
theorem dX5_hall_111 : decode cX5_hall 111 = .ok (.putfield 97, 3) := by decide +kernel
theorem dX5_hall_114 : decode cX5_hall 114 = .ok (.aload_n 0, 1) := by decide +kernel
theorem dX5_hall_115 : decode cX5_hall 115 = .ok (.getfield 28, 3) := by decide +kernel
theorem dX5_hall_118 : decode cX5_hall 118 = .ok (.iconst 0, 1) := by decide +kernel
theorem dX5_hall_119 : decode cX5_hall 119 = .ok (.putfield 97, 3) := by decide +kernel
theorem dX5_hall_122 : decode cX5_hall 122 = .ok (.aload_n 0, 1) := by decide +kernel
theorem dX5_hall_123 : decode cX5_hall 123 = .ok (.getfield 12, 3) := by decide +kernel
theorem dX5_hall_126 : decode cX5_hall 126 = .ok (.getfield 100, 3) := by decide +kernel
theorem dX5_hall_129 : decode cX5_hall 129 = .ok (.ireturn, 1) := by decide +kernel
theorem dX5_ofChair_0 : decode cX5_ofChair 0 = .ok (.aload_n 0, 1) := by decide +kernel
theorem dX5_ofChair_1 : decode cX5_ofChair 1 = .ok (.getfield 12, 3) := by decide +kernel
theorem dX5_ofChair_4 : decode cX5_ofChair 4 = .ok (.iload_n 1, 1) := by decide +kernel
theorem dX5_ofChair_5 : decode cX5_ofChair 5 = .ok (.invokevirtual 103, 3) := by decide +kernel
theorem dX5_ofChair_8 : decode cX5_ofChair 8 = .ok (.ifCond .ne 5, 3) := by decide +kernel
theorem dX5_ofChair_11 : decode cX5_ofChair 11 = .ok (.iconst (-1), 1) := by decide +kernel
theorem dX5_ofChair_12 : decode cX5_ofChair 12 = .ok (.ireturn, 1) := by decide +kernel
theorem dX5_ofChair_13 : decode cX5_ofChair 13 = .ok (.iload_n 2, 1) := by decide +kernel
theorem dX5_ofChair_14 : decode cX5_ofChair 14 = .ok (.tableswitch 56 0 2 #[26, 36, 46], 26) := by decide +kernel
theorem dX5_ofChair_40 : decode cX5_ofChair 40 = .ok (.aload_n 0, 1) := by decide +kernel
theorem dX5_ofChair_41 : decode cX5_ofChair 41 = .ok (.getfield 12, 3) := by decide +kernel
theorem dX5_ofChair_44 : decode cX5_ofChair 44 = .ok (.getfield 106, 3) := by decide +kernel
theorem dX5_ofChair_47 : decode cX5_ofChair 47 = .ok (.iload_n 1, 1) := by decide +kernel
theorem dX5_ofChair_48 : decode cX5_ofChair 48 = .ok (.iaload, 1) := by decide +kernel
theorem dX5_ofChair_49 : decode cX5_ofChair 49 = .ok (.ireturn, 1) := by decide +kernel
theorem dX5_ofChair_50 : decode cX5_ofChair 50 = .ok (.aload_n 0, 1) := by decide +kernel
theorem dX5_ofChair_51 : decode cX5_ofChair 51 = .ok (.getfield 12, 3) := by decide +kernel
theorem dX5_ofChair_54 : decode cX5_ofChair 54 = .ok (.getfield 109, 3) := by decide +kernel
theorem dX5_ofChair_57 : decode cX5_ofChair 57 = .ok (.iload_n 1, 1) := by decide +kernel
theorem dX5_ofChair_58 : decode cX5_ofChair 58 = .ok (.iaload, 1) := by decide +kernel
theorem dX5_ofChair_59 : decode cX5_ofChair 59 = .ok (.ireturn, 1) := by decide +kernel
theorem dX5_ofChair_60 : decode cX5_ofChair 60 = .ok (.aload_n 0, 1) := by decide +kernel
theorem dX5_ofChair_61 : decode cX5_ofChair 61 = .ok (.getfield 12, 3) := by decide +kernel
theorem dX5_ofChair_64 : decode cX5_ofChair 64 = .ok (.getfield 112, 3) := by decide +kernel
theorem dX5_ofChair_67 : decode cX5_ofChair 67 = .ok (.iload_n 1, 1) := by decide +kernel
theorem dX5_ofChair_68 : decode cX5_ofChair 68 = .ok (.iaload, 1) := by decide +kernel
theorem dX5_ofChair_69 : decode cX5_ofChair 69 = .ok (.ireturn, 1) := by decide +kernel
theorem dX5_ofChair_70 : decode cX5_ofChair 70 = .ok (.bipush (-2), 2) := by decide +kernel
theorem dX5_ofChair_72 : decode cX5_ofChair 72 = .ok (.ireturn, 1) := by decide +kernel
theorem dX5_slip_0 : decode cX5_slip 0 = .ok (.aload_n 0, 1) := by decide +kernel
theorem dX5_slip_1 : decode cX5_slip 1 = .ok (.aload_n 0, 1) := by decide +kernel
theorem dX5_slip_2 : decode cX5_slip 2 = .ok (.getfield 21, 3) := by decide +kernel
theorem dX5_slip_5 : decode cX5_slip 5 = .ok (.iload_n 1, 1) := by decide +kernel
theorem dX5_slip_6 : decode cX5_slip 6 = .ok (.iload_n 2, 1) := by decide +kernel
theorem dX5_slip_7 : decode cX5_slip 7 = .ok (.iload_n 3, 1) := by decide +kernel
theorem dX5_slip_8 : decode cX5_slip 8 = .ok (.invokevirtual 115, 3) := by decide +kernel
theorem dX5_slip_11 : decode cX5_slip 11 = .ok (.ireturn, 1) := by decide +kernel
theorem dX5_ofSlip_0 : decode cX5_ofSlip 0 = .ok (.aload_n 0, 1) := by decide +kernel
theorem dX5_ofSlip_1 : decode cX5_ofSlip 1 = .ok (.getfield 21, 3) := by decide +kernel
theorem dX5_ofSlip_4 : decode cX5_ofSlip 4 = .ok (.iload_n 1, 1) := by decide +kernel
theorem dX5_ofSlip_5 : decode cX5_ofSlip 5 = .ok (.invokevirtual 119, 3) := by decide +kernel
theorem dX5_ofSlip_8 : decode cX5_ofSlip 8 = .ok (.ifCond .ne 5, 3) := by decide +kernel
theorem dX5_ofSlip_11 : decode cX5_ofSlip 11 = .ok (.iconst (-1), 1) := by decide +kernel
theorem dX5_ofSlip_12 : decode cX5_ofSlip 12 = .ok (.ireturn, 1) := by decide +kernel
theorem dX5_ofSlip_13 : decode cX5_ofSlip 13 = .ok (.iload_n 2, 1) := by decide +kernel
theorem dX5_ofSlip_14 : decode cX5_ofSlip 14 = .ok (.tableswitch 56 0 2 #[26, 36, 46], 26) := by decide +kernel
theorem dX5_ofSlip_40 : decode cX5_ofSlip 40 = .ok (.aload_n 0, 1) := by decide +kernel
theorem dX5_ofSlip_41 : decode cX5_ofSlip 41 = .ok (.getfield 21, 3) := by decide +kernel
theorem dX5_ofSlip_44 : decode cX5_ofSlip 44 = .ok (.getfield 122, 3) := by decide +kernel
theorem dX5_ofSlip_47 : decode cX5_ofSlip 47 = .ok (.iload_n 1, 1) := by decide +kernel
theorem dX5_ofSlip_48 : decode cX5_ofSlip 48 = .ok (.iaload, 1) := by decide +kernel
theorem dX5_ofSlip_49 : decode cX5_ofSlip 49 = .ok (.ireturn, 1) := by decide +kernel
theorem dX5_ofSlip_50 : decode cX5_ofSlip 50 = .ok (.aload_n 0, 1) := by decide +kernel
theorem dX5_ofSlip_51 : decode cX5_ofSlip 51 = .ok (.getfield 21, 3) := by decide +kernel
theorem dX5_ofSlip_54 : decode cX5_ofSlip 54 = .ok (.getfield 125, 3) := by decide +kernel
theorem dX5_ofSlip_57 : decode cX5_ofSlip 57 = .ok (.iload_n 1, 1) := by decide +kernel
theorem dX5_ofSlip_58 : decode cX5_ofSlip 58 = .ok (.iaload, 1) := by decide +kernel
theorem dX5_ofSlip_59 : decode cX5_ofSlip 59 = .ok (.ireturn, 1) := by decide +kernel
theorem dX5_ofSlip_60 : decode cX5_ofSlip 60 = .ok (.aload_n 0, 1) := by decide +kernel
theorem dX5_ofSlip_61 : decode cX5_ofSlip 61 = .ok (.getfield 21, 3) := by decide +kernel
theorem dX5_ofSlip_64 : decode cX5_ofSlip 64 = .ok (.getfield 128, 3) := by decide +kernel
theorem dX5_ofSlip_67 : decode cX5_ofSlip 67 = .ok (.iload_n 1, 1) := by decide +kernel
theorem dX5_ofSlip_68 : decode cX5_ofSlip 68 = .ok (.iaload, 1) := by decide +kernel
theorem dX5_ofSlip_69 : decode cX5_ofSlip 69 = .ok (.ireturn, 1) := by decide +kernel
theorem dX5_ofSlip_70 : decode cX5_ofSlip 70 = .ok (.bipush (-2), 2) := by decide +kernel
theorem dX5_ofSlip_72 : decode cX5_ofSlip 72 = .ok (.ireturn, 1) := by decide +kernel
theorem dX5_unsay_0 : decode cX5_unsay 0 = .ok (.aload_n 0, 1) := by decide +kernel
theorem dX5_unsay_1 : decode cX5_unsay 1 = .ok (.getfield 21, 3) := by decide +kernel
theorem dX5_unsay_4 : decode cX5_unsay 4 = .ok (.iload_n 1, 1) := by decide +kernel
theorem dX5_unsay_5 : decode cX5_unsay 5 = .ok (.invokevirtual 131, 3) := by decide +kernel
theorem dX5_unsay_8 : decode cX5_unsay 8 = .ok (.ireturn, 1) := by decide +kernel
theorem dX5_butter_0 : decode cX5_butter 0 = .ok (.aload_n 0, 1) := by decide +kernel
theorem dX5_butter_1 : decode cX5_butter 1 = .ok (.aload_n 0, 1) := by decide +kernel
theorem dX5_butter_2 : decode cX5_butter 2 = .ok (.getfield 25, 3) := by decide +kernel
theorem dX5_butter_5 : decode cX5_butter 5 = .ok (.iload_n 1, 1) := by decide +kernel
theorem dX5_butter_6 : decode cX5_butter 6 = .ok (.iload_n 2, 1) := by decide +kernel
theorem dX5_butter_7 : decode cX5_butter 7 = .ok (.iload_n 3, 1) := by decide +kernel
theorem dX5_butter_8 : decode cX5_butter 8 = .ok (.invokevirtual 115, 3) := by decide +kernel
theorem dX5_butter_11 : decode cX5_butter 11 = .ok (.ireturn, 1) := by decide +kernel
theorem dX5_melt_0 : decode cX5_melt 0 = .ok (.aload_n 0, 1) := by decide +kernel
theorem dX5_melt_1 : decode cX5_melt 1 = .ok (.getfield 25, 3) := by decide +kernel
theorem dX5_melt_4 : decode cX5_melt 4 = .ok (.iload_n 1, 1) := by decide +kernel
theorem dX5_melt_5 : decode cX5_melt 5 = .ok (.invokevirtual 131, 3) := by decide +kernel
theorem dX5_melt_8 : decode cX5_melt 8 = .ok (.ireturn, 1) := by decide +kernel
theorem dX5_noteDown_0 : decode cX5_noteDown 0 = .ok (.aload_n 0, 1) := by decide +kernel
theorem dX5_noteDown_1 : decode cX5_noteDown 1 = .ok (.getfield 12, 3) := by decide +kernel
theorem dX5_noteDown_4 : decode cX5_noteDown 4 = .ok (.iload_n 3, 1) := by decide +kernel
theorem dX5_noteDown_5 : decode cX5_noteDown 5 = .ok (.invokevirtual 135, 3) := by decide +kernel
theorem dX5_noteDown_8 : decode cX5_noteDown 8 = .ok (.ifCond .eq 15, 3) := by decide +kernel
theorem dX5_noteDown_11 : decode cX5_noteDown 11 = .ok (.aload_n 0, 1) := by decide +kernel
theorem dX5_noteDown_12 : decode cX5_noteDown 12 = .ok (.getfield 12, 3) := by decide +kernel
theorem dX5_noteDown_15 : decode cX5_noteDown 15 = .ok (.iload 4, 2) := by decide +kernel
theorem dX5_noteDown_17 : decode cX5_noteDown 17 = .ok (.invokevirtual 103, 3) := by decide +kernel
theorem dX5_noteDown_20 : decode cX5_noteDown 20 = .ok (.ifCond .ne 5, 3) := by decide +kernel
theorem dX5_noteDown_23 : decode cX5_noteDown 23 = .ok (.iconst (-1), 1) := by decide +kernel
theorem dX5_noteDown_24 : decode cX5_noteDown 24 = .ok (.ireturn, 1) := by decide +kernel
theorem dX5_noteDown_25 : decode cX5_noteDown 25 = .ok (.iload_n 2, 1) := by decide +kernel
theorem dX5_noteDown_26 : decode cX5_noteDown 26 = .ok (.invokestatic 138, 3) := by decide +kernel
theorem dX5_noteDown_29 : decode cX5_noteDown 29 = .ok (.ifCond .ne 6, 3) := by decide +kernel
theorem dX5_noteDown_32 : decode cX5_noteDown 32 = .ok (.bipush (-2), 2) := by decide +kernel
theorem dX5_noteDown_34 : decode cX5_noteDown 34 = .ok (.ireturn, 1) := by decide +kernel
theorem dX5_noteDown_35 : decode cX5_noteDown 35 = .ok (.aload_n 1, 1) := by decide +kernel
theorem dX5_noteDown_36 : decode cX5_noteDown 36 = .ok (.iload_n 2, 1) := by decide +kernel
theorem dX5_noteDown_37 : decode cX5_noteDown 37 = .ok (.iload_n 3, 1) := by decide +kernel
theorem dX5_noteDown_38 : decode cX5_noteDown 38 = .ok (.iload 4, 2) := by decide +kernel
theorem dX5_noteDown_40 : decode cX5_noteDown 40 = .ok (.invokevirtual 141, 3) := by decide +kernel
theorem dX5_noteDown_43 : decode cX5_noteDown 43 = .ok (.ireturn, 1) := by decide +kernel
theorem dX5_bears_0 : decode cX5_bears 0 = .ok (.aload_n 0, 1) := by decide +kernel
theorem dX5_bears_1 : decode cX5_bears 1 = .ok (.getfield 12, 3) := by decide +kernel
theorem dX5_bears_4 : decode cX5_bears 4 = .ok (.iload_n 1, 1) := by decide +kernel
theorem dX5_bears_5 : decode cX5_bears 5 = .ok (.invokevirtual 103, 3) := by decide +kernel
theorem dX5_bears_8 : decode cX5_bears 8 = .ok (.ifCond .eq 14, 3) := by decide +kernel
theorem dX5_bears_11 : decode cX5_bears 11 = .ok (.aload_n 0, 1) := by decide +kernel
theorem dX5_bears_12 : decode cX5_bears 12 = .ok (.getfield 12, 3) := by decide +kernel
theorem dX5_bears_15 : decode cX5_bears 15 = .ok (.iload_n 2, 1) := by decide +kernel
theorem dX5_bears_16 : decode cX5_bears 16 = .ok (.invokevirtual 135, 3) := by decide +kernel
theorem dX5_bears_19 : decode cX5_bears 19 = .ok (.ifCond .ne 5, 3) := by decide +kernel
theorem dX5_bears_22 : decode cX5_bears 22 = .ok (.iconst (-1), 1) := by decide +kernel
theorem dX5_bears_23 : decode cX5_bears 23 = .ok (.ireturn, 1) := by decide +kernel
theorem dX5_bears_24 : decode cX5_bears 24 = .ok (.iload_n 3, 1) := by decide +kernel
theorem dX5_bears_25 : decode cX5_bears 25 = .ok (.invokestatic 138, 3) := by decide +kernel
theorem dX5_bears_28 : decode cX5_bears 28 = .ok (.ifCond .ne 6, 3) := by decide +kernel
theorem dX5_bears_31 : decode cX5_bears 31 = .ok (.bipush (-2), 2) := by decide +kernel
theorem dX5_bears_33 : decode cX5_bears 33 = .ok (.ireturn, 1) := by decide +kernel
theorem dX5_bears_34 : decode cX5_bears 34 = .ok (.aload_n 0, 1) := by decide +kernel
theorem dX5_bears_35 : decode cX5_bears 35 = .ok (.getfield 40, 3) := by decide +kernel
theorem dX5_bears_38 : decode cX5_bears 38 = .ok (.iload_n 3, 1) := by decide +kernel
theorem dX5_bears_39 : decode cX5_bears 39 = .ok (.invokevirtual 144, 3) := by decide +kernel
theorem dX5_bears_42 : decode cX5_bears 42 = .ok (.aload_n 0, 1) := by decide +kernel
theorem dX5_bears_43 : decode cX5_bears 43 = .ok (.getfield 40, 3) := by decide +kernel
theorem dX5_bears_46 : decode cX5_bears 46 = .ok (.iload_n 1, 1) := by decide +kernel
theorem dX5_bears_47 : decode cX5_bears 47 = .ok (.iload_n 2, 1) := by decide +kernel
theorem dX5_bears_48 : decode cX5_bears 48 = .ok (.invokevirtual 148, 3) := by decide +kernel
theorem dX5_bears_51 : decode cX5_bears 51 = .ok (.ifCond .eq 7, 3) := by decide +kernel
theorem dX5_bears_54 : decode cX5_bears 54 = .ok (.iconst 1, 1) := by decide +kernel
theorem dX5_bears_55 : decode cX5_bears 55 = .ok (.goto 4, 3) := by decide +kernel
theorem dX5_bears_58 : decode cX5_bears 58 = .ok (.iconst 0, 1) := by decide +kernel
theorem dX5_bears_59 : decode cX5_bears 59 = .ok (.ireturn, 1) := by decide +kernel
theorem dX5_whom_0 : decode cX5_whom 0 = .ok (.aload_n 0, 1) := by decide +kernel
theorem dX5_whom_1 : decode cX5_whom 1 = .ok (.getfield 12, 3) := by decide +kernel
theorem dX5_whom_4 : decode cX5_whom 4 = .ok (.iload_n 1, 1) := by decide +kernel
theorem dX5_whom_5 : decode cX5_whom 5 = .ok (.invokevirtual 103, 3) := by decide +kernel
theorem dX5_whom_8 : decode cX5_whom 8 = .ok (.ifCond .ne 5, 3) := by decide +kernel
theorem dX5_whom_11 : decode cX5_whom 11 = .ok (.iconst (-1), 1) := by decide +kernel
theorem dX5_whom_12 : decode cX5_whom 12 = .ok (.ireturn, 1) := by decide +kernel
theorem dX5_whom_13 : decode cX5_whom 13 = .ok (.iload_n 2, 1) := by decide +kernel
theorem dX5_whom_14 : decode cX5_whom 14 = .ok (.invokestatic 138, 3) := by decide +kernel
theorem dX5_whom_17 : decode cX5_whom 17 = .ok (.ifCond .ne 6, 3) := by decide +kernel
theorem dX5_whom_20 : decode cX5_whom 20 = .ok (.bipush (-2), 2) := by decide +kernel
theorem dX5_whom_22 : decode cX5_whom 22 = .ok (.ireturn, 1) := by decide +kernel
theorem dX5_whom_23 : decode cX5_whom 23 = .ok (.aload_n 0, 1) := by decide +kernel
theorem dX5_whom_24 : decode cX5_whom 24 = .ok (.getfield 40, 3) := by decide +kernel
theorem dX5_whom_27 : decode cX5_whom 27 = .ok (.iload_n 2, 1) := by decide +kernel
theorem dX5_whom_28 : decode cX5_whom 28 = .ok (.invokevirtual 144, 3) := by decide +kernel
theorem dX5_whom_31 : decode cX5_whom 31 = .ok (.aload_n 0, 1) := by decide +kernel
theorem dX5_whom_32 : decode cX5_whom 32 = .ok (.getfield 40, 3) := by decide +kernel
theorem dX5_whom_35 : decode cX5_whom 35 = .ok (.getfield 46, 3) := by decide +kernel
theorem dX5_whom_38 : decode cX5_whom 38 = .ok (.iload_n 1, 1) := by decide +kernel
theorem dX5_whom_39 : decode cX5_whom 39 = .ok (.iaload, 1) := by decide +kernel
theorem dX5_whom_40 : decode cX5_whom 40 = .ok (.ireturn, 1) := by decide +kernel
theorem dX5_seats_0 : decode cX5_seats 0 = .ok (.aload_n 0, 1) := by decide +kernel
theorem dX5_seats_1 : decode cX5_seats 1 = .ok (.iload_n 1, 1) := by decide +kernel
theorem dX5_seats_2 : decode cX5_seats 2 = .ok (.iload_n 2, 1) := by decide +kernel
theorem dX5_seats_3 : decode cX5_seats 3 = .ok (.invokevirtual 152, 3) := by decide +kernel
theorem dX5_seats_6 : decode cX5_seats 6 = .ok (.istore_n 3, 1) := by decide +kernel
theorem dX5_seats_7 : decode cX5_seats 7 = .ok (.iload_n 3, 1) := by decide +kernel
theorem dX5_seats_8 : decode cX5_seats 8 = .ok (.ifCond .eq 5, 3) := by decide +kernel
theorem dX5_seats_11 : decode cX5_seats 11 = .ok (.iload_n 3, 1) := by decide +kernel
theorem dX5_seats_12 : decode cX5_seats 12 = .ok (.ireturn, 1) := by decide +kernel
theorem dX5_seats_13 : decode cX5_seats 13 = .ok (.aload_n 0, 1) := by decide +kernel
theorem dX5_seats_14 : decode cX5_seats 14 = .ok (.getfield 40, 3) := by decide +kernel
theorem dX5_seats_17 : decode cX5_seats 17 = .ok (.iload_n 1, 1) := by decide +kernel
theorem dX5_seats_18 : decode cX5_seats 18 = .ok (.invokevirtual 144, 3) := by decide +kernel
theorem dX5_seats_21 : decode cX5_seats 21 = .ok (.aload_n 0, 1) := by decide +kernel
theorem dX5_seats_22 : decode cX5_seats 22 = .ok (.getfield 53, 3) := by decide +kernel
theorem dX5_seats_25 : decode cX5_seats 25 = .ok (.invokevirtual 156, 3) := by decide +kernel
theorem dX5_seats_28 : decode cX5_seats 28 = .ok (.istore 4, 2) := by decide +kernel
theorem dX5_seats_30 : decode cX5_seats 30 = .ok (.iload_n 2, 1) := by decide +kernel
theorem dX5_seats_31 : decode cX5_seats 31 = .ok (.iconst (-1), 1) := by decide +kernel
theorem dX5_seats_32 : decode cX5_seats 32 = .ok (.if_icmp .ne 8, 3) := by decide +kernel
theorem dX5_seats_35 : decode cX5_seats 35 = .ok (.iload 4, 2) := by decide +kernel
theorem dX5_seats_37 : decode cX5_seats 37 = .ok (.goto 12, 3) := by decide +kernel
theorem dX5_seats_40 : decode cX5_seats 40 = .ok (.aload_n 0, 1) := by decide +kernel
theorem dX5_seats_41 : decode cX5_seats 41 = .ok (.getfield 53, 3) := by decide +kernel
theorem dX5_seats_44 : decode cX5_seats 44 = .ok (.getfield 159, 3) := by decide +kernel
theorem dX5_seats_47 : decode cX5_seats 47 = .ok (.iload_n 2, 1) := by decide +kernel
theorem dX5_seats_48 : decode cX5_seats 48 = .ok (.iaload, 1) := by decide +kernel
theorem dX5_seats_49 : decode cX5_seats 49 = .ok (.ireturn, 1) := by decide +kernel
theorem dX5_few_0 : decode cX5_few 0 = .ok (.aload_n 0, 1) := by decide +kernel
theorem dX5_few_1 : decode cX5_few 1 = .ok (.iload_n 1, 1) := by decide +kernel
theorem dX5_few_2 : decode cX5_few 2 = .ok (.invokevirtual 162, 3) := by decide +kernel
theorem dX5_few_5 : decode cX5_few 5 = .ok (.istore_n 2, 1) := by decide +kernel
theorem dX5_few_6 : decode cX5_few 6 = .ok (.iload_n 2, 1) := by decide +kernel
theorem dX5_few_7 : decode cX5_few 7 = .ok (.ifCond .eq 5, 3) := by decide +kernel
theorem dX5_few_10 : decode cX5_few 10 = .ok (.iload_n 2, 1) := by decide +kernel
theorem dX5_few_11 : decode cX5_few 11 = .ok (.ireturn, 1) := by decide +kernel
theorem dX5_few_12 : decode cX5_few 12 = .ok (.aload_n 0, 1) := by decide +kernel
theorem dX5_few_13 : decode cX5_few 13 = .ok (.getfield 40, 3) := by decide +kernel
theorem dX5_few_16 : decode cX5_few 16 = .ok (.iload_n 1, 1) := by decide +kernel
theorem dX5_few_17 : decode cX5_few 17 = .ok (.invokevirtual 144, 3) := by decide +kernel
theorem dX5_few_20 : decode cX5_few 20 = .ok (.aload_n 0, 1) := by decide +kernel
theorem dX5_few_21 : decode cX5_few 21 = .ok (.getfield 40, 3) := by decide +kernel
theorem dX5_few_24 : decode cX5_few 24 = .ok (.invokevirtual 165, 3) := by decide +kernel
theorem dX5_few_27 : decode cX5_few 27 = .ok (.ireturn, 1) := by decide +kernel
theorem dX5_tipped_0 : decode cX5_tipped 0 = .ok (.aload_n 0, 1) := by decide +kernel
theorem dX5_tipped_1 : decode cX5_tipped 1 = .ok (.iconst 0, 1) := by decide +kernel
theorem dX5_tipped_2 : decode cX5_tipped 2 = .ok (.putfield 68, 3) := by decide +kernel
theorem dX5_tipped_5 : decode cX5_tipped 5 = .ok (.iload_n 2, 1) := by decide +kernel
theorem dX5_tipped_6 : decode cX5_tipped 6 = .ok (.invokestatic 71, 3) := by decide +kernel
theorem dX5_tipped_9 : decode cX5_tipped 9 = .ok (.ifCond .ne 5, 3) := by decide +kernel
theorem dX5_tipped_12 : decode cX5_tipped 12 = .ok (.iconst (-1), 1) := by decide +kernel
theorem dX5_tipped_13 : decode cX5_tipped 13 = .ok (.ireturn, 1) := by decide +kernel
theorem dX5_tipped_14 : decode cX5_tipped 14 = .ok (.iload_n 3, 1) := by decide +kernel
theorem dX5_tipped_15 : decode cX5_tipped 15 = .ok (.invokestatic 75, 3) := by decide +kernel
theorem dX5_tipped_18 : decode cX5_tipped 18 = .ok (.ifCond .eq 10, 3) := by decide +kernel
theorem dX5_tipped_21 : decode cX5_tipped 21 = .ok (.iload_n 1, 1) := by decide +kernel
theorem dX5_tipped_22 : decode cX5_tipped 22 = .ok (.invokestatic 138, 3) := by decide +kernel
theorem dX5_tipped_25 : decode cX5_tipped 25 = .ok (.ifCond .ne 6, 3) := by decide +kernel
theorem dX5_tipped_28 : decode cX5_tipped 28 = .ok (.bipush (-2), 2) := by decide +kernel
theorem dX5_tipped_30 : decode cX5_tipped 30 = .ok (.ireturn, 1) := by decide +kernel
theorem dX5_tipped_31 : decode cX5_tipped 31 = .ok (.aload_n 0, 1) := by decide +kernel
theorem dX5_tipped_32 : decode cX5_tipped 32 = .ok (.getfield 59, 3) := by decide +kernel
theorem dX5_tipped_35 : decode cX5_tipped 35 = .ok (.iload_n 2, 1) := by decide +kernel
theorem dX5_tipped_36 : decode cX5_tipped 36 = .ok (.aaload, 1) := by decide +kernel
theorem dX5_tipped_37 : decode cX5_tipped 37 = .ok (.astore 6, 2) := by decide +kernel
theorem dX5_tipped_39 : decode cX5_tipped 39 = .ok (.aload_n 0, 1) := by decide +kernel
theorem dX5_tipped_40 : decode cX5_tipped 40 = .ok (.aload 6, 2) := by decide +kernel
theorem dX5_tipped_42 : decode cX5_tipped 42 = .ok (.iload_n 3, 1) := by decide +kernel
theorem dX5_tipped_43 : decode cX5_tipped 43 = .ok (.iload 4, 2) := by decide +kernel
theorem dX5_tipped_45 : decode cX5_tipped 45 = .ok (.iload 5, 2) := by decide +kernel
theorem dX5_tipped_47 : decode cX5_tipped 47 = .ok (.invokevirtual 78, 3) := by decide +kernel
theorem dX5_tipped_50 : decode cX5_tipped 50 = .ok (.putfield 68, 3) := by decide +kernel
theorem dX5_tipped_53 : decode cX5_tipped 53 = .ok (.aload_n 0, 1) := by decide +kernel
theorem dX5_tipped_54 : decode cX5_tipped 54 = .ok (.getfield 68, 3) := by decide +kernel
theorem dX5_tipped_57 : decode cX5_tipped 57 = .ok (.ifCond .eq 8, 3) := by decide +kernel
theorem dX5_tipped_60 : decode cX5_tipped 60 = .ok (.aload_n 0, 1) := by decide +kernel
theorem dX5_tipped_61 : decode cX5_tipped 61 = .ok (.invokevirtual 82, 3) := by decide +kernel
theorem dX5_tipped_64 : decode cX5_tipped 64 = .ok (.ireturn, 1) := by decide +kernel
theorem dX5_tipped_65 : decode cX5_tipped 65 = .ok (.aload_n 0, 1) := by decide +kernel
theorem dX5_tipped_66 : decode cX5_tipped 66 = .ok (.getfield 12, 3) := by decide +kernel
theorem dX5_tipped_69 : decode cX5_tipped 69 = .ok (.invokevirtual 168, 3) := by decide +kernel
theorem dX5_tipped_72 : decode cX5_tipped 72 = .ok (.ifCond .ne 6, 3) := by decide +kernel
theorem dX5_tipped_75 : decode cX5_tipped 75 = .ok (.bipush (-3), 2) := by decide +kernel
theorem dX5_tipped_77 : decode cX5_tipped 77 = .ok (.ireturn, 1) := by decide +kernel
theorem dX5_tipped_78 : decode cX5_tipped 78 = .ok (.iload 5, 2) := by decide +kernel
theorem dX5_tipped_80 : decode cX5_tipped 80 = .ok (.aload_n 0, 1) := by decide +kernel
theorem dX5_tipped_81 : decode cX5_tipped 81 = .ok (.getfield 12, 3) := by decide +kernel
theorem dX5_tipped_84 : decode cX5_tipped 84 = .ok (.getfield 172, 3) := by decide +kernel
theorem dX5_tipped_87 : decode cX5_tipped 87 = .ok (.if_icmp .le 6, 3) := by decide +kernel
theorem dX5_tipped_90 : decode cX5_tipped 90 = .ok (.bipush (-2), 2) := by decide +kernel
theorem dX5_tipped_92 : decode cX5_tipped 92 = .ok (.ireturn, 1) := by decide +kernel
theorem dX5_tipped_93 : decode cX5_tipped 93 = .ok (.aload_n 0, 1) := by decide +kernel
theorem dX5_tipped_94 : decode cX5_tipped 94 = .ok (.getfield 12, 3) := by decide +kernel
theorem dX5_tipped_97 : decode cX5_tipped 97 = .ok (.aload 6, 2) := by decide +kernel
theorem dX5_tipped_99 : decode cX5_tipped 99 = .ok (.getfield 86, 3) := by decide +kernel
theorem dX5_tipped_102 : decode cX5_tipped 102 = .ok (.iload 4, 2) := by decide +kernel
theorem dX5_tipped_104 : decode cX5_tipped 104 = .ok (.iload 5, 2) := by decide +kernel
theorem dX5_tipped_106 : decode cX5_tipped 106 = .ok (.invokevirtual 175, 3) := by decide +kernel
theorem dX5_tipped_109 : decode cX5_tipped 109 = .ok (.ifCond .ne 5, 3) := by decide +kernel
theorem dX5_tipped_112 : decode cX5_tipped 112 = .ok (.iconst (-1), 1) := by decide +kernel
theorem dX5_tipped_113 : decode cX5_tipped 113 = .ok (.ireturn, 1) := by decide +kernel
theorem dX5_tipped_114 : decode cX5_tipped 114 = .ok (.aload_n 0, 1) := by decide +kernel
theorem dX5_tipped_115 : decode cX5_tipped 115 = .ok (.getfield 40, 3) := by decide +kernel
theorem dX5_tipped_118 : decode cX5_tipped 118 = .ok (.iload_n 1, 1) := by decide +kernel
theorem dX5_tipped_119 : decode cX5_tipped 119 = .ok (.invokevirtual 144, 3) := by decide +kernel
theorem dX5_tipped_122 : decode cX5_tipped 122 = .ok (.aload_n 0, 1) := by decide +kernel
theorem dX5_tipped_123 : decode cX5_tipped 123 = .ok (.getfield 40, 3) := by decide +kernel
theorem dX5_tipped_126 : decode cX5_tipped 126 = .ok (.aload 6, 2) := by decide +kernel
theorem dX5_tipped_128 : decode cX5_tipped 128 = .ok (.getfield 86, 3) := by decide +kernel
theorem dX5_tipped_131 : decode cX5_tipped 131 = .ok (.iload 4, 2) := by decide +kernel
theorem dX5_tipped_133 : decode cX5_tipped 133 = .ok (.iload 5, 2) := by decide +kernel
theorem dX5_tipped_135 : decode cX5_tipped 135 = .ok (.invokevirtual 179, 3) := by decide +kernel
theorem dX5_tipped_138 : decode cX5_tipped 138 = .ok (.ireturn, 1) := by decide +kernel
theorem dX5_refusalOfSeating_0 : decode cX5_refusalOfSeating 0 = .ok (.iload_n 2, 1) := by decide +kernel
theorem dX5_refusalOfSeating_1 : decode cX5_refusalOfSeating 1 = .ok (.iconst (-1), 1) := by decide +kernel
theorem dX5_refusalOfSeating_2 : decode cX5_refusalOfSeating 2 = .ok (.if_icmp .eq 16, 3) := by decide +kernel
theorem dX5_refusalOfSeating_5 : decode cX5_refusalOfSeating 5 = .ok (.aload_n 0, 1) := by decide +kernel
theorem dX5_refusalOfSeating_6 : decode cX5_refusalOfSeating 6 = .ok (.getfield 12, 3) := by decide +kernel
theorem dX5_refusalOfSeating_9 : decode cX5_refusalOfSeating 9 = .ok (.iload_n 2, 1) := by decide +kernel
theorem dX5_refusalOfSeating_10 : decode cX5_refusalOfSeating 10 = .ok (.invokevirtual 135, 3) := by decide +kernel
theorem dX5_refusalOfSeating_13 : decode cX5_refusalOfSeating 13 = .ok (.ifCond .ne 5, 3) := by decide +kernel
theorem dX5_refusalOfSeating_16 : decode cX5_refusalOfSeating 16 = .ok (.iconst (-1), 1) := by decide +kernel
theorem dX5_refusalOfSeating_17 : decode cX5_refusalOfSeating 17 = .ok (.ireturn, 1) := by decide +kernel
theorem dX5_refusalOfSeating_18 : decode cX5_refusalOfSeating 18 = .ok (.aload_n 0, 1) := by decide +kernel
theorem dX5_refusalOfSeating_19 : decode cX5_refusalOfSeating 19 = .ok (.iload_n 1, 1) := by decide +kernel
theorem dX5_refusalOfSeating_20 : decode cX5_refusalOfSeating 20 = .ok (.invokevirtual 162, 3) := by decide +kernel
theorem dX5_refusalOfSeating_23 : decode cX5_refusalOfSeating 23 = .ok (.ireturn, 1) := by decide +kernel
theorem dX5_refusalOfDinner_0 : decode cX5_refusalOfDinner 0 = .ok (.iload_n 1, 1) := by decide +kernel
theorem dX5_refusalOfDinner_1 : decode cX5_refusalOfDinner 1 = .ok (.invokestatic 138, 3) := by decide +kernel
theorem dX5_refusalOfDinner_4 : decode cX5_refusalOfDinner 4 = .ok (.ifCond .ne 6, 3) := by decide +kernel
theorem dX5_refusalOfDinner_7 : decode cX5_refusalOfDinner 7 = .ok (.bipush (-2), 2) := by decide +kernel
theorem dX5_refusalOfDinner_9 : decode cX5_refusalOfDinner 9 = .ok (.ireturn, 1) := by decide +kernel
theorem dX5_refusalOfDinner_10 : decode cX5_refusalOfDinner 10 = .ok (.aload_n 0, 1) := by decide +kernel
theorem dX5_refusalOfDinner_11 : decode cX5_refusalOfDinner 11 = .ok (.getfield 12, 3) := by decide +kernel
theorem dX5_refusalOfDinner_14 : decode cX5_refusalOfDinner 14 = .ok (.invokevirtual 168, 3) := by decide +kernel
theorem dX5_refusalOfDinner_17 : decode cX5_refusalOfDinner 17 = .ok (.ifCond .eq 7, 3) := by decide +kernel
theorem dX5_refusalOfDinner_20 : decode cX5_refusalOfDinner 20 = .ok (.iconst 0, 1) := by decide +kernel
theorem dX5_refusalOfDinner_21 : decode cX5_refusalOfDinner 21 = .ok (.goto 5, 3) := by decide +kernel
theorem dX5_refusalOfDinner_24 : decode cX5_refusalOfDinner 24 = .ok (.bipush (-3), 2) := by decide +kernel
theorem dX5_refusalOfDinner_26 : decode cX5_refusalOfDinner 26 = .ok (.ireturn, 1) := by decide +kernel
theorem dX5_least_0 : decode cX5_least 0 = .ok (.aload_n 0, 1) := by decide +kernel
theorem dX5_least_1 : decode cX5_least 1 = .ok (.iload_n 1, 1) := by decide +kernel
theorem dX5_least_2 : decode cX5_least 2 = .ok (.iload_n 2, 1) := by decide +kernel
theorem dX5_least_3 : decode cX5_least 3 = .ok (.invokevirtual 152, 3) := by decide +kernel
theorem dX5_least_6 : decode cX5_least 6 = .ok (.istore_n 3, 1) := by decide +kernel
theorem dX5_least_7 : decode cX5_least 7 = .ok (.iload_n 3, 1) := by decide +kernel
theorem dX5_least_8 : decode cX5_least 8 = .ok (.ifCond .eq 5, 3) := by decide +kernel
theorem dX5_least_11 : decode cX5_least 11 = .ok (.iload_n 3, 1) := by decide +kernel
theorem dX5_least_12 : decode cX5_least 12 = .ok (.ireturn, 1) := by decide +kernel
theorem dX5_least_13 : decode cX5_least 13 = .ok (.aload_n 0, 1) := by decide +kernel
theorem dX5_least_14 : decode cX5_least 14 = .ok (.getfield 40, 3) := by decide +kernel
theorem dX5_least_17 : decode cX5_least 17 = .ok (.iload_n 1, 1) := by decide +kernel
theorem dX5_least_18 : decode cX5_least 18 = .ok (.invokevirtual 144, 3) := by decide +kernel
theorem dX5_least_21 : decode cX5_least 21 = .ok (.aload_n 0, 1) := by decide +kernel
theorem dX5_least_22 : decode cX5_least 22 = .ok (.getfield 53, 3) := by decide +kernel
theorem dX5_least_25 : decode cX5_least 25 = .ok (.invokevirtual 182, 3) := by decide +kernel
theorem dX5_least_28 : decode cX5_least 28 = .ok (.istore 4, 2) := by decide +kernel
theorem dX5_least_30 : decode cX5_least 30 = .ok (.iload 4, 2) := by decide +kernel
theorem dX5_least_32 : decode cX5_least 32 = .ok (.bipush (-9), 2) := by decide +kernel
theorem dX5_least_34 : decode cX5_least 34 = .ok (.if_icmp .ne 6, 3) := by decide +kernel
theorem dX5_least_37 : decode cX5_least 37 = .ok (.bipush (-9), 2) := by decide +kernel
theorem dX5_least_39 : decode cX5_least 39 = .ok (.ireturn, 1) := by decide +kernel
theorem dX5_least_40 : decode cX5_least 40 = .ok (.iload_n 2, 1) := by decide +kernel
theorem dX5_least_41 : decode cX5_least 41 = .ok (.iconst (-1), 1) := by decide +kernel
theorem dX5_least_42 : decode cX5_least 42 = .ok (.if_icmp .ne 8, 3) := by decide +kernel
theorem dX5_least_45 : decode cX5_least 45 = .ok (.iload 4, 2) := by decide +kernel
theorem dX5_least_47 : decode cX5_least 47 = .ok (.goto 12, 3) := by decide +kernel
theorem dX5_least_50 : decode cX5_least 50 = .ok (.aload_n 0, 1) := by decide +kernel
theorem dX5_least_51 : decode cX5_least 51 = .ok (.getfield 53, 3) := by decide +kernel
theorem dX5_least_54 : decode cX5_least 54 = .ok (.getfield 159, 3) := by decide +kernel
theorem dX5_least_57 : decode cX5_least 57 = .ok (.iload_n 2, 1) := by decide +kernel
theorem dX5_least_58 : decode cX5_least 58 = .ok (.iaload, 1) := by decide +kernel
theorem dX5_least_59 : decode cX5_least 59 = .ok (.ireturn, 1) := by decide +kernel
theorem dX5_when_0 : decode cX5_when 0 = .ok (.aload_n 0, 1) := by decide +kernel
theorem dX5_when_1 : decode cX5_when 1 = .ok (.iload_n 1, 1) := by decide +kernel
theorem dX5_when_2 : decode cX5_when 2 = .ok (.invokevirtual 162, 3) := by decide +kernel
theorem dX5_when_5 : decode cX5_when 5 = .ok (.istore_n 2, 1) := by decide +kernel
theorem dX5_when_6 : decode cX5_when 6 = .ok (.iload_n 2, 1) := by decide +kernel
theorem dX5_when_7 : decode cX5_when 7 = .ok (.ifCond .eq 5, 3) := by decide +kernel
theorem dX5_when_10 : decode cX5_when 10 = .ok (.iload_n 2, 1) := by decide +kernel
theorem dX5_when_11 : decode cX5_when 11 = .ok (.ireturn, 1) := by decide +kernel
theorem dX5_when_12 : decode cX5_when 12 = .ok (.iload_n 1, 1) := by decide +kernel
theorem dX5_when_13 : decode cX5_when 13 = .ok (.istore_n 3, 1) := by decide +kernel
theorem dX5_when_14 : decode cX5_when 14 = .ok (.iload_n 3, 1) := by decide +kernel
theorem dX5_when_15 : decode cX5_when 15 = .ok (.bipush 20, 2) := by decide +kernel
theorem dX5_when_17 : decode cX5_when 17 = .ok (.if_icmp .ge 29, 3) := by decide +kernel
theorem dX5_when_20 : decode cX5_when 20 = .ok (.aload_n 0, 1) := by decide +kernel
theorem dX5_when_21 : decode cX5_when 21 = .ok (.getfield 40, 3) := by decide +kernel
theorem dX5_when_24 : decode cX5_when 24 = .ok (.iload_n 3, 1) := by decide +kernel
theorem dX5_when_25 : decode cX5_when 25 = .ok (.invokevirtual 144, 3) := by decide +kernel
theorem dX5_when_28 : decode cX5_when 28 = .ok (.aload_n 0, 1) := by decide +kernel
theorem dX5_when_29 : decode cX5_when 29 = .ok (.getfield 40, 3) := by decide +kernel
theorem dX5_when_32 : decode cX5_when 32 = .ok (.invokevirtual 185, 3) := by decide +kernel
theorem dX5_when_35 : decode cX5_when 35 = .ok (.ifCond .eq 5, 3) := by decide +kernel
theorem dX5_when_38 : decode cX5_when 38 = .ok (.iload_n 3, 1) := by decide +kernel
theorem dX5_when_39 : decode cX5_when 39 = .ok (.ireturn, 1) := by decide +kernel
theorem dX5_when_40 : decode cX5_when 40 = .ok (.iinc 3 1, 3) := by decide +kernel
theorem dX5_when_43 : decode cX5_when 43 = .ok (.goto (-29), 3) := by decide +kernel
theorem dX5_when_46 : decode cX5_when 46 = .ok (.bipush (-9), 2) := by decide +kernel
theorem dX5_when_48 : decode cX5_when 48 = .ok (.ireturn, 1) := by decide +kernel
theorem dX5_fresh_0 : decode cX5_fresh 0 = .ok (.aload_n 0, 1) := by decide +kernel
theorem dX5_fresh_1 : decode cX5_fresh 1 = .ok (.getfield 12, 3) := by decide +kernel
theorem dX5_fresh_4 : decode cX5_fresh 4 = .ok (.iload_n 1, 1) := by decide +kernel
theorem dX5_fresh_5 : decode cX5_fresh 5 = .ok (.invokevirtual 103, 3) := by decide +kernel
theorem dX5_fresh_8 : decode cX5_fresh 8 = .ok (.ifCond .ne 5, 3) := by decide +kernel
theorem dX5_fresh_11 : decode cX5_fresh 11 = .ok (.iconst (-1), 1) := by decide +kernel
theorem dX5_fresh_12 : decode cX5_fresh 12 = .ok (.ireturn, 1) := by decide +kernel
theorem dX5_fresh_13 : decode cX5_fresh 13 = .ok (.iload_n 2, 1) := by decide +kernel
theorem dX5_fresh_14 : decode cX5_fresh 14 = .ok (.invokestatic 138, 3) := by decide +kernel
theorem dX5_fresh_17 : decode cX5_fresh 17 = .ok (.ifCond .ne 6, 3) := by decide +kernel
theorem dX5_fresh_20 : decode cX5_fresh 20 = .ok (.bipush (-2), 2) := by decide +kernel
theorem dX5_fresh_22 : decode cX5_fresh 22 = .ok (.ireturn, 1) := by decide +kernel
theorem dX5_fresh_23 : decode cX5_fresh 23 = .ok (.aload_n 0, 1) := by decide +kernel
theorem dX5_fresh_24 : decode cX5_fresh 24 = .ok (.getfield 40, 3) := by decide +kernel
theorem dX5_fresh_27 : decode cX5_fresh 27 = .ok (.iload_n 2, 1) := by decide +kernel
theorem dX5_fresh_28 : decode cX5_fresh 28 = .ok (.invokevirtual 144, 3) := by decide +kernel
theorem dX5_fresh_31 : decode cX5_fresh 31 = .ok (.aload_n 0, 1) := by decide +kernel
theorem dX5_fresh_32 : decode cX5_fresh 32 = .ok (.getfield 53, 3) := by decide +kernel
theorem dX5_fresh_35 : decode cX5_fresh 35 = .ok (.invokevirtual 156, 3) := by decide +kernel
theorem dX5_fresh_38 : decode cX5_fresh 38 = .ok (.istore_n 3, 1) := by decide +kernel
theorem dX5_fresh_39 : decode cX5_fresh 39 = .ok (.aload_n 0, 1) := by decide +kernel
theorem dX5_fresh_40 : decode cX5_fresh 40 = .ok (.getfield 40, 3) := by decide +kernel
theorem dX5_fresh_43 : decode cX5_fresh 43 = .ok (.iconst (-1), 1) := by decide +kernel
theorem dX5_fresh_44 : decode cX5_fresh 44 = .ok (.iload_n 1, 1) := by decide +kernel
theorem dX5_fresh_45 : decode cX5_fresh 45 = .ok (.invokevirtual 188, 3) := by decide +kernel
theorem dX5_fresh_48 : decode cX5_fresh 48 = .ok (.aload_n 0, 1) := by decide +kernel
theorem dX5_fresh_49 : decode cX5_fresh 49 = .ok (.getfield 53, 3) := by decide +kernel
theorem dX5_fresh_52 : decode cX5_fresh 52 = .ok (.invokevirtual 156, 3) := by decide +kernel
theorem dX5_fresh_55 : decode cX5_fresh 55 = .ok (.iload_n 3, 1) := by decide +kernel
theorem dX5_fresh_56 : decode cX5_fresh 56 = .ok (.isub, 1) := by decide +kernel
theorem dX5_fresh_57 : decode cX5_fresh 57 = .ok (.ireturn, 1) := by decide +kernel
theorem dX5_reading_0 : decode cX5_reading 0 = .ok (.aload_n 0, 1) := by decide +kernel
theorem dX5_reading_1 : decode cX5_reading 1 = .ok (.aload_n 0, 1) := by decide +kernel
theorem dX5_reading_2 : decode cX5_reading 2 = .ok (.getfield 28, 3) := by decide +kernel
theorem dX5_reading_5 : decode cX5_reading 5 = .ok (.iload_n 1, 1) := by decide +kernel
theorem dX5_reading_6 : decode cX5_reading 6 = .ok (.iload_n 3, 1) := by decide +kernel
theorem dX5_reading_7 : decode cX5_reading 7 = .ok (.iload_n 2, 1) := by decide +kernel
theorem dX5_reading_8 : decode cX5_reading 8 = .ok (.invokevirtual 115, 3) := by decide +kernel
theorem dX5_reading_11 : decode cX5_reading 11 = .ok (.istore 5, 2) := by decide +kernel
theorem dX5_reading_13 : decode cX5_reading 13 = .ok (.aload_n 0, 1) := by decide +kernel
theorem dX5_reading_14 : decode cX5_reading 14 = .ok (.getfield 28, 3) := by decide +kernel
theorem dX5_reading_17 : decode cX5_reading 17 = .ok (.iload 5, 2) := by decide +kernel
theorem dX5_reading_19 : decode cX5_reading 19 = .ok (.invokevirtual 119, 3) := by decide +kernel
theorem dX5_reading_22 : decode cX5_reading 22 = .ok (.ifCond .eq 12, 3) := by decide +kernel
theorem dX5_reading_25 : decode cX5_reading 25 = .ok (.aload_n 0, 1) := by decide +kernel
theorem dX5_reading_26 : decode cX5_reading 26 = .ok (.getfield 31, 3) := by decide +kernel
theorem dX5_reading_29 : decode cX5_reading 29 = .ok (.iload 5, 2) := by decide +kernel
theorem dX5_reading_31 : decode cX5_reading 31 = .ok (.iload 4, 2) := by decide +kernel
theorem dX5_reading_33 : decode cX5_reading 33 = .ok (.bastore, 1) := by decide +kernel
theorem dX5_reading_34 : decode cX5_reading 34 = .ok (.iload 5, 2) := by decide +kernel
theorem dX5_reading_36 : decode cX5_reading 36 = .ok (.ireturn, 1) := by decide +kernel
theorem dX5_back_0 : decode cX5_back 0 = .ok (.aload_n 0, 1) := by decide +kernel
theorem dX5_back_1 : decode cX5_back 1 = .ok (.getfield 28, 3) := by decide +kernel
theorem dX5_back_4 : decode cX5_back 4 = .ok (.iload_n 1, 1) := by decide +kernel
theorem dX5_back_5 : decode cX5_back 5 = .ok (.invokevirtual 131, 3) := by decide +kernel
theorem dX5_back_8 : decode cX5_back 8 = .ok (.ireturn, 1) := by decide +kernel
theorem dX5_times_0 : decode cX5_times 0 = .ok (.aload_n 0, 1) := by decide +kernel
theorem dX5_times_1 : decode cX5_times 1 = .ok (.getfield 21, 3) := by decide +kernel
theorem dX5_times_4 : decode cX5_times 4 = .ok (.iload_n 1, 1) := by decide +kernel
theorem dX5_times_5 : decode cX5_times 5 = .ok (.invokevirtual 119, 3) := by decide +kernel
theorem dX5_times_8 : decode cX5_times 8 = .ok (.ifCond .ne 5, 3) := by decide +kernel
theorem dX5_times_11 : decode cX5_times 11 = .ok (.iconst (-1), 1) := by decide +kernel
theorem dX5_times_12 : decode cX5_times 12 = .ok (.ireturn, 1) := by decide +kernel
theorem dX5_times_13 : decode cX5_times 13 = .ok (.aload_n 0, 1) := by decide +kernel
theorem dX5_times_14 : decode cX5_times 14 = .ok (.aload_n 0, 1) := by decide +kernel
theorem dX5_times_15 : decode cX5_times 15 = .ok (.getfield 21, 3) := by decide +kernel
theorem dX5_times_18 : decode cX5_times 18 = .ok (.getfield 122, 3) := by decide +kernel
theorem dX5_times_21 : decode cX5_times 21 = .ok (.iload_n 1, 1) := by decide +kernel
theorem dX5_times_22 : decode cX5_times 22 = .ok (.bipush 20, 2) := by decide +kernel
theorem dX5_times_24 : decode cX5_times 24 = .ok (.invokevirtual 192, 3) := by decide +kernel
theorem dX5_times_27 : decode cX5_times 27 = .ok (.ireturn, 1) := by decide +kernel
theorem dX5_grudges_0 : decode cX5_grudges 0 = .ok (.aload_n 0, 1) := by decide +kernel
theorem dX5_grudges_1 : decode cX5_grudges 1 = .ok (.getfield 12, 3) := by decide +kernel
theorem dX5_grudges_4 : decode cX5_grudges 4 = .ok (.iload_n 1, 1) := by decide +kernel
theorem dX5_grudges_5 : decode cX5_grudges 5 = .ok (.invokevirtual 103, 3) := by decide +kernel
theorem dX5_grudges_8 : decode cX5_grudges 8 = .ok (.ifCond .ne 5, 3) := by decide +kernel
theorem dX5_grudges_11 : decode cX5_grudges 11 = .ok (.iconst (-1), 1) := by decide +kernel
theorem dX5_grudges_12 : decode cX5_grudges 12 = .ok (.ireturn, 1) := by decide +kernel
theorem dX5_grudges_13 : decode cX5_grudges 13 = .ok (.aload_n 0, 1) := by decide +kernel
theorem dX5_grudges_14 : decode cX5_grudges 14 = .ok (.aload_n 0, 1) := by decide +kernel
theorem dX5_grudges_15 : decode cX5_grudges 15 = .ok (.getfield 12, 3) := by decide +kernel
theorem dX5_grudges_18 : decode cX5_grudges 18 = .ok (.getfield 112, 3) := by decide +kernel
theorem dX5_grudges_21 : decode cX5_grudges 21 = .ok (.iload_n 1, 1) := by decide +kernel
theorem dX5_grudges_22 : decode cX5_grudges 22 = .ok (.bipush 10, 2) := by decide +kernel
theorem dX5_grudges_24 : decode cX5_grudges 24 = .ok (.invokevirtual 192, 3) := by decide +kernel
theorem dX5_grudges_27 : decode cX5_grudges 27 = .ok (.ireturn, 1) := by decide +kernel
theorem dX5_ears_0 : decode cX5_ears 0 = .ok (.aload_n 0, 1) := by decide +kernel
theorem dX5_ears_1 : decode cX5_ears 1 = .ok (.getfield 12, 3) := by decide +kernel
theorem dX5_ears_4 : decode cX5_ears 4 = .ok (.iload_n 1, 1) := by decide +kernel
theorem dX5_ears_5 : decode cX5_ears 5 = .ok (.invokevirtual 103, 3) := by decide +kernel
theorem dX5_ears_8 : decode cX5_ears 8 = .ok (.ifCond .ne 5, 3) := by decide +kernel
theorem dX5_ears_11 : decode cX5_ears 11 = .ok (.iconst (-1), 1) := by decide +kernel
theorem dX5_ears_12 : decode cX5_ears 12 = .ok (.ireturn, 1) := by decide +kernel
theorem dX5_ears_13 : decode cX5_ears 13 = .ok (.aload_n 0, 1) := by decide +kernel
theorem dX5_ears_14 : decode cX5_ears 14 = .ok (.aload_n 0, 1) := by decide +kernel
theorem dX5_ears_15 : decode cX5_ears 15 = .ok (.getfield 12, 3) := by decide +kernel
theorem dX5_ears_18 : decode cX5_ears 18 = .ok (.getfield 109, 3) := by decide +kernel
theorem dX5_ears_21 : decode cX5_ears 21 = .ok (.iload_n 1, 1) := by decide +kernel
theorem dX5_ears_22 : decode cX5_ears 22 = .ok (.iconst 5, 1) := by decide +kernel
theorem dX5_ears_23 : decode cX5_ears 23 = .ok (.invokevirtual 192, 3) := by decide +kernel
theorem dX5_ears_26 : decode cX5_ears 26 = .ok (.ireturn, 1) := by decide +kernel
theorem dX5_kinds_0 : decode cX5_kinds 0 = .ok (.aload_n 0, 1) := by decide +kernel
theorem dX5_kinds_1 : decode cX5_kinds 1 = .ok (.getfield 12, 3) := by decide +kernel
theorem dX5_kinds_4 : decode cX5_kinds 4 = .ok (.iload_n 1, 1) := by decide +kernel
theorem dX5_kinds_5 : decode cX5_kinds 5 = .ok (.invokevirtual 103, 3) := by decide +kernel
theorem dX5_kinds_8 : decode cX5_kinds 8 = .ok (.ifCond .ne 5, 3) := by decide +kernel
theorem dX5_kinds_11 : decode cX5_kinds 11 = .ok (.iconst (-1), 1) := by decide +kernel
theorem dX5_kinds_12 : decode cX5_kinds 12 = .ok (.ireturn, 1) := by decide +kernel
theorem dX5_kinds_13 : decode cX5_kinds 13 = .ok (.aload_n 0, 1) := by decide +kernel
theorem dX5_kinds_14 : decode cX5_kinds 14 = .ok (.aload_n 0, 1) := by decide +kernel
theorem dX5_kinds_15 : decode cX5_kinds 15 = .ok (.getfield 12, 3) := by decide +kernel
theorem dX5_kinds_18 : decode cX5_kinds 18 = .ok (.getfield 106, 3) := by decide +kernel
theorem dX5_kinds_21 : decode cX5_kinds 21 = .ok (.iload_n 1, 1) := by decide +kernel
theorem dX5_kinds_22 : decode cX5_kinds 22 = .ok (.iconst 3, 1) := by decide +kernel
theorem dX5_kinds_23 : decode cX5_kinds 23 = .ok (.invokevirtual 192, 3) := by decide +kernel
theorem dX5_kinds_26 : decode cX5_kinds 26 = .ok (.ireturn, 1) := by decide +kernel
theorem dX5_odds_0 : decode cX5_odds 0 = .ok (.iload_n 2, 1) := by decide +kernel
theorem dX5_odds_1 : decode cX5_odds 1 = .ok (.ifCond .lt 16, 3) := by decide +kernel
theorem dX5_odds_4 : decode cX5_odds 4 = .ok (.iload_n 2, 1) := by decide +kernel
theorem dX5_odds_5 : decode cX5_odds 5 = .ok (.iconst 1, 1) := by decide +kernel
theorem dX5_odds_6 : decode cX5_odds 6 = .ok (.if_icmp .gt 11, 3) := by decide +kernel
theorem dX5_odds_9 : decode cX5_odds 9 = .ok (.aload_n 0, 1) := by decide +kernel
theorem dX5_odds_10 : decode cX5_odds 10 = .ok (.iload_n 1, 1) := by decide +kernel
theorem dX5_odds_11 : decode cX5_odds 11 = .ok (.invokevirtual 162, 3) := by decide +kernel
theorem dX5_odds_14 : decode cX5_odds 14 = .ok (.ifCond .eq 7, 3) := by decide +kernel
theorem dX5_odds_17 : decode cX5_odds 17 = .ok (.ldc2_w 195, 3) := by decide +kernel
theorem dX5_odds_20 : decode cX5_odds 20 = .ok (.lreturn, 1) := by decide +kernel
theorem dX5_odds_21 : decode cX5_odds 21 = .ok (.iconst 1, 1) := by decide +kernel
theorem dX5_odds_22 : decode cX5_odds 22 = .ok (.aload_n 0, 1) := by decide +kernel
theorem dX5_odds_23 : decode cX5_odds 23 = .ok (.getfield 21, 3) := by decide +kernel
theorem dX5_odds_26 : decode cX5_odds 26 = .ok (.getfield 97, 3) := by decide +kernel
theorem dX5_odds_29 : decode cX5_odds 29 = .ok (.ishl, 1) := by decide +kernel
theorem dX5_odds_30 : decode cX5_odds 30 = .ok (.istore_n 3, 1) := by decide +kernel
theorem dX5_odds_31 : decode cX5_odds 31 = .ok (.iconst 0, 1) := by decide +kernel
theorem dX5_odds_32 : decode cX5_odds 32 = .ok (.istore 4, 2) := by decide +kernel
theorem dX5_odds_34 : decode cX5_odds 34 = .ok (.aload_n 0, 1) := by decide +kernel
theorem dX5_odds_35 : decode cX5_odds 35 = .ok (.getfield 40, 3) := by decide +kernel
theorem dX5_odds_38 : decode cX5_odds 38 = .ok (.iload_n 1, 1) := by decide +kernel
theorem dX5_odds_39 : decode cX5_odds 39 = .ok (.invokevirtual 197, 3) := by decide +kernel
theorem dX5_odds_42 : decode cX5_odds 42 = .ok (.iconst 0, 1) := by decide +kernel
theorem dX5_odds_43 : decode cX5_odds 43 = .ok (.istore 5, 2) := by decide +kernel
theorem dX5_odds_45 : decode cX5_odds 45 = .ok (.iload 5, 2) := by decide +kernel
theorem dX5_odds_47 : decode cX5_odds 47 = .ok (.iload_n 3, 1) := by decide +kernel
theorem dX5_odds_48 : decode cX5_odds 48 = .ok (.if_icmp .ge 32, 3) := by decide +kernel
theorem dX5_odds_51 : decode cX5_odds 51 = .ok (.aload_n 0, 1) := by decide +kernel
theorem dX5_odds_52 : decode cX5_odds 52 = .ok (.getfield 40, 3) := by decide +kernel
theorem dX5_odds_55 : decode cX5_odds 55 = .ok (.iload 5, 2) := by decide +kernel
theorem dX5_odds_57 : decode cX5_odds 57 = .ok (.iconst (-1), 1) := by decide +kernel
theorem dX5_odds_58 : decode cX5_odds 58 = .ok (.invokevirtual 188, 3) := by decide +kernel
theorem dX5_odds_61 : decode cX5_odds 61 = .ok (.aload_n 0, 1) := by decide +kernel
theorem dX5_odds_62 : decode cX5_odds 62 = .ok (.getfield 40, 3) := by decide +kernel
theorem dX5_odds_65 : decode cX5_odds 65 = .ok (.invokevirtual 185, 3) := by decide +kernel
theorem dX5_odds_68 : decode cX5_odds 68 = .ok (.ifCond .eq 6, 3) := by decide +kernel
theorem dX5_odds_71 : decode cX5_odds 71 = .ok (.iinc 4 1, 3) := by decide +kernel
theorem dX5_odds_74 : decode cX5_odds 74 = .ok (.iinc 5 1, 3) := by decide +kernel
theorem dX5_odds_77 : decode cX5_odds 77 = .ok (.goto (-32), 3) := by decide +kernel
theorem dX5_odds_80 : decode cX5_odds 80 = .ok (.iconst 0, 1) := by decide +kernel
theorem dX5_odds_81 : decode cX5_odds 81 = .ok (.istore 5, 2) := by decide +kernel
theorem dX5_odds_83 : decode cX5_odds 83 = .ok (.iload 5, 2) := by decide +kernel
theorem dX5_odds_85 : decode cX5_odds 85 = .ok (.aload_n 0, 1) := by decide +kernel
theorem dX5_odds_86 : decode cX5_odds 86 = .ok (.getfield 21, 3) := by decide +kernel
theorem dX5_odds_89 : decode cX5_odds 89 = .ok (.getfield 97, 3) := by decide +kernel
theorem dX5_odds_92 : decode cX5_odds 92 = .ok (.if_icmp .ge 26, 3) := by decide +kernel
theorem dX5_odds_95 : decode cX5_odds 95 = .ok (.iload 4, 2) := by decide +kernel
theorem dX5_odds_97 : decode cX5_odds 97 = .ok (.iconst 2, 1) := by decide +kernel
theorem dX5_odds_98 : decode cX5_odds 98 = .ok (.irem, 1) := by decide +kernel
theorem dX5_odds_99 : decode cX5_odds 99 = .ok (.ifCond .ne 19, 3) := by decide +kernel
theorem dX5_odds_102 : decode cX5_odds 102 = .ok (.iload_n 3, 1) := by decide +kernel
theorem dX5_odds_103 : decode cX5_odds 103 = .ok (.iconst 2, 1) := by decide +kernel
theorem dX5_odds_104 : decode cX5_odds 104 = .ok (.idiv, 1) := by decide +kernel
theorem dX5_odds_105 : decode cX5_odds 105 = .ok (.istore_n 3, 1) := by decide +kernel
theorem dX5_odds_106 : decode cX5_odds 106 = .ok (.iload 4, 2) := by decide +kernel
theorem dX5_odds_108 : decode cX5_odds 108 = .ok (.iconst 2, 1) := by decide +kernel
theorem dX5_odds_109 : decode cX5_odds 109 = .ok (.idiv, 1) := by decide +kernel
theorem dX5_odds_110 : decode cX5_odds 110 = .ok (.istore 4, 2) := by decide +kernel
theorem dX5_odds_112 : decode cX5_odds 112 = .ok (.iinc 5 1, 3) := by decide +kernel
theorem dX5_odds_115 : decode cX5_odds 115 = .ok (.goto (-32), 3) := by decide +kernel
theorem dX5_odds_118 : decode cX5_odds 118 = .ok (.iload_n 2, 1) := by decide +kernel
theorem dX5_odds_119 : decode cX5_odds 119 = .ok (.ifCond .ne 9, 3) := by decide +kernel
theorem dX5_odds_122 : decode cX5_odds 122 = .ok (.iload 4, 2) := by decide +kernel
theorem dX5_odds_124 : decode cX5_odds 124 = .ok (.i2l, 1) := by decide +kernel
theorem dX5_odds_125 : decode cX5_odds 125 = .ok (.goto 5, 3) := by decide +kernel
theorem dX5_odds_128 : decode cX5_odds 128 = .ok (.iload_n 3, 1) := by decide +kernel
theorem dX5_odds_129 : decode cX5_odds 129 = .ok (.i2l, 1) := by decide +kernel
theorem dX5_odds_130 : decode cX5_odds 130 = .ok (.lreturn, 1) := by decide +kernel
theorem dX5_fitting_0 : decode cX5_fitting 0 = .ok (.aload_n 1, 1) := by decide +kernel
theorem dX5_fitting_1 : decode cX5_fitting 1 = .ok (.iload_n 2, 1) := by decide +kernel
theorem dX5_fitting_2 : decode cX5_fitting 2 = .ok (.iaload, 1) := by decide +kernel
theorem dX5_fitting_3 : decode cX5_fitting 3 = .ok (.istore 4, 2) := by decide +kernel
theorem dX5_fitting_5 : decode cX5_fitting 5 = .ok (.iconst 0, 1) := by decide +kernel
theorem dX5_fitting_6 : decode cX5_fitting 6 = .ok (.istore 5, 2) := by decide +kernel
theorem dX5_fitting_8 : decode cX5_fitting 8 = .ok (.iconst 0, 1) := by decide +kernel
theorem dX5_fitting_9 : decode cX5_fitting 9 = .ok (.istore 6, 2) := by decide +kernel
theorem dX5_fitting_11 : decode cX5_fitting 11 = .ok (.iload 6, 2) := by decide +kernel
theorem dX5_fitting_13 : decode cX5_fitting 13 = .ok (.iload_n 3, 1) := by decide +kernel
theorem dX5_fitting_14 : decode cX5_fitting 14 = .ok (.if_icmp .ge 30, 3) := by decide +kernel
theorem dX5_fitting_17 : decode cX5_fitting 17 = .ok (.aload_n 1, 1) := by decide +kernel
theorem dX5_fitting_18 : decode cX5_fitting 18 = .ok (.iload_n 2, 1) := by decide +kernel
theorem dX5_fitting_19 : decode cX5_fitting 19 = .ok (.iload 6, 2) := by decide +kernel
theorem dX5_fitting_21 : decode cX5_fitting 21 = .ok (.iastore, 1) := by decide +kernel
theorem dX5_fitting_22 : decode cX5_fitting 22 = .ok (.aload_n 0, 1) := by decide +kernel
theorem dX5_fitting_23 : decode cX5_fitting 23 = .ok (.invokevirtual 200, 3) := by decide +kernel
theorem dX5_fitting_26 : decode cX5_fitting 26 = .ok (.ifCond .eq 12, 3) := by decide +kernel
theorem dX5_fitting_29 : decode cX5_fitting 29 = .ok (.iload 5, 2) := by decide +kernel
theorem dX5_fitting_31 : decode cX5_fitting 31 = .ok (.iconst 1, 1) := by decide +kernel
theorem dX5_fitting_32 : decode cX5_fitting 32 = .ok (.iload 6, 2) := by decide +kernel
theorem dX5_fitting_34 : decode cX5_fitting 34 = .ok (.ishl, 1) := by decide +kernel
theorem dX5_fitting_35 : decode cX5_fitting 35 = .ok (.ior, 1) := by decide +kernel
theorem dX5_fitting_36 : decode cX5_fitting 36 = .ok (.istore 5, 2) := by decide +kernel
theorem dX5_fitting_38 : decode cX5_fitting 38 = .ok (.iinc 6 1, 3) := by decide +kernel
theorem dX5_fitting_41 : decode cX5_fitting 41 = .ok (.goto (-30), 3) := by decide +kernel
theorem dX5_fitting_44 : decode cX5_fitting 44 = .ok (.aload_n 1, 1) := by decide +kernel
theorem dX5_fitting_45 : decode cX5_fitting 45 = .ok (.iload_n 2, 1) := by decide +kernel
theorem dX5_fitting_46 : decode cX5_fitting 46 = .ok (.iload 4, 2) := by decide +kernel
theorem dX5_fitting_48 : decode cX5_fitting 48 = .ok (.iastore, 1) := by decide +kernel
theorem dX5_fitting_49 : decode cX5_fitting 49 = .ok (.iload 5, 2) := by decide +kernel
theorem dX5_fitting_51 : decode cX5_fitting 51 = .ok (.ireturn, 1) := by decide +kernel
theorem dX5_allReadingsAreSo_0 : decode cX5_allReadingsAreSo 0 = .ok (.iconst 0, 1) := by decide +kernel
theorem dX5_allReadingsAreSo_1 : decode cX5_allReadingsAreSo 1 = .ok (.istore_n 1, 1) := by decide +kernel
theorem dX5_allReadingsAreSo_2 : decode cX5_allReadingsAreSo 2 = .ok (.iload_n 1, 1) := by decide +kernel
theorem dX5_allReadingsAreSo_3 : decode cX5_allReadingsAreSo 3 = .ok (.aload_n 0, 1) := by decide +kernel
theorem dX5_allReadingsAreSo_4 : decode cX5_allReadingsAreSo 4 = .ok (.getfield 28, 3) := by decide +kernel
theorem dX5_allReadingsAreSo_7 : decode cX5_allReadingsAreSo 7 = .ok (.getfield 97, 3) := by decide +kernel
theorem dX5_allReadingsAreSo_10 : decode cX5_allReadingsAreSo 10 = .ok (.if_icmp .ge 61, 3) := by decide +kernel
theorem dX5_allReadingsAreSo_13 : decode cX5_allReadingsAreSo 13 = .ok (.aload_n 0, 1) := by decide +kernel
theorem dX5_allReadingsAreSo_14 : decode cX5_allReadingsAreSo 14 = .ok (.getfield 40, 3) := by decide +kernel
theorem dX5_allReadingsAreSo_17 : decode cX5_allReadingsAreSo 17 = .ok (.aload_n 0, 1) := by decide +kernel
theorem dX5_allReadingsAreSo_18 : decode cX5_allReadingsAreSo 18 = .ok (.getfield 28, 3) := by decide +kernel
theorem dX5_allReadingsAreSo_21 : decode cX5_allReadingsAreSo 21 = .ok (.getfield 122, 3) := by decide +kernel
theorem dX5_allReadingsAreSo_24 : decode cX5_allReadingsAreSo 24 = .ok (.iload_n 1, 1) := by decide +kernel
theorem dX5_allReadingsAreSo_25 : decode cX5_allReadingsAreSo 25 = .ok (.iaload, 1) := by decide +kernel
theorem dX5_allReadingsAreSo_26 : decode cX5_allReadingsAreSo 26 = .ok (.invokevirtual 144, 3) := by decide +kernel
theorem dX5_allReadingsAreSo_29 : decode cX5_allReadingsAreSo 29 = .ok (.aload_n 0, 1) := by decide +kernel
theorem dX5_allReadingsAreSo_30 : decode cX5_allReadingsAreSo 30 = .ok (.getfield 40, 3) := by decide +kernel
theorem dX5_allReadingsAreSo_33 : decode cX5_allReadingsAreSo 33 = .ok (.aload_n 0, 1) := by decide +kernel
theorem dX5_allReadingsAreSo_34 : decode cX5_allReadingsAreSo 34 = .ok (.getfield 28, 3) := by decide +kernel
theorem dX5_allReadingsAreSo_37 : decode cX5_allReadingsAreSo 37 = .ok (.getfield 128, 3) := by decide +kernel
theorem dX5_allReadingsAreSo_40 : decode cX5_allReadingsAreSo 40 = .ok (.iload_n 1, 1) := by decide +kernel
theorem dX5_allReadingsAreSo_41 : decode cX5_allReadingsAreSo 41 = .ok (.iaload, 1) := by decide +kernel
theorem dX5_allReadingsAreSo_42 : decode cX5_allReadingsAreSo 42 = .ok (.aload_n 0, 1) := by decide +kernel
theorem dX5_allReadingsAreSo_43 : decode cX5_allReadingsAreSo 43 = .ok (.getfield 28, 3) := by decide +kernel
theorem dX5_allReadingsAreSo_46 : decode cX5_allReadingsAreSo 46 = .ok (.getfield 125, 3) := by decide +kernel
theorem dX5_allReadingsAreSo_49 : decode cX5_allReadingsAreSo 49 = .ok (.iload_n 1, 1) := by decide +kernel
theorem dX5_allReadingsAreSo_50 : decode cX5_allReadingsAreSo 50 = .ok (.iaload, 1) := by decide +kernel
theorem dX5_allReadingsAreSo_51 : decode cX5_allReadingsAreSo 51 = .ok (.invokevirtual 148, 3) := by decide +kernel
theorem dX5_allReadingsAreSo_54 : decode cX5_allReadingsAreSo 54 = .ok (.aload_n 0, 1) := by decide +kernel
theorem dX5_allReadingsAreSo_55 : decode cX5_allReadingsAreSo 55 = .ok (.getfield 31, 3) := by decide +kernel
theorem dX5_allReadingsAreSo_58 : decode cX5_allReadingsAreSo 58 = .ok (.iload_n 1, 1) := by decide +kernel
theorem dX5_allReadingsAreSo_59 : decode cX5_allReadingsAreSo 59 = .ok (.baload, 1) := by decide +kernel
theorem dX5_allReadingsAreSo_60 : decode cX5_allReadingsAreSo 60 = .ok (.if_icmp .eq 5, 3) := by decide +kernel
theorem dX5_allReadingsAreSo_63 : decode cX5_allReadingsAreSo 63 = .ok (.iconst 0, 1) := by decide +kernel
theorem dX5_allReadingsAreSo_64 : decode cX5_allReadingsAreSo 64 = .ok (.ireturn, 1) := by decide +kernel
theorem dX5_allReadingsAreSo_65 : decode cX5_allReadingsAreSo 65 = .ok (.iinc 1 1, 3) := by decide +kernel
theorem dX5_allReadingsAreSo_68 : decode cX5_allReadingsAreSo 68 = .ok (.goto (-66), 3) := by decide +kernel
theorem dX5_allReadingsAreSo_71 : decode cX5_allReadingsAreSo 71 = .ok (.iconst 1, 1) := by decide +kernel
theorem dX5_allReadingsAreSo_72 : decode cX5_allReadingsAreSo 72 = .ok (.ireturn, 1) := by decide +kernel
theorem dX5_sheet_0 : decode cX5_sheet 0 = .ok (.aload_n 0, 1) := by decide +kernel
theorem dX5_sheet_1 : decode cX5_sheet 1 = .ok (.iconst 0, 1) := by decide +kernel
theorem dX5_sheet_2 : decode cX5_sheet 2 = .ok (.putfield 68, 3) := by decide +kernel
theorem dX5_sheet_5 : decode cX5_sheet 5 = .ok (.iload_n 1, 1) := by decide +kernel
theorem dX5_sheet_6 : decode cX5_sheet 6 = .ok (.invokestatic 71, 3) := by decide +kernel
theorem dX5_sheet_9 : decode cX5_sheet 9 = .ok (.ifCond .ne 5, 3) := by decide +kernel
theorem dX5_sheet_12 : decode cX5_sheet 12 = .ok (.iconst (-1), 1) := by decide +kernel
theorem dX5_sheet_13 : decode cX5_sheet 13 = .ok (.ireturn, 1) := by decide +kernel
theorem dX5_sheet_14 : decode cX5_sheet 14 = .ok (.iload_n 2, 1) := by decide +kernel
theorem dX5_sheet_15 : decode cX5_sheet 15 = .ok (.invokestatic 75, 3) := by decide +kernel
theorem dX5_sheet_18 : decode cX5_sheet 18 = .ok (.ifCond .eq 9, 3) := by decide +kernel
theorem dX5_sheet_21 : decode cX5_sheet 21 = .ok (.iload_n 3, 1) := by decide +kernel
theorem dX5_sheet_22 : decode cX5_sheet 22 = .ok (.bipush 60, 2) := by decide +kernel
theorem dX5_sheet_24 : decode cX5_sheet 24 = .ok (.if_icmp .le 6, 3) := by decide +kernel
theorem dX5_sheet_27 : decode cX5_sheet 27 = .ok (.bipush (-2), 2) := by decide +kernel
theorem dX5_sheet_29 : decode cX5_sheet 29 = .ok (.ireturn, 1) := by decide +kernel
theorem dX5_sheet_30 : decode cX5_sheet 30 = .ok (.iload_n 3, 1) := by decide +kernel
theorem dX5_sheet_31 : decode cX5_sheet 31 = .ok (.ifCond .ge 13, 3) := by decide +kernel
theorem dX5_sheet_34 : decode cX5_sheet 34 = .ok (.aload_n 0, 1) := by decide +kernel
theorem dX5_sheet_35 : decode cX5_sheet 35 = .ok (.iconst 4, 1) := by decide +kernel
theorem dX5_sheet_36 : decode cX5_sheet 36 = .ok (.putfield 68, 3) := by decide +kernel
theorem dX5_sheet_39 : decode cX5_sheet 39 = .ok (.aload_n 0, 1) := by decide +kernel
theorem dX5_sheet_40 : decode cX5_sheet 40 = .ok (.invokevirtual 82, 3) := by decide +kernel
theorem dX5_sheet_43 : decode cX5_sheet 43 = .ok (.ireturn, 1) := by decide +kernel
theorem dX5_sheet_44 : decode cX5_sheet 44 = .ok (.aload_n 0, 1) := by decide +kernel
theorem dX5_sheet_45 : decode cX5_sheet 45 = .ok (.getfield 59, 3) := by decide +kernel
theorem dX5_sheet_48 : decode cX5_sheet 48 = .ok (.iload_n 1, 1) := by decide +kernel
theorem dX5_sheet_49 : decode cX5_sheet 49 = .ok (.aaload, 1) := by decide +kernel
theorem dX5_sheet_50 : decode cX5_sheet 50 = .ok (.iload_n 2, 1) := by decide +kernel
theorem dX5_sheet_51 : decode cX5_sheet 51 = .ok (.iload_n 3, 1) := by decide +kernel
theorem dX5_sheet_52 : decode cX5_sheet 52 = .ok (.invokevirtual 203, 3) := by decide +kernel
theorem dX5_sheet_55 : decode cX5_sheet 55 = .ok (.iconst 1, 1) := by decide +kernel
theorem dX5_sheet_56 : decode cX5_sheet 56 = .ok (.ireturn, 1) := by decide +kernel
theorem dX5_lose_0 : decode cX5_lose 0 = .ok (.iload_n 1, 1) := by decide +kernel
theorem dX5_lose_1 : decode cX5_lose 1 = .ok (.invokestatic 71, 3) := by decide +kernel
theorem dX5_lose_4 : decode cX5_lose 4 = .ok (.ifCond .ne 5, 3) := by decide +kernel
theorem dX5_lose_7 : decode cX5_lose 7 = .ok (.iconst (-1), 1) := by decide +kernel
theorem dX5_lose_8 : decode cX5_lose 8 = .ok (.ireturn, 1) := by decide +kernel
theorem dX5_lose_9 : decode cX5_lose 9 = .ok (.aload_n 0, 1) := by decide +kernel
theorem dX5_lose_10 : decode cX5_lose 10 = .ok (.getfield 59, 3) := by decide +kernel
theorem dX5_lose_13 : decode cX5_lose 13 = .ok (.iload_n 1, 1) := by decide +kernel
theorem dX5_lose_14 : decode cX5_lose 14 = .ok (.aaload, 1) := by decide +kernel
theorem dX5_lose_15 : decode cX5_lose 15 = .ok (.invokevirtual 206, 3) := by decide +kernel
theorem dX5_lose_18 : decode cX5_lose 18 = .ok (.ifCond .eq 7, 3) := by decide +kernel
theorem dX5_lose_21 : decode cX5_lose 21 = .ok (.iconst 1, 1) := by decide +kernel
theorem dX5_lose_22 : decode cX5_lose 22 = .ok (.goto 4, 3) := by decide +kernel
theorem dX5_lose_25 : decode cX5_lose 25 = .ok (.iconst 0, 1) := by decide +kernel
theorem dX5_lose_26 : decode cX5_lose 26 = .ok (.ireturn, 1) := by decide +kernel
theorem dX5_put_0 : decode cX5_put 0 = .ok (.aload_n 0, 1) := by decide +kernel
theorem dX5_put_1 : decode cX5_put 1 = .ok (.iconst 0, 1) := by decide +kernel
theorem dX5_put_2 : decode cX5_put 2 = .ok (.putfield 68, 3) := by decide +kernel
theorem dX5_put_5 : decode cX5_put 5 = .ok (.iload_n 1, 1) := by decide +kernel
theorem dX5_put_6 : decode cX5_put 6 = .ok (.invokestatic 71, 3) := by decide +kernel
theorem dX5_put_9 : decode cX5_put 9 = .ok (.ifCond .ne 5, 3) := by decide +kernel
theorem dX5_put_12 : decode cX5_put 12 = .ok (.iconst (-1), 1) := by decide +kernel
theorem dX5_put_13 : decode cX5_put 13 = .ok (.ireturn, 1) := by decide +kernel
theorem dX5_put_14 : decode cX5_put 14 = .ok (.aload_n 0, 1) := by decide +kernel
theorem dX5_put_15 : decode cX5_put 15 = .ok (.aload_n 0, 1) := by decide +kernel
theorem dX5_put_16 : decode cX5_put 16 = .ok (.getfield 59, 3) := by decide +kernel
theorem dX5_put_19 : decode cX5_put 19 = .ok (.iload_n 1, 1) := by decide +kernel
theorem dX5_put_20 : decode cX5_put 20 = .ok (.aaload, 1) := by decide +kernel
theorem dX5_put_21 : decode cX5_put 21 = .ok (.iload_n 2, 1) := by decide +kernel
theorem dX5_put_22 : decode cX5_put 22 = .ok (.invokevirtual 209, 3) := by decide +kernel
theorem dX5_put_25 : decode cX5_put 25 = .ok (.putfield 68, 3) := by decide +kernel
theorem dX5_put_28 : decode cX5_put 28 = .ok (.aload_n 0, 1) := by decide +kernel
theorem dX5_put_29 : decode cX5_put 29 = .ok (.getfield 68, 3) := by decide +kernel
theorem dX5_put_32 : decode cX5_put 32 = .ok (.ifCond .eq 8, 3) := by decide +kernel
theorem dX5_put_35 : decode cX5_put 35 = .ok (.aload_n 0, 1) := by decide +kernel
theorem dX5_put_36 : decode cX5_put 36 = .ok (.invokevirtual 82, 3) := by decide +kernel
theorem dX5_put_39 : decode cX5_put 39 = .ok (.ireturn, 1) := by decide +kernel
theorem dX5_put_40 : decode cX5_put 40 = .ok (.aload_n 0, 1) := by decide +kernel
theorem dX5_put_41 : decode cX5_put 41 = .ok (.getfield 59, 3) := by decide +kernel
theorem dX5_put_44 : decode cX5_put 44 = .ok (.iload_n 1, 1) := by decide +kernel
theorem dX5_put_45 : decode cX5_put 45 = .ok (.aaload, 1) := by decide +kernel
theorem dX5_put_46 : decode cX5_put 46 = .ok (.iload_n 2, 1) := by decide +kernel
theorem dX5_put_47 : decode cX5_put 47 = .ok (.iload_n 3, 1) := by decide +kernel
theorem dX5_put_48 : decode cX5_put 48 = .ok (.invokevirtual 212, 3) := by decide +kernel
theorem dX5_put_51 : decode cX5_put 51 = .ok (.iconst 1, 1) := by decide +kernel
theorem dX5_put_52 : decode cX5_put 52 = .ok (.ireturn, 1) := by decide +kernel
theorem dX5_cell_0 : decode cX5_cell 0 = .ok (.aload_n 0, 1) := by decide +kernel
theorem dX5_cell_1 : decode cX5_cell 1 = .ok (.iconst 0, 1) := by decide +kernel
theorem dX5_cell_2 : decode cX5_cell 2 = .ok (.putfield 68, 3) := by decide +kernel
theorem dX5_cell_5 : decode cX5_cell 5 = .ok (.iload_n 1, 1) := by decide +kernel
theorem dX5_cell_6 : decode cX5_cell 6 = .ok (.invokestatic 71, 3) := by decide +kernel
theorem dX5_cell_9 : decode cX5_cell 9 = .ok (.ifCond .eq 10, 3) := by decide +kernel
theorem dX5_cell_12 : decode cX5_cell 12 = .ok (.iload_n 3, 1) := by decide +kernel
theorem dX5_cell_13 : decode cX5_cell 13 = .ok (.invokestatic 75, 3) := by decide +kernel
theorem dX5_cell_16 : decode cX5_cell 16 = .ok (.ifCond .ne 7, 3) := by decide +kernel
theorem dX5_cell_19 : decode cX5_cell 19 = .ok (.ldc2_w 195, 3) := by decide +kernel
theorem dX5_cell_22 : decode cX5_cell 22 = .ok (.lreturn, 1) := by decide +kernel
theorem dX5_cell_23 : decode cX5_cell 23 = .ok (.aload_n 0, 1) := by decide +kernel
theorem dX5_cell_24 : decode cX5_cell 24 = .ok (.aload_n 0, 1) := by decide +kernel
theorem dX5_cell_25 : decode cX5_cell 25 = .ok (.getfield 59, 3) := by decide +kernel
theorem dX5_cell_28 : decode cX5_cell 28 = .ok (.iload_n 1, 1) := by decide +kernel
theorem dX5_cell_29 : decode cX5_cell 29 = .ok (.aaload, 1) := by decide +kernel
theorem dX5_cell_30 : decode cX5_cell 30 = .ok (.iload_n 3, 1) := by decide +kernel
theorem dX5_cell_31 : decode cX5_cell 31 = .ok (.invokevirtual 215, 3) := by decide +kernel
theorem dX5_cell_34 : decode cX5_cell 34 = .ok (.putfield 68, 3) := by decide +kernel
theorem dX5_cell_37 : decode cX5_cell 37 = .ok (.aload_n 0, 1) := by decide +kernel
theorem dX5_cell_38 : decode cX5_cell 38 = .ok (.getfield 68, 3) := by decide +kernel
theorem dX5_cell_41 : decode cX5_cell 41 = .ok (.ifCond .ne 17, 3) := by decide +kernel
theorem dX5_cell_44 : decode cX5_cell 44 = .ok (.aload_n 0, 1) := by decide +kernel
theorem dX5_cell_45 : decode cX5_cell 45 = .ok (.aload_n 0, 1) := by decide +kernel
theorem dX5_cell_46 : decode cX5_cell 46 = .ok (.getfield 59, 3) := by decide +kernel
theorem dX5_cell_49 : decode cX5_cell 49 = .ok (.iload_n 1, 1) := by decide +kernel
theorem dX5_cell_50 : decode cX5_cell 50 = .ok (.aaload, 1) := by decide +kernel
theorem dX5_cell_51 : decode cX5_cell 51 = .ok (.iload_n 2, 1) := by decide +kernel
theorem dX5_cell_52 : decode cX5_cell 52 = .ok (.invokevirtual 209, 3) := by decide +kernel
theorem dX5_cell_55 : decode cX5_cell 55 = .ok (.putfield 68, 3) := by decide +kernel
theorem dX5_cell_58 : decode cX5_cell 58 = .ok (.aload_n 0, 1) := by decide +kernel
theorem dX5_cell_59 : decode cX5_cell 59 = .ok (.getfield 68, 3) := by decide +kernel
theorem dX5_cell_62 : decode cX5_cell 62 = .ok (.ifCond .ne 18, 3) := by decide +kernel
theorem dX5_cell_65 : decode cX5_cell 65 = .ok (.aload_n 0, 1) := by decide +kernel
theorem dX5_cell_66 : decode cX5_cell 66 = .ok (.getfield 59, 3) := by decide +kernel
theorem dX5_cell_69 : decode cX5_cell 69 = .ok (.iload_n 1, 1) := by decide +kernel
theorem dX5_cell_70 : decode cX5_cell 70 = .ok (.aaload, 1) := by decide +kernel
theorem dX5_cell_71 : decode cX5_cell 71 = .ok (.getfield 86, 3) := by decide +kernel
theorem dX5_cell_74 : decode cX5_cell 74 = .ok (.iload_n 2, 1) := by decide +kernel
theorem dX5_cell_75 : decode cX5_cell 75 = .ok (.iaload, 1) := by decide +kernel
theorem dX5_cell_76 : decode cX5_cell 76 = .ok (.i2l, 1) := by decide +kernel
theorem dX5_cell_77 : decode cX5_cell 77 = .ok (.goto 6, 3) := by decide +kernel
theorem dX5_cell_80 : decode cX5_cell 80 = .ok (.ldc2_w 195, 3) := by decide +kernel
theorem dX5_cell_83 : decode cX5_cell 83 = .ok (.lreturn, 1) := by decide +kernel
theorem dX5_copy_0 : decode cX5_copy 0 = .ok (.aload_n 0, 1) := by decide +kernel
theorem dX5_copy_1 : decode cX5_copy 1 = .ok (.iconst 0, 1) := by decide +kernel
theorem dX5_copy_2 : decode cX5_copy 2 = .ok (.putfield 68, 3) := by decide +kernel
theorem dX5_copy_5 : decode cX5_copy 5 = .ok (.iload_n 1, 1) := by decide +kernel
theorem dX5_copy_6 : decode cX5_copy 6 = .ok (.invokestatic 71, 3) := by decide +kernel
theorem dX5_copy_9 : decode cX5_copy 9 = .ok (.ifCond .eq 10, 3) := by decide +kernel
theorem dX5_copy_12 : decode cX5_copy 12 = .ok (.iload_n 3, 1) := by decide +kernel
theorem dX5_copy_13 : decode cX5_copy 13 = .ok (.invokestatic 71, 3) := by decide +kernel
theorem dX5_copy_16 : decode cX5_copy 16 = .ok (.ifCond .ne 5, 3) := by decide +kernel
theorem dX5_copy_19 : decode cX5_copy 19 = .ok (.iconst (-1), 1) := by decide +kernel
theorem dX5_copy_20 : decode cX5_copy 20 = .ok (.ireturn, 1) := by decide +kernel
theorem dX5_copy_21 : decode cX5_copy 21 = .ok (.aload_n 0, 1) := by decide +kernel
theorem dX5_copy_22 : decode cX5_copy 22 = .ok (.aload_n 0, 1) := by decide +kernel
theorem dX5_copy_23 : decode cX5_copy 23 = .ok (.getfield 59, 3) := by decide +kernel
theorem dX5_copy_26 : decode cX5_copy 26 = .ok (.iload_n 1, 1) := by decide +kernel
theorem dX5_copy_27 : decode cX5_copy 27 = .ok (.aaload, 1) := by decide +kernel
theorem dX5_copy_28 : decode cX5_copy 28 = .ok (.iload_n 2, 1) := by decide +kernel
theorem dX5_copy_29 : decode cX5_copy 29 = .ok (.aload_n 0, 1) := by decide +kernel
theorem dX5_copy_30 : decode cX5_copy 30 = .ok (.getfield 59, 3) := by decide +kernel
theorem dX5_copy_33 : decode cX5_copy 33 = .ok (.iload_n 3, 1) := by decide +kernel
theorem dX5_copy_34 : decode cX5_copy 34 = .ok (.aaload, 1) := by decide +kernel
theorem dX5_copy_35 : decode cX5_copy 35 = .ok (.iload 4, 2) := by decide +kernel
theorem dX5_copy_37 : decode cX5_copy 37 = .ok (.iload 5, 2) := by decide +kernel
theorem dX5_copy_39 : decode cX5_copy 39 = .ok (.invokestatic 218, 3) := by decide +kernel
theorem dX5_copy_42 : decode cX5_copy 42 = .ok (.putfield 68, 3) := by decide +kernel
theorem dX5_copy_45 : decode cX5_copy 45 = .ok (.aload_n 0, 1) := by decide +kernel
theorem dX5_copy_46 : decode cX5_copy 46 = .ok (.getfield 68, 3) := by decide +kernel
theorem dX5_copy_49 : decode cX5_copy 49 = .ok (.ifCond .eq 8, 3) := by decide +kernel
theorem dX5_copy_52 : decode cX5_copy 52 = .ok (.aload_n 0, 1) := by decide +kernel
theorem dX5_copy_53 : decode cX5_copy 53 = .ok (.invokevirtual 82, 3) := by decide +kernel
theorem dX5_copy_56 : decode cX5_copy 56 = .ok (.ireturn, 1) := by decide +kernel
theorem dX5_copy_57 : decode cX5_copy 57 = .ok (.aload_n 0, 1) := by decide +kernel
theorem dX5_copy_58 : decode cX5_copy 58 = .ok (.getfield 59, 3) := by decide +kernel
theorem dX5_copy_61 : decode cX5_copy 61 = .ok (.iload_n 1, 1) := by decide +kernel
theorem dX5_copy_62 : decode cX5_copy 62 = .ok (.aaload, 1) := by decide +kernel
theorem dX5_copy_63 : decode cX5_copy 63 = .ok (.getfield 86, 3) := by decide +kernel
theorem dX5_copy_66 : decode cX5_copy 66 = .ok (.iload_n 2, 1) := by decide +kernel
theorem dX5_copy_67 : decode cX5_copy 67 = .ok (.aload_n 0, 1) := by decide +kernel
theorem dX5_copy_68 : decode cX5_copy 68 = .ok (.getfield 59, 3) := by decide +kernel
theorem dX5_copy_71 : decode cX5_copy 71 = .ok (.iload_n 3, 1) := by decide +kernel
theorem dX5_copy_72 : decode cX5_copy 72 = .ok (.aaload, 1) := by decide +kernel
theorem dX5_copy_73 : decode cX5_copy 73 = .ok (.getfield 86, 3) := by decide +kernel
theorem dX5_copy_76 : decode cX5_copy 76 = .ok (.iload 4, 2) := by decide +kernel
theorem dX5_copy_78 : decode cX5_copy 78 = .ok (.iload 5, 2) := by decide +kernel
theorem dX5_copy_80 : decode cX5_copy 80 = .ok (.invokestatic 222, 3) := by decide +kernel
theorem dX5_copy_83 : decode cX5_copy 83 = .ok (.iload 5, 2) := by decide +kernel
theorem dX5_copy_85 : decode cX5_copy 85 = .ok (.ireturn, 1) := by decide +kernel
theorem dX5_faultOfCopy_0 : decode cX5_faultOfCopy 0 = .ok (.aload_n 0, 1) := by decide +kernel
theorem dX5_faultOfCopy_1 : decode cX5_faultOfCopy 1 = .ok (.invokevirtual 228, 3) := by decide +kernel
theorem dX5_faultOfCopy_4 : decode cX5_faultOfCopy 4 = .ok (.ifCond .ne 10, 3) := by decide +kernel
theorem dX5_faultOfCopy_7 : decode cX5_faultOfCopy 7 = .ok (.aload_n 2, 1) := by decide +kernel
theorem dX5_faultOfCopy_8 : decode cX5_faultOfCopy 8 = .ok (.invokevirtual 228, 3) := by decide +kernel
theorem dX5_faultOfCopy_11 : decode cX5_faultOfCopy 11 = .ok (.ifCond .eq 5, 3) := by decide +kernel
theorem dX5_faultOfCopy_14 : decode cX5_faultOfCopy 14 = .ok (.iconst 1, 1) := by decide +kernel
theorem dX5_faultOfCopy_15 : decode cX5_faultOfCopy 15 = .ok (.ireturn, 1) := by decide +kernel
theorem dX5_faultOfCopy_16 : decode cX5_faultOfCopy 16 = .ok (.aload_n 0, 1) := by decide +kernel
theorem dX5_faultOfCopy_17 : decode cX5_faultOfCopy 17 = .ok (.getfield 231, 3) := by decide +kernel
theorem dX5_faultOfCopy_20 : decode cX5_faultOfCopy 20 = .ok (.aload_n 2, 1) := by decide +kernel
theorem dX5_faultOfCopy_21 : decode cX5_faultOfCopy 21 = .ok (.getfield 231, 3) := by decide +kernel
theorem dX5_faultOfCopy_24 : decode cX5_faultOfCopy 24 = .ok (.if_icmp .eq 5, 3) := by decide +kernel
theorem dX5_faultOfCopy_27 : decode cX5_faultOfCopy 27 = .ok (.iconst 2, 1) := by decide +kernel
theorem dX5_faultOfCopy_28 : decode cX5_faultOfCopy 28 = .ok (.ireturn, 1) := by decide +kernel
theorem dX5_faultOfCopy_29 : decode cX5_faultOfCopy 29 = .ok (.aload_n 0, 1) := by decide +kernel
theorem dX5_faultOfCopy_30 : decode cX5_faultOfCopy 30 = .ok (.iload_n 1, 1) := by decide +kernel
theorem dX5_faultOfCopy_31 : decode cX5_faultOfCopy 31 = .ok (.iload 4, 2) := by decide +kernel
theorem dX5_faultOfCopy_33 : decode cX5_faultOfCopy 33 = .ok (.invokevirtual 234, 3) := by decide +kernel
theorem dX5_faultOfCopy_36 : decode cX5_faultOfCopy 36 = .ok (.ifCond .eq 17, 3) := by decide +kernel
theorem dX5_faultOfCopy_39 : decode cX5_faultOfCopy 39 = .ok (.aload_n 2, 1) := by decide +kernel
theorem dX5_faultOfCopy_40 : decode cX5_faultOfCopy 40 = .ok (.iload_n 3, 1) := by decide +kernel
theorem dX5_faultOfCopy_41 : decode cX5_faultOfCopy 41 = .ok (.iload 4, 2) := by decide +kernel
theorem dX5_faultOfCopy_43 : decode cX5_faultOfCopy 43 = .ok (.invokevirtual 234, 3) := by decide +kernel
theorem dX5_faultOfCopy_46 : decode cX5_faultOfCopy 46 = .ok (.ifCond .eq 7, 3) := by decide +kernel
theorem dX5_faultOfCopy_49 : decode cX5_faultOfCopy 49 = .ok (.iconst 0, 1) := by decide +kernel
theorem dX5_faultOfCopy_50 : decode cX5_faultOfCopy 50 = .ok (.goto 4, 3) := by decide +kernel
theorem dX5_faultOfCopy_53 : decode cX5_faultOfCopy 53 = .ok (.iconst 3, 1) := by decide +kernel
theorem dX5_faultOfCopy_54 : decode cX5_faultOfCopy 54 = .ok (.ireturn, 1) := by decide +kernel
theorem dX5_tell_0 : decode cX5_tell 0 = .ok (.aload_n 0, 1) := by decide +kernel
theorem dX5_tell_1 : decode cX5_tell 1 = .ok (.getfield 12, 3) := by decide +kernel
theorem dX5_tell_4 : decode cX5_tell 4 = .ok (.iload_n 1, 1) := by decide +kernel
theorem dX5_tell_5 : decode cX5_tell 5 = .ok (.invokevirtual 103, 3) := by decide +kernel
theorem dX5_tell_8 : decode cX5_tell 8 = .ok (.ifCond .ne 5, 3) := by decide +kernel
theorem dX5_tell_11 : decode cX5_tell 11 = .ok (.iconst (-1), 1) := by decide +kernel
theorem dX5_tell_12 : decode cX5_tell 12 = .ok (.ireturn, 1) := by decide +kernel
theorem dX5_tell_13 : decode cX5_tell 13 = .ok (.aload_n 0, 1) := by decide +kernel
theorem dX5_tell_14 : decode cX5_tell 14 = .ok (.getfield 12, 3) := by decide +kernel
theorem dX5_tell_17 : decode cX5_tell 17 = .ok (.getfield 106, 3) := by decide +kernel
theorem dX5_tell_20 : decode cX5_tell 20 = .ok (.iload_n 1, 1) := by decide +kernel
theorem dX5_tell_21 : decode cX5_tell 21 = .ok (.iaload, 1) := by decide +kernel
theorem dX5_tell_22 : decode cX5_tell 22 = .ok (.lookupswitch 38 #[(1, 26), (2, 32)], 26) := by decide +kernel
theorem dX5_tell_48 : decode cX5_tell 48 = .ok (.aload_n 0, 1) := by decide +kernel
theorem dX5_tell_49 : decode cX5_tell 49 = .ok (.iload_n 1, 1) := by decide +kernel
theorem dX5_tell_50 : decode cX5_tell 50 = .ok (.invokevirtual 237, 3) := by decide +kernel
theorem dX5_tell_53 : decode cX5_tell 53 = .ok (.ireturn, 1) := by decide +kernel
theorem dX5_tell_54 : decode cX5_tell 54 = .ok (.aload_n 0, 1) := by decide +kernel
theorem dX5_tell_55 : decode cX5_tell 55 = .ok (.iload_n 1, 1) := by decide +kernel
theorem dX5_tell_56 : decode cX5_tell 56 = .ok (.invokevirtual 240, 3) := by decide +kernel
theorem dX5_tell_59 : decode cX5_tell 59 = .ok (.ireturn, 1) := by decide +kernel
theorem dX5_tell_60 : decode cX5_tell 60 = .ok (.aload_n 0, 1) := by decide +kernel
theorem dX5_tell_61 : decode cX5_tell 61 = .ok (.iload_n 1, 1) := by decide +kernel
theorem dX5_tell_62 : decode cX5_tell 62 = .ok (.invokevirtual 243, 3) := by decide +kernel
theorem dX5_tell_65 : decode cX5_tell 65 = .ok (.ireturn, 1) := by decide +kernel
theorem dX5_tellAsChair_0 : decode cX5_tellAsChair 0 = .ok (.aload_n 0, 1) := by decide +kernel
theorem dX5_tellAsChair_1 : decode cX5_tellAsChair 1 = .ok (.iconst 1, 1) := by decide +kernel
theorem dX5_tellAsChair_2 : decode cX5_tellAsChair 2 = .ok (.invokevirtual 246, 3) := by decide +kernel
theorem dX5_tellAsChair_5 : decode cX5_tellAsChair 5 = .ok (.aload_n 0, 1) := by decide +kernel
theorem dX5_tellAsChair_6 : decode cX5_tellAsChair 6 = .ok (.getfield 12, 3) := by decide +kernel
theorem dX5_tellAsChair_9 : decode cX5_tellAsChair 9 = .ok (.getfield 112, 3) := by decide +kernel
theorem dX5_tellAsChair_12 : decode cX5_tellAsChair 12 = .ok (.iload_n 1, 1) := by decide +kernel
theorem dX5_tellAsChair_13 : decode cX5_tellAsChair 13 = .ok (.iaload, 1) := by decide +kernel
theorem dX5_tellAsChair_14 : decode cX5_tellAsChair 14 = .ok (.ireturn, 1) := by decide +kernel
theorem dX5_tellAsBench_0 : decode cX5_tellAsBench 0 = .ok (.aload_n 0, 1) := by decide +kernel
theorem dX5_tellAsBench_1 : decode cX5_tellAsBench 1 = .ok (.iconst 2, 1) := by decide +kernel
theorem dX5_tellAsBench_2 : decode cX5_tellAsBench 2 = .ok (.invokevirtual 246, 3) := by decide +kernel
theorem dX5_tellAsBench_5 : decode cX5_tellAsBench 5 = .ok (.aload_n 0, 1) := by decide +kernel
theorem dX5_tellAsBench_6 : decode cX5_tellAsBench 6 = .ok (.iload_n 1, 1) := by decide +kernel
theorem dX5_tellAsBench_7 : decode cX5_tellAsBench 7 = .ok (.invokevirtual 243, 3) := by decide +kernel
theorem dX5_tellAsBench_10 : decode cX5_tellAsBench 10 = .ok (.bipush 100, 2) := by decide +kernel
theorem dX5_tellAsBench_12 : decode cX5_tellAsBench 12 = .ok (.iadd, 1) := by decide +kernel
theorem dX5_tellAsBench_13 : decode cX5_tellAsBench 13 = .ok (.ireturn, 1) := by decide +kernel
theorem dX5_tellAsThrone_0 : decode cX5_tellAsThrone 0 = .ok (.aload_n 0, 1) := by decide +kernel
theorem dX5_tellAsThrone_1 : decode cX5_tellAsThrone 1 = .ok (.iconst 3, 1) := by decide +kernel
theorem dX5_tellAsThrone_2 : decode cX5_tellAsThrone 2 = .ok (.invokevirtual 246, 3) := by decide +kernel
theorem dX5_tellAsThrone_5 : decode cX5_tellAsThrone 5 = .ok (.aload_n 0, 1) := by decide +kernel
theorem dX5_tellAsThrone_6 : decode cX5_tellAsThrone 6 = .ok (.iload_n 1, 1) := by decide +kernel
theorem dX5_tellAsThrone_7 : decode cX5_tellAsThrone 7 = .ok (.invokevirtual 237, 3) := by decide +kernel
theorem dX5_tellAsThrone_10 : decode cX5_tellAsThrone 10 = .ok (.istore_n 2, 1) := by decide +kernel
theorem dX5_tellAsThrone_11 : decode cX5_tellAsThrone 11 = .ok (.iload_n 2, 1) := by decide +kernel
theorem dX5_tellAsThrone_12 : decode cX5_tellAsThrone 12 = .ok (.aload_n 0, 1) := by decide +kernel
theorem dX5_tellAsThrone_13 : decode cX5_tellAsThrone 13 = .ok (.iload_n 1, 1) := by decide +kernel
theorem dX5_tellAsThrone_14 : decode cX5_tellAsThrone 14 = .ok (.invokevirtual 243, 3) := by decide +kernel
theorem dX5_tellAsThrone_17 : decode cX5_tellAsThrone 17 = .ok (.iadd, 1) := by decide +kernel
theorem dX5_tellAsThrone_18 : decode cX5_tellAsThrone 18 = .ok (.ireturn, 1) := by decide +kernel
theorem dX5_creak_0 : decode cX5_creak 0 = .ok (.aload_n 0, 1) := by decide +kernel
theorem dX5_creak_1 : decode cX5_creak 1 = .ok (.getfield 12, 3) := by decide +kernel
theorem dX5_creak_4 : decode cX5_creak 4 = .ok (.iload_n 1, 1) := by decide +kernel
theorem dX5_creak_5 : decode cX5_creak 5 = .ok (.invokevirtual 103, 3) := by decide +kernel
theorem dX5_creak_8 : decode cX5_creak 8 = .ok (.ifCond .ne 5, 3) := by decide +kernel
theorem dX5_creak_11 : decode cX5_creak 11 = .ok (.iconst (-1), 1) := by decide +kernel
theorem dX5_creak_12 : decode cX5_creak 12 = .ok (.ireturn, 1) := by decide +kernel
theorem dX5_creak_13 : decode cX5_creak 13 = .ok (.aload_n 0, 1) := by decide +kernel
theorem dX5_creak_14 : decode cX5_creak 14 = .ok (.getfield 12, 3) := by decide +kernel
theorem dX5_creak_17 : decode cX5_creak 17 = .ok (.getfield 106, 3) := by decide +kernel
theorem dX5_creak_20 : decode cX5_creak 20 = .ok (.iload_n 1, 1) := by decide +kernel
theorem dX5_creak_21 : decode cX5_creak 21 = .ok (.iaload, 1) := by decide +kernel
theorem dX5_creak_22 : decode cX5_creak 22 = .ok (.iconst 2, 1) := by decide +kernel
theorem dX5_creak_23 : decode cX5_creak 23 = .ok (.if_icmp .ne 11, 3) := by decide +kernel
theorem dX5_creak_26 : decode cX5_creak 26 = .ok (.aload_n 0, 1) := by decide +kernel
theorem dX5_creak_27 : decode cX5_creak 27 = .ok (.iconst 5, 1) := by decide +kernel
theorem dX5_creak_28 : decode cX5_creak 28 = .ok (.invokevirtual 246, 3) := by decide +kernel
theorem dX5_creak_31 : decode cX5_creak 31 = .ok (.bipush 60, 2) := by decide +kernel
theorem dX5_creak_33 : decode cX5_creak 33 = .ok (.ireturn, 1) := by decide +kernel
theorem dX5_creak_34 : decode cX5_creak 34 = .ok (.aload_n 0, 1) := by decide +kernel
theorem dX5_creak_35 : decode cX5_creak 35 = .ok (.iconst 4, 1) := by decide +kernel
theorem dX5_creak_36 : decode cX5_creak 36 = .ok (.invokevirtual 246, 3) := by decide +kernel
theorem dX5_creak_39 : decode cX5_creak 39 = .ok (.iload_n 1, 1) := by decide +kernel
theorem dX5_creak_40 : decode cX5_creak 40 = .ok (.ireturn, 1) := by decide +kernel
theorem dX5_leaveTrace_0 : decode cX5_leaveTrace 0 = .ok (.aload_n 0, 1) := by decide +kernel
theorem dX5_leaveTrace_1 : decode cX5_leaveTrace 1 = .ok (.bipush 31, 2) := by decide +kernel
theorem dX5_leaveTrace_3 : decode cX5_leaveTrace 3 = .ok (.aload_n 0, 1) := by decide +kernel
theorem dX5_leaveTrace_4 : decode cX5_leaveTrace 4 = .ok (.getfield 64, 3) := by decide +kernel
theorem dX5_leaveTrace_7 : decode cX5_leaveTrace 7 = .ok (.imul, 1) := by decide +kernel
theorem dX5_leaveTrace_8 : decode cX5_leaveTrace 8 = .ok (.iload_n 1, 1) := by decide +kernel
theorem dX5_leaveTrace_9 : decode cX5_leaveTrace 9 = .ok (.iadd, 1) := by decide +kernel
theorem dX5_leaveTrace_10 : decode cX5_leaveTrace 10 = .ok (.putfield 64, 3) := by decide +kernel
theorem dX5_leaveTrace_13 : decode cX5_leaveTrace 13 = .ok (.return_, 1) := by decide +kernel
theorem dX5_as_0 : decode cX5_as 0 = .ok (.aload_n 0, 1) := by decide +kernel
theorem dX5_as_1 : decode cX5_as 1 = .ok (.iconst 0, 1) := by decide +kernel
theorem dX5_as_2 : decode cX5_as 2 = .ok (.putfield 68, 3) := by decide +kernel
theorem dX5_as_5 : decode cX5_as 5 = .ok (.aload_n 0, 1) := by decide +kernel
theorem dX5_as_6 : decode cX5_as 6 = .ok (.getfield 12, 3) := by decide +kernel
theorem dX5_as_9 : decode cX5_as 9 = .ok (.iload_n 1, 1) := by decide +kernel
theorem dX5_as_10 : decode cX5_as 10 = .ok (.invokevirtual 103, 3) := by decide +kernel
theorem dX5_as_13 : decode cX5_as 13 = .ok (.ifCond .ne 5, 3) := by decide +kernel
theorem dX5_as_16 : decode cX5_as 16 = .ok (.iconst (-1), 1) := by decide +kernel
theorem dX5_as_17 : decode cX5_as 17 = .ok (.ireturn, 1) := by decide +kernel
theorem dX5_as_18 : decode cX5_as 18 = .ok (.iload_n 2, 1) := by decide +kernel
theorem dX5_as_19 : decode cX5_as 19 = .ok (.ifCond .lt 8, 3) := by decide +kernel
theorem dX5_as_22 : decode cX5_as 22 = .ok (.iload_n 2, 1) := by decide +kernel
theorem dX5_as_23 : decode cX5_as 23 = .ok (.iconst 3, 1) := by decide +kernel
theorem dX5_as_24 : decode cX5_as 24 = .ok (.if_icmp .lt 6, 3) := by decide +kernel
theorem dX5_as_27 : decode cX5_as 27 = .ok (.bipush (-2), 2) := by decide +kernel
theorem dX5_as_29 : decode cX5_as 29 = .ok (.ireturn, 1) := by decide +kernel
theorem dX5_as_30 : decode cX5_as 30 = .ok (.iload_n 2, 1) := by decide +kernel
theorem dX5_as_31 : decode cX5_as 31 = .ok (.aload_n 0, 1) := by decide +kernel
theorem dX5_as_32 : decode cX5_as 32 = .ok (.getfield 12, 3) := by decide +kernel
theorem dX5_as_35 : decode cX5_as 35 = .ok (.getfield 106, 3) := by decide +kernel
theorem dX5_as_38 : decode cX5_as 38 = .ok (.iload_n 1, 1) := by decide +kernel
theorem dX5_as_39 : decode cX5_as 39 = .ok (.iaload, 1) := by decide +kernel
theorem dX5_as_40 : decode cX5_as 40 = .ok (.if_icmp .le 13, 3) := by decide +kernel
theorem dX5_as_43 : decode cX5_as 43 = .ok (.aload_n 0, 1) := by decide +kernel
theorem dX5_as_44 : decode cX5_as 44 = .ok (.iconst 2, 1) := by decide +kernel
theorem dX5_as_45 : decode cX5_as 45 = .ok (.putfield 68, 3) := by decide +kernel
theorem dX5_as_48 : decode cX5_as 48 = .ok (.aload_n 0, 1) := by decide +kernel
theorem dX5_as_49 : decode cX5_as 49 = .ok (.invokevirtual 82, 3) := by decide +kernel
theorem dX5_as_52 : decode cX5_as 52 = .ok (.ireturn, 1) := by decide +kernel
theorem dX5_as_53 : decode cX5_as 53 = .ok (.iconst 1, 1) := by decide +kernel
theorem dX5_as_54 : decode cX5_as 54 = .ok (.ireturn, 1) := by decide +kernel
theorem dX5_trace_0 : decode cX5_trace 0 = .ok (.aload_n 0, 1) := by decide +kernel
theorem dX5_trace_1 : decode cX5_trace 1 = .ok (.getfield 64, 3) := by decide +kernel
theorem dX5_trace_4 : decode cX5_trace 4 = .ok (.ireturn, 1) := by decide +kernel
theorem dX5_fault_0 : decode cX5_fault 0 = .ok (.aload_n 0, 1) := by decide +kernel
theorem dX5_fault_1 : decode cX5_fault 1 = .ok (.getfield 68, 3) := by decide +kernel
theorem dX5_fault_4 : decode cX5_fault 4 = .ok (.ireturn, 1) := by decide +kernel
theorem dX5_many_0 : decode cX5_many 0 = .ok (.iload_n 1, 1) := by decide +kernel
theorem dX5_many_1 : decode cX5_many 1 = .ok (.tableswitch 75 0 4 #[35, 43, 51, 59, 67], 35) := by decide +kernel
theorem dX5_many_36 : decode cX5_many 36 = .ok (.aload_n 0, 1) := by decide +kernel
theorem dX5_many_37 : decode cX5_many 37 = .ok (.getfield 12, 3) := by decide +kernel
theorem dX5_many_40 : decode cX5_many 40 = .ok (.getfield 100, 3) := by decide +kernel
theorem dX5_many_43 : decode cX5_many 43 = .ok (.ireturn, 1) := by decide +kernel
theorem dX5_many_44 : decode cX5_many 44 = .ok (.aload_n 0, 1) := by decide +kernel
theorem dX5_many_45 : decode cX5_many 45 = .ok (.getfield 12, 3) := by decide +kernel
theorem dX5_many_48 : decode cX5_many 48 = .ok (.getfield 172, 3) := by decide +kernel
theorem dX5_many_51 : decode cX5_many 51 = .ok (.ireturn, 1) := by decide +kernel
theorem dX5_many_52 : decode cX5_many 52 = .ok (.aload_n 0, 1) := by decide +kernel
theorem dX5_many_53 : decode cX5_many 53 = .ok (.getfield 21, 3) := by decide +kernel
theorem dX5_many_56 : decode cX5_many 56 = .ok (.getfield 97, 3) := by decide +kernel
theorem dX5_many_59 : decode cX5_many 59 = .ok (.ireturn, 1) := by decide +kernel
theorem dX5_many_60 : decode cX5_many 60 = .ok (.aload_n 0, 1) := by decide +kernel
theorem dX5_many_61 : decode cX5_many 61 = .ok (.getfield 25, 3) := by decide +kernel
theorem dX5_many_64 : decode cX5_many 64 = .ok (.getfield 97, 3) := by decide +kernel
theorem dX5_many_67 : decode cX5_many 67 = .ok (.ireturn, 1) := by decide +kernel
theorem dX5_many_68 : decode cX5_many 68 = .ok (.aload_n 0, 1) := by decide +kernel
theorem dX5_many_69 : decode cX5_many 69 = .ok (.getfield 28, 3) := by decide +kernel
theorem dX5_many_72 : decode cX5_many 72 = .ok (.getfield 97, 3) := by decide +kernel
theorem dX5_many_75 : decode cX5_many 75 = .ok (.ireturn, 1) := by decide +kernel
theorem dX5_many_76 : decode cX5_many 76 = .ok (.bipush (-2), 2) := by decide +kernel
theorem dX5_many_78 : decode cX5_many 78 = .ok (.ireturn, 1) := by decide +kernel
theorem dX5_faultAnswer_0 : decode cX5_faultAnswer 0 = .ok (.bipush (-10), 2) := by decide +kernel
theorem dX5_faultAnswer_2 : decode cX5_faultAnswer 2 = .ok (.aload_n 0, 1) := by decide +kernel
theorem dX5_faultAnswer_3 : decode cX5_faultAnswer 3 = .ok (.getfield 68, 3) := by decide +kernel
theorem dX5_faultAnswer_6 : decode cX5_faultAnswer 6 = .ok (.isub, 1) := by decide +kernel
theorem dX5_faultAnswer_7 : decode cX5_faultAnswer 7 = .ok (.ireturn, 1) := by decide +kernel
theorem dX5_isSheet_0 : decode cX5_isSheet 0 = .ok (.iload_n 0, 1) := by decide +kernel
theorem dX5_isSheet_1 : decode cX5_isSheet 1 = .ok (.ifCond .lt 12, 3) := by decide +kernel
theorem dX5_isSheet_4 : decode cX5_isSheet 4 = .ok (.iload_n 0, 1) := by decide +kernel
theorem dX5_isSheet_5 : decode cX5_isSheet 5 = .ok (.iconst 4, 1) := by decide +kernel
theorem dX5_isSheet_6 : decode cX5_isSheet 6 = .ok (.if_icmp .ge 7, 3) := by decide +kernel
theorem dX5_isSheet_9 : decode cX5_isSheet 9 = .ok (.iconst 1, 1) := by decide +kernel
theorem dX5_isSheet_10 : decode cX5_isSheet 10 = .ok (.goto 4, 3) := by decide +kernel
theorem dX5_isSheet_13 : decode cX5_isSheet 13 = .ok (.iconst 0, 1) := by decide +kernel
theorem dX5_isSheet_14 : decode cX5_isSheet 14 = .ok (.ireturn, 1) := by decide +kernel
theorem dX5_isLane_0 : decode cX5_isLane 0 = .ok (.iload_n 0, 1) := by decide +kernel
theorem dX5_isLane_1 : decode cX5_isLane 1 = .ok (.ifCond .lt 12, 3) := by decide +kernel
theorem dX5_isLane_4 : decode cX5_isLane 4 = .ok (.iload_n 0, 1) := by decide +kernel
theorem dX5_isLane_5 : decode cX5_isLane 5 = .ok (.iconst 3, 1) := by decide +kernel
theorem dX5_isLane_6 : decode cX5_isLane 6 = .ok (.if_icmp .ge 7, 3) := by decide +kernel
theorem dX5_isLane_9 : decode cX5_isLane 9 = .ok (.iconst 1, 1) := by decide +kernel
theorem dX5_isLane_10 : decode cX5_isLane 10 = .ok (.goto 4, 3) := by decide +kernel
theorem dX5_isLane_13 : decode cX5_isLane 13 = .ok (.iconst 0, 1) := by decide +kernel
theorem dX5_isLane_14 : decode cX5_isLane 14 = .ok (.ireturn, 1) := by decide +kernel
theorem dX5_isDinner_0 : decode cX5_isDinner 0 = .ok (.iload_n 0, 1) := by decide +kernel
theorem dX5_isDinner_1 : decode cX5_isDinner 1 = .ok (.ifCond .lt 13, 3) := by decide +kernel
theorem dX5_isDinner_4 : decode cX5_isDinner 4 = .ok (.iload_n 0, 1) := by decide +kernel
theorem dX5_isDinner_5 : decode cX5_isDinner 5 = .ok (.bipush 20, 2) := by decide +kernel
theorem dX5_isDinner_7 : decode cX5_isDinner 7 = .ok (.if_icmp .ge 7, 3) := by decide +kernel
theorem dX5_isDinner_10 : decode cX5_isDinner 10 = .ok (.iconst 1, 1) := by decide +kernel
theorem dX5_isDinner_11 : decode cX5_isDinner 11 = .ok (.goto 4, 3) := by decide +kernel
theorem dX5_isDinner_14 : decode cX5_isDinner 14 = .ok (.iconst 0, 1) := by decide +kernel
theorem dX5_isDinner_15 : decode cX5_isDinner 15 = .ok (.ireturn, 1) := by decide +kernel
theorem dX6_init_0 : decode cX6_init 0 = .ok (.aload_n 0, 1) := by decide +kernel
theorem dX6_init_1 : decode cX6_init 1 = .ok (.invokespecial 1, 3) := by decide +kernel
theorem dX6_init_4 : decode cX6_init 4 = .ok (.aload_n 0, 1) := by decide +kernel
theorem dX6_init_5 : decode cX6_init 5 = .ok (.iconst 4, 1) := by decide +kernel
theorem dX6_init_6 : decode cX6_init 6 = .ok (.newarray .int, 2) := by decide +kernel
theorem dX6_init_8 : decode cX6_init 8 = .ok (.dup, 1) := by decide +kernel
theorem dX6_init_9 : decode cX6_init 9 = .ok (.iconst 0, 1) := by decide +kernel
theorem dX6_init_10 : decode cX6_init 10 = .ok (.bipush (-9), 2) := by decide +kernel
theorem dX6_init_12 : decode cX6_init 12 = .ok (.iastore, 1) := by decide +kernel
theorem dX6_init_13 : decode cX6_init 13 = .ok (.dup, 1) := by decide +kernel
theorem dX6_init_14 : decode cX6_init 14 = .ok (.iconst 1, 1) := by decide +kernel
theorem dX6_init_15 : decode cX6_init 15 = .ok (.bipush (-9), 2) := by decide +kernel
theorem dX6_init_17 : decode cX6_init 17 = .ok (.iastore, 1) := by decide +kernel
theorem dX6_init_18 : decode cX6_init 18 = .ok (.dup, 1) := by decide +kernel
theorem dX6_init_19 : decode cX6_init 19 = .ok (.iconst 2, 1) := by decide +kernel
theorem dX6_init_20 : decode cX6_init 20 = .ok (.bipush (-9), 2) := by decide +kernel
theorem dX6_init_22 : decode cX6_init 22 = .ok (.iastore, 1) := by decide +kernel
theorem dX6_init_23 : decode cX6_init 23 = .ok (.dup, 1) := by decide +kernel
theorem dX6_init_24 : decode cX6_init 24 = .ok (.iconst 3, 1) := by decide +kernel
theorem dX6_init_25 : decode cX6_init 25 = .ok (.bipush (-9), 2) := by decide +kernel
theorem dX6_init_27 : decode cX6_init 27 = .ok (.iastore, 1) := by decide +kernel
theorem dX6_init_28 : decode cX6_init 28 = .ok (.putfield 9, 3) := by decide +kernel
theorem dX6_init_31 : decode cX6_init 31 = .ok (.aload_n 0, 1) := by decide +kernel
theorem dX6_init_32 : decode cX6_init 32 = .ok (.iconst 4, 1) := by decide +kernel
theorem dX6_init_33 : decode cX6_init 33 = .ok (.newarray .int, 2) := by decide +kernel
theorem dX6_init_35 : decode cX6_init 35 = .ok (.putfield 13, 3) := by decide +kernel
theorem dX6_init_38 : decode cX6_init 38 = .ok (.aload_n 0, 1) := by decide +kernel
theorem dX6_init_39 : decode cX6_init 39 = .ok (.sipush 240, 3) := by decide +kernel
theorem dX6_init_42 : decode cX6_init 42 = .ok (.newarray .int, 2) := by decide +kernel
theorem dX6_init_44 : decode cX6_init 44 = .ok (.putfield 16, 3) := by decide +kernel
theorem dX6_init_47 : decode cX6_init 47 = .ok (.aload_n 0, 1) := by decide +kernel
theorem dX6_init_48 : decode cX6_init 48 = .ok (.iconst 5, 1) := by decide +kernel
theorem dX6_init_49 : decode cX6_init 49 = .ok (.newarray .int, 2) := by decide +kernel
theorem dX6_init_51 : decode cX6_init 51 = .ok (.putfield 19, 3) := by decide +kernel
theorem dX6_init_54 : decode cX6_init 54 = .ok (.aload_n 0, 1) := by decide +kernel
theorem dX6_init_55 : decode cX6_init 55 = .ok (.iconst 5, 1) := by decide +kernel
theorem dX6_init_56 : decode cX6_init 56 = .ok (.newarray .int, 2) := by decide +kernel
theorem dX6_init_58 : decode cX6_init 58 = .ok (.putfield 22, 3) := by decide +kernel
theorem dX6_init_61 : decode cX6_init 61 = .ok (.aload_n 0, 1) := by decide +kernel
theorem dX6_init_62 : decode cX6_init 62 = .ok (.iconst 5, 1) := by decide +kernel
theorem dX6_init_63 : decode cX6_init 63 = .ok (.newarray .int, 2) := by decide +kernel
theorem dX6_init_65 : decode cX6_init 65 = .ok (.putfield 25, 3) := by decide +kernel
theorem dX6_init_68 : decode cX6_init 68 = .ok (.aload_n 0, 1) := by decide +kernel
theorem dX6_init_69 : decode cX6_init 69 = .ok (.bipush 8, 2) := by decide +kernel
theorem dX6_init_71 : decode cX6_init 71 = .ok (.newarray .int, 2) := by decide +kernel
theorem dX6_init_73 : decode cX6_init 73 = .ok (.putfield 28, 3) := by decide +kernel
theorem dX6_init_76 : decode cX6_init 76 = .ok (.aload_n 0, 1) := by decide +kernel
theorem dX6_init_77 : decode cX6_init 77 = .ok (.bipush 8, 2) := by decide +kernel
theorem dX6_init_79 : decode cX6_init 79 = .ok (.newarray .int, 2) := by decide +kernel
theorem dX6_init_81 : decode cX6_init 81 = .ok (.putfield 31, 3) := by decide +kernel
theorem dX6_init_84 : decode cX6_init 84 = .ok (.aload_n 0, 1) := by decide +kernel
theorem dX6_init_85 : decode cX6_init 85 = .ok (.bipush 8, 2) := by decide +kernel
theorem dX6_init_87 : decode cX6_init 87 = .ok (.newarray .int, 2) := by decide +kernel
theorem dX6_init_89 : decode cX6_init 89 = .ok (.putfield 34, 3) := by decide +kernel
theorem dX6_init_92 : decode cX6_init 92 = .ok (.aload_n 0, 1) := by decide +kernel
theorem dX6_init_93 : decode cX6_init 93 = .ok (.bipush 8, 2) := by decide +kernel
theorem dX6_init_95 : decode cX6_init 95 = .ok (.newarray .int, 2) := by decide +kernel
theorem dX6_init_97 : decode cX6_init 97 = .ok (.putfield 37, 3) := by decide +kernel
theorem dX6_init_100 : decode cX6_init 100 = .ok (.aload_n 0, 1) := by decide +kernel
theorem dX6_init_101 : decode cX6_init 101 = .ok (.bipush 8, 2) := by decide +kernel
theorem dX6_init_103 : decode cX6_init 103 = .ok (.newarray .int, 2) := by decide +kernel
theorem dX6_init_105 : decode cX6_init 105 = .ok (.putfield 40, 3) := by decide +kernel
theorem dX6_init_108 : decode cX6_init 108 = .ok (.aload_n 0, 1) := by decide +kernel
theorem dX6_init_109 : decode cX6_init 109 = .ok (.bipush 8, 2) := by decide +kernel
theorem dX6_init_111 : decode cX6_init 111 = .ok (.newarray .int, 2) := by decide +kernel
theorem dX6_init_113 : decode cX6_init 113 = .ok (.putfield 43, 3) := by decide +kernel
theorem dX6_init_116 : decode cX6_init 116 = .ok (.aload_n 0, 1) := by decide +kernel
theorem dX6_init_117 : decode cX6_init 117 = .ok (.bipush (-9), 2) := by decide +kernel
theorem dX6_init_119 : decode cX6_init 119 = .ok (.putfield 46, 3) := by decide +kernel
theorem dX6_init_122 : decode cX6_init 122 = .ok (.aload_n 0, 1) := by decide +kernel
theorem dX6_init_123 : decode cX6_init 123 = .ok (.bipush 15, 2) := by decide +kernel
theorem dX6_init_125 : decode cX6_init 125 = .ok (.newarray .int, 2) := by decide +kernel
theorem dX6_init_127 : decode cX6_init 127 = .ok (.putfield 50, 3) := by decide +kernel
theorem dX6_init_130 : decode cX6_init 130 = .ok (.aload_n 0, 1) := by decide +kernel
theorem dX6_init_131 : decode cX6_init 131 = .ok (.iconst 5, 1) := by decide +kernel
theorem dX6_init_132 : decode cX6_init 132 = .ok (.newarray .int, 2) := by decide +kernel
theorem dX6_init_134 : decode cX6_init 134 = .ok (.putfield 53, 3) := by decide +kernel
theorem dX6_init_137 : decode cX6_init 137 = .ok (.aload_n 0, 1) := by decide +kernel
theorem dX6_init_138 : decode cX6_init 138 = .ok (.bipush 32, 2) := by decide +kernel
theorem dX6_init_140 : decode cX6_init 140 = .ok (.newarray .boolean, 2) := by decide +kernel
theorem dX6_init_142 : decode cX6_init 142 = .ok (.putfield 56, 3) := by decide +kernel
theorem dX6_init_145 : decode cX6_init 145 = .ok (.aload_n 0, 1) := by decide +kernel
theorem dX6_init_146 : decode cX6_init 146 = .ok (.iconst 5, 1) := by decide +kernel
theorem dX6_init_147 : decode cX6_init 147 = .ok (.newarray .int, 2) := by decide +kernel
theorem dX6_init_149 : decode cX6_init 149 = .ok (.putfield 60, 3) := by decide +kernel
theorem dX6_init_152 : decode cX6_init 152 = .ok (.aload_n 0, 1) := by decide +kernel
theorem dX6_init_153 : decode cX6_init 153 = .ok (.iconst 5, 1) := by decide +kernel
theorem dX6_init_154 : decode cX6_init 154 = .ok (.newarray .int, 2) := by decide +kernel
theorem dX6_init_156 : decode cX6_init 156 = .ok (.putfield 63, 3) := by decide +kernel
theorem dX6_init_159 : decode cX6_init 159 = .ok (.aload_n 0, 1) := by decide +kernel
theorem dX6_init_160 : decode cX6_init 160 = .ok (.bipush 8, 2) := by decide +kernel
theorem dX6_init_162 : decode cX6_init 162 = .ok (.newarray .int, 2) := by decide +kernel
theorem dX6_init_164 : decode cX6_init 164 = .ok (.putfield 66, 3) := by decide +kernel
theorem dX6_init_167 : decode cX6_init 167 = .ok (.aload_n 0, 1) := by decide +kernel
theorem dX6_init_168 : decode cX6_init 168 = .ok (.bipush 8, 2) := by decide +kernel
theorem dX6_init_170 : decode cX6_init 170 = .ok (.newarray .int, 2) := by decide +kernel
theorem dX6_init_172 : decode cX6_init 172 = .ok (.putfield 69, 3) := by decide +kernel
theorem dX6_init_175 : decode cX6_init 175 = .ok (.aload_n 0, 1) := by decide +kernel
theorem dX6_init_176 : decode cX6_init 176 = .ok (.bipush 8, 2) := by decide +kernel
theorem dX6_init_178 : decode cX6_init 178 = .ok (.newarray .int, 2) := by decide +kernel
theorem dX6_init_180 : decode cX6_init 180 = .ok (.putfield 72, 3) := by decide +kernel
theorem dX6_init_183 : decode cX6_init 183 = .ok (.aload_n 0, 1) := by decide +kernel
theorem dX6_init_184 : decode cX6_init 184 = .ok (.bipush 8, 2) := by decide +kernel
theorem dX6_init_186 : decode cX6_init 186 = .ok (.newarray .boolean, 2) := by decide +kernel
theorem dX6_init_188 : decode cX6_init 188 = .ok (.putfield 75, 3) := by decide +kernel
theorem dX6_init_191 : decode cX6_init 191 = .ok (.return_, 1) := by decide +kernel
theorem dX6_fails_0 : decode cX6_fails 0 = .ok (.aload_n 0, 1) := by decide +kernel
theorem dX6_fails_1 : decode cX6_fails 1 = .ok (.iload_n 1, 1) := by decide +kernel
theorem dX6_fails_2 : decode cX6_fails 2 = .ok (.putfield 78, 3) := by decide +kernel
theorem dX6_fails_5 : decode cX6_fails 5 = .ok (.bipush (-10), 2) := by decide +kernel
theorem dX6_fails_7 : decode cX6_fails 7 = .ok (.iload_n 1, 1) := by decide +kernel
theorem dX6_fails_8 : decode cX6_fails 8 = .ok (.isub, 1) := by decide +kernel
theorem dX6_fails_9 : decode cX6_fails 9 = .ok (.ireturn, 1) := by decide +kernel
theorem dX6_lost_0 : decode cX6_lost 0 = .ok (.aload_n 0, 1) := by decide +kernel
theorem dX6_lost_1 : decode cX6_lost 1 = .ok (.iload_n 1, 1) := by decide +kernel
theorem dX6_lost_2 : decode cX6_lost 2 = .ok (.putfield 78, 3) := by decide +kernel
theorem dX6_lost_5 : decode cX6_lost 5 = .ok (.ldc2_w 81, 3) := by decide +kernel
theorem dX6_lost_8 : decode cX6_lost 8 = .ok (.lreturn, 1) := by decide +kernel
theorem dX6_within_0 : decode cX6_within 0 = .ok (.iload_n 0, 1) := by decide +kernel
theorem dX6_within_1 : decode cX6_within 1 = .ok (.iload_n 1, 1) := by decide +kernel
theorem dX6_within_2 : decode cX6_within 2 = .ok (.if_icmp .lt 12, 3) := by decide +kernel
theorem dX6_within_5 : decode cX6_within 5 = .ok (.iload_n 0, 1) := by decide +kernel
theorem dX6_within_6 : decode cX6_within 6 = .ok (.iload_n 2, 1) := by decide +kernel
theorem dX6_within_7 : decode cX6_within 7 = .ok (.if_icmp .gt 7, 3) := by decide +kernel
theorem dX6_within_10 : decode cX6_within 10 = .ok (.iconst 1, 1) := by decide +kernel
theorem dX6_within_11 : decode cX6_within 11 = .ok (.goto 4, 3) := by decide +kernel
theorem dX6_within_14 : decode cX6_within 14 = .ok (.iconst 0, 1) := by decide +kernel
theorem dX6_within_15 : decode cX6_within 15 = .ok (.ireturn, 1) := by decide +kernel
theorem dX6_isSheet_0 : decode cX6_isSheet 0 = .ok (.iload_n 0, 1) := by decide +kernel
theorem dX6_isSheet_1 : decode cX6_isSheet 1 = .ok (.iconst 0, 1) := by decide +kernel
theorem dX6_isSheet_2 : decode cX6_isSheet 2 = .ok (.iconst 3, 1) := by decide +kernel
theorem dX6_isSheet_3 : decode cX6_isSheet 3 = .ok (.invokestatic 83, 3) := by decide +kernel
theorem dX6_isSheet_6 : decode cX6_isSheet 6 = .ok (.ireturn, 1) := by decide +kernel
theorem dX6_isSort_0 : decode cX6_isSort 0 = .ok (.iload_n 0, 1) := by decide +kernel
theorem dX6_isSort_1 : decode cX6_isSort 1 = .ok (.iconst 0, 1) := by decide +kernel
theorem dX6_isSort_2 : decode cX6_isSort 2 = .ok (.iconst 2, 1) := by decide +kernel
theorem dX6_isSort_3 : decode cX6_isSort 3 = .ok (.invokestatic 83, 3) := by decide +kernel
theorem dX6_isSort_6 : decode cX6_isSort 6 = .ok (.ireturn, 1) := by decide +kernel
theorem dX6_against_0 : decode cX6_against 0 = .ok (.aload_n 0, 1) := by decide +kernel
theorem dX6_against_1 : decode cX6_against 1 = .ok (.getfield 9, 3) := by decide +kernel
theorem dX6_against_4 : decode cX6_against 4 = .ok (.iload_n 1, 1) := by decide +kernel
theorem dX6_against_5 : decode cX6_against 5 = .ok (.iaload, 1) := by decide +kernel
theorem dX6_against_6 : decode cX6_against 6 = .ok (.bipush (-9), 2) := by decide +kernel
theorem dX6_against_8 : decode cX6_against 8 = .ok (.if_icmp .eq 15, 3) := by decide +kernel
theorem dX6_against_11 : decode cX6_against 11 = .ok (.aload_n 0, 1) := by decide +kernel
theorem dX6_against_12 : decode cX6_against 12 = .ok (.getfield 9, 3) := by decide +kernel
theorem dX6_against_15 : decode cX6_against 15 = .ok (.iload_n 1, 1) := by decide +kernel
theorem dX6_against_16 : decode cX6_against 16 = .ok (.iaload, 1) := by decide +kernel
theorem dX6_against_17 : decode cX6_against 17 = .ok (.iload_n 2, 1) := by decide +kernel
theorem dX6_against_18 : decode cX6_against 18 = .ok (.if_icmp .eq 5, 3) := by decide +kernel
theorem dX6_against_21 : decode cX6_against 21 = .ok (.iconst 2, 1) := by decide +kernel
theorem dX6_against_22 : decode cX6_against 22 = .ok (.ireturn, 1) := by decide +kernel
theorem dX6_against_23 : decode cX6_against 23 = .ok (.aload_n 0, 1) := by decide +kernel
theorem dX6_against_24 : decode cX6_against 24 = .ok (.getfield 9, 3) := by decide +kernel
theorem dX6_against_27 : decode cX6_against 27 = .ok (.iload_n 1, 1) := by decide +kernel
theorem dX6_against_28 : decode cX6_against 28 = .ok (.iaload, 1) := by decide +kernel
theorem dX6_against_29 : decode cX6_against 29 = .ok (.bipush (-9), 2) := by decide +kernel
theorem dX6_against_31 : decode cX6_against 31 = .ok (.if_icmp .ne 5, 3) := by decide +kernel
theorem dX6_against_34 : decode cX6_against 34 = .ok (.iconst 1, 1) := by decide +kernel
theorem dX6_against_35 : decode cX6_against 35 = .ok (.ireturn, 1) := by decide +kernel
theorem dX6_against_36 : decode cX6_against 36 = .ok (.iload 4, 2) := by decide +kernel
theorem dX6_against_38 : decode cX6_against 38 = .ok (.ifCond .ge 5, 3) := by decide +kernel
theorem dX6_against_41 : decode cX6_against 41 = .ok (.iconst 4, 1) := by decide +kernel
theorem dX6_against_42 : decode cX6_against 42 = .ok (.ireturn, 1) := by decide +kernel
theorem dX6_against_43 : decode cX6_against 43 = .ok (.iload_n 3, 1) := by decide +kernel
theorem dX6_against_44 : decode cX6_against 44 = .ok (.ifCond .lt 26, 3) := by decide +kernel
theorem dX6_against_47 : decode cX6_against 47 = .ok (.iload_n 3, 1) := by decide +kernel
theorem dX6_against_48 : decode cX6_against 48 = .ok (.aload_n 0, 1) := by decide +kernel
theorem dX6_against_49 : decode cX6_against 49 = .ok (.getfield 13, 3) := by decide +kernel
theorem dX6_against_52 : decode cX6_against 52 = .ok (.iload_n 1, 1) := by decide +kernel
theorem dX6_against_53 : decode cX6_against 53 = .ok (.iaload, 1) := by decide +kernel
theorem dX6_against_54 : decode cX6_against 54 = .ok (.if_icmp .gt 16, 3) := by decide +kernel
theorem dX6_against_57 : decode cX6_against 57 = .ok (.iload 4, 2) := by decide +kernel
theorem dX6_against_59 : decode cX6_against 59 = .ok (.aload_n 0, 1) := by decide +kernel
theorem dX6_against_60 : decode cX6_against 60 = .ok (.getfield 13, 3) := by decide +kernel
theorem dX6_against_63 : decode cX6_against 63 = .ok (.iload_n 1, 1) := by decide +kernel
theorem dX6_against_64 : decode cX6_against 64 = .ok (.iaload, 1) := by decide +kernel
theorem dX6_against_65 : decode cX6_against 65 = .ok (.iload_n 3, 1) := by decide +kernel
theorem dX6_against_66 : decode cX6_against 66 = .ok (.isub, 1) := by decide +kernel
theorem dX6_against_67 : decode cX6_against 67 = .ok (.if_icmp .le 7, 3) := by decide +kernel
theorem dX6_against_70 : decode cX6_against 70 = .ok (.iconst 3, 1) := by decide +kernel
theorem dX6_against_71 : decode cX6_against 71 = .ok (.goto 4, 3) := by decide +kernel
theorem dX6_against_74 : decode cX6_against 74 = .ok (.iconst 0, 1) := by decide +kernel
theorem dX6_against_75 : decode cX6_against 75 = .ok (.ireturn, 1) := by decide +kernel
theorem dX6_isGuest_0 : decode cX6_isGuest 0 = .ok (.iload_n 1, 1) := by decide +kernel
theorem dX6_isGuest_1 : decode cX6_isGuest 1 = .ok (.ifCond .lt 15, 3) := by decide +kernel
theorem dX6_isGuest_4 : decode cX6_isGuest 4 = .ok (.iload_n 1, 1) := by decide +kernel
theorem dX6_isGuest_5 : decode cX6_isGuest 5 = .ok (.aload_n 0, 1) := by decide +kernel
theorem dX6_isGuest_6 : decode cX6_isGuest 6 = .ok (.getfield 87, 3) := by decide +kernel
theorem dX6_isGuest_9 : decode cX6_isGuest 9 = .ok (.if_icmp .ge 7, 3) := by decide +kernel
theorem dX6_isGuest_12 : decode cX6_isGuest 12 = .ok (.iconst 1, 1) := by decide +kernel
theorem dX6_isGuest_13 : decode cX6_isGuest 13 = .ok (.goto 4, 3) := by decide +kernel
theorem dX6_isGuest_16 : decode cX6_isGuest 16 = .ok (.iconst 0, 1) := by decide +kernel
theorem dX6_isGuest_17 : decode cX6_isGuest 17 = .ok (.ireturn, 1) := by decide +kernel
theorem dX6_isChair_0 : decode cX6_isChair 0 = .ok (.iload_n 1, 1) := by decide +kernel
theorem dX6_isChair_1 : decode cX6_isChair 1 = .ok (.ifCond .lt 15, 3) := by decide +kernel
theorem dX6_isChair_4 : decode cX6_isChair 4 = .ok (.iload_n 1, 1) := by decide +kernel
theorem dX6_isChair_5 : decode cX6_isChair 5 = .ok (.aload_n 0, 1) := by decide +kernel
theorem dX6_isChair_6 : decode cX6_isChair 6 = .ok (.getfield 90, 3) := by decide +kernel
theorem dX6_isChair_9 : decode cX6_isChair 9 = .ok (.if_icmp .ge 7, 3) := by decide +kernel
theorem dX6_isChair_12 : decode cX6_isChair 12 = .ok (.iconst 1, 1) := by decide +kernel
theorem dX6_isChair_13 : decode cX6_isChair 13 = .ok (.goto 4, 3) := by decide +kernel
theorem dX6_isChair_16 : decode cX6_isChair 16 = .ok (.iconst 0, 1) := by decide +kernel
theorem dX6_isChair_17 : decode cX6_isChair 17 = .ok (.ireturn, 1) := by decide +kernel
theorem dX6_isDinner_0 : decode cX6_isDinner 0 = .ok (.iload_n 0, 1) := by decide +kernel
theorem dX6_isDinner_1 : decode cX6_isDinner 1 = .ok (.iconst 0, 1) := by decide +kernel
theorem dX6_isDinner_2 : decode cX6_isDinner 2 = .ok (.bipush 19, 2) := by decide +kernel
theorem dX6_isDinner_4 : decode cX6_isDinner 4 = .ok (.invokestatic 83, 3) := by decide +kernel
theorem dX6_isDinner_7 : decode cX6_isDinner 7 = .ok (.ireturn, 1) := by decide +kernel
theorem dX6_digit_0 : decode cX6_digit 0 = .ok (.aload_n 0, 1) := by decide +kernel
theorem dX6_digit_1 : decode cX6_digit 1 = .ok (.getfield 93, 3) := by decide +kernel
theorem dX6_digit_4 : decode cX6_digit 4 = .ok (.iload_n 1, 1) := by decide +kernel
theorem dX6_digit_5 : decode cX6_digit 5 = .ok (.if_icmp .ge 26, 3) := by decide +kernel
theorem dX6_digit_8 : decode cX6_digit 8 = .ok (.aload_n 0, 1) := by decide +kernel
theorem dX6_digit_9 : decode cX6_digit 9 = .ok (.getfield 16, 3) := by decide +kernel
theorem dX6_digit_12 : decode cX6_digit 12 = .ok (.aload_n 0, 1) := by decide +kernel
theorem dX6_digit_13 : decode cX6_digit 13 = .ok (.getfield 93, 3) := by decide +kernel
theorem dX6_digit_16 : decode cX6_digit 16 = .ok (.iaload, 1) := by decide +kernel
theorem dX6_digit_17 : decode cX6_digit 17 = .ok (.bipush 48, 2) := by decide +kernel
theorem dX6_digit_19 : decode cX6_digit 19 = .ok (.iload_n 2, 1) := by decide +kernel
theorem dX6_digit_20 : decode cX6_digit 20 = .ok (.iadd, 1) := by decide +kernel
theorem dX6_digit_21 : decode cX6_digit 21 = .ok (.bipush 48, 2) := by decide +kernel
theorem dX6_digit_23 : decode cX6_digit 23 = .ok (.iload_n 3, 1) := by decide +kernel
theorem dX6_digit_24 : decode cX6_digit 24 = .ok (.iadd, 1) := by decide +kernel
theorem dX6_digit_25 : decode cX6_digit 25 = .ok (.invokestatic 83, 3) := by decide +kernel
theorem dX6_digit_28 : decode cX6_digit 28 = .ok (.ifCond .ne 6, 3) := by decide +kernel
theorem dX6_digit_31 : decode cX6_digit 31 = .ok (.bipush (-9), 2) := by decide +kernel
theorem dX6_digit_33 : decode cX6_digit 33 = .ok (.ireturn, 1) := by decide +kernel
theorem dX6_digit_34 : decode cX6_digit 34 = .ok (.aload_n 0, 1) := by decide +kernel
theorem dX6_digit_35 : decode cX6_digit 35 = .ok (.dup, 1) := by decide +kernel
theorem dX6_digit_36 : decode cX6_digit 36 = .ok (.getfield 93, 3) := by decide +kernel
theorem dX6_digit_39 : decode cX6_digit 39 = .ok (.iconst 1, 1) := by decide +kernel
theorem dX6_digit_40 : decode cX6_digit 40 = .ok (.iadd, 1) := by decide +kernel
theorem dX6_digit_41 : decode cX6_digit 41 = .ok (.putfield 93, 3) := by decide +kernel
theorem dX6_digit_44 : decode cX6_digit 44 = .ok (.aload_n 0, 1) := by decide +kernel
theorem dX6_digit_45 : decode cX6_digit 45 = .ok (.getfield 16, 3) := by decide +kernel
theorem dX6_digit_48 : decode cX6_digit 48 = .ok (.aload_n 0, 1) := by decide +kernel
theorem dX6_digit_49 : decode cX6_digit 49 = .ok (.getfield 93, 3) := by decide +kernel
theorem dX6_digit_52 : decode cX6_digit 52 = .ok (.iconst 1, 1) := by decide +kernel
theorem dX6_digit_53 : decode cX6_digit 53 = .ok (.isub, 1) := by decide +kernel
theorem dX6_digit_54 : decode cX6_digit 54 = .ok (.iaload, 1) := by decide +kernel
theorem dX6_digit_55 : decode cX6_digit 55 = .ok (.bipush 48, 2) := by decide +kernel
theorem dX6_digit_57 : decode cX6_digit 57 = .ok (.isub, 1) := by decide +kernel
theorem dX6_digit_58 : decode cX6_digit 58 = .ok (.ireturn, 1) := by decide +kernel
theorem dX6_isSign_0 : decode cX6_isSign 0 = .ok (.aload_n 0, 1) := by decide +kernel
theorem dX6_isSign_1 : decode cX6_isSign 1 = .ok (.getfield 93, 3) := by decide +kernel
theorem dX6_isSign_4 : decode cX6_isSign 4 = .ok (.iload_n 1, 1) := by decide +kernel
theorem dX6_isSign_5 : decode cX6_isSign 5 = .ok (.if_icmp .ge 16, 3) := by decide +kernel
theorem dX6_isSign_8 : decode cX6_isSign 8 = .ok (.aload_n 0, 1) := by decide +kernel
theorem dX6_isSign_9 : decode cX6_isSign 9 = .ok (.getfield 16, 3) := by decide +kernel
theorem dX6_isSign_12 : decode cX6_isSign 12 = .ok (.aload_n 0, 1) := by decide +kernel
theorem dX6_isSign_13 : decode cX6_isSign 13 = .ok (.getfield 93, 3) := by decide +kernel
theorem dX6_isSign_16 : decode cX6_isSign 16 = .ok (.iaload, 1) := by decide +kernel
theorem dX6_isSign_17 : decode cX6_isSign 17 = .ok (.iload_n 2, 1) := by decide +kernel
theorem dX6_isSign_18 : decode cX6_isSign 18 = .ok (.if_icmp .eq 5, 3) := by decide +kernel
theorem dX6_isSign_21 : decode cX6_isSign 21 = .ok (.iconst 0, 1) := by decide +kernel
theorem dX6_isSign_22 : decode cX6_isSign 22 = .ok (.ireturn, 1) := by decide +kernel
theorem dX6_isSign_23 : decode cX6_isSign 23 = .ok (.aload_n 0, 1) := by decide +kernel
theorem dX6_isSign_24 : decode cX6_isSign 24 = .ok (.dup, 1) := by decide +kernel
theorem dX6_isSign_25 : decode cX6_isSign 25 = .ok (.getfield 93, 3) := by decide +kernel
theorem dX6_isSign_28 : decode cX6_isSign 28 = .ok (.iconst 1, 1) := by decide +kernel
theorem dX6_isSign_29 : decode cX6_isSign 29 = .ok (.iadd, 1) := by decide +kernel
theorem dX6_isSign_30 : decode cX6_isSign 30 = .ok (.putfield 93, 3) := by decide +kernel
theorem dX6_isSign_33 : decode cX6_isSign 33 = .ok (.iconst 1, 1) := by decide +kernel
theorem dX6_isSign_34 : decode cX6_isSign 34 = .ok (.ireturn, 1) := by decide +kernel
theorem dX6_hall_0 : decode cX6_hall 0 = .ok (.aload_n 0, 1) := by decide +kernel
theorem dX6_hall_1 : decode cX6_hall 1 = .ok (.iconst 0, 1) := by decide +kernel
theorem dX6_hall_2 : decode cX6_hall 2 = .ok (.putfield 78, 3) := by decide +kernel
theorem dX6_hall_5 : decode cX6_hall 5 = .ok (.iload_n 1, 1) := by decide +kernel
theorem dX6_hall_6 : decode cX6_hall 6 = .ok (.invokestatic 96, 3) := by decide +kernel
theorem dX6_hall_9 : decode cX6_hall 9 = .ok (.ifCond .ne 5, 3) := by decide +kernel
theorem dX6_hall_12 : decode cX6_hall 12 = .ok (.iconst (-1), 1) := by decide +kernel
theorem dX6_hall_13 : decode cX6_hall 13 = .ok (.ireturn, 1) := by decide +kernel
theorem dX6_hall_14 : decode cX6_hall 14 = .ok (.iload_n 2, 1) := by decide +kernel
theorem dX6_hall_15 : decode cX6_hall 15 = .ok (.invokestatic 100, 3) := by decide +kernel
theorem dX6_hall_18 : decode cX6_hall 18 = .ok (.ifCond .ne 6, 3) := by decide +kernel
theorem dX6_hall_21 : decode cX6_hall 21 = .ok (.bipush (-2), 2) := by decide +kernel
theorem dX6_hall_23 : decode cX6_hall 23 = .ok (.ireturn, 1) := by decide +kernel
theorem dX6_hall_24 : decode cX6_hall 24 = .ok (.aload_n 0, 1) := by decide +kernel
theorem dX6_hall_25 : decode cX6_hall 25 = .ok (.iload_n 1, 1) := by decide +kernel
theorem dX6_hall_26 : decode cX6_hall 26 = .ok (.iload_n 2, 1) := by decide +kernel
theorem dX6_hall_27 : decode cX6_hall 27 = .ok (.iload_n 3, 1) := by decide +kernel
theorem dX6_hall_28 : decode cX6_hall 28 = .ok (.iload 4, 2) := by decide +kernel
theorem dX6_hall_30 : decode cX6_hall 30 = .ok (.invokevirtual 103, 3) := by decide +kernel
theorem dX6_hall_33 : decode cX6_hall 33 = .ok (.istore 5, 2) := by decide +kernel
theorem dX6_hall_35 : decode cX6_hall 35 = .ok (.iload 5, 2) := by decide +kernel
theorem dX6_hall_37 : decode cX6_hall 37 = .ok (.ifCond .eq 10, 3) := by decide +kernel
theorem dX6_hall_40 : decode cX6_hall 40 = .ok (.aload_n 0, 1) := by decide +kernel
theorem dX6_hall_41 : decode cX6_hall 41 = .ok (.iload 5, 2) := by decide +kernel
theorem dX6_hall_43 : decode cX6_hall 43 = .ok (.invokevirtual 107, 3) := by decide +kernel
theorem dX6_hall_46 : decode cX6_hall 46 = .ok (.ireturn, 1) := by decide +kernel
theorem dX6_hall_47 : decode cX6_hall 47 = .ok (.bipush 60, 2) := by decide +kernel
theorem dX6_hall_49 : decode cX6_hall 49 = .ok (.iload_n 1, 1) := by decide +kernel
theorem dX6_hall_50 : decode cX6_hall 50 = .ok (.imul, 1) := by decide +kernel
theorem dX6_hall_51 : decode cX6_hall 51 = .ok (.iload_n 3, 1) := by decide +kernel
theorem dX6_hall_52 : decode cX6_hall 52 = .ok (.iadd, 1) := by decide +kernel
theorem dX6_hall_53 : decode cX6_hall 53 = .ok (.istore 6, 2) := by decide +kernel
theorem dX6_hall_55 : decode cX6_hall 55 = .ok (.aload_n 0, 1) := by decide +kernel
theorem dX6_hall_56 : decode cX6_hall 56 = .ok (.iload 6, 2) := by decide +kernel
theorem dX6_hall_58 : decode cX6_hall 58 = .ok (.putfield 93, 3) := by decide +kernel
theorem dX6_hall_61 : decode cX6_hall 61 = .ok (.aload_n 0, 1) := by decide +kernel
theorem dX6_hall_62 : decode cX6_hall 62 = .ok (.iload 6, 2) := by decide +kernel
theorem dX6_hall_64 : decode cX6_hall 64 = .ok (.iload 4, 2) := by decide +kernel
theorem dX6_hall_66 : decode cX6_hall 66 = .ok (.iadd, 1) := by decide +kernel
theorem dX6_hall_67 : decode cX6_hall 67 = .ok (.invokevirtual 111, 3) := by decide +kernel
theorem dX6_hall_70 : decode cX6_hall 70 = .ok (.ifCond .ne 14, 3) := by decide +kernel
theorem dX6_hall_73 : decode cX6_hall 73 = .ok (.bipush (-100), 2) := by decide +kernel
theorem dX6_hall_75 : decode cX6_hall 75 = .ok (.aload_n 0, 1) := by decide +kernel
theorem dX6_hall_76 : decode cX6_hall 76 = .ok (.getfield 93, 3) := by decide +kernel
theorem dX6_hall_79 : decode cX6_hall 79 = .ok (.iload 6, 2) := by decide +kernel
theorem dX6_hall_81 : decode cX6_hall 81 = .ok (.isub, 1) := by decide +kernel
theorem dX6_hall_82 : decode cX6_hall 82 = .ok (.isub, 1) := by decide +kernel
theorem dX6_hall_83 : decode cX6_hall 83 = .ok (.ireturn, 1) := by decide +kernel
theorem dX6_hall_84 : decode cX6_hall 84 = .ok (.aload_n 0, 1) := by decide +kernel
theorem dX6_hall_85 : decode cX6_hall 85 = .ok (.aload_n 0, 1) := by decide +kernel
theorem dX6_hall_86 : decode cX6_hall 86 = .ok (.getfield 114, 3) := by decide +kernel
theorem dX6_hall_89 : decode cX6_hall 89 = .ok (.putfield 87, 3) := by decide +kernel
theorem dX6_hall_92 : decode cX6_hall 92 = .ok (.aload_n 0, 1) := by decide +kernel
theorem dX6_hall_93 : decode cX6_hall 93 = .ok (.aload_n 0, 1) := by decide +kernel
theorem dX6_hall_94 : decode cX6_hall 94 = .ok (.getfield 117, 3) := by decide +kernel
theorem dX6_hall_97 : decode cX6_hall 97 = .ok (.putfield 90, 3) := by decide +kernel
theorem dX6_hall_100 : decode cX6_hall 100 = .ok (.iconst 0, 1) := by decide +kernel
theorem dX6_hall_101 : decode cX6_hall 101 = .ok (.istore 7, 2) := by decide +kernel
theorem dX6_hall_103 : decode cX6_hall 103 = .ok (.iload 7, 2) := by decide +kernel
theorem dX6_hall_105 : decode cX6_hall 105 = .ok (.aload_n 0, 1) := by decide +kernel
theorem dX6_hall_106 : decode cX6_hall 106 = .ok (.getfield 90, 3) := by decide +kernel
theorem dX6_hall_109 : decode cX6_hall 109 = .ok (.if_icmp .ge 61, 3) := by decide +kernel
theorem dX6_hall_112 : decode cX6_hall 112 = .ok (.aload_n 0, 1) := by decide +kernel
theorem dX6_hall_113 : decode cX6_hall 113 = .ok (.getfield 19, 3) := by decide +kernel
theorem dX6_hall_116 : decode cX6_hall 116 = .ok (.iload 7, 2) := by decide +kernel
theorem dX6_hall_118 : decode cX6_hall 118 = .ok (.aload_n 0, 1) := by decide +kernel
theorem dX6_hall_119 : decode cX6_hall 119 = .ok (.getfield 50, 3) := by decide +kernel
theorem dX6_hall_122 : decode cX6_hall 122 = .ok (.iconst 3, 1) := by decide +kernel
theorem dX6_hall_123 : decode cX6_hall 123 = .ok (.iload 7, 2) := by decide +kernel
theorem dX6_hall_125 : decode cX6_hall 125 = .ok (.imul, 1) := by decide +kernel
theorem dX6_hall_126 : decode cX6_hall 126 = .ok (.iaload, 1) := by decide +kernel
theorem dX6_hall_127 : decode cX6_hall 127 = .ok (.iastore, 1) := by decide +kernel
theorem dX6_hall_128 : decode cX6_hall 128 = .ok (.aload_n 0, 1) := by decide +kernel
theorem dX6_hall_129 : decode cX6_hall 129 = .ok (.getfield 22, 3) := by decide +kernel
theorem dX6_hall_132 : decode cX6_hall 132 = .ok (.iload 7, 2) := by decide +kernel
theorem dX6_hall_134 : decode cX6_hall 134 = .ok (.aload_n 0, 1) := by decide +kernel
theorem dX6_hall_135 : decode cX6_hall 135 = .ok (.getfield 50, 3) := by decide +kernel
theorem dX6_hall_138 : decode cX6_hall 138 = .ok (.iconst 3, 1) := by decide +kernel
theorem dX6_hall_139 : decode cX6_hall 139 = .ok (.iload 7, 2) := by decide +kernel
theorem dX6_hall_141 : decode cX6_hall 141 = .ok (.imul, 1) := by decide +kernel
theorem dX6_hall_142 : decode cX6_hall 142 = .ok (.iconst 1, 1) := by decide +kernel
theorem dX6_hall_143 : decode cX6_hall 143 = .ok (.iadd, 1) := by decide +kernel
theorem dX6_hall_144 : decode cX6_hall 144 = .ok (.iaload, 1) := by decide +kernel
theorem dX6_hall_145 : decode cX6_hall 145 = .ok (.iastore, 1) := by decide +kernel
theorem dX6_hall_146 : decode cX6_hall 146 = .ok (.aload_n 0, 1) := by decide +kernel
theorem dX6_hall_147 : decode cX6_hall 147 = .ok (.getfield 25, 3) := by decide +kernel
theorem dX6_hall_150 : decode cX6_hall 150 = .ok (.iload 7, 2) := by decide +kernel
theorem dX6_hall_152 : decode cX6_hall 152 = .ok (.aload_n 0, 1) := by decide +kernel
theorem dX6_hall_153 : decode cX6_hall 153 = .ok (.getfield 50, 3) := by decide +kernel
theorem dX6_hall_156 : decode cX6_hall 156 = .ok (.iconst 3, 1) := by decide +kernel
theorem dX6_hall_157 : decode cX6_hall 157 = .ok (.iload 7, 2) := by decide +kernel
theorem dX6_hall_159 : decode cX6_hall 159 = .ok (.imul, 1) := by decide +kernel
theorem dX6_hall_160 : decode cX6_hall 160 = .ok (.iconst 2, 1) := by decide +kernel
theorem dX6_hall_161 : decode cX6_hall 161 = .ok (.iadd, 1) := by decide +kernel
theorem dX6_hall_162 : decode cX6_hall 162 = .ok (.iaload, 1) := by decide +kernel
theorem dX6_hall_163 : decode cX6_hall 163 = .ok (.iastore, 1) := by decide +kernel
theorem dX6_hall_164 : decode cX6_hall 164 = .ok (.iinc 7 1, 3) := by decide +kernel
theorem dX6_hall_167 : decode cX6_hall 167 = .ok (.goto (-64), 3) := by decide +kernel
theorem dX6_hall_170 : decode cX6_hall 170 = .ok (.aload_n 0, 1) := by decide +kernel
theorem dX6_hall_171 : decode cX6_hall 171 = .ok (.iconst 0, 1) := by decide +kernel
theorem dX6_hall_172 : decode cX6_hall 172 = .ok (.putfield 120, 3) := by decide +kernel
theorem dX6_hall_175 : decode cX6_hall 175 = .ok (.aload_n 0, 1) := by decide +kernel
theorem dX6_hall_176 : decode cX6_hall 176 = .ok (.iconst 0, 1) := by decide +kernel
theorem dX6_hall_177 : decode cX6_hall 177 = .ok (.putfield 123, 3) := by decide +kernel
theorem dX6_hall_180 : decode cX6_hall 180 = .ok (.aload_n 0, 1) := by decide +kernel
theorem dX6_hall_181 : decode cX6_hall 181 = .ok (.iconst 0, 1) := by decide +kernel
theorem dX6_hall_182 : decode cX6_hall 182 = .ok (.putfield 126, 3) := by decide +kernel
theorem dX6_hall_185 : decode cX6_hall 185 = .ok (.aload_n 0, 1) := by decide +kernel
theorem dX6_hall_186 : decode cX6_hall 186 = .ok (.getfield 90, 3) := by decide +kernel
theorem dX6_hall_189 : decode cX6_hall 189 = .ok (.ireturn, 1) := by decide +kernel
theorem dX6_readHall_0 : decode cX6_readHall 0 = .ok (.aload_n 0, 1) := by decide +kernel
theorem dX6_readHall_1 : decode cX6_readHall 1 = .ok (.iconst 0, 1) := by decide +kernel
theorem dX6_readHall_2 : decode cX6_readHall 2 = .ok (.putfield 117, 3) := by decide +kernel
theorem dX6_readHall_5 : decode cX6_readHall 5 = .ok (.aload_n 0, 1) := by decide +kernel
theorem dX6_readHall_6 : decode cX6_readHall 6 = .ok (.iload_n 1, 1) := by decide +kernel
theorem dX6_readHall_7 : decode cX6_readHall 7 = .ok (.bipush 122, 2) := by decide +kernel
theorem dX6_readHall_9 : decode cX6_readHall 9 = .ok (.invokevirtual 129, 3) := by decide +kernel
theorem dX6_readHall_12 : decode cX6_readHall 12 = .ok (.ifCond .ne 5, 3) := by decide +kernel
theorem dX6_readHall_15 : decode cX6_readHall 15 = .ok (.iconst 0, 1) := by decide +kernel
theorem dX6_readHall_16 : decode cX6_readHall 16 = .ok (.ireturn, 1) := by decide +kernel
theorem dX6_readHall_17 : decode cX6_readHall 17 = .ok (.aload_n 0, 1) := by decide +kernel
theorem dX6_readHall_18 : decode cX6_readHall 18 = .ok (.aload_n 0, 1) := by decide +kernel
theorem dX6_readHall_19 : decode cX6_readHall 19 = .ok (.iload_n 1, 1) := by decide +kernel
theorem dX6_readHall_20 : decode cX6_readHall 20 = .ok (.iconst 1, 1) := by decide +kernel
theorem dX6_readHall_21 : decode cX6_readHall 21 = .ok (.iconst 5, 1) := by decide +kernel
theorem dX6_readHall_22 : decode cX6_readHall 22 = .ok (.invokevirtual 133, 3) := by decide +kernel
theorem dX6_readHall_25 : decode cX6_readHall 25 = .ok (.putfield 114, 3) := by decide +kernel
theorem dX6_readHall_28 : decode cX6_readHall 28 = .ok (.aload_n 0, 1) := by decide +kernel
theorem dX6_readHall_29 : decode cX6_readHall 29 = .ok (.getfield 114, 3) := by decide +kernel
theorem dX6_readHall_32 : decode cX6_readHall 32 = .ok (.bipush (-9), 2) := by decide +kernel
theorem dX6_readHall_34 : decode cX6_readHall 34 = .ok (.if_icmp .ne 5, 3) := by decide +kernel
theorem dX6_readHall_37 : decode cX6_readHall 37 = .ok (.iconst 0, 1) := by decide +kernel
theorem dX6_readHall_38 : decode cX6_readHall 38 = .ok (.ireturn, 1) := by decide +kernel
theorem dX6_readHall_39 : decode cX6_readHall 39 = .ok (.aload_n 0, 1) := by decide +kernel
theorem dX6_readHall_40 : decode cX6_readHall 40 = .ok (.getfield 117, 3) := by decide +kernel
theorem dX6_readHall_43 : decode cX6_readHall 43 = .ok (.ifCond .eq 19, 3) := by decide +kernel
theorem dX6_readHall_46 : decode cX6_readHall 46 = .ok (.aload_n 0, 1) := by decide +kernel
theorem dX6_readHall_47 : decode cX6_readHall 47 = .ok (.getfield 117, 3) := by decide +kernel
theorem dX6_readHall_50 : decode cX6_readHall 50 = .ok (.iconst 5, 1) := by decide +kernel
theorem dX6_readHall_51 : decode cX6_readHall 51 = .ok (.if_icmp .ge 31, 3) := by decide +kernel
theorem dX6_readHall_54 : decode cX6_readHall 54 = .ok (.aload_n 0, 1) := by decide +kernel
theorem dX6_readHall_55 : decode cX6_readHall 55 = .ok (.getfield 93, 3) := by decide +kernel
theorem dX6_readHall_58 : decode cX6_readHall 58 = .ok (.iload_n 1, 1) := by decide +kernel
theorem dX6_readHall_59 : decode cX6_readHall 59 = .ok (.if_icmp .ge 23, 3) := by decide +kernel
theorem dX6_readHall_62 : decode cX6_readHall 62 = .ok (.aload_n 0, 1) := by decide +kernel
theorem dX6_readHall_63 : decode cX6_readHall 63 = .ok (.iload_n 1, 1) := by decide +kernel
theorem dX6_readHall_64 : decode cX6_readHall 64 = .ok (.bipush 44, 2) := by decide +kernel
theorem dX6_readHall_66 : decode cX6_readHall 66 = .ok (.invokevirtual 129, 3) := by decide +kernel
theorem dX6_readHall_69 : decode cX6_readHall 69 = .ok (.ifCond .eq 11, 3) := by decide +kernel
theorem dX6_readHall_72 : decode cX6_readHall 72 = .ok (.aload_n 0, 1) := by decide +kernel
theorem dX6_readHall_73 : decode cX6_readHall 73 = .ok (.iload_n 1, 1) := by decide +kernel
theorem dX6_readHall_74 : decode cX6_readHall 74 = .ok (.invokevirtual 137, 3) := by decide +kernel
theorem dX6_readHall_77 : decode cX6_readHall 77 = .ok (.ifCond .ne (-38), 3) := by decide +kernel
theorem dX6_readHall_80 : decode cX6_readHall 80 = .ok (.iconst 0, 1) := by decide +kernel
theorem dX6_readHall_81 : decode cX6_readHall 81 = .ok (.ireturn, 1) := by decide +kernel
theorem dX6_readHall_82 : decode cX6_readHall 82 = .ok (.aload_n 0, 1) := by decide +kernel
theorem dX6_readHall_83 : decode cX6_readHall 83 = .ok (.getfield 93, 3) := by decide +kernel
theorem dX6_readHall_86 : decode cX6_readHall 86 = .ok (.iload_n 1, 1) := by decide +kernel
theorem dX6_readHall_87 : decode cX6_readHall 87 = .ok (.if_icmp .ne 7, 3) := by decide +kernel
theorem dX6_readHall_90 : decode cX6_readHall 90 = .ok (.iconst 1, 1) := by decide +kernel
theorem dX6_readHall_91 : decode cX6_readHall 91 = .ok (.goto 4, 3) := by decide +kernel
theorem dX6_readHall_94 : decode cX6_readHall 94 = .ok (.iconst 0, 1) := by decide +kernel
theorem dX6_readHall_95 : decode cX6_readHall 95 = .ok (.ireturn, 1) := by decide +kernel
theorem dX6_readChair_0 : decode cX6_readChair 0 = .ok (.iconst 3, 1) := by decide +kernel
theorem dX6_readChair_1 : decode cX6_readChair 1 = .ok (.aload_n 0, 1) := by decide +kernel
theorem dX6_readChair_2 : decode cX6_readChair 2 = .ok (.getfield 117, 3) := by decide +kernel
theorem dX6_readChair_5 : decode cX6_readChair 5 = .ok (.imul, 1) := by decide +kernel
theorem dX6_readChair_6 : decode cX6_readChair 6 = .ok (.istore_n 2, 1) := by decide +kernel
theorem dX6_readChair_7 : decode cX6_readChair 7 = .ok (.aload_n 0, 1) := by decide +kernel
theorem dX6_readChair_8 : decode cX6_readChair 8 = .ok (.getfield 93, 3) := by decide +kernel
theorem dX6_readChair_11 : decode cX6_readChair 11 = .ok (.iload_n 1, 1) := by decide +kernel
theorem dX6_readChair_12 : decode cX6_readChair 12 = .ok (.if_icmp .ge 15, 3) := by decide +kernel
theorem dX6_readChair_15 : decode cX6_readChair 15 = .ok (.aload_n 0, 1) := by decide +kernel
theorem dX6_readChair_16 : decode cX6_readChair 16 = .ok (.getfield 16, 3) := by decide +kernel
theorem dX6_readChair_19 : decode cX6_readChair 19 = .ok (.aload_n 0, 1) := by decide +kernel
theorem dX6_readChair_20 : decode cX6_readChair 20 = .ok (.getfield 93, 3) := by decide +kernel
theorem dX6_readChair_23 : decode cX6_readChair 23 = .ok (.iaload, 1) := by decide +kernel
theorem dX6_readChair_24 : decode cX6_readChair 24 = .ok (.goto 4, 3) := by decide +kernel
theorem dX6_readChair_27 : decode cX6_readChair 27 = .ok (.iconst 0, 1) := by decide +kernel
theorem dX6_readChair_28 : decode cX6_readChair 28 = .ok (.istore_n 3, 1) := by decide +kernel
theorem dX6_readChair_29 : decode cX6_readChair 29 = .ok (.aload_n 0, 1) := by decide +kernel
theorem dX6_readChair_30 : decode cX6_readChair 30 = .ok (.getfield 50, 3) := by decide +kernel
theorem dX6_readChair_33 : decode cX6_readChair 33 = .ok (.iload_n 2, 1) := by decide +kernel
theorem dX6_readChair_34 : decode cX6_readChair 34 = .ok (.iload_n 3, 1) := by decide +kernel
theorem dX6_readChair_35 : decode cX6_readChair 35 = .ok (.bipush 99, 2) := by decide +kernel
theorem dX6_readChair_37 : decode cX6_readChair 37 = .ok (.if_icmp .ne 7, 3) := by decide +kernel
theorem dX6_readChair_40 : decode cX6_readChair 40 = .ok (.iconst 0, 1) := by decide +kernel
theorem dX6_readChair_41 : decode cX6_readChair 41 = .ok (.goto 25, 3) := by decide +kernel
theorem dX6_readChair_44 : decode cX6_readChair 44 = .ok (.iload_n 3, 1) := by decide +kernel
theorem dX6_readChair_45 : decode cX6_readChair 45 = .ok (.bipush 98, 2) := by decide +kernel
theorem dX6_readChair_47 : decode cX6_readChair 47 = .ok (.if_icmp .ne 7, 3) := by decide +kernel
theorem dX6_readChair_50 : decode cX6_readChair 50 = .ok (.iconst 1, 1) := by decide +kernel
theorem dX6_readChair_51 : decode cX6_readChair 51 = .ok (.goto 15, 3) := by decide +kernel
theorem dX6_readChair_54 : decode cX6_readChair 54 = .ok (.iload_n 3, 1) := by decide +kernel
theorem dX6_readChair_55 : decode cX6_readChair 55 = .ok (.bipush 116, 2) := by decide +kernel
theorem dX6_readChair_57 : decode cX6_readChair 57 = .ok (.if_icmp .ne 7, 3) := by decide +kernel
theorem dX6_readChair_60 : decode cX6_readChair 60 = .ok (.iconst 2, 1) := by decide +kernel
theorem dX6_readChair_61 : decode cX6_readChair 61 = .ok (.goto 5, 3) := by decide +kernel
theorem dX6_readChair_64 : decode cX6_readChair 64 = .ok (.bipush (-9), 2) := by decide +kernel
theorem dX6_readChair_66 : decode cX6_readChair 66 = .ok (.iastore, 1) := by decide +kernel
theorem dX6_readChair_67 : decode cX6_readChair 67 = .ok (.aload_n 0, 1) := by decide +kernel
theorem dX6_readChair_68 : decode cX6_readChair 68 = .ok (.getfield 50, 3) := by decide +kernel
theorem dX6_readChair_71 : decode cX6_readChair 71 = .ok (.iload_n 2, 1) := by decide +kernel
theorem dX6_readChair_72 : decode cX6_readChair 72 = .ok (.iaload, 1) := by decide +kernel
theorem dX6_readChair_73 : decode cX6_readChair 73 = .ok (.bipush (-9), 2) := by decide +kernel
theorem dX6_readChair_75 : decode cX6_readChair 75 = .ok (.if_icmp .ne 5, 3) := by decide +kernel
theorem dX6_readChair_78 : decode cX6_readChair 78 = .ok (.iconst 0, 1) := by decide +kernel
theorem dX6_readChair_79 : decode cX6_readChair 79 = .ok (.ireturn, 1) := by decide +kernel
theorem dX6_readChair_80 : decode cX6_readChair 80 = .ok (.aload_n 0, 1) := by decide +kernel
theorem dX6_readChair_81 : decode cX6_readChair 81 = .ok (.dup, 1) := by decide +kernel
theorem dX6_readChair_82 : decode cX6_readChair 82 = .ok (.getfield 93, 3) := by decide +kernel
theorem dX6_readChair_85 : decode cX6_readChair 85 = .ok (.iconst 1, 1) := by decide +kernel
theorem dX6_readChair_86 : decode cX6_readChair 86 = .ok (.iadd, 1) := by decide +kernel
theorem dX6_readChair_87 : decode cX6_readChair 87 = .ok (.putfield 93, 3) := by decide +kernel
theorem dX6_readChair_90 : decode cX6_readChair 90 = .ok (.aload_n 0, 1) := by decide +kernel
theorem dX6_readChair_91 : decode cX6_readChair 91 = .ok (.getfield 50, 3) := by decide +kernel
theorem dX6_readChair_94 : decode cX6_readChair 94 = .ok (.iload_n 2, 1) := by decide +kernel
theorem dX6_readChair_95 : decode cX6_readChair 95 = .ok (.iconst 1, 1) := by decide +kernel
theorem dX6_readChair_96 : decode cX6_readChair 96 = .ok (.iadd, 1) := by decide +kernel
theorem dX6_readChair_97 : decode cX6_readChair 97 = .ok (.aload_n 0, 1) := by decide +kernel
theorem dX6_readChair_98 : decode cX6_readChair 98 = .ok (.iload_n 1, 1) := by decide +kernel
theorem dX6_readChair_99 : decode cX6_readChair 99 = .ok (.iconst 0, 1) := by decide +kernel
theorem dX6_readChair_100 : decode cX6_readChair 100 = .ok (.iconst 4, 1) := by decide +kernel
theorem dX6_readChair_101 : decode cX6_readChair 101 = .ok (.invokevirtual 133, 3) := by decide +kernel
theorem dX6_readChair_104 : decode cX6_readChair 104 = .ok (.iastore, 1) := by decide +kernel
theorem dX6_readChair_105 : decode cX6_readChair 105 = .ok (.aload_n 0, 1) := by decide +kernel
theorem dX6_readChair_106 : decode cX6_readChair 106 = .ok (.getfield 50, 3) := by decide +kernel
theorem dX6_readChair_109 : decode cX6_readChair 109 = .ok (.iload_n 2, 1) := by decide +kernel
theorem dX6_readChair_110 : decode cX6_readChair 110 = .ok (.iconst 1, 1) := by decide +kernel
theorem dX6_readChair_111 : decode cX6_readChair 111 = .ok (.iadd, 1) := by decide +kernel
theorem dX6_readChair_112 : decode cX6_readChair 112 = .ok (.iaload, 1) := by decide +kernel
theorem dX6_readChair_113 : decode cX6_readChair 113 = .ok (.bipush (-9), 2) := by decide +kernel
theorem dX6_readChair_115 : decode cX6_readChair 115 = .ok (.if_icmp .ne 5, 3) := by decide +kernel
theorem dX6_readChair_118 : decode cX6_readChair 118 = .ok (.iconst 0, 1) := by decide +kernel
theorem dX6_readChair_119 : decode cX6_readChair 119 = .ok (.ireturn, 1) := by decide +kernel
theorem dX6_readChair_120 : decode cX6_readChair 120 = .ok (.aload_n 0, 1) := by decide +kernel
theorem dX6_readChair_121 : decode cX6_readChair 121 = .ok (.getfield 50, 3) := by decide +kernel
theorem dX6_readChair_124 : decode cX6_readChair 124 = .ok (.iload_n 2, 1) := by decide +kernel
theorem dX6_readChair_125 : decode cX6_readChair 125 = .ok (.iconst 2, 1) := by decide +kernel
theorem dX6_readChair_126 : decode cX6_readChair 126 = .ok (.iadd, 1) := by decide +kernel
theorem dX6_readChair_127 : decode cX6_readChair 127 = .ok (.aload_n 0, 1) := by decide +kernel
theorem dX6_readChair_128 : decode cX6_readChair 128 = .ok (.iload_n 1, 1) := by decide +kernel
theorem dX6_readChair_129 : decode cX6_readChair 129 = .ok (.iconst 0, 1) := by decide +kernel
theorem dX6_readChair_130 : decode cX6_readChair 130 = .ok (.bipush 9, 2) := by decide +kernel
theorem dX6_readChair_132 : decode cX6_readChair 132 = .ok (.invokevirtual 133, 3) := by decide +kernel
theorem dX6_readChair_135 : decode cX6_readChair 135 = .ok (.iastore, 1) := by decide +kernel
theorem dX6_readChair_136 : decode cX6_readChair 136 = .ok (.aload_n 0, 1) := by decide +kernel
theorem dX6_readChair_137 : decode cX6_readChair 137 = .ok (.dup, 1) := by decide +kernel
theorem dX6_readChair_138 : decode cX6_readChair 138 = .ok (.getfield 117, 3) := by decide +kernel
theorem dX6_readChair_141 : decode cX6_readChair 141 = .ok (.iconst 1, 1) := by decide +kernel
theorem dX6_readChair_142 : decode cX6_readChair 142 = .ok (.iadd, 1) := by decide +kernel
theorem dX6_readChair_143 : decode cX6_readChair 143 = .ok (.putfield 117, 3) := by decide +kernel
theorem dX6_readChair_146 : decode cX6_readChair 146 = .ok (.aload_n 0, 1) := by decide +kernel
theorem dX6_readChair_147 : decode cX6_readChair 147 = .ok (.getfield 50, 3) := by decide +kernel
theorem dX6_readChair_150 : decode cX6_readChair 150 = .ok (.iload_n 2, 1) := by decide +kernel
theorem dX6_readChair_151 : decode cX6_readChair 151 = .ok (.iconst 2, 1) := by decide +kernel
theorem dX6_readChair_152 : decode cX6_readChair 152 = .ok (.iadd, 1) := by decide +kernel
theorem dX6_readChair_153 : decode cX6_readChair 153 = .ok (.iaload, 1) := by decide +kernel
theorem dX6_readChair_154 : decode cX6_readChair 154 = .ok (.bipush (-9), 2) := by decide +kernel
theorem dX6_readChair_156 : decode cX6_readChair 156 = .ok (.if_icmp .eq 7, 3) := by decide +kernel
theorem dX6_readChair_159 : decode cX6_readChair 159 = .ok (.iconst 1, 1) := by decide +kernel
theorem dX6_readChair_160 : decode cX6_readChair 160 = .ok (.goto 4, 3) := by decide +kernel
theorem dX6_readChair_163 : decode cX6_readChair 163 = .ok (.iconst 0, 1) := by decide +kernel
theorem dX6_readChair_164 : decode cX6_readChair 164 = .ok (.ireturn, 1) := by decide +kernel
theorem dX6_ofChair_0 : decode cX6_ofChair 0 = .ok (.aload_n 0, 1) := by decide +kernel
theorem dX6_ofChair_1 : decode cX6_ofChair 1 = .ok (.iload_n 1, 1) := by decide +kernel
theorem dX6_ofChair_2 : decode cX6_ofChair 2 = .ok (.invokevirtual 140, 3) := by decide +kernel
theorem dX6_ofChair_5 : decode cX6_ofChair 5 = .ok (.ifCond .ne 5, 3) := by decide +kernel
theorem dX6_ofChair_8 : decode cX6_ofChair 8 = .ok (.iconst (-1), 1) := by decide +kernel
theorem dX6_ofChair_9 : decode cX6_ofChair 9 = .ok (.ireturn, 1) := by decide +kernel
theorem dX6_ofChair_10 : decode cX6_ofChair 10 = .ok (.iload_n 2, 1) := by decide +kernel
theorem dX6_ofChair_11 : decode cX6_ofChair 11 = .ok (.ifCond .ne 12, 3) := by decide +kernel
theorem dX6_ofChair_14 : decode cX6_ofChair 14 = .ok (.aload_n 0, 1) := by decide +kernel
theorem dX6_ofChair_15 : decode cX6_ofChair 15 = .ok (.getfield 19, 3) := by decide +kernel
theorem dX6_ofChair_18 : decode cX6_ofChair 18 = .ok (.iload_n 1, 1) := by decide +kernel
theorem dX6_ofChair_19 : decode cX6_ofChair 19 = .ok (.iaload, 1) := by decide +kernel
theorem dX6_ofChair_20 : decode cX6_ofChair 20 = .ok (.goto 33, 3) := by decide +kernel
theorem dX6_ofChair_23 : decode cX6_ofChair 23 = .ok (.iload_n 2, 1) := by decide +kernel
theorem dX6_ofChair_24 : decode cX6_ofChair 24 = .ok (.iconst 1, 1) := by decide +kernel
theorem dX6_ofChair_25 : decode cX6_ofChair 25 = .ok (.if_icmp .ne 12, 3) := by decide +kernel
theorem dX6_ofChair_28 : decode cX6_ofChair 28 = .ok (.aload_n 0, 1) := by decide +kernel
theorem dX6_ofChair_29 : decode cX6_ofChair 29 = .ok (.getfield 22, 3) := by decide +kernel
theorem dX6_ofChair_32 : decode cX6_ofChair 32 = .ok (.iload_n 1, 1) := by decide +kernel
theorem dX6_ofChair_33 : decode cX6_ofChair 33 = .ok (.iaload, 1) := by decide +kernel
theorem dX6_ofChair_34 : decode cX6_ofChair 34 = .ok (.goto 19, 3) := by decide +kernel
theorem dX6_ofChair_37 : decode cX6_ofChair 37 = .ok (.iload_n 2, 1) := by decide +kernel
theorem dX6_ofChair_38 : decode cX6_ofChair 38 = .ok (.iconst 2, 1) := by decide +kernel
theorem dX6_ofChair_39 : decode cX6_ofChair 39 = .ok (.if_icmp .ne 12, 3) := by decide +kernel
theorem dX6_ofChair_42 : decode cX6_ofChair 42 = .ok (.aload_n 0, 1) := by decide +kernel
theorem dX6_ofChair_43 : decode cX6_ofChair 43 = .ok (.getfield 25, 3) := by decide +kernel
theorem dX6_ofChair_46 : decode cX6_ofChair 46 = .ok (.iload_n 1, 1) := by decide +kernel
theorem dX6_ofChair_47 : decode cX6_ofChair 47 = .ok (.iaload, 1) := by decide +kernel
theorem dX6_ofChair_48 : decode cX6_ofChair 48 = .ok (.goto 5, 3) := by decide +kernel
theorem dX6_ofChair_51 : decode cX6_ofChair 51 = .ok (.bipush (-2), 2) := by decide +kernel
theorem dX6_ofChair_53 : decode cX6_ofChair 53 = .ok (.ireturn, 1) := by decide +kernel
theorem dX6_slip_0 : decode cX6_slip 0 = .ok (.aload_n 0, 1) := by decide +kernel
theorem dX6_slip_1 : decode cX6_slip 1 = .ok (.iload_n 2, 1) := by decide +kernel
theorem dX6_slip_2 : decode cX6_slip 2 = .ok (.invokevirtual 143, 3) := by decide +kernel
theorem dX6_slip_5 : decode cX6_slip 5 = .ok (.ifCond .eq 11, 3) := by decide +kernel
theorem dX6_slip_8 : decode cX6_slip 8 = .ok (.aload_n 0, 1) := by decide +kernel
theorem dX6_slip_9 : decode cX6_slip 9 = .ok (.iload_n 3, 1) := by decide +kernel
theorem dX6_slip_10 : decode cX6_slip 10 = .ok (.invokevirtual 140, 3) := by decide +kernel
theorem dX6_slip_13 : decode cX6_slip 13 = .ok (.ifCond .ne 5, 3) := by decide +kernel
theorem dX6_slip_16 : decode cX6_slip 16 = .ok (.iconst (-1), 1) := by decide +kernel
theorem dX6_slip_17 : decode cX6_slip 17 = .ok (.ireturn, 1) := by decide +kernel
theorem dX6_slip_18 : decode cX6_slip 18 = .ok (.iload_n 1, 1) := by decide +kernel
theorem dX6_slip_19 : decode cX6_slip 19 = .ok (.invokestatic 146, 3) := by decide +kernel
theorem dX6_slip_22 : decode cX6_slip 22 = .ok (.ifCond .ne 6, 3) := by decide +kernel
theorem dX6_slip_25 : decode cX6_slip 25 = .ok (.bipush (-2), 2) := by decide +kernel
theorem dX6_slip_27 : decode cX6_slip 27 = .ok (.ireturn, 1) := by decide +kernel
theorem dX6_slip_28 : decode cX6_slip 28 = .ok (.aload_n 0, 1) := by decide +kernel
theorem dX6_slip_29 : decode cX6_slip 29 = .ok (.getfield 120, 3) := by decide +kernel
theorem dX6_slip_32 : decode cX6_slip 32 = .ok (.bipush 8, 2) := by decide +kernel
theorem dX6_slip_34 : decode cX6_slip 34 = .ok (.if_icmp .ne 6, 3) := by decide +kernel
theorem dX6_slip_37 : decode cX6_slip 37 = .ok (.bipush (-4), 2) := by decide +kernel
theorem dX6_slip_39 : decode cX6_slip 39 = .ok (.ireturn, 1) := by decide +kernel
theorem dX6_slip_40 : decode cX6_slip 40 = .ok (.aload_n 0, 1) := by decide +kernel
theorem dX6_slip_41 : decode cX6_slip 41 = .ok (.getfield 28, 3) := by decide +kernel
theorem dX6_slip_44 : decode cX6_slip 44 = .ok (.aload_n 0, 1) := by decide +kernel
theorem dX6_slip_45 : decode cX6_slip 45 = .ok (.getfield 120, 3) := by decide +kernel
theorem dX6_slip_48 : decode cX6_slip 48 = .ok (.iload_n 1, 1) := by decide +kernel
theorem dX6_slip_49 : decode cX6_slip 49 = .ok (.iastore, 1) := by decide +kernel
theorem dX6_slip_50 : decode cX6_slip 50 = .ok (.aload_n 0, 1) := by decide +kernel
theorem dX6_slip_51 : decode cX6_slip 51 = .ok (.getfield 31, 3) := by decide +kernel
theorem dX6_slip_54 : decode cX6_slip 54 = .ok (.aload_n 0, 1) := by decide +kernel
theorem dX6_slip_55 : decode cX6_slip 55 = .ok (.getfield 120, 3) := by decide +kernel
theorem dX6_slip_58 : decode cX6_slip 58 = .ok (.iload_n 2, 1) := by decide +kernel
theorem dX6_slip_59 : decode cX6_slip 59 = .ok (.iastore, 1) := by decide +kernel
theorem dX6_slip_60 : decode cX6_slip 60 = .ok (.aload_n 0, 1) := by decide +kernel
theorem dX6_slip_61 : decode cX6_slip 61 = .ok (.getfield 34, 3) := by decide +kernel
theorem dX6_slip_64 : decode cX6_slip 64 = .ok (.aload_n 0, 1) := by decide +kernel
theorem dX6_slip_65 : decode cX6_slip 65 = .ok (.getfield 120, 3) := by decide +kernel
theorem dX6_slip_68 : decode cX6_slip 68 = .ok (.iload_n 3, 1) := by decide +kernel
theorem dX6_slip_69 : decode cX6_slip 69 = .ok (.iastore, 1) := by decide +kernel
theorem dX6_slip_70 : decode cX6_slip 70 = .ok (.aload_n 0, 1) := by decide +kernel
theorem dX6_slip_71 : decode cX6_slip 71 = .ok (.dup, 1) := by decide +kernel
theorem dX6_slip_72 : decode cX6_slip 72 = .ok (.getfield 120, 3) := by decide +kernel
theorem dX6_slip_75 : decode cX6_slip 75 = .ok (.iconst 1, 1) := by decide +kernel
theorem dX6_slip_76 : decode cX6_slip 76 = .ok (.iadd, 1) := by decide +kernel
theorem dX6_slip_77 : decode cX6_slip 77 = .ok (.putfield 120, 3) := by decide +kernel
theorem dX6_slip_80 : decode cX6_slip 80 = .ok (.aload_n 0, 1) := by decide +kernel
theorem dX6_slip_81 : decode cX6_slip 81 = .ok (.getfield 120, 3) := by decide +kernel
theorem dX6_slip_84 : decode cX6_slip 84 = .ok (.iconst 1, 1) := by decide +kernel
theorem dX6_slip_85 : decode cX6_slip 85 = .ok (.isub, 1) := by decide +kernel
theorem dX6_slip_86 : decode cX6_slip 86 = .ok (.ireturn, 1) := by decide +kernel
theorem dX6_isSlip_0 : decode cX6_isSlip 0 = .ok (.iload_n 1, 1) := by decide +kernel
theorem dX6_isSlip_1 : decode cX6_isSlip 1 = .ok (.ifCond .lt 15, 3) := by decide +kernel
theorem dX6_isSlip_4 : decode cX6_isSlip 4 = .ok (.iload_n 1, 1) := by decide +kernel
theorem dX6_isSlip_5 : decode cX6_isSlip 5 = .ok (.aload_n 0, 1) := by decide +kernel
theorem dX6_isSlip_6 : decode cX6_isSlip 6 = .ok (.getfield 120, 3) := by decide +kernel
theorem dX6_isSlip_9 : decode cX6_isSlip 9 = .ok (.if_icmp .ge 7, 3) := by decide +kernel
theorem dX6_isSlip_12 : decode cX6_isSlip 12 = .ok (.iconst 1, 1) := by decide +kernel
theorem dX6_isSlip_13 : decode cX6_isSlip 13 = .ok (.goto 4, 3) := by decide +kernel
theorem dX6_isSlip_16 : decode cX6_isSlip 16 = .ok (.iconst 0, 1) := by decide +kernel
theorem dX6_isSlip_17 : decode cX6_isSlip 17 = .ok (.ireturn, 1) := by decide +kernel
theorem dX6_ofSlip_0 : decode cX6_ofSlip 0 = .ok (.aload_n 0, 1) := by decide +kernel
theorem dX6_ofSlip_1 : decode cX6_ofSlip 1 = .ok (.iload_n 1, 1) := by decide +kernel
theorem dX6_ofSlip_2 : decode cX6_ofSlip 2 = .ok (.invokevirtual 149, 3) := by decide +kernel
theorem dX6_ofSlip_5 : decode cX6_ofSlip 5 = .ok (.ifCond .ne 5, 3) := by decide +kernel
theorem dX6_ofSlip_8 : decode cX6_ofSlip 8 = .ok (.iconst (-1), 1) := by decide +kernel
theorem dX6_ofSlip_9 : decode cX6_ofSlip 9 = .ok (.ireturn, 1) := by decide +kernel
theorem dX6_ofSlip_10 : decode cX6_ofSlip 10 = .ok (.iload_n 2, 1) := by decide +kernel
theorem dX6_ofSlip_11 : decode cX6_ofSlip 11 = .ok (.ifCond .ne 12, 3) := by decide +kernel
theorem dX6_ofSlip_14 : decode cX6_ofSlip 14 = .ok (.aload_n 0, 1) := by decide +kernel
theorem dX6_ofSlip_15 : decode cX6_ofSlip 15 = .ok (.getfield 28, 3) := by decide +kernel
theorem dX6_ofSlip_18 : decode cX6_ofSlip 18 = .ok (.iload_n 1, 1) := by decide +kernel
theorem dX6_ofSlip_19 : decode cX6_ofSlip 19 = .ok (.iaload, 1) := by decide +kernel
theorem dX6_ofSlip_20 : decode cX6_ofSlip 20 = .ok (.goto 33, 3) := by decide +kernel
theorem dX6_ofSlip_23 : decode cX6_ofSlip 23 = .ok (.iload_n 2, 1) := by decide +kernel
theorem dX6_ofSlip_24 : decode cX6_ofSlip 24 = .ok (.iconst 1, 1) := by decide +kernel
theorem dX6_ofSlip_25 : decode cX6_ofSlip 25 = .ok (.if_icmp .ne 12, 3) := by decide +kernel
theorem dX6_ofSlip_28 : decode cX6_ofSlip 28 = .ok (.aload_n 0, 1) := by decide +kernel
theorem dX6_ofSlip_29 : decode cX6_ofSlip 29 = .ok (.getfield 31, 3) := by decide +kernel
theorem dX6_ofSlip_32 : decode cX6_ofSlip 32 = .ok (.iload_n 1, 1) := by decide +kernel
theorem dX6_ofSlip_33 : decode cX6_ofSlip 33 = .ok (.iaload, 1) := by decide +kernel
theorem dX6_ofSlip_34 : decode cX6_ofSlip 34 = .ok (.goto 19, 3) := by decide +kernel
theorem dX6_ofSlip_37 : decode cX6_ofSlip 37 = .ok (.iload_n 2, 1) := by decide +kernel
theorem dX6_ofSlip_38 : decode cX6_ofSlip 38 = .ok (.iconst 2, 1) := by decide +kernel
theorem dX6_ofSlip_39 : decode cX6_ofSlip 39 = .ok (.if_icmp .ne 12, 3) := by decide +kernel
theorem dX6_ofSlip_42 : decode cX6_ofSlip 42 = .ok (.aload_n 0, 1) := by decide +kernel
theorem dX6_ofSlip_43 : decode cX6_ofSlip 43 = .ok (.getfield 34, 3) := by decide +kernel
theorem dX6_ofSlip_46 : decode cX6_ofSlip 46 = .ok (.iload_n 1, 1) := by decide +kernel
theorem dX6_ofSlip_47 : decode cX6_ofSlip 47 = .ok (.iaload, 1) := by decide +kernel
theorem dX6_ofSlip_48 : decode cX6_ofSlip 48 = .ok (.goto 5, 3) := by decide +kernel
theorem dX6_ofSlip_51 : decode cX6_ofSlip 51 = .ok (.bipush (-2), 2) := by decide +kernel
theorem dX6_ofSlip_53 : decode cX6_ofSlip 53 = .ok (.ireturn, 1) := by decide +kernel
theorem dX6_unsay_0 : decode cX6_unsay 0 = .ok (.iload_n 1, 1) := by decide +kernel
theorem dX6_unsay_1 : decode cX6_unsay 1 = .ok (.iconst 0, 1) := by decide +kernel
theorem dX6_unsay_2 : decode cX6_unsay 2 = .ok (.aload_n 0, 1) := by decide +kernel
theorem dX6_unsay_3 : decode cX6_unsay 3 = .ok (.getfield 120, 3) := by decide +kernel
theorem dX6_unsay_6 : decode cX6_unsay 6 = .ok (.invokestatic 83, 3) := by decide +kernel
theorem dX6_unsay_9 : decode cX6_unsay 9 = .ok (.ifCond .ne 6, 3) := by decide +kernel
theorem dX6_unsay_12 : decode cX6_unsay 12 = .ok (.bipush (-2), 2) := by decide +kernel
theorem dX6_unsay_14 : decode cX6_unsay 14 = .ok (.ireturn, 1) := by decide +kernel
theorem dX6_unsay_15 : decode cX6_unsay 15 = .ok (.aload_n 0, 1) := by decide +kernel
theorem dX6_unsay_16 : decode cX6_unsay 16 = .ok (.dup, 1) := by decide +kernel
theorem dX6_unsay_17 : decode cX6_unsay 17 = .ok (.getfield 120, 3) := by decide +kernel
theorem dX6_unsay_20 : decode cX6_unsay 20 = .ok (.iload_n 1, 1) := by decide +kernel
theorem dX6_unsay_21 : decode cX6_unsay 21 = .ok (.isub, 1) := by decide +kernel
theorem dX6_unsay_22 : decode cX6_unsay 22 = .ok (.putfield 120, 3) := by decide +kernel
theorem dX6_unsay_25 : decode cX6_unsay 25 = .ok (.aload_n 0, 1) := by decide +kernel
theorem dX6_unsay_26 : decode cX6_unsay 26 = .ok (.getfield 120, 3) := by decide +kernel
theorem dX6_unsay_29 : decode cX6_unsay 29 = .ok (.ireturn, 1) := by decide +kernel
theorem dX6_butter_0 : decode cX6_butter 0 = .ok (.aload_n 0, 1) := by decide +kernel
theorem dX6_butter_1 : decode cX6_butter 1 = .ok (.iload_n 2, 1) := by decide +kernel
theorem dX6_butter_2 : decode cX6_butter 2 = .ok (.invokevirtual 143, 3) := by decide +kernel
theorem dX6_butter_5 : decode cX6_butter 5 = .ok (.ifCond .eq 11, 3) := by decide +kernel
theorem dX6_butter_8 : decode cX6_butter 8 = .ok (.aload_n 0, 1) := by decide +kernel
theorem dX6_butter_9 : decode cX6_butter 9 = .ok (.iload_n 3, 1) := by decide +kernel
theorem dX6_butter_10 : decode cX6_butter 10 = .ok (.invokevirtual 140, 3) := by decide +kernel
theorem dX6_butter_13 : decode cX6_butter 13 = .ok (.ifCond .ne 5, 3) := by decide +kernel
theorem dX6_butter_16 : decode cX6_butter 16 = .ok (.iconst (-1), 1) := by decide +kernel
theorem dX6_butter_17 : decode cX6_butter 17 = .ok (.ireturn, 1) := by decide +kernel
theorem dX6_butter_18 : decode cX6_butter 18 = .ok (.iload_n 1, 1) := by decide +kernel
theorem dX6_butter_19 : decode cX6_butter 19 = .ok (.invokestatic 146, 3) := by decide +kernel
theorem dX6_butter_22 : decode cX6_butter 22 = .ok (.ifCond .ne 6, 3) := by decide +kernel
theorem dX6_butter_25 : decode cX6_butter 25 = .ok (.bipush (-2), 2) := by decide +kernel
theorem dX6_butter_27 : decode cX6_butter 27 = .ok (.ireturn, 1) := by decide +kernel
theorem dX6_butter_28 : decode cX6_butter 28 = .ok (.aload_n 0, 1) := by decide +kernel
theorem dX6_butter_29 : decode cX6_butter 29 = .ok (.getfield 123, 3) := by decide +kernel
theorem dX6_butter_32 : decode cX6_butter 32 = .ok (.bipush 8, 2) := by decide +kernel
theorem dX6_butter_34 : decode cX6_butter 34 = .ok (.if_icmp .ne 6, 3) := by decide +kernel
theorem dX6_butter_37 : decode cX6_butter 37 = .ok (.bipush (-4), 2) := by decide +kernel
theorem dX6_butter_39 : decode cX6_butter 39 = .ok (.ireturn, 1) := by decide +kernel
theorem dX6_butter_40 : decode cX6_butter 40 = .ok (.aload_n 0, 1) := by decide +kernel
theorem dX6_butter_41 : decode cX6_butter 41 = .ok (.getfield 37, 3) := by decide +kernel
theorem dX6_butter_44 : decode cX6_butter 44 = .ok (.aload_n 0, 1) := by decide +kernel
theorem dX6_butter_45 : decode cX6_butter 45 = .ok (.getfield 123, 3) := by decide +kernel
theorem dX6_butter_48 : decode cX6_butter 48 = .ok (.iload_n 1, 1) := by decide +kernel
theorem dX6_butter_49 : decode cX6_butter 49 = .ok (.iastore, 1) := by decide +kernel
theorem dX6_butter_50 : decode cX6_butter 50 = .ok (.aload_n 0, 1) := by decide +kernel
theorem dX6_butter_51 : decode cX6_butter 51 = .ok (.getfield 40, 3) := by decide +kernel
theorem dX6_butter_54 : decode cX6_butter 54 = .ok (.aload_n 0, 1) := by decide +kernel
theorem dX6_butter_55 : decode cX6_butter 55 = .ok (.getfield 123, 3) := by decide +kernel
theorem dX6_butter_58 : decode cX6_butter 58 = .ok (.iload_n 2, 1) := by decide +kernel
theorem dX6_butter_59 : decode cX6_butter 59 = .ok (.iastore, 1) := by decide +kernel
theorem dX6_butter_60 : decode cX6_butter 60 = .ok (.aload_n 0, 1) := by decide +kernel
theorem dX6_butter_61 : decode cX6_butter 61 = .ok (.getfield 43, 3) := by decide +kernel
theorem dX6_butter_64 : decode cX6_butter 64 = .ok (.aload_n 0, 1) := by decide +kernel
theorem dX6_butter_65 : decode cX6_butter 65 = .ok (.getfield 123, 3) := by decide +kernel
theorem dX6_butter_68 : decode cX6_butter 68 = .ok (.iload_n 3, 1) := by decide +kernel
theorem dX6_butter_69 : decode cX6_butter 69 = .ok (.iastore, 1) := by decide +kernel
theorem dX6_butter_70 : decode cX6_butter 70 = .ok (.aload_n 0, 1) := by decide +kernel
theorem dX6_butter_71 : decode cX6_butter 71 = .ok (.dup, 1) := by decide +kernel
theorem dX6_butter_72 : decode cX6_butter 72 = .ok (.getfield 123, 3) := by decide +kernel
theorem dX6_butter_75 : decode cX6_butter 75 = .ok (.iconst 1, 1) := by decide +kernel
theorem dX6_butter_76 : decode cX6_butter 76 = .ok (.iadd, 1) := by decide +kernel
theorem dX6_butter_77 : decode cX6_butter 77 = .ok (.putfield 123, 3) := by decide +kernel
theorem dX6_butter_80 : decode cX6_butter 80 = .ok (.aload_n 0, 1) := by decide +kernel
theorem dX6_butter_81 : decode cX6_butter 81 = .ok (.getfield 123, 3) := by decide +kernel
theorem dX6_butter_84 : decode cX6_butter 84 = .ok (.iconst 1, 1) := by decide +kernel
theorem dX6_butter_85 : decode cX6_butter 85 = .ok (.isub, 1) := by decide +kernel
theorem dX6_butter_86 : decode cX6_butter 86 = .ok (.ireturn, 1) := by decide +kernel
theorem dX6_melt_0 : decode cX6_melt 0 = .ok (.iload_n 1, 1) := by decide +kernel
theorem dX6_melt_1 : decode cX6_melt 1 = .ok (.iconst 0, 1) := by decide +kernel
theorem dX6_melt_2 : decode cX6_melt 2 = .ok (.aload_n 0, 1) := by decide +kernel
theorem dX6_melt_3 : decode cX6_melt 3 = .ok (.getfield 123, 3) := by decide +kernel
theorem dX6_melt_6 : decode cX6_melt 6 = .ok (.invokestatic 83, 3) := by decide +kernel
theorem dX6_melt_9 : decode cX6_melt 9 = .ok (.ifCond .ne 6, 3) := by decide +kernel
theorem dX6_melt_12 : decode cX6_melt 12 = .ok (.bipush (-2), 2) := by decide +kernel
theorem dX6_melt_14 : decode cX6_melt 14 = .ok (.ireturn, 1) := by decide +kernel
theorem dX6_melt_15 : decode cX6_melt 15 = .ok (.aload_n 0, 1) := by decide +kernel
theorem dX6_melt_16 : decode cX6_melt 16 = .ok (.dup, 1) := by decide +kernel
theorem dX6_melt_17 : decode cX6_melt 17 = .ok (.getfield 123, 3) := by decide +kernel
theorem dX6_melt_20 : decode cX6_melt 20 = .ok (.iload_n 1, 1) := by decide +kernel
theorem dX6_melt_21 : decode cX6_melt 21 = .ok (.isub, 1) := by decide +kernel
theorem dX6_melt_22 : decode cX6_melt 22 = .ok (.putfield 123, 3) := by decide +kernel
theorem dX6_melt_25 : decode cX6_melt 25 = .ok (.aload_n 0, 1) := by decide +kernel
theorem dX6_melt_26 : decode cX6_melt 26 = .ok (.getfield 123, 3) := by decide +kernel
theorem dX6_melt_29 : decode cX6_melt 29 = .ok (.ireturn, 1) := by decide +kernel
theorem dX6_isForgiven_0 : decode cX6_isForgiven 0 = .ok (.iconst 0, 1) := by decide +kernel
theorem dX6_isForgiven_1 : decode cX6_isForgiven 1 = .ok (.istore 4, 2) := by decide +kernel
theorem dX6_isForgiven_3 : decode cX6_isForgiven 3 = .ok (.iload 4, 2) := by decide +kernel
theorem dX6_isForgiven_5 : decode cX6_isForgiven 5 = .ok (.aload_n 0, 1) := by decide +kernel
theorem dX6_isForgiven_6 : decode cX6_isForgiven 6 = .ok (.getfield 123, 3) := by decide +kernel
theorem dX6_isForgiven_9 : decode cX6_isForgiven 9 = .ok (.if_icmp .ge 65, 3) := by decide +kernel
theorem dX6_isForgiven_12 : decode cX6_isForgiven 12 = .ok (.aload_n 0, 1) := by decide +kernel
theorem dX6_isForgiven_13 : decode cX6_isForgiven 13 = .ok (.getfield 43, 3) := by decide +kernel
theorem dX6_isForgiven_16 : decode cX6_isForgiven 16 = .ok (.iload 4, 2) := by decide +kernel
theorem dX6_isForgiven_18 : decode cX6_isForgiven 18 = .ok (.iaload, 1) := by decide +kernel
theorem dX6_isForgiven_19 : decode cX6_isForgiven 19 = .ok (.iload_n 1, 1) := by decide +kernel
theorem dX6_isForgiven_20 : decode cX6_isForgiven 20 = .ok (.if_icmp .ne 48, 3) := by decide +kernel
theorem dX6_isForgiven_23 : decode cX6_isForgiven 23 = .ok (.aload_n 0, 1) := by decide +kernel
theorem dX6_isForgiven_24 : decode cX6_isForgiven 24 = .ok (.getfield 40, 3) := by decide +kernel
theorem dX6_isForgiven_27 : decode cX6_isForgiven 27 = .ok (.iload 4, 2) := by decide +kernel
theorem dX6_isForgiven_29 : decode cX6_isForgiven 29 = .ok (.iaload, 1) := by decide +kernel
theorem dX6_isForgiven_30 : decode cX6_isForgiven 30 = .ok (.aload_n 0, 1) := by decide +kernel
theorem dX6_isForgiven_31 : decode cX6_isForgiven 31 = .ok (.getfield 31, 3) := by decide +kernel
theorem dX6_isForgiven_34 : decode cX6_isForgiven 34 = .ok (.iload_n 2, 1) := by decide +kernel
theorem dX6_isForgiven_35 : decode cX6_isForgiven 35 = .ok (.iaload, 1) := by decide +kernel
theorem dX6_isForgiven_36 : decode cX6_isForgiven 36 = .ok (.if_icmp .ne 32, 3) := by decide +kernel
theorem dX6_isForgiven_39 : decode cX6_isForgiven 39 = .ok (.aload_n 0, 1) := by decide +kernel
theorem dX6_isForgiven_40 : decode cX6_isForgiven 40 = .ok (.getfield 28, 3) := by decide +kernel
theorem dX6_isForgiven_43 : decode cX6_isForgiven 43 = .ok (.iload_n 2, 1) := by decide +kernel
theorem dX6_isForgiven_44 : decode cX6_isForgiven 44 = .ok (.iaload, 1) := by decide +kernel
theorem dX6_isForgiven_45 : decode cX6_isForgiven 45 = .ok (.aload_n 0, 1) := by decide +kernel
theorem dX6_isForgiven_46 : decode cX6_isForgiven 46 = .ok (.getfield 37, 3) := by decide +kernel
theorem dX6_isForgiven_49 : decode cX6_isForgiven 49 = .ok (.iload 4, 2) := by decide +kernel
theorem dX6_isForgiven_51 : decode cX6_isForgiven 51 = .ok (.iaload, 1) := by decide +kernel
theorem dX6_isForgiven_52 : decode cX6_isForgiven 52 = .ok (.if_icmp .gt 16, 3) := by decide +kernel
theorem dX6_isForgiven_55 : decode cX6_isForgiven 55 = .ok (.aload_n 0, 1) := by decide +kernel
theorem dX6_isForgiven_56 : decode cX6_isForgiven 56 = .ok (.getfield 37, 3) := by decide +kernel
theorem dX6_isForgiven_59 : decode cX6_isForgiven 59 = .ok (.iload 4, 2) := by decide +kernel
theorem dX6_isForgiven_61 : decode cX6_isForgiven 61 = .ok (.iaload, 1) := by decide +kernel
theorem dX6_isForgiven_62 : decode cX6_isForgiven 62 = .ok (.iload_n 3, 1) := by decide +kernel
theorem dX6_isForgiven_63 : decode cX6_isForgiven 63 = .ok (.if_icmp .ge 5, 3) := by decide +kernel
theorem dX6_isForgiven_66 : decode cX6_isForgiven 66 = .ok (.iconst 1, 1) := by decide +kernel
theorem dX6_isForgiven_67 : decode cX6_isForgiven 67 = .ok (.ireturn, 1) := by decide +kernel
theorem dX6_isForgiven_68 : decode cX6_isForgiven 68 = .ok (.iinc 4 1, 3) := by decide +kernel
theorem dX6_isForgiven_71 : decode cX6_isForgiven 71 = .ok (.goto (-68), 3) := by decide +kernel
theorem dX6_isForgiven_74 : decode cX6_isForgiven 74 = .ok (.iconst 0, 1) := by decide +kernel
theorem dX6_isForgiven_75 : decode cX6_isForgiven 75 = .ok (.ireturn, 1) := by decide +kernel
theorem dX6_minds_0 : decode cX6_minds 0 = .ok (.aload_n 0, 1) := by decide +kernel
theorem dX6_minds_1 : decode cX6_minds 1 = .ok (.getfield 19, 3) := by decide +kernel
theorem dX6_minds_4 : decode cX6_minds 4 = .ok (.iload_n 1, 1) := by decide +kernel
theorem dX6_minds_5 : decode cX6_minds 5 = .ok (.iaload, 1) := by decide +kernel
theorem dX6_minds_6 : decode cX6_minds 6 = .ok (.iconst 2, 1) := by decide +kernel
theorem dX6_minds_7 : decode cX6_minds 7 = .ok (.if_icmp .ne 14, 3) := by decide +kernel
theorem dX6_minds_10 : decode cX6_minds 10 = .ok (.iconst 2, 1) := by decide +kernel
theorem dX6_minds_11 : decode cX6_minds 11 = .ok (.aload_n 0, 1) := by decide +kernel
theorem dX6_minds_12 : decode cX6_minds 12 = .ok (.getfield 25, 3) := by decide +kernel
theorem dX6_minds_15 : decode cX6_minds 15 = .ok (.iload_n 1, 1) := by decide +kernel
theorem dX6_minds_16 : decode cX6_minds 16 = .ok (.iaload, 1) := by decide +kernel
theorem dX6_minds_17 : decode cX6_minds 17 = .ok (.imul, 1) := by decide +kernel
theorem dX6_minds_18 : decode cX6_minds 18 = .ok (.goto 9, 3) := by decide +kernel
theorem dX6_minds_21 : decode cX6_minds 21 = .ok (.aload_n 0, 1) := by decide +kernel
theorem dX6_minds_22 : decode cX6_minds 22 = .ok (.getfield 25, 3) := by decide +kernel
theorem dX6_minds_25 : decode cX6_minds 25 = .ok (.iload_n 1, 1) := by decide +kernel
theorem dX6_minds_26 : decode cX6_minds 26 = .ok (.iaload, 1) := by decide +kernel
theorem dX6_minds_27 : decode cX6_minds 27 = .ok (.istore 4, 2) := by decide +kernel
theorem dX6_minds_29 : decode cX6_minds 29 = .ok (.iconst 0, 1) := by decide +kernel
theorem dX6_minds_30 : decode cX6_minds 30 = .ok (.istore 5, 2) := by decide +kernel
theorem dX6_minds_32 : decode cX6_minds 32 = .ok (.iload 5, 2) := by decide +kernel
theorem dX6_minds_34 : decode cX6_minds 34 = .ok (.aload_n 0, 1) := by decide +kernel
theorem dX6_minds_35 : decode cX6_minds 35 = .ok (.getfield 120, 3) := by decide +kernel
theorem dX6_minds_38 : decode cX6_minds 38 = .ok (.if_icmp .ge 128, 3) := by decide +kernel
theorem dX6_minds_41 : decode cX6_minds 41 = .ok (.iload_n 1, 1) := by decide +kernel
theorem dX6_minds_42 : decode cX6_minds 42 = .ok (.aload_n 0, 1) := by decide +kernel
theorem dX6_minds_43 : decode cX6_minds 43 = .ok (.getfield 46, 3) := by decide +kernel
theorem dX6_minds_46 : decode cX6_minds 46 = .ok (.if_icmp .eq 120, 3) := by decide +kernel
theorem dX6_minds_49 : decode cX6_minds 49 = .ok (.aload_n 0, 1) := by decide +kernel
theorem dX6_minds_50 : decode cX6_minds 50 = .ok (.getfield 34, 3) := by decide +kernel
theorem dX6_minds_53 : decode cX6_minds 53 = .ok (.iload 5, 2) := by decide +kernel
theorem dX6_minds_55 : decode cX6_minds 55 = .ok (.iaload, 1) := by decide +kernel
theorem dX6_minds_56 : decode cX6_minds 56 = .ok (.iload_n 1, 1) := by decide +kernel
theorem dX6_minds_57 : decode cX6_minds 57 = .ok (.if_icmp .ge 15, 3) := by decide +kernel
theorem dX6_minds_60 : decode cX6_minds 60 = .ok (.iload_n 1, 1) := by decide +kernel
theorem dX6_minds_61 : decode cX6_minds 61 = .ok (.aload_n 0, 1) := by decide +kernel
theorem dX6_minds_62 : decode cX6_minds 62 = .ok (.getfield 34, 3) := by decide +kernel
theorem dX6_minds_65 : decode cX6_minds 65 = .ok (.iload 5, 2) := by decide +kernel
theorem dX6_minds_67 : decode cX6_minds 67 = .ok (.iaload, 1) := by decide +kernel
theorem dX6_minds_68 : decode cX6_minds 68 = .ok (.isub, 1) := by decide +kernel
theorem dX6_minds_69 : decode cX6_minds 69 = .ok (.goto 12, 3) := by decide +kernel
theorem dX6_minds_72 : decode cX6_minds 72 = .ok (.aload_n 0, 1) := by decide +kernel
theorem dX6_minds_73 : decode cX6_minds 73 = .ok (.getfield 34, 3) := by decide +kernel
theorem dX6_minds_76 : decode cX6_minds 76 = .ok (.iload 5, 2) := by decide +kernel
theorem dX6_minds_78 : decode cX6_minds 78 = .ok (.iaload, 1) := by decide +kernel
theorem dX6_minds_79 : decode cX6_minds 79 = .ok (.iload_n 1, 1) := by decide +kernel
theorem dX6_minds_80 : decode cX6_minds 80 = .ok (.isub, 1) := by decide +kernel
theorem dX6_minds_81 : decode cX6_minds 81 = .ok (.istore 6, 2) := by decide +kernel
theorem dX6_minds_83 : decode cX6_minds 83 = .ok (.aload_n 0, 1) := by decide +kernel
theorem dX6_minds_84 : decode cX6_minds 84 = .ok (.getfield 31, 3) := by decide +kernel
theorem dX6_minds_87 : decode cX6_minds 87 = .ok (.iload 5, 2) := by decide +kernel
theorem dX6_minds_89 : decode cX6_minds 89 = .ok (.iaload, 1) := by decide +kernel
theorem dX6_minds_90 : decode cX6_minds 90 = .ok (.iload_n 2, 1) := by decide +kernel
theorem dX6_minds_91 : decode cX6_minds 91 = .ok (.if_icmp .ne 30, 3) := by decide +kernel
theorem dX6_minds_94 : decode cX6_minds 94 = .ok (.aload_n 0, 1) := by decide +kernel
theorem dX6_minds_95 : decode cX6_minds 95 = .ok (.getfield 152, 3) := by decide +kernel
theorem dX6_minds_98 : decode cX6_minds 98 = .ok (.iload 5, 2) := by decide +kernel
theorem dX6_minds_100 : decode cX6_minds 100 = .ok (.ishr, 1) := by decide +kernel
theorem dX6_minds_101 : decode cX6_minds 101 = .ok (.iconst 1, 1) := by decide +kernel
theorem dX6_minds_102 : decode cX6_minds 102 = .ok (.iand, 1) := by decide +kernel
theorem dX6_minds_103 : decode cX6_minds 103 = .ok (.ifCond .ne 18, 3) := by decide +kernel
theorem dX6_minds_106 : decode cX6_minds 106 = .ok (.iload 6, 2) := by decide +kernel
theorem dX6_minds_108 : decode cX6_minds 108 = .ok (.aload_n 0, 1) := by decide +kernel
theorem dX6_minds_109 : decode cX6_minds 109 = .ok (.getfield 22, 3) := by decide +kernel
theorem dX6_minds_112 : decode cX6_minds 112 = .ok (.iload_n 1, 1) := by decide +kernel
theorem dX6_minds_113 : decode cX6_minds 113 = .ok (.iaload, 1) := by decide +kernel
theorem dX6_minds_114 : decode cX6_minds 114 = .ok (.if_icmp .gt 7, 3) := by decide +kernel
theorem dX6_minds_117 : decode cX6_minds 117 = .ok (.iconst 1, 1) := by decide +kernel
theorem dX6_minds_118 : decode cX6_minds 118 = .ok (.goto 4, 3) := by decide +kernel
theorem dX6_minds_121 : decode cX6_minds 121 = .ok (.iconst 0, 1) := by decide +kernel
theorem dX6_minds_122 : decode cX6_minds 122 = .ok (.istore 7, 2) := by decide +kernel
theorem dX6_minds_124 : decode cX6_minds 124 = .ok (.iload 7, 2) := by decide +kernel
theorem dX6_minds_126 : decode cX6_minds 126 = .ok (.ifCond .eq 34, 3) := by decide +kernel
theorem dX6_minds_129 : decode cX6_minds 129 = .ok (.iload_n 3, 1) := by decide +kernel
theorem dX6_minds_130 : decode cX6_minds 130 = .ok (.aload_n 0, 1) := by decide +kernel
theorem dX6_minds_131 : decode cX6_minds 131 = .ok (.getfield 28, 3) := by decide +kernel
theorem dX6_minds_134 : decode cX6_minds 134 = .ok (.iload 5, 2) := by decide +kernel
theorem dX6_minds_136 : decode cX6_minds 136 = .ok (.iaload, 1) := by decide +kernel
theorem dX6_minds_137 : decode cX6_minds 137 = .ok (.isub, 1) := by decide +kernel
theorem dX6_minds_138 : decode cX6_minds 138 = .ok (.iconst 1, 1) := by decide +kernel
theorem dX6_minds_139 : decode cX6_minds 139 = .ok (.iload 4, 2) := by decide +kernel
theorem dX6_minds_141 : decode cX6_minds 141 = .ok (.invokestatic 83, 3) := by decide +kernel
theorem dX6_minds_144 : decode cX6_minds 144 = .ok (.ifCond .eq 16, 3) := by decide +kernel
theorem dX6_minds_147 : decode cX6_minds 147 = .ok (.aload_n 0, 1) := by decide +kernel
theorem dX6_minds_148 : decode cX6_minds 148 = .ok (.iload_n 1, 1) := by decide +kernel
theorem dX6_minds_149 : decode cX6_minds 149 = .ok (.iload 5, 2) := by decide +kernel
theorem dX6_minds_151 : decode cX6_minds 151 = .ok (.iload_n 3, 1) := by decide +kernel
theorem dX6_minds_152 : decode cX6_minds 152 = .ok (.invokevirtual 155, 3) := by decide +kernel
theorem dX6_minds_155 : decode cX6_minds 155 = .ok (.ifCond .ne 5, 3) := by decide +kernel
theorem dX6_minds_158 : decode cX6_minds 158 = .ok (.iconst 1, 1) := by decide +kernel
theorem dX6_minds_159 : decode cX6_minds 159 = .ok (.ireturn, 1) := by decide +kernel
theorem dX6_minds_160 : decode cX6_minds 160 = .ok (.iinc 5 1, 3) := by decide +kernel
theorem dX6_minds_163 : decode cX6_minds 163 = .ok (.goto (-131), 3) := by decide +kernel
theorem dX6_minds_166 : decode cX6_minds 166 = .ok (.iconst 0, 1) := by decide +kernel
theorem dX6_minds_167 : decode cX6_minds 167 = .ok (.ireturn, 1) := by decide +kernel
theorem dX6_doesBear_0 : decode cX6_doesBear 0 = .ok (.iload_n 1, 1) := by decide +kernel
theorem dX6_doesBear_1 : decode cX6_doesBear 1 = .ok (.aload_n 0, 1) := by decide +kernel
theorem dX6_doesBear_2 : decode cX6_doesBear 2 = .ok (.getfield 46, 3) := by decide +kernel
theorem dX6_doesBear_5 : decode cX6_doesBear 5 = .ok (.if_icmp .ne 5, 3) := by decide +kernel
theorem dX6_doesBear_8 : decode cX6_doesBear 8 = .ok (.iconst 1, 1) := by decide +kernel
theorem dX6_doesBear_9 : decode cX6_doesBear 9 = .ok (.ireturn, 1) := by decide +kernel
theorem dX6_doesBear_10 : decode cX6_doesBear 10 = .ok (.aload_n 0, 1) := by decide +kernel
theorem dX6_doesBear_11 : decode cX6_doesBear 11 = .ok (.getfield 19, 3) := by decide +kernel
theorem dX6_doesBear_14 : decode cX6_doesBear 14 = .ok (.iload_n 1, 1) := by decide +kernel
theorem dX6_doesBear_15 : decode cX6_doesBear 15 = .ok (.iaload, 1) := by decide +kernel
theorem dX6_doesBear_16 : decode cX6_doesBear 16 = .ok (.iconst 1, 1) := by decide +kernel
theorem dX6_doesBear_17 : decode cX6_doesBear 17 = .ok (.if_icmp .eq 19, 3) := by decide +kernel
theorem dX6_doesBear_20 : decode cX6_doesBear 20 = .ok (.aload_n 0, 1) := by decide +kernel
theorem dX6_doesBear_21 : decode cX6_doesBear 21 = .ok (.iload_n 1, 1) := by decide +kernel
theorem dX6_doesBear_22 : decode cX6_doesBear 22 = .ok (.iload_n 2, 1) := by decide +kernel
theorem dX6_doesBear_23 : decode cX6_doesBear 23 = .ok (.iload_n 3, 1) := by decide +kernel
theorem dX6_doesBear_24 : decode cX6_doesBear 24 = .ok (.invokevirtual 158, 3) := by decide +kernel
theorem dX6_doesBear_27 : decode cX6_doesBear 27 = .ok (.ifCond .ne 7, 3) := by decide +kernel
theorem dX6_doesBear_30 : decode cX6_doesBear 30 = .ok (.iconst 1, 1) := by decide +kernel
theorem dX6_doesBear_31 : decode cX6_doesBear 31 = .ok (.goto 4, 3) := by decide +kernel
theorem dX6_doesBear_34 : decode cX6_doesBear 34 = .ok (.iconst 0, 1) := by decide +kernel
theorem dX6_doesBear_35 : decode cX6_doesBear 35 = .ok (.ireturn, 1) := by decide +kernel
theorem dX6_doesBear_36 : decode cX6_doesBear 36 = .ok (.iconst 0, 1) := by decide +kernel
theorem dX6_doesBear_37 : decode cX6_doesBear 37 = .ok (.istore 4, 2) := by decide +kernel
theorem dX6_doesBear_39 : decode cX6_doesBear 39 = .ok (.iload 4, 2) := by decide +kernel
theorem dX6_doesBear_41 : decode cX6_doesBear 41 = .ok (.aload_n 0, 1) := by decide +kernel
theorem dX6_doesBear_42 : decode cX6_doesBear 42 = .ok (.getfield 90, 3) := by decide +kernel
theorem dX6_doesBear_45 : decode cX6_doesBear 45 = .ok (.if_icmp .ge 33, 3) := by decide +kernel
theorem dX6_doesBear_48 : decode cX6_doesBear 48 = .ok (.aload_n 0, 1) := by decide +kernel
theorem dX6_doesBear_49 : decode cX6_doesBear 49 = .ok (.getfield 19, 3) := by decide +kernel
theorem dX6_doesBear_52 : decode cX6_doesBear 52 = .ok (.iload 4, 2) := by decide +kernel
theorem dX6_doesBear_54 : decode cX6_doesBear 54 = .ok (.iaload, 1) := by decide +kernel
theorem dX6_doesBear_55 : decode cX6_doesBear 55 = .ok (.iconst 1, 1) := by decide +kernel
theorem dX6_doesBear_56 : decode cX6_doesBear 56 = .ok (.if_icmp .ne 16, 3) := by decide +kernel
theorem dX6_doesBear_59 : decode cX6_doesBear 59 = .ok (.aload_n 0, 1) := by decide +kernel
theorem dX6_doesBear_60 : decode cX6_doesBear 60 = .ok (.iload 4, 2) := by decide +kernel
theorem dX6_doesBear_62 : decode cX6_doesBear 62 = .ok (.iload_n 2, 1) := by decide +kernel
theorem dX6_doesBear_63 : decode cX6_doesBear 63 = .ok (.iload_n 3, 1) := by decide +kernel
theorem dX6_doesBear_64 : decode cX6_doesBear 64 = .ok (.invokevirtual 158, 3) := by decide +kernel
theorem dX6_doesBear_67 : decode cX6_doesBear 67 = .ok (.ifCond .eq 5, 3) := by decide +kernel
theorem dX6_doesBear_70 : decode cX6_doesBear 70 = .ok (.iconst 0, 1) := by decide +kernel
theorem dX6_doesBear_71 : decode cX6_doesBear 71 = .ok (.ireturn, 1) := by decide +kernel
theorem dX6_doesBear_72 : decode cX6_doesBear 72 = .ok (.iinc 4 1, 3) := by decide +kernel
theorem dX6_doesBear_75 : decode cX6_doesBear 75 = .ok (.goto (-36), 3) := by decide +kernel
theorem dX6_doesBear_78 : decode cX6_doesBear 78 = .ok (.iconst 1, 1) := by decide +kernel
theorem dX6_doesBear_79 : decode cX6_doesBear 79 = .ok (.ireturn, 1) := by decide +kernel
theorem dX6_bears_0 : decode cX6_bears 0 = .ok (.aload_n 0, 1) := by decide +kernel
theorem dX6_bears_1 : decode cX6_bears 1 = .ok (.iload_n 1, 1) := by decide +kernel
theorem dX6_bears_2 : decode cX6_bears 2 = .ok (.invokevirtual 140, 3) := by decide +kernel
theorem dX6_bears_5 : decode cX6_bears 5 = .ok (.ifCond .eq 11, 3) := by decide +kernel
theorem dX6_bears_8 : decode cX6_bears 8 = .ok (.aload_n 0, 1) := by decide +kernel
theorem dX6_bears_9 : decode cX6_bears 9 = .ok (.iload_n 2, 1) := by decide +kernel
theorem dX6_bears_10 : decode cX6_bears 10 = .ok (.invokevirtual 143, 3) := by decide +kernel
theorem dX6_bears_13 : decode cX6_bears 13 = .ok (.ifCond .ne 5, 3) := by decide +kernel
theorem dX6_bears_16 : decode cX6_bears 16 = .ok (.iconst (-1), 1) := by decide +kernel
theorem dX6_bears_17 : decode cX6_bears 17 = .ok (.ireturn, 1) := by decide +kernel
theorem dX6_bears_18 : decode cX6_bears 18 = .ok (.iload_n 3, 1) := by decide +kernel
theorem dX6_bears_19 : decode cX6_bears 19 = .ok (.invokestatic 146, 3) := by decide +kernel
theorem dX6_bears_22 : decode cX6_bears 22 = .ok (.ifCond .ne 6, 3) := by decide +kernel
theorem dX6_bears_25 : decode cX6_bears 25 = .ok (.bipush (-2), 2) := by decide +kernel
theorem dX6_bears_27 : decode cX6_bears 27 = .ok (.ireturn, 1) := by decide +kernel
theorem dX6_bears_28 : decode cX6_bears 28 = .ok (.aload_n 0, 1) := by decide +kernel
theorem dX6_bears_29 : decode cX6_bears 29 = .ok (.iload_n 1, 1) := by decide +kernel
theorem dX6_bears_30 : decode cX6_bears 30 = .ok (.iload_n 2, 1) := by decide +kernel
theorem dX6_bears_31 : decode cX6_bears 31 = .ok (.iload_n 3, 1) := by decide +kernel
theorem dX6_bears_32 : decode cX6_bears 32 = .ok (.invokevirtual 161, 3) := by decide +kernel
theorem dX6_bears_35 : decode cX6_bears 35 = .ok (.ifCond .eq 7, 3) := by decide +kernel
theorem dX6_bears_38 : decode cX6_bears 38 = .ok (.iconst 1, 1) := by decide +kernel
theorem dX6_bears_39 : decode cX6_bears 39 = .ok (.goto 4, 3) := by decide +kernel
theorem dX6_bears_42 : decode cX6_bears 42 = .ok (.iconst 0, 1) := by decide +kernel
theorem dX6_bears_43 : decode cX6_bears 43 = .ok (.ireturn, 1) := by decide +kernel
theorem dX6_whom_0 : decode cX6_whom 0 = .ok (.aload_n 0, 1) := by decide +kernel
theorem dX6_whom_1 : decode cX6_whom 1 = .ok (.iload_n 1, 1) := by decide +kernel
theorem dX6_whom_2 : decode cX6_whom 2 = .ok (.invokevirtual 140, 3) := by decide +kernel
theorem dX6_whom_5 : decode cX6_whom 5 = .ok (.ifCond .ne 5, 3) := by decide +kernel
theorem dX6_whom_8 : decode cX6_whom 8 = .ok (.iconst (-1), 1) := by decide +kernel
theorem dX6_whom_9 : decode cX6_whom 9 = .ok (.ireturn, 1) := by decide +kernel
theorem dX6_whom_10 : decode cX6_whom 10 = .ok (.iload_n 2, 1) := by decide +kernel
theorem dX6_whom_11 : decode cX6_whom 11 = .ok (.invokestatic 146, 3) := by decide +kernel
theorem dX6_whom_14 : decode cX6_whom 14 = .ok (.ifCond .ne 6, 3) := by decide +kernel
theorem dX6_whom_17 : decode cX6_whom 17 = .ok (.bipush (-2), 2) := by decide +kernel
theorem dX6_whom_19 : decode cX6_whom 19 = .ok (.ireturn, 1) := by decide +kernel
theorem dX6_whom_20 : decode cX6_whom 20 = .ok (.iconst 0, 1) := by decide +kernel
theorem dX6_whom_21 : decode cX6_whom 21 = .ok (.istore_n 3, 1) := by decide +kernel
theorem dX6_whom_22 : decode cX6_whom 22 = .ok (.iconst 0, 1) := by decide +kernel
theorem dX6_whom_23 : decode cX6_whom 23 = .ok (.istore 4, 2) := by decide +kernel
theorem dX6_whom_25 : decode cX6_whom 25 = .ok (.iload 4, 2) := by decide +kernel
theorem dX6_whom_27 : decode cX6_whom 27 = .ok (.aload_n 0, 1) := by decide +kernel
theorem dX6_whom_28 : decode cX6_whom 28 = .ok (.getfield 87, 3) := by decide +kernel
theorem dX6_whom_31 : decode cX6_whom 31 = .ok (.if_icmp .ge 31, 3) := by decide +kernel
theorem dX6_whom_34 : decode cX6_whom 34 = .ok (.iload_n 3, 1) := by decide +kernel
theorem dX6_whom_35 : decode cX6_whom 35 = .ok (.aload_n 0, 1) := by decide +kernel
theorem dX6_whom_36 : decode cX6_whom 36 = .ok (.iload_n 1, 1) := by decide +kernel
theorem dX6_whom_37 : decode cX6_whom 37 = .ok (.iload 4, 2) := by decide +kernel
theorem dX6_whom_39 : decode cX6_whom 39 = .ok (.iload_n 2, 1) := by decide +kernel
theorem dX6_whom_40 : decode cX6_whom 40 = .ok (.invokevirtual 161, 3) := by decide +kernel
theorem dX6_whom_43 : decode cX6_whom 43 = .ok (.ifCond .eq 10, 3) := by decide +kernel
theorem dX6_whom_46 : decode cX6_whom 46 = .ok (.iconst 1, 1) := by decide +kernel
theorem dX6_whom_47 : decode cX6_whom 47 = .ok (.iload 4, 2) := by decide +kernel
theorem dX6_whom_49 : decode cX6_whom 49 = .ok (.ishl, 1) := by decide +kernel
theorem dX6_whom_50 : decode cX6_whom 50 = .ok (.goto 4, 3) := by decide +kernel
theorem dX6_whom_53 : decode cX6_whom 53 = .ok (.iconst 0, 1) := by decide +kernel
theorem dX6_whom_54 : decode cX6_whom 54 = .ok (.ior, 1) := by decide +kernel
theorem dX6_whom_55 : decode cX6_whom 55 = .ok (.istore_n 3, 1) := by decide +kernel
theorem dX6_whom_56 : decode cX6_whom 56 = .ok (.iinc 4 1, 3) := by decide +kernel
theorem dX6_whom_59 : decode cX6_whom 59 = .ok (.goto (-34), 3) := by decide +kernel
theorem dX6_whom_62 : decode cX6_whom 62 = .ok (.iload_n 3, 1) := by decide +kernel
theorem dX6_whom_63 : decode cX6_whom 63 = .ok (.ireturn, 1) := by decide +kernel
theorem dX6_layDinner_0 : decode cX6_layDinner 0 = .ok (.iconst 0, 1) := by decide +kernel
theorem dX6_layDinner_1 : decode cX6_layDinner 1 = .ok (.istore_n 2, 1) := by decide +kernel
theorem dX6_layDinner_2 : decode cX6_layDinner 2 = .ok (.iload_n 2, 1) := by decide +kernel
theorem dX6_layDinner_3 : decode cX6_layDinner 3 = .ok (.aload_n 0, 1) := by decide +kernel
theorem dX6_layDinner_4 : decode cX6_layDinner 4 = .ok (.getfield 87, 3) := by decide +kernel
theorem dX6_layDinner_7 : decode cX6_layDinner 7 = .ok (.if_icmp .ge 58, 3) := by decide +kernel
theorem dX6_layDinner_10 : decode cX6_layDinner 10 = .ok (.aload_n 0, 1) := by decide +kernel
theorem dX6_layDinner_11 : decode cX6_layDinner 11 = .ok (.getfield 53, 3) := by decide +kernel
theorem dX6_layDinner_14 : decode cX6_layDinner 14 = .ok (.iload_n 2, 1) := by decide +kernel
theorem dX6_layDinner_15 : decode cX6_layDinner 15 = .ok (.iconst 0, 1) := by decide +kernel
theorem dX6_layDinner_16 : decode cX6_layDinner 16 = .ok (.iastore, 1) := by decide +kernel
theorem dX6_layDinner_17 : decode cX6_layDinner 17 = .ok (.iconst 0, 1) := by decide +kernel
theorem dX6_layDinner_18 : decode cX6_layDinner 18 = .ok (.istore_n 3, 1) := by decide +kernel
theorem dX6_layDinner_19 : decode cX6_layDinner 19 = .ok (.iload_n 3, 1) := by decide +kernel
theorem dX6_layDinner_20 : decode cX6_layDinner 20 = .ok (.aload_n 0, 1) := by decide +kernel
theorem dX6_layDinner_21 : decode cX6_layDinner 21 = .ok (.getfield 90, 3) := by decide +kernel
theorem dX6_layDinner_24 : decode cX6_layDinner 24 = .ok (.if_icmp .ge 35, 3) := by decide +kernel
theorem dX6_layDinner_27 : decode cX6_layDinner 27 = .ok (.aload_n 0, 1) := by decide +kernel
theorem dX6_layDinner_28 : decode cX6_layDinner 28 = .ok (.getfield 53, 3) := by decide +kernel
theorem dX6_layDinner_31 : decode cX6_layDinner 31 = .ok (.iload_n 2, 1) := by decide +kernel
theorem dX6_layDinner_32 : decode cX6_layDinner 32 = .ok (.dup2, 1) := by decide +kernel
theorem dX6_layDinner_33 : decode cX6_layDinner 33 = .ok (.iaload, 1) := by decide +kernel
theorem dX6_layDinner_34 : decode cX6_layDinner 34 = .ok (.aload_n 0, 1) := by decide +kernel
theorem dX6_layDinner_35 : decode cX6_layDinner 35 = .ok (.iload_n 3, 1) := by decide +kernel
theorem dX6_layDinner_36 : decode cX6_layDinner 36 = .ok (.iload_n 2, 1) := by decide +kernel
theorem dX6_layDinner_37 : decode cX6_layDinner 37 = .ok (.iload_n 1, 1) := by decide +kernel
theorem dX6_layDinner_38 : decode cX6_layDinner 38 = .ok (.invokevirtual 161, 3) := by decide +kernel
theorem dX6_layDinner_41 : decode cX6_layDinner 41 = .ok (.ifCond .eq 9, 3) := by decide +kernel
theorem dX6_layDinner_44 : decode cX6_layDinner 44 = .ok (.iconst 1, 1) := by decide +kernel
theorem dX6_layDinner_45 : decode cX6_layDinner 45 = .ok (.iload_n 3, 1) := by decide +kernel
theorem dX6_layDinner_46 : decode cX6_layDinner 46 = .ok (.ishl, 1) := by decide +kernel
theorem dX6_layDinner_47 : decode cX6_layDinner 47 = .ok (.goto 4, 3) := by decide +kernel
theorem dX6_layDinner_50 : decode cX6_layDinner 50 = .ok (.iconst 0, 1) := by decide +kernel
theorem dX6_layDinner_51 : decode cX6_layDinner 51 = .ok (.ior, 1) := by decide +kernel
theorem dX6_layDinner_52 : decode cX6_layDinner 52 = .ok (.iastore, 1) := by decide +kernel
theorem dX6_layDinner_53 : decode cX6_layDinner 53 = .ok (.iinc 3 1, 3) := by decide +kernel
theorem dX6_layDinner_56 : decode cX6_layDinner 56 = .ok (.goto (-37), 3) := by decide +kernel
theorem dX6_layDinner_59 : decode cX6_layDinner 59 = .ok (.iinc 2 1, 3) := by decide +kernel
theorem dX6_layDinner_62 : decode cX6_layDinner 62 = .ok (.goto (-60), 3) := by decide +kernel
theorem dX6_layDinner_65 : decode cX6_layDinner 65 = .ok (.return_, 1) := by decide +kernel
theorem dX6_size_0 : decode cX6_size 0 = .ok (.iconst 0, 1) := by decide +kernel
theorem dX6_size_1 : decode cX6_size 1 = .ok (.istore_n 1, 1) := by decide +kernel
theorem dX6_size_2 : decode cX6_size 2 = .ok (.iload_n 0, 1) := by decide +kernel
theorem dX6_size_3 : decode cX6_size 3 = .ok (.istore_n 2, 1) := by decide +kernel
theorem dX6_size_4 : decode cX6_size 4 = .ok (.iload_n 2, 1) := by decide +kernel
theorem dX6_size_5 : decode cX6_size 5 = .ok (.ifCond .le 16, 3) := by decide +kernel
theorem dX6_size_8 : decode cX6_size 8 = .ok (.iload_n 1, 1) := by decide +kernel
theorem dX6_size_9 : decode cX6_size 9 = .ok (.iload_n 2, 1) := by decide +kernel
theorem dX6_size_10 : decode cX6_size 10 = .ok (.iconst 1, 1) := by decide +kernel
theorem dX6_size_11 : decode cX6_size 11 = .ok (.iand, 1) := by decide +kernel
theorem dX6_size_12 : decode cX6_size 12 = .ok (.iadd, 1) := by decide +kernel
theorem dX6_size_13 : decode cX6_size 13 = .ok (.istore_n 1, 1) := by decide +kernel
theorem dX6_size_14 : decode cX6_size 14 = .ok (.iload_n 2, 1) := by decide +kernel
theorem dX6_size_15 : decode cX6_size 15 = .ok (.iconst 1, 1) := by decide +kernel
theorem dX6_size_16 : decode cX6_size 16 = .ok (.ishr, 1) := by decide +kernel
theorem dX6_size_17 : decode cX6_size 17 = .ok (.istore_n 2, 1) := by decide +kernel
theorem dX6_size_18 : decode cX6_size 18 = .ok (.goto (-14), 3) := by decide +kernel
theorem dX6_size_21 : decode cX6_size 21 = .ok (.iload_n 1, 1) := by decide +kernel
theorem dX6_size_22 : decode cX6_size 22 = .ok (.ireturn, 1) := by decide +kernel
theorem dX6_mostSit_0 : decode cX6_mostSit 0 = .ok (.iconst 0, 1) := by decide +kernel
theorem dX6_mostSit_1 : decode cX6_mostSit 1 = .ok (.istore_n 1, 1) := by decide +kernel
theorem dX6_mostSit_2 : decode cX6_mostSit 2 = .ok (.iload_n 1, 1) := by decide +kernel
theorem dX6_mostSit_3 : decode cX6_mostSit 3 = .ok (.bipush 32, 2) := by decide +kernel
theorem dX6_mostSit_5 : decode cX6_mostSit 5 = .ok (.if_icmp .ge 24, 3) := by decide +kernel
theorem dX6_mostSit_8 : decode cX6_mostSit 8 = .ok (.aload_n 0, 1) := by decide +kernel
theorem dX6_mostSit_9 : decode cX6_mostSit 9 = .ok (.getfield 56, 3) := by decide +kernel
theorem dX6_mostSit_12 : decode cX6_mostSit 12 = .ok (.iload_n 1, 1) := by decide +kernel
theorem dX6_mostSit_13 : decode cX6_mostSit 13 = .ok (.iload_n 1, 1) := by decide +kernel
theorem dX6_mostSit_14 : decode cX6_mostSit 14 = .ok (.ifCond .ne 7, 3) := by decide +kernel
theorem dX6_mostSit_17 : decode cX6_mostSit 17 = .ok (.iconst 1, 1) := by decide +kernel
theorem dX6_mostSit_18 : decode cX6_mostSit 18 = .ok (.goto 4, 3) := by decide +kernel
theorem dX6_mostSit_21 : decode cX6_mostSit 21 = .ok (.iconst 0, 1) := by decide +kernel
theorem dX6_mostSit_22 : decode cX6_mostSit 22 = .ok (.bastore, 1) := by decide +kernel
theorem dX6_mostSit_23 : decode cX6_mostSit 23 = .ok (.iinc 1 1, 3) := by decide +kernel
theorem dX6_mostSit_26 : decode cX6_mostSit 26 = .ok (.goto (-24), 3) := by decide +kernel
theorem dX6_mostSit_29 : decode cX6_mostSit 29 = .ok (.iconst 0, 1) := by decide +kernel
theorem dX6_mostSit_30 : decode cX6_mostSit 30 = .ok (.istore_n 1, 1) := by decide +kernel
theorem dX6_mostSit_31 : decode cX6_mostSit 31 = .ok (.iload_n 1, 1) := by decide +kernel
theorem dX6_mostSit_32 : decode cX6_mostSit 32 = .ok (.aload_n 0, 1) := by decide +kernel
theorem dX6_mostSit_33 : decode cX6_mostSit 33 = .ok (.getfield 87, 3) := by decide +kernel
theorem dX6_mostSit_36 : decode cX6_mostSit 36 = .ok (.if_icmp .ge 80, 3) := by decide +kernel
theorem dX6_mostSit_39 : decode cX6_mostSit 39 = .ok (.bipush 31, 2) := by decide +kernel
theorem dX6_mostSit_41 : decode cX6_mostSit 41 = .ok (.istore_n 2, 1) := by decide +kernel
theorem dX6_mostSit_42 : decode cX6_mostSit 42 = .ok (.iload_n 2, 1) := by decide +kernel
theorem dX6_mostSit_43 : decode cX6_mostSit 43 = .ok (.ifCond .lt 67, 3) := by decide +kernel
theorem dX6_mostSit_46 : decode cX6_mostSit 46 = .ok (.iconst 0, 1) := by decide +kernel
theorem dX6_mostSit_47 : decode cX6_mostSit 47 = .ok (.istore_n 3, 1) := by decide +kernel
theorem dX6_mostSit_48 : decode cX6_mostSit 48 = .ok (.iload_n 3, 1) := by decide +kernel
theorem dX6_mostSit_49 : decode cX6_mostSit 49 = .ok (.aload_n 0, 1) := by decide +kernel
theorem dX6_mostSit_50 : decode cX6_mostSit 50 = .ok (.getfield 90, 3) := by decide +kernel
theorem dX6_mostSit_53 : decode cX6_mostSit 53 = .ok (.if_icmp .ge 51, 3) := by decide +kernel
theorem dX6_mostSit_56 : decode cX6_mostSit 56 = .ok (.aload_n 0, 1) := by decide +kernel
theorem dX6_mostSit_57 : decode cX6_mostSit 57 = .ok (.getfield 56, 3) := by decide +kernel
theorem dX6_mostSit_60 : decode cX6_mostSit 60 = .ok (.iload_n 2, 1) := by decide +kernel
theorem dX6_mostSit_61 : decode cX6_mostSit 61 = .ok (.baload, 1) := by decide +kernel
theorem dX6_mostSit_62 : decode cX6_mostSit 62 = .ok (.ifCond .eq 42, 3) := by decide +kernel
theorem dX6_mostSit_65 : decode cX6_mostSit 65 = .ok (.iload_n 2, 1) := by decide +kernel
theorem dX6_mostSit_66 : decode cX6_mostSit 66 = .ok (.iload_n 3, 1) := by decide +kernel
theorem dX6_mostSit_67 : decode cX6_mostSit 67 = .ok (.ishr, 1) := by decide +kernel
theorem dX6_mostSit_68 : decode cX6_mostSit 68 = .ok (.iconst 1, 1) := by decide +kernel
theorem dX6_mostSit_69 : decode cX6_mostSit 69 = .ok (.iand, 1) := by decide +kernel
theorem dX6_mostSit_70 : decode cX6_mostSit 70 = .ok (.ifCond .ne 28, 3) := by decide +kernel
theorem dX6_mostSit_73 : decode cX6_mostSit 73 = .ok (.aload_n 0, 1) := by decide +kernel
theorem dX6_mostSit_74 : decode cX6_mostSit 74 = .ok (.getfield 53, 3) := by decide +kernel
theorem dX6_mostSit_77 : decode cX6_mostSit 77 = .ok (.iload_n 1, 1) := by decide +kernel
theorem dX6_mostSit_78 : decode cX6_mostSit 78 = .ok (.iaload, 1) := by decide +kernel
theorem dX6_mostSit_79 : decode cX6_mostSit 79 = .ok (.iload_n 3, 1) := by decide +kernel
theorem dX6_mostSit_80 : decode cX6_mostSit 80 = .ok (.ishr, 1) := by decide +kernel
theorem dX6_mostSit_81 : decode cX6_mostSit 81 = .ok (.iconst 1, 1) := by decide +kernel
theorem dX6_mostSit_82 : decode cX6_mostSit 82 = .ok (.iand, 1) := by decide +kernel
theorem dX6_mostSit_83 : decode cX6_mostSit 83 = .ok (.iconst 1, 1) := by decide +kernel
theorem dX6_mostSit_84 : decode cX6_mostSit 84 = .ok (.if_icmp .ne 14, 3) := by decide +kernel
theorem dX6_mostSit_87 : decode cX6_mostSit 87 = .ok (.aload_n 0, 1) := by decide +kernel
theorem dX6_mostSit_88 : decode cX6_mostSit 88 = .ok (.getfield 56, 3) := by decide +kernel
theorem dX6_mostSit_91 : decode cX6_mostSit 91 = .ok (.iload_n 2, 1) := by decide +kernel
theorem dX6_mostSit_92 : decode cX6_mostSit 92 = .ok (.iconst 1, 1) := by decide +kernel
theorem dX6_mostSit_93 : decode cX6_mostSit 93 = .ok (.iload_n 3, 1) := by decide +kernel
theorem dX6_mostSit_94 : decode cX6_mostSit 94 = .ok (.ishl, 1) := by decide +kernel
theorem dX6_mostSit_95 : decode cX6_mostSit 95 = .ok (.ior, 1) := by decide +kernel
theorem dX6_mostSit_96 : decode cX6_mostSit 96 = .ok (.iconst 1, 1) := by decide +kernel
theorem dX6_mostSit_97 : decode cX6_mostSit 97 = .ok (.bastore, 1) := by decide +kernel
theorem dX6_mostSit_98 : decode cX6_mostSit 98 = .ok (.iinc 3 1, 3) := by decide +kernel
theorem dX6_mostSit_101 : decode cX6_mostSit 101 = .ok (.goto (-53), 3) := by decide +kernel
theorem dX6_mostSit_104 : decode cX6_mostSit 104 = .ok (.iinc 2 (-1), 3) := by decide +kernel
theorem dX6_mostSit_107 : decode cX6_mostSit 107 = .ok (.goto (-65), 3) := by decide +kernel
theorem dX6_mostSit_110 : decode cX6_mostSit 110 = .ok (.iinc 1 1, 3) := by decide +kernel
theorem dX6_mostSit_113 : decode cX6_mostSit 113 = .ok (.goto (-82), 3) := by decide +kernel
theorem dX6_mostSit_116 : decode cX6_mostSit 116 = .ok (.iconst 0, 1) := by decide +kernel
theorem dX6_mostSit_117 : decode cX6_mostSit 117 = .ok (.istore_n 1, 1) := by decide +kernel
theorem dX6_mostSit_118 : decode cX6_mostSit 118 = .ok (.iconst 0, 1) := by decide +kernel
theorem dX6_mostSit_119 : decode cX6_mostSit 119 = .ok (.istore_n 2, 1) := by decide +kernel
theorem dX6_mostSit_120 : decode cX6_mostSit 120 = .ok (.iload_n 2, 1) := by decide +kernel
theorem dX6_mostSit_121 : decode cX6_mostSit 121 = .ok (.bipush 32, 2) := by decide +kernel
theorem dX6_mostSit_123 : decode cX6_mostSit 123 = .ok (.if_icmp .ge 35, 3) := by decide +kernel
theorem dX6_mostSit_126 : decode cX6_mostSit 126 = .ok (.aload_n 0, 1) := by decide +kernel
theorem dX6_mostSit_127 : decode cX6_mostSit 127 = .ok (.getfield 56, 3) := by decide +kernel
theorem dX6_mostSit_130 : decode cX6_mostSit 130 = .ok (.iload_n 2, 1) := by decide +kernel
theorem dX6_mostSit_131 : decode cX6_mostSit 131 = .ok (.baload, 1) := by decide +kernel
theorem dX6_mostSit_132 : decode cX6_mostSit 132 = .ok (.ifCond .eq 18, 3) := by decide +kernel
theorem dX6_mostSit_135 : decode cX6_mostSit 135 = .ok (.iload_n 2, 1) := by decide +kernel
theorem dX6_mostSit_136 : decode cX6_mostSit 136 = .ok (.invokestatic 164, 3) := by decide +kernel
theorem dX6_mostSit_139 : decode cX6_mostSit 139 = .ok (.iload_n 1, 1) := by decide +kernel
theorem dX6_mostSit_140 : decode cX6_mostSit 140 = .ok (.if_icmp .le 10, 3) := by decide +kernel
theorem dX6_mostSit_143 : decode cX6_mostSit 143 = .ok (.iload_n 2, 1) := by decide +kernel
theorem dX6_mostSit_144 : decode cX6_mostSit 144 = .ok (.invokestatic 164, 3) := by decide +kernel
theorem dX6_mostSit_147 : decode cX6_mostSit 147 = .ok (.goto 4, 3) := by decide +kernel
theorem dX6_mostSit_150 : decode cX6_mostSit 150 = .ok (.iload_n 1, 1) := by decide +kernel
theorem dX6_mostSit_151 : decode cX6_mostSit 151 = .ok (.istore_n 1, 1) := by decide +kernel
theorem dX6_mostSit_152 : decode cX6_mostSit 152 = .ok (.iinc 2 1, 3) := by decide +kernel
theorem dX6_mostSit_155 : decode cX6_mostSit 155 = .ok (.goto (-35), 3) := by decide +kernel
theorem dX6_mostSit_158 : decode cX6_mostSit 158 = .ok (.iload_n 1, 1) := by decide +kernel
theorem dX6_mostSit_159 : decode cX6_mostSit 159 = .ok (.ireturn, 1) := by decide +kernel
theorem dX6_layRow_0 : decode cX6_layRow 0 = .ok (.iload_n 1, 1) := by decide +kernel
theorem dX6_layRow_1 : decode cX6_layRow 1 = .ok (.istore_n 3, 1) := by decide +kernel
theorem dX6_layRow_2 : decode cX6_layRow 2 = .ok (.iconst 0, 1) := by decide +kernel
theorem dX6_layRow_3 : decode cX6_layRow 3 = .ok (.istore 4, 2) := by decide +kernel
theorem dX6_layRow_5 : decode cX6_layRow 5 = .ok (.iconst 1, 1) := by decide +kernel
theorem dX6_layRow_6 : decode cX6_layRow 6 = .ok (.istore 5, 2) := by decide +kernel
theorem dX6_layRow_8 : decode cX6_layRow 8 = .ok (.aload_n 0, 1) := by decide +kernel
theorem dX6_layRow_9 : decode cX6_layRow 9 = .ok (.getfield 87, 3) := by decide +kernel
theorem dX6_layRow_12 : decode cX6_layRow 12 = .ok (.iconst 1, 1) := by decide +kernel
theorem dX6_layRow_13 : decode cX6_layRow 13 = .ok (.isub, 1) := by decide +kernel
theorem dX6_layRow_14 : decode cX6_layRow 14 = .ok (.istore 6, 2) := by decide +kernel
theorem dX6_layRow_16 : decode cX6_layRow 16 = .ok (.iload 6, 2) := by decide +kernel
theorem dX6_layRow_18 : decode cX6_layRow 18 = .ok (.ifCond .lt 78, 3) := by decide +kernel
theorem dX6_layRow_21 : decode cX6_layRow 21 = .ok (.aload_n 0, 1) := by decide +kernel
theorem dX6_layRow_22 : decode cX6_layRow 22 = .ok (.getfield 60, 3) := by decide +kernel
theorem dX6_layRow_25 : decode cX6_layRow 25 = .ok (.iload 6, 2) := by decide +kernel
theorem dX6_layRow_27 : decode cX6_layRow 27 = .ok (.iload_n 3, 1) := by decide +kernel
theorem dX6_layRow_28 : decode cX6_layRow 28 = .ok (.iload_n 2, 1) := by decide +kernel
theorem dX6_layRow_29 : decode cX6_layRow 29 = .ok (.irem, 1) := by decide +kernel
theorem dX6_layRow_30 : decode cX6_layRow 30 = .ok (.iastore, 1) := by decide +kernel
theorem dX6_layRow_31 : decode cX6_layRow 31 = .ok (.iload_n 3, 1) := by decide +kernel
theorem dX6_layRow_32 : decode cX6_layRow 32 = .ok (.iload_n 2, 1) := by decide +kernel
theorem dX6_layRow_33 : decode cX6_layRow 33 = .ok (.idiv, 1) := by decide +kernel
theorem dX6_layRow_34 : decode cX6_layRow 34 = .ok (.istore_n 3, 1) := by decide +kernel
theorem dX6_layRow_35 : decode cX6_layRow 35 = .ok (.iload 5, 2) := by decide +kernel
theorem dX6_layRow_37 : decode cX6_layRow 37 = .ok (.ifCond .eq 36, 3) := by decide +kernel
theorem dX6_layRow_40 : decode cX6_layRow 40 = .ok (.aload_n 0, 1) := by decide +kernel
theorem dX6_layRow_41 : decode cX6_layRow 41 = .ok (.getfield 60, 3) := by decide +kernel
theorem dX6_layRow_44 : decode cX6_layRow 44 = .ok (.iload 6, 2) := by decide +kernel
theorem dX6_layRow_46 : decode cX6_layRow 46 = .ok (.iaload, 1) := by decide +kernel
theorem dX6_layRow_47 : decode cX6_layRow 47 = .ok (.aload_n 0, 1) := by decide +kernel
theorem dX6_layRow_48 : decode cX6_layRow 48 = .ok (.getfield 90, 3) := by decide +kernel
theorem dX6_layRow_51 : decode cX6_layRow 51 = .ok (.if_icmp .eq 18, 3) := by decide +kernel
theorem dX6_layRow_54 : decode cX6_layRow 54 = .ok (.iload 4, 2) := by decide +kernel
theorem dX6_layRow_56 : decode cX6_layRow 56 = .ok (.aload_n 0, 1) := by decide +kernel
theorem dX6_layRow_57 : decode cX6_layRow 57 = .ok (.getfield 60, 3) := by decide +kernel
theorem dX6_layRow_60 : decode cX6_layRow 60 = .ok (.iload 6, 2) := by decide +kernel
theorem dX6_layRow_62 : decode cX6_layRow 62 = .ok (.iaload, 1) := by decide +kernel
theorem dX6_layRow_63 : decode cX6_layRow 63 = .ok (.ishr, 1) := by decide +kernel
theorem dX6_layRow_64 : decode cX6_layRow 64 = .ok (.iconst 1, 1) := by decide +kernel
theorem dX6_layRow_65 : decode cX6_layRow 65 = .ok (.iand, 1) := by decide +kernel
theorem dX6_layRow_66 : decode cX6_layRow 66 = .ok (.ifCond .ne 7, 3) := by decide +kernel
theorem dX6_layRow_69 : decode cX6_layRow 69 = .ok (.iconst 1, 1) := by decide +kernel
theorem dX6_layRow_70 : decode cX6_layRow 70 = .ok (.goto 4, 3) := by decide +kernel
theorem dX6_layRow_73 : decode cX6_layRow 73 = .ok (.iconst 0, 1) := by decide +kernel
theorem dX6_layRow_74 : decode cX6_layRow 74 = .ok (.istore 5, 2) := by decide +kernel
theorem dX6_layRow_76 : decode cX6_layRow 76 = .ok (.iload 4, 2) := by decide +kernel
theorem dX6_layRow_78 : decode cX6_layRow 78 = .ok (.iconst 1, 1) := by decide +kernel
theorem dX6_layRow_79 : decode cX6_layRow 79 = .ok (.aload_n 0, 1) := by decide +kernel
theorem dX6_layRow_80 : decode cX6_layRow 80 = .ok (.getfield 60, 3) := by decide +kernel
theorem dX6_layRow_83 : decode cX6_layRow 83 = .ok (.iload 6, 2) := by decide +kernel
theorem dX6_layRow_85 : decode cX6_layRow 85 = .ok (.iaload, 1) := by decide +kernel
theorem dX6_layRow_86 : decode cX6_layRow 86 = .ok (.ishl, 1) := by decide +kernel
theorem dX6_layRow_87 : decode cX6_layRow 87 = .ok (.ior, 1) := by decide +kernel
theorem dX6_layRow_88 : decode cX6_layRow 88 = .ok (.istore 4, 2) := by decide +kernel
theorem dX6_layRow_90 : decode cX6_layRow 90 = .ok (.iinc 6 (-1), 3) := by decide +kernel
theorem dX6_layRow_93 : decode cX6_layRow 93 = .ok (.goto (-77), 3) := by decide +kernel
theorem dX6_layRow_96 : decode cX6_layRow 96 = .ok (.iload 5, 2) := by decide +kernel
theorem dX6_layRow_98 : decode cX6_layRow 98 = .ok (.ireturn, 1) := by decide +kernel
theorem dX6_rowsOf_0 : decode cX6_rowsOf 0 = .ok (.iconst 1, 1) := by decide +kernel
theorem dX6_rowsOf_1 : decode cX6_rowsOf 1 = .ok (.istore_n 2, 1) := by decide +kernel
theorem dX6_rowsOf_2 : decode cX6_rowsOf 2 = .ok (.iconst 0, 1) := by decide +kernel
theorem dX6_rowsOf_3 : decode cX6_rowsOf 3 = .ok (.istore_n 3, 1) := by decide +kernel
theorem dX6_rowsOf_4 : decode cX6_rowsOf 4 = .ok (.iload_n 3, 1) := by decide +kernel
theorem dX6_rowsOf_5 : decode cX6_rowsOf 5 = .ok (.aload_n 0, 1) := by decide +kernel
theorem dX6_rowsOf_6 : decode cX6_rowsOf 6 = .ok (.getfield 87, 3) := by decide +kernel
theorem dX6_rowsOf_9 : decode cX6_rowsOf 9 = .ok (.if_icmp .ge 13, 3) := by decide +kernel
theorem dX6_rowsOf_12 : decode cX6_rowsOf 12 = .ok (.iload_n 2, 1) := by decide +kernel
theorem dX6_rowsOf_13 : decode cX6_rowsOf 13 = .ok (.iload_n 1, 1) := by decide +kernel
theorem dX6_rowsOf_14 : decode cX6_rowsOf 14 = .ok (.imul, 1) := by decide +kernel
theorem dX6_rowsOf_15 : decode cX6_rowsOf 15 = .ok (.istore_n 2, 1) := by decide +kernel
theorem dX6_rowsOf_16 : decode cX6_rowsOf 16 = .ok (.iinc 3 1, 3) := by decide +kernel
theorem dX6_rowsOf_19 : decode cX6_rowsOf 19 = .ok (.goto (-15), 3) := by decide +kernel
theorem dX6_rowsOf_22 : decode cX6_rowsOf 22 = .ok (.iload_n 2, 1) := by decide +kernel
theorem dX6_rowsOf_23 : decode cX6_rowsOf 23 = .ok (.ireturn, 1) := by decide +kernel
theorem dX6_sitBy_0 : decode cX6_sitBy 0 = .ok (.iconst 0, 1) := by decide +kernel
theorem dX6_sitBy_1 : decode cX6_sitBy 1 = .ok (.istore_n 1, 1) := by decide +kernel
theorem dX6_sitBy_2 : decode cX6_sitBy 2 = .ok (.iconst 0, 1) := by decide +kernel
theorem dX6_sitBy_3 : decode cX6_sitBy 3 = .ok (.istore_n 2, 1) := by decide +kernel
theorem dX6_sitBy_4 : decode cX6_sitBy 4 = .ok (.iload_n 2, 1) := by decide +kernel
theorem dX6_sitBy_5 : decode cX6_sitBy 5 = .ok (.aload_n 0, 1) := by decide +kernel
theorem dX6_sitBy_6 : decode cX6_sitBy 6 = .ok (.getfield 87, 3) := by decide +kernel
theorem dX6_sitBy_9 : decode cX6_sitBy 9 = .ok (.if_icmp .ge 46, 3) := by decide +kernel
theorem dX6_sitBy_12 : decode cX6_sitBy 12 = .ok (.aload_n 0, 1) := by decide +kernel
theorem dX6_sitBy_13 : decode cX6_sitBy 13 = .ok (.getfield 60, 3) := by decide +kernel
theorem dX6_sitBy_16 : decode cX6_sitBy 16 = .ok (.iload_n 2, 1) := by decide +kernel
theorem dX6_sitBy_17 : decode cX6_sitBy 17 = .ok (.iaload, 1) := by decide +kernel
theorem dX6_sitBy_18 : decode cX6_sitBy 18 = .ok (.aload_n 0, 1) := by decide +kernel
theorem dX6_sitBy_19 : decode cX6_sitBy 19 = .ok (.getfield 90, 3) := by decide +kernel
theorem dX6_sitBy_22 : decode cX6_sitBy 22 = .ok (.if_icmp .eq 27, 3) := by decide +kernel
theorem dX6_sitBy_25 : decode cX6_sitBy 25 = .ok (.aload_n 0, 1) := by decide +kernel
theorem dX6_sitBy_26 : decode cX6_sitBy 26 = .ok (.getfield 53, 3) := by decide +kernel
theorem dX6_sitBy_29 : decode cX6_sitBy 29 = .ok (.iload_n 2, 1) := by decide +kernel
theorem dX6_sitBy_30 : decode cX6_sitBy 30 = .ok (.iaload, 1) := by decide +kernel
theorem dX6_sitBy_31 : decode cX6_sitBy 31 = .ok (.aload_n 0, 1) := by decide +kernel
theorem dX6_sitBy_32 : decode cX6_sitBy 32 = .ok (.getfield 60, 3) := by decide +kernel
theorem dX6_sitBy_35 : decode cX6_sitBy 35 = .ok (.iload_n 2, 1) := by decide +kernel
theorem dX6_sitBy_36 : decode cX6_sitBy 36 = .ok (.iaload, 1) := by decide +kernel
theorem dX6_sitBy_37 : decode cX6_sitBy 37 = .ok (.ishr, 1) := by decide +kernel
theorem dX6_sitBy_38 : decode cX6_sitBy 38 = .ok (.iconst 1, 1) := by decide +kernel
theorem dX6_sitBy_39 : decode cX6_sitBy 39 = .ok (.iand, 1) := by decide +kernel
theorem dX6_sitBy_40 : decode cX6_sitBy 40 = .ok (.ifCond .ne 6, 3) := by decide +kernel
theorem dX6_sitBy_43 : decode cX6_sitBy 43 = .ok (.bipush (-9), 2) := by decide +kernel
theorem dX6_sitBy_45 : decode cX6_sitBy 45 = .ok (.ireturn, 1) := by decide +kernel
theorem dX6_sitBy_46 : decode cX6_sitBy 46 = .ok (.iinc 1 1, 3) := by decide +kernel
theorem dX6_sitBy_49 : decode cX6_sitBy 49 = .ok (.iinc 2 1, 3) := by decide +kernel
theorem dX6_sitBy_52 : decode cX6_sitBy 52 = .ok (.goto (-48), 3) := by decide +kernel
theorem dX6_sitBy_55 : decode cX6_sitBy 55 = .ok (.iload_n 1, 1) := by decide +kernel
theorem dX6_sitBy_56 : decode cX6_sitBy 56 = .ok (.ireturn, 1) := by decide +kernel
theorem dX6_keepRow_0 : decode cX6_keepRow 0 = .ok (.iconst 0, 1) := by decide +kernel
theorem dX6_keepRow_1 : decode cX6_keepRow 1 = .ok (.istore_n 1, 1) := by decide +kernel
theorem dX6_keepRow_2 : decode cX6_keepRow 2 = .ok (.iload_n 1, 1) := by decide +kernel
theorem dX6_keepRow_3 : decode cX6_keepRow 3 = .ok (.aload_n 0, 1) := by decide +kernel
theorem dX6_keepRow_4 : decode cX6_keepRow 4 = .ok (.getfield 87, 3) := by decide +kernel
theorem dX6_keepRow_7 : decode cX6_keepRow 7 = .ok (.if_icmp .ge 21, 3) := by decide +kernel
theorem dX6_keepRow_10 : decode cX6_keepRow 10 = .ok (.aload_n 0, 1) := by decide +kernel
theorem dX6_keepRow_11 : decode cX6_keepRow 11 = .ok (.getfield 63, 3) := by decide +kernel
theorem dX6_keepRow_14 : decode cX6_keepRow 14 = .ok (.iload_n 1, 1) := by decide +kernel
theorem dX6_keepRow_15 : decode cX6_keepRow 15 = .ok (.aload_n 0, 1) := by decide +kernel
theorem dX6_keepRow_16 : decode cX6_keepRow 16 = .ok (.getfield 60, 3) := by decide +kernel
theorem dX6_keepRow_19 : decode cX6_keepRow 19 = .ok (.iload_n 1, 1) := by decide +kernel
theorem dX6_keepRow_20 : decode cX6_keepRow 20 = .ok (.iaload, 1) := by decide +kernel
theorem dX6_keepRow_21 : decode cX6_keepRow 21 = .ok (.iastore, 1) := by decide +kernel
theorem dX6_keepRow_22 : decode cX6_keepRow 22 = .ok (.iinc 1 1, 3) := by decide +kernel
theorem dX6_keepRow_25 : decode cX6_keepRow 25 = .ok (.goto (-23), 3) := by decide +kernel
theorem dX6_keepRow_28 : decode cX6_keepRow 28 = .ok (.return_, 1) := by decide +kernel
theorem dX6_isOneOr_0 : decode cX6_isOneOr 0 = .ok (.iload_n 1, 1) := by decide +kernel
theorem dX6_isOneOr_1 : decode cX6_isOneOr 1 = .ok (.iconst (-1), 1) := by decide +kernel
theorem dX6_isOneOr_2 : decode cX6_isOneOr 2 = .ok (.if_icmp .eq 11, 3) := by decide +kernel
theorem dX6_isOneOr_5 : decode cX6_isOneOr 5 = .ok (.aload_n 0, 1) := by decide +kernel
theorem dX6_isOneOr_6 : decode cX6_isOneOr 6 = .ok (.iload_n 1, 1) := by decide +kernel
theorem dX6_isOneOr_7 : decode cX6_isOneOr 7 = .ok (.invokevirtual 143, 3) := by decide +kernel
theorem dX6_isOneOr_10 : decode cX6_isOneOr 10 = .ok (.ifCond .eq 7, 3) := by decide +kernel
theorem dX6_isOneOr_13 : decode cX6_isOneOr 13 = .ok (.iconst 1, 1) := by decide +kernel
theorem dX6_isOneOr_14 : decode cX6_isOneOr 14 = .ok (.goto 4, 3) := by decide +kernel
theorem dX6_isOneOr_17 : decode cX6_isOneOr 17 = .ok (.iconst 0, 1) := by decide +kernel
theorem dX6_isOneOr_18 : decode cX6_isOneOr 18 = .ok (.ireturn, 1) := by decide +kernel
theorem dX6_seats_0 : decode cX6_seats 0 = .ok (.aload_n 0, 1) := by decide +kernel
theorem dX6_seats_1 : decode cX6_seats 1 = .ok (.iload_n 2, 1) := by decide +kernel
theorem dX6_seats_2 : decode cX6_seats 2 = .ok (.invokevirtual 167, 3) := by decide +kernel
theorem dX6_seats_5 : decode cX6_seats 5 = .ok (.ifCond .ne 5, 3) := by decide +kernel
theorem dX6_seats_8 : decode cX6_seats 8 = .ok (.iconst (-1), 1) := by decide +kernel
theorem dX6_seats_9 : decode cX6_seats 9 = .ok (.ireturn, 1) := by decide +kernel
theorem dX6_seats_10 : decode cX6_seats 10 = .ok (.iload_n 1, 1) := by decide +kernel
theorem dX6_seats_11 : decode cX6_seats 11 = .ok (.invokestatic 146, 3) := by decide +kernel
theorem dX6_seats_14 : decode cX6_seats 14 = .ok (.ifCond .ne 6, 3) := by decide +kernel
theorem dX6_seats_17 : decode cX6_seats 17 = .ok (.bipush (-2), 2) := by decide +kernel
theorem dX6_seats_19 : decode cX6_seats 19 = .ok (.ireturn, 1) := by decide +kernel
theorem dX6_seats_20 : decode cX6_seats 20 = .ok (.aload_n 0, 1) := by decide +kernel
theorem dX6_seats_21 : decode cX6_seats 21 = .ok (.getfield 90, 3) := by decide +kernel
theorem dX6_seats_24 : decode cX6_seats 24 = .ok (.ifCond .ne 6, 3) := by decide +kernel
theorem dX6_seats_27 : decode cX6_seats 27 = .ok (.bipush (-3), 2) := by decide +kernel
theorem dX6_seats_29 : decode cX6_seats 29 = .ok (.ireturn, 1) := by decide +kernel
theorem dX6_seats_30 : decode cX6_seats 30 = .ok (.aload_n 0, 1) := by decide +kernel
theorem dX6_seats_31 : decode cX6_seats 31 = .ok (.iload_n 1, 1) := by decide +kernel
theorem dX6_seats_32 : decode cX6_seats 32 = .ok (.invokevirtual 170, 3) := by decide +kernel
theorem dX6_seats_35 : decode cX6_seats 35 = .ok (.bipush (-9), 2) := by decide +kernel
theorem dX6_seats_37 : decode cX6_seats 37 = .ok (.istore_n 3, 1) := by decide +kernel
theorem dX6_seats_38 : decode cX6_seats 38 = .ok (.iconst 0, 1) := by decide +kernel
theorem dX6_seats_39 : decode cX6_seats 39 = .ok (.istore 4, 2) := by decide +kernel
theorem dX6_seats_41 : decode cX6_seats 41 = .ok (.iload 4, 2) := by decide +kernel
theorem dX6_seats_43 : decode cX6_seats 43 = .ok (.aload_n 0, 1) := by decide +kernel
theorem dX6_seats_44 : decode cX6_seats 44 = .ok (.aload_n 0, 1) := by decide +kernel
theorem dX6_seats_45 : decode cX6_seats 45 = .ok (.getfield 90, 3) := by decide +kernel
theorem dX6_seats_48 : decode cX6_seats 48 = .ok (.iconst 1, 1) := by decide +kernel
theorem dX6_seats_49 : decode cX6_seats 49 = .ok (.iadd, 1) := by decide +kernel
theorem dX6_seats_50 : decode cX6_seats 50 = .ok (.invokevirtual 174, 3) := by decide +kernel
theorem dX6_seats_53 : decode cX6_seats 53 = .ok (.if_icmp .ge 48, 3) := by decide +kernel
theorem dX6_seats_56 : decode cX6_seats 56 = .ok (.aload_n 0, 1) := by decide +kernel
theorem dX6_seats_57 : decode cX6_seats 57 = .ok (.iload 4, 2) := by decide +kernel
theorem dX6_seats_59 : decode cX6_seats 59 = .ok (.aload_n 0, 1) := by decide +kernel
theorem dX6_seats_60 : decode cX6_seats 60 = .ok (.getfield 90, 3) := by decide +kernel
theorem dX6_seats_63 : decode cX6_seats 63 = .ok (.iconst 1, 1) := by decide +kernel
theorem dX6_seats_64 : decode cX6_seats 64 = .ok (.iadd, 1) := by decide +kernel
theorem dX6_seats_65 : decode cX6_seats 65 = .ok (.invokevirtual 177, 3) := by decide +kernel
theorem dX6_seats_68 : decode cX6_seats 68 = .ok (.ifCond .eq 10, 3) := by decide +kernel
theorem dX6_seats_71 : decode cX6_seats 71 = .ok (.aload_n 0, 1) := by decide +kernel
theorem dX6_seats_72 : decode cX6_seats 72 = .ok (.invokevirtual 180, 3) := by decide +kernel
theorem dX6_seats_75 : decode cX6_seats 75 = .ok (.goto 5, 3) := by decide +kernel
theorem dX6_seats_78 : decode cX6_seats 78 = .ok (.bipush (-9), 2) := by decide +kernel
theorem dX6_seats_80 : decode cX6_seats 80 = .ok (.istore 5, 2) := by decide +kernel
theorem dX6_seats_82 : decode cX6_seats 82 = .ok (.iload 5, 2) := by decide +kernel
theorem dX6_seats_84 : decode cX6_seats 84 = .ok (.iload_n 3, 1) := by decide +kernel
theorem dX6_seats_85 : decode cX6_seats 85 = .ok (.if_icmp .le 10, 3) := by decide +kernel
theorem dX6_seats_88 : decode cX6_seats 88 = .ok (.iload 5, 2) := by decide +kernel
theorem dX6_seats_90 : decode cX6_seats 90 = .ok (.istore_n 3, 1) := by decide +kernel
theorem dX6_seats_91 : decode cX6_seats 91 = .ok (.aload_n 0, 1) := by decide +kernel
theorem dX6_seats_92 : decode cX6_seats 92 = .ok (.invokevirtual 184, 3) := by decide +kernel
theorem dX6_seats_95 : decode cX6_seats 95 = .ok (.iinc 4 1, 3) := by decide +kernel
theorem dX6_seats_98 : decode cX6_seats 98 = .ok (.goto (-57), 3) := by decide +kernel
theorem dX6_seats_101 : decode cX6_seats 101 = .ok (.iload_n 2, 1) := by decide +kernel
theorem dX6_seats_102 : decode cX6_seats 102 = .ok (.iconst (-1), 1) := by decide +kernel
theorem dX6_seats_103 : decode cX6_seats 103 = .ok (.if_icmp .ne 7, 3) := by decide +kernel
theorem dX6_seats_106 : decode cX6_seats 106 = .ok (.iload_n 3, 1) := by decide +kernel
theorem dX6_seats_107 : decode cX6_seats 107 = .ok (.goto 27, 3) := by decide +kernel
theorem dX6_seats_110 : decode cX6_seats 110 = .ok (.aload_n 0, 1) := by decide +kernel
theorem dX6_seats_111 : decode cX6_seats 111 = .ok (.getfield 63, 3) := by decide +kernel
theorem dX6_seats_114 : decode cX6_seats 114 = .ok (.iload_n 2, 1) := by decide +kernel
theorem dX6_seats_115 : decode cX6_seats 115 = .ok (.iaload, 1) := by decide +kernel
theorem dX6_seats_116 : decode cX6_seats 116 = .ok (.aload_n 0, 1) := by decide +kernel
theorem dX6_seats_117 : decode cX6_seats 117 = .ok (.getfield 90, 3) := by decide +kernel
theorem dX6_seats_120 : decode cX6_seats 120 = .ok (.if_icmp .ne 8, 3) := by decide +kernel
theorem dX6_seats_123 : decode cX6_seats 123 = .ok (.bipush (-9), 2) := by decide +kernel
theorem dX6_seats_125 : decode cX6_seats 125 = .ok (.goto 9, 3) := by decide +kernel
theorem dX6_seats_128 : decode cX6_seats 128 = .ok (.aload_n 0, 1) := by decide +kernel
theorem dX6_seats_129 : decode cX6_seats 129 = .ok (.getfield 63, 3) := by decide +kernel
theorem dX6_seats_132 : decode cX6_seats 132 = .ok (.iload_n 2, 1) := by decide +kernel
theorem dX6_seats_133 : decode cX6_seats 133 = .ok (.iaload, 1) := by decide +kernel
theorem dX6_seats_134 : decode cX6_seats 134 = .ok (.ireturn, 1) := by decide +kernel
theorem dX6_few_0 : decode cX6_few 0 = .ok (.iload_n 1, 1) := by decide +kernel
theorem dX6_few_1 : decode cX6_few 1 = .ok (.invokestatic 146, 3) := by decide +kernel
theorem dX6_few_4 : decode cX6_few 4 = .ok (.ifCond .ne 6, 3) := by decide +kernel
theorem dX6_few_7 : decode cX6_few 7 = .ok (.bipush (-2), 2) := by decide +kernel
theorem dX6_few_9 : decode cX6_few 9 = .ok (.ireturn, 1) := by decide +kernel
theorem dX6_few_10 : decode cX6_few 10 = .ok (.aload_n 0, 1) := by decide +kernel
theorem dX6_few_11 : decode cX6_few 11 = .ok (.getfield 90, 3) := by decide +kernel
theorem dX6_few_14 : decode cX6_few 14 = .ok (.ifCond .ne 6, 3) := by decide +kernel
theorem dX6_few_17 : decode cX6_few 17 = .ok (.bipush (-3), 2) := by decide +kernel
theorem dX6_few_19 : decode cX6_few 19 = .ok (.ireturn, 1) := by decide +kernel
theorem dX6_few_20 : decode cX6_few 20 = .ok (.aload_n 0, 1) := by decide +kernel
theorem dX6_few_21 : decode cX6_few 21 = .ok (.iload_n 1, 1) := by decide +kernel
theorem dX6_few_22 : decode cX6_few 22 = .ok (.invokevirtual 170, 3) := by decide +kernel
theorem dX6_few_25 : decode cX6_few 25 = .ok (.bipush (-9), 2) := by decide +kernel
theorem dX6_few_27 : decode cX6_few 27 = .ok (.istore_n 2, 1) := by decide +kernel
theorem dX6_few_28 : decode cX6_few 28 = .ok (.iconst 1, 1) := by decide +kernel
theorem dX6_few_29 : decode cX6_few 29 = .ok (.istore_n 3, 1) := by decide +kernel
theorem dX6_few_30 : decode cX6_few 30 = .ok (.iload_n 3, 1) := by decide +kernel
theorem dX6_few_31 : decode cX6_few 31 = .ok (.iconst 1, 1) := by decide +kernel
theorem dX6_few_32 : decode cX6_few 32 = .ok (.aload_n 0, 1) := by decide +kernel
theorem dX6_few_33 : decode cX6_few 33 = .ok (.getfield 87, 3) := by decide +kernel
theorem dX6_few_36 : decode cX6_few 36 = .ok (.ishl, 1) := by decide +kernel
theorem dX6_few_37 : decode cX6_few 37 = .ok (.if_icmp .ge 87, 3) := by decide +kernel
theorem dX6_few_40 : decode cX6_few 40 = .ok (.iconst 0, 1) := by decide +kernel
theorem dX6_few_41 : decode cX6_few 41 = .ok (.istore 4, 2) := by decide +kernel
theorem dX6_few_43 : decode cX6_few 43 = .ok (.iconst 0, 1) := by decide +kernel
theorem dX6_few_44 : decode cX6_few 44 = .ok (.istore 5, 2) := by decide +kernel
theorem dX6_few_46 : decode cX6_few 46 = .ok (.iload 5, 2) := by decide +kernel
theorem dX6_few_48 : decode cX6_few 48 = .ok (.aload_n 0, 1) := by decide +kernel
theorem dX6_few_49 : decode cX6_few 49 = .ok (.getfield 87, 3) := by decide +kernel
theorem dX6_few_52 : decode cX6_few 52 = .ok (.if_icmp .ge 35, 3) := by decide +kernel
theorem dX6_few_55 : decode cX6_few 55 = .ok (.iload 4, 2) := by decide +kernel
theorem dX6_few_57 : decode cX6_few 57 = .ok (.iload_n 3, 1) := by decide +kernel
theorem dX6_few_58 : decode cX6_few 58 = .ok (.iload 5, 2) := by decide +kernel
theorem dX6_few_60 : decode cX6_few 60 = .ok (.ishr, 1) := by decide +kernel
theorem dX6_few_61 : decode cX6_few 61 = .ok (.iconst 1, 1) := by decide +kernel
theorem dX6_few_62 : decode cX6_few 62 = .ok (.iand, 1) := by decide +kernel
theorem dX6_few_63 : decode cX6_few 63 = .ok (.iconst 1, 1) := by decide +kernel
theorem dX6_few_64 : decode cX6_few 64 = .ok (.if_icmp .ne 13, 3) := by decide +kernel
theorem dX6_few_67 : decode cX6_few 67 = .ok (.aload_n 0, 1) := by decide +kernel
theorem dX6_few_68 : decode cX6_few 68 = .ok (.getfield 53, 3) := by decide +kernel
theorem dX6_few_71 : decode cX6_few 71 = .ok (.iload 5, 2) := by decide +kernel
theorem dX6_few_73 : decode cX6_few 73 = .ok (.iaload, 1) := by decide +kernel
theorem dX6_few_74 : decode cX6_few 74 = .ok (.goto 4, 3) := by decide +kernel
theorem dX6_few_77 : decode cX6_few 77 = .ok (.iconst 0, 1) := by decide +kernel
theorem dX6_few_78 : decode cX6_few 78 = .ok (.ior, 1) := by decide +kernel
theorem dX6_few_79 : decode cX6_few 79 = .ok (.istore 4, 2) := by decide +kernel
theorem dX6_few_81 : decode cX6_few 81 = .ok (.iinc 5 1, 3) := by decide +kernel
theorem dX6_few_84 : decode cX6_few 84 = .ok (.goto (-38), 3) := by decide +kernel
theorem dX6_few_87 : decode cX6_few 87 = .ok (.iload 4, 2) := by decide +kernel
theorem dX6_few_89 : decode cX6_few 89 = .ok (.invokestatic 164, 3) := by decide +kernel
theorem dX6_few_92 : decode cX6_few 92 = .ok (.iload_n 3, 1) := by decide +kernel
theorem dX6_few_93 : decode cX6_few 93 = .ok (.invokestatic 164, 3) := by decide +kernel
theorem dX6_few_96 : decode cX6_few 96 = .ok (.if_icmp .ge 22, 3) := by decide +kernel
theorem dX6_few_99 : decode cX6_few 99 = .ok (.iload_n 2, 1) := by decide +kernel
theorem dX6_few_100 : decode cX6_few 100 = .ok (.bipush (-9), 2) := by decide +kernel
theorem dX6_few_102 : decode cX6_few 102 = .ok (.if_icmp .eq 14, 3) := by decide +kernel
theorem dX6_few_105 : decode cX6_few 105 = .ok (.iload_n 3, 1) := by decide +kernel
theorem dX6_few_106 : decode cX6_few 106 = .ok (.invokestatic 164, 3) := by decide +kernel
theorem dX6_few_109 : decode cX6_few 109 = .ok (.iload_n 2, 1) := by decide +kernel
theorem dX6_few_110 : decode cX6_few 110 = .ok (.invokestatic 164, 3) := by decide +kernel
theorem dX6_few_113 : decode cX6_few 113 = .ok (.if_icmp .ge 5, 3) := by decide +kernel
theorem dX6_few_116 : decode cX6_few 116 = .ok (.iload_n 3, 1) := by decide +kernel
theorem dX6_few_117 : decode cX6_few 117 = .ok (.istore_n 2, 1) := by decide +kernel
theorem dX6_few_118 : decode cX6_few 118 = .ok (.iinc 3 1, 3) := by decide +kernel
theorem dX6_few_121 : decode cX6_few 121 = .ok (.goto (-91), 3) := by decide +kernel
theorem dX6_few_124 : decode cX6_few 124 = .ok (.iload_n 2, 1) := by decide +kernel
theorem dX6_few_125 : decode cX6_few 125 = .ok (.ireturn, 1) := by decide +kernel
theorem dX6_tipped_0 : decode cX6_tipped 0 = .ok (.aload_n 0, 1) := by decide +kernel
theorem dX6_tipped_1 : decode cX6_tipped 1 = .ok (.iconst 0, 1) := by decide +kernel
theorem dX6_tipped_2 : decode cX6_tipped 2 = .ok (.putfield 78, 3) := by decide +kernel
theorem dX6_tipped_5 : decode cX6_tipped 5 = .ok (.iload_n 2, 1) := by decide +kernel
theorem dX6_tipped_6 : decode cX6_tipped 6 = .ok (.invokestatic 96, 3) := by decide +kernel
theorem dX6_tipped_9 : decode cX6_tipped 9 = .ok (.ifCond .ne 5, 3) := by decide +kernel
theorem dX6_tipped_12 : decode cX6_tipped 12 = .ok (.iconst (-1), 1) := by decide +kernel
theorem dX6_tipped_13 : decode cX6_tipped 13 = .ok (.ireturn, 1) := by decide +kernel
theorem dX6_tipped_14 : decode cX6_tipped 14 = .ok (.iload_n 3, 1) := by decide +kernel
theorem dX6_tipped_15 : decode cX6_tipped 15 = .ok (.invokestatic 100, 3) := by decide +kernel
theorem dX6_tipped_18 : decode cX6_tipped 18 = .ok (.ifCond .eq 10, 3) := by decide +kernel
theorem dX6_tipped_21 : decode cX6_tipped 21 = .ok (.iload_n 1, 1) := by decide +kernel
theorem dX6_tipped_22 : decode cX6_tipped 22 = .ok (.invokestatic 146, 3) := by decide +kernel
theorem dX6_tipped_25 : decode cX6_tipped 25 = .ok (.ifCond .ne 6, 3) := by decide +kernel
theorem dX6_tipped_28 : decode cX6_tipped 28 = .ok (.bipush (-2), 2) := by decide +kernel
theorem dX6_tipped_30 : decode cX6_tipped 30 = .ok (.ireturn, 1) := by decide +kernel
theorem dX6_tipped_31 : decode cX6_tipped 31 = .ok (.aload_n 0, 1) := by decide +kernel
theorem dX6_tipped_32 : decode cX6_tipped 32 = .ok (.iload_n 2, 1) := by decide +kernel
theorem dX6_tipped_33 : decode cX6_tipped 33 = .ok (.iload_n 3, 1) := by decide +kernel
theorem dX6_tipped_34 : decode cX6_tipped 34 = .ok (.iload 4, 2) := by decide +kernel
theorem dX6_tipped_36 : decode cX6_tipped 36 = .ok (.iload 5, 2) := by decide +kernel
theorem dX6_tipped_38 : decode cX6_tipped 38 = .ok (.invokevirtual 103, 3) := by decide +kernel
theorem dX6_tipped_41 : decode cX6_tipped 41 = .ok (.istore 6, 2) := by decide +kernel
theorem dX6_tipped_43 : decode cX6_tipped 43 = .ok (.iload 6, 2) := by decide +kernel
theorem dX6_tipped_45 : decode cX6_tipped 45 = .ok (.ifCond .eq 10, 3) := by decide +kernel
theorem dX6_tipped_48 : decode cX6_tipped 48 = .ok (.aload_n 0, 1) := by decide +kernel
theorem dX6_tipped_49 : decode cX6_tipped 49 = .ok (.iload 6, 2) := by decide +kernel
theorem dX6_tipped_51 : decode cX6_tipped 51 = .ok (.invokevirtual 107, 3) := by decide +kernel
theorem dX6_tipped_54 : decode cX6_tipped 54 = .ok (.ireturn, 1) := by decide +kernel
theorem dX6_tipped_55 : decode cX6_tipped 55 = .ok (.aload_n 0, 1) := by decide +kernel
theorem dX6_tipped_56 : decode cX6_tipped 56 = .ok (.getfield 90, 3) := by decide +kernel
theorem dX6_tipped_59 : decode cX6_tipped 59 = .ok (.ifCond .ne 6, 3) := by decide +kernel
theorem dX6_tipped_62 : decode cX6_tipped 62 = .ok (.bipush (-3), 2) := by decide +kernel
theorem dX6_tipped_64 : decode cX6_tipped 64 = .ok (.ireturn, 1) := by decide +kernel
theorem dX6_tipped_65 : decode cX6_tipped 65 = .ok (.iload 5, 2) := by decide +kernel
theorem dX6_tipped_67 : decode cX6_tipped 67 = .ok (.aload_n 0, 1) := by decide +kernel
theorem dX6_tipped_68 : decode cX6_tipped 68 = .ok (.getfield 87, 3) := by decide +kernel
theorem dX6_tipped_71 : decode cX6_tipped 71 = .ok (.if_icmp .le 6, 3) := by decide +kernel
theorem dX6_tipped_74 : decode cX6_tipped 74 = .ok (.bipush (-2), 2) := by decide +kernel
theorem dX6_tipped_76 : decode cX6_tipped 76 = .ok (.ireturn, 1) := by decide +kernel
theorem dX6_tipped_77 : decode cX6_tipped 77 = .ok (.bipush 60, 2) := by decide +kernel
theorem dX6_tipped_79 : decode cX6_tipped 79 = .ok (.iload_n 2, 1) := by decide +kernel
theorem dX6_tipped_80 : decode cX6_tipped 80 = .ok (.imul, 1) := by decide +kernel
theorem dX6_tipped_81 : decode cX6_tipped 81 = .ok (.iload 4, 2) := by decide +kernel
theorem dX6_tipped_83 : decode cX6_tipped 83 = .ok (.iadd, 1) := by decide +kernel
theorem dX6_tipped_84 : decode cX6_tipped 84 = .ok (.istore 7, 2) := by decide +kernel
theorem dX6_tipped_86 : decode cX6_tipped 86 = .ok (.iconst 0, 1) := by decide +kernel
theorem dX6_tipped_87 : decode cX6_tipped 87 = .ok (.istore 8, 2) := by decide +kernel
theorem dX6_tipped_89 : decode cX6_tipped 89 = .ok (.iload 8, 2) := by decide +kernel
theorem dX6_tipped_91 : decode cX6_tipped 91 = .ok (.iload 5, 2) := by decide +kernel
theorem dX6_tipped_93 : decode cX6_tipped 93 = .ok (.if_icmp .ge 43, 3) := by decide +kernel
theorem dX6_tipped_96 : decode cX6_tipped 96 = .ok (.aload_n 0, 1) := by decide +kernel
theorem dX6_tipped_97 : decode cX6_tipped 97 = .ok (.getfield 16, 3) := by decide +kernel
theorem dX6_tipped_100 : decode cX6_tipped 100 = .ok (.iload 7, 2) := by decide +kernel
theorem dX6_tipped_102 : decode cX6_tipped 102 = .ok (.iload 8, 2) := by decide +kernel
theorem dX6_tipped_104 : decode cX6_tipped 104 = .ok (.iadd, 1) := by decide +kernel
theorem dX6_tipped_105 : decode cX6_tipped 105 = .ok (.iaload, 1) := by decide +kernel
theorem dX6_tipped_106 : decode cX6_tipped 106 = .ok (.bipush (-9), 2) := by decide +kernel
theorem dX6_tipped_108 : decode cX6_tipped 108 = .ok (.if_icmp .eq 22, 3) := by decide +kernel
theorem dX6_tipped_111 : decode cX6_tipped 111 = .ok (.aload_n 0, 1) := by decide +kernel
theorem dX6_tipped_112 : decode cX6_tipped 112 = .ok (.aload_n 0, 1) := by decide +kernel
theorem dX6_tipped_113 : decode cX6_tipped 113 = .ok (.getfield 16, 3) := by decide +kernel
theorem dX6_tipped_116 : decode cX6_tipped 116 = .ok (.iload 7, 2) := by decide +kernel
theorem dX6_tipped_118 : decode cX6_tipped 118 = .ok (.iload 8, 2) := by decide +kernel
theorem dX6_tipped_120 : decode cX6_tipped 120 = .ok (.iadd, 1) := by decide +kernel
theorem dX6_tipped_121 : decode cX6_tipped 121 = .ok (.iaload, 1) := by decide +kernel
theorem dX6_tipped_122 : decode cX6_tipped 122 = .ok (.invokevirtual 140, 3) := by decide +kernel
theorem dX6_tipped_125 : decode cX6_tipped 125 = .ok (.ifCond .ne 5, 3) := by decide +kernel
theorem dX6_tipped_128 : decode cX6_tipped 128 = .ok (.iconst (-1), 1) := by decide +kernel
theorem dX6_tipped_129 : decode cX6_tipped 129 = .ok (.ireturn, 1) := by decide +kernel
theorem dX6_tipped_130 : decode cX6_tipped 130 = .ok (.iinc 8 1, 3) := by decide +kernel
theorem dX6_tipped_133 : decode cX6_tipped 133 = .ok (.goto (-44), 3) := by decide +kernel
theorem dX6_tipped_136 : decode cX6_tipped 136 = .ok (.aload_n 0, 1) := by decide +kernel
theorem dX6_tipped_137 : decode cX6_tipped 137 = .ok (.iload_n 1, 1) := by decide +kernel
theorem dX6_tipped_138 : decode cX6_tipped 138 = .ok (.iload 7, 2) := by decide +kernel
theorem dX6_tipped_140 : decode cX6_tipped 140 = .ok (.iload 5, 2) := by decide +kernel
theorem dX6_tipped_142 : decode cX6_tipped 142 = .ok (.invokevirtual 187, 3) := by decide +kernel
theorem dX6_tipped_145 : decode cX6_tipped 145 = .ok (.ireturn, 1) := by decide +kernel
theorem dX6_tippedBy_0 : decode cX6_tippedBy 0 = .ok (.iconst 0, 1) := by decide +kernel
theorem dX6_tippedBy_1 : decode cX6_tippedBy 1 = .ok (.istore 4, 2) := by decide +kernel
theorem dX6_tippedBy_3 : decode cX6_tippedBy 3 = .ok (.iconst 0, 1) := by decide +kernel
theorem dX6_tippedBy_4 : decode cX6_tippedBy 4 = .ok (.istore 5, 2) := by decide +kernel
theorem dX6_tippedBy_6 : decode cX6_tippedBy 6 = .ok (.iload 5, 2) := by decide +kernel
theorem dX6_tippedBy_8 : decode cX6_tippedBy 8 = .ok (.iload_n 3, 1) := by decide +kernel
theorem dX6_tippedBy_9 : decode cX6_tippedBy 9 = .ok (.if_icmp .ge 62, 3) := by decide +kernel
theorem dX6_tippedBy_12 : decode cX6_tippedBy 12 = .ok (.aload_n 0, 1) := by decide +kernel
theorem dX6_tippedBy_13 : decode cX6_tippedBy 13 = .ok (.getfield 16, 3) := by decide +kernel
theorem dX6_tippedBy_16 : decode cX6_tippedBy 16 = .ok (.iload_n 2, 1) := by decide +kernel
theorem dX6_tippedBy_17 : decode cX6_tippedBy 17 = .ok (.iload 5, 2) := by decide +kernel
theorem dX6_tippedBy_19 : decode cX6_tippedBy 19 = .ok (.iadd, 1) := by decide +kernel
theorem dX6_tippedBy_20 : decode cX6_tippedBy 20 = .ok (.iaload, 1) := by decide +kernel
theorem dX6_tippedBy_21 : decode cX6_tippedBy 21 = .ok (.istore 6, 2) := by decide +kernel
theorem dX6_tippedBy_23 : decode cX6_tippedBy 23 = .ok (.iload 6, 2) := by decide +kernel
theorem dX6_tippedBy_25 : decode cX6_tippedBy 25 = .ok (.bipush (-9), 2) := by decide +kernel
theorem dX6_tippedBy_27 : decode cX6_tippedBy 27 = .ok (.if_icmp .eq 38, 3) := by decide +kernel
theorem dX6_tippedBy_30 : decode cX6_tippedBy 30 = .ok (.iload 4, 2) := by decide +kernel
theorem dX6_tippedBy_32 : decode cX6_tippedBy 32 = .ok (.iload 6, 2) := by decide +kernel
theorem dX6_tippedBy_34 : decode cX6_tippedBy 34 = .ok (.ishr, 1) := by decide +kernel
theorem dX6_tippedBy_35 : decode cX6_tippedBy 35 = .ok (.iconst 1, 1) := by decide +kernel
theorem dX6_tippedBy_36 : decode cX6_tippedBy 36 = .ok (.iand, 1) := by decide +kernel
theorem dX6_tippedBy_37 : decode cX6_tippedBy 37 = .ok (.iconst 1, 1) := by decide +kernel
theorem dX6_tippedBy_38 : decode cX6_tippedBy 38 = .ok (.if_icmp .eq 15, 3) := by decide +kernel
theorem dX6_tippedBy_41 : decode cX6_tippedBy 41 = .ok (.aload_n 0, 1) := by decide +kernel
theorem dX6_tippedBy_42 : decode cX6_tippedBy 42 = .ok (.iload 6, 2) := by decide +kernel
theorem dX6_tippedBy_44 : decode cX6_tippedBy 44 = .ok (.iload 5, 2) := by decide +kernel
theorem dX6_tippedBy_46 : decode cX6_tippedBy 46 = .ok (.iload_n 1, 1) := by decide +kernel
theorem dX6_tippedBy_47 : decode cX6_tippedBy 47 = .ok (.invokevirtual 161, 3) := by decide +kernel
theorem dX6_tippedBy_50 : decode cX6_tippedBy 50 = .ok (.ifCond .ne 6, 3) := by decide +kernel
theorem dX6_tippedBy_53 : decode cX6_tippedBy 53 = .ok (.iload 5, 2) := by decide +kernel
theorem dX6_tippedBy_55 : decode cX6_tippedBy 55 = .ok (.ireturn, 1) := by decide +kernel
theorem dX6_tippedBy_56 : decode cX6_tippedBy 56 = .ok (.iload 4, 2) := by decide +kernel
theorem dX6_tippedBy_58 : decode cX6_tippedBy 58 = .ok (.iconst 1, 1) := by decide +kernel
theorem dX6_tippedBy_59 : decode cX6_tippedBy 59 = .ok (.iload 6, 2) := by decide +kernel
theorem dX6_tippedBy_61 : decode cX6_tippedBy 61 = .ok (.ishl, 1) := by decide +kernel
theorem dX6_tippedBy_62 : decode cX6_tippedBy 62 = .ok (.ior, 1) := by decide +kernel
theorem dX6_tippedBy_63 : decode cX6_tippedBy 63 = .ok (.istore 4, 2) := by decide +kernel
theorem dX6_tippedBy_65 : decode cX6_tippedBy 65 = .ok (.iinc 5 1, 3) := by decide +kernel
theorem dX6_tippedBy_68 : decode cX6_tippedBy 68 = .ok (.goto (-62), 3) := by decide +kernel
theorem dX6_tippedBy_71 : decode cX6_tippedBy 71 = .ok (.bipush (-9), 2) := by decide +kernel
theorem dX6_tippedBy_73 : decode cX6_tippedBy 73 = .ok (.ireturn, 1) := by decide +kernel
theorem dX6_least_0 : decode cX6_least 0 = .ok (.aload_n 0, 1) := by decide +kernel
theorem dX6_least_1 : decode cX6_least 1 = .ok (.iload_n 2, 1) := by decide +kernel
theorem dX6_least_2 : decode cX6_least 2 = .ok (.invokevirtual 167, 3) := by decide +kernel
theorem dX6_least_5 : decode cX6_least 5 = .ok (.ifCond .ne 5, 3) := by decide +kernel
theorem dX6_least_8 : decode cX6_least 8 = .ok (.iconst (-1), 1) := by decide +kernel
theorem dX6_least_9 : decode cX6_least 9 = .ok (.ireturn, 1) := by decide +kernel
theorem dX6_least_10 : decode cX6_least 10 = .ok (.iload_n 1, 1) := by decide +kernel
theorem dX6_least_11 : decode cX6_least 11 = .ok (.invokestatic 146, 3) := by decide +kernel
theorem dX6_least_14 : decode cX6_least 14 = .ok (.ifCond .ne 6, 3) := by decide +kernel
theorem dX6_least_17 : decode cX6_least 17 = .ok (.bipush (-2), 2) := by decide +kernel
theorem dX6_least_19 : decode cX6_least 19 = .ok (.ireturn, 1) := by decide +kernel
theorem dX6_least_20 : decode cX6_least 20 = .ok (.aload_n 0, 1) := by decide +kernel
theorem dX6_least_21 : decode cX6_least 21 = .ok (.getfield 90, 3) := by decide +kernel
theorem dX6_least_24 : decode cX6_least 24 = .ok (.ifCond .ne 6, 3) := by decide +kernel
theorem dX6_least_27 : decode cX6_least 27 = .ok (.bipush (-3), 2) := by decide +kernel
theorem dX6_least_29 : decode cX6_least 29 = .ok (.ireturn, 1) := by decide +kernel
theorem dX6_least_30 : decode cX6_least 30 = .ok (.aload_n 0, 1) := by decide +kernel
theorem dX6_least_31 : decode cX6_least 31 = .ok (.iload_n 1, 1) := by decide +kernel
theorem dX6_least_32 : decode cX6_least 32 = .ok (.invokevirtual 170, 3) := by decide +kernel
theorem dX6_least_35 : decode cX6_least 35 = .ok (.bipush (-9), 2) := by decide +kernel
theorem dX6_least_37 : decode cX6_least 37 = .ok (.istore_n 3, 1) := by decide +kernel
theorem dX6_least_38 : decode cX6_least 38 = .ok (.iconst 0, 1) := by decide +kernel
theorem dX6_least_39 : decode cX6_least 39 = .ok (.istore 4, 2) := by decide +kernel
theorem dX6_least_41 : decode cX6_least 41 = .ok (.iload 4, 2) := by decide +kernel
theorem dX6_least_43 : decode cX6_least 43 = .ok (.aload_n 0, 1) := by decide +kernel
theorem dX6_least_44 : decode cX6_least 44 = .ok (.aload_n 0, 1) := by decide +kernel
theorem dX6_least_45 : decode cX6_least 45 = .ok (.getfield 90, 3) := by decide +kernel
theorem dX6_least_48 : decode cX6_least 48 = .ok (.invokevirtual 174, 3) := by decide +kernel
theorem dX6_least_51 : decode cX6_least 51 = .ok (.if_icmp .ge 86, 3) := by decide +kernel
theorem dX6_least_54 : decode cX6_least 54 = .ok (.aload_n 0, 1) := by decide +kernel
theorem dX6_least_55 : decode cX6_least 55 = .ok (.iload 4, 2) := by decide +kernel
theorem dX6_least_57 : decode cX6_least 57 = .ok (.aload_n 0, 1) := by decide +kernel
theorem dX6_least_58 : decode cX6_least 58 = .ok (.getfield 90, 3) := by decide +kernel
theorem dX6_least_61 : decode cX6_least 61 = .ok (.invokevirtual 177, 3) := by decide +kernel
theorem dX6_least_64 : decode cX6_least 64 = .ok (.ifCond .eq 67, 3) := by decide +kernel
theorem dX6_least_67 : decode cX6_least 67 = .ok (.iconst 0, 1) := by decide +kernel
theorem dX6_least_68 : decode cX6_least 68 = .ok (.istore 5, 2) := by decide +kernel
theorem dX6_least_70 : decode cX6_least 70 = .ok (.iconst 0, 1) := by decide +kernel
theorem dX6_least_71 : decode cX6_least 71 = .ok (.istore 6, 2) := by decide +kernel
theorem dX6_least_73 : decode cX6_least 73 = .ok (.iload 6, 2) := by decide +kernel
theorem dX6_least_75 : decode cX6_least 75 = .ok (.aload_n 0, 1) := by decide +kernel
theorem dX6_least_76 : decode cX6_least 76 = .ok (.getfield 87, 3) := by decide +kernel
theorem dX6_least_79 : decode cX6_least 79 = .ok (.if_icmp .ge 33, 3) := by decide +kernel
theorem dX6_least_82 : decode cX6_least 82 = .ok (.iload 5, 2) := by decide +kernel
theorem dX6_least_84 : decode cX6_least 84 = .ok (.iconst 1, 1) := by decide +kernel
theorem dX6_least_85 : decode cX6_least 85 = .ok (.aload_n 0, 1) := by decide +kernel
theorem dX6_least_86 : decode cX6_least 86 = .ok (.getfield 53, 3) := by decide +kernel
theorem dX6_least_89 : decode cX6_least 89 = .ok (.iload 6, 2) := by decide +kernel
theorem dX6_least_91 : decode cX6_least 91 = .ok (.iaload, 1) := by decide +kernel
theorem dX6_least_92 : decode cX6_least 92 = .ok (.aload_n 0, 1) := by decide +kernel
theorem dX6_least_93 : decode cX6_least 93 = .ok (.getfield 60, 3) := by decide +kernel
theorem dX6_least_96 : decode cX6_least 96 = .ok (.iload 6, 2) := by decide +kernel
theorem dX6_least_98 : decode cX6_least 98 = .ok (.iaload, 1) := by decide +kernel
theorem dX6_least_99 : decode cX6_least 99 = .ok (.ishr, 1) := by decide +kernel
theorem dX6_least_100 : decode cX6_least 100 = .ok (.iconst 1, 1) := by decide +kernel
theorem dX6_least_101 : decode cX6_least 101 = .ok (.iand, 1) := by decide +kernel
theorem dX6_least_102 : decode cX6_least 102 = .ok (.isub, 1) := by decide +kernel
theorem dX6_least_103 : decode cX6_least 103 = .ok (.iadd, 1) := by decide +kernel
theorem dX6_least_104 : decode cX6_least 104 = .ok (.istore 5, 2) := by decide +kernel
theorem dX6_least_106 : decode cX6_least 106 = .ok (.iinc 6 1, 3) := by decide +kernel
theorem dX6_least_109 : decode cX6_least 109 = .ok (.goto (-36), 3) := by decide +kernel
theorem dX6_least_112 : decode cX6_least 112 = .ok (.iload_n 3, 1) := by decide +kernel
theorem dX6_least_113 : decode cX6_least 113 = .ok (.bipush (-9), 2) := by decide +kernel
theorem dX6_least_115 : decode cX6_least 115 = .ok (.if_icmp .eq 9, 3) := by decide +kernel
theorem dX6_least_118 : decode cX6_least 118 = .ok (.iload 5, 2) := by decide +kernel
theorem dX6_least_120 : decode cX6_least 120 = .ok (.iload_n 3, 1) := by decide +kernel
theorem dX6_least_121 : decode cX6_least 121 = .ok (.if_icmp .ge 10, 3) := by decide +kernel
theorem dX6_least_124 : decode cX6_least 124 = .ok (.iload 5, 2) := by decide +kernel
theorem dX6_least_126 : decode cX6_least 126 = .ok (.istore_n 3, 1) := by decide +kernel
theorem dX6_least_127 : decode cX6_least 127 = .ok (.aload_n 0, 1) := by decide +kernel
theorem dX6_least_128 : decode cX6_least 128 = .ok (.invokevirtual 184, 3) := by decide +kernel
theorem dX6_least_131 : decode cX6_least 131 = .ok (.iinc 4 1, 3) := by decide +kernel
theorem dX6_least_134 : decode cX6_least 134 = .ok (.goto (-93), 3) := by decide +kernel
theorem dX6_least_137 : decode cX6_least 137 = .ok (.iload_n 2, 1) := by decide +kernel
theorem dX6_least_138 : decode cX6_least 138 = .ok (.iconst (-1), 1) := by decide +kernel
theorem dX6_least_139 : decode cX6_least 139 = .ok (.if_icmp .eq 9, 3) := by decide +kernel
theorem dX6_least_142 : decode cX6_least 142 = .ok (.iload_n 3, 1) := by decide +kernel
theorem dX6_least_143 : decode cX6_least 143 = .ok (.bipush (-9), 2) := by decide +kernel
theorem dX6_least_145 : decode cX6_least 145 = .ok (.if_icmp .ne 7, 3) := by decide +kernel
theorem dX6_least_148 : decode cX6_least 148 = .ok (.iload_n 3, 1) := by decide +kernel
theorem dX6_least_149 : decode cX6_least 149 = .ok (.goto 9, 3) := by decide +kernel
theorem dX6_least_152 : decode cX6_least 152 = .ok (.aload_n 0, 1) := by decide +kernel
theorem dX6_least_153 : decode cX6_least 153 = .ok (.getfield 63, 3) := by decide +kernel
theorem dX6_least_156 : decode cX6_least 156 = .ok (.iload_n 2, 1) := by decide +kernel
theorem dX6_least_157 : decode cX6_least 157 = .ok (.iaload, 1) := by decide +kernel
theorem dX6_least_158 : decode cX6_least 158 = .ok (.ireturn, 1) := by decide +kernel
theorem dX6_mostIn_0 : decode cX6_mostIn 0 = .ok (.aload_n 0, 1) := by decide +kernel
theorem dX6_mostIn_1 : decode cX6_mostIn 1 = .ok (.iload_n 1, 1) := by decide +kernel
theorem dX6_mostIn_2 : decode cX6_mostIn 2 = .ok (.invokevirtual 170, 3) := by decide +kernel
theorem dX6_mostIn_5 : decode cX6_mostIn 5 = .ok (.aload_n 0, 1) := by decide +kernel
theorem dX6_mostIn_6 : decode cX6_mostIn 6 = .ok (.invokevirtual 190, 3) := by decide +kernel
theorem dX6_mostIn_9 : decode cX6_mostIn 9 = .ok (.ireturn, 1) := by decide +kernel
theorem dX6_when_0 : decode cX6_when 0 = .ok (.iload_n 1, 1) := by decide +kernel
theorem dX6_when_1 : decode cX6_when 1 = .ok (.invokestatic 146, 3) := by decide +kernel
theorem dX6_when_4 : decode cX6_when 4 = .ok (.ifCond .ne 6, 3) := by decide +kernel
theorem dX6_when_7 : decode cX6_when 7 = .ok (.bipush (-2), 2) := by decide +kernel
theorem dX6_when_9 : decode cX6_when 9 = .ok (.ireturn, 1) := by decide +kernel
theorem dX6_when_10 : decode cX6_when 10 = .ok (.aload_n 0, 1) := by decide +kernel
theorem dX6_when_11 : decode cX6_when 11 = .ok (.getfield 90, 3) := by decide +kernel
theorem dX6_when_14 : decode cX6_when 14 = .ok (.ifCond .ne 6, 3) := by decide +kernel
theorem dX6_when_17 : decode cX6_when 17 = .ok (.bipush (-3), 2) := by decide +kernel
theorem dX6_when_19 : decode cX6_when 19 = .ok (.ireturn, 1) := by decide +kernel
theorem dX6_when_20 : decode cX6_when 20 = .ok (.iload_n 1, 1) := by decide +kernel
theorem dX6_when_21 : decode cX6_when 21 = .ok (.istore_n 2, 1) := by decide +kernel
theorem dX6_when_22 : decode cX6_when 22 = .ok (.iload_n 2, 1) := by decide +kernel
theorem dX6_when_23 : decode cX6_when 23 = .ok (.bipush 20, 2) := by decide +kernel
theorem dX6_when_25 : decode cX6_when 25 = .ok (.if_icmp .ge 23, 3) := by decide +kernel
theorem dX6_when_28 : decode cX6_when 28 = .ok (.aload_n 0, 1) := by decide +kernel
theorem dX6_when_29 : decode cX6_when 29 = .ok (.iload_n 2, 1) := by decide +kernel
theorem dX6_when_30 : decode cX6_when 30 = .ok (.invokevirtual 193, 3) := by decide +kernel
theorem dX6_when_33 : decode cX6_when 33 = .ok (.aload_n 0, 1) := by decide +kernel
theorem dX6_when_34 : decode cX6_when 34 = .ok (.getfield 87, 3) := by decide +kernel
theorem dX6_when_37 : decode cX6_when 37 = .ok (.if_icmp .ne 5, 3) := by decide +kernel
theorem dX6_when_40 : decode cX6_when 40 = .ok (.iload_n 2, 1) := by decide +kernel
theorem dX6_when_41 : decode cX6_when 41 = .ok (.ireturn, 1) := by decide +kernel
theorem dX6_when_42 : decode cX6_when 42 = .ok (.iinc 2 1, 3) := by decide +kernel
theorem dX6_when_45 : decode cX6_when 45 = .ok (.goto (-23), 3) := by decide +kernel
theorem dX6_when_48 : decode cX6_when 48 = .ok (.bipush (-9), 2) := by decide +kernel
theorem dX6_when_50 : decode cX6_when 50 = .ok (.ireturn, 1) := by decide +kernel
theorem dX6_fresh_0 : decode cX6_fresh 0 = .ok (.aload_n 0, 1) := by decide +kernel
theorem dX6_fresh_1 : decode cX6_fresh 1 = .ok (.iload_n 1, 1) := by decide +kernel
theorem dX6_fresh_2 : decode cX6_fresh 2 = .ok (.invokevirtual 140, 3) := by decide +kernel
theorem dX6_fresh_5 : decode cX6_fresh 5 = .ok (.ifCond .ne 5, 3) := by decide +kernel
theorem dX6_fresh_8 : decode cX6_fresh 8 = .ok (.iconst (-1), 1) := by decide +kernel
theorem dX6_fresh_9 : decode cX6_fresh 9 = .ok (.ireturn, 1) := by decide +kernel
theorem dX6_fresh_10 : decode cX6_fresh 10 = .ok (.iload_n 2, 1) := by decide +kernel
theorem dX6_fresh_11 : decode cX6_fresh 11 = .ok (.invokestatic 146, 3) := by decide +kernel
theorem dX6_fresh_14 : decode cX6_fresh 14 = .ok (.ifCond .ne 6, 3) := by decide +kernel
theorem dX6_fresh_17 : decode cX6_fresh 17 = .ok (.bipush (-2), 2) := by decide +kernel
theorem dX6_fresh_19 : decode cX6_fresh 19 = .ok (.ireturn, 1) := by decide +kernel
theorem dX6_fresh_20 : decode cX6_fresh 20 = .ok (.aload_n 0, 1) := by decide +kernel
theorem dX6_fresh_21 : decode cX6_fresh 21 = .ok (.iload_n 2, 1) := by decide +kernel
theorem dX6_fresh_22 : decode cX6_fresh 22 = .ok (.invokevirtual 193, 3) := by decide +kernel
theorem dX6_fresh_25 : decode cX6_fresh 25 = .ok (.istore_n 3, 1) := by decide +kernel
theorem dX6_fresh_26 : decode cX6_fresh 26 = .ok (.aload_n 0, 1) := by decide +kernel
theorem dX6_fresh_27 : decode cX6_fresh 27 = .ok (.iload_n 1, 1) := by decide +kernel
theorem dX6_fresh_28 : decode cX6_fresh 28 = .ok (.putfield 46, 3) := by decide +kernel
theorem dX6_fresh_31 : decode cX6_fresh 31 = .ok (.aload_n 0, 1) := by decide +kernel
theorem dX6_fresh_32 : decode cX6_fresh 32 = .ok (.iload_n 2, 1) := by decide +kernel
theorem dX6_fresh_33 : decode cX6_fresh 33 = .ok (.invokevirtual 193, 3) := by decide +kernel
theorem dX6_fresh_36 : decode cX6_fresh 36 = .ok (.istore 4, 2) := by decide +kernel
theorem dX6_fresh_38 : decode cX6_fresh 38 = .ok (.aload_n 0, 1) := by decide +kernel
theorem dX6_fresh_39 : decode cX6_fresh 39 = .ok (.bipush (-9), 2) := by decide +kernel
theorem dX6_fresh_41 : decode cX6_fresh 41 = .ok (.putfield 46, 3) := by decide +kernel
theorem dX6_fresh_44 : decode cX6_fresh 44 = .ok (.iload 4, 2) := by decide +kernel
theorem dX6_fresh_46 : decode cX6_fresh 46 = .ok (.iload_n 3, 1) := by decide +kernel
theorem dX6_fresh_47 : decode cX6_fresh 47 = .ok (.isub, 1) := by decide +kernel
theorem dX6_fresh_48 : decode cX6_fresh 48 = .ok (.ireturn, 1) := by decide +kernel
theorem dX6_reading_0 : decode cX6_reading 0 = .ok (.aload_n 0, 1) := by decide +kernel
theorem dX6_reading_1 : decode cX6_reading 1 = .ok (.iload_n 2, 1) := by decide +kernel
theorem dX6_reading_2 : decode cX6_reading 2 = .ok (.invokevirtual 140, 3) := by decide +kernel
theorem dX6_reading_5 : decode cX6_reading 5 = .ok (.ifCond .eq 11, 3) := by decide +kernel
theorem dX6_reading_8 : decode cX6_reading 8 = .ok (.aload_n 0, 1) := by decide +kernel
theorem dX6_reading_9 : decode cX6_reading 9 = .ok (.iload_n 3, 1) := by decide +kernel
theorem dX6_reading_10 : decode cX6_reading 10 = .ok (.invokevirtual 143, 3) := by decide +kernel
theorem dX6_reading_13 : decode cX6_reading 13 = .ok (.ifCond .ne 5, 3) := by decide +kernel
theorem dX6_reading_16 : decode cX6_reading 16 = .ok (.iconst (-1), 1) := by decide +kernel
theorem dX6_reading_17 : decode cX6_reading 17 = .ok (.ireturn, 1) := by decide +kernel
theorem dX6_reading_18 : decode cX6_reading 18 = .ok (.iload_n 1, 1) := by decide +kernel
theorem dX6_reading_19 : decode cX6_reading 19 = .ok (.invokestatic 146, 3) := by decide +kernel
theorem dX6_reading_22 : decode cX6_reading 22 = .ok (.ifCond .ne 6, 3) := by decide +kernel
theorem dX6_reading_25 : decode cX6_reading 25 = .ok (.bipush (-2), 2) := by decide +kernel
theorem dX6_reading_27 : decode cX6_reading 27 = .ok (.ireturn, 1) := by decide +kernel
theorem dX6_reading_28 : decode cX6_reading 28 = .ok (.aload_n 0, 1) := by decide +kernel
theorem dX6_reading_29 : decode cX6_reading 29 = .ok (.getfield 126, 3) := by decide +kernel
theorem dX6_reading_32 : decode cX6_reading 32 = .ok (.bipush 8, 2) := by decide +kernel
theorem dX6_reading_34 : decode cX6_reading 34 = .ok (.if_icmp .ne 6, 3) := by decide +kernel
theorem dX6_reading_37 : decode cX6_reading 37 = .ok (.bipush (-4), 2) := by decide +kernel
theorem dX6_reading_39 : decode cX6_reading 39 = .ok (.ireturn, 1) := by decide +kernel
theorem dX6_reading_40 : decode cX6_reading 40 = .ok (.aload_n 0, 1) := by decide +kernel
theorem dX6_reading_41 : decode cX6_reading 41 = .ok (.getfield 66, 3) := by decide +kernel
theorem dX6_reading_44 : decode cX6_reading 44 = .ok (.aload_n 0, 1) := by decide +kernel
theorem dX6_reading_45 : decode cX6_reading 45 = .ok (.getfield 126, 3) := by decide +kernel
theorem dX6_reading_48 : decode cX6_reading 48 = .ok (.iload_n 1, 1) := by decide +kernel
theorem dX6_reading_49 : decode cX6_reading 49 = .ok (.iastore, 1) := by decide +kernel
theorem dX6_reading_50 : decode cX6_reading 50 = .ok (.aload_n 0, 1) := by decide +kernel
theorem dX6_reading_51 : decode cX6_reading 51 = .ok (.getfield 69, 3) := by decide +kernel
theorem dX6_reading_54 : decode cX6_reading 54 = .ok (.aload_n 0, 1) := by decide +kernel
theorem dX6_reading_55 : decode cX6_reading 55 = .ok (.getfield 126, 3) := by decide +kernel
theorem dX6_reading_58 : decode cX6_reading 58 = .ok (.iload_n 2, 1) := by decide +kernel
theorem dX6_reading_59 : decode cX6_reading 59 = .ok (.iastore, 1) := by decide +kernel
theorem dX6_reading_60 : decode cX6_reading 60 = .ok (.aload_n 0, 1) := by decide +kernel
theorem dX6_reading_61 : decode cX6_reading 61 = .ok (.getfield 72, 3) := by decide +kernel
theorem dX6_reading_64 : decode cX6_reading 64 = .ok (.aload_n 0, 1) := by decide +kernel
theorem dX6_reading_65 : decode cX6_reading 65 = .ok (.getfield 126, 3) := by decide +kernel
theorem dX6_reading_68 : decode cX6_reading 68 = .ok (.iload_n 3, 1) := by decide +kernel
theorem dX6_reading_69 : decode cX6_reading 69 = .ok (.iastore, 1) := by decide +kernel
theorem dX6_reading_70 : decode cX6_reading 70 = .ok (.aload_n 0, 1) := by decide +kernel
theorem dX6_reading_71 : decode cX6_reading 71 = .ok (.getfield 75, 3) := by decide +kernel
theorem dX6_reading_74 : decode cX6_reading 74 = .ok (.aload_n 0, 1) := by decide +kernel
theorem dX6_reading_75 : decode cX6_reading 75 = .ok (.getfield 126, 3) := by decide +kernel
theorem dX6_reading_78 : decode cX6_reading 78 = .ok (.iload 4, 2) := by decide +kernel
theorem dX6_reading_80 : decode cX6_reading 80 = .ok (.bastore, 1) := by decide +kernel
theorem dX6_reading_81 : decode cX6_reading 81 = .ok (.aload_n 0, 1) := by decide +kernel
theorem dX6_reading_82 : decode cX6_reading 82 = .ok (.dup, 1) := by decide +kernel
theorem dX6_reading_83 : decode cX6_reading 83 = .ok (.getfield 126, 3) := by decide +kernel
theorem dX6_reading_86 : decode cX6_reading 86 = .ok (.iconst 1, 1) := by decide +kernel
theorem dX6_reading_87 : decode cX6_reading 87 = .ok (.iadd, 1) := by decide +kernel
theorem dX6_reading_88 : decode cX6_reading 88 = .ok (.putfield 126, 3) := by decide +kernel
theorem dX6_reading_91 : decode cX6_reading 91 = .ok (.aload_n 0, 1) := by decide +kernel
theorem dX6_reading_92 : decode cX6_reading 92 = .ok (.getfield 126, 3) := by decide +kernel
theorem dX6_reading_95 : decode cX6_reading 95 = .ok (.iconst 1, 1) := by decide +kernel
theorem dX6_reading_96 : decode cX6_reading 96 = .ok (.isub, 1) := by decide +kernel
theorem dX6_reading_97 : decode cX6_reading 97 = .ok (.ireturn, 1) := by decide +kernel
theorem dX6_back_0 : decode cX6_back 0 = .ok (.iload_n 1, 1) := by decide +kernel
theorem dX6_back_1 : decode cX6_back 1 = .ok (.iconst 0, 1) := by decide +kernel
theorem dX6_back_2 : decode cX6_back 2 = .ok (.aload_n 0, 1) := by decide +kernel
theorem dX6_back_3 : decode cX6_back 3 = .ok (.getfield 126, 3) := by decide +kernel
theorem dX6_back_6 : decode cX6_back 6 = .ok (.invokestatic 83, 3) := by decide +kernel
theorem dX6_back_9 : decode cX6_back 9 = .ok (.ifCond .ne 6, 3) := by decide +kernel
theorem dX6_back_12 : decode cX6_back 12 = .ok (.bipush (-2), 2) := by decide +kernel
theorem dX6_back_14 : decode cX6_back 14 = .ok (.ireturn, 1) := by decide +kernel
theorem dX6_back_15 : decode cX6_back 15 = .ok (.aload_n 0, 1) := by decide +kernel
theorem dX6_back_16 : decode cX6_back 16 = .ok (.dup, 1) := by decide +kernel
theorem dX6_back_17 : decode cX6_back 17 = .ok (.getfield 126, 3) := by decide +kernel
theorem dX6_back_20 : decode cX6_back 20 = .ok (.iload_n 1, 1) := by decide +kernel
theorem dX6_back_21 : decode cX6_back 21 = .ok (.isub, 1) := by decide +kernel
theorem dX6_back_22 : decode cX6_back 22 = .ok (.putfield 126, 3) := by decide +kernel
theorem dX6_back_25 : decode cX6_back 25 = .ok (.aload_n 0, 1) := by decide +kernel
theorem dX6_back_26 : decode cX6_back 26 = .ok (.getfield 126, 3) := by decide +kernel
theorem dX6_back_29 : decode cX6_back 29 = .ok (.ireturn, 1) := by decide +kernel
theorem dX6_areSo_0 : decode cX6_areSo 0 = .ok (.iconst 0, 1) := by decide +kernel
theorem dX6_areSo_1 : decode cX6_areSo 1 = .ok (.istore_n 1, 1) := by decide +kernel
theorem dX6_areSo_2 : decode cX6_areSo 2 = .ok (.iload_n 1, 1) := by decide +kernel
theorem dX6_areSo_3 : decode cX6_areSo 3 = .ok (.aload_n 0, 1) := by decide +kernel
theorem dX6_areSo_4 : decode cX6_areSo 4 = .ok (.getfield 126, 3) := by decide +kernel
theorem dX6_areSo_7 : decode cX6_areSo 7 = .ok (.if_icmp .ge 42, 3) := by decide +kernel
theorem dX6_areSo_10 : decode cX6_areSo 10 = .ok (.aload_n 0, 1) := by decide +kernel
theorem dX6_areSo_11 : decode cX6_areSo 11 = .ok (.aload_n 0, 1) := by decide +kernel
theorem dX6_areSo_12 : decode cX6_areSo 12 = .ok (.getfield 69, 3) := by decide +kernel
theorem dX6_areSo_15 : decode cX6_areSo 15 = .ok (.iload_n 1, 1) := by decide +kernel
theorem dX6_areSo_16 : decode cX6_areSo 16 = .ok (.iaload, 1) := by decide +kernel
theorem dX6_areSo_17 : decode cX6_areSo 17 = .ok (.aload_n 0, 1) := by decide +kernel
theorem dX6_areSo_18 : decode cX6_areSo 18 = .ok (.getfield 72, 3) := by decide +kernel
theorem dX6_areSo_21 : decode cX6_areSo 21 = .ok (.iload_n 1, 1) := by decide +kernel
theorem dX6_areSo_22 : decode cX6_areSo 22 = .ok (.iaload, 1) := by decide +kernel
theorem dX6_areSo_23 : decode cX6_areSo 23 = .ok (.aload_n 0, 1) := by decide +kernel
theorem dX6_areSo_24 : decode cX6_areSo 24 = .ok (.getfield 66, 3) := by decide +kernel
theorem dX6_areSo_27 : decode cX6_areSo 27 = .ok (.iload_n 1, 1) := by decide +kernel
theorem dX6_areSo_28 : decode cX6_areSo 28 = .ok (.iaload, 1) := by decide +kernel
theorem dX6_areSo_29 : decode cX6_areSo 29 = .ok (.invokevirtual 161, 3) := by decide +kernel
theorem dX6_areSo_32 : decode cX6_areSo 32 = .ok (.aload_n 0, 1) := by decide +kernel
theorem dX6_areSo_33 : decode cX6_areSo 33 = .ok (.getfield 75, 3) := by decide +kernel
theorem dX6_areSo_36 : decode cX6_areSo 36 = .ok (.iload_n 1, 1) := by decide +kernel
theorem dX6_areSo_37 : decode cX6_areSo 37 = .ok (.baload, 1) := by decide +kernel
theorem dX6_areSo_38 : decode cX6_areSo 38 = .ok (.if_icmp .eq 5, 3) := by decide +kernel
theorem dX6_areSo_41 : decode cX6_areSo 41 = .ok (.iconst 0, 1) := by decide +kernel
theorem dX6_areSo_42 : decode cX6_areSo 42 = .ok (.ireturn, 1) := by decide +kernel
theorem dX6_areSo_43 : decode cX6_areSo 43 = .ok (.iinc 1 1, 3) := by decide +kernel
theorem dX6_areSo_46 : decode cX6_areSo 46 = .ok (.goto (-44), 3) := by decide +kernel
theorem dX6_areSo_49 : decode cX6_areSo 49 = .ok (.iconst 1, 1) := by decide +kernel
theorem dX6_areSo_50 : decode cX6_areSo 50 = .ok (.ireturn, 1) := by decide +kernel
theorem dX6_times_0 : decode cX6_times 0 = .ok (.aload_n 0, 1) := by decide +kernel
theorem dX6_times_1 : decode cX6_times 1 = .ok (.iload_n 1, 1) := by decide +kernel
theorem dX6_times_2 : decode cX6_times 2 = .ok (.invokevirtual 149, 3) := by decide +kernel
theorem dX6_times_5 : decode cX6_times 5 = .ok (.ifCond .ne 5, 3) := by decide +kernel
theorem dX6_times_8 : decode cX6_times 8 = .ok (.iconst (-1), 1) := by decide +kernel
theorem dX6_times_9 : decode cX6_times 9 = .ok (.ireturn, 1) := by decide +kernel
theorem dX6_times_10 : decode cX6_times 10 = .ok (.aload_n 0, 1) := by decide +kernel
theorem dX6_times_11 : decode cX6_times 11 = .ok (.getfield 28, 3) := by decide +kernel
theorem dX6_times_14 : decode cX6_times 14 = .ok (.iload_n 1, 1) := by decide +kernel
theorem dX6_times_15 : decode cX6_times 15 = .ok (.iaload, 1) := by decide +kernel
theorem dX6_times_16 : decode cX6_times 16 = .ok (.istore_n 2, 1) := by decide +kernel
theorem dX6_times_17 : decode cX6_times 17 = .ok (.iconst 0, 1) := by decide +kernel
theorem dX6_times_18 : decode cX6_times 18 = .ok (.istore_n 3, 1) := by decide +kernel
theorem dX6_times_19 : decode cX6_times 19 = .ok (.iconst 0, 1) := by decide +kernel
theorem dX6_times_20 : decode cX6_times 20 = .ok (.istore 4, 2) := by decide +kernel
theorem dX6_times_22 : decode cX6_times 22 = .ok (.iload 4, 2) := by decide +kernel
theorem dX6_times_24 : decode cX6_times 24 = .ok (.bipush 20, 2) := by decide +kernel
theorem dX6_times_26 : decode cX6_times 26 = .ok (.if_icmp .ge 35, 3) := by decide +kernel
theorem dX6_times_29 : decode cX6_times 29 = .ok (.aload_n 0, 1) := by decide +kernel
theorem dX6_times_30 : decode cX6_times 30 = .ok (.getfield 28, 3) := by decide +kernel
theorem dX6_times_33 : decode cX6_times 33 = .ok (.iload_n 1, 1) := by decide +kernel
theorem dX6_times_34 : decode cX6_times 34 = .ok (.iload 4, 2) := by decide +kernel
theorem dX6_times_36 : decode cX6_times 36 = .ok (.iastore, 1) := by decide +kernel
theorem dX6_times_37 : decode cX6_times 37 = .ok (.iload_n 3, 1) := by decide +kernel
theorem dX6_times_38 : decode cX6_times 38 = .ok (.aload_n 0, 1) := by decide +kernel
theorem dX6_times_39 : decode cX6_times 39 = .ok (.invokevirtual 196, 3) := by decide +kernel
theorem dX6_times_42 : decode cX6_times 42 = .ok (.ifCond .eq 10, 3) := by decide +kernel
theorem dX6_times_45 : decode cX6_times 45 = .ok (.iconst 1, 1) := by decide +kernel
theorem dX6_times_46 : decode cX6_times 46 = .ok (.iload 4, 2) := by decide +kernel
theorem dX6_times_48 : decode cX6_times 48 = .ok (.ishl, 1) := by decide +kernel
theorem dX6_times_49 : decode cX6_times 49 = .ok (.goto 4, 3) := by decide +kernel
theorem dX6_times_52 : decode cX6_times 52 = .ok (.iconst 0, 1) := by decide +kernel
theorem dX6_times_53 : decode cX6_times 53 = .ok (.ior, 1) := by decide +kernel
theorem dX6_times_54 : decode cX6_times 54 = .ok (.istore_n 3, 1) := by decide +kernel
theorem dX6_times_55 : decode cX6_times 55 = .ok (.iinc 4 1, 3) := by decide +kernel
theorem dX6_times_58 : decode cX6_times 58 = .ok (.goto (-36), 3) := by decide +kernel
theorem dX6_times_61 : decode cX6_times 61 = .ok (.aload_n 0, 1) := by decide +kernel
theorem dX6_times_62 : decode cX6_times 62 = .ok (.getfield 28, 3) := by decide +kernel
theorem dX6_times_65 : decode cX6_times 65 = .ok (.iload_n 1, 1) := by decide +kernel
theorem dX6_times_66 : decode cX6_times 66 = .ok (.iload_n 2, 1) := by decide +kernel
theorem dX6_times_67 : decode cX6_times 67 = .ok (.iastore, 1) := by decide +kernel
theorem dX6_times_68 : decode cX6_times 68 = .ok (.iload_n 3, 1) := by decide +kernel
theorem dX6_times_69 : decode cX6_times 69 = .ok (.ireturn, 1) := by decide +kernel
theorem dX6_grudges_0 : decode cX6_grudges 0 = .ok (.aload_n 0, 1) := by decide +kernel
theorem dX6_grudges_1 : decode cX6_grudges 1 = .ok (.iload_n 1, 1) := by decide +kernel
theorem dX6_grudges_2 : decode cX6_grudges 2 = .ok (.invokevirtual 140, 3) := by decide +kernel
theorem dX6_grudges_5 : decode cX6_grudges 5 = .ok (.ifCond .ne 5, 3) := by decide +kernel
theorem dX6_grudges_8 : decode cX6_grudges 8 = .ok (.iconst (-1), 1) := by decide +kernel
theorem dX6_grudges_9 : decode cX6_grudges 9 = .ok (.ireturn, 1) := by decide +kernel
theorem dX6_grudges_10 : decode cX6_grudges 10 = .ok (.aload_n 0, 1) := by decide +kernel
theorem dX6_grudges_11 : decode cX6_grudges 11 = .ok (.getfield 25, 3) := by decide +kernel
theorem dX6_grudges_14 : decode cX6_grudges 14 = .ok (.iload_n 1, 1) := by decide +kernel
theorem dX6_grudges_15 : decode cX6_grudges 15 = .ok (.iaload, 1) := by decide +kernel
theorem dX6_grudges_16 : decode cX6_grudges 16 = .ok (.istore_n 2, 1) := by decide +kernel
theorem dX6_grudges_17 : decode cX6_grudges 17 = .ok (.iconst 0, 1) := by decide +kernel
theorem dX6_grudges_18 : decode cX6_grudges 18 = .ok (.istore_n 3, 1) := by decide +kernel
theorem dX6_grudges_19 : decode cX6_grudges 19 = .ok (.iconst 0, 1) := by decide +kernel
theorem dX6_grudges_20 : decode cX6_grudges 20 = .ok (.istore 4, 2) := by decide +kernel
theorem dX6_grudges_22 : decode cX6_grudges 22 = .ok (.iload 4, 2) := by decide +kernel
theorem dX6_grudges_24 : decode cX6_grudges 24 = .ok (.bipush 9, 2) := by decide +kernel
theorem dX6_grudges_26 : decode cX6_grudges 26 = .ok (.if_icmp .gt 35, 3) := by decide +kernel
theorem dX6_grudges_29 : decode cX6_grudges 29 = .ok (.aload_n 0, 1) := by decide +kernel
theorem dX6_grudges_30 : decode cX6_grudges 30 = .ok (.getfield 25, 3) := by decide +kernel
theorem dX6_grudges_33 : decode cX6_grudges 33 = .ok (.iload_n 1, 1) := by decide +kernel
theorem dX6_grudges_34 : decode cX6_grudges 34 = .ok (.iload 4, 2) := by decide +kernel
theorem dX6_grudges_36 : decode cX6_grudges 36 = .ok (.iastore, 1) := by decide +kernel
theorem dX6_grudges_37 : decode cX6_grudges 37 = .ok (.iload_n 3, 1) := by decide +kernel
theorem dX6_grudges_38 : decode cX6_grudges 38 = .ok (.aload_n 0, 1) := by decide +kernel
theorem dX6_grudges_39 : decode cX6_grudges 39 = .ok (.invokevirtual 196, 3) := by decide +kernel
theorem dX6_grudges_42 : decode cX6_grudges 42 = .ok (.ifCond .eq 10, 3) := by decide +kernel
theorem dX6_grudges_45 : decode cX6_grudges 45 = .ok (.iconst 1, 1) := by decide +kernel
theorem dX6_grudges_46 : decode cX6_grudges 46 = .ok (.iload 4, 2) := by decide +kernel
theorem dX6_grudges_48 : decode cX6_grudges 48 = .ok (.ishl, 1) := by decide +kernel
theorem dX6_grudges_49 : decode cX6_grudges 49 = .ok (.goto 4, 3) := by decide +kernel
theorem dX6_grudges_52 : decode cX6_grudges 52 = .ok (.iconst 0, 1) := by decide +kernel
theorem dX6_grudges_53 : decode cX6_grudges 53 = .ok (.ior, 1) := by decide +kernel
theorem dX6_grudges_54 : decode cX6_grudges 54 = .ok (.istore_n 3, 1) := by decide +kernel
theorem dX6_grudges_55 : decode cX6_grudges 55 = .ok (.iinc 4 1, 3) := by decide +kernel
theorem dX6_grudges_58 : decode cX6_grudges 58 = .ok (.goto (-36), 3) := by decide +kernel
theorem dX6_grudges_61 : decode cX6_grudges 61 = .ok (.aload_n 0, 1) := by decide +kernel
theorem dX6_grudges_62 : decode cX6_grudges 62 = .ok (.getfield 25, 3) := by decide +kernel
theorem dX6_grudges_65 : decode cX6_grudges 65 = .ok (.iload_n 1, 1) := by decide +kernel
theorem dX6_grudges_66 : decode cX6_grudges 66 = .ok (.iload_n 2, 1) := by decide +kernel
theorem dX6_grudges_67 : decode cX6_grudges 67 = .ok (.iastore, 1) := by decide +kernel
theorem dX6_grudges_68 : decode cX6_grudges 68 = .ok (.iload_n 3, 1) := by decide +kernel
theorem dX6_grudges_69 : decode cX6_grudges 69 = .ok (.ireturn, 1) := by decide +kernel
theorem dX6_ears_0 : decode cX6_ears 0 = .ok (.aload_n 0, 1) := by decide +kernel
theorem dX6_ears_1 : decode cX6_ears 1 = .ok (.iload_n 1, 1) := by decide +kernel
theorem dX6_ears_2 : decode cX6_ears 2 = .ok (.invokevirtual 140, 3) := by decide +kernel
theorem dX6_ears_5 : decode cX6_ears 5 = .ok (.ifCond .ne 5, 3) := by decide +kernel
theorem dX6_ears_8 : decode cX6_ears 8 = .ok (.iconst (-1), 1) := by decide +kernel
theorem dX6_ears_9 : decode cX6_ears 9 = .ok (.ireturn, 1) := by decide +kernel
theorem dX6_ears_10 : decode cX6_ears 10 = .ok (.aload_n 0, 1) := by decide +kernel
theorem dX6_ears_11 : decode cX6_ears 11 = .ok (.getfield 22, 3) := by decide +kernel
theorem dX6_ears_14 : decode cX6_ears 14 = .ok (.iload_n 1, 1) := by decide +kernel
theorem dX6_ears_15 : decode cX6_ears 15 = .ok (.iaload, 1) := by decide +kernel
theorem dX6_ears_16 : decode cX6_ears 16 = .ok (.istore_n 2, 1) := by decide +kernel
theorem dX6_ears_17 : decode cX6_ears 17 = .ok (.iconst 0, 1) := by decide +kernel
theorem dX6_ears_18 : decode cX6_ears 18 = .ok (.istore_n 3, 1) := by decide +kernel
theorem dX6_ears_19 : decode cX6_ears 19 = .ok (.iconst 0, 1) := by decide +kernel
theorem dX6_ears_20 : decode cX6_ears 20 = .ok (.istore 4, 2) := by decide +kernel
theorem dX6_ears_22 : decode cX6_ears 22 = .ok (.iload 4, 2) := by decide +kernel
theorem dX6_ears_24 : decode cX6_ears 24 = .ok (.iconst 4, 1) := by decide +kernel
theorem dX6_ears_25 : decode cX6_ears 25 = .ok (.if_icmp .gt 35, 3) := by decide +kernel
theorem dX6_ears_28 : decode cX6_ears 28 = .ok (.aload_n 0, 1) := by decide +kernel
theorem dX6_ears_29 : decode cX6_ears 29 = .ok (.getfield 22, 3) := by decide +kernel
theorem dX6_ears_32 : decode cX6_ears 32 = .ok (.iload_n 1, 1) := by decide +kernel
theorem dX6_ears_33 : decode cX6_ears 33 = .ok (.iload 4, 2) := by decide +kernel
theorem dX6_ears_35 : decode cX6_ears 35 = .ok (.iastore, 1) := by decide +kernel
theorem dX6_ears_36 : decode cX6_ears 36 = .ok (.iload_n 3, 1) := by decide +kernel
theorem dX6_ears_37 : decode cX6_ears 37 = .ok (.aload_n 0, 1) := by decide +kernel
theorem dX6_ears_38 : decode cX6_ears 38 = .ok (.invokevirtual 196, 3) := by decide +kernel
theorem dX6_ears_41 : decode cX6_ears 41 = .ok (.ifCond .eq 10, 3) := by decide +kernel
theorem dX6_ears_44 : decode cX6_ears 44 = .ok (.iconst 1, 1) := by decide +kernel
theorem dX6_ears_45 : decode cX6_ears 45 = .ok (.iload 4, 2) := by decide +kernel
theorem dX6_ears_47 : decode cX6_ears 47 = .ok (.ishl, 1) := by decide +kernel
theorem dX6_ears_48 : decode cX6_ears 48 = .ok (.goto 4, 3) := by decide +kernel
theorem dX6_ears_51 : decode cX6_ears 51 = .ok (.iconst 0, 1) := by decide +kernel
theorem dX6_ears_52 : decode cX6_ears 52 = .ok (.ior, 1) := by decide +kernel
theorem dX6_ears_53 : decode cX6_ears 53 = .ok (.istore_n 3, 1) := by decide +kernel
theorem dX6_ears_54 : decode cX6_ears 54 = .ok (.iinc 4 1, 3) := by decide +kernel
theorem dX6_ears_57 : decode cX6_ears 57 = .ok (.goto (-35), 3) := by decide +kernel
theorem dX6_ears_60 : decode cX6_ears 60 = .ok (.aload_n 0, 1) := by decide +kernel
theorem dX6_ears_61 : decode cX6_ears 61 = .ok (.getfield 22, 3) := by decide +kernel
theorem dX6_ears_64 : decode cX6_ears 64 = .ok (.iload_n 1, 1) := by decide +kernel
theorem dX6_ears_65 : decode cX6_ears 65 = .ok (.iload_n 2, 1) := by decide +kernel
theorem dX6_ears_66 : decode cX6_ears 66 = .ok (.iastore, 1) := by decide +kernel
theorem dX6_ears_67 : decode cX6_ears 67 = .ok (.iload_n 3, 1) := by decide +kernel
theorem dX6_ears_68 : decode cX6_ears 68 = .ok (.ireturn, 1) := by decide +kernel
theorem dX6_kinds_0 : decode cX6_kinds 0 = .ok (.aload_n 0, 1) := by decide +kernel
theorem dX6_kinds_1 : decode cX6_kinds 1 = .ok (.iload_n 1, 1) := by decide +kernel
theorem dX6_kinds_2 : decode cX6_kinds 2 = .ok (.invokevirtual 140, 3) := by decide +kernel
theorem dX6_kinds_5 : decode cX6_kinds 5 = .ok (.ifCond .ne 5, 3) := by decide +kernel
theorem dX6_kinds_8 : decode cX6_kinds 8 = .ok (.iconst (-1), 1) := by decide +kernel
theorem dX6_kinds_9 : decode cX6_kinds 9 = .ok (.ireturn, 1) := by decide +kernel
theorem dX6_kinds_10 : decode cX6_kinds 10 = .ok (.aload_n 0, 1) := by decide +kernel
theorem dX6_kinds_11 : decode cX6_kinds 11 = .ok (.getfield 19, 3) := by decide +kernel
theorem dX6_kinds_14 : decode cX6_kinds 14 = .ok (.iload_n 1, 1) := by decide +kernel
theorem dX6_kinds_15 : decode cX6_kinds 15 = .ok (.iaload, 1) := by decide +kernel
theorem dX6_kinds_16 : decode cX6_kinds 16 = .ok (.istore_n 2, 1) := by decide +kernel
theorem dX6_kinds_17 : decode cX6_kinds 17 = .ok (.iconst 0, 1) := by decide +kernel
theorem dX6_kinds_18 : decode cX6_kinds 18 = .ok (.istore_n 3, 1) := by decide +kernel
theorem dX6_kinds_19 : decode cX6_kinds 19 = .ok (.iconst 0, 1) := by decide +kernel
theorem dX6_kinds_20 : decode cX6_kinds 20 = .ok (.istore 4, 2) := by decide +kernel
theorem dX6_kinds_22 : decode cX6_kinds 22 = .ok (.iload 4, 2) := by decide +kernel
theorem dX6_kinds_24 : decode cX6_kinds 24 = .ok (.iconst 3, 1) := by decide +kernel
theorem dX6_kinds_25 : decode cX6_kinds 25 = .ok (.if_icmp .ge 35, 3) := by decide +kernel
theorem dX6_kinds_28 : decode cX6_kinds 28 = .ok (.aload_n 0, 1) := by decide +kernel
theorem dX6_kinds_29 : decode cX6_kinds 29 = .ok (.getfield 19, 3) := by decide +kernel
theorem dX6_kinds_32 : decode cX6_kinds 32 = .ok (.iload_n 1, 1) := by decide +kernel
theorem dX6_kinds_33 : decode cX6_kinds 33 = .ok (.iload 4, 2) := by decide +kernel
theorem dX6_kinds_35 : decode cX6_kinds 35 = .ok (.iastore, 1) := by decide +kernel
theorem dX6_kinds_36 : decode cX6_kinds 36 = .ok (.iload_n 3, 1) := by decide +kernel
theorem dX6_kinds_37 : decode cX6_kinds 37 = .ok (.aload_n 0, 1) := by decide +kernel
theorem dX6_kinds_38 : decode cX6_kinds 38 = .ok (.invokevirtual 196, 3) := by decide +kernel
theorem dX6_kinds_41 : decode cX6_kinds 41 = .ok (.ifCond .eq 10, 3) := by decide +kernel
theorem dX6_kinds_44 : decode cX6_kinds 44 = .ok (.iconst 1, 1) := by decide +kernel
theorem dX6_kinds_45 : decode cX6_kinds 45 = .ok (.iload 4, 2) := by decide +kernel
theorem dX6_kinds_47 : decode cX6_kinds 47 = .ok (.ishl, 1) := by decide +kernel
theorem dX6_kinds_48 : decode cX6_kinds 48 = .ok (.goto 4, 3) := by decide +kernel
theorem dX6_kinds_51 : decode cX6_kinds 51 = .ok (.iconst 0, 1) := by decide +kernel
theorem dX6_kinds_52 : decode cX6_kinds 52 = .ok (.ior, 1) := by decide +kernel
theorem dX6_kinds_53 : decode cX6_kinds 53 = .ok (.istore_n 3, 1) := by decide +kernel
theorem dX6_kinds_54 : decode cX6_kinds 54 = .ok (.iinc 4 1, 3) := by decide +kernel
theorem dX6_kinds_57 : decode cX6_kinds 57 = .ok (.goto (-35), 3) := by decide +kernel
theorem dX6_kinds_60 : decode cX6_kinds 60 = .ok (.aload_n 0, 1) := by decide +kernel
theorem dX6_kinds_61 : decode cX6_kinds 61 = .ok (.getfield 19, 3) := by decide +kernel
theorem dX6_kinds_64 : decode cX6_kinds 64 = .ok (.iload_n 1, 1) := by decide +kernel
theorem dX6_kinds_65 : decode cX6_kinds 65 = .ok (.iload_n 2, 1) := by decide +kernel
theorem dX6_kinds_66 : decode cX6_kinds 66 = .ok (.iastore, 1) := by decide +kernel
theorem dX6_kinds_67 : decode cX6_kinds 67 = .ok (.iload_n 3, 1) := by decide +kernel
theorem dX6_kinds_68 : decode cX6_kinds 68 = .ok (.ireturn, 1) := by decide +kernel
theorem dX6_inLeastTerms_0 : decode cX6_inLeastTerms 0 = .ok (.lload_n 0, 1) := by decide +kernel
theorem dX6_inLeastTerms_1 : decode cX6_inLeastTerms 1 = .ok (.lstore 5, 2) := by decide +kernel
theorem dX6_inLeastTerms_3 : decode cX6_inLeastTerms 3 = .ok (.lload_n 2, 1) := by decide +kernel
theorem dX6_inLeastTerms_4 : decode cX6_inLeastTerms 4 = .ok (.lstore 7, 2) := by decide +kernel
theorem dX6_inLeastTerms_6 : decode cX6_inLeastTerms 6 = .ok (.lload 7, 2) := by decide +kernel
theorem dX6_inLeastTerms_8 : decode cX6_inLeastTerms 8 = .ok (.lconst 0, 1) := by decide +kernel
theorem dX6_inLeastTerms_9 : decode cX6_inLeastTerms 9 = .ok (.lcmp, 1) := by decide +kernel
theorem dX6_inLeastTerms_10 : decode cX6_inLeastTerms 10 = .ok (.ifCond .eq 21, 3) := by decide +kernel
theorem dX6_inLeastTerms_13 : decode cX6_inLeastTerms 13 = .ok (.lload 5, 2) := by decide +kernel
theorem dX6_inLeastTerms_15 : decode cX6_inLeastTerms 15 = .ok (.lload 7, 2) := by decide +kernel
theorem dX6_inLeastTerms_17 : decode cX6_inLeastTerms 17 = .ok (.lrem, 1) := by decide +kernel
theorem dX6_inLeastTerms_18 : decode cX6_inLeastTerms 18 = .ok (.lstore 9, 2) := by decide +kernel
theorem dX6_inLeastTerms_20 : decode cX6_inLeastTerms 20 = .ok (.lload 7, 2) := by decide +kernel
theorem dX6_inLeastTerms_22 : decode cX6_inLeastTerms 22 = .ok (.lstore 5, 2) := by decide +kernel
theorem dX6_inLeastTerms_24 : decode cX6_inLeastTerms 24 = .ok (.lload 9, 2) := by decide +kernel
theorem dX6_inLeastTerms_26 : decode cX6_inLeastTerms 26 = .ok (.lstore 7, 2) := by decide +kernel
theorem dX6_inLeastTerms_28 : decode cX6_inLeastTerms 28 = .ok (.goto (-22), 3) := by decide +kernel
theorem dX6_inLeastTerms_31 : decode cX6_inLeastTerms 31 = .ok (.iload 4, 2) := by decide +kernel
theorem dX6_inLeastTerms_33 : decode cX6_inLeastTerms 33 = .ok (.ifCond .ne 10, 3) := by decide +kernel
theorem dX6_inLeastTerms_36 : decode cX6_inLeastTerms 36 = .ok (.lload_n 0, 1) := by decide +kernel
theorem dX6_inLeastTerms_37 : decode cX6_inLeastTerms 37 = .ok (.lload 5, 2) := by decide +kernel
theorem dX6_inLeastTerms_39 : decode cX6_inLeastTerms 39 = .ok (.ldiv, 1) := by decide +kernel
theorem dX6_inLeastTerms_40 : decode cX6_inLeastTerms 40 = .ok (.goto 7, 3) := by decide +kernel
theorem dX6_inLeastTerms_43 : decode cX6_inLeastTerms 43 = .ok (.lload_n 2, 1) := by decide +kernel
theorem dX6_inLeastTerms_44 : decode cX6_inLeastTerms 44 = .ok (.lload 5, 2) := by decide +kernel
theorem dX6_inLeastTerms_46 : decode cX6_inLeastTerms 46 = .ok (.ldiv, 1) := by decide +kernel
theorem dX6_inLeastTerms_47 : decode cX6_inLeastTerms 47 = .ok (.lreturn, 1) := by decide +kernel
theorem dX6_odds_0 : decode cX6_odds 0 = .ok (.iload_n 1, 1) := by decide +kernel
theorem dX6_odds_1 : decode cX6_odds 1 = .ok (.invokestatic 146, 3) := by decide +kernel
theorem dX6_odds_4 : decode cX6_odds 4 = .ok (.ifCond .eq 19, 3) := by decide +kernel
theorem dX6_odds_7 : decode cX6_odds 7 = .ok (.iload_n 2, 1) := by decide +kernel
theorem dX6_odds_8 : decode cX6_odds 8 = .ok (.iconst 0, 1) := by decide +kernel
theorem dX6_odds_9 : decode cX6_odds 9 = .ok (.iconst 1, 1) := by decide +kernel
theorem dX6_odds_10 : decode cX6_odds 10 = .ok (.invokestatic 83, 3) := by decide +kernel
theorem dX6_odds_13 : decode cX6_odds 13 = .ok (.ifCond .eq 10, 3) := by decide +kernel
theorem dX6_odds_16 : decode cX6_odds 16 = .ok (.aload_n 0, 1) := by decide +kernel
theorem dX6_odds_17 : decode cX6_odds 17 = .ok (.getfield 90, 3) := by decide +kernel
theorem dX6_odds_20 : decode cX6_odds 20 = .ok (.ifCond .ne 7, 3) := by decide +kernel
theorem dX6_odds_23 : decode cX6_odds 23 = .ok (.ldc2_w 81, 3) := by decide +kernel
theorem dX6_odds_26 : decode cX6_odds 26 = .ok (.lreturn, 1) := by decide +kernel
theorem dX6_odds_27 : decode cX6_odds 27 = .ok (.iconst 0, 1) := by decide +kernel
theorem dX6_odds_28 : decode cX6_odds 28 = .ok (.istore_n 3, 1) := by decide +kernel
theorem dX6_odds_29 : decode cX6_odds 29 = .ok (.iconst 0, 1) := by decide +kernel
theorem dX6_odds_30 : decode cX6_odds 30 = .ok (.istore 4, 2) := by decide +kernel
theorem dX6_odds_32 : decode cX6_odds 32 = .ok (.iload 4, 2) := by decide +kernel
theorem dX6_odds_34 : decode cX6_odds 34 = .ok (.iconst 1, 1) := by decide +kernel
theorem dX6_odds_35 : decode cX6_odds 35 = .ok (.aload_n 0, 1) := by decide +kernel
theorem dX6_odds_36 : decode cX6_odds 36 = .ok (.getfield 120, 3) := by decide +kernel
theorem dX6_odds_39 : decode cX6_odds 39 = .ok (.ishl, 1) := by decide +kernel
theorem dX6_odds_40 : decode cX6_odds 40 = .ok (.if_icmp .ge 35, 3) := by decide +kernel
theorem dX6_odds_43 : decode cX6_odds 43 = .ok (.aload_n 0, 1) := by decide +kernel
theorem dX6_odds_44 : decode cX6_odds 44 = .ok (.iload 4, 2) := by decide +kernel
theorem dX6_odds_46 : decode cX6_odds 46 = .ok (.putfield 152, 3) := by decide +kernel
theorem dX6_odds_49 : decode cX6_odds 49 = .ok (.iload_n 3, 1) := by decide +kernel
theorem dX6_odds_50 : decode cX6_odds 50 = .ok (.aload_n 0, 1) := by decide +kernel
theorem dX6_odds_51 : decode cX6_odds 51 = .ok (.iload_n 1, 1) := by decide +kernel
theorem dX6_odds_52 : decode cX6_odds 52 = .ok (.invokevirtual 193, 3) := by decide +kernel
theorem dX6_odds_55 : decode cX6_odds 55 = .ok (.aload_n 0, 1) := by decide +kernel
theorem dX6_odds_56 : decode cX6_odds 56 = .ok (.getfield 87, 3) := by decide +kernel
theorem dX6_odds_59 : decode cX6_odds 59 = .ok (.if_icmp .ne 7, 3) := by decide +kernel
theorem dX6_odds_62 : decode cX6_odds 62 = .ok (.iconst 1, 1) := by decide +kernel
theorem dX6_odds_63 : decode cX6_odds 63 = .ok (.goto 4, 3) := by decide +kernel
theorem dX6_odds_66 : decode cX6_odds 66 = .ok (.iconst 0, 1) := by decide +kernel
theorem dX6_odds_67 : decode cX6_odds 67 = .ok (.iadd, 1) := by decide +kernel
theorem dX6_odds_68 : decode cX6_odds 68 = .ok (.istore_n 3, 1) := by decide +kernel
theorem dX6_odds_69 : decode cX6_odds 69 = .ok (.iinc 4 1, 3) := by decide +kernel
theorem dX6_odds_72 : decode cX6_odds 72 = .ok (.goto (-40), 3) := by decide +kernel
theorem dX6_odds_75 : decode cX6_odds 75 = .ok (.aload_n 0, 1) := by decide +kernel
theorem dX6_odds_76 : decode cX6_odds 76 = .ok (.iconst 0, 1) := by decide +kernel
theorem dX6_odds_77 : decode cX6_odds 77 = .ok (.putfield 152, 3) := by decide +kernel
theorem dX6_odds_80 : decode cX6_odds 80 = .ok (.iload_n 3, 1) := by decide +kernel
theorem dX6_odds_81 : decode cX6_odds 81 = .ok (.i2l, 1) := by decide +kernel
theorem dX6_odds_82 : decode cX6_odds 82 = .ok (.lconst 1, 1) := by decide +kernel
theorem dX6_odds_83 : decode cX6_odds 83 = .ok (.aload_n 0, 1) := by decide +kernel
theorem dX6_odds_84 : decode cX6_odds 84 = .ok (.getfield 120, 3) := by decide +kernel
theorem dX6_odds_87 : decode cX6_odds 87 = .ok (.lshl, 1) := by decide +kernel
theorem dX6_odds_88 : decode cX6_odds 88 = .ok (.iload_n 2, 1) := by decide +kernel
theorem dX6_odds_89 : decode cX6_odds 89 = .ok (.invokestatic 200, 3) := by decide +kernel
theorem dX6_odds_92 : decode cX6_odds 92 = .ok (.lreturn, 1) := by decide +kernel
theorem dX6_sheet_0 : decode cX6_sheet 0 = .ok (.aload_n 0, 1) := by decide +kernel
theorem dX6_sheet_1 : decode cX6_sheet 1 = .ok (.iconst 0, 1) := by decide +kernel
theorem dX6_sheet_2 : decode cX6_sheet 2 = .ok (.putfield 78, 3) := by decide +kernel
theorem dX6_sheet_5 : decode cX6_sheet 5 = .ok (.iload_n 1, 1) := by decide +kernel
theorem dX6_sheet_6 : decode cX6_sheet 6 = .ok (.invokestatic 96, 3) := by decide +kernel
theorem dX6_sheet_9 : decode cX6_sheet 9 = .ok (.ifCond .ne 5, 3) := by decide +kernel
theorem dX6_sheet_12 : decode cX6_sheet 12 = .ok (.iconst (-1), 1) := by decide +kernel
theorem dX6_sheet_13 : decode cX6_sheet 13 = .ok (.ireturn, 1) := by decide +kernel
theorem dX6_sheet_14 : decode cX6_sheet 14 = .ok (.iload_n 2, 1) := by decide +kernel
theorem dX6_sheet_15 : decode cX6_sheet 15 = .ok (.invokestatic 100, 3) := by decide +kernel
theorem dX6_sheet_18 : decode cX6_sheet 18 = .ok (.ifCond .eq 9, 3) := by decide +kernel
theorem dX6_sheet_21 : decode cX6_sheet 21 = .ok (.iload_n 3, 1) := by decide +kernel
theorem dX6_sheet_22 : decode cX6_sheet 22 = .ok (.bipush 60, 2) := by decide +kernel
theorem dX6_sheet_24 : decode cX6_sheet 24 = .ok (.if_icmp .le 6, 3) := by decide +kernel
theorem dX6_sheet_27 : decode cX6_sheet 27 = .ok (.bipush (-2), 2) := by decide +kernel
theorem dX6_sheet_29 : decode cX6_sheet 29 = .ok (.ireturn, 1) := by decide +kernel
theorem dX6_sheet_30 : decode cX6_sheet 30 = .ok (.iload_n 3, 1) := by decide +kernel
theorem dX6_sheet_31 : decode cX6_sheet 31 = .ok (.ifCond .ge 9, 3) := by decide +kernel
theorem dX6_sheet_34 : decode cX6_sheet 34 = .ok (.aload_n 0, 1) := by decide +kernel
theorem dX6_sheet_35 : decode cX6_sheet 35 = .ok (.iconst 4, 1) := by decide +kernel
theorem dX6_sheet_36 : decode cX6_sheet 36 = .ok (.invokevirtual 107, 3) := by decide +kernel
theorem dX6_sheet_39 : decode cX6_sheet 39 = .ok (.ireturn, 1) := by decide +kernel
theorem dX6_sheet_40 : decode cX6_sheet 40 = .ok (.aload_n 0, 1) := by decide +kernel
theorem dX6_sheet_41 : decode cX6_sheet 41 = .ok (.getfield 9, 3) := by decide +kernel
theorem dX6_sheet_44 : decode cX6_sheet 44 = .ok (.iload_n 1, 1) := by decide +kernel
theorem dX6_sheet_45 : decode cX6_sheet 45 = .ok (.iload_n 2, 1) := by decide +kernel
theorem dX6_sheet_46 : decode cX6_sheet 46 = .ok (.iastore, 1) := by decide +kernel
theorem dX6_sheet_47 : decode cX6_sheet 47 = .ok (.aload_n 0, 1) := by decide +kernel
theorem dX6_sheet_48 : decode cX6_sheet 48 = .ok (.getfield 13, 3) := by decide +kernel
theorem dX6_sheet_51 : decode cX6_sheet 51 = .ok (.iload_n 1, 1) := by decide +kernel
theorem dX6_sheet_52 : decode cX6_sheet 52 = .ok (.iload_n 3, 1) := by decide +kernel
theorem dX6_sheet_53 : decode cX6_sheet 53 = .ok (.iastore, 1) := by decide +kernel
theorem dX6_sheet_54 : decode cX6_sheet 54 = .ok (.iconst 0, 1) := by decide +kernel
theorem dX6_sheet_55 : decode cX6_sheet 55 = .ok (.istore 4, 2) := by decide +kernel
theorem dX6_sheet_57 : decode cX6_sheet 57 = .ok (.iload 4, 2) := by decide +kernel
theorem dX6_sheet_59 : decode cX6_sheet 59 = .ok (.bipush 60, 2) := by decide +kernel
theorem dX6_sheet_61 : decode cX6_sheet 61 = .ok (.if_icmp .ge 22, 3) := by decide +kernel
theorem dX6_sheet_64 : decode cX6_sheet 64 = .ok (.aload_n 0, 1) := by decide +kernel
theorem dX6_sheet_65 : decode cX6_sheet 65 = .ok (.getfield 16, 3) := by decide +kernel
theorem dX6_sheet_68 : decode cX6_sheet 68 = .ok (.bipush 60, 2) := by decide +kernel
theorem dX6_sheet_70 : decode cX6_sheet 70 = .ok (.iload_n 1, 1) := by decide +kernel
theorem dX6_sheet_71 : decode cX6_sheet 71 = .ok (.imul, 1) := by decide +kernel
theorem dX6_sheet_72 : decode cX6_sheet 72 = .ok (.iload 4, 2) := by decide +kernel
theorem dX6_sheet_74 : decode cX6_sheet 74 = .ok (.iadd, 1) := by decide +kernel
theorem dX6_sheet_75 : decode cX6_sheet 75 = .ok (.iconst 0, 1) := by decide +kernel
theorem dX6_sheet_76 : decode cX6_sheet 76 = .ok (.iastore, 1) := by decide +kernel
theorem dX6_sheet_77 : decode cX6_sheet 77 = .ok (.iinc 4 1, 3) := by decide +kernel
theorem dX6_sheet_80 : decode cX6_sheet 80 = .ok (.goto (-23), 3) := by decide +kernel
theorem dX6_sheet_83 : decode cX6_sheet 83 = .ok (.iconst 1, 1) := by decide +kernel
theorem dX6_sheet_84 : decode cX6_sheet 84 = .ok (.ireturn, 1) := by decide +kernel
theorem dX6_lose_0 : decode cX6_lose 0 = .ok (.iload_n 1, 1) := by decide +kernel
theorem dX6_lose_1 : decode cX6_lose 1 = .ok (.invokestatic 96, 3) := by decide +kernel
theorem dX6_lose_4 : decode cX6_lose 4 = .ok (.ifCond .ne 5, 3) := by decide +kernel
theorem dX6_lose_7 : decode cX6_lose 7 = .ok (.iconst (-1), 1) := by decide +kernel
theorem dX6_lose_8 : decode cX6_lose 8 = .ok (.ireturn, 1) := by decide +kernel
theorem dX6_lose_9 : decode cX6_lose 9 = .ok (.aload_n 0, 1) := by decide +kernel
theorem dX6_lose_10 : decode cX6_lose 10 = .ok (.getfield 9, 3) := by decide +kernel
theorem dX6_lose_13 : decode cX6_lose 13 = .ok (.iload_n 1, 1) := by decide +kernel
theorem dX6_lose_14 : decode cX6_lose 14 = .ok (.iaload, 1) := by decide +kernel
theorem dX6_lose_15 : decode cX6_lose 15 = .ok (.bipush (-9), 2) := by decide +kernel
theorem dX6_lose_17 : decode cX6_lose 17 = .ok (.if_icmp .ne 7, 3) := by decide +kernel
theorem dX6_lose_20 : decode cX6_lose 20 = .ok (.iconst 0, 1) := by decide +kernel
theorem dX6_lose_21 : decode cX6_lose 21 = .ok (.goto 4, 3) := by decide +kernel
theorem dX6_lose_24 : decode cX6_lose 24 = .ok (.iconst 1, 1) := by decide +kernel
theorem dX6_lose_25 : decode cX6_lose 25 = .ok (.istore_n 2, 1) := by decide +kernel
theorem dX6_lose_26 : decode cX6_lose 26 = .ok (.aload_n 0, 1) := by decide +kernel
theorem dX6_lose_27 : decode cX6_lose 27 = .ok (.getfield 9, 3) := by decide +kernel
theorem dX6_lose_30 : decode cX6_lose 30 = .ok (.iload_n 1, 1) := by decide +kernel
theorem dX6_lose_31 : decode cX6_lose 31 = .ok (.bipush (-9), 2) := by decide +kernel
theorem dX6_lose_33 : decode cX6_lose 33 = .ok (.iastore, 1) := by decide +kernel
theorem dX6_lose_34 : decode cX6_lose 34 = .ok (.iload_n 2, 1) := by decide +kernel
theorem dX6_lose_35 : decode cX6_lose 35 = .ok (.ireturn, 1) := by decide +kernel
theorem dX6_put_0 : decode cX6_put 0 = .ok (.aload_n 0, 1) := by decide +kernel
theorem dX6_put_1 : decode cX6_put 1 = .ok (.iconst 0, 1) := by decide +kernel
theorem dX6_put_2 : decode cX6_put 2 = .ok (.putfield 78, 3) := by decide +kernel
theorem dX6_put_5 : decode cX6_put 5 = .ok (.iload_n 1, 1) := by decide +kernel
theorem dX6_put_6 : decode cX6_put 6 = .ok (.invokestatic 96, 3) := by decide +kernel
theorem dX6_put_9 : decode cX6_put 9 = .ok (.ifCond .ne 5, 3) := by decide +kernel
theorem dX6_put_12 : decode cX6_put 12 = .ok (.iconst (-1), 1) := by decide +kernel
theorem dX6_put_13 : decode cX6_put 13 = .ok (.ireturn, 1) := by decide +kernel
theorem dX6_put_14 : decode cX6_put 14 = .ok (.aload_n 0, 1) := by decide +kernel
theorem dX6_put_15 : decode cX6_put 15 = .ok (.getfield 9, 3) := by decide +kernel
theorem dX6_put_18 : decode cX6_put 18 = .ok (.iload_n 1, 1) := by decide +kernel
theorem dX6_put_19 : decode cX6_put 19 = .ok (.iaload, 1) := by decide +kernel
theorem dX6_put_20 : decode cX6_put 20 = .ok (.bipush (-9), 2) := by decide +kernel
theorem dX6_put_22 : decode cX6_put 22 = .ok (.if_icmp .ne 9, 3) := by decide +kernel
theorem dX6_put_25 : decode cX6_put 25 = .ok (.aload_n 0, 1) := by decide +kernel
theorem dX6_put_26 : decode cX6_put 26 = .ok (.iconst 1, 1) := by decide +kernel
theorem dX6_put_27 : decode cX6_put 27 = .ok (.invokevirtual 107, 3) := by decide +kernel
theorem dX6_put_30 : decode cX6_put 30 = .ok (.ireturn, 1) := by decide +kernel
theorem dX6_put_31 : decode cX6_put 31 = .ok (.iload_n 2, 1) := by decide +kernel
theorem dX6_put_32 : decode cX6_put 32 = .ok (.iconst 0, 1) := by decide +kernel
theorem dX6_put_33 : decode cX6_put 33 = .ok (.aload_n 0, 1) := by decide +kernel
theorem dX6_put_34 : decode cX6_put 34 = .ok (.getfield 13, 3) := by decide +kernel
theorem dX6_put_37 : decode cX6_put 37 = .ok (.iload_n 1, 1) := by decide +kernel
theorem dX6_put_38 : decode cX6_put 38 = .ok (.iaload, 1) := by decide +kernel
theorem dX6_put_39 : decode cX6_put 39 = .ok (.iconst 1, 1) := by decide +kernel
theorem dX6_put_40 : decode cX6_put 40 = .ok (.isub, 1) := by decide +kernel
theorem dX6_put_41 : decode cX6_put 41 = .ok (.invokestatic 83, 3) := by decide +kernel
theorem dX6_put_44 : decode cX6_put 44 = .ok (.ifCond .ne 9, 3) := by decide +kernel
theorem dX6_put_47 : decode cX6_put 47 = .ok (.aload_n 0, 1) := by decide +kernel
theorem dX6_put_48 : decode cX6_put 48 = .ok (.iconst 3, 1) := by decide +kernel
theorem dX6_put_49 : decode cX6_put 49 = .ok (.invokevirtual 107, 3) := by decide +kernel
theorem dX6_put_52 : decode cX6_put 52 = .ok (.ireturn, 1) := by decide +kernel
theorem dX6_put_53 : decode cX6_put 53 = .ok (.aload_n 0, 1) := by decide +kernel
theorem dX6_put_54 : decode cX6_put 54 = .ok (.getfield 16, 3) := by decide +kernel
theorem dX6_put_57 : decode cX6_put 57 = .ok (.bipush 60, 2) := by decide +kernel
theorem dX6_put_59 : decode cX6_put 59 = .ok (.iload_n 1, 1) := by decide +kernel
theorem dX6_put_60 : decode cX6_put 60 = .ok (.imul, 1) := by decide +kernel
theorem dX6_put_61 : decode cX6_put 61 = .ok (.iload_n 2, 1) := by decide +kernel
theorem dX6_put_62 : decode cX6_put 62 = .ok (.iadd, 1) := by decide +kernel
theorem dX6_put_63 : decode cX6_put 63 = .ok (.aload_n 0, 1) := by decide +kernel
theorem dX6_put_64 : decode cX6_put 64 = .ok (.getfield 9, 3) := by decide +kernel
theorem dX6_put_67 : decode cX6_put 67 = .ok (.iload_n 1, 1) := by decide +kernel
theorem dX6_put_68 : decode cX6_put 68 = .ok (.iaload, 1) := by decide +kernel
theorem dX6_put_69 : decode cX6_put 69 = .ok (.ifCond .ne 8, 3) := by decide +kernel
theorem dX6_put_72 : decode cX6_put 72 = .ok (.iload_n 3, 1) := by decide +kernel
theorem dX6_put_73 : decode cX6_put 73 = .ok (.i2b, 1) := by decide +kernel
theorem dX6_put_74 : decode cX6_put 74 = .ok (.goto 19, 3) := by decide +kernel
theorem dX6_put_77 : decode cX6_put 77 = .ok (.aload_n 0, 1) := by decide +kernel
theorem dX6_put_78 : decode cX6_put 78 = .ok (.getfield 9, 3) := by decide +kernel
theorem dX6_put_81 : decode cX6_put 81 = .ok (.iload_n 1, 1) := by decide +kernel
theorem dX6_put_82 : decode cX6_put 82 = .ok (.iaload, 1) := by decide +kernel
theorem dX6_put_83 : decode cX6_put 83 = .ok (.iconst 1, 1) := by decide +kernel
theorem dX6_put_84 : decode cX6_put 84 = .ok (.if_icmp .ne 8, 3) := by decide +kernel
theorem dX6_put_87 : decode cX6_put 87 = .ok (.iload_n 3, 1) := by decide +kernel
theorem dX6_put_88 : decode cX6_put 88 = .ok (.i2s, 1) := by decide +kernel
theorem dX6_put_89 : decode cX6_put 89 = .ok (.goto 4, 3) := by decide +kernel
theorem dX6_put_92 : decode cX6_put 92 = .ok (.iload_n 3, 1) := by decide +kernel
theorem dX6_put_93 : decode cX6_put 93 = .ok (.iastore, 1) := by decide +kernel
theorem dX6_put_94 : decode cX6_put 94 = .ok (.iconst 1, 1) := by decide +kernel
theorem dX6_put_95 : decode cX6_put 95 = .ok (.ireturn, 1) := by decide +kernel
theorem dX6_cell_0 : decode cX6_cell 0 = .ok (.aload_n 0, 1) := by decide +kernel
theorem dX6_cell_1 : decode cX6_cell 1 = .ok (.iconst 0, 1) := by decide +kernel
theorem dX6_cell_2 : decode cX6_cell 2 = .ok (.putfield 78, 3) := by decide +kernel
theorem dX6_cell_5 : decode cX6_cell 5 = .ok (.iload_n 1, 1) := by decide +kernel
theorem dX6_cell_6 : decode cX6_cell 6 = .ok (.invokestatic 96, 3) := by decide +kernel
theorem dX6_cell_9 : decode cX6_cell 9 = .ok (.ifCond .eq 10, 3) := by decide +kernel
theorem dX6_cell_12 : decode cX6_cell 12 = .ok (.iload_n 3, 1) := by decide +kernel
theorem dX6_cell_13 : decode cX6_cell 13 = .ok (.invokestatic 100, 3) := by decide +kernel
theorem dX6_cell_16 : decode cX6_cell 16 = .ok (.ifCond .ne 7, 3) := by decide +kernel
theorem dX6_cell_19 : decode cX6_cell 19 = .ok (.ldc2_w 81, 3) := by decide +kernel
theorem dX6_cell_22 : decode cX6_cell 22 = .ok (.lreturn, 1) := by decide +kernel
theorem dX6_cell_23 : decode cX6_cell 23 = .ok (.aload_n 0, 1) := by decide +kernel
theorem dX6_cell_24 : decode cX6_cell 24 = .ok (.getfield 9, 3) := by decide +kernel
theorem dX6_cell_27 : decode cX6_cell 27 = .ok (.iload_n 1, 1) := by decide +kernel
theorem dX6_cell_28 : decode cX6_cell 28 = .ok (.iaload, 1) := by decide +kernel
theorem dX6_cell_29 : decode cX6_cell 29 = .ok (.bipush (-9), 2) := by decide +kernel
theorem dX6_cell_31 : decode cX6_cell 31 = .ok (.if_icmp .eq 19, 3) := by decide +kernel
theorem dX6_cell_34 : decode cX6_cell 34 = .ok (.aload_n 0, 1) := by decide +kernel
theorem dX6_cell_35 : decode cX6_cell 35 = .ok (.getfield 9, 3) := by decide +kernel
theorem dX6_cell_38 : decode cX6_cell 38 = .ok (.iload_n 1, 1) := by decide +kernel
theorem dX6_cell_39 : decode cX6_cell 39 = .ok (.iaload, 1) := by decide +kernel
theorem dX6_cell_40 : decode cX6_cell 40 = .ok (.iload_n 3, 1) := by decide +kernel
theorem dX6_cell_41 : decode cX6_cell 41 = .ok (.if_icmp .eq 9, 3) := by decide +kernel
theorem dX6_cell_44 : decode cX6_cell 44 = .ok (.aload_n 0, 1) := by decide +kernel
theorem dX6_cell_45 : decode cX6_cell 45 = .ok (.iconst 2, 1) := by decide +kernel
theorem dX6_cell_46 : decode cX6_cell 46 = .ok (.invokevirtual 204, 3) := by decide +kernel
theorem dX6_cell_49 : decode cX6_cell 49 = .ok (.lreturn, 1) := by decide +kernel
theorem dX6_cell_50 : decode cX6_cell 50 = .ok (.aload_n 0, 1) := by decide +kernel
theorem dX6_cell_51 : decode cX6_cell 51 = .ok (.getfield 9, 3) := by decide +kernel
theorem dX6_cell_54 : decode cX6_cell 54 = .ok (.iload_n 1, 1) := by decide +kernel
theorem dX6_cell_55 : decode cX6_cell 55 = .ok (.iaload, 1) := by decide +kernel
theorem dX6_cell_56 : decode cX6_cell 56 = .ok (.bipush (-9), 2) := by decide +kernel
theorem dX6_cell_58 : decode cX6_cell 58 = .ok (.if_icmp .ne 9, 3) := by decide +kernel
theorem dX6_cell_61 : decode cX6_cell 61 = .ok (.aload_n 0, 1) := by decide +kernel
theorem dX6_cell_62 : decode cX6_cell 62 = .ok (.iconst 1, 1) := by decide +kernel
theorem dX6_cell_63 : decode cX6_cell 63 = .ok (.invokevirtual 204, 3) := by decide +kernel
theorem dX6_cell_66 : decode cX6_cell 66 = .ok (.lreturn, 1) := by decide +kernel
theorem dX6_cell_67 : decode cX6_cell 67 = .ok (.iload_n 2, 1) := by decide +kernel
theorem dX6_cell_68 : decode cX6_cell 68 = .ok (.iconst 0, 1) := by decide +kernel
theorem dX6_cell_69 : decode cX6_cell 69 = .ok (.aload_n 0, 1) := by decide +kernel
theorem dX6_cell_70 : decode cX6_cell 70 = .ok (.getfield 13, 3) := by decide +kernel
theorem dX6_cell_73 : decode cX6_cell 73 = .ok (.iload_n 1, 1) := by decide +kernel
theorem dX6_cell_74 : decode cX6_cell 74 = .ok (.iaload, 1) := by decide +kernel
theorem dX6_cell_75 : decode cX6_cell 75 = .ok (.iconst 1, 1) := by decide +kernel
theorem dX6_cell_76 : decode cX6_cell 76 = .ok (.isub, 1) := by decide +kernel
theorem dX6_cell_77 : decode cX6_cell 77 = .ok (.invokestatic 83, 3) := by decide +kernel
theorem dX6_cell_80 : decode cX6_cell 80 = .ok (.ifCond .ne 9, 3) := by decide +kernel
theorem dX6_cell_83 : decode cX6_cell 83 = .ok (.aload_n 0, 1) := by decide +kernel
theorem dX6_cell_84 : decode cX6_cell 84 = .ok (.iconst 3, 1) := by decide +kernel
theorem dX6_cell_85 : decode cX6_cell 85 = .ok (.invokevirtual 204, 3) := by decide +kernel
theorem dX6_cell_88 : decode cX6_cell 88 = .ok (.lreturn, 1) := by decide +kernel
theorem dX6_cell_89 : decode cX6_cell 89 = .ok (.aload_n 0, 1) := by decide +kernel
theorem dX6_cell_90 : decode cX6_cell 90 = .ok (.getfield 16, 3) := by decide +kernel
theorem dX6_cell_93 : decode cX6_cell 93 = .ok (.bipush 60, 2) := by decide +kernel
theorem dX6_cell_95 : decode cX6_cell 95 = .ok (.iload_n 1, 1) := by decide +kernel
theorem dX6_cell_96 : decode cX6_cell 96 = .ok (.imul, 1) := by decide +kernel
theorem dX6_cell_97 : decode cX6_cell 97 = .ok (.iload_n 2, 1) := by decide +kernel
theorem dX6_cell_98 : decode cX6_cell 98 = .ok (.iadd, 1) := by decide +kernel
theorem dX6_cell_99 : decode cX6_cell 99 = .ok (.iaload, 1) := by decide +kernel
theorem dX6_cell_100 : decode cX6_cell 100 = .ok (.i2l, 1) := by decide +kernel
theorem dX6_cell_101 : decode cX6_cell 101 = .ok (.lreturn, 1) := by decide +kernel
theorem dX6_copy_0 : decode cX6_copy 0 = .ok (.aload_n 0, 1) := by decide +kernel
theorem dX6_copy_1 : decode cX6_copy 1 = .ok (.iconst 0, 1) := by decide +kernel
theorem dX6_copy_2 : decode cX6_copy 2 = .ok (.putfield 78, 3) := by decide +kernel
theorem dX6_copy_5 : decode cX6_copy 5 = .ok (.iload_n 1, 1) := by decide +kernel
theorem dX6_copy_6 : decode cX6_copy 6 = .ok (.invokestatic 96, 3) := by decide +kernel
theorem dX6_copy_9 : decode cX6_copy 9 = .ok (.ifCond .eq 10, 3) := by decide +kernel
theorem dX6_copy_12 : decode cX6_copy 12 = .ok (.iload_n 3, 1) := by decide +kernel
theorem dX6_copy_13 : decode cX6_copy 13 = .ok (.invokestatic 96, 3) := by decide +kernel
theorem dX6_copy_16 : decode cX6_copy 16 = .ok (.ifCond .ne 5, 3) := by decide +kernel
theorem dX6_copy_19 : decode cX6_copy 19 = .ok (.iconst (-1), 1) := by decide +kernel
theorem dX6_copy_20 : decode cX6_copy 20 = .ok (.ireturn, 1) := by decide +kernel
theorem dX6_copy_21 : decode cX6_copy 21 = .ok (.aload_n 0, 1) := by decide +kernel
theorem dX6_copy_22 : decode cX6_copy 22 = .ok (.getfield 9, 3) := by decide +kernel
theorem dX6_copy_25 : decode cX6_copy 25 = .ok (.iload_n 1, 1) := by decide +kernel
theorem dX6_copy_26 : decode cX6_copy 26 = .ok (.iaload, 1) := by decide +kernel
theorem dX6_copy_27 : decode cX6_copy 27 = .ok (.bipush (-9), 2) := by decide +kernel
theorem dX6_copy_29 : decode cX6_copy 29 = .ok (.if_icmp .eq 14, 3) := by decide +kernel
theorem dX6_copy_32 : decode cX6_copy 32 = .ok (.aload_n 0, 1) := by decide +kernel
theorem dX6_copy_33 : decode cX6_copy 33 = .ok (.getfield 9, 3) := by decide +kernel
theorem dX6_copy_36 : decode cX6_copy 36 = .ok (.iload_n 3, 1) := by decide +kernel
theorem dX6_copy_37 : decode cX6_copy 37 = .ok (.iaload, 1) := by decide +kernel
theorem dX6_copy_38 : decode cX6_copy 38 = .ok (.bipush (-9), 2) := by decide +kernel
theorem dX6_copy_40 : decode cX6_copy 40 = .ok (.if_icmp .ne 9, 3) := by decide +kernel
theorem dX6_copy_43 : decode cX6_copy 43 = .ok (.aload_n 0, 1) := by decide +kernel
theorem dX6_copy_44 : decode cX6_copy 44 = .ok (.iconst 1, 1) := by decide +kernel
theorem dX6_copy_45 : decode cX6_copy 45 = .ok (.invokevirtual 107, 3) := by decide +kernel
theorem dX6_copy_48 : decode cX6_copy 48 = .ok (.ireturn, 1) := by decide +kernel
theorem dX6_copy_49 : decode cX6_copy 49 = .ok (.aload_n 0, 1) := by decide +kernel
theorem dX6_copy_50 : decode cX6_copy 50 = .ok (.getfield 9, 3) := by decide +kernel
theorem dX6_copy_53 : decode cX6_copy 53 = .ok (.iload_n 1, 1) := by decide +kernel
theorem dX6_copy_54 : decode cX6_copy 54 = .ok (.iaload, 1) := by decide +kernel
theorem dX6_copy_55 : decode cX6_copy 55 = .ok (.aload_n 0, 1) := by decide +kernel
theorem dX6_copy_56 : decode cX6_copy 56 = .ok (.getfield 9, 3) := by decide +kernel
theorem dX6_copy_59 : decode cX6_copy 59 = .ok (.iload_n 3, 1) := by decide +kernel
theorem dX6_copy_60 : decode cX6_copy 60 = .ok (.iaload, 1) := by decide +kernel
theorem dX6_copy_61 : decode cX6_copy 61 = .ok (.if_icmp .eq 9, 3) := by decide +kernel
theorem dX6_copy_64 : decode cX6_copy 64 = .ok (.aload_n 0, 1) := by decide +kernel
theorem dX6_copy_65 : decode cX6_copy 65 = .ok (.iconst 2, 1) := by decide +kernel
theorem dX6_copy_66 : decode cX6_copy 66 = .ok (.invokevirtual 107, 3) := by decide +kernel
theorem dX6_copy_69 : decode cX6_copy 69 = .ok (.ireturn, 1) := by decide +kernel
theorem dX6_copy_70 : decode cX6_copy 70 = .ok (.iload_n 2, 1) := by decide +kernel
theorem dX6_copy_71 : decode cX6_copy 71 = .ok (.ifCond .lt 38, 3) := by decide +kernel
theorem dX6_copy_74 : decode cX6_copy 74 = .ok (.iload 4, 2) := by decide +kernel
theorem dX6_copy_76 : decode cX6_copy 76 = .ok (.ifCond .lt 33, 3) := by decide +kernel
theorem dX6_copy_79 : decode cX6_copy 79 = .ok (.iload 5, 2) := by decide +kernel
theorem dX6_copy_81 : decode cX6_copy 81 = .ok (.ifCond .lt 28, 3) := by decide +kernel
theorem dX6_copy_84 : decode cX6_copy 84 = .ok (.iload_n 2, 1) := by decide +kernel
theorem dX6_copy_85 : decode cX6_copy 85 = .ok (.aload_n 0, 1) := by decide +kernel
theorem dX6_copy_86 : decode cX6_copy 86 = .ok (.getfield 13, 3) := by decide +kernel
theorem dX6_copy_89 : decode cX6_copy 89 = .ok (.iload_n 1, 1) := by decide +kernel
theorem dX6_copy_90 : decode cX6_copy 90 = .ok (.iaload, 1) := by decide +kernel
theorem dX6_copy_91 : decode cX6_copy 91 = .ok (.if_icmp .gt 18, 3) := by decide +kernel
theorem dX6_copy_94 : decode cX6_copy 94 = .ok (.iload 4, 2) := by decide +kernel
theorem dX6_copy_96 : decode cX6_copy 96 = .ok (.aload_n 0, 1) := by decide +kernel
theorem dX6_copy_97 : decode cX6_copy 97 = .ok (.getfield 13, 3) := by decide +kernel
theorem dX6_copy_100 : decode cX6_copy 100 = .ok (.iload_n 3, 1) := by decide +kernel
theorem dX6_copy_101 : decode cX6_copy 101 = .ok (.iaload, 1) := by decide +kernel
theorem dX6_copy_102 : decode cX6_copy 102 = .ok (.if_icmp .gt 7, 3) := by decide +kernel
theorem dX6_copy_105 : decode cX6_copy 105 = .ok (.iconst 1, 1) := by decide +kernel
theorem dX6_copy_106 : decode cX6_copy 106 = .ok (.goto 4, 3) := by decide +kernel
theorem dX6_copy_109 : decode cX6_copy 109 = .ok (.iconst 0, 1) := by decide +kernel
theorem dX6_copy_110 : decode cX6_copy 110 = .ok (.istore 6, 2) := by decide +kernel
theorem dX6_copy_112 : decode cX6_copy 112 = .ok (.iload 6, 2) := by decide +kernel
theorem dX6_copy_114 : decode cX6_copy 114 = .ok (.ifCond .eq 30, 3) := by decide +kernel
theorem dX6_copy_117 : decode cX6_copy 117 = .ok (.iload 5, 2) := by decide +kernel
theorem dX6_copy_119 : decode cX6_copy 119 = .ok (.aload_n 0, 1) := by decide +kernel
theorem dX6_copy_120 : decode cX6_copy 120 = .ok (.getfield 13, 3) := by decide +kernel
theorem dX6_copy_123 : decode cX6_copy 123 = .ok (.iload_n 1, 1) := by decide +kernel
theorem dX6_copy_124 : decode cX6_copy 124 = .ok (.iaload, 1) := by decide +kernel
theorem dX6_copy_125 : decode cX6_copy 125 = .ok (.iload_n 2, 1) := by decide +kernel
theorem dX6_copy_126 : decode cX6_copy 126 = .ok (.isub, 1) := by decide +kernel
theorem dX6_copy_127 : decode cX6_copy 127 = .ok (.if_icmp .gt 17, 3) := by decide +kernel
theorem dX6_copy_130 : decode cX6_copy 130 = .ok (.iload 5, 2) := by decide +kernel
theorem dX6_copy_132 : decode cX6_copy 132 = .ok (.aload_n 0, 1) := by decide +kernel
theorem dX6_copy_133 : decode cX6_copy 133 = .ok (.getfield 13, 3) := by decide +kernel
theorem dX6_copy_136 : decode cX6_copy 136 = .ok (.iload_n 3, 1) := by decide +kernel
theorem dX6_copy_137 : decode cX6_copy 137 = .ok (.iaload, 1) := by decide +kernel
theorem dX6_copy_138 : decode cX6_copy 138 = .ok (.iload 4, 2) := by decide +kernel
theorem dX6_copy_140 : decode cX6_copy 140 = .ok (.isub, 1) := by decide +kernel
theorem dX6_copy_141 : decode cX6_copy 141 = .ok (.if_icmp .le 9, 3) := by decide +kernel
theorem dX6_copy_144 : decode cX6_copy 144 = .ok (.aload_n 0, 1) := by decide +kernel
theorem dX6_copy_145 : decode cX6_copy 145 = .ok (.iconst 3, 1) := by decide +kernel
theorem dX6_copy_146 : decode cX6_copy 146 = .ok (.invokevirtual 107, 3) := by decide +kernel
theorem dX6_copy_149 : decode cX6_copy 149 = .ok (.ireturn, 1) := by decide +kernel
theorem dX6_copy_150 : decode cX6_copy 150 = .ok (.iload_n 2, 1) := by decide +kernel
theorem dX6_copy_151 : decode cX6_copy 151 = .ok (.iload 4, 2) := by decide +kernel
theorem dX6_copy_153 : decode cX6_copy 153 = .ok (.if_icmp .ge 7, 3) := by decide +kernel
theorem dX6_copy_156 : decode cX6_copy 156 = .ok (.iconst 1, 1) := by decide +kernel
theorem dX6_copy_157 : decode cX6_copy 157 = .ok (.goto 4, 3) := by decide +kernel
theorem dX6_copy_160 : decode cX6_copy 160 = .ok (.iconst 0, 1) := by decide +kernel
theorem dX6_copy_161 : decode cX6_copy 161 = .ok (.istore 7, 2) := by decide +kernel
theorem dX6_copy_163 : decode cX6_copy 163 = .ok (.iconst 0, 1) := by decide +kernel
theorem dX6_copy_164 : decode cX6_copy 164 = .ok (.istore 8, 2) := by decide +kernel
theorem dX6_copy_166 : decode cX6_copy 166 = .ok (.iload 8, 2) := by decide +kernel
theorem dX6_copy_168 : decode cX6_copy 168 = .ok (.iload 5, 2) := by decide +kernel
theorem dX6_copy_170 : decode cX6_copy 170 = .ok (.if_icmp .ge 57, 3) := by decide +kernel
theorem dX6_copy_173 : decode cX6_copy 173 = .ok (.iload 7, 2) := by decide +kernel
theorem dX6_copy_175 : decode cX6_copy 175 = .ok (.ifCond .eq 13, 3) := by decide +kernel
theorem dX6_copy_178 : decode cX6_copy 178 = .ok (.iload 5, 2) := by decide +kernel
theorem dX6_copy_180 : decode cX6_copy 180 = .ok (.iconst 1, 1) := by decide +kernel
theorem dX6_copy_181 : decode cX6_copy 181 = .ok (.isub, 1) := by decide +kernel
theorem dX6_copy_182 : decode cX6_copy 182 = .ok (.iload 8, 2) := by decide +kernel
theorem dX6_copy_184 : decode cX6_copy 184 = .ok (.isub, 1) := by decide +kernel
theorem dX6_copy_185 : decode cX6_copy 185 = .ok (.goto 5, 3) := by decide +kernel
theorem dX6_copy_188 : decode cX6_copy 188 = .ok (.iload 8, 2) := by decide +kernel
theorem dX6_copy_190 : decode cX6_copy 190 = .ok (.istore 9, 2) := by decide +kernel
theorem dX6_copy_192 : decode cX6_copy 192 = .ok (.aload_n 0, 1) := by decide +kernel
theorem dX6_copy_193 : decode cX6_copy 193 = .ok (.getfield 16, 3) := by decide +kernel
theorem dX6_copy_196 : decode cX6_copy 196 = .ok (.bipush 60, 2) := by decide +kernel
theorem dX6_copy_198 : decode cX6_copy 198 = .ok (.iload_n 3, 1) := by decide +kernel
theorem dX6_copy_199 : decode cX6_copy 199 = .ok (.imul, 1) := by decide +kernel
theorem dX6_copy_200 : decode cX6_copy 200 = .ok (.iload 4, 2) := by decide +kernel
theorem dX6_copy_202 : decode cX6_copy 202 = .ok (.iadd, 1) := by decide +kernel
theorem dX6_copy_203 : decode cX6_copy 203 = .ok (.iload 9, 2) := by decide +kernel
theorem dX6_copy_205 : decode cX6_copy 205 = .ok (.iadd, 1) := by decide +kernel
theorem dX6_copy_206 : decode cX6_copy 206 = .ok (.aload_n 0, 1) := by decide +kernel
theorem dX6_copy_207 : decode cX6_copy 207 = .ok (.getfield 16, 3) := by decide +kernel
theorem dX6_copy_210 : decode cX6_copy 210 = .ok (.bipush 60, 2) := by decide +kernel
theorem dX6_copy_212 : decode cX6_copy 212 = .ok (.iload_n 1, 1) := by decide +kernel
theorem dX6_copy_213 : decode cX6_copy 213 = .ok (.imul, 1) := by decide +kernel
theorem dX6_copy_214 : decode cX6_copy 214 = .ok (.iload_n 2, 1) := by decide +kernel
theorem dX6_copy_215 : decode cX6_copy 215 = .ok (.iadd, 1) := by decide +kernel
theorem dX6_copy_216 : decode cX6_copy 216 = .ok (.iload 9, 2) := by decide +kernel
theorem dX6_copy_218 : decode cX6_copy 218 = .ok (.iadd, 1) := by decide +kernel
theorem dX6_copy_219 : decode cX6_copy 219 = .ok (.iaload, 1) := by decide +kernel
theorem dX6_copy_220 : decode cX6_copy 220 = .ok (.iastore, 1) := by decide +kernel
theorem dX6_copy_221 : decode cX6_copy 221 = .ok (.iinc 8 1, 3) := by decide +kernel
theorem dX6_copy_224 : decode cX6_copy 224 = .ok (.goto (-58), 3) := by decide +kernel
theorem dX6_copy_227 : decode cX6_copy 227 = .ok (.iload 5, 2) := by decide +kernel
theorem dX6_copy_229 : decode cX6_copy 229 = .ok (.ireturn, 1) := by decide +kernel
theorem dX6_begins_0 : decode cX6_begins 0 = .ok (.aload_n 0, 1) := by decide +kernel
theorem dX6_begins_1 : decode cX6_begins 1 = .ok (.bipush 31, 2) := by decide +kernel
theorem dX6_begins_3 : decode cX6_begins 3 = .ok (.aload_n 0, 1) := by decide +kernel
theorem dX6_begins_4 : decode cX6_begins 4 = .ok (.getfield 208, 3) := by decide +kernel
theorem dX6_begins_7 : decode cX6_begins 7 = .ok (.imul, 1) := by decide +kernel
theorem dX6_begins_8 : decode cX6_begins 8 = .ok (.iload_n 1, 1) := by decide +kernel
theorem dX6_begins_9 : decode cX6_begins 9 = .ok (.iadd, 1) := by decide +kernel
theorem dX6_begins_10 : decode cX6_begins 10 = .ok (.putfield 208, 3) := by decide +kernel
theorem dX6_begins_13 : decode cX6_begins 13 = .ok (.return_, 1) := by decide +kernel
theorem dX6_tell_0 : decode cX6_tell 0 = .ok (.aload_n 0, 1) := by decide +kernel
theorem dX6_tell_1 : decode cX6_tell 1 = .ok (.iload_n 1, 1) := by decide +kernel
theorem dX6_tell_2 : decode cX6_tell 2 = .ok (.invokevirtual 140, 3) := by decide +kernel
theorem dX6_tell_5 : decode cX6_tell 5 = .ok (.ifCond .ne 5, 3) := by decide +kernel
theorem dX6_tell_8 : decode cX6_tell 8 = .ok (.iconst (-1), 1) := by decide +kernel
theorem dX6_tell_9 : decode cX6_tell 9 = .ok (.ireturn, 1) := by decide +kernel
theorem dX6_tell_10 : decode cX6_tell 10 = .ok (.aload_n 0, 1) := by decide +kernel
theorem dX6_tell_11 : decode cX6_tell 11 = .ok (.getfield 25, 3) := by decide +kernel
theorem dX6_tell_14 : decode cX6_tell 14 = .ok (.iload_n 1, 1) := by decide +kernel
theorem dX6_tell_15 : decode cX6_tell 15 = .ok (.iaload, 1) := by decide +kernel
theorem dX6_tell_16 : decode cX6_tell 16 = .ok (.istore_n 2, 1) := by decide +kernel
theorem dX6_tell_17 : decode cX6_tell 17 = .ok (.aload_n 0, 1) := by decide +kernel
theorem dX6_tell_18 : decode cX6_tell 18 = .ok (.getfield 19, 3) := by decide +kernel
theorem dX6_tell_21 : decode cX6_tell 21 = .ok (.iload_n 1, 1) := by decide +kernel
theorem dX6_tell_22 : decode cX6_tell 22 = .ok (.iaload, 1) := by decide +kernel
theorem dX6_tell_23 : decode cX6_tell 23 = .ok (.lookupswitch 67 #[(1, 25), (2, 40)], 25) := by decide +kernel
theorem dX6_tell_48 : decode cX6_tell 48 = .ok (.aload_n 0, 1) := by decide +kernel
theorem dX6_tell_49 : decode cX6_tell 49 = .ok (.iconst 2, 1) := by decide +kernel
theorem dX6_tell_50 : decode cX6_tell 50 = .ok (.invokevirtual 211, 3) := by decide +kernel
theorem dX6_tell_53 : decode cX6_tell 53 = .ok (.aload_n 0, 1) := by decide +kernel
theorem dX6_tell_54 : decode cX6_tell 54 = .ok (.iconst 1, 1) := by decide +kernel
theorem dX6_tell_55 : decode cX6_tell 55 = .ok (.invokevirtual 211, 3) := by decide +kernel
theorem dX6_tell_58 : decode cX6_tell 58 = .ok (.iload_n 2, 1) := by decide +kernel
theorem dX6_tell_59 : decode cX6_tell 59 = .ok (.bipush 100, 2) := by decide +kernel
theorem dX6_tell_61 : decode cX6_tell 61 = .ok (.iadd, 1) := by decide +kernel
theorem dX6_tell_62 : decode cX6_tell 62 = .ok (.ireturn, 1) := by decide +kernel
theorem dX6_tell_63 : decode cX6_tell 63 = .ok (.aload_n 0, 1) := by decide +kernel
theorem dX6_tell_64 : decode cX6_tell 64 = .ok (.iconst 3, 1) := by decide +kernel
theorem dX6_tell_65 : decode cX6_tell 65 = .ok (.invokevirtual 211, 3) := by decide +kernel
theorem dX6_tell_68 : decode cX6_tell 68 = .ok (.aload_n 0, 1) := by decide +kernel
theorem dX6_tell_69 : decode cX6_tell 69 = .ok (.iconst 2, 1) := by decide +kernel
theorem dX6_tell_70 : decode cX6_tell 70 = .ok (.invokevirtual 211, 3) := by decide +kernel
theorem dX6_tell_73 : decode cX6_tell 73 = .ok (.aload_n 0, 1) := by decide +kernel
theorem dX6_tell_74 : decode cX6_tell 74 = .ok (.iconst 1, 1) := by decide +kernel
theorem dX6_tell_75 : decode cX6_tell 75 = .ok (.invokevirtual 211, 3) := by decide +kernel
theorem dX6_tell_78 : decode cX6_tell 78 = .ok (.aload_n 0, 1) := by decide +kernel
theorem dX6_tell_79 : decode cX6_tell 79 = .ok (.iconst 1, 1) := by decide +kernel
theorem dX6_tell_80 : decode cX6_tell 80 = .ok (.invokevirtual 211, 3) := by decide +kernel
theorem dX6_tell_83 : decode cX6_tell 83 = .ok (.iconst 2, 1) := by decide +kernel
theorem dX6_tell_84 : decode cX6_tell 84 = .ok (.iload_n 2, 1) := by decide +kernel
theorem dX6_tell_85 : decode cX6_tell 85 = .ok (.imul, 1) := by decide +kernel
theorem dX6_tell_86 : decode cX6_tell 86 = .ok (.bipush 100, 2) := by decide +kernel
theorem dX6_tell_88 : decode cX6_tell 88 = .ok (.iadd, 1) := by decide +kernel
theorem dX6_tell_89 : decode cX6_tell 89 = .ok (.ireturn, 1) := by decide +kernel
theorem dX6_tell_90 : decode cX6_tell 90 = .ok (.aload_n 0, 1) := by decide +kernel
theorem dX6_tell_91 : decode cX6_tell 91 = .ok (.iconst 1, 1) := by decide +kernel
theorem dX6_tell_92 : decode cX6_tell 92 = .ok (.invokevirtual 211, 3) := by decide +kernel
theorem dX6_tell_95 : decode cX6_tell 95 = .ok (.iload_n 2, 1) := by decide +kernel
theorem dX6_tell_96 : decode cX6_tell 96 = .ok (.ireturn, 1) := by decide +kernel
theorem dX6_creak_0 : decode cX6_creak 0 = .ok (.aload_n 0, 1) := by decide +kernel
theorem dX6_creak_1 : decode cX6_creak 1 = .ok (.iload_n 1, 1) := by decide +kernel
theorem dX6_creak_2 : decode cX6_creak 2 = .ok (.invokevirtual 140, 3) := by decide +kernel
theorem dX6_creak_5 : decode cX6_creak 5 = .ok (.ifCond .ne 5, 3) := by decide +kernel
theorem dX6_creak_8 : decode cX6_creak 8 = .ok (.iconst (-1), 1) := by decide +kernel
theorem dX6_creak_9 : decode cX6_creak 9 = .ok (.ireturn, 1) := by decide +kernel
theorem dX6_creak_10 : decode cX6_creak 10 = .ok (.aload_n 0, 1) := by decide +kernel
theorem dX6_creak_11 : decode cX6_creak 11 = .ok (.aload_n 0, 1) := by decide +kernel
theorem dX6_creak_12 : decode cX6_creak 12 = .ok (.getfield 19, 3) := by decide +kernel
theorem dX6_creak_15 : decode cX6_creak 15 = .ok (.iload_n 1, 1) := by decide +kernel
theorem dX6_creak_16 : decode cX6_creak 16 = .ok (.iaload, 1) := by decide +kernel
theorem dX6_creak_17 : decode cX6_creak 17 = .ok (.iconst 2, 1) := by decide +kernel
theorem dX6_creak_18 : decode cX6_creak 18 = .ok (.if_icmp .ne 7, 3) := by decide +kernel
theorem dX6_creak_21 : decode cX6_creak 21 = .ok (.iconst 5, 1) := by decide +kernel
theorem dX6_creak_22 : decode cX6_creak 22 = .ok (.goto 4, 3) := by decide +kernel
theorem dX6_creak_25 : decode cX6_creak 25 = .ok (.iconst 4, 1) := by decide +kernel
theorem dX6_creak_26 : decode cX6_creak 26 = .ok (.invokevirtual 211, 3) := by decide +kernel
theorem dX6_creak_29 : decode cX6_creak 29 = .ok (.aload_n 0, 1) := by decide +kernel
theorem dX6_creak_30 : decode cX6_creak 30 = .ok (.getfield 19, 3) := by decide +kernel
theorem dX6_creak_33 : decode cX6_creak 33 = .ok (.iload_n 1, 1) := by decide +kernel
theorem dX6_creak_34 : decode cX6_creak 34 = .ok (.iaload, 1) := by decide +kernel
theorem dX6_creak_35 : decode cX6_creak 35 = .ok (.iconst 2, 1) := by decide +kernel
theorem dX6_creak_36 : decode cX6_creak 36 = .ok (.if_icmp .ne 8, 3) := by decide +kernel
theorem dX6_creak_39 : decode cX6_creak 39 = .ok (.bipush 60, 2) := by decide +kernel
theorem dX6_creak_41 : decode cX6_creak 41 = .ok (.goto 4, 3) := by decide +kernel
theorem dX6_creak_44 : decode cX6_creak 44 = .ok (.iload_n 1, 1) := by decide +kernel
theorem dX6_creak_45 : decode cX6_creak 45 = .ok (.ireturn, 1) := by decide +kernel
theorem dX6_as_0 : decode cX6_as 0 = .ok (.aload_n 0, 1) := by decide +kernel
theorem dX6_as_1 : decode cX6_as 1 = .ok (.iconst 0, 1) := by decide +kernel
theorem dX6_as_2 : decode cX6_as 2 = .ok (.putfield 78, 3) := by decide +kernel
theorem dX6_as_5 : decode cX6_as 5 = .ok (.aload_n 0, 1) := by decide +kernel
theorem dX6_as_6 : decode cX6_as 6 = .ok (.iload_n 1, 1) := by decide +kernel
theorem dX6_as_7 : decode cX6_as 7 = .ok (.invokevirtual 140, 3) := by decide +kernel
theorem dX6_as_10 : decode cX6_as 10 = .ok (.ifCond .ne 5, 3) := by decide +kernel
theorem dX6_as_13 : decode cX6_as 13 = .ok (.iconst (-1), 1) := by decide +kernel
theorem dX6_as_14 : decode cX6_as 14 = .ok (.ireturn, 1) := by decide +kernel
theorem dX6_as_15 : decode cX6_as 15 = .ok (.iload_n 2, 1) := by decide +kernel
theorem dX6_as_16 : decode cX6_as 16 = .ok (.iconst 0, 1) := by decide +kernel
theorem dX6_as_17 : decode cX6_as 17 = .ok (.iconst 2, 1) := by decide +kernel
theorem dX6_as_18 : decode cX6_as 18 = .ok (.invokestatic 83, 3) := by decide +kernel
theorem dX6_as_21 : decode cX6_as 21 = .ok (.ifCond .ne 6, 3) := by decide +kernel
theorem dX6_as_24 : decode cX6_as 24 = .ok (.bipush (-2), 2) := by decide +kernel
theorem dX6_as_26 : decode cX6_as 26 = .ok (.ireturn, 1) := by decide +kernel
theorem dX6_as_27 : decode cX6_as 27 = .ok (.aload_n 0, 1) := by decide +kernel
theorem dX6_as_28 : decode cX6_as 28 = .ok (.getfield 19, 3) := by decide +kernel
theorem dX6_as_31 : decode cX6_as 31 = .ok (.iload_n 1, 1) := by decide +kernel
theorem dX6_as_32 : decode cX6_as 32 = .ok (.iaload, 1) := by decide +kernel
theorem dX6_as_33 : decode cX6_as 33 = .ok (.iload_n 2, 1) := by decide +kernel
theorem dX6_as_34 : decode cX6_as 34 = .ok (.if_icmp .lt 7, 3) := by decide +kernel
theorem dX6_as_37 : decode cX6_as 37 = .ok (.iconst 1, 1) := by decide +kernel
theorem dX6_as_38 : decode cX6_as 38 = .ok (.goto 8, 3) := by decide +kernel
theorem dX6_as_41 : decode cX6_as 41 = .ok (.aload_n 0, 1) := by decide +kernel
theorem dX6_as_42 : decode cX6_as 42 = .ok (.iconst 2, 1) := by decide +kernel
theorem dX6_as_43 : decode cX6_as 43 = .ok (.invokevirtual 107, 3) := by decide +kernel
theorem dX6_as_46 : decode cX6_as 46 = .ok (.ireturn, 1) := by decide +kernel
theorem dX6_trace_0 : decode cX6_trace 0 = .ok (.aload_n 0, 1) := by decide +kernel
theorem dX6_trace_1 : decode cX6_trace 1 = .ok (.getfield 208, 3) := by decide +kernel
theorem dX6_trace_4 : decode cX6_trace 4 = .ok (.ireturn, 1) := by decide +kernel
theorem dX6_fault_0 : decode cX6_fault 0 = .ok (.aload_n 0, 1) := by decide +kernel
theorem dX6_fault_1 : decode cX6_fault 1 = .ok (.getfield 78, 3) := by decide +kernel
theorem dX6_fault_4 : decode cX6_fault 4 = .ok (.ireturn, 1) := by decide +kernel
theorem dX6_many_0 : decode cX6_many 0 = .ok (.iload_n 1, 1) := by decide +kernel
theorem dX6_many_1 : decode cX6_many 1 = .ok (.tableswitch 60 0 4 #[35, 40, 45, 50, 55], 35) := by decide +kernel
theorem dX6_many_36 : decode cX6_many 36 = .ok (.aload_n 0, 1) := by decide +kernel
theorem dX6_many_37 : decode cX6_many 37 = .ok (.getfield 90, 3) := by decide +kernel
theorem dX6_many_40 : decode cX6_many 40 = .ok (.ireturn, 1) := by decide +kernel
theorem dX6_many_41 : decode cX6_many 41 = .ok (.aload_n 0, 1) := by decide +kernel
theorem dX6_many_42 : decode cX6_many 42 = .ok (.getfield 87, 3) := by decide +kernel
theorem dX6_many_45 : decode cX6_many 45 = .ok (.ireturn, 1) := by decide +kernel
theorem dX6_many_46 : decode cX6_many 46 = .ok (.aload_n 0, 1) := by decide +kernel
theorem dX6_many_47 : decode cX6_many 47 = .ok (.getfield 120, 3) := by decide +kernel
theorem dX6_many_50 : decode cX6_many 50 = .ok (.ireturn, 1) := by decide +kernel
theorem dX6_many_51 : decode cX6_many 51 = .ok (.aload_n 0, 1) := by decide +kernel
theorem dX6_many_52 : decode cX6_many 52 = .ok (.getfield 123, 3) := by decide +kernel
theorem dX6_many_55 : decode cX6_many 55 = .ok (.ireturn, 1) := by decide +kernel
theorem dX6_many_56 : decode cX6_many 56 = .ok (.aload_n 0, 1) := by decide +kernel
theorem dX6_many_57 : decode cX6_many 57 = .ok (.getfield 126, 3) := by decide +kernel
theorem dX6_many_60 : decode cX6_many 60 = .ok (.ireturn, 1) := by decide +kernel
theorem dX6_many_61 : decode cX6_many 61 = .ok (.bipush (-2), 2) := by decide +kernel
theorem dX6_many_63 : decode cX6_many 63 = .ok (.ireturn, 1) := by decide +kernel
theorem dJ6_bitCount_0f7a4_0 : decode cJ6_bitCount_0f7a4 0 = .ok (.iload_n 0, 1) := by decide +kernel
theorem dJ6_bitCount_0f7a4_1 : decode cJ6_bitCount_0f7a4 1 = .ok (.iload_n 0, 1) := by decide +kernel
theorem dJ6_bitCount_0f7a4_2 : decode cJ6_bitCount_0f7a4 2 = .ok (.iconst 1, 1) := by decide +kernel
theorem dJ6_bitCount_0f7a4_3 : decode cJ6_bitCount_0f7a4 3 = .ok (.iushr, 1) := by decide +kernel
theorem dJ6_bitCount_0f7a4_4 : decode cJ6_bitCount_0f7a4 4 = .ok (.ldc_w 265, 3) := by decide +kernel
theorem dJ6_bitCount_0f7a4_7 : decode cJ6_bitCount_0f7a4 7 = .ok (.iand, 1) := by decide +kernel
theorem dJ6_bitCount_0f7a4_8 : decode cJ6_bitCount_0f7a4 8 = .ok (.isub, 1) := by decide +kernel
theorem dJ6_bitCount_0f7a4_9 : decode cJ6_bitCount_0f7a4 9 = .ok (.istore_n 0, 1) := by decide +kernel
theorem dJ6_bitCount_0f7a4_10 : decode cJ6_bitCount_0f7a4 10 = .ok (.iload_n 0, 1) := by decide +kernel
theorem dJ6_bitCount_0f7a4_11 : decode cJ6_bitCount_0f7a4 11 = .ok (.ldc_w 266, 3) := by decide +kernel
theorem dJ6_bitCount_0f7a4_14 : decode cJ6_bitCount_0f7a4 14 = .ok (.iand, 1) := by decide +kernel
theorem dJ6_bitCount_0f7a4_15 : decode cJ6_bitCount_0f7a4 15 = .ok (.iload_n 0, 1) := by decide +kernel
theorem dJ6_bitCount_0f7a4_16 : decode cJ6_bitCount_0f7a4 16 = .ok (.iconst 2, 1) := by decide +kernel
theorem dJ6_bitCount_0f7a4_17 : decode cJ6_bitCount_0f7a4 17 = .ok (.iushr, 1) := by decide +kernel
theorem dJ6_bitCount_0f7a4_18 : decode cJ6_bitCount_0f7a4 18 = .ok (.ldc_w 266, 3) := by decide +kernel
theorem dJ6_bitCount_0f7a4_21 : decode cJ6_bitCount_0f7a4 21 = .ok (.iand, 1) := by decide +kernel
theorem dJ6_bitCount_0f7a4_22 : decode cJ6_bitCount_0f7a4 22 = .ok (.iadd, 1) := by decide +kernel
theorem dJ6_bitCount_0f7a4_23 : decode cJ6_bitCount_0f7a4 23 = .ok (.istore_n 0, 1) := by decide +kernel
theorem dJ6_bitCount_0f7a4_24 : decode cJ6_bitCount_0f7a4 24 = .ok (.iload_n 0, 1) := by decide +kernel
theorem dJ6_bitCount_0f7a4_25 : decode cJ6_bitCount_0f7a4 25 = .ok (.iload_n 0, 1) := by decide +kernel
theorem dJ6_bitCount_0f7a4_26 : decode cJ6_bitCount_0f7a4 26 = .ok (.iconst 4, 1) := by decide +kernel
theorem dJ6_bitCount_0f7a4_27 : decode cJ6_bitCount_0f7a4 27 = .ok (.iushr, 1) := by decide +kernel
theorem dJ6_bitCount_0f7a4_28 : decode cJ6_bitCount_0f7a4 28 = .ok (.iadd, 1) := by decide +kernel
theorem dJ6_bitCount_0f7a4_29 : decode cJ6_bitCount_0f7a4 29 = .ok (.ldc_w 267, 3) := by decide +kernel
theorem dJ6_bitCount_0f7a4_32 : decode cJ6_bitCount_0f7a4 32 = .ok (.iand, 1) := by decide +kernel
theorem dJ6_bitCount_0f7a4_33 : decode cJ6_bitCount_0f7a4 33 = .ok (.istore_n 0, 1) := by decide +kernel
theorem dJ6_bitCount_0f7a4_34 : decode cJ6_bitCount_0f7a4 34 = .ok (.iload_n 0, 1) := by decide +kernel
theorem dJ6_bitCount_0f7a4_35 : decode cJ6_bitCount_0f7a4 35 = .ok (.iload_n 0, 1) := by decide +kernel
theorem dJ6_bitCount_0f7a4_36 : decode cJ6_bitCount_0f7a4 36 = .ok (.bipush 8, 2) := by decide +kernel
theorem dJ6_bitCount_0f7a4_38 : decode cJ6_bitCount_0f7a4 38 = .ok (.iushr, 1) := by decide +kernel
theorem dJ6_bitCount_0f7a4_39 : decode cJ6_bitCount_0f7a4 39 = .ok (.iadd, 1) := by decide +kernel
theorem dJ6_bitCount_0f7a4_40 : decode cJ6_bitCount_0f7a4 40 = .ok (.istore_n 0, 1) := by decide +kernel
theorem dJ6_bitCount_0f7a4_41 : decode cJ6_bitCount_0f7a4 41 = .ok (.iload_n 0, 1) := by decide +kernel
theorem dJ6_bitCount_0f7a4_42 : decode cJ6_bitCount_0f7a4 42 = .ok (.iload_n 0, 1) := by decide +kernel
theorem dJ6_bitCount_0f7a4_43 : decode cJ6_bitCount_0f7a4 43 = .ok (.bipush 16, 2) := by decide +kernel
theorem dJ6_bitCount_0f7a4_45 : decode cJ6_bitCount_0f7a4 45 = .ok (.iushr, 1) := by decide +kernel
theorem dJ6_bitCount_0f7a4_46 : decode cJ6_bitCount_0f7a4 46 = .ok (.iadd, 1) := by decide +kernel
theorem dJ6_bitCount_0f7a4_47 : decode cJ6_bitCount_0f7a4 47 = .ok (.istore_n 0, 1) := by decide +kernel
theorem dJ6_bitCount_0f7a4_48 : decode cJ6_bitCount_0f7a4 48 = .ok (.iload_n 0, 1) := by decide +kernel
theorem dJ6_bitCount_0f7a4_49 : decode cJ6_bitCount_0f7a4 49 = .ok (.bipush 63, 2) := by decide +kernel
theorem dJ6_bitCount_0f7a4_51 : decode cJ6_bitCount_0f7a4 51 = .ok (.iand, 1) := by decide +kernel
theorem dJ6_bitCount_0f7a4_52 : decode cJ6_bitCount_0f7a4 52 = .ok (.ireturn, 1) := by decide +kernel
theorem dJ9_abs_0f7a4_0 : decode cJ9_abs_0f7a4 0 = .ok (.iload_n 0, 1) := by decide +kernel
theorem dJ9_abs_0f7a4_1 : decode cJ9_abs_0f7a4 1 = .ok (.ifCond .ge 8, 3) := by decide +kernel
theorem dJ9_abs_0f7a4_4 : decode cJ9_abs_0f7a4 4 = .ok (.iload_n 0, 1) := by decide +kernel
theorem dJ9_abs_0f7a4_5 : decode cJ9_abs_0f7a4 5 = .ok (.ineg, 1) := by decide +kernel
theorem dJ9_abs_0f7a4_6 : decode cJ9_abs_0f7a4 6 = .ok (.goto 4, 3) := by decide +kernel
theorem dJ9_abs_0f7a4_9 : decode cJ9_abs_0f7a4 9 = .ok (.iload_n 0, 1) := by decide +kernel
theorem dJ9_abs_0f7a4_10 : decode cJ9_abs_0f7a4 10 = .ok (.ireturn, 1) := by decide +kernel
theorem dJ9_min_7cf53_0 : decode cJ9_min_7cf53 0 = .ok (.iload_n 0, 1) := by decide +kernel
theorem dJ9_min_7cf53_1 : decode cJ9_min_7cf53 1 = .ok (.iload_n 1, 1) := by decide +kernel
theorem dJ9_min_7cf53_2 : decode cJ9_min_7cf53 2 = .ok (.if_icmp .gt 7, 3) := by decide +kernel
theorem dJ9_min_7cf53_5 : decode cJ9_min_7cf53 5 = .ok (.iload_n 0, 1) := by decide +kernel
theorem dJ9_min_7cf53_6 : decode cJ9_min_7cf53 6 = .ok (.goto 4, 3) := by decide +kernel
theorem dJ9_min_7cf53_9 : decode cJ9_min_7cf53 9 = .ok (.iload_n 1, 1) := by decide +kernel
theorem dJ9_min_7cf53_10 : decode cJ9_min_7cf53 10 = .ok (.ireturn, 1) := by decide +kernel
end
section
theorem dL_law_0 : decode cL_law 0 = .ok (.new 7, 3) := by decide +kernel
theorem dL_law_3 : decode cL_law 3 = .ok (.dup, 1) := by decide +kernel
theorem dL_law_4 : decode cL_law 4 = .ok (.invokespecial 9, 3) := by decide +kernel
theorem dL_law_7 : decode cL_law 7 = .ok (.astore_n 1, 1) := by decide +kernel
theorem dL_law_8 : decode cL_law 8 = .ok (.new 10, 3) := by decide +kernel
theorem dL_law_11 : decode cL_law 11 = .ok (.dup, 1) := by decide +kernel
theorem dL_law_12 : decode cL_law 12 = .ok (.invokespecial 12, 3) := by decide +kernel
theorem dL_law_15 : decode cL_law 15 = .ok (.astore_n 2, 1) := by decide +kernel
theorem dL_law_16 : decode cL_law 16 = .ok (.iconst 0, 1) := by decide +kernel
theorem dL_law_17 : decode cL_law 17 = .ok (.istore_n 3, 1) := by decide +kernel
theorem dL_law_18 : decode cL_law 18 = .ok (.iload_n 3, 1) := by decide +kernel
theorem dL_law_19 : decode cL_law 19 = .ok (.aload_n 0, 1) := by decide +kernel
theorem dL_law_20 : decode cL_law 20 = .ok (.arraylength, 1) := by decide +kernel
theorem dL_law_21 : decode cL_law 21 = .ok (.bipush 6, 2) := by decide +kernel
theorem dL_law_23 : decode cL_law 23 = .ok (.isub, 1) := by decide +kernel
theorem dL_law_24 : decode cL_law 24 = .ok (.if_icmp .gt 1259, 3) := by decide +kernel
theorem dL_law_27 : decode cL_law 27 = .ok (.aload_n 0, 1) := by decide +kernel
theorem dL_law_28 : decode cL_law 28 = .ok (.iload_n 3, 1) := by decide +kernel
theorem dL_law_29 : decode cL_law 29 = .ok (.iaload, 1) := by decide +kernel
theorem dL_law_30 : decode cL_law 30 = .ok (.bipush 63, 2) := by decide +kernel
theorem dL_law_32 : decode cL_law 32 = .ok (.iand, 1) := by decide +kernel
theorem dL_law_33 : decode cL_law 33 = .ok (.tableswitch 1244 0 32 #[147, 200, 233, 276, 309, 332, 375, 398, 441, 474, 507, 530, 593, 626, 649, 682, 751, 774, 797, 820, 843, 866, 900, 943, 966, 1009, 1053, 1116, 1139, 1162, 1195, 1208, 1221], 147) := by decide +kernel
theorem dL_law_180 : decode cL_law 180 = .ok (.aload_n 1, 1) := by decide +kernel
theorem dL_law_181 : decode cL_law 181 = .ok (.aload_n 0, 1) := by decide +kernel
theorem dL_law_182 : decode cL_law 182 = .ok (.iload_n 3, 1) := by decide +kernel
theorem dL_law_183 : decode cL_law 183 = .ok (.iconst 1, 1) := by decide +kernel
theorem dL_law_184 : decode cL_law 184 = .ok (.iadd, 1) := by decide +kernel
theorem dL_law_185 : decode cL_law 185 = .ok (.iaload, 1) := by decide +kernel
theorem dL_law_186 : decode cL_law 186 = .ok (.aload_n 0, 1) := by decide +kernel
theorem dL_law_187 : decode cL_law 187 = .ok (.iload_n 3, 1) := by decide +kernel
theorem dL_law_188 : decode cL_law 188 = .ok (.iconst 2, 1) := by decide +kernel
theorem dL_law_189 : decode cL_law 189 = .ok (.iadd, 1) := by decide +kernel
theorem dL_law_190 : decode cL_law 190 = .ok (.iaload, 1) := by decide +kernel
theorem dL_law_191 : decode cL_law 191 = .ok (.aload_n 0, 1) := by decide +kernel
theorem dL_law_192 : decode cL_law 192 = .ok (.iload_n 3, 1) := by decide +kernel
theorem dL_law_193 : decode cL_law 193 = .ok (.iconst 3, 1) := by decide +kernel
theorem dL_law_194 : decode cL_law 194 = .ok (.iadd, 1) := by decide +kernel
theorem dL_law_195 : decode cL_law 195 = .ok (.iaload, 1) := by decide +kernel
theorem dL_law_196 : decode cL_law 196 = .ok (.aload_n 0, 1) := by decide +kernel
theorem dL_law_197 : decode cL_law 197 = .ok (.iload_n 3, 1) := by decide +kernel
theorem dL_law_198 : decode cL_law 198 = .ok (.iconst 4, 1) := by decide +kernel
theorem dL_law_199 : decode cL_law 199 = .ok (.iadd, 1) := by decide +kernel
theorem dL_law_200 : decode cL_law 200 = .ok (.iaload, 1) := by decide +kernel
theorem dL_law_201 : decode cL_law 201 = .ok (.invokevirtual 13, 3) := by decide +kernel
theorem dL_law_204 : decode cL_law 204 = .ok (.aload_n 2, 1) := by decide +kernel
theorem dL_law_205 : decode cL_law 205 = .ok (.aload_n 0, 1) := by decide +kernel
theorem dL_law_206 : decode cL_law 206 = .ok (.iload_n 3, 1) := by decide +kernel
theorem dL_law_207 : decode cL_law 207 = .ok (.iconst 1, 1) := by decide +kernel
theorem dL_law_208 : decode cL_law 208 = .ok (.iadd, 1) := by decide +kernel
theorem dL_law_209 : decode cL_law 209 = .ok (.iaload, 1) := by decide +kernel
theorem dL_law_210 : decode cL_law 210 = .ok (.aload_n 0, 1) := by decide +kernel
theorem dL_law_211 : decode cL_law 211 = .ok (.iload_n 3, 1) := by decide +kernel
theorem dL_law_212 : decode cL_law 212 = .ok (.iconst 2, 1) := by decide +kernel
theorem dL_law_213 : decode cL_law 213 = .ok (.iadd, 1) := by decide +kernel
theorem dL_law_214 : decode cL_law 214 = .ok (.iaload, 1) := by decide +kernel
theorem dL_law_215 : decode cL_law 215 = .ok (.aload_n 0, 1) := by decide +kernel
theorem dL_law_216 : decode cL_law 216 = .ok (.iload_n 3, 1) := by decide +kernel
theorem dL_law_217 : decode cL_law 217 = .ok (.iconst 3, 1) := by decide +kernel
theorem dL_law_218 : decode cL_law 218 = .ok (.iadd, 1) := by decide +kernel
theorem dL_law_219 : decode cL_law 219 = .ok (.iaload, 1) := by decide +kernel
theorem dL_law_220 : decode cL_law 220 = .ok (.aload_n 0, 1) := by decide +kernel
theorem dL_law_221 : decode cL_law 221 = .ok (.iload_n 3, 1) := by decide +kernel
theorem dL_law_222 : decode cL_law 222 = .ok (.iconst 4, 1) := by decide +kernel
theorem dL_law_223 : decode cL_law 223 = .ok (.iadd, 1) := by decide +kernel
theorem dL_law_224 : decode cL_law 224 = .ok (.iaload, 1) := by decide +kernel
theorem dL_law_225 : decode cL_law 225 = .ok (.invokevirtual 17, 3) := by decide +kernel
theorem dL_law_228 : decode cL_law 228 = .ok (.if_icmp .eq 1049, 3) := by decide +kernel
theorem dL_law_231 : decode cL_law 231 = .ok (.iconst 0, 1) := by decide +kernel
theorem dL_law_232 : decode cL_law 232 = .ok (.ireturn, 1) := by decide +kernel
theorem dL_law_233 : decode cL_law 233 = .ok (.aload_n 1, 1) := by decide +kernel
theorem dL_law_234 : decode cL_law 234 = .ok (.aload_n 0, 1) := by decide +kernel
theorem dL_law_235 : decode cL_law 235 = .ok (.iload_n 3, 1) := by decide +kernel
theorem dL_law_236 : decode cL_law 236 = .ok (.iconst 1, 1) := by decide +kernel
theorem dL_law_237 : decode cL_law 237 = .ok (.iadd, 1) := by decide +kernel
theorem dL_law_238 : decode cL_law 238 = .ok (.iaload, 1) := by decide +kernel
theorem dL_law_239 : decode cL_law 239 = .ok (.aload_n 0, 1) := by decide +kernel
theorem dL_law_240 : decode cL_law 240 = .ok (.iload_n 3, 1) := by decide +kernel
theorem dL_law_241 : decode cL_law 241 = .ok (.iconst 2, 1) := by decide +kernel
theorem dL_law_242 : decode cL_law 242 = .ok (.iadd, 1) := by decide +kernel
theorem dL_law_243 : decode cL_law 243 = .ok (.iaload, 1) := by decide +kernel
theorem dL_law_244 : decode cL_law 244 = .ok (.invokevirtual 18, 3) := by decide +kernel
theorem dL_law_247 : decode cL_law 247 = .ok (.aload_n 2, 1) := by decide +kernel
theorem dL_law_248 : decode cL_law 248 = .ok (.aload_n 0, 1) := by decide +kernel
theorem dL_law_249 : decode cL_law 249 = .ok (.iload_n 3, 1) := by decide +kernel
theorem dL_law_250 : decode cL_law 250 = .ok (.iconst 1, 1) := by decide +kernel
theorem dL_law_251 : decode cL_law 251 = .ok (.iadd, 1) := by decide +kernel
theorem dL_law_252 : decode cL_law 252 = .ok (.iaload, 1) := by decide +kernel
theorem dL_law_253 : decode cL_law 253 = .ok (.aload_n 0, 1) := by decide +kernel
theorem dL_law_254 : decode cL_law 254 = .ok (.iload_n 3, 1) := by decide +kernel
theorem dL_law_255 : decode cL_law 255 = .ok (.iconst 2, 1) := by decide +kernel
theorem dL_law_256 : decode cL_law 256 = .ok (.iadd, 1) := by decide +kernel
theorem dL_law_257 : decode cL_law 257 = .ok (.iaload, 1) := by decide +kernel
theorem dL_law_258 : decode cL_law 258 = .ok (.invokevirtual 22, 3) := by decide +kernel
theorem dL_law_261 : decode cL_law 261 = .ok (.if_icmp .eq 1016, 3) := by decide +kernel
theorem dL_law_264 : decode cL_law 264 = .ok (.iconst 0, 1) := by decide +kernel
theorem dL_law_265 : decode cL_law 265 = .ok (.ireturn, 1) := by decide +kernel
theorem dL_law_266 : decode cL_law 266 = .ok (.aload_n 1, 1) := by decide +kernel
theorem dL_law_267 : decode cL_law 267 = .ok (.aload_n 0, 1) := by decide +kernel
theorem dL_law_268 : decode cL_law 268 = .ok (.iload_n 3, 1) := by decide +kernel
theorem dL_law_269 : decode cL_law 269 = .ok (.iconst 1, 1) := by decide +kernel
theorem dL_law_270 : decode cL_law 270 = .ok (.iadd, 1) := by decide +kernel
theorem dL_law_271 : decode cL_law 271 = .ok (.iaload, 1) := by decide +kernel
theorem dL_law_272 : decode cL_law 272 = .ok (.aload_n 0, 1) := by decide +kernel
theorem dL_law_273 : decode cL_law 273 = .ok (.iload_n 3, 1) := by decide +kernel
theorem dL_law_274 : decode cL_law 274 = .ok (.iconst 2, 1) := by decide +kernel
theorem dL_law_275 : decode cL_law 275 = .ok (.iadd, 1) := by decide +kernel
theorem dL_law_276 : decode cL_law 276 = .ok (.iaload, 1) := by decide +kernel
theorem dL_law_277 : decode cL_law 277 = .ok (.aload_n 0, 1) := by decide +kernel
theorem dL_law_278 : decode cL_law 278 = .ok (.iload_n 3, 1) := by decide +kernel
theorem dL_law_279 : decode cL_law 279 = .ok (.iconst 3, 1) := by decide +kernel
theorem dL_law_280 : decode cL_law 280 = .ok (.iadd, 1) := by decide +kernel
theorem dL_law_281 : decode cL_law 281 = .ok (.iaload, 1) := by decide +kernel
theorem dL_law_282 : decode cL_law 282 = .ok (.invokevirtual 23, 3) := by decide +kernel
theorem dL_law_285 : decode cL_law 285 = .ok (.aload_n 2, 1) := by decide +kernel
theorem dL_law_286 : decode cL_law 286 = .ok (.aload_n 0, 1) := by decide +kernel
theorem dL_law_287 : decode cL_law 287 = .ok (.iload_n 3, 1) := by decide +kernel
theorem dL_law_288 : decode cL_law 288 = .ok (.iconst 1, 1) := by decide +kernel
theorem dL_law_289 : decode cL_law 289 = .ok (.iadd, 1) := by decide +kernel
theorem dL_law_290 : decode cL_law 290 = .ok (.iaload, 1) := by decide +kernel
theorem dL_law_291 : decode cL_law 291 = .ok (.aload_n 0, 1) := by decide +kernel
theorem dL_law_292 : decode cL_law 292 = .ok (.iload_n 3, 1) := by decide +kernel
theorem dL_law_293 : decode cL_law 293 = .ok (.iconst 2, 1) := by decide +kernel
theorem dL_law_294 : decode cL_law 294 = .ok (.iadd, 1) := by decide +kernel
theorem dL_law_295 : decode cL_law 295 = .ok (.iaload, 1) := by decide +kernel
theorem dL_law_296 : decode cL_law 296 = .ok (.aload_n 0, 1) := by decide +kernel
theorem dL_law_297 : decode cL_law 297 = .ok (.iload_n 3, 1) := by decide +kernel
theorem dL_law_298 : decode cL_law 298 = .ok (.iconst 3, 1) := by decide +kernel
theorem dL_law_299 : decode cL_law 299 = .ok (.iadd, 1) := by decide +kernel
theorem dL_law_300 : decode cL_law 300 = .ok (.iaload, 1) := by decide +kernel
theorem dL_law_301 : decode cL_law 301 = .ok (.invokevirtual 27, 3) := by decide +kernel
theorem dL_law_304 : decode cL_law 304 = .ok (.if_icmp .eq 973, 3) := by decide +kernel
theorem dL_law_307 : decode cL_law 307 = .ok (.iconst 0, 1) := by decide +kernel
theorem dL_law_308 : decode cL_law 308 = .ok (.ireturn, 1) := by decide +kernel
theorem dL_law_309 : decode cL_law 309 = .ok (.aload_n 1, 1) := by decide +kernel
theorem dL_law_310 : decode cL_law 310 = .ok (.aload_n 0, 1) := by decide +kernel
theorem dL_law_311 : decode cL_law 311 = .ok (.iload_n 3, 1) := by decide +kernel
theorem dL_law_312 : decode cL_law 312 = .ok (.iconst 1, 1) := by decide +kernel
theorem dL_law_313 : decode cL_law 313 = .ok (.iadd, 1) := by decide +kernel
theorem dL_law_314 : decode cL_law 314 = .ok (.iaload, 1) := by decide +kernel
theorem dL_law_315 : decode cL_law 315 = .ok (.aload_n 0, 1) := by decide +kernel
theorem dL_law_316 : decode cL_law 316 = .ok (.iload_n 3, 1) := by decide +kernel
theorem dL_law_317 : decode cL_law 317 = .ok (.iconst 2, 1) := by decide +kernel
theorem dL_law_318 : decode cL_law 318 = .ok (.iadd, 1) := by decide +kernel
theorem dL_law_319 : decode cL_law 319 = .ok (.iaload, 1) := by decide +kernel
theorem dL_law_320 : decode cL_law 320 = .ok (.invokevirtual 28, 3) := by decide +kernel
theorem dL_law_323 : decode cL_law 323 = .ok (.aload_n 2, 1) := by decide +kernel
theorem dL_law_324 : decode cL_law 324 = .ok (.aload_n 0, 1) := by decide +kernel
theorem dL_law_325 : decode cL_law 325 = .ok (.iload_n 3, 1) := by decide +kernel
theorem dL_law_326 : decode cL_law 326 = .ok (.iconst 1, 1) := by decide +kernel
theorem dL_law_327 : decode cL_law 327 = .ok (.iadd, 1) := by decide +kernel
theorem dL_law_328 : decode cL_law 328 = .ok (.iaload, 1) := by decide +kernel
theorem dL_law_329 : decode cL_law 329 = .ok (.aload_n 0, 1) := by decide +kernel
theorem dL_law_330 : decode cL_law 330 = .ok (.iload_n 3, 1) := by decide +kernel
theorem dL_law_331 : decode cL_law 331 = .ok (.iconst 2, 1) := by decide +kernel
theorem dL_law_332 : decode cL_law 332 = .ok (.iadd, 1) := by decide +kernel
theorem dL_law_333 : decode cL_law 333 = .ok (.iaload, 1) := by decide +kernel
theorem dL_law_334 : decode cL_law 334 = .ok (.invokevirtual 31, 3) := by decide +kernel
theorem dL_law_337 : decode cL_law 337 = .ok (.if_icmp .eq 940, 3) := by decide +kernel
theorem dL_law_340 : decode cL_law 340 = .ok (.iconst 0, 1) := by decide +kernel
theorem dL_law_341 : decode cL_law 341 = .ok (.ireturn, 1) := by decide +kernel
theorem dL_law_342 : decode cL_law 342 = .ok (.aload_n 1, 1) := by decide +kernel
theorem dL_law_343 : decode cL_law 343 = .ok (.aload_n 0, 1) := by decide +kernel
theorem dL_law_344 : decode cL_law 344 = .ok (.iload_n 3, 1) := by decide +kernel
theorem dL_law_345 : decode cL_law 345 = .ok (.iconst 1, 1) := by decide +kernel
theorem dL_law_346 : decode cL_law 346 = .ok (.iadd, 1) := by decide +kernel
theorem dL_law_347 : decode cL_law 347 = .ok (.iaload, 1) := by decide +kernel
theorem dL_law_348 : decode cL_law 348 = .ok (.invokevirtual 32, 3) := by decide +kernel
theorem dL_law_351 : decode cL_law 351 = .ok (.aload_n 2, 1) := by decide +kernel
theorem dL_law_352 : decode cL_law 352 = .ok (.aload_n 0, 1) := by decide +kernel
theorem dL_law_353 : decode cL_law 353 = .ok (.iload_n 3, 1) := by decide +kernel
theorem dL_law_354 : decode cL_law 354 = .ok (.iconst 1, 1) := by decide +kernel
theorem dL_law_355 : decode cL_law 355 = .ok (.iadd, 1) := by decide +kernel
theorem dL_law_356 : decode cL_law 356 = .ok (.iaload, 1) := by decide +kernel
theorem dL_law_357 : decode cL_law 357 = .ok (.invokevirtual 36, 3) := by decide +kernel
theorem dL_law_360 : decode cL_law 360 = .ok (.if_icmp .eq 917, 3) := by decide +kernel
theorem dL_law_363 : decode cL_law 363 = .ok (.iconst 0, 1) := by decide +kernel
theorem dL_law_364 : decode cL_law 364 = .ok (.ireturn, 1) := by decide +kernel
theorem dL_law_365 : decode cL_law 365 = .ok (.aload_n 1, 1) := by decide +kernel
theorem dL_law_366 : decode cL_law 366 = .ok (.aload_n 0, 1) := by decide +kernel
theorem dL_law_367 : decode cL_law 367 = .ok (.iload_n 3, 1) := by decide +kernel
theorem dL_law_368 : decode cL_law 368 = .ok (.iconst 1, 1) := by decide +kernel
theorem dL_law_369 : decode cL_law 369 = .ok (.iadd, 1) := by decide +kernel
theorem dL_law_370 : decode cL_law 370 = .ok (.iaload, 1) := by decide +kernel
theorem dL_law_371 : decode cL_law 371 = .ok (.aload_n 0, 1) := by decide +kernel
theorem dL_law_372 : decode cL_law 372 = .ok (.iload_n 3, 1) := by decide +kernel
theorem dL_law_373 : decode cL_law 373 = .ok (.iconst 2, 1) := by decide +kernel
theorem dL_law_374 : decode cL_law 374 = .ok (.iadd, 1) := by decide +kernel
theorem dL_law_375 : decode cL_law 375 = .ok (.iaload, 1) := by decide +kernel
theorem dL_law_376 : decode cL_law 376 = .ok (.aload_n 0, 1) := by decide +kernel
theorem dL_law_377 : decode cL_law 377 = .ok (.iload_n 3, 1) := by decide +kernel
theorem dL_law_378 : decode cL_law 378 = .ok (.iconst 3, 1) := by decide +kernel
theorem dL_law_379 : decode cL_law 379 = .ok (.iadd, 1) := by decide +kernel
theorem dL_law_380 : decode cL_law 380 = .ok (.iaload, 1) := by decide +kernel
theorem dL_law_381 : decode cL_law 381 = .ok (.invokevirtual 37, 3) := by decide +kernel
theorem dL_law_384 : decode cL_law 384 = .ok (.aload_n 2, 1) := by decide +kernel
theorem dL_law_385 : decode cL_law 385 = .ok (.aload_n 0, 1) := by decide +kernel
theorem dL_law_386 : decode cL_law 386 = .ok (.iload_n 3, 1) := by decide +kernel
theorem dL_law_387 : decode cL_law 387 = .ok (.iconst 1, 1) := by decide +kernel
theorem dL_law_388 : decode cL_law 388 = .ok (.iadd, 1) := by decide +kernel
theorem dL_law_389 : decode cL_law 389 = .ok (.iaload, 1) := by decide +kernel
theorem dL_law_390 : decode cL_law 390 = .ok (.aload_n 0, 1) := by decide +kernel
theorem dL_law_391 : decode cL_law 391 = .ok (.iload_n 3, 1) := by decide +kernel
theorem dL_law_392 : decode cL_law 392 = .ok (.iconst 2, 1) := by decide +kernel
theorem dL_law_393 : decode cL_law 393 = .ok (.iadd, 1) := by decide +kernel
theorem dL_law_394 : decode cL_law 394 = .ok (.iaload, 1) := by decide +kernel
theorem dL_law_395 : decode cL_law 395 = .ok (.aload_n 0, 1) := by decide +kernel
theorem dL_law_396 : decode cL_law 396 = .ok (.iload_n 3, 1) := by decide +kernel
theorem dL_law_397 : decode cL_law 397 = .ok (.iconst 3, 1) := by decide +kernel
theorem dL_law_398 : decode cL_law 398 = .ok (.iadd, 1) := by decide +kernel
theorem dL_law_399 : decode cL_law 399 = .ok (.iaload, 1) := by decide +kernel
theorem dL_law_400 : decode cL_law 400 = .ok (.invokevirtual 40, 3) := by decide +kernel
theorem dL_law_403 : decode cL_law 403 = .ok (.if_icmp .eq 874, 3) := by decide +kernel
theorem dL_law_406 : decode cL_law 406 = .ok (.iconst 0, 1) := by decide +kernel
theorem dL_law_407 : decode cL_law 407 = .ok (.ireturn, 1) := by decide +kernel
theorem dL_law_408 : decode cL_law 408 = .ok (.aload_n 1, 1) := by decide +kernel
theorem dL_law_409 : decode cL_law 409 = .ok (.aload_n 0, 1) := by decide +kernel
theorem dL_law_410 : decode cL_law 410 = .ok (.iload_n 3, 1) := by decide +kernel
theorem dL_law_411 : decode cL_law 411 = .ok (.iconst 1, 1) := by decide +kernel
theorem dL_law_412 : decode cL_law 412 = .ok (.iadd, 1) := by decide +kernel
theorem dL_law_413 : decode cL_law 413 = .ok (.iaload, 1) := by decide +kernel
theorem dL_law_414 : decode cL_law 414 = .ok (.invokevirtual 41, 3) := by decide +kernel
theorem dL_law_417 : decode cL_law 417 = .ok (.aload_n 2, 1) := by decide +kernel
theorem dL_law_418 : decode cL_law 418 = .ok (.aload_n 0, 1) := by decide +kernel
theorem dL_law_419 : decode cL_law 419 = .ok (.iload_n 3, 1) := by decide +kernel
theorem dL_law_420 : decode cL_law 420 = .ok (.iconst 1, 1) := by decide +kernel
theorem dL_law_421 : decode cL_law 421 = .ok (.iadd, 1) := by decide +kernel
theorem dL_law_422 : decode cL_law 422 = .ok (.iaload, 1) := by decide +kernel
theorem dL_law_423 : decode cL_law 423 = .ok (.invokevirtual 44, 3) := by decide +kernel
theorem dL_law_426 : decode cL_law 426 = .ok (.if_icmp .eq 851, 3) := by decide +kernel
theorem dL_law_429 : decode cL_law 429 = .ok (.iconst 0, 1) := by decide +kernel
theorem dL_law_430 : decode cL_law 430 = .ok (.ireturn, 1) := by decide +kernel
theorem dL_law_431 : decode cL_law 431 = .ok (.aload_n 1, 1) := by decide +kernel
theorem dL_law_432 : decode cL_law 432 = .ok (.aload_n 0, 1) := by decide +kernel
theorem dL_law_433 : decode cL_law 433 = .ok (.iload_n 3, 1) := by decide +kernel
theorem dL_law_434 : decode cL_law 434 = .ok (.iconst 1, 1) := by decide +kernel
theorem dL_law_435 : decode cL_law 435 = .ok (.iadd, 1) := by decide +kernel
theorem dL_law_436 : decode cL_law 436 = .ok (.iaload, 1) := by decide +kernel
theorem dL_law_437 : decode cL_law 437 = .ok (.aload_n 0, 1) := by decide +kernel
theorem dL_law_438 : decode cL_law 438 = .ok (.iload_n 3, 1) := by decide +kernel
theorem dL_law_439 : decode cL_law 439 = .ok (.iconst 2, 1) := by decide +kernel
theorem dL_law_440 : decode cL_law 440 = .ok (.iadd, 1) := by decide +kernel
theorem dL_law_441 : decode cL_law 441 = .ok (.iaload, 1) := by decide +kernel
theorem dL_law_442 : decode cL_law 442 = .ok (.aload_n 0, 1) := by decide +kernel
theorem dL_law_443 : decode cL_law 443 = .ok (.iload_n 3, 1) := by decide +kernel
theorem dL_law_444 : decode cL_law 444 = .ok (.iconst 3, 1) := by decide +kernel
theorem dL_law_445 : decode cL_law 445 = .ok (.iadd, 1) := by decide +kernel
theorem dL_law_446 : decode cL_law 446 = .ok (.iaload, 1) := by decide +kernel
theorem dL_law_447 : decode cL_law 447 = .ok (.invokevirtual 45, 3) := by decide +kernel
theorem dL_law_450 : decode cL_law 450 = .ok (.aload_n 2, 1) := by decide +kernel
theorem dL_law_451 : decode cL_law 451 = .ok (.aload_n 0, 1) := by decide +kernel
theorem dL_law_452 : decode cL_law 452 = .ok (.iload_n 3, 1) := by decide +kernel
theorem dL_law_453 : decode cL_law 453 = .ok (.iconst 1, 1) := by decide +kernel
theorem dL_law_454 : decode cL_law 454 = .ok (.iadd, 1) := by decide +kernel
theorem dL_law_455 : decode cL_law 455 = .ok (.iaload, 1) := by decide +kernel
theorem dL_law_456 : decode cL_law 456 = .ok (.aload_n 0, 1) := by decide +kernel
theorem dL_law_457 : decode cL_law 457 = .ok (.iload_n 3, 1) := by decide +kernel
theorem dL_law_458 : decode cL_law 458 = .ok (.iconst 2, 1) := by decide +kernel
theorem dL_law_459 : decode cL_law 459 = .ok (.iadd, 1) := by decide +kernel
theorem dL_law_460 : decode cL_law 460 = .ok (.iaload, 1) := by decide +kernel
theorem dL_law_461 : decode cL_law 461 = .ok (.aload_n 0, 1) := by decide +kernel
theorem dL_law_462 : decode cL_law 462 = .ok (.iload_n 3, 1) := by decide +kernel
theorem dL_law_463 : decode cL_law 463 = .ok (.iconst 3, 1) := by decide +kernel
theorem dL_law_464 : decode cL_law 464 = .ok (.iadd, 1) := by decide +kernel
theorem dL_law_465 : decode cL_law 465 = .ok (.iaload, 1) := by decide +kernel
theorem dL_law_466 : decode cL_law 466 = .ok (.invokevirtual 48, 3) := by decide +kernel
theorem dL_law_469 : decode cL_law 469 = .ok (.if_icmp .eq 808, 3) := by decide +kernel
theorem dL_law_472 : decode cL_law 472 = .ok (.iconst 0, 1) := by decide +kernel
theorem dL_law_473 : decode cL_law 473 = .ok (.ireturn, 1) := by decide +kernel
theorem dL_law_474 : decode cL_law 474 = .ok (.aload_n 1, 1) := by decide +kernel
theorem dL_law_475 : decode cL_law 475 = .ok (.aload_n 0, 1) := by decide +kernel
theorem dL_law_476 : decode cL_law 476 = .ok (.iload_n 3, 1) := by decide +kernel
theorem dL_law_477 : decode cL_law 477 = .ok (.iconst 1, 1) := by decide +kernel
theorem dL_law_478 : decode cL_law 478 = .ok (.iadd, 1) := by decide +kernel
theorem dL_law_479 : decode cL_law 479 = .ok (.iaload, 1) := by decide +kernel
theorem dL_law_480 : decode cL_law 480 = .ok (.aload_n 0, 1) := by decide +kernel
theorem dL_law_481 : decode cL_law 481 = .ok (.iload_n 3, 1) := by decide +kernel
theorem dL_law_482 : decode cL_law 482 = .ok (.iconst 2, 1) := by decide +kernel
theorem dL_law_483 : decode cL_law 483 = .ok (.iadd, 1) := by decide +kernel
theorem dL_law_484 : decode cL_law 484 = .ok (.iaload, 1) := by decide +kernel
theorem dL_law_485 : decode cL_law 485 = .ok (.invokevirtual 49, 3) := by decide +kernel
theorem dL_law_488 : decode cL_law 488 = .ok (.aload_n 2, 1) := by decide +kernel
theorem dL_law_489 : decode cL_law 489 = .ok (.aload_n 0, 1) := by decide +kernel
theorem dL_law_490 : decode cL_law 490 = .ok (.iload_n 3, 1) := by decide +kernel
theorem dL_law_491 : decode cL_law 491 = .ok (.iconst 1, 1) := by decide +kernel
theorem dL_law_492 : decode cL_law 492 = .ok (.iadd, 1) := by decide +kernel
theorem dL_law_493 : decode cL_law 493 = .ok (.iaload, 1) := by decide +kernel
theorem dL_law_494 : decode cL_law 494 = .ok (.aload_n 0, 1) := by decide +kernel
theorem dL_law_495 : decode cL_law 495 = .ok (.iload_n 3, 1) := by decide +kernel
theorem dL_law_496 : decode cL_law 496 = .ok (.iconst 2, 1) := by decide +kernel
theorem dL_law_497 : decode cL_law 497 = .ok (.iadd, 1) := by decide +kernel
theorem dL_law_498 : decode cL_law 498 = .ok (.iaload, 1) := by decide +kernel
theorem dL_law_499 : decode cL_law 499 = .ok (.invokevirtual 52, 3) := by decide +kernel
theorem dL_law_502 : decode cL_law 502 = .ok (.if_icmp .eq 775, 3) := by decide +kernel
theorem dL_law_505 : decode cL_law 505 = .ok (.iconst 0, 1) := by decide +kernel
theorem dL_law_506 : decode cL_law 506 = .ok (.ireturn, 1) := by decide +kernel
theorem dL_law_507 : decode cL_law 507 = .ok (.aload_n 1, 1) := by decide +kernel
theorem dL_law_508 : decode cL_law 508 = .ok (.aload_n 0, 1) := by decide +kernel
theorem dL_law_509 : decode cL_law 509 = .ok (.iload_n 3, 1) := by decide +kernel
theorem dL_law_510 : decode cL_law 510 = .ok (.iconst 1, 1) := by decide +kernel
theorem dL_law_511 : decode cL_law 511 = .ok (.iadd, 1) := by decide +kernel
theorem dL_law_512 : decode cL_law 512 = .ok (.iaload, 1) := by decide +kernel
theorem dL_law_513 : decode cL_law 513 = .ok (.aload_n 0, 1) := by decide +kernel
theorem dL_law_514 : decode cL_law 514 = .ok (.iload_n 3, 1) := by decide +kernel
theorem dL_law_515 : decode cL_law 515 = .ok (.iconst 2, 1) := by decide +kernel
theorem dL_law_516 : decode cL_law 516 = .ok (.iadd, 1) := by decide +kernel
theorem dL_law_517 : decode cL_law 517 = .ok (.iaload, 1) := by decide +kernel
theorem dL_law_518 : decode cL_law 518 = .ok (.invokevirtual 53, 3) := by decide +kernel
theorem dL_law_521 : decode cL_law 521 = .ok (.aload_n 2, 1) := by decide +kernel
theorem dL_law_522 : decode cL_law 522 = .ok (.aload_n 0, 1) := by decide +kernel
theorem dL_law_523 : decode cL_law 523 = .ok (.iload_n 3, 1) := by decide +kernel
theorem dL_law_524 : decode cL_law 524 = .ok (.iconst 1, 1) := by decide +kernel
theorem dL_law_525 : decode cL_law 525 = .ok (.iadd, 1) := by decide +kernel
theorem dL_law_526 : decode cL_law 526 = .ok (.iaload, 1) := by decide +kernel
theorem dL_law_527 : decode cL_law 527 = .ok (.aload_n 0, 1) := by decide +kernel
theorem dL_law_528 : decode cL_law 528 = .ok (.iload_n 3, 1) := by decide +kernel
theorem dL_law_529 : decode cL_law 529 = .ok (.iconst 2, 1) := by decide +kernel
theorem dL_law_530 : decode cL_law 530 = .ok (.iadd, 1) := by decide +kernel
theorem dL_law_531 : decode cL_law 531 = .ok (.iaload, 1) := by decide +kernel
theorem dL_law_532 : decode cL_law 532 = .ok (.invokevirtual 56, 3) := by decide +kernel
theorem dL_law_535 : decode cL_law 535 = .ok (.if_icmp .eq 742, 3) := by decide +kernel
theorem dL_law_538 : decode cL_law 538 = .ok (.iconst 0, 1) := by decide +kernel
theorem dL_law_539 : decode cL_law 539 = .ok (.ireturn, 1) := by decide +kernel
theorem dL_law_540 : decode cL_law 540 = .ok (.aload_n 1, 1) := by decide +kernel
theorem dL_law_541 : decode cL_law 541 = .ok (.aload_n 0, 1) := by decide +kernel
theorem dL_law_542 : decode cL_law 542 = .ok (.iload_n 3, 1) := by decide +kernel
theorem dL_law_543 : decode cL_law 543 = .ok (.iconst 1, 1) := by decide +kernel
theorem dL_law_544 : decode cL_law 544 = .ok (.iadd, 1) := by decide +kernel
theorem dL_law_545 : decode cL_law 545 = .ok (.iaload, 1) := by decide +kernel
theorem dL_law_546 : decode cL_law 546 = .ok (.invokevirtual 57, 3) := by decide +kernel
theorem dL_law_549 : decode cL_law 549 = .ok (.aload_n 2, 1) := by decide +kernel
theorem dL_law_550 : decode cL_law 550 = .ok (.aload_n 0, 1) := by decide +kernel
theorem dL_law_551 : decode cL_law 551 = .ok (.iload_n 3, 1) := by decide +kernel
theorem dL_law_552 : decode cL_law 552 = .ok (.iconst 1, 1) := by decide +kernel
theorem dL_law_553 : decode cL_law 553 = .ok (.iadd, 1) := by decide +kernel
theorem dL_law_554 : decode cL_law 554 = .ok (.iaload, 1) := by decide +kernel
theorem dL_law_555 : decode cL_law 555 = .ok (.invokevirtual 60, 3) := by decide +kernel
theorem dL_law_558 : decode cL_law 558 = .ok (.if_icmp .eq 719, 3) := by decide +kernel
theorem dL_law_561 : decode cL_law 561 = .ok (.iconst 0, 1) := by decide +kernel
theorem dL_law_562 : decode cL_law 562 = .ok (.ireturn, 1) := by decide +kernel
theorem dL_law_563 : decode cL_law 563 = .ok (.aload_n 1, 1) := by decide +kernel
theorem dL_law_564 : decode cL_law 564 = .ok (.aload_n 0, 1) := by decide +kernel
theorem dL_law_565 : decode cL_law 565 = .ok (.iload_n 3, 1) := by decide +kernel
theorem dL_law_566 : decode cL_law 566 = .ok (.iconst 1, 1) := by decide +kernel
theorem dL_law_567 : decode cL_law 567 = .ok (.iadd, 1) := by decide +kernel
theorem dL_law_568 : decode cL_law 568 = .ok (.iaload, 1) := by decide +kernel
theorem dL_law_569 : decode cL_law 569 = .ok (.aload_n 0, 1) := by decide +kernel
theorem dL_law_570 : decode cL_law 570 = .ok (.iload_n 3, 1) := by decide +kernel
theorem dL_law_571 : decode cL_law 571 = .ok (.iconst 2, 1) := by decide +kernel
theorem dL_law_572 : decode cL_law 572 = .ok (.iadd, 1) := by decide +kernel
theorem dL_law_573 : decode cL_law 573 = .ok (.iaload, 1) := by decide +kernel
theorem dL_law_574 : decode cL_law 574 = .ok (.aload_n 0, 1) := by decide +kernel
theorem dL_law_575 : decode cL_law 575 = .ok (.iload_n 3, 1) := by decide +kernel
theorem dL_law_576 : decode cL_law 576 = .ok (.iconst 3, 1) := by decide +kernel
theorem dL_law_577 : decode cL_law 577 = .ok (.iadd, 1) := by decide +kernel
theorem dL_law_578 : decode cL_law 578 = .ok (.iaload, 1) := by decide +kernel
theorem dL_law_579 : decode cL_law 579 = .ok (.aload_n 0, 1) := by decide +kernel
theorem dL_law_580 : decode cL_law 580 = .ok (.iload_n 3, 1) := by decide +kernel
theorem dL_law_581 : decode cL_law 581 = .ok (.iconst 4, 1) := by decide +kernel
theorem dL_law_582 : decode cL_law 582 = .ok (.iadd, 1) := by decide +kernel
theorem dL_law_583 : decode cL_law 583 = .ok (.iaload, 1) := by decide +kernel
theorem dL_law_584 : decode cL_law 584 = .ok (.aload_n 0, 1) := by decide +kernel
theorem dL_law_585 : decode cL_law 585 = .ok (.iload_n 3, 1) := by decide +kernel
theorem dL_law_586 : decode cL_law 586 = .ok (.iconst 5, 1) := by decide +kernel
theorem dL_law_587 : decode cL_law 587 = .ok (.iadd, 1) := by decide +kernel
theorem dL_law_588 : decode cL_law 588 = .ok (.iaload, 1) := by decide +kernel
theorem dL_law_589 : decode cL_law 589 = .ok (.invokevirtual 61, 3) := by decide +kernel
theorem dL_law_592 : decode cL_law 592 = .ok (.aload_n 2, 1) := by decide +kernel
theorem dL_law_593 : decode cL_law 593 = .ok (.aload_n 0, 1) := by decide +kernel
theorem dL_law_594 : decode cL_law 594 = .ok (.iload_n 3, 1) := by decide +kernel
theorem dL_law_595 : decode cL_law 595 = .ok (.iconst 1, 1) := by decide +kernel
theorem dL_law_596 : decode cL_law 596 = .ok (.iadd, 1) := by decide +kernel
theorem dL_law_597 : decode cL_law 597 = .ok (.iaload, 1) := by decide +kernel
theorem dL_law_598 : decode cL_law 598 = .ok (.aload_n 0, 1) := by decide +kernel
theorem dL_law_599 : decode cL_law 599 = .ok (.iload_n 3, 1) := by decide +kernel
theorem dL_law_600 : decode cL_law 600 = .ok (.iconst 2, 1) := by decide +kernel
theorem dL_law_601 : decode cL_law 601 = .ok (.iadd, 1) := by decide +kernel
theorem dL_law_602 : decode cL_law 602 = .ok (.iaload, 1) := by decide +kernel
theorem dL_law_603 : decode cL_law 603 = .ok (.aload_n 0, 1) := by decide +kernel
theorem dL_law_604 : decode cL_law 604 = .ok (.iload_n 3, 1) := by decide +kernel
theorem dL_law_605 : decode cL_law 605 = .ok (.iconst 3, 1) := by decide +kernel
theorem dL_law_606 : decode cL_law 606 = .ok (.iadd, 1) := by decide +kernel
theorem dL_law_607 : decode cL_law 607 = .ok (.iaload, 1) := by decide +kernel
theorem dL_law_608 : decode cL_law 608 = .ok (.aload_n 0, 1) := by decide +kernel
theorem dL_law_609 : decode cL_law 609 = .ok (.iload_n 3, 1) := by decide +kernel
theorem dL_law_610 : decode cL_law 610 = .ok (.iconst 4, 1) := by decide +kernel
theorem dL_law_611 : decode cL_law 611 = .ok (.iadd, 1) := by decide +kernel
theorem dL_law_612 : decode cL_law 612 = .ok (.iaload, 1) := by decide +kernel
theorem dL_law_613 : decode cL_law 613 = .ok (.aload_n 0, 1) := by decide +kernel
theorem dL_law_614 : decode cL_law 614 = .ok (.iload_n 3, 1) := by decide +kernel
theorem dL_law_615 : decode cL_law 615 = .ok (.iconst 5, 1) := by decide +kernel
theorem dL_law_616 : decode cL_law 616 = .ok (.iadd, 1) := by decide +kernel
theorem dL_law_617 : decode cL_law 617 = .ok (.iaload, 1) := by decide +kernel
theorem dL_law_618 : decode cL_law 618 = .ok (.invokevirtual 65, 3) := by decide +kernel
theorem dL_law_621 : decode cL_law 621 = .ok (.if_icmp .eq 656, 3) := by decide +kernel
theorem dL_law_624 : decode cL_law 624 = .ok (.iconst 0, 1) := by decide +kernel
theorem dL_law_625 : decode cL_law 625 = .ok (.ireturn, 1) := by decide +kernel
theorem dL_law_626 : decode cL_law 626 = .ok (.aload_n 1, 1) := by decide +kernel
theorem dL_law_627 : decode cL_law 627 = .ok (.aload_n 0, 1) := by decide +kernel
theorem dL_law_628 : decode cL_law 628 = .ok (.iload_n 3, 1) := by decide +kernel
theorem dL_law_629 : decode cL_law 629 = .ok (.iconst 1, 1) := by decide +kernel
theorem dL_law_630 : decode cL_law 630 = .ok (.iadd, 1) := by decide +kernel
theorem dL_law_631 : decode cL_law 631 = .ok (.iaload, 1) := by decide +kernel
theorem dL_law_632 : decode cL_law 632 = .ok (.aload_n 0, 1) := by decide +kernel
theorem dL_law_633 : decode cL_law 633 = .ok (.iload_n 3, 1) := by decide +kernel
theorem dL_law_634 : decode cL_law 634 = .ok (.iconst 2, 1) := by decide +kernel
theorem dL_law_635 : decode cL_law 635 = .ok (.iadd, 1) := by decide +kernel
theorem dL_law_636 : decode cL_law 636 = .ok (.iaload, 1) := by decide +kernel
theorem dL_law_637 : decode cL_law 637 = .ok (.invokevirtual 66, 3) := by decide +kernel
theorem dL_law_640 : decode cL_law 640 = .ok (.aload_n 2, 1) := by decide +kernel
theorem dL_law_641 : decode cL_law 641 = .ok (.aload_n 0, 1) := by decide +kernel
theorem dL_law_642 : decode cL_law 642 = .ok (.iload_n 3, 1) := by decide +kernel
theorem dL_law_643 : decode cL_law 643 = .ok (.iconst 1, 1) := by decide +kernel
theorem dL_law_644 : decode cL_law 644 = .ok (.iadd, 1) := by decide +kernel
theorem dL_law_645 : decode cL_law 645 = .ok (.iaload, 1) := by decide +kernel
theorem dL_law_646 : decode cL_law 646 = .ok (.aload_n 0, 1) := by decide +kernel
theorem dL_law_647 : decode cL_law 647 = .ok (.iload_n 3, 1) := by decide +kernel
theorem dL_law_648 : decode cL_law 648 = .ok (.iconst 2, 1) := by decide +kernel
theorem dL_law_649 : decode cL_law 649 = .ok (.iadd, 1) := by decide +kernel
theorem dL_law_650 : decode cL_law 650 = .ok (.iaload, 1) := by decide +kernel
theorem dL_law_651 : decode cL_law 651 = .ok (.invokevirtual 69, 3) := by decide +kernel
theorem dL_law_654 : decode cL_law 654 = .ok (.if_icmp .eq 623, 3) := by decide +kernel
theorem dL_law_657 : decode cL_law 657 = .ok (.iconst 0, 1) := by decide +kernel
theorem dL_law_658 : decode cL_law 658 = .ok (.ireturn, 1) := by decide +kernel
theorem dL_law_659 : decode cL_law 659 = .ok (.aload_n 1, 1) := by decide +kernel
theorem dL_law_660 : decode cL_law 660 = .ok (.aload_n 0, 1) := by decide +kernel
theorem dL_law_661 : decode cL_law 661 = .ok (.iload_n 3, 1) := by decide +kernel
theorem dL_law_662 : decode cL_law 662 = .ok (.iconst 1, 1) := by decide +kernel
theorem dL_law_663 : decode cL_law 663 = .ok (.iadd, 1) := by decide +kernel
theorem dL_law_664 : decode cL_law 664 = .ok (.iaload, 1) := by decide +kernel
theorem dL_law_665 : decode cL_law 665 = .ok (.invokevirtual 70, 3) := by decide +kernel
theorem dL_law_668 : decode cL_law 668 = .ok (.aload_n 2, 1) := by decide +kernel
theorem dL_law_669 : decode cL_law 669 = .ok (.aload_n 0, 1) := by decide +kernel
theorem dL_law_670 : decode cL_law 670 = .ok (.iload_n 3, 1) := by decide +kernel
theorem dL_law_671 : decode cL_law 671 = .ok (.iconst 1, 1) := by decide +kernel
theorem dL_law_672 : decode cL_law 672 = .ok (.iadd, 1) := by decide +kernel
theorem dL_law_673 : decode cL_law 673 = .ok (.iaload, 1) := by decide +kernel
theorem dL_law_674 : decode cL_law 674 = .ok (.invokevirtual 73, 3) := by decide +kernel
theorem dL_law_677 : decode cL_law 677 = .ok (.if_icmp .eq 600, 3) := by decide +kernel
theorem dL_law_680 : decode cL_law 680 = .ok (.iconst 0, 1) := by decide +kernel
theorem dL_law_681 : decode cL_law 681 = .ok (.ireturn, 1) := by decide +kernel
theorem dL_law_682 : decode cL_law 682 = .ok (.aload_n 1, 1) := by decide +kernel
theorem dL_law_683 : decode cL_law 683 = .ok (.aload_n 0, 1) := by decide +kernel
theorem dL_law_684 : decode cL_law 684 = .ok (.iload_n 3, 1) := by decide +kernel
theorem dL_law_685 : decode cL_law 685 = .ok (.iconst 1, 1) := by decide +kernel
theorem dL_law_686 : decode cL_law 686 = .ok (.iadd, 1) := by decide +kernel
theorem dL_law_687 : decode cL_law 687 = .ok (.iaload, 1) := by decide +kernel
theorem dL_law_688 : decode cL_law 688 = .ok (.aload_n 0, 1) := by decide +kernel
theorem dL_law_689 : decode cL_law 689 = .ok (.iload_n 3, 1) := by decide +kernel
theorem dL_law_690 : decode cL_law 690 = .ok (.iconst 2, 1) := by decide +kernel
theorem dL_law_691 : decode cL_law 691 = .ok (.iadd, 1) := by decide +kernel
theorem dL_law_692 : decode cL_law 692 = .ok (.iaload, 1) := by decide +kernel
theorem dL_law_693 : decode cL_law 693 = .ok (.invokevirtual 74, 3) := by decide +kernel
theorem dL_law_696 : decode cL_law 696 = .ok (.aload_n 2, 1) := by decide +kernel
theorem dL_law_697 : decode cL_law 697 = .ok (.aload_n 0, 1) := by decide +kernel
theorem dL_law_698 : decode cL_law 698 = .ok (.iload_n 3, 1) := by decide +kernel
theorem dL_law_699 : decode cL_law 699 = .ok (.iconst 1, 1) := by decide +kernel
theorem dL_law_700 : decode cL_law 700 = .ok (.iadd, 1) := by decide +kernel
theorem dL_law_701 : decode cL_law 701 = .ok (.iaload, 1) := by decide +kernel
theorem dL_law_702 : decode cL_law 702 = .ok (.aload_n 0, 1) := by decide +kernel
theorem dL_law_703 : decode cL_law 703 = .ok (.iload_n 3, 1) := by decide +kernel
theorem dL_law_704 : decode cL_law 704 = .ok (.iconst 2, 1) := by decide +kernel
theorem dL_law_705 : decode cL_law 705 = .ok (.iadd, 1) := by decide +kernel
theorem dL_law_706 : decode cL_law 706 = .ok (.iaload, 1) := by decide +kernel
theorem dL_law_707 : decode cL_law 707 = .ok (.invokevirtual 77, 3) := by decide +kernel
theorem dL_law_710 : decode cL_law 710 = .ok (.if_icmp .eq 567, 3) := by decide +kernel
theorem dL_law_713 : decode cL_law 713 = .ok (.iconst 0, 1) := by decide +kernel
theorem dL_law_714 : decode cL_law 714 = .ok (.ireturn, 1) := by decide +kernel
theorem dL_law_715 : decode cL_law 715 = .ok (.aload_n 1, 1) := by decide +kernel
theorem dL_law_716 : decode cL_law 716 = .ok (.aload_n 0, 1) := by decide +kernel
theorem dL_law_717 : decode cL_law 717 = .ok (.iload_n 3, 1) := by decide +kernel
theorem dL_law_718 : decode cL_law 718 = .ok (.iconst 1, 1) := by decide +kernel
theorem dL_law_719 : decode cL_law 719 = .ok (.iadd, 1) := by decide +kernel
theorem dL_law_720 : decode cL_law 720 = .ok (.iaload, 1) := by decide +kernel
theorem dL_law_721 : decode cL_law 721 = .ok (.aload_n 0, 1) := by decide +kernel
theorem dL_law_722 : decode cL_law 722 = .ok (.iload_n 3, 1) := by decide +kernel
theorem dL_law_723 : decode cL_law 723 = .ok (.iconst 2, 1) := by decide +kernel
theorem dL_law_724 : decode cL_law 724 = .ok (.iadd, 1) := by decide +kernel
theorem dL_law_725 : decode cL_law 725 = .ok (.iaload, 1) := by decide +kernel
theorem dL_law_726 : decode cL_law 726 = .ok (.aload_n 0, 1) := by decide +kernel
theorem dL_law_727 : decode cL_law 727 = .ok (.iload_n 3, 1) := by decide +kernel
theorem dL_law_728 : decode cL_law 728 = .ok (.iconst 3, 1) := by decide +kernel
theorem dL_law_729 : decode cL_law 729 = .ok (.iadd, 1) := by decide +kernel
theorem dL_law_730 : decode cL_law 730 = .ok (.iaload, 1) := by decide +kernel
theorem dL_law_731 : decode cL_law 731 = .ok (.aload_n 0, 1) := by decide +kernel
theorem dL_law_732 : decode cL_law 732 = .ok (.iload_n 3, 1) := by decide +kernel
theorem dL_law_733 : decode cL_law 733 = .ok (.iconst 4, 1) := by decide +kernel
theorem dL_law_734 : decode cL_law 734 = .ok (.iadd, 1) := by decide +kernel
theorem dL_law_735 : decode cL_law 735 = .ok (.iaload, 1) := by decide +kernel
theorem dL_law_736 : decode cL_law 736 = .ok (.ifCond .eq 7, 3) := by decide +kernel
theorem dL_law_739 : decode cL_law 739 = .ok (.iconst 1, 1) := by decide +kernel
theorem dL_law_740 : decode cL_law 740 = .ok (.goto 4, 3) := by decide +kernel
theorem dL_law_743 : decode cL_law 743 = .ok (.iconst 0, 1) := by decide +kernel
theorem dL_law_744 : decode cL_law 744 = .ok (.invokevirtual 78, 3) := by decide +kernel
theorem dL_law_747 : decode cL_law 747 = .ok (.aload_n 2, 1) := by decide +kernel
theorem dL_law_748 : decode cL_law 748 = .ok (.aload_n 0, 1) := by decide +kernel
theorem dL_law_749 : decode cL_law 749 = .ok (.iload_n 3, 1) := by decide +kernel
theorem dL_law_750 : decode cL_law 750 = .ok (.iconst 1, 1) := by decide +kernel
theorem dL_law_751 : decode cL_law 751 = .ok (.iadd, 1) := by decide +kernel
theorem dL_law_752 : decode cL_law 752 = .ok (.iaload, 1) := by decide +kernel
theorem dL_law_753 : decode cL_law 753 = .ok (.aload_n 0, 1) := by decide +kernel
theorem dL_law_754 : decode cL_law 754 = .ok (.iload_n 3, 1) := by decide +kernel
theorem dL_law_755 : decode cL_law 755 = .ok (.iconst 2, 1) := by decide +kernel
theorem dL_law_756 : decode cL_law 756 = .ok (.iadd, 1) := by decide +kernel
theorem dL_law_757 : decode cL_law 757 = .ok (.iaload, 1) := by decide +kernel
theorem dL_law_758 : decode cL_law 758 = .ok (.aload_n 0, 1) := by decide +kernel
theorem dL_law_759 : decode cL_law 759 = .ok (.iload_n 3, 1) := by decide +kernel
theorem dL_law_760 : decode cL_law 760 = .ok (.iconst 3, 1) := by decide +kernel
theorem dL_law_761 : decode cL_law 761 = .ok (.iadd, 1) := by decide +kernel
theorem dL_law_762 : decode cL_law 762 = .ok (.iaload, 1) := by decide +kernel
theorem dL_law_763 : decode cL_law 763 = .ok (.aload_n 0, 1) := by decide +kernel
theorem dL_law_764 : decode cL_law 764 = .ok (.iload_n 3, 1) := by decide +kernel
theorem dL_law_765 : decode cL_law 765 = .ok (.iconst 4, 1) := by decide +kernel
theorem dL_law_766 : decode cL_law 766 = .ok (.iadd, 1) := by decide +kernel
theorem dL_law_767 : decode cL_law 767 = .ok (.iaload, 1) := by decide +kernel
theorem dL_law_768 : decode cL_law 768 = .ok (.ifCond .eq 7, 3) := by decide +kernel
theorem dL_law_771 : decode cL_law 771 = .ok (.iconst 1, 1) := by decide +kernel
theorem dL_law_772 : decode cL_law 772 = .ok (.goto 4, 3) := by decide +kernel
theorem dL_law_775 : decode cL_law 775 = .ok (.iconst 0, 1) := by decide +kernel
theorem dL_law_776 : decode cL_law 776 = .ok (.invokevirtual 82, 3) := by decide +kernel
theorem dL_law_779 : decode cL_law 779 = .ok (.if_icmp .eq 498, 3) := by decide +kernel
theorem dL_law_782 : decode cL_law 782 = .ok (.iconst 0, 1) := by decide +kernel
theorem dL_law_783 : decode cL_law 783 = .ok (.ireturn, 1) := by decide +kernel
theorem dL_law_784 : decode cL_law 784 = .ok (.aload_n 1, 1) := by decide +kernel
theorem dL_law_785 : decode cL_law 785 = .ok (.aload_n 0, 1) := by decide +kernel
theorem dL_law_786 : decode cL_law 786 = .ok (.iload_n 3, 1) := by decide +kernel
theorem dL_law_787 : decode cL_law 787 = .ok (.iconst 1, 1) := by decide +kernel
theorem dL_law_788 : decode cL_law 788 = .ok (.iadd, 1) := by decide +kernel
theorem dL_law_789 : decode cL_law 789 = .ok (.iaload, 1) := by decide +kernel
theorem dL_law_790 : decode cL_law 790 = .ok (.invokevirtual 83, 3) := by decide +kernel
theorem dL_law_793 : decode cL_law 793 = .ok (.aload_n 2, 1) := by decide +kernel
theorem dL_law_794 : decode cL_law 794 = .ok (.aload_n 0, 1) := by decide +kernel
theorem dL_law_795 : decode cL_law 795 = .ok (.iload_n 3, 1) := by decide +kernel
theorem dL_law_796 : decode cL_law 796 = .ok (.iconst 1, 1) := by decide +kernel
theorem dL_law_797 : decode cL_law 797 = .ok (.iadd, 1) := by decide +kernel
theorem dL_law_798 : decode cL_law 798 = .ok (.iaload, 1) := by decide +kernel
theorem dL_law_799 : decode cL_law 799 = .ok (.invokevirtual 86, 3) := by decide +kernel
theorem dL_law_802 : decode cL_law 802 = .ok (.if_icmp .eq 475, 3) := by decide +kernel
theorem dL_law_805 : decode cL_law 805 = .ok (.iconst 0, 1) := by decide +kernel
theorem dL_law_806 : decode cL_law 806 = .ok (.ireturn, 1) := by decide +kernel
theorem dL_law_807 : decode cL_law 807 = .ok (.aload_n 1, 1) := by decide +kernel
theorem dL_law_808 : decode cL_law 808 = .ok (.aload_n 0, 1) := by decide +kernel
theorem dL_law_809 : decode cL_law 809 = .ok (.iload_n 3, 1) := by decide +kernel
theorem dL_law_810 : decode cL_law 810 = .ok (.iconst 1, 1) := by decide +kernel
theorem dL_law_811 : decode cL_law 811 = .ok (.iadd, 1) := by decide +kernel
theorem dL_law_812 : decode cL_law 812 = .ok (.iaload, 1) := by decide +kernel
theorem dL_law_813 : decode cL_law 813 = .ok (.invokevirtual 87, 3) := by decide +kernel
theorem dL_law_816 : decode cL_law 816 = .ok (.aload_n 2, 1) := by decide +kernel
theorem dL_law_817 : decode cL_law 817 = .ok (.aload_n 0, 1) := by decide +kernel
theorem dL_law_818 : decode cL_law 818 = .ok (.iload_n 3, 1) := by decide +kernel
theorem dL_law_819 : decode cL_law 819 = .ok (.iconst 1, 1) := by decide +kernel
theorem dL_law_820 : decode cL_law 820 = .ok (.iadd, 1) := by decide +kernel
theorem dL_law_821 : decode cL_law 821 = .ok (.iaload, 1) := by decide +kernel
theorem dL_law_822 : decode cL_law 822 = .ok (.invokevirtual 90, 3) := by decide +kernel
theorem dL_law_825 : decode cL_law 825 = .ok (.if_icmp .eq 452, 3) := by decide +kernel
theorem dL_law_828 : decode cL_law 828 = .ok (.iconst 0, 1) := by decide +kernel
theorem dL_law_829 : decode cL_law 829 = .ok (.ireturn, 1) := by decide +kernel
theorem dL_law_830 : decode cL_law 830 = .ok (.aload_n 1, 1) := by decide +kernel
theorem dL_law_831 : decode cL_law 831 = .ok (.aload_n 0, 1) := by decide +kernel
theorem dL_law_832 : decode cL_law 832 = .ok (.iload_n 3, 1) := by decide +kernel
theorem dL_law_833 : decode cL_law 833 = .ok (.iconst 1, 1) := by decide +kernel
theorem dL_law_834 : decode cL_law 834 = .ok (.iadd, 1) := by decide +kernel
theorem dL_law_835 : decode cL_law 835 = .ok (.iaload, 1) := by decide +kernel
theorem dL_law_836 : decode cL_law 836 = .ok (.invokevirtual 91, 3) := by decide +kernel
theorem dL_law_839 : decode cL_law 839 = .ok (.aload_n 2, 1) := by decide +kernel
theorem dL_law_840 : decode cL_law 840 = .ok (.aload_n 0, 1) := by decide +kernel
theorem dL_law_841 : decode cL_law 841 = .ok (.iload_n 3, 1) := by decide +kernel
theorem dL_law_842 : decode cL_law 842 = .ok (.iconst 1, 1) := by decide +kernel
theorem dL_law_843 : decode cL_law 843 = .ok (.iadd, 1) := by decide +kernel
theorem dL_law_844 : decode cL_law 844 = .ok (.iaload, 1) := by decide +kernel
theorem dL_law_845 : decode cL_law 845 = .ok (.invokevirtual 94, 3) := by decide +kernel
theorem dL_law_848 : decode cL_law 848 = .ok (.if_icmp .eq 429, 3) := by decide +kernel
theorem dL_law_851 : decode cL_law 851 = .ok (.iconst 0, 1) := by decide +kernel
theorem dL_law_852 : decode cL_law 852 = .ok (.ireturn, 1) := by decide +kernel
theorem dL_law_853 : decode cL_law 853 = .ok (.aload_n 1, 1) := by decide +kernel
theorem dL_law_854 : decode cL_law 854 = .ok (.aload_n 0, 1) := by decide +kernel
theorem dL_law_855 : decode cL_law 855 = .ok (.iload_n 3, 1) := by decide +kernel
theorem dL_law_856 : decode cL_law 856 = .ok (.iconst 1, 1) := by decide +kernel
theorem dL_law_857 : decode cL_law 857 = .ok (.iadd, 1) := by decide +kernel
theorem dL_law_858 : decode cL_law 858 = .ok (.iaload, 1) := by decide +kernel
theorem dL_law_859 : decode cL_law 859 = .ok (.invokevirtual 95, 3) := by decide +kernel
theorem dL_law_862 : decode cL_law 862 = .ok (.aload_n 2, 1) := by decide +kernel
theorem dL_law_863 : decode cL_law 863 = .ok (.aload_n 0, 1) := by decide +kernel
theorem dL_law_864 : decode cL_law 864 = .ok (.iload_n 3, 1) := by decide +kernel
theorem dL_law_865 : decode cL_law 865 = .ok (.iconst 1, 1) := by decide +kernel
theorem dL_law_866 : decode cL_law 866 = .ok (.iadd, 1) := by decide +kernel
theorem dL_law_867 : decode cL_law 867 = .ok (.iaload, 1) := by decide +kernel
theorem dL_law_868 : decode cL_law 868 = .ok (.invokevirtual 98, 3) := by decide +kernel
theorem dL_law_871 : decode cL_law 871 = .ok (.if_icmp .eq 406, 3) := by decide +kernel
theorem dL_law_874 : decode cL_law 874 = .ok (.iconst 0, 1) := by decide +kernel
theorem dL_law_875 : decode cL_law 875 = .ok (.ireturn, 1) := by decide +kernel
theorem dL_law_876 : decode cL_law 876 = .ok (.aload_n 1, 1) := by decide +kernel
theorem dL_law_877 : decode cL_law 877 = .ok (.aload_n 0, 1) := by decide +kernel
theorem dL_law_878 : decode cL_law 878 = .ok (.iload_n 3, 1) := by decide +kernel
theorem dL_law_879 : decode cL_law 879 = .ok (.iconst 1, 1) := by decide +kernel
theorem dL_law_880 : decode cL_law 880 = .ok (.iadd, 1) := by decide +kernel
theorem dL_law_881 : decode cL_law 881 = .ok (.iaload, 1) := by decide +kernel
theorem dL_law_882 : decode cL_law 882 = .ok (.invokevirtual 99, 3) := by decide +kernel
theorem dL_law_885 : decode cL_law 885 = .ok (.aload_n 2, 1) := by decide +kernel
theorem dL_law_886 : decode cL_law 886 = .ok (.aload_n 0, 1) := by decide +kernel
theorem dL_law_887 : decode cL_law 887 = .ok (.iload_n 3, 1) := by decide +kernel
theorem dL_law_888 : decode cL_law 888 = .ok (.iconst 1, 1) := by decide +kernel
theorem dL_law_889 : decode cL_law 889 = .ok (.iadd, 1) := by decide +kernel
theorem dL_law_890 : decode cL_law 890 = .ok (.iaload, 1) := by decide +kernel
theorem dL_law_891 : decode cL_law 891 = .ok (.invokevirtual 102, 3) := by decide +kernel
theorem dL_law_894 : decode cL_law 894 = .ok (.if_icmp .eq 383, 3) := by decide +kernel
theorem dL_law_897 : decode cL_law 897 = .ok (.iconst 0, 1) := by decide +kernel
theorem dL_law_898 : decode cL_law 898 = .ok (.ireturn, 1) := by decide +kernel
theorem dL_law_899 : decode cL_law 899 = .ok (.aload_n 1, 1) := by decide +kernel
theorem dL_law_900 : decode cL_law 900 = .ok (.aload_n 0, 1) := by decide +kernel
theorem dL_law_901 : decode cL_law 901 = .ok (.iload_n 3, 1) := by decide +kernel
theorem dL_law_902 : decode cL_law 902 = .ok (.iconst 1, 1) := by decide +kernel
theorem dL_law_903 : decode cL_law 903 = .ok (.iadd, 1) := by decide +kernel
theorem dL_law_904 : decode cL_law 904 = .ok (.iaload, 1) := by decide +kernel
theorem dL_law_905 : decode cL_law 905 = .ok (.aload_n 0, 1) := by decide +kernel
theorem dL_law_906 : decode cL_law 906 = .ok (.iload_n 3, 1) := by decide +kernel
theorem dL_law_907 : decode cL_law 907 = .ok (.iconst 2, 1) := by decide +kernel
theorem dL_law_908 : decode cL_law 908 = .ok (.iadd, 1) := by decide +kernel
theorem dL_law_909 : decode cL_law 909 = .ok (.iaload, 1) := by decide +kernel
theorem dL_law_910 : decode cL_law 910 = .ok (.invokevirtual 103, 3) := by decide +kernel
theorem dL_law_913 : decode cL_law 913 = .ok (.aload_n 2, 1) := by decide +kernel
theorem dL_law_914 : decode cL_law 914 = .ok (.aload_n 0, 1) := by decide +kernel
theorem dL_law_915 : decode cL_law 915 = .ok (.iload_n 3, 1) := by decide +kernel
theorem dL_law_916 : decode cL_law 916 = .ok (.iconst 1, 1) := by decide +kernel
theorem dL_law_917 : decode cL_law 917 = .ok (.iadd, 1) := by decide +kernel
theorem dL_law_918 : decode cL_law 918 = .ok (.iaload, 1) := by decide +kernel
theorem dL_law_919 : decode cL_law 919 = .ok (.aload_n 0, 1) := by decide +kernel
theorem dL_law_920 : decode cL_law 920 = .ok (.iload_n 3, 1) := by decide +kernel
theorem dL_law_921 : decode cL_law 921 = .ok (.iconst 2, 1) := by decide +kernel
theorem dL_law_922 : decode cL_law 922 = .ok (.iadd, 1) := by decide +kernel
theorem dL_law_923 : decode cL_law 923 = .ok (.iaload, 1) := by decide +kernel
theorem dL_law_924 : decode cL_law 924 = .ok (.invokevirtual 107, 3) := by decide +kernel
theorem dL_law_927 : decode cL_law 927 = .ok (.lcmp, 1) := by decide +kernel
theorem dL_law_928 : decode cL_law 928 = .ok (.ifCond .eq 349, 3) := by decide +kernel
theorem dL_law_931 : decode cL_law 931 = .ok (.iconst 0, 1) := by decide +kernel
theorem dL_law_932 : decode cL_law 932 = .ok (.ireturn, 1) := by decide +kernel
theorem dL_law_933 : decode cL_law 933 = .ok (.aload_n 1, 1) := by decide +kernel
theorem dL_law_934 : decode cL_law 934 = .ok (.aload_n 0, 1) := by decide +kernel
theorem dL_law_935 : decode cL_law 935 = .ok (.iload_n 3, 1) := by decide +kernel
theorem dL_law_936 : decode cL_law 936 = .ok (.iconst 1, 1) := by decide +kernel
theorem dL_law_937 : decode cL_law 937 = .ok (.iadd, 1) := by decide +kernel
theorem dL_law_938 : decode cL_law 938 = .ok (.iaload, 1) := by decide +kernel
theorem dL_law_939 : decode cL_law 939 = .ok (.aload_n 0, 1) := by decide +kernel
theorem dL_law_940 : decode cL_law 940 = .ok (.iload_n 3, 1) := by decide +kernel
theorem dL_law_941 : decode cL_law 941 = .ok (.iconst 2, 1) := by decide +kernel
theorem dL_law_942 : decode cL_law 942 = .ok (.iadd, 1) := by decide +kernel
theorem dL_law_943 : decode cL_law 943 = .ok (.iaload, 1) := by decide +kernel
theorem dL_law_944 : decode cL_law 944 = .ok (.aload_n 0, 1) := by decide +kernel
theorem dL_law_945 : decode cL_law 945 = .ok (.iload_n 3, 1) := by decide +kernel
theorem dL_law_946 : decode cL_law 946 = .ok (.iconst 3, 1) := by decide +kernel
theorem dL_law_947 : decode cL_law 947 = .ok (.iadd, 1) := by decide +kernel
theorem dL_law_948 : decode cL_law 948 = .ok (.iaload, 1) := by decide +kernel
theorem dL_law_949 : decode cL_law 949 = .ok (.invokevirtual 108, 3) := by decide +kernel
theorem dL_law_952 : decode cL_law 952 = .ok (.aload_n 2, 1) := by decide +kernel
theorem dL_law_953 : decode cL_law 953 = .ok (.aload_n 0, 1) := by decide +kernel
theorem dL_law_954 : decode cL_law 954 = .ok (.iload_n 3, 1) := by decide +kernel
theorem dL_law_955 : decode cL_law 955 = .ok (.iconst 1, 1) := by decide +kernel
theorem dL_law_956 : decode cL_law 956 = .ok (.iadd, 1) := by decide +kernel
theorem dL_law_957 : decode cL_law 957 = .ok (.iaload, 1) := by decide +kernel
theorem dL_law_958 : decode cL_law 958 = .ok (.aload_n 0, 1) := by decide +kernel
theorem dL_law_959 : decode cL_law 959 = .ok (.iload_n 3, 1) := by decide +kernel
theorem dL_law_960 : decode cL_law 960 = .ok (.iconst 2, 1) := by decide +kernel
theorem dL_law_961 : decode cL_law 961 = .ok (.iadd, 1) := by decide +kernel
theorem dL_law_962 : decode cL_law 962 = .ok (.iaload, 1) := by decide +kernel
theorem dL_law_963 : decode cL_law 963 = .ok (.aload_n 0, 1) := by decide +kernel
theorem dL_law_964 : decode cL_law 964 = .ok (.iload_n 3, 1) := by decide +kernel
theorem dL_law_965 : decode cL_law 965 = .ok (.iconst 3, 1) := by decide +kernel
theorem dL_law_966 : decode cL_law 966 = .ok (.iadd, 1) := by decide +kernel
theorem dL_law_967 : decode cL_law 967 = .ok (.iaload, 1) := by decide +kernel
theorem dL_law_968 : decode cL_law 968 = .ok (.invokevirtual 111, 3) := by decide +kernel
theorem dL_law_971 : decode cL_law 971 = .ok (.if_icmp .eq 306, 3) := by decide +kernel
theorem dL_law_974 : decode cL_law 974 = .ok (.iconst 0, 1) := by decide +kernel
theorem dL_law_975 : decode cL_law 975 = .ok (.ireturn, 1) := by decide +kernel
theorem dL_law_976 : decode cL_law 976 = .ok (.aload_n 1, 1) := by decide +kernel
theorem dL_law_977 : decode cL_law 977 = .ok (.aload_n 0, 1) := by decide +kernel
theorem dL_law_978 : decode cL_law 978 = .ok (.iload_n 3, 1) := by decide +kernel
theorem dL_law_979 : decode cL_law 979 = .ok (.iconst 1, 1) := by decide +kernel
theorem dL_law_980 : decode cL_law 980 = .ok (.iadd, 1) := by decide +kernel
theorem dL_law_981 : decode cL_law 981 = .ok (.iaload, 1) := by decide +kernel
theorem dL_law_982 : decode cL_law 982 = .ok (.invokevirtual 112, 3) := by decide +kernel
theorem dL_law_985 : decode cL_law 985 = .ok (.aload_n 2, 1) := by decide +kernel
theorem dL_law_986 : decode cL_law 986 = .ok (.aload_n 0, 1) := by decide +kernel
theorem dL_law_987 : decode cL_law 987 = .ok (.iload_n 3, 1) := by decide +kernel
theorem dL_law_988 : decode cL_law 988 = .ok (.iconst 1, 1) := by decide +kernel
theorem dL_law_989 : decode cL_law 989 = .ok (.iadd, 1) := by decide +kernel
theorem dL_law_990 : decode cL_law 990 = .ok (.iaload, 1) := by decide +kernel
theorem dL_law_991 : decode cL_law 991 = .ok (.invokevirtual 115, 3) := by decide +kernel
theorem dL_law_994 : decode cL_law 994 = .ok (.if_icmp .eq 283, 3) := by decide +kernel
theorem dL_law_997 : decode cL_law 997 = .ok (.iconst 0, 1) := by decide +kernel
theorem dL_law_998 : decode cL_law 998 = .ok (.ireturn, 1) := by decide +kernel
theorem dL_law_999 : decode cL_law 999 = .ok (.aload_n 1, 1) := by decide +kernel
theorem dL_law_1000 : decode cL_law 1000 = .ok (.aload_n 0, 1) := by decide +kernel
theorem dL_law_1001 : decode cL_law 1001 = .ok (.iload_n 3, 1) := by decide +kernel
theorem dL_law_1002 : decode cL_law 1002 = .ok (.iconst 1, 1) := by decide +kernel
theorem dL_law_1003 : decode cL_law 1003 = .ok (.iadd, 1) := by decide +kernel
theorem dL_law_1004 : decode cL_law 1004 = .ok (.iaload, 1) := by decide +kernel
theorem dL_law_1005 : decode cL_law 1005 = .ok (.aload_n 0, 1) := by decide +kernel
theorem dL_law_1006 : decode cL_law 1006 = .ok (.iload_n 3, 1) := by decide +kernel
theorem dL_law_1007 : decode cL_law 1007 = .ok (.iconst 2, 1) := by decide +kernel
theorem dL_law_1008 : decode cL_law 1008 = .ok (.iadd, 1) := by decide +kernel
theorem dL_law_1009 : decode cL_law 1009 = .ok (.iaload, 1) := by decide +kernel
theorem dL_law_1010 : decode cL_law 1010 = .ok (.aload_n 0, 1) := by decide +kernel
theorem dL_law_1011 : decode cL_law 1011 = .ok (.iload_n 3, 1) := by decide +kernel
theorem dL_law_1012 : decode cL_law 1012 = .ok (.iconst 3, 1) := by decide +kernel
theorem dL_law_1013 : decode cL_law 1013 = .ok (.iadd, 1) := by decide +kernel
theorem dL_law_1014 : decode cL_law 1014 = .ok (.iaload, 1) := by decide +kernel
theorem dL_law_1015 : decode cL_law 1015 = .ok (.invokevirtual 116, 3) := by decide +kernel
theorem dL_law_1018 : decode cL_law 1018 = .ok (.aload_n 2, 1) := by decide +kernel
theorem dL_law_1019 : decode cL_law 1019 = .ok (.aload_n 0, 1) := by decide +kernel
theorem dL_law_1020 : decode cL_law 1020 = .ok (.iload_n 3, 1) := by decide +kernel
theorem dL_law_1021 : decode cL_law 1021 = .ok (.iconst 1, 1) := by decide +kernel
theorem dL_law_1022 : decode cL_law 1022 = .ok (.iadd, 1) := by decide +kernel
theorem dL_law_1023 : decode cL_law 1023 = .ok (.iaload, 1) := by decide +kernel
theorem dL_law_1024 : decode cL_law 1024 = .ok (.aload_n 0, 1) := by decide +kernel
theorem dL_law_1025 : decode cL_law 1025 = .ok (.iload_n 3, 1) := by decide +kernel
theorem dL_law_1026 : decode cL_law 1026 = .ok (.iconst 2, 1) := by decide +kernel
theorem dL_law_1027 : decode cL_law 1027 = .ok (.iadd, 1) := by decide +kernel
theorem dL_law_1028 : decode cL_law 1028 = .ok (.iaload, 1) := by decide +kernel
theorem dL_law_1029 : decode cL_law 1029 = .ok (.aload_n 0, 1) := by decide +kernel
theorem dL_law_1030 : decode cL_law 1030 = .ok (.iload_n 3, 1) := by decide +kernel
theorem dL_law_1031 : decode cL_law 1031 = .ok (.iconst 3, 1) := by decide +kernel
theorem dL_law_1032 : decode cL_law 1032 = .ok (.iadd, 1) := by decide +kernel
theorem dL_law_1033 : decode cL_law 1033 = .ok (.iaload, 1) := by decide +kernel
theorem dL_law_1034 : decode cL_law 1034 = .ok (.invokevirtual 119, 3) := by decide +kernel
theorem dL_law_1037 : decode cL_law 1037 = .ok (.if_icmp .eq 240, 3) := by decide +kernel
theorem dL_law_1040 : decode cL_law 1040 = .ok (.iconst 0, 1) := by decide +kernel
theorem dL_law_1041 : decode cL_law 1041 = .ok (.ireturn, 1) := by decide +kernel
theorem dL_law_1042 : decode cL_law 1042 = .ok (.aload_n 1, 1) := by decide +kernel
theorem dL_law_1043 : decode cL_law 1043 = .ok (.aload_n 0, 1) := by decide +kernel
theorem dL_law_1044 : decode cL_law 1044 = .ok (.iload_n 3, 1) := by decide +kernel
theorem dL_law_1045 : decode cL_law 1045 = .ok (.iconst 1, 1) := by decide +kernel
theorem dL_law_1046 : decode cL_law 1046 = .ok (.iadd, 1) := by decide +kernel
theorem dL_law_1047 : decode cL_law 1047 = .ok (.iaload, 1) := by decide +kernel
theorem dL_law_1048 : decode cL_law 1048 = .ok (.aload_n 0, 1) := by decide +kernel
theorem dL_law_1049 : decode cL_law 1049 = .ok (.iload_n 3, 1) := by decide +kernel
theorem dL_law_1050 : decode cL_law 1050 = .ok (.iconst 2, 1) := by decide +kernel
theorem dL_law_1051 : decode cL_law 1051 = .ok (.iadd, 1) := by decide +kernel
theorem dL_law_1052 : decode cL_law 1052 = .ok (.iaload, 1) := by decide +kernel
theorem dL_law_1053 : decode cL_law 1053 = .ok (.aload_n 0, 1) := by decide +kernel
theorem dL_law_1054 : decode cL_law 1054 = .ok (.iload_n 3, 1) := by decide +kernel
theorem dL_law_1055 : decode cL_law 1055 = .ok (.iconst 3, 1) := by decide +kernel
theorem dL_law_1056 : decode cL_law 1056 = .ok (.iadd, 1) := by decide +kernel
theorem dL_law_1057 : decode cL_law 1057 = .ok (.iaload, 1) := by decide +kernel
theorem dL_law_1058 : decode cL_law 1058 = .ok (.invokevirtual 120, 3) := by decide +kernel
theorem dL_law_1061 : decode cL_law 1061 = .ok (.aload_n 2, 1) := by decide +kernel
theorem dL_law_1062 : decode cL_law 1062 = .ok (.aload_n 0, 1) := by decide +kernel
theorem dL_law_1063 : decode cL_law 1063 = .ok (.iload_n 3, 1) := by decide +kernel
theorem dL_law_1064 : decode cL_law 1064 = .ok (.iconst 1, 1) := by decide +kernel
theorem dL_law_1065 : decode cL_law 1065 = .ok (.iadd, 1) := by decide +kernel
theorem dL_law_1066 : decode cL_law 1066 = .ok (.iaload, 1) := by decide +kernel
theorem dL_law_1067 : decode cL_law 1067 = .ok (.aload_n 0, 1) := by decide +kernel
theorem dL_law_1068 : decode cL_law 1068 = .ok (.iload_n 3, 1) := by decide +kernel
theorem dL_law_1069 : decode cL_law 1069 = .ok (.iconst 2, 1) := by decide +kernel
theorem dL_law_1070 : decode cL_law 1070 = .ok (.iadd, 1) := by decide +kernel
theorem dL_law_1071 : decode cL_law 1071 = .ok (.iaload, 1) := by decide +kernel
theorem dL_law_1072 : decode cL_law 1072 = .ok (.aload_n 0, 1) := by decide +kernel
theorem dL_law_1073 : decode cL_law 1073 = .ok (.iload_n 3, 1) := by decide +kernel
theorem dL_law_1074 : decode cL_law 1074 = .ok (.iconst 3, 1) := by decide +kernel
theorem dL_law_1075 : decode cL_law 1075 = .ok (.iadd, 1) := by decide +kernel
theorem dL_law_1076 : decode cL_law 1076 = .ok (.iaload, 1) := by decide +kernel
theorem dL_law_1077 : decode cL_law 1077 = .ok (.invokevirtual 124, 3) := by decide +kernel
theorem dL_law_1080 : decode cL_law 1080 = .ok (.lcmp, 1) := by decide +kernel
theorem dL_law_1081 : decode cL_law 1081 = .ok (.ifCond .eq 196, 3) := by decide +kernel
theorem dL_law_1084 : decode cL_law 1084 = .ok (.iconst 0, 1) := by decide +kernel
theorem dL_law_1085 : decode cL_law 1085 = .ok (.ireturn, 1) := by decide +kernel
theorem dL_law_1086 : decode cL_law 1086 = .ok (.aload_n 1, 1) := by decide +kernel
theorem dL_law_1087 : decode cL_law 1087 = .ok (.aload_n 0, 1) := by decide +kernel
theorem dL_law_1088 : decode cL_law 1088 = .ok (.iload_n 3, 1) := by decide +kernel
theorem dL_law_1089 : decode cL_law 1089 = .ok (.iconst 1, 1) := by decide +kernel
theorem dL_law_1090 : decode cL_law 1090 = .ok (.iadd, 1) := by decide +kernel
theorem dL_law_1091 : decode cL_law 1091 = .ok (.iaload, 1) := by decide +kernel
theorem dL_law_1092 : decode cL_law 1092 = .ok (.aload_n 0, 1) := by decide +kernel
theorem dL_law_1093 : decode cL_law 1093 = .ok (.iload_n 3, 1) := by decide +kernel
theorem dL_law_1094 : decode cL_law 1094 = .ok (.iconst 2, 1) := by decide +kernel
theorem dL_law_1095 : decode cL_law 1095 = .ok (.iadd, 1) := by decide +kernel
theorem dL_law_1096 : decode cL_law 1096 = .ok (.iaload, 1) := by decide +kernel
theorem dL_law_1097 : decode cL_law 1097 = .ok (.aload_n 0, 1) := by decide +kernel
theorem dL_law_1098 : decode cL_law 1098 = .ok (.iload_n 3, 1) := by decide +kernel
theorem dL_law_1099 : decode cL_law 1099 = .ok (.iconst 3, 1) := by decide +kernel
theorem dL_law_1100 : decode cL_law 1100 = .ok (.iadd, 1) := by decide +kernel
theorem dL_law_1101 : decode cL_law 1101 = .ok (.iaload, 1) := by decide +kernel
theorem dL_law_1102 : decode cL_law 1102 = .ok (.aload_n 0, 1) := by decide +kernel
theorem dL_law_1103 : decode cL_law 1103 = .ok (.iload_n 3, 1) := by decide +kernel
theorem dL_law_1104 : decode cL_law 1104 = .ok (.iconst 4, 1) := by decide +kernel
theorem dL_law_1105 : decode cL_law 1105 = .ok (.iadd, 1) := by decide +kernel
theorem dL_law_1106 : decode cL_law 1106 = .ok (.iaload, 1) := by decide +kernel
theorem dL_law_1107 : decode cL_law 1107 = .ok (.aload_n 0, 1) := by decide +kernel
theorem dL_law_1108 : decode cL_law 1108 = .ok (.iload_n 3, 1) := by decide +kernel
theorem dL_law_1109 : decode cL_law 1109 = .ok (.iconst 5, 1) := by decide +kernel
theorem dL_law_1110 : decode cL_law 1110 = .ok (.iadd, 1) := by decide +kernel
theorem dL_law_1111 : decode cL_law 1111 = .ok (.iaload, 1) := by decide +kernel
theorem dL_law_1112 : decode cL_law 1112 = .ok (.invokevirtual 125, 3) := by decide +kernel
theorem dL_law_1115 : decode cL_law 1115 = .ok (.aload_n 2, 1) := by decide +kernel
theorem dL_law_1116 : decode cL_law 1116 = .ok (.aload_n 0, 1) := by decide +kernel
theorem dL_law_1117 : decode cL_law 1117 = .ok (.iload_n 3, 1) := by decide +kernel
theorem dL_law_1118 : decode cL_law 1118 = .ok (.iconst 1, 1) := by decide +kernel
theorem dL_law_1119 : decode cL_law 1119 = .ok (.iadd, 1) := by decide +kernel
theorem dL_law_1120 : decode cL_law 1120 = .ok (.iaload, 1) := by decide +kernel
theorem dL_law_1121 : decode cL_law 1121 = .ok (.aload_n 0, 1) := by decide +kernel
theorem dL_law_1122 : decode cL_law 1122 = .ok (.iload_n 3, 1) := by decide +kernel
theorem dL_law_1123 : decode cL_law 1123 = .ok (.iconst 2, 1) := by decide +kernel
theorem dL_law_1124 : decode cL_law 1124 = .ok (.iadd, 1) := by decide +kernel
theorem dL_law_1125 : decode cL_law 1125 = .ok (.iaload, 1) := by decide +kernel
theorem dL_law_1126 : decode cL_law 1126 = .ok (.aload_n 0, 1) := by decide +kernel
theorem dL_law_1127 : decode cL_law 1127 = .ok (.iload_n 3, 1) := by decide +kernel
theorem dL_law_1128 : decode cL_law 1128 = .ok (.iconst 3, 1) := by decide +kernel
theorem dL_law_1129 : decode cL_law 1129 = .ok (.iadd, 1) := by decide +kernel
theorem dL_law_1130 : decode cL_law 1130 = .ok (.iaload, 1) := by decide +kernel
theorem dL_law_1131 : decode cL_law 1131 = .ok (.aload_n 0, 1) := by decide +kernel
theorem dL_law_1132 : decode cL_law 1132 = .ok (.iload_n 3, 1) := by decide +kernel
theorem dL_law_1133 : decode cL_law 1133 = .ok (.iconst 4, 1) := by decide +kernel
theorem dL_law_1134 : decode cL_law 1134 = .ok (.iadd, 1) := by decide +kernel
theorem dL_law_1135 : decode cL_law 1135 = .ok (.iaload, 1) := by decide +kernel
theorem dL_law_1136 : decode cL_law 1136 = .ok (.aload_n 0, 1) := by decide +kernel
theorem dL_law_1137 : decode cL_law 1137 = .ok (.iload_n 3, 1) := by decide +kernel
theorem dL_law_1138 : decode cL_law 1138 = .ok (.iconst 5, 1) := by decide +kernel
theorem dL_law_1139 : decode cL_law 1139 = .ok (.iadd, 1) := by decide +kernel
theorem dL_law_1140 : decode cL_law 1140 = .ok (.iaload, 1) := by decide +kernel
theorem dL_law_1141 : decode cL_law 1141 = .ok (.invokevirtual 128, 3) := by decide +kernel
theorem dL_law_1144 : decode cL_law 1144 = .ok (.if_icmp .eq 133, 3) := by decide +kernel
theorem dL_law_1147 : decode cL_law 1147 = .ok (.iconst 0, 1) := by decide +kernel
theorem dL_law_1148 : decode cL_law 1148 = .ok (.ireturn, 1) := by decide +kernel
theorem dL_law_1149 : decode cL_law 1149 = .ok (.aload_n 1, 1) := by decide +kernel
theorem dL_law_1150 : decode cL_law 1150 = .ok (.aload_n 0, 1) := by decide +kernel
theorem dL_law_1151 : decode cL_law 1151 = .ok (.iload_n 3, 1) := by decide +kernel
theorem dL_law_1152 : decode cL_law 1152 = .ok (.iconst 1, 1) := by decide +kernel
theorem dL_law_1153 : decode cL_law 1153 = .ok (.iadd, 1) := by decide +kernel
theorem dL_law_1154 : decode cL_law 1154 = .ok (.iaload, 1) := by decide +kernel
theorem dL_law_1155 : decode cL_law 1155 = .ok (.invokevirtual 129, 3) := by decide +kernel
theorem dL_law_1158 : decode cL_law 1158 = .ok (.aload_n 2, 1) := by decide +kernel
theorem dL_law_1159 : decode cL_law 1159 = .ok (.aload_n 0, 1) := by decide +kernel
theorem dL_law_1160 : decode cL_law 1160 = .ok (.iload_n 3, 1) := by decide +kernel
theorem dL_law_1161 : decode cL_law 1161 = .ok (.iconst 1, 1) := by decide +kernel
theorem dL_law_1162 : decode cL_law 1162 = .ok (.iadd, 1) := by decide +kernel
theorem dL_law_1163 : decode cL_law 1163 = .ok (.iaload, 1) := by decide +kernel
theorem dL_law_1164 : decode cL_law 1164 = .ok (.invokevirtual 132, 3) := by decide +kernel
theorem dL_law_1167 : decode cL_law 1167 = .ok (.if_icmp .eq 110, 3) := by decide +kernel
theorem dL_law_1170 : decode cL_law 1170 = .ok (.iconst 0, 1) := by decide +kernel
theorem dL_law_1171 : decode cL_law 1171 = .ok (.ireturn, 1) := by decide +kernel
theorem dL_law_1172 : decode cL_law 1172 = .ok (.aload_n 1, 1) := by decide +kernel
theorem dL_law_1173 : decode cL_law 1173 = .ok (.aload_n 0, 1) := by decide +kernel
theorem dL_law_1174 : decode cL_law 1174 = .ok (.iload_n 3, 1) := by decide +kernel
theorem dL_law_1175 : decode cL_law 1175 = .ok (.iconst 1, 1) := by decide +kernel
theorem dL_law_1176 : decode cL_law 1176 = .ok (.iadd, 1) := by decide +kernel
theorem dL_law_1177 : decode cL_law 1177 = .ok (.iaload, 1) := by decide +kernel
theorem dL_law_1178 : decode cL_law 1178 = .ok (.invokevirtual 133, 3) := by decide +kernel
theorem dL_law_1181 : decode cL_law 1181 = .ok (.aload_n 2, 1) := by decide +kernel
theorem dL_law_1182 : decode cL_law 1182 = .ok (.aload_n 0, 1) := by decide +kernel
theorem dL_law_1183 : decode cL_law 1183 = .ok (.iload_n 3, 1) := by decide +kernel
theorem dL_law_1184 : decode cL_law 1184 = .ok (.iconst 1, 1) := by decide +kernel
theorem dL_law_1185 : decode cL_law 1185 = .ok (.iadd, 1) := by decide +kernel
theorem dL_law_1186 : decode cL_law 1186 = .ok (.iaload, 1) := by decide +kernel
theorem dL_law_1187 : decode cL_law 1187 = .ok (.invokevirtual 136, 3) := by decide +kernel
theorem dL_law_1190 : decode cL_law 1190 = .ok (.if_icmp .eq 87, 3) := by decide +kernel
theorem dL_law_1193 : decode cL_law 1193 = .ok (.iconst 0, 1) := by decide +kernel
theorem dL_law_1194 : decode cL_law 1194 = .ok (.ireturn, 1) := by decide +kernel
theorem dL_law_1195 : decode cL_law 1195 = .ok (.aload_n 1, 1) := by decide +kernel
theorem dL_law_1196 : decode cL_law 1196 = .ok (.aload_n 0, 1) := by decide +kernel
theorem dL_law_1197 : decode cL_law 1197 = .ok (.iload_n 3, 1) := by decide +kernel
theorem dL_law_1198 : decode cL_law 1198 = .ok (.iconst 1, 1) := by decide +kernel
theorem dL_law_1199 : decode cL_law 1199 = .ok (.iadd, 1) := by decide +kernel
theorem dL_law_1200 : decode cL_law 1200 = .ok (.iaload, 1) := by decide +kernel
theorem dL_law_1201 : decode cL_law 1201 = .ok (.aload_n 0, 1) := by decide +kernel
theorem dL_law_1202 : decode cL_law 1202 = .ok (.iload_n 3, 1) := by decide +kernel
theorem dL_law_1203 : decode cL_law 1203 = .ok (.iconst 2, 1) := by decide +kernel
theorem dL_law_1204 : decode cL_law 1204 = .ok (.iadd, 1) := by decide +kernel
theorem dL_law_1205 : decode cL_law 1205 = .ok (.iaload, 1) := by decide +kernel
theorem dL_law_1206 : decode cL_law 1206 = .ok (.invokevirtual 137, 3) := by decide +kernel
theorem dL_law_1209 : decode cL_law 1209 = .ok (.aload_n 2, 1) := by decide +kernel
theorem dL_law_1210 : decode cL_law 1210 = .ok (.aload_n 0, 1) := by decide +kernel
theorem dL_law_1211 : decode cL_law 1211 = .ok (.iload_n 3, 1) := by decide +kernel
theorem dL_law_1212 : decode cL_law 1212 = .ok (.iconst 1, 1) := by decide +kernel
theorem dL_law_1213 : decode cL_law 1213 = .ok (.iadd, 1) := by decide +kernel
theorem dL_law_1214 : decode cL_law 1214 = .ok (.iaload, 1) := by decide +kernel
theorem dL_law_1215 : decode cL_law 1215 = .ok (.aload_n 0, 1) := by decide +kernel
theorem dL_law_1216 : decode cL_law 1216 = .ok (.iload_n 3, 1) := by decide +kernel
theorem dL_law_1217 : decode cL_law 1217 = .ok (.iconst 2, 1) := by decide +kernel
theorem dL_law_1218 : decode cL_law 1218 = .ok (.iadd, 1) := by decide +kernel
theorem dL_law_1219 : decode cL_law 1219 = .ok (.iaload, 1) := by decide +kernel
theorem dL_law_1220 : decode cL_law 1220 = .ok (.invokevirtual 140, 3) := by decide +kernel
theorem dL_law_1223 : decode cL_law 1223 = .ok (.if_icmp .eq 54, 3) := by decide +kernel
theorem dL_law_1226 : decode cL_law 1226 = .ok (.iconst 0, 1) := by decide +kernel
theorem dL_law_1227 : decode cL_law 1227 = .ok (.ireturn, 1) := by decide +kernel
theorem dL_law_1228 : decode cL_law 1228 = .ok (.aload_n 1, 1) := by decide +kernel
theorem dL_law_1229 : decode cL_law 1229 = .ok (.invokevirtual 141, 3) := by decide +kernel
theorem dL_law_1232 : decode cL_law 1232 = .ok (.aload_n 2, 1) := by decide +kernel
theorem dL_law_1233 : decode cL_law 1233 = .ok (.invokevirtual 145, 3) := by decide +kernel
theorem dL_law_1236 : decode cL_law 1236 = .ok (.if_icmp .eq 41, 3) := by decide +kernel
theorem dL_law_1239 : decode cL_law 1239 = .ok (.iconst 0, 1) := by decide +kernel
theorem dL_law_1240 : decode cL_law 1240 = .ok (.ireturn, 1) := by decide +kernel
theorem dL_law_1241 : decode cL_law 1241 = .ok (.aload_n 1, 1) := by decide +kernel
theorem dL_law_1242 : decode cL_law 1242 = .ok (.invokevirtual 146, 3) := by decide +kernel
theorem dL_law_1245 : decode cL_law 1245 = .ok (.aload_n 2, 1) := by decide +kernel
theorem dL_law_1246 : decode cL_law 1246 = .ok (.invokevirtual 149, 3) := by decide +kernel
theorem dL_law_1249 : decode cL_law 1249 = .ok (.if_icmp .eq 28, 3) := by decide +kernel
theorem dL_law_1252 : decode cL_law 1252 = .ok (.iconst 0, 1) := by decide +kernel
theorem dL_law_1253 : decode cL_law 1253 = .ok (.ireturn, 1) := by decide +kernel
theorem dL_law_1254 : decode cL_law 1254 = .ok (.aload_n 1, 1) := by decide +kernel
theorem dL_law_1255 : decode cL_law 1255 = .ok (.aload_n 0, 1) := by decide +kernel
theorem dL_law_1256 : decode cL_law 1256 = .ok (.iload_n 3, 1) := by decide +kernel
theorem dL_law_1257 : decode cL_law 1257 = .ok (.iconst 1, 1) := by decide +kernel
theorem dL_law_1258 : decode cL_law 1258 = .ok (.iadd, 1) := by decide +kernel
theorem dL_law_1259 : decode cL_law 1259 = .ok (.iaload, 1) := by decide +kernel
theorem dL_law_1260 : decode cL_law 1260 = .ok (.invokevirtual 150, 3) := by decide +kernel
theorem dL_law_1263 : decode cL_law 1263 = .ok (.aload_n 2, 1) := by decide +kernel
theorem dL_law_1264 : decode cL_law 1264 = .ok (.aload_n 0, 1) := by decide +kernel
theorem dL_law_1265 : decode cL_law 1265 = .ok (.iload_n 3, 1) := by decide +kernel
theorem dL_law_1266 : decode cL_law 1266 = .ok (.iconst 1, 1) := by decide +kernel
theorem dL_law_1267 : decode cL_law 1267 = .ok (.iadd, 1) := by decide +kernel
theorem dL_law_1268 : decode cL_law 1268 = .ok (.iaload, 1) := by decide +kernel
theorem dL_law_1269 : decode cL_law 1269 = .ok (.invokevirtual 153, 3) := by decide +kernel
theorem dL_law_1272 : decode cL_law 1272 = .ok (.if_icmp .eq 5, 3) := by decide +kernel
theorem dL_law_1275 : decode cL_law 1275 = .ok (.iconst 0, 1) := by decide +kernel
theorem dL_law_1276 : decode cL_law 1276 = .ok (.ireturn, 1) := by decide +kernel
theorem dL_law_1277 : decode cL_law 1277 = .ok (.iinc 3 6, 3) := by decide +kernel
theorem dL_law_1280 : decode cL_law 1280 = .ok (.goto (-1262), 3) := by decide +kernel
theorem dL_law_1283 : decode cL_law 1283 = .ok (.iconst 1, 1) := by decide +kernel
theorem dL_law_1284 : decode cL_law 1284 = .ok (.ireturn, 1) := by decide +kernel
end
section
/-- the tables' words that a call carries on -/
def gtb : List Cond := lw_tbl.filter goodWord
theorem in_g {w : Cond} (h : w ∈ lw_tbl) (hg : goodWord w = true) : w ∈ gtb := List.mem_filter.mpr ⟨h, hg⟩
/-! the memory: cell, place -> number; the layout of the cells, which no call changes -/
abbrev Mem : Type := Nat → Nat → Int32
def upA (M : Mem) (k : Nat) (f : Nat → Int32) : Mem := fun a => if a = k then f else M a
def up2 (M : Mem) (k j : Nat) (v : Int32) : Mem := upA M k (upd (M k) j v)
theorem upA_same (M : Mem) (k : Nat) (f : Nat → Int32) : upA M k f k = f := if_pos rfl
theorem upA_ne (M : Mem) {k a : Nat} (f : Nat → Int32) (h : a ≠ k) : upA M k f a = M a := if_neg h
abbrev LyE : Type := (Nat × List (Option Nat)) ⊕ (Nat × Nat)
def lyl : List LyE := [.inl (5, [some 1, some 5, some 9, some 13, some 17, some 18, some 22, some 25, none, none]),
  .inl (0, [some 2, some 3, some 4, none, none]),
  .inr (0, 5),
  .inr (0, 5),
  .inr (0, 5),
  .inl (2, [some 6, some 7, some 8, none]),
  .inr (0, 8),
  .inr (0, 8),
  .inr (0, 8),
  .inl (2, [some 10, some 11, some 12, none]),
  .inr (0, 8),
  .inr (0, 8),
  .inr (0, 8),
  .inl (2, [some 14, some 15, some 16, none]),
  .inr (0, 8),
  .inr (0, 8),
  .inr (0, 8),
  .inr (1, 8),
  .inl (1, [some 1, some 5, some 9, some 19, some 20, some 21]),
  .inr (0, 5),
  .inr (0, 5),
  .inr (0, 5),
  .inl (3, [some 1, some 21, some 23, some 24, none, none]),
  .inr (0, 192),
  .inr (0, 5),
  .inr (2, 4),
  .inl (4, [some 30, none, none]),
  .inl (4, [some 31, none, none]),
  .inl (4, [some 32, none, none]),
  .inl (4, [some 33, none, none]),
  .inr (0, 60),
  .inr (0, 60),
  .inr (0, 60),
  .inr (0, 60),
  .inl (6, [none, none, some 35, some 36, some 37, none, none, some 38, some 39, some 40, none, some 41, some 42, some 43, none, some 44, some 45, some 46, none, none, none, none, none, some 47, some 48, some 49, some 50, some 51, none, some 52, some 53, some 54, some 55]),
  .inr (0, 4),
  .inr (0, 4),
  .inr (0, 240),
  .inr (0, 5),
  .inr (0, 5),
  .inr (0, 5),
  .inr (0, 8),
  .inr (0, 8),
  .inr (0, 8),
  .inr (0, 8),
  .inr (0, 8),
  .inr (0, 8),
  .inr (0, 15),
  .inr (0, 5),
  .inr (1, 32),
  .inr (0, 5),
  .inr (0, 5),
  .inr (0, 8),
  .inr (0, 8),
  .inr (0, 8),
  .inr (1, 8)]
theorem ly_0 : lyl[0]? = some (.inl (5, [some 1, some 5, some 9, some 13, some 17, some 18, some 22, some 25, none, none])) := rfl
theorem ly_1 : lyl[1]? = some (.inl (0, [some 2, some 3, some 4, none, none])) := rfl
theorem ly_2 : lyl[2]? = some (.inr (0, 5)) := rfl
theorem ly_3 : lyl[3]? = some (.inr (0, 5)) := rfl
theorem ly_4 : lyl[4]? = some (.inr (0, 5)) := rfl
theorem ly_5 : lyl[5]? = some (.inl (2, [some 6, some 7, some 8, none])) := rfl
theorem ly_6 : lyl[6]? = some (.inr (0, 8)) := rfl
theorem ly_7 : lyl[7]? = some (.inr (0, 8)) := rfl
theorem ly_8 : lyl[8]? = some (.inr (0, 8)) := rfl
theorem ly_9 : lyl[9]? = some (.inl (2, [some 10, some 11, some 12, none])) := rfl
theorem ly_10 : lyl[10]? = some (.inr (0, 8)) := rfl
theorem ly_11 : lyl[11]? = some (.inr (0, 8)) := rfl
theorem ly_12 : lyl[12]? = some (.inr (0, 8)) := rfl
theorem ly_13 : lyl[13]? = some (.inl (2, [some 14, some 15, some 16, none])) := rfl
theorem ly_14 : lyl[14]? = some (.inr (0, 8)) := rfl
theorem ly_15 : lyl[15]? = some (.inr (0, 8)) := rfl
theorem ly_16 : lyl[16]? = some (.inr (0, 8)) := rfl
theorem ly_17 : lyl[17]? = some (.inr (1, 8)) := rfl
theorem ly_18 : lyl[18]? = some (.inl (1, [some 1, some 5, some 9, some 19, some 20, some 21])) := rfl
theorem ly_19 : lyl[19]? = some (.inr (0, 5)) := rfl
theorem ly_20 : lyl[20]? = some (.inr (0, 5)) := rfl
theorem ly_21 : lyl[21]? = some (.inr (0, 5)) := rfl
theorem ly_22 : lyl[22]? = some (.inl (3, [some 1, some 21, some 23, some 24, none, none])) := rfl
theorem ly_23 : lyl[23]? = some (.inr (0, 192)) := rfl
theorem ly_24 : lyl[24]? = some (.inr (0, 5)) := rfl
theorem ly_25 : lyl[25]? = some (.inr (2, 4)) := rfl
theorem ly_26 : lyl[26]? = some (.inl (4, [some 30, none, none])) := rfl
theorem ly_27 : lyl[27]? = some (.inl (4, [some 31, none, none])) := rfl
theorem ly_28 : lyl[28]? = some (.inl (4, [some 32, none, none])) := rfl
theorem ly_29 : lyl[29]? = some (.inl (4, [some 33, none, none])) := rfl
theorem ly_30 : lyl[30]? = some (.inr (0, 60)) := rfl
theorem ly_31 : lyl[31]? = some (.inr (0, 60)) := rfl
theorem ly_32 : lyl[32]? = some (.inr (0, 60)) := rfl
theorem ly_33 : lyl[33]? = some (.inr (0, 60)) := rfl
theorem ly_34 : lyl[34]? = some (.inl (6, [none, none, some 35, some 36, some 37, none, none, some 38, some 39, some 40, none, some 41, some 42, some 43, none, some 44, some 45, some 46, none, none, none, none, none, some 47, some 48, some 49, some 50, some 51, none, some 52, some 53, some 54, some 55])) := rfl
theorem ly_35 : lyl[35]? = some (.inr (0, 4)) := rfl
theorem ly_36 : lyl[36]? = some (.inr (0, 4)) := rfl
theorem ly_37 : lyl[37]? = some (.inr (0, 240)) := rfl
theorem ly_38 : lyl[38]? = some (.inr (0, 5)) := rfl
theorem ly_39 : lyl[39]? = some (.inr (0, 5)) := rfl
theorem ly_40 : lyl[40]? = some (.inr (0, 5)) := rfl
theorem ly_41 : lyl[41]? = some (.inr (0, 8)) := rfl
theorem ly_42 : lyl[42]? = some (.inr (0, 8)) := rfl
theorem ly_43 : lyl[43]? = some (.inr (0, 8)) := rfl
theorem ly_44 : lyl[44]? = some (.inr (0, 8)) := rfl
theorem ly_45 : lyl[45]? = some (.inr (0, 8)) := rfl
theorem ly_46 : lyl[46]? = some (.inr (0, 8)) := rfl
theorem ly_47 : lyl[47]? = some (.inr (0, 15)) := rfl
theorem ly_48 : lyl[48]? = some (.inr (0, 5)) := rfl
theorem ly_49 : lyl[49]? = some (.inr (1, 32)) := rfl
theorem ly_50 : lyl[50]? = some (.inr (0, 5)) := rfl
theorem ly_51 : lyl[51]? = some (.inr (0, 5)) := rfl
theorem ly_52 : lyl[52]? = some (.inr (0, 8)) := rfl
theorem ly_53 : lyl[53]? = some (.inr (0, 8)) := rfl
theorem ly_54 : lyl[54]? = some (.inr (0, 8)) := rfl
theorem ly_55 : lyl[55]? = some (.inr (1, 8)) := rfl
abbrev CS3 : Type := ClassId × ClassId × ClassId
def ceF (ad : Nat → Nat) (f : Nat → Int32) : Nat → List (Option Nat) → List Value
  | _, [] => []
  | j, none :: l => .int (f j) :: ceF ad f (j + 1) l
  | j, some t :: l => .ref (ad t) :: ceF ad f (j + 1) l
def ceE (cs : CS3) (ad : Nat → Nat) (f : Nat → Int32) (q : LyE) : va_E := match q with
  | .inl (ci, fl) => .inr (ci, ceF ad f 0 fl)
  | .inr (0, n) => .inl (cs.1, n, .inl f)
  | .inr (1, n) => .inl (cs.2.1, n, .inl f)
  | .inr (_, n) => .inl (cs.2.2, n, .inr (.inr (.inr (.inr (fun j => some (ad (26 + j)))))))
def wld (cs : CS3) (ad : Nat → Nat) (M : Mem) : va_W := lyl.mapIdx (fun k q => (ad k, ceE cs ad (M k) q))
theorem wld_at (cs : CS3) (ad : Nat → Nat) (M : Mem) (k : Nat) : (wld cs ad M)[k]? = (lyl[k]?).map (fun q => (ad k, ceE cs ad (M k) q)) := by
  simp [wld, List.getElem?_mapIdx]
theorem wld_get {cs : CS3} {ad : Nat → Nat} {M : Mem} {k : Nat} {q : LyE} (h : lyl[k]? = some q) : (wld cs ad M)[k]? = some (ad k, ceE cs ad (M k) q) := by
  rw [wld_at, h]; rfl
theorem wld_set {cs : CS3} {ad : Nat → Nat} {M : Mem} {k : Nat} {q : LyE} (f : Nat → Int32) (h : lyl[k]? = some q) : (wld cs ad M).set k (ad k, ceE cs ad f q) = wld cs ad (upA M k f) := by
  apply List.ext_getElem?
  intro i
  rw [List.getElem?_set, wld_at, wld_at]
  by_cases e : k = i
  · subst e
    have hl : k < (wld cs ad M).length := by
      have h1 := (List.getElem?_eq_some_iff.mp h).1
      simpa [wld] using h1
    rw [if_pos rfl, if_pos hl, h, upA_same]; rfl
  · rw [if_neg e, upA_ne _ _ (fun q => e q.symm)]
theorem ceF_congr {ad : Nat → Nat} {f g : Nat → Int32} : ∀ (fl : List (Option Nat)) (o : Nat), (∀ j, o ≤ j → f j = g j) → ceF ad f o fl = ceF ad g o fl
  | [], _, _ => rfl
  | none :: l, o, h => by
    simp only [ceF]
    rw [h o (Nat.le_refl o), ceF_congr l (o + 1) (fun j hj => h j (by omega))]
  | some t :: l, o, h => by
    simp only [ceF]
    rw [ceF_congr l (o + 1) (fun j hj => h j (by omega))]
theorem ceF_get {ad : Nat → Nat} {f : Nat → Int32} : ∀ (fl : List (Option Nat)) (o j : Nat), fl[j]? = some none → (ceF ad f o fl)[j]? = some (.int (f (o + j)))
  | [], _, _, h => by simp at h
  | none :: l, o, 0, h => by simp [ceF]
  | some t :: l, o, 0, h => by simp at h
  | none :: l, o, j + 1, h => by
    have h1 := ceF_get (ad := ad) (f := f) l (o + 1) j (by simpa using h)
    simp only [ceF, List.getElem?_cons_succ]
    rw [h1, show o + 1 + j = o + (j + 1) by omega]
  | some t :: l, o, j + 1, h => by
    have h1 := ceF_get (ad := ad) (f := f) l (o + 1) j (by simpa using h)
    simp only [ceF, List.getElem?_cons_succ]
    rw [h1, show o + 1 + j = o + (j + 1) by omega]
theorem ceF_ref {ad : Nat → Nat} {f : Nat → Int32} {t : Nat} : ∀ (fl : List (Option Nat)) (o j : Nat), fl[j]? = some (some t) → (ceF ad f o fl)[j]? = some (.ref (ad t))
  | [], _, _, h => by simp at h
  | none :: l, o, 0, h => by simp at h
  | some t' :: l, o, 0, h => by
    have e : t' = t := by simpa using h
    simp [ceF, e]
  | none :: l, o, j + 1, h => by
    simp only [ceF, List.getElem?_cons_succ]
    exact ceF_ref l (o + 1) j (by simpa using h)
  | some t' :: l, o, j + 1, h => by
    simp only [ceF, List.getElem?_cons_succ]
    exact ceF_ref l (o + 1) j (by simpa using h)
theorem ceF_set {ad : Nat → Nat} {f : Nat → Int32} {v : Int32} : ∀ (fl : List (Option Nat)) (o j : Nat), fl[j]? = some none → (ceF ad f o fl).set j (.int v) = ceF ad (upd f (o + j) v) o fl
  | [], _, _, h => by simp at h
  | none :: l, o, 0, h => by
    simp only [ceF, List.set_cons_zero, Nat.add_zero]
    rw [show upd f o v o = v from if_pos rfl, ceF_congr (g := upd f o v) l (o + 1) (fun j hj => (if_neg (by omega)).symm)]
  | some t :: l, o, 0, h => by simp at h
  | none :: l, o, j + 1, h => by
    simp only [ceF, List.set_cons_succ]
    rw [ceF_set l (o + 1) j (by simpa using h), show o + 1 + j = o + (j + 1) by omega, show upd f (o + (j + 1)) v o = f o from if_neg (by omega)]
  | some t :: l, o, j + 1, h => by
    simp only [ceF, List.set_cons_succ]
    rw [ceF_set l (o + 1) j (by simpa using h), show o + 1 + j = o + (j + 1) by omega]
theorem ceF_len {ad : Nat → Nat} {f : Nat → Int32} : ∀ (fl : List (Option Nat)) (o : Nat), (ceF ad f o fl).length = fl.length
  | [], _ => rfl
  | none :: l, o => by simp only [ceF, List.length_cons]; rw [ceF_len l (o + 1)]
  | some t :: l, o => by simp only [ceF, List.length_cons]; rw [ceF_len l (o + 1)]
def adI (ad : Nat → Nat) : Prop := ∀ i j, i < 56 → j < 56 → ad i = ad j → i = j
def AW (ad : Nat → Nat) : Nat → Prop := fun q => ∃ k, k < 56 ∧ q = ad k
theorem wld_inv {cs : CS3} {ad : Nat → Nat} {M : Mem} {k : Nat} {p : Nat × va_E} (h : (wld cs ad M)[k]? = some p) : k < 56 ∧ p.1 = ad k := by
  rw [wld_at] at h
  cases hq : lyl[k]? with
  | none => rw [hq] at h; simp at h
  | some q =>
    rw [hq] at h
    have h1 : k < lyl.length := (List.getElem?_eq_some_iff.mp hq).1
    have h2 : lyl.length = 56 := rfl
    have h3 : (ad k, ceE cs ad (M k) q) = p := by simpa using h
    exact ⟨by omega, by rw [← h3]⟩
theorem wld_D {cs : CS3} {ad : Nat → Nat} {M : Mem} {A : Nat → Prop} (hi : adI ad) (hA : ∀ q, AW ad q → A q) : va_D A (wld cs ad M) := by
  refine ⟨fun i j p q h1 h2 e => ?_, fun k q h => ?_⟩
  · obtain ⟨a1, a2⟩ := wld_inv h1
    obtain ⟨b1, b2⟩ := wld_inv h2
    exact hi i j a1 b1 (by rw [← a2, ← b2]; exact e)
  · obtain ⟨a1, a2⟩ := wld_inv h
    rw [a2]
    exact hA _ ⟨k, a1, rfl⟩
/-! the locals -/
def lh (ls : Array Slot) (nL : Nat) (L : List (Option Value)) : Prop := L.length = nL ∧ ls.size = nL ∧ lv_wf ls ∧ ∀ (i : Nat) (v : Value), L[i]? = some (some v) → ls[i]? = some (.val v)
def lA (L : List (Option Value)) : List (Nat × Value) := (List.range L.length).filterMap (fun i => (L[i]?.join).map (fun v => (i, v)))
theorem lA_mem {L : List (Option Value)} {i : Nat} {v : Value} : (i, v) ∈ lA L ↔ L[i]? = some (some v) := by
  unfold lA
  rw [List.mem_filterMap]
  constructor
  · rintro ⟨j, hj, h⟩
    cases hq : L[j]? with
    | none => rw [hq] at h; simp at h
    | some o =>
      cases o with
      | none => rw [hq] at h; simp at h
      | some w =>
        rw [hq] at h
        have e : j = i ∧ w = v := by simpa using h
        obtain ⟨rfl, rfl⟩ := e
        exact hq
  · intro h
    exact ⟨i, List.mem_range.mpr (List.getElem?_eq_some_iff.mp h).1, by rw [h]; rfl⟩
theorem lh.has {ls : Array Slot} {nL : Nat} {L : List (Option Value)} (h : lh ls nL L) : lv_has ls nL (lA L) := ⟨h.2.1, h.2.2.1, fun q hq => h.2.2.2 q.1 q.2 (lA_mem.mp hq)⟩
/-- no long stands just ahead of place i -/
def lfr (L : List (Option Value)) : Nat → Bool
  | 0 => true
  | i + 1 => match L[i]? with
    | some (some (.long _)) => false
    | some (some (.double _)) => false
    | _ => true
theorem lfr_cat {L : List (Option Value)} {i j : Nat} {v : Value} (h : lfr L i = true) (hj : L[j]? = some (some v)) (e : j + 1 = i) : ¬ v.category = 2 := by
  subst e
  simp only [lfr, hj] at h
  cases v <;> simp_all [Value.category]
theorem lh.set1 {ls ls' : Array Slot} {nL i : Nat} {x : Value} {L : List (Option Value)} (h : lh ls nL L) (hf : lfr L i = true) (h' : lv_has ls' nL ((i, x) :: (lA L).filter (fun q => !(q.1 == i) && !(q.1 + 1 == i && q.2.category == 2)))) : lh ls' nL (L.set i (some x)) := by
  refine ⟨by rw [List.length_set]; exact h.1, h'.1, h'.2.1, fun j v hj => ?_⟩
  rw [List.getElem?_set] at hj
  by_cases e : i = j
  · rw [if_pos e] at hj
    subst e
    by_cases hl : i < L.length
    · rw [if_pos hl] at hj
      have e2 : x = v := by simpa using hj
      subst e2
      exact h'.2.2 (i, x) List.mem_cons_self
    · rw [if_neg hl] at hj
      cases hj
  · rw [if_neg e] at hj
    refine h'.2.2 (j, v) (List.mem_cons_of_mem _ (List.mem_filter.mpr ⟨lA_mem.mpr hj, ?_⟩))
    have hne : ¬ j = i := fun q => e q.symm
    by_cases e2 : j + 1 = i
    · have := lfr_cat hf hj e2
      simp [hne, this]
    · simp [hne, e2]
theorem lh.set2 {ls ls' : Array Slot} {nL i : Nat} {x : Value} {L : List (Option Value)} (h : lh ls nL L) (hf : lfr L i = true) (h' : lv_has ls' nL ((i, x) :: (lA L).filter (fun q => !(q.1 == i) && (!(q.1 == i + 1) && !(q.1 + 1 == i && q.2.category == 2))))) : lh ls' nL ((L.set i (some x)).set (i + 1) none) := by
  refine ⟨by rw [List.length_set, List.length_set]; exact h.1, h'.1, h'.2.1, fun j v hj => ?_⟩
  rw [List.getElem?_set] at hj
  by_cases e1 : i + 1 = j
  · rw [if_pos e1] at hj
    split at hj <;> cases hj
  · rw [if_neg e1, List.getElem?_set] at hj
    by_cases e : i = j
    · rw [if_pos e] at hj
      subst e
      by_cases hl : i < L.length
      · rw [if_pos hl] at hj
        have e2 : x = v := by simpa using hj
        subst e2
        exact h'.2.2 (i, x) List.mem_cons_self
      · rw [if_neg hl] at hj
        cases hj
    · rw [if_neg e] at hj
      refine h'.2.2 (j, v) (List.mem_cons_of_mem _ (List.mem_filter.mpr ⟨lA_mem.mpr hj, ?_⟩))
      have hne : ¬ j = i := fun q => e q.symm
      have hne1 : ¬ j = i + 1 := fun q => e1 q.symm
      by_cases e2 : j + 1 = i
      · have := lfr_cat hf hj e2
        simp [hne, hne1, this]
      · simp [hne, hne1, e2]
/-- fewer known locals -/
def lsub : List (Option Value) → List (Option Value) → Prop
  | [], [] => True
  | none :: l', _ :: l => lsub l' l
  | some v :: l', some w :: l => v = w ∧ lsub l' l
  | _, _ => False
theorem lsub_ok : ∀ (L' L : List (Option Value)), lsub L' L → L'.length = L.length ∧ ∀ (i : Nat) (v : Value), L'[i]? = some (some v) → L[i]? = some (some v)
  | [], [], _ => ⟨rfl, fun i v h => h⟩
  | [], _ :: _, h => h.elim
  | none :: l', [], h => h.elim
  | some _ :: l', [], h => h.elim
  | none :: l', x :: l, h => by
    have ih := lsub_ok l' l (by cases x <;> exact h)
    refine ⟨by simp [ih.1], fun i v hi => ?_⟩
    cases i with
    | zero => simp at hi
    | succ i => simpa using ih.2 i v (by simpa using hi)
  | some w :: l', none :: l, h => h.elim
  | some w :: l', some x :: l, h => by
    have ih := lsub_ok l' l h.2
    refine ⟨by simp [ih.1], fun i v hi => ?_⟩
    cases i with
    | zero =>
      have e := h.1
      subst e
      exact hi
    | succ i => simpa using ih.2 i v (by simpa using hi)
theorem lh.sub {ls : Array Slot} {nL : Nat} {L L' : List (Option Value)} (h : lh ls nL L) (hs : lsub L' L) : lh ls nL L' :=
  ⟨(lsub_ok L' L hs).1.trans h.1, h.2.1, h.2.2.1, fun i v hi => h.2.2.2 i v ((lsub_ok L' L hs).2 i v hi)⟩
def lvL : List Value → List (Option Value)
  | [] => []
  | v :: vs => if v.category = 2 then some v :: none :: lvL vs else some v :: lvL vs
theorem lvL_in : ∀ (vs : List Value) (o i : Nat) (v : Value), (lvL vs)[i]? = some (some v) → (o + i, v) ∈ lv_args o vs
  | [], _, _, _, h => by simp [lvL] at h
  | w :: vs, o, i, v, h => by
    by_cases hc : w.category = 2
    · simp only [lvL, if_pos hc] at h
      simp only [lv_args, if_pos hc]
      match i, h with
      | 0, h =>
        have e : w = v := by simpa using h
        subst e
        exact List.mem_cons_self
      | 1, h => simp at h
      | i + 2, h =>
        have := lvL_in vs (o + 2) i v (by simpa using h)
        rw [show o + 2 + i = o + (i + 2) by omega] at this
        exact List.mem_cons_of_mem _ this
    · simp only [lvL, if_neg hc] at h
      simp only [lv_args, if_neg hc]
      match i, h with
      | 0, h =>
        have e : w = v := by simpa using h
        subst e
        exact List.mem_cons_self
      | i + 1, h =>
        have := lvL_in vs (o + 1) i v (by simpa using h)
        rw [show o + 1 + i = o + (i + 1) by omega] at this
        exact List.mem_cons_of_mem _ this
/-! the judgement -/
abbrev CT : Type := (Program × Launch × Env × Room × State × MethodId × Array Value × List Frame × Method × Code) × ((Nat → Prop) × (Nat → Nat) × CS3 × va_G × Nat × Nat × (State → Prop))
def adX (X : CT) : Nat → Nat := X.2.2.1
def csX (X : CT) : CS3 := X.2.2.2.1
def dgX (X : CT) : va_G := X.2.2.2.2.1
def lnX (X : CT) : Launch := X.1.2.1
def tyS (cs : CS3) : List (ClassId × FieldType) := [(cs.1, .int), (cs.2.1, .boolean), (cs.2.2, .object "ChairGrudge$Sheet")]
def Z (X : CT) (M : Mem) (pc : Nat) (L : List (Option Value)) (st : List Value) : Prop := match X with
  | ((p, l, e, R, s, m, args, below, meth, c), (A, ad, cs, D, cells, slots, Q)) => ∀ (H : Heap) (locs : List Loc) (ls : Array Slot), va_P D vwCl (wld cs ad M) H → va_S A s.heap H locs → lh ls c.maxLocals L → W p l e R s m args below meth c H locs cells slots Q (F0 m pc ls st)
def okX (X : CT) (own : String) (cc : ByteArray) (f lo : Nat) : Prop := match X with
  | ((p, _, _, R, s, m, args, _, _, c), (A, ad, cs, D, cells, slots, _)) => p.tables.exec = Jvm.exec ∧ c.code = cc ∧ s.vm.findClass own = some m.cls ∧ (∀ w ∈ gtb, w.before args s = true) ∧ va_K D vwCl (tyS cs) s ∧ (adI ad ∧ ∀ q, AW ad q → A q) ∧ (R.frames = f ∧ R.locals = lo ∧ cells ≤ R.cells ∧ slots ≤ R.slots)
def RetI (X : CT) (cb : ByteArray) (r : Int32) (M : Mem) : Prop := match X with
  | ((p, l, e, R, s, m, args, below, meth, c), (A, ad, cs, D, cells, slots, Q)) => ∀ (pc : Nat) (ls : Array Slot) (H : Heap) (locs : List Loc), decode cb pc = .ok (.ireturn, 1) → va_P D vwCl (wld cs ad M) H → va_S A s.heap H locs → W p l e R s m args below meth c H locs cells slots Q (F0 m pc ls [.int r])
def RetL (X : CT) (cb : ByteArray) (r : Int64) (M : Mem) : Prop := match X with
  | ((p, l, e, R, s, m, args, below, meth, c), (A, ad, cs, D, cells, slots, Q)) => ∀ (pc : Nat) (ls : Array Slot) (H : Heap) (locs : List Loc), decode cb pc = .ok (.lreturn, 1) → va_P D vwCl (wld cs ad M) H → va_S A s.heap H locs → W p l e R s m args below meth c H locs cells slots Q (F0 m pc ls [.long r])
def RetV (X : CT) (cb : ByteArray) (M : Mem) : Prop := match X with
  | ((p, l, e, R, s, m, args, below, meth, c), (A, ad, cs, D, cells, slots, Q)) => ∀ (pc : Nat) (ls : Array Slot) (H : Heap) (locs : List Loc), decode cb pc = .ok (.return_, 1) → va_P D vwCl (wld cs ad M) H → va_S A s.heap H locs → W p l e R s m args below meth c H locs cells slots Q (F0 m pc ls [])

theorem r_iconst {X : CT} {own : String} {cc : ByteArray} {f lo : Nat} {M : Mem} {pc : Nat} {L : List (Option Value)} {st : List Value} (hX : okX X own cc f lo) {n : Int} {v : Int32} (hd : decode cc pc = .ok (.iconst n, 1)) (hv : Int32.ofInt n = v) (k : Z X M (pc + 1) L (.int v :: st)) : Z X M pc L (st) := by
  obtain ⟨⟨p, l, e, R, s, m, args, below, meth, c⟩, A, ad, cs, D, cells, slots, Q⟩ := X
  obtain ⟨hx, hb, hown, hts, hK, hA, hR⟩ := hX
  intro H locs ls hP hS hl
  exact lv_iconst hx hb hd hv (k H locs ls hP hS hl)
theorem r_bipush {X : CT} {own : String} {cc : ByteArray} {f lo : Nat} {M : Mem} {pc : Nat} {L : List (Option Value)} {st : List Value} (hX : okX X own cc f lo) {n : Int} {v : Int32} (hd : decode cc pc = .ok (.bipush n, 2)) (hv : (Int8.ofInt n).toInt32 = v) (k : Z X M (pc + 2) L (.int v :: st)) : Z X M pc L (st) := by
  obtain ⟨⟨p, l, e, R, s, m, args, below, meth, c⟩, A, ad, cs, D, cells, slots, Q⟩ := X
  obtain ⟨hx, hb, hown, hts, hK, hA, hR⟩ := hX
  intro H locs ls hP hS hl
  exact lv_bipush hx hb hd hv (k H locs ls hP hS hl)
theorem r_sipush {X : CT} {own : String} {cc : ByteArray} {f lo : Nat} {M : Mem} {pc : Nat} {L : List (Option Value)} {st : List Value} (hX : okX X own cc f lo) {n : Int} {v : Int32} (hd : decode cc pc = .ok (.sipush n, 3)) (hv : (Int16.ofInt n).toInt32 = v) (k : Z X M (pc + 3) L (.int v :: st)) : Z X M pc L (st) := by
  obtain ⟨⟨p, l, e, R, s, m, args, below, meth, c⟩, A, ad, cs, D, cells, slots, Q⟩ := X
  obtain ⟨hx, hb, hown, hts, hK, hA, hR⟩ := hX
  intro H locs ls hP hS hl
  exact lv_sipush hx hb hd hv (k H locs ls hP hS hl)
theorem r_lconst {X : CT} {own : String} {cc : ByteArray} {f lo : Nat} {M : Mem} {pc : Nat} {L : List (Option Value)} {st : List Value} (hX : okX X own cc f lo) {n : Fin 2} {v : Int64} (hd : decode cc pc = .ok (.lconst n, 1)) (hv : Int64.ofNat (n : Nat) = v) (k : Z X M (pc + 1) L (.long v :: st)) : Z X M pc L (st) := by
  obtain ⟨⟨p, l, e, R, s, m, args, below, meth, c⟩, A, ad, cs, D, cells, slots, Q⟩ := X
  obtain ⟨hx, hb, hown, hts, hK, hA, hR⟩ := hX
  intro H locs ls hP hS hl
  exact lv_lconst hx hb hd hv (k H locs ls hP hS hl)
theorem r_ldcw {X : CT} {own : String} {cc : ByteArray} {f lo : Nat} {M : Mem} {pc : Nat} {L : List (Option Value)} {st : List Value} (hX : okX X own cc f lo) {i : Nat} {v : Int32} (hw : Cond.constant own i v ∈ gtb) (hd : decode cc pc = .ok (.ldc_w i, 3)) (k : Z X M (pc + 3) L (.int v :: st)) : Z X M pc L (st) := by
  obtain ⟨⟨p, l, e, R, s, m, args, below, meth, c⟩, A, ad, cs, D, cells, slots, Q⟩ := X
  obtain ⟨hx, hb, hown, hts, hK, hA, hR⟩ := hX
  intro H locs ls hP hS hl
  exact lv_ldcw hx hb hown (hts _ hw) hd (k H locs ls hP hS hl)
theorem r_ldc2 {X : CT} {own : String} {cc : ByteArray} {f lo : Nat} {M : Mem} {pc : Nat} {L : List (Option Value)} {st : List Value} (hX : okX X own cc f lo) {i : Nat} {v : Int64} (hw : Cond.constantLong own i v ∈ gtb) (hd : decode cc pc = .ok (.ldc2_w i, 3)) (k : Z X M (pc + 3) L (.long v :: st)) : Z X M pc L (st) := by
  obtain ⟨⟨p, l, e, R, s, m, args, below, meth, c⟩, A, ad, cs, D, cells, slots, Q⟩ := X
  obtain ⟨hx, hb, hown, hts, hK, hA, hR⟩ := hX
  intro H locs ls hP hS hl
  exact lv_ldc2 hx hb hown (hts _ hw) hd (k H locs ls hP hS hl)
theorem r_iload_n {X : CT} {own : String} {cc : ByteArray} {f lo : Nat} {M : Mem} {pc : Nat} {L : List (Option Value)} {st : List Value} (hX : okX X own cc f lo) {k : Fin 4} {i : Nat} {x : Int32} (hd : decode cc pc = .ok (.iload_n k, 1)) (hi : (k : Nat) = i) (hL : L[i]? = some (some (.int x))) (k : Z X M (pc + 1) L (.int x :: st)) : Z X M pc L (st) := by
  obtain ⟨⟨p, l, e, R, s, m, args, below, meth, c⟩, A, ad, cs, D, cells, slots, Q⟩ := X
  obtain ⟨hx, hb, hown, hts, hK, hA, hR⟩ := hX
  intro H locs ls hP hS hl
  exact lv_iload_n hx hb hd hi (hl.2.2.2 _ _ hL) (k H locs ls hP hS hl)
theorem r_iload {X : CT} {own : String} {cc : ByteArray} {f lo : Nat} {M : Mem} {pc : Nat} {L : List (Option Value)} {st : List Value} (hX : okX X own cc f lo) {i : Nat} {x : Int32} (hd : decode cc pc = .ok (.iload i, 2)) (hL : L[i]? = some (some (.int x))) (k : Z X M (pc + 2) L (.int x :: st)) : Z X M pc L (st) := by
  obtain ⟨⟨p, l, e, R, s, m, args, below, meth, c⟩, A, ad, cs, D, cells, slots, Q⟩ := X
  obtain ⟨hx, hb, hown, hts, hK, hA, hR⟩ := hX
  intro H locs ls hP hS hl
  exact lv_iload hx hb hd (hl.2.2.2 _ _ hL) (k H locs ls hP hS hl)
theorem r_lload_n {X : CT} {own : String} {cc : ByteArray} {f lo : Nat} {M : Mem} {pc : Nat} {L : List (Option Value)} {st : List Value} (hX : okX X own cc f lo) {k : Fin 4} {i : Nat} {x : Int64} (hd : decode cc pc = .ok (.lload_n k, 1)) (hi : (k : Nat) = i) (hL : L[i]? = some (some (.long x))) (k : Z X M (pc + 1) L (.long x :: st)) : Z X M pc L (st) := by
  obtain ⟨⟨p, l, e, R, s, m, args, below, meth, c⟩, A, ad, cs, D, cells, slots, Q⟩ := X
  obtain ⟨hx, hb, hown, hts, hK, hA, hR⟩ := hX
  intro H locs ls hP hS hl
  exact lv_lload_n hx hb hd hi (hl.2.2.2 _ _ hL) (k H locs ls hP hS hl)
theorem r_lload {X : CT} {own : String} {cc : ByteArray} {f lo : Nat} {M : Mem} {pc : Nat} {L : List (Option Value)} {st : List Value} (hX : okX X own cc f lo) {i : Nat} {x : Int64} (hd : decode cc pc = .ok (.lload i, 2)) (hL : L[i]? = some (some (.long x))) (k : Z X M (pc + 2) L (.long x :: st)) : Z X M pc L (st) := by
  obtain ⟨⟨p, l, e, R, s, m, args, below, meth, c⟩, A, ad, cs, D, cells, slots, Q⟩ := X
  obtain ⟨hx, hb, hown, hts, hK, hA, hR⟩ := hX
  intro H locs ls hP hS hl
  exact lv_lload hx hb hd (hl.2.2.2 _ _ hL) (k H locs ls hP hS hl)
theorem r_aload_n {X : CT} {own : String} {cc : ByteArray} {f lo : Nat} {M : Mem} {pc : Nat} {L : List (Option Value)} {st : List Value} (hX : okX X own cc f lo) {k : Fin 4} {i : Nat} {x : Nat} (hd : decode cc pc = .ok (.aload_n k, 1)) (hi : (k : Nat) = i) (hL : L[i]? = some (some (.ref x))) (k : Z X M (pc + 1) L (.ref x :: st)) : Z X M pc L (st) := by
  obtain ⟨⟨p, l, e, R, s, m, args, below, meth, c⟩, A, ad, cs, D, cells, slots, Q⟩ := X
  obtain ⟨hx, hb, hown, hts, hK, hA, hR⟩ := hX
  intro H locs ls hP hS hl
  exact lv_aload_n hx hb hd hi (hl.2.2.2 _ _ hL) (k H locs ls hP hS hl)
theorem r_aload {X : CT} {own : String} {cc : ByteArray} {f lo : Nat} {M : Mem} {pc : Nat} {L : List (Option Value)} {st : List Value} (hX : okX X own cc f lo) {i : Nat} {x : Nat} (hd : decode cc pc = .ok (.aload i, 2)) (hL : L[i]? = some (some (.ref x))) (k : Z X M (pc + 2) L (.ref x :: st)) : Z X M pc L (st) := by
  obtain ⟨⟨p, l, e, R, s, m, args, below, meth, c⟩, A, ad, cs, D, cells, slots, Q⟩ := X
  obtain ⟨hx, hb, hown, hts, hK, hA, hR⟩ := hX
  intro H locs ls hP hS hl
  exact lv_aload hx hb hd (hl.2.2.2 _ _ hL) (k H locs ls hP hS hl)
theorem r_istore_n {X : CT} {own : String} {cc : ByteArray} {f lo : Nat} {M : Mem} {pc : Nat} {L : List (Option Value)} {st : List Value} (hX : okX X own cc f lo) {k : Fin 4} {i : Nat} {x : Int32} {L' : List (Option Value)} (hd : decode cc pc = .ok (.istore_n k, 1)) (hi : (k : Nat) = i) (hn : i < L.length) (hf : lfr L i = true) (hL : L.set i (some (.int x)) = L') (k : Z X M (pc + 1) L' st) : Z X M pc L (.int x :: st) := by
  obtain ⟨⟨p, l, e, R, s, m, args, below, meth, c⟩, A, ad, cs, D, cells, slots, Q⟩ := X
  obtain ⟨hx, hb, hown, hts, hK, hA, hR⟩ := hX
  intro H locs ls hP hS hl
  subst hL
  exact lv_istore_n hx hb hd hi hl.has (by rw [← hl.1]; exact hn) rfl (fun ls2 h2 => k H locs ls2 hP hS (hl.set1 hf h2))
theorem r_istore {X : CT} {own : String} {cc : ByteArray} {f lo : Nat} {M : Mem} {pc : Nat} {L : List (Option Value)} {st : List Value} (hX : okX X own cc f lo) {i : Nat} {x : Int32} {L' : List (Option Value)} (hd : decode cc pc = .ok (.istore i, 2)) (hn : i < L.length) (hf : lfr L i = true) (hL : L.set i (some (.int x)) = L') (k : Z X M (pc + 2) L' st) : Z X M pc L (.int x :: st) := by
  obtain ⟨⟨p, l, e, R, s, m, args, below, meth, c⟩, A, ad, cs, D, cells, slots, Q⟩ := X
  obtain ⟨hx, hb, hown, hts, hK, hA, hR⟩ := hX
  intro H locs ls hP hS hl
  subst hL
  exact lv_istore hx hb hd hl.has (by rw [← hl.1]; exact hn) rfl (fun ls2 h2 => k H locs ls2 hP hS (hl.set1 hf h2))
theorem r_astore_n {X : CT} {own : String} {cc : ByteArray} {f lo : Nat} {M : Mem} {pc : Nat} {L : List (Option Value)} {st : List Value} (hX : okX X own cc f lo) {k : Fin 4} {i : Nat} {x : Nat} {L' : List (Option Value)} (hd : decode cc pc = .ok (.astore_n k, 1)) (hi : (k : Nat) = i) (hn : i < L.length) (hf : lfr L i = true) (hL : L.set i (some (.ref x)) = L') (k : Z X M (pc + 1) L' st) : Z X M pc L (.ref x :: st) := by
  obtain ⟨⟨p, l, e, R, s, m, args, below, meth, c⟩, A, ad, cs, D, cells, slots, Q⟩ := X
  obtain ⟨hx, hb, hown, hts, hK, hA, hR⟩ := hX
  intro H locs ls hP hS hl
  subst hL
  exact lv_astore_n hx hb hd hi hl.has (by rw [← hl.1]; exact hn) rfl (fun ls2 h2 => k H locs ls2 hP hS (hl.set1 hf h2))
theorem r_astore {X : CT} {own : String} {cc : ByteArray} {f lo : Nat} {M : Mem} {pc : Nat} {L : List (Option Value)} {st : List Value} (hX : okX X own cc f lo) {i : Nat} {x : Nat} {L' : List (Option Value)} (hd : decode cc pc = .ok (.astore i, 2)) (hn : i < L.length) (hf : lfr L i = true) (hL : L.set i (some (.ref x)) = L') (k : Z X M (pc + 2) L' st) : Z X M pc L (.ref x :: st) := by
  obtain ⟨⟨p, l, e, R, s, m, args, below, meth, c⟩, A, ad, cs, D, cells, slots, Q⟩ := X
  obtain ⟨hx, hb, hown, hts, hK, hA, hR⟩ := hX
  intro H locs ls hP hS hl
  subst hL
  exact lv_astore hx hb hd hl.has (by rw [← hl.1]; exact hn) rfl (fun ls2 h2 => k H locs ls2 hP hS (hl.set1 hf h2))
theorem r_lstore {X : CT} {own : String} {cc : ByteArray} {f lo : Nat} {M : Mem} {pc : Nat} {L : List (Option Value)} {st : List Value} (hX : okX X own cc f lo) {i : Nat} {x : Int64} {L' : List (Option Value)} (hd : decode cc pc = .ok (.lstore i, 2)) (hn : i + 1 < L.length) (hf : lfr L i = true) (hL : (L.set i (some (.long x))).set (i + 1) none = L') (k : Z X M (pc + 2) L' st) : Z X M pc L (.long x :: st) := by
  obtain ⟨⟨p, l, e, R, s, m, args, below, meth, c⟩, A, ad, cs, D, cells, slots, Q⟩ := X
  obtain ⟨hx, hb, hown, hts, hK, hA, hR⟩ := hX
  intro H locs ls hP hS hl
  subst hL
  exact lv_lstore hx hb hd hl.has (by rw [← hl.1]; exact hn) rfl (fun ls2 h2 => k H locs ls2 hP hS (hl.set2 hf h2))
theorem r_iinc {X : CT} {own : String} {cc : ByteArray} {f lo : Nat} {M : Mem} {pc : Nat} {L : List (Option Value)} {st : List Value} (hX : okX X own cc f lo) {i : Nat} {n : Int} {x v : Int32} {L' : List (Option Value)} (hd : decode cc pc = .ok (.iinc i n, 3)) (hL0 : L[i]? = some (some (.int x))) (hv : x + Int32.ofInt n = v) (hf : lfr L i = true) (hL : L.set i (some (.int v)) = L') (k : Z X M (pc + 3) L' st) : Z X M pc L (st) := by
  obtain ⟨⟨p, l, e, R, s, m, args, below, meth, c⟩, A, ad, cs, D, cells, slots, Q⟩ := X
  obtain ⟨hx, hb, hown, hts, hK, hA, hR⟩ := hX
  intro H locs ls hP hS hl
  subst hL
  obtain ⟨kk, hk⟩ := List.getElem?_of_mem (lA_mem.mpr hL0)
  exact lv_iinc hx hb hd hl.has hk hv (by rw [← hl.1]; exact (List.getElem?_eq_some_iff.mp hL0).1) rfl (fun ls2 h2 => k H locs ls2 hP hS (hl.set1 hf h2))
theorem r_iadd {X : CT} {own : String} {cc : ByteArray} {f lo : Nat} {M : Mem} {pc : Nat} {L : List (Option Value)} {st : List Value} (hX : okX X own cc f lo) {x y : Int32} (hd : decode cc pc = .ok (.iadd, 1)) (k : Z X M (pc + 1) L (.int (x + y) :: st)) : Z X M pc L (.int y :: .int x :: st) := by
  obtain ⟨⟨p, l, e, R, s, m, args, below, meth, c⟩, A, ad, cs, D, cells, slots, Q⟩ := X
  obtain ⟨hx, hb, hown, hts, hK, hA, hR⟩ := hX
  intro H locs ls hP hS hl
  exact lv_iadd hx hb hd (k H locs ls hP hS hl)
theorem r_isub {X : CT} {own : String} {cc : ByteArray} {f lo : Nat} {M : Mem} {pc : Nat} {L : List (Option Value)} {st : List Value} (hX : okX X own cc f lo) {x y : Int32} (hd : decode cc pc = .ok (.isub, 1)) (k : Z X M (pc + 1) L (.int (x - y) :: st)) : Z X M pc L (.int y :: .int x :: st) := by
  obtain ⟨⟨p, l, e, R, s, m, args, below, meth, c⟩, A, ad, cs, D, cells, slots, Q⟩ := X
  obtain ⟨hx, hb, hown, hts, hK, hA, hR⟩ := hX
  intro H locs ls hP hS hl
  exact lv_isub hx hb hd (k H locs ls hP hS hl)
theorem r_imul {X : CT} {own : String} {cc : ByteArray} {f lo : Nat} {M : Mem} {pc : Nat} {L : List (Option Value)} {st : List Value} (hX : okX X own cc f lo) {x y : Int32} (hd : decode cc pc = .ok (.imul, 1)) (k : Z X M (pc + 1) L (.int (x * y) :: st)) : Z X M pc L (.int y :: .int x :: st) := by
  obtain ⟨⟨p, l, e, R, s, m, args, below, meth, c⟩, A, ad, cs, D, cells, slots, Q⟩ := X
  obtain ⟨hx, hb, hown, hts, hK, hA, hR⟩ := hX
  intro H locs ls hP hS hl
  exact lv_imul hx hb hd (k H locs ls hP hS hl)
theorem r_iand {X : CT} {own : String} {cc : ByteArray} {f lo : Nat} {M : Mem} {pc : Nat} {L : List (Option Value)} {st : List Value} (hX : okX X own cc f lo) {x y : Int32} (hd : decode cc pc = .ok (.iand, 1)) (k : Z X M (pc + 1) L (.int (x &&& y) :: st)) : Z X M pc L (.int y :: .int x :: st) := by
  obtain ⟨⟨p, l, e, R, s, m, args, below, meth, c⟩, A, ad, cs, D, cells, slots, Q⟩ := X
  obtain ⟨hx, hb, hown, hts, hK, hA, hR⟩ := hX
  intro H locs ls hP hS hl
  exact lv_iand hx hb hd (k H locs ls hP hS hl)
theorem r_ior {X : CT} {own : String} {cc : ByteArray} {f lo : Nat} {M : Mem} {pc : Nat} {L : List (Option Value)} {st : List Value} (hX : okX X own cc f lo) {x y : Int32} (hd : decode cc pc = .ok (.ior, 1)) (k : Z X M (pc + 1) L (.int (x ||| y) :: st)) : Z X M pc L (.int y :: .int x :: st) := by
  obtain ⟨⟨p, l, e, R, s, m, args, below, meth, c⟩, A, ad, cs, D, cells, slots, Q⟩ := X
  obtain ⟨hx, hb, hown, hts, hK, hA, hR⟩ := hX
  intro H locs ls hP hS hl
  exact lv_ior hx hb hd (k H locs ls hP hS hl)
theorem r_ixor {X : CT} {own : String} {cc : ByteArray} {f lo : Nat} {M : Mem} {pc : Nat} {L : List (Option Value)} {st : List Value} (hX : okX X own cc f lo) {x y : Int32} (hd : decode cc pc = .ok (.ixor, 1)) (k : Z X M (pc + 1) L (.int (x ^^^ y) :: st)) : Z X M pc L (.int y :: .int x :: st) := by
  obtain ⟨⟨p, l, e, R, s, m, args, below, meth, c⟩, A, ad, cs, D, cells, slots, Q⟩ := X
  obtain ⟨hx, hb, hown, hts, hK, hA, hR⟩ := hX
  intro H locs ls hP hS hl
  exact lv_ixor hx hb hd (k H locs ls hP hS hl)
theorem r_ishl {X : CT} {own : String} {cc : ByteArray} {f lo : Nat} {M : Mem} {pc : Nat} {L : List (Option Value)} {st : List Value} (hX : okX X own cc f lo) {x y : Int32} (hd : decode cc pc = .ok (.ishl, 1)) (k : Z X M (pc + 1) L (.int (x <<< (y &&& 31)) :: st)) : Z X M pc L (.int y :: .int x :: st) := by
  obtain ⟨⟨p, l, e, R, s, m, args, below, meth, c⟩, A, ad, cs, D, cells, slots, Q⟩ := X
  obtain ⟨hx, hb, hown, hts, hK, hA, hR⟩ := hX
  intro H locs ls hP hS hl
  exact lv_ishl hx hb hd (k H locs ls hP hS hl)
theorem r_ishr {X : CT} {own : String} {cc : ByteArray} {f lo : Nat} {M : Mem} {pc : Nat} {L : List (Option Value)} {st : List Value} (hX : okX X own cc f lo) {x y : Int32} (hd : decode cc pc = .ok (.ishr, 1)) (k : Z X M (pc + 1) L (.int (x >>> (y &&& 31)) :: st)) : Z X M pc L (.int y :: .int x :: st) := by
  obtain ⟨⟨p, l, e, R, s, m, args, below, meth, c⟩, A, ad, cs, D, cells, slots, Q⟩ := X
  obtain ⟨hx, hb, hown, hts, hK, hA, hR⟩ := hX
  intro H locs ls hP hS hl
  exact lv_ishr hx hb hd (k H locs ls hP hS hl)
theorem r_iushr {X : CT} {own : String} {cc : ByteArray} {f lo : Nat} {M : Mem} {pc : Nat} {L : List (Option Value)} {st : List Value} (hX : okX X own cc f lo) {x y : Int32} (hd : decode cc pc = .ok (.iushr, 1)) (k : Z X M (pc + 1) L (.int ((x.toUInt32 >>> (y.toUInt32 &&& Int32.toUInt32 31)).toInt32) :: st)) : Z X M pc L (.int y :: .int x :: st) := by
  obtain ⟨⟨p, l, e, R, s, m, args, below, meth, c⟩, A, ad, cs, D, cells, slots, Q⟩ := X
  obtain ⟨hx, hb, hown, hts, hK, hA, hR⟩ := hX
  intro H locs ls hP hS hl
  exact lv_iushr hx hb hd rfl (k H locs ls hP hS hl)
theorem r_ineg {X : CT} {own : String} {cc : ByteArray} {f lo : Nat} {M : Mem} {pc : Nat} {L : List (Option Value)} {st : List Value} (hX : okX X own cc f lo) {x : Int32} (hd : decode cc pc = .ok (.ineg, 1)) (k : Z X M (pc + 1) L (.int (-x) :: st)) : Z X M pc L (.int x :: st) := by
  obtain ⟨⟨p, l, e, R, s, m, args, below, meth, c⟩, A, ad, cs, D, cells, slots, Q⟩ := X
  obtain ⟨hx, hb, hown, hts, hK, hA, hR⟩ := hX
  intro H locs ls hP hS hl
  exact lv_ineg hx hb hd (k H locs ls hP hS hl)
theorem r_idiv {X : CT} {own : String} {cc : ByteArray} {f lo : Nat} {M : Mem} {pc : Nat} {L : List (Option Value)} {st : List Value} (hX : okX X own cc f lo) {x y : Int32} (hd : decode cc pc = .ok (.idiv, 1)) (hne : ¬ y = 0) (k : Z X M (pc + 1) L (.int (x / y) :: st)) : Z X M pc L (.int y :: .int x :: st) := by
  obtain ⟨⟨p, l, e, R, s, m, args, below, meth, c⟩, A, ad, cs, D, cells, slots, Q⟩ := X
  obtain ⟨hx, hb, hown, hts, hK, hA, hR⟩ := hX
  intro H locs ls hP hS hl
  exact lv_idiv hx hb hd hne (k H locs ls hP hS hl)
theorem r_irem {X : CT} {own : String} {cc : ByteArray} {f lo : Nat} {M : Mem} {pc : Nat} {L : List (Option Value)} {st : List Value} (hX : okX X own cc f lo) {x y : Int32} (hd : decode cc pc = .ok (.irem, 1)) (hne : ¬ y = 0) (k : Z X M (pc + 1) L (.int (x - x / y * y) :: st)) : Z X M pc L (.int y :: .int x :: st) := by
  obtain ⟨⟨p, l, e, R, s, m, args, below, meth, c⟩, A, ad, cs, D, cells, slots, Q⟩ := X
  obtain ⟨hx, hb, hown, hts, hK, hA, hR⟩ := hX
  intro H locs ls hP hS hl
  exact lv_irem hx hb hd hne (k H locs ls hP hS hl)
theorem r_ldiv {X : CT} {own : String} {cc : ByteArray} {f lo : Nat} {M : Mem} {pc : Nat} {L : List (Option Value)} {st : List Value} (hX : okX X own cc f lo) {x y : Int64} (hd : decode cc pc = .ok (.ldiv, 1)) (hne : ¬ y = 0) (k : Z X M (pc + 1) L (.long (x / y) :: st)) : Z X M pc L (.long y :: .long x :: st) := by
  obtain ⟨⟨p, l, e, R, s, m, args, below, meth, c⟩, A, ad, cs, D, cells, slots, Q⟩ := X
  obtain ⟨hx, hb, hown, hts, hK, hA, hR⟩ := hX
  intro H locs ls hP hS hl
  exact lv_ldiv hx hb hd hne (k H locs ls hP hS hl)
theorem r_lrem {X : CT} {own : String} {cc : ByteArray} {f lo : Nat} {M : Mem} {pc : Nat} {L : List (Option Value)} {st : List Value} (hX : okX X own cc f lo) {x y : Int64} (hd : decode cc pc = .ok (.lrem, 1)) (hne : ¬ y = 0) (k : Z X M (pc + 1) L (.long (x - x / y * y) :: st)) : Z X M pc L (.long y :: .long x :: st) := by
  obtain ⟨⟨p, l, e, R, s, m, args, below, meth, c⟩, A, ad, cs, D, cells, slots, Q⟩ := X
  obtain ⟨hx, hb, hown, hts, hK, hA, hR⟩ := hX
  intro H locs ls hP hS hl
  exact lv_lrem hx hb hd hne (k H locs ls hP hS hl)
theorem r_lcmp {X : CT} {own : String} {cc : ByteArray} {f lo : Nat} {M : Mem} {pc : Nat} {L : List (Option Value)} {st : List Value} (hX : okX X own cc f lo) {x y : Int64} (hd : decode cc pc = .ok (.lcmp, 1)) (k : Z X M (pc + 1) L (.int (lg_cmp x y) :: st)) : Z X M pc L (.long y :: .long x :: st) := by
  obtain ⟨⟨p, l, e, R, s, m, args, below, meth, c⟩, A, ad, cs, D, cells, slots, Q⟩ := X
  obtain ⟨hx, hb, hown, hts, hK, hA, hR⟩ := hX
  intro H locs ls hP hS hl
  exact W.lcmp hx hb hd (k H locs ls hP hS hl)
theorem r_lshl {X : CT} {own : String} {cc : ByteArray} {f lo : Nat} {M : Mem} {pc : Nat} {L : List (Option Value)} {st : List Value} (hX : okX X own cc f lo) {x : Int64} {y : Int32} (hd : decode cc pc = .ok (.lshl, 1)) (k : Z X M (pc + 1) L (.long (x <<< (y.toInt64 &&& 63)) :: st)) : Z X M pc L (.int y :: .long x :: st) := by
  obtain ⟨⟨p, l, e, R, s, m, args, below, meth, c⟩, A, ad, cs, D, cells, slots, Q⟩ := X
  obtain ⟨hx, hb, hown, hts, hK, hA, hR⟩ := hX
  intro H locs ls hP hS hl
  exact lv_lshl hx hb hd rfl (k H locs ls hP hS hl)
theorem r_i2l {X : CT} {own : String} {cc : ByteArray} {f lo : Nat} {M : Mem} {pc : Nat} {L : List (Option Value)} {st : List Value} (hX : okX X own cc f lo) {x : Int32} (hd : decode cc pc = .ok (.i2l, 1)) (k : Z X M (pc + 1) L (.long x.toInt64 :: st)) : Z X M pc L (.int x :: st) := by
  obtain ⟨⟨p, l, e, R, s, m, args, below, meth, c⟩, A, ad, cs, D, cells, slots, Q⟩ := X
  obtain ⟨hx, hb, hown, hts, hK, hA, hR⟩ := hX
  intro H locs ls hP hS hl
  exact lv_i2l hx hb hd rfl (k H locs ls hP hS hl)
theorem r_i2b {X : CT} {own : String} {cc : ByteArray} {f lo : Nat} {M : Mem} {pc : Nat} {L : List (Option Value)} {st : List Value} (hX : okX X own cc f lo) {x : Int32} (hd : decode cc pc = .ok (.i2b, 1)) (k : Z X M (pc + 1) L (.int x.toInt8.toInt32 :: st)) : Z X M pc L (.int x :: st) := by
  obtain ⟨⟨p, l, e, R, s, m, args, below, meth, c⟩, A, ad, cs, D, cells, slots, Q⟩ := X
  obtain ⟨hx, hb, hown, hts, hK, hA, hR⟩ := hX
  intro H locs ls hP hS hl
  exact lv_i2b hx hb hd rfl (k H locs ls hP hS hl)
theorem r_i2s {X : CT} {own : String} {cc : ByteArray} {f lo : Nat} {M : Mem} {pc : Nat} {L : List (Option Value)} {st : List Value} (hX : okX X own cc f lo) {x : Int32} (hd : decode cc pc = .ok (.i2s, 1)) (k : Z X M (pc + 1) L (.int x.toInt16.toInt32 :: st)) : Z X M pc L (.int x :: st) := by
  obtain ⟨⟨p, l, e, R, s, m, args, below, meth, c⟩, A, ad, cs, D, cells, slots, Q⟩ := X
  obtain ⟨hx, hb, hown, hts, hK, hA, hR⟩ := hX
  intro H locs ls hP hS hl
  exact lv_i2s hx hb hd rfl (k H locs ls hP hS hl)
theorem r_dup {X : CT} {own : String} {cc : ByteArray} {f lo : Nat} {M : Mem} {pc : Nat} {L : List (Option Value)} {st : List Value} (hX : okX X own cc f lo) {va : Value} (hd : decode cc pc = .ok (.dup, 1)) (hva : va.category = 1) (k : Z X M (pc + 1) L (va :: va :: st)) : Z X M pc L (va :: st) := by
  obtain ⟨⟨p, l, e, R, s, m, args, below, meth, c⟩, A, ad, cs, D, cells, slots, Q⟩ := X
  obtain ⟨hx, hb, hown, hts, hK, hA, hR⟩ := hX
  intro H locs ls hP hS hl
  exact lv_dup hx hb hd hva (k H locs ls hP hS hl)
theorem r_dup2 {X : CT} {own : String} {cc : ByteArray} {f lo : Nat} {M : Mem} {pc : Nat} {L : List (Option Value)} {st : List Value} (hX : okX X own cc f lo) {va vb : Value} (hd : decode cc pc = .ok (.dup2, 1)) (hva : va.category = 1) (hvb : vb.category = 1) (k : Z X M (pc + 1) L (va :: vb :: va :: vb :: st)) : Z X M pc L (va :: vb :: st) := by
  obtain ⟨⟨p, l, e, R, s, m, args, below, meth, c⟩, A, ad, cs, D, cells, slots, Q⟩ := X
  obtain ⟨hx, hb, hown, hts, hK, hA, hR⟩ := hX
  intro H locs ls hP hS hl
  exact lv_dup2_11 hx hb hd hva hvb (k H locs ls hP hS hl)
theorem r_pop {X : CT} {own : String} {cc : ByteArray} {f lo : Nat} {M : Mem} {pc : Nat} {L : List (Option Value)} {st : List Value} (hX : okX X own cc f lo) {va : Value} (hd : decode cc pc = .ok (.pop, 1)) (hva : va.category = 1) (k : Z X M (pc + 1) L st) : Z X M pc L (va :: st) := by
  obtain ⟨⟨p, l, e, R, s, m, args, below, meth, c⟩, A, ad, cs, D, cells, slots, Q⟩ := X
  obtain ⟨hx, hb, hown, hts, hK, hA, hR⟩ := hX
  intro H locs ls hP hS hl
  exact lv_pop hx hb hd hva (k H locs ls hP hS hl)
theorem r_if_eq {X : CT} {own : String} {cc : ByteArray} {f lo : Nat} {M : Mem} {pc : Nat} {L : List (Option Value)} {st : List Value} (hX : okX X own cc f lo) {x : Int32} {off : Int} (t : Nat) (hd : decode cc pc = .ok (.ifCond .eq off, 3)) (ht : (pc : Int) + off = (t : Int)) (kt : x = 0 → Z X M t L st) (kf : ¬ x = 0 → Z X M (pc + 3) L st) : Z X M pc L (.int x :: st) := by
  obtain ⟨⟨p, l, e, R, s, m, args, below, meth, c⟩, A, ad, cs, D, cells, slots, Q⟩ := X
  obtain ⟨hx, hb, hown, hts, hK, hA, hR⟩ := hX
  intro H locs ls hP hS hl
  exact lv_if_eq hx hb hd ht (fun q => kt q H locs ls hP hS hl) (fun q => kf q H locs ls hP hS hl)
theorem r_icmp_eq {X : CT} {own : String} {cc : ByteArray} {f lo : Nat} {M : Mem} {pc : Nat} {L : List (Option Value)} {st : List Value} (hX : okX X own cc f lo) {x y : Int32} {off : Int} (t : Nat) (hd : decode cc pc = .ok (.if_icmp .eq off, 3)) (ht : (pc : Int) + off = (t : Int)) (kt : x = y → Z X M t L st) (kf : ¬ x = y → Z X M (pc + 3) L st) : Z X M pc L (.int y :: .int x :: st) := by
  obtain ⟨⟨p, l, e, R, s, m, args, below, meth, c⟩, A, ad, cs, D, cells, slots, Q⟩ := X
  obtain ⟨hx, hb, hown, hts, hK, hA, hR⟩ := hX
  intro H locs ls hP hS hl
  exact lv_icmp_eq hx hb hd ht (fun q => kt q H locs ls hP hS hl) (fun q => kf q H locs ls hP hS hl)
theorem r_if_ne {X : CT} {own : String} {cc : ByteArray} {f lo : Nat} {M : Mem} {pc : Nat} {L : List (Option Value)} {st : List Value} (hX : okX X own cc f lo) {x : Int32} {off : Int} (t : Nat) (hd : decode cc pc = .ok (.ifCond .ne off, 3)) (ht : (pc : Int) + off = (t : Int)) (kt : ¬ x = 0 → Z X M t L st) (kf : x = 0 → Z X M (pc + 3) L st) : Z X M pc L (.int x :: st) := by
  obtain ⟨⟨p, l, e, R, s, m, args, below, meth, c⟩, A, ad, cs, D, cells, slots, Q⟩ := X
  obtain ⟨hx, hb, hown, hts, hK, hA, hR⟩ := hX
  intro H locs ls hP hS hl
  exact lv_if_ne hx hb hd ht (fun q => kt q H locs ls hP hS hl) (fun q => kf q H locs ls hP hS hl)
theorem r_icmp_ne {X : CT} {own : String} {cc : ByteArray} {f lo : Nat} {M : Mem} {pc : Nat} {L : List (Option Value)} {st : List Value} (hX : okX X own cc f lo) {x y : Int32} {off : Int} (t : Nat) (hd : decode cc pc = .ok (.if_icmp .ne off, 3)) (ht : (pc : Int) + off = (t : Int)) (kt : ¬ x = y → Z X M t L st) (kf : x = y → Z X M (pc + 3) L st) : Z X M pc L (.int y :: .int x :: st) := by
  obtain ⟨⟨p, l, e, R, s, m, args, below, meth, c⟩, A, ad, cs, D, cells, slots, Q⟩ := X
  obtain ⟨hx, hb, hown, hts, hK, hA, hR⟩ := hX
  intro H locs ls hP hS hl
  exact lv_icmp_ne hx hb hd ht (fun q => kt q H locs ls hP hS hl) (fun q => kf q H locs ls hP hS hl)
theorem r_if_lt {X : CT} {own : String} {cc : ByteArray} {f lo : Nat} {M : Mem} {pc : Nat} {L : List (Option Value)} {st : List Value} (hX : okX X own cc f lo) {x : Int32} {off : Int} (t : Nat) (hd : decode cc pc = .ok (.ifCond .lt off, 3)) (ht : (pc : Int) + off = (t : Int)) (kt : x < 0 → Z X M t L st) (kf : ¬ x < 0 → Z X M (pc + 3) L st) : Z X M pc L (.int x :: st) := by
  obtain ⟨⟨p, l, e, R, s, m, args, below, meth, c⟩, A, ad, cs, D, cells, slots, Q⟩ := X
  obtain ⟨hx, hb, hown, hts, hK, hA, hR⟩ := hX
  intro H locs ls hP hS hl
  exact lv_if_lt hx hb hd ht (fun q => kt q H locs ls hP hS hl) (fun q => kf q H locs ls hP hS hl)
theorem r_icmp_lt {X : CT} {own : String} {cc : ByteArray} {f lo : Nat} {M : Mem} {pc : Nat} {L : List (Option Value)} {st : List Value} (hX : okX X own cc f lo) {x y : Int32} {off : Int} (t : Nat) (hd : decode cc pc = .ok (.if_icmp .lt off, 3)) (ht : (pc : Int) + off = (t : Int)) (kt : x < y → Z X M t L st) (kf : ¬ x < y → Z X M (pc + 3) L st) : Z X M pc L (.int y :: .int x :: st) := by
  obtain ⟨⟨p, l, e, R, s, m, args, below, meth, c⟩, A, ad, cs, D, cells, slots, Q⟩ := X
  obtain ⟨hx, hb, hown, hts, hK, hA, hR⟩ := hX
  intro H locs ls hP hS hl
  exact lv_icmp_lt hx hb hd ht (fun q => kt q H locs ls hP hS hl) (fun q => kf q H locs ls hP hS hl)
theorem r_if_ge {X : CT} {own : String} {cc : ByteArray} {f lo : Nat} {M : Mem} {pc : Nat} {L : List (Option Value)} {st : List Value} (hX : okX X own cc f lo) {x : Int32} {off : Int} (t : Nat) (hd : decode cc pc = .ok (.ifCond .ge off, 3)) (ht : (pc : Int) + off = (t : Int)) (kt : 0 ≤ x → Z X M t L st) (kf : ¬ 0 ≤ x → Z X M (pc + 3) L st) : Z X M pc L (.int x :: st) := by
  obtain ⟨⟨p, l, e, R, s, m, args, below, meth, c⟩, A, ad, cs, D, cells, slots, Q⟩ := X
  obtain ⟨hx, hb, hown, hts, hK, hA, hR⟩ := hX
  intro H locs ls hP hS hl
  exact lv_if_ge hx hb hd ht (fun q => kt q H locs ls hP hS hl) (fun q => kf q H locs ls hP hS hl)
theorem r_icmp_ge {X : CT} {own : String} {cc : ByteArray} {f lo : Nat} {M : Mem} {pc : Nat} {L : List (Option Value)} {st : List Value} (hX : okX X own cc f lo) {x y : Int32} {off : Int} (t : Nat) (hd : decode cc pc = .ok (.if_icmp .ge off, 3)) (ht : (pc : Int) + off = (t : Int)) (kt : y ≤ x → Z X M t L st) (kf : ¬ y ≤ x → Z X M (pc + 3) L st) : Z X M pc L (.int y :: .int x :: st) := by
  obtain ⟨⟨p, l, e, R, s, m, args, below, meth, c⟩, A, ad, cs, D, cells, slots, Q⟩ := X
  obtain ⟨hx, hb, hown, hts, hK, hA, hR⟩ := hX
  intro H locs ls hP hS hl
  exact lv_icmp_ge hx hb hd ht (fun q => kt q H locs ls hP hS hl) (fun q => kf q H locs ls hP hS hl)
theorem r_if_gt {X : CT} {own : String} {cc : ByteArray} {f lo : Nat} {M : Mem} {pc : Nat} {L : List (Option Value)} {st : List Value} (hX : okX X own cc f lo) {x : Int32} {off : Int} (t : Nat) (hd : decode cc pc = .ok (.ifCond .gt off, 3)) (ht : (pc : Int) + off = (t : Int)) (kt : 0 < x → Z X M t L st) (kf : ¬ 0 < x → Z X M (pc + 3) L st) : Z X M pc L (.int x :: st) := by
  obtain ⟨⟨p, l, e, R, s, m, args, below, meth, c⟩, A, ad, cs, D, cells, slots, Q⟩ := X
  obtain ⟨hx, hb, hown, hts, hK, hA, hR⟩ := hX
  intro H locs ls hP hS hl
  exact lv_if_gt hx hb hd ht (fun q => kt q H locs ls hP hS hl) (fun q => kf q H locs ls hP hS hl)
theorem r_icmp_gt {X : CT} {own : String} {cc : ByteArray} {f lo : Nat} {M : Mem} {pc : Nat} {L : List (Option Value)} {st : List Value} (hX : okX X own cc f lo) {x y : Int32} {off : Int} (t : Nat) (hd : decode cc pc = .ok (.if_icmp .gt off, 3)) (ht : (pc : Int) + off = (t : Int)) (kt : y < x → Z X M t L st) (kf : ¬ y < x → Z X M (pc + 3) L st) : Z X M pc L (.int y :: .int x :: st) := by
  obtain ⟨⟨p, l, e, R, s, m, args, below, meth, c⟩, A, ad, cs, D, cells, slots, Q⟩ := X
  obtain ⟨hx, hb, hown, hts, hK, hA, hR⟩ := hX
  intro H locs ls hP hS hl
  exact lv_icmp_gt hx hb hd ht (fun q => kt q H locs ls hP hS hl) (fun q => kf q H locs ls hP hS hl)
theorem r_if_le {X : CT} {own : String} {cc : ByteArray} {f lo : Nat} {M : Mem} {pc : Nat} {L : List (Option Value)} {st : List Value} (hX : okX X own cc f lo) {x : Int32} {off : Int} (t : Nat) (hd : decode cc pc = .ok (.ifCond .le off, 3)) (ht : (pc : Int) + off = (t : Int)) (kt : x ≤ 0 → Z X M t L st) (kf : ¬ x ≤ 0 → Z X M (pc + 3) L st) : Z X M pc L (.int x :: st) := by
  obtain ⟨⟨p, l, e, R, s, m, args, below, meth, c⟩, A, ad, cs, D, cells, slots, Q⟩ := X
  obtain ⟨hx, hb, hown, hts, hK, hA, hR⟩ := hX
  intro H locs ls hP hS hl
  exact lv_if_le hx hb hd ht (fun q => kt q H locs ls hP hS hl) (fun q => kf q H locs ls hP hS hl)
theorem r_icmp_le {X : CT} {own : String} {cc : ByteArray} {f lo : Nat} {M : Mem} {pc : Nat} {L : List (Option Value)} {st : List Value} (hX : okX X own cc f lo) {x y : Int32} {off : Int} (t : Nat) (hd : decode cc pc = .ok (.if_icmp .le off, 3)) (ht : (pc : Int) + off = (t : Int)) (kt : x ≤ y → Z X M t L st) (kf : ¬ x ≤ y → Z X M (pc + 3) L st) : Z X M pc L (.int y :: .int x :: st) := by
  obtain ⟨⟨p, l, e, R, s, m, args, below, meth, c⟩, A, ad, cs, D, cells, slots, Q⟩ := X
  obtain ⟨hx, hb, hown, hts, hK, hA, hR⟩ := hX
  intro H locs ls hP hS hl
  exact lv_icmp_le hx hb hd ht (fun q => kt q H locs ls hP hS hl) (fun q => kf q H locs ls hP hS hl)
theorem r_goto {X : CT} {own : String} {cc : ByteArray} {f lo : Nat} {M : Mem} {pc : Nat} {L : List (Option Value)} {st : List Value} (hX : okX X own cc f lo) {off : Int} (t : Nat) (hd : decode cc pc = .ok (.goto off, 3)) (ht : (pc : Int) + off = (t : Int)) (k : Z X M t L st) : Z X M pc L (st) := by
  obtain ⟨⟨p, l, e, R, s, m, args, below, meth, c⟩, A, ad, cs, D, cells, slots, Q⟩ := X
  obtain ⟨hx, hb, hown, hts, hK, hA, hR⟩ := hX
  intro H locs ls hP hS hl
  exact lv_goto hx hb hd ht (k H locs ls hP hS hl)
theorem r_tin {X : CT} {own : String} {cc : ByteArray} {f lo : Nat} {M : Mem} {pc : Nat} {L : List (Option Value)} {st : List Value} (hX : okX X own cc f lo) {dflt lw hg : Int} {offs : Array Int} {len : Nat} {x v : Int32} {off : Int} (t : Nat) (hd : decode cc pc = .ok (.tableswitch dflt lw hg offs, len)) (hxv : x = v) (hin : (decide (lw ≤ v.toInt) && decide (v.toInt ≤ hg)) = true) (ho : offs[(v.toInt - lw).toNat]? = some off) (ht : (pc : Int) + off = (t : Int)) (k : Z X M t L st) : Z X M pc L (.int x :: st) := by
  obtain ⟨⟨p, l, e, R, s, m, args, below, meth, c⟩, A, ad, cs, D, cells, slots, Q⟩ := X
  obtain ⟨hx, hb, hown, hts, hK, hA, hR⟩ := hX
  intro H locs ls hP hS hl
  subst hxv
  simp only [Bool.and_eq_true, decide_eq_true_eq] at hin
  exact lv_tableIn hx hb hd (by omega) (by omega) ho ht (k H locs ls hP hS hl)
theorem r_tout {X : CT} {own : String} {cc : ByteArray} {f lo : Nat} {M : Mem} {pc : Nat} {L : List (Option Value)} {st : List Value} (hX : okX X own cc f lo) {dflt lw hg : Int} {offs : Array Int} {len : Nat} {x : Int32} (t : Nat) (hd : decode cc pc = .ok (.tableswitch dflt lw hg offs, len)) (h : x.toInt < lw ∨ hg < x.toInt) (ht : (pc : Int) + dflt = (t : Int)) (k : Z X M t L st) : Z X M pc L (.int x :: st) := by
  obtain ⟨⟨p, l, e, R, s, m, args, below, meth, c⟩, A, ad, cs, D, cells, slots, Q⟩ := X
  obtain ⟨hx, hb, hown, hts, hK, hA, hR⟩ := hX
  intro H locs ls hP hS hl
  exact lv_tableOut hx hb hd h ht (k H locs ls hP hS hl)
theorem r_lsw {X : CT} {own : String} {cc : ByteArray} {f lo : Nat} {M : Mem} {pc : Nat} {L : List (Option Value)} {st : List Value} (hX : okX X own cc f lo) {dflt : Int} {ps : Array (Int × Int)} {len : Nat} {x : Int32} {off : Int} (t : Nat) (hd : decode cc pc = .ok (.lookupswitch dflt ps, len)) (hp : (ps.toList.zip (ps.toList.drop 1)).all (fun (a, next) => a.1 < next.1) = true) (ho : Op.lookupswitch.offset ps.toList dflt x.toInt = off) (ht : (pc : Int) + off = (t : Int)) (k : Z X M t L st) : Z X M pc L (.int x :: st) := by
  obtain ⟨⟨p, l, e, R, s, m, args, below, meth, c⟩, A, ad, cs, D, cells, slots, Q⟩ := X
  obtain ⟨hx, hb, hown, hts, hK, hA, hR⟩ := hX
  intro H locs ls hP hS hl
  exact lv_lookup hx hb hd hp ho ht (k H locs ls hP hS hl)
theorem r_nm {X : CT} {M : Mem} {pc : Nat} {L : List (Option Value)} {st : List Value} {x : Int32} (k : ∀ y : Int32, y = x → Z X M pc L (.int y :: st)) : Z X M pc L (.int x :: st) := k x rfl
theorem r_nml {X : CT} {M : Mem} {pc : Nat} {L : List (Option Value)} {st : List Value} {x : Int64} (k : ∀ y : Int64, y = x → Z X M pc L (.long y :: st)) : Z X M pc L (.long x :: st) := k x rfl
theorem r_sub {X : CT} {M : Mem} {pc : Nat} {L : List (Option Value)} {st : List Value} (L' : List (Option Value)) (h : lsub L' L) (k : Z X M pc L' st) : Z X M pc L st := by
  obtain ⟨⟨p, l, e, R, s, m, args, below, meth, c⟩, A, ad, cs, D, cells, slots, Q⟩ := X
  intro H locs ls hP hS hl
  exact k H locs ls hP hS (hl.sub h)
theorem r_iret {X : CT} {cc : ByteArray} {M : Mem} {pc : Nat} {L : List (Option Value)} {r : Int32} (h : RetI X cc r M) (hd : decode cc pc = .ok (.ireturn, 1)) : Z X M pc L [.int r] := by
  obtain ⟨⟨p, l, e, R, s, m, args, below, meth, c⟩, A, ad, cs, D, cells, slots, Q⟩ := X
  intro H locs ls hP hS hl
  exact h pc ls H locs hd hP hS
theorem r_lret {X : CT} {cc : ByteArray} {M : Mem} {pc : Nat} {L : List (Option Value)} {r : Int64} (h : RetL X cc r M) (hd : decode cc pc = .ok (.lreturn, 1)) : Z X M pc L [.long r] := by
  obtain ⟨⟨p, l, e, R, s, m, args, below, meth, c⟩, A, ad, cs, D, cells, slots, Q⟩ := X
  intro H locs ls hP hS hl
  exact h pc ls H locs hd hP hS
theorem r_vret {X : CT} {cc : ByteArray} {M : Mem} {pc : Nat} {L : List (Option Value)} (h : RetV X cc M) (hd : decode cc pc = .ok (.return_, 1)) : Z X M pc L [] := by
  obtain ⟨⟨p, l, e, R, s, m, args, below, meth, c⟩, A, ad, cs, D, cells, slots, Q⟩ := X
  intro H locs ls hP hS hl
  exact h pc ls H locs hd hP hS
/-- what a field's instruction needs: link, class ci of vwCl, place j -/
def FG (own : String) (idx ci j : Nat) : Prop := ∃ (C : String) (T : u_T) (N : Nat), vwCl[ci]? = some (C, T, N) ∧ (∀ w ∈ u_ws C T N, w ∈ gtb) ∧ j < N ∧ Cond.fieldLink own idx C (T j).2.1 (T j).2.2.1 ∈ gtb ∧ (T j).1 = C
def FP (own : String) (idx ci j : Nat) : Prop := ∃ (C : String) (T : u_T) (N : Nat) (ty0 : Nat → FieldType), vwCl[ci]? = some (C, T, N) ∧ (∀ w ∈ u_ws C T N, w ∈ gtb) ∧ j < N ∧ Cond.fieldLink own idx C (T j).2.1 (T j).2.2.1 ∈ gtb ∧ (T j).1 = C ∧ (∀ k, k < N → parseFieldDescriptor (T k).2.2.1 = some (ty0 k)) ∧ (∀ a, a < N → ∀ b, b < N → a ≠ b → (T a).2.1 ≠ (T b).2.1) ∧ (T j).2.2.2 = false ∧ parseFieldDescriptor (T j).2.2.1 = some .int
theorem r_getI {X : CT} {own : String} {cc : ByteArray} {f lo : Nat} {M : Mem} {pc : Nat} {L : List (Option Value)} {st : List Value} (hX : okX X own cc f lo) {k ci j idx : Nat} {fl : List (Option Nat)} (hg : FG own idx ci j) (hl0 : lyl[k]? = some (.inl (ci, fl))) (hj : fl[j]? = some none) (hd : decode cc pc = .ok (.getfield idx, 3)) (kk : Z X M (pc + 3) L (.int (M k j) :: st)) : Z X M pc L (.ref (adX X k) :: st) := by
  obtain ⟨⟨p, l, e, R, s, m, args, below, meth, c⟩, A, ad, cs, D, cells, slots, Q⟩ := X
  obtain ⟨hx, hb, hown, hts, hK, hA, hR⟩ := hX
  intro H locs ls hP hS hl
  obtain ⟨C, T, N, h1, h2, h3, h4, h5⟩ := hg
  have he := ceF_get (ad := ad) (f := M k) fl 0 j hj
  rw [Nat.zero_add] at he
  exact va_get hx hb hts h2 hown hK hP k (wld_get hl0) h1 j h3 (hts _ h4) (fun x q => by rw [h5] at q; exact q) he hd (kk H locs ls hP hS hl)
theorem r_getR {X : CT} {own : String} {cc : ByteArray} {f lo : Nat} {M : Mem} {pc : Nat} {L : List (Option Value)} {st : List Value} (hX : okX X own cc f lo) {k ci j idx t : Nat} {fl : List (Option Nat)} (hg : FG own idx ci j) (hl0 : lyl[k]? = some (.inl (ci, fl))) (hj : fl[j]? = some (some t)) (hd : decode cc pc = .ok (.getfield idx, 3)) (kk : Z X M (pc + 3) L (.ref (adX X t) :: st)) : Z X M pc L (.ref (adX X k) :: st) := by
  obtain ⟨⟨p, l, e, R, s, m, args, below, meth, c⟩, A, ad, cs, D, cells, slots, Q⟩ := X
  obtain ⟨hx, hb, hown, hts, hK, hA, hR⟩ := hX
  intro H locs ls hP hS hl
  obtain ⟨C, T, N, h1, h2, h3, h4, h5⟩ := hg
  exact va_get hx hb hts h2 hown hK hP k (wld_get hl0) h1 j h3 (hts _ h4) (fun x q => by rw [h5] at q; exact q) (ceF_ref (ad := ad) (f := M k) fl 0 j hj) hd (kk H locs ls hP hS hl)
theorem r_putI {X : CT} {own : String} {cc : ByteArray} {f lo : Nat} {M : Mem} {pc : Nat} {L : List (Option Value)} {st : List Value} (hX : okX X own cc f lo) {k ci j idx : Nat} {v : Int32} {fl : List (Option Nat)} (hg : FP own idx ci j) (hl0 : lyl[k]? = some (.inl (ci, fl))) (hj : fl[j]? = some none) (hd : decode cc pc = .ok (.putfield idx, 3)) (kk : Z X (up2 M k j v) (pc + 3) L st) : Z X M pc L (.int v :: .ref (adX X k) :: st) := by
  obtain ⟨⟨p, l, e, R, s, m, args, below, meth, c⟩, A, ad, cs, D, cells, slots, Q⟩ := X
  obtain ⟨hx, hb, hown, hts, hK, hA, hR⟩ := hX
  intro H locs ls hP hS hl
  obtain ⟨C, T, N, ty0, h1, h2, h3, h4, h5, h6, h7, h8, h9⟩ := hg
  have hjl : j < (ceF ad (M k) 0 fl).length := by rw [ceF_len]; exact (List.getElem?_eq_some_iff.mp hj).1
  refine va_put hx hb hts h2 ty0 h6 h7 hown hK hP (wld_D hA.1 hA.2) hS k (wld_get hl0) h1 j h3 (hts _ h4) (fun x q => by rw [h5] at q; exact q) h8 h9 rfl rfl hjl hd (fun H1 locs1 hP1 hD1 hS1 => ?_)
  have e1 := ceF_set (ad := ad) (f := M k) (v := v) fl 0 j hj
  rw [Nat.zero_add] at e1
  rw [e1] at hP1
  have e2 := wld_set (cs := cs) (ad := ad) (M := M) (upd (M k) j v) hl0
  exact kk H1 locs1 ls (by show va_P D vwCl (wld cs ad (upA M k (upd (M k) j v))) H1; rw [← e2]; exact hP1) hS1 hl
theorem r_iald {X : CT} {own : String} {cc : ByteArray} {f lo : Nat} {M : Mem} {pc : Nat} {L : List (Option Value)} {st : List Value} (hX : okX X own cc f lo) {k n : Nat} {i : Int32} (hl0 : lyl[k]? = some (.inr (0, n))) (hi : vp_in i n) (hd : decode cc pc = .ok (.iaload, 1)) (kk : Z X M (pc + 1) L (.int (M k i.toNatClampNeg) :: st)) : Z X M pc L (.int i :: .ref (adX X k) :: st) := by
  obtain ⟨⟨p, l, e, R, s, m, args, below, meth, c⟩, A, ad, cs, D, cells, slots, Q⟩ := X
  obtain ⟨hx, hb, hown, hts, hK, hA, hR⟩ := hX
  intro H locs ls hP hS hl
  exact va_iald hx hb hK hP k 0 (wld_get hl0) rfl hi hd (kk H locs ls hP hS hl)
theorem r_zald {X : CT} {own : String} {cc : ByteArray} {f lo : Nat} {M : Mem} {pc : Nat} {L : List (Option Value)} {st : List Value} (hX : okX X own cc f lo) {k n : Nat} {i : Int32} (hl0 : lyl[k]? = some (.inr (1, n))) (hi : vp_in i n) (hd : decode cc pc = .ok (.baload, 1)) (kk : Z X M (pc + 1) L (.int (M k i.toNatClampNeg) :: st)) : Z X M pc L (.int i :: .ref (adX X k) :: st) := by
  obtain ⟨⟨p, l, e, R, s, m, args, below, meth, c⟩, A, ad, cs, D, cells, slots, Q⟩ := X
  obtain ⟨hx, hb, hown, hts, hK, hA, hR⟩ := hX
  intro H locs ls hP hS hl
  exact va_zald hx hb hK hP k 1 (wld_get hl0) rfl hi hd (kk H locs ls hP hS hl)
theorem r_aald {X : CT} {own : String} {cc : ByteArray} {f lo : Nat} {M : Mem} {pc : Nat} {L : List (Option Value)} {st : List Value} (hX : okX X own cc f lo) {i : Int32} (hi : vp_in i 4) (hd : decode cc pc = .ok (.aaload, 1)) (kk : Z X M (pc + 1) L (.ref (adX X (26 + i.toNatClampNeg)) :: st)) : Z X M pc L (.int i :: .ref (adX X 25) :: st) := by
  obtain ⟨⟨p, l, e, R, s, m, args, below, meth, c⟩, A, ad, cs, D, cells, slots, Q⟩ := X
  obtain ⟨hx, hb, hown, hts, hK, hA, hR⟩ := hX
  intro H locs ls hP hS hl
  exact va_aldq hx hb hK hP 25 2 (wld_get ly_25) rfl hi hd (kk H locs ls hP hS hl)
theorem r_iast {X : CT} {own : String} {cc : ByteArray} {f lo : Nat} {M : Mem} {pc : Nat} {L : List (Option Value)} {st : List Value} (hX : okX X own cc f lo) {k n : Nat} {i v : Int32} (hl0 : lyl[k]? = some (.inr (0, n))) (hi : vp_in i n) (hd : decode cc pc = .ok (.iastore, 1)) (kk : Z X (up2 M k i.toNatClampNeg v) (pc + 1) L st) : Z X M pc L (.int v :: .int i :: .ref (adX X k) :: st) := by
  obtain ⟨⟨p, l, e, R, s, m, args, below, meth, c⟩, A, ad, cs, D, cells, slots, Q⟩ := X
  obtain ⟨hx, hb, hown, hts, hK, hA, hR⟩ := hX
  intro H locs ls hP hS hl
  refine va_iast hx hb hK hP (wld_D hA.1 hA.2) hS k 0 (wld_get hl0) rfl hi hd (fun H1 locs1 hP1 hD1 hS1 => ?_)
  have e2 := wld_set (cs := cs) (ad := ad) (M := M) (upd (M k) i.toNatClampNeg v) hl0
  exact kk H1 locs1 ls (by show va_P D vwCl (wld cs ad (upA M k (upd (M k) i.toNatClampNeg v))) H1; rw [← e2]; exact hP1) hS1 hl
theorem r_zast {X : CT} {own : String} {cc : ByteArray} {f lo : Nat} {M : Mem} {pc : Nat} {L : List (Option Value)} {st : List Value} (hX : okX X own cc f lo) {k n : Nat} {i v : Int32} (hl0 : lyl[k]? = some (.inr (1, n))) (hi : vp_in i n) (hd : decode cc pc = .ok (.bastore, 1)) (kk : Z X (up2 M k i.toNatClampNeg (vp_nar .boolean v)) (pc + 1) L st) : Z X M pc L (.int v :: .int i :: .ref (adX X k) :: st) := by
  obtain ⟨⟨p, l, e, R, s, m, args, below, meth, c⟩, A, ad, cs, D, cells, slots, Q⟩ := X
  obtain ⟨hx, hb, hown, hts, hK, hA, hR⟩ := hX
  intro H locs ls hP hS hl
  refine va_zast hx hb hK hP (wld_D hA.1 hA.2) hS k 1 (wld_get hl0) rfl hi hd (fun H1 locs1 hP1 hD1 hS1 => ?_)
  have e2 := wld_set (cs := cs) (ad := ad) (M := M) (upd (M k) i.toNatClampNeg (vp_nar .boolean v)) hl0
  exact kk H1 locs1 ls (by show va_P D vwCl (wld cs ad (upA M k (upd (M k) i.toNatClampNeg (vp_nar .boolean v)))) H1; rw [← e2]; exact hP1) hS1 hl
theorem r_copy {X : CT} {own : String} {cc : ByteArray} {f lo : Nat} {M : Mem} {pc : Nat} {L : List (Option Value)} {st : List Value} (hX : okX X own cc f lo) {k k2 n n2 idx : Nat} {sp dp q : Int32} (hl0 : lyl[k]? = some (.inr (0, n))) (hl2 : lyl[k2]? = some (.inr (0, n2))) (hw : Cond.methodLink own idx arraycopyName ∈ gtb ∧ Cond.native arraycopyName ∈ gtb ∧ Cond.static arraycopyName ∈ gtb ∧ Cond.initialized "java/lang/System" ∈ gtb) (h1 : ¬ sp < 0) (h2 : ¬ dp < 0) (h3 : ¬ q < 0) (h4 : sp.toNatClampNeg + q.toNatClampNeg ≤ n) (h5 : dp.toNatClampNeg + q.toNatClampNeg ≤ n2) (hfr : 1 ≤ f) (hlo : (st.map fun v => v.category).sum + (nativeFrameWords "java/lang/System" "arraycopy" 5 + 11) ≤ lo) (hd : decode cc pc = .ok (.invokestatic idx, 3)) (kk : Z X (upA M k2 (va_cpy (M k) (M k2) sp.toNatClampNeg dp.toNatClampNeg q.toNatClampNeg)) (pc + 3) L st) : Z X M pc L (.int q :: .int dp :: .ref (adX X k2) :: .int sp :: .ref (adX X k) :: st) := by
  obtain ⟨⟨p, l, e, R, s, m, args, below, meth, c⟩, A, ad, cs, D, cells, slots, Q⟩ := X
  obtain ⟨hx, hb, hown, hts, hK, hA, hR⟩ := hX
  intro H locs ls hP hS hl
  obtain ⟨w1, w2, w3, w4⟩ := hw
  obtain ⟨r1, r2, -⟩ := hR
  refine va_copyi hx hb hl.2.1.symm hown (hts _ w1) (hts _ w2) (hts _ w3) (hts _ w4) hK hP (wld_D hA.1 hA.2) hS k k2 0 0 (wld_get hl0) (wld_get hl2) rfl rfl rfl h1 h2 h3 h4 h5 (fun _ _ => rfl) (by rw [r1]; exact hfr) (by rw [r2]; exact hlo) hd (fun H1 locs1 hP1 hD1 hS1 => ?_)
  have e2 := wld_set (cs := cs) (ad := ad) (M := M) (va_cpy (M k) (M k2) sp.toNatClampNeg dp.toNatClampNeg q.toNatClampNeg) hl2
  exact kk H1 locs1 ls (by show va_P D vwCl (wld cs ad (upA M k2 (va_cpy (M k) (M k2) sp.toNatClampNeg dp.toNatClampNeg q.toNatClampNeg))) H1; rw [← e2]; exact hP1) hS1 hl
/-! contracts -/
theorem good_sub {ws : List Cond} (h : ∀ w ∈ ws, w ∈ gtb) : GoodIn gtb ws := fun w hw => ⟨h w hw, good_of_word (List.mem_filter.mp (h w hw)).2⟩
def BM (D : va_G) (cs : CS3) (ad : Nat → Nat) (M : Mem) (t : State) : Prop := va_P D vwCl (wld cs ad M) t.heap
def PcM (D : va_G) (cs : CS3) (ad : Nat → Nat) (av : List Value) (M : Mem) : Array Value → State → Prop := va_Pc av (fun U => va_P D vwCl (wld cs ad M) U.heap ∧ va_K D vwCl (tyS cs) U ∧ adI ad)
theorem PcM_blind {D : va_G} {cs : CS3} {ad : Nat → Nat} {av : List Value} {M : Mem} : FrameBlind (PcM D cs ad av M) := fun a U g mk q => by
  obtain ⟨q0, qP, qK, qI⟩ := q
  exact ⟨q0, qP, va_K.moved (u := U) (U := U.calling g mk a) (Vm.Alike.refl U.vm) qK, qI⟩
def Ct (l : Launch) (D : va_G) (cs : CS3) (ad : Nat → Nat) (y : MethodName) (cb : ByteArray) (nl : Nat) (ret : Option FieldType) (f lo : Nat) (av : List Value) (M : Mem) (Qc : Array Value → State → Outcome → State → Prop) : Prop :=
  Met l y (.code y cb nl ret :: gtb) { frames := f, cells := 0, slots := 0, locals := lo } (PcM D cs ad av M) Qc 0 0 (AW ad)
def CtI (l : Launch) (D : va_G) (cs : CS3) (ad : Nat → Nat) (y : MethodName) (cb : ByteArray) (nl : Nat) (ret : Option FieldType) (f lo : Nat) (av : List Value) (M : Mem) (post : Int32 → Mem → Prop) : Prop := Ct l D cs ad y cb nl ret f lo av M (va_Qi post (BM D cs ad) (AW ad))
def CtL (l : Launch) (D : va_G) (cs : CS3) (ad : Nat → Nat) (y : MethodName) (cb : ByteArray) (nl : Nat) (ret : Option FieldType) (f lo : Nat) (av : List Value) (M : Mem) (post : Int64 → Mem → Prop) : Prop := Ct l D cs ad y cb nl ret f lo av M (va_Ql post (BM D cs ad) (AW ad))
def CtV (l : Launch) (D : va_G) (cs : CS3) (ad : Nat → Nat) (y : MethodName) (cb : ByteArray) (nl : Nat) (ret : Option FieldType) (f lo : Nat) (av : List Value) (M : Mem) (post : Mem → Prop) : Prop := Ct l D cs ad y cb nl ret f lo av M (va_Qv post (BM D cs ad) (AW ad))
theorem lh_entry {vs : List Value} {n k : Nat} {L : List (Option Value)} (hlen : (lg_sl vs).length ≤ n) (hL : L = lvL vs ++ List.replicate k none) (hn : L.length = n) : lh ((lg_sl vs ++ List.replicate (n - (lg_sl vs).length) Slot.unset).toArray) n L := by
  have h := lv_entry vs (n := n) hlen
  refine ⟨hn, h.1, h.2.1, fun i v hi => ?_⟩
  rw [hL] at hi
  by_cases hq : i < (lvL vs).length
  · rw [List.getElem?_append_left hq] at hi
    have := h.2.2 (i, v) (by have := lvL_in vs 0 i v hi; rwa [Nat.zero_add] at this)
    exact this
  · rw [List.getElem?_append_right (by omega), List.getElem?_replicate] at hi
    split at hi <;> simp at hi

theorem met_I {l : Launch} {D : va_G} {cs : CS3} {ad : Nat → Nat} {y : MethodName} {cb : ByteArray} {nl f lo k : Nat} {ty : FieldType} (av : (Nat → Nat) → List Value) (L0 : (Nat → Nat) → List (Option Value)) {M : Mem} {post : Int32 → Mem → Prop} (hy : plainName y.cls = true) (hlen : ∀ a, (lg_sl (av a)).length ≤ nl) (hL : ∀ a, L0 a = lvL (av a) ++ List.replicate k none) (hn : ∀ a, (L0 a).length = nl)
    (hz : ∀ X : CT, okX X y.cls cb f lo → (∀ (r : Int32) (M' : Mem), narrow ty (.int r) = .int r → post r M' → RetI X cb r M') → Z X M 0 (L0 (adX X)) []) : CtI l D cs ad y cb nl (some ty) f lo (av ad) M post := by
  refine Met.ofW (cc := cb) (maxL := nl) (ret := (some ty)) hy rfl ?_
  intro p e s m args below meth c s₁ B hml hv
  obtain ⟨rfl, hP, hK, hI⟩ := hv
  have hts := atoms_spec (ws := Cond.code y cb nl (some ty) :: gtb) B.pre
  have hl := lh_entry (hlen ad) (hL ad) (hn ad)
  rw [← hml] at hl
  rw [lg_entry_eq]
  rw [← hml]
  exact hz ((p, l, e, (headSpec (Cond.code y cb nl (some ty) :: gtb) { frames := f, cells := 0, slots := 0, locals := lo }).room, s, m, (av ad).toArray, below, meth, c), (AW ad, ad, cs, D, 0, 0, MQ below (va_Qi post (BM D cs ad) (AW ad)) (av ad).toArray s 0 0 (AW ad))) ⟨B.exec, B.bytes, findClass_of_methodNamed B.named, fun w hw => hts w (List.mem_cons_of_mem _ hw), hK, ⟨hI, fun _ h => h⟩, rfl, rfl, Nat.zero_le _, Nat.zero_le _⟩ (fun r M' hn hp => fun pc ls H locs hd hP hS => W.zret B.exec B.bytes B.returns hn (fun t ht hW => ⟨⟨r, M', rfl, hp, by unfold BM; rw [ht]; exact hP⟩, hS.F ht⟩) hS.2.2 hd B.notSynchronized) s.heap [] _ hP va_S.rf hl

theorem met_L {l : Launch} {D : va_G} {cs : CS3} {ad : Nat → Nat} {y : MethodName} {cb : ByteArray} {nl f lo k : Nat} (av : (Nat → Nat) → List Value) (L0 : (Nat → Nat) → List (Option Value)) {M : Mem} {post : Int64 → Mem → Prop} (hy : plainName y.cls = true) (hlen : ∀ a, (lg_sl (av a)).length ≤ nl) (hL : ∀ a, L0 a = lvL (av a) ++ List.replicate k none) (hn : ∀ a, (L0 a).length = nl)
    (hz : ∀ X : CT, okX X y.cls cb f lo → (∀ (r : Int64) (M' : Mem), post r M' → RetL X cb r M') → Z X M 0 (L0 (adX X)) []) : CtL l D cs ad y cb nl (some .long) f lo (av ad) M post := by
  refine Met.ofW (cc := cb) (maxL := nl) (ret := (some .long)) hy rfl ?_
  intro p e s m args below meth c s₁ B hml hv
  obtain ⟨rfl, hP, hK, hI⟩ := hv
  have hts := atoms_spec (ws := Cond.code y cb nl (some .long) :: gtb) B.pre
  have hl := lh_entry (hlen ad) (hL ad) (hn ad)
  rw [← hml] at hl
  rw [lg_entry_eq]
  rw [← hml]
  exact hz ((p, l, e, (headSpec (Cond.code y cb nl (some .long) :: gtb) { frames := f, cells := 0, slots := 0, locals := lo }).room, s, m, (av ad).toArray, below, meth, c), (AW ad, ad, cs, D, 0, 0, MQ below (va_Ql post (BM D cs ad) (AW ad)) (av ad).toArray s 0 0 (AW ad))) ⟨B.exec, B.bytes, findClass_of_methodNamed B.named, fun w hw => hts w (List.mem_cons_of_mem _ hw), hK, ⟨hI, fun _ h => h⟩, rfl, rfl, Nat.zero_le _, Nat.zero_le _⟩ (fun r M' hp => fun pc ls H locs hd hP hS => W.lret B.exec B.bytes B.returns (fun t ht hW => ⟨⟨r, M', rfl, hp, by unfold BM; rw [ht]; exact hP⟩, hS.F ht⟩) hS.2.2 hd B.notSynchronized) s.heap [] _ hP va_S.rf hl

theorem met_V {l : Launch} {D : va_G} {cs : CS3} {ad : Nat → Nat} {y : MethodName} {cb : ByteArray} {nl f lo k : Nat} (av : (Nat → Nat) → List Value) (L0 : (Nat → Nat) → List (Option Value)) {M : Mem} {post : Mem → Prop} (hy : plainName y.cls = true) (hlen : ∀ a, (lg_sl (av a)).length ≤ nl) (hL : ∀ a, L0 a = lvL (av a) ++ List.replicate k none) (hn : ∀ a, (L0 a).length = nl)
    (hz : ∀ X : CT, okX X y.cls cb f lo → (∀ (M' : Mem), post M' → RetV X cb M') → Z X M 0 (L0 (adX X)) []) : CtV l D cs ad y cb nl none f lo (av ad) M post := by
  refine Met.ofW (cc := cb) (maxL := nl) (ret := none) hy rfl ?_
  intro p e s m args below meth c s₁ B hml hv
  obtain ⟨rfl, hP, hK, hI⟩ := hv
  have hts := atoms_spec (ws := Cond.code y cb nl none :: gtb) B.pre
  have hl := lh_entry (hlen ad) (hL ad) (hn ad)
  rw [← hml] at hl
  rw [lg_entry_eq]
  rw [← hml]
  exact hz ((p, l, e, (headSpec (Cond.code y cb nl none :: gtb) { frames := f, cells := 0, slots := 0, locals := lo }).room, s, m, (av ad).toArray, below, meth, c), (AW ad, ad, cs, D, 0, 0, MQ below (va_Qv post (BM D cs ad) (AW ad)) (av ad).toArray s 0 0 (AW ad))) ⟨B.exec, B.bytes, findClass_of_methodNamed B.named, fun w hw => hts w (List.mem_cons_of_mem _ hw), hK, ⟨hI, fun _ h => h⟩, rfl, rfl, Nat.zero_le _, Nat.zero_le _⟩ (fun M' hp => fun pc ls H locs hd hP hS => W.vret B.exec B.bytes B.returns (fun t ht hW => ⟨⟨M', rfl, hp, by unfold BM; rw [ht]; exact hP⟩, hS.F ht⟩) hS.2.2 hd B.notSynchronized) s.heap [] _ hP va_S.rf hl

def FV (own : String) (idx : Nat) (C : String) (y : MethodName) (cb : ByteArray) (nl : Nat) (ret : Option FieldType) (n : Nat) : Prop := Cond.methodLink own idx y ∈ gtb ∧ Cond.instanceMethod y ∈ gtb ∧ Cond.selects C y y ∈ gtb ∧ Cond.initialized C ∈ gtb ∧ Cond.code y cb nl ret ∈ gtb ∧ y.cls = C ∧ (y.cls ≠ "java/lang/invoke/MethodHandle" ∧ y.cls ≠ "java/lang/invoke/VarHandle" ∧ (parseMethodDescriptor y.desc).map (fun d => d.parameters.length) = some n)
def FS (own : String) (idx : Nat) (y : MethodName) (cb : ByteArray) (nl : Nat) (ret : Option FieldType) (n : Nat) : Prop := Cond.methodLink own idx y ∈ gtb ∧ Cond.static y ∈ gtb ∧ Cond.initialized y.cls ∈ gtb ∧ Cond.code y cb nl ret ∈ gtb ∧ (y.cls ≠ "java/lang/invoke/MethodHandle" ∧ y.cls ≠ "java/lang/invoke/VarHandle" ∧ (parseMethodDescriptor y.desc).map (fun d => d.parameters.length) = some n)
theorem cons_good {w : Cond} (h : w ∈ gtb) : GoodIn gtb (w :: gtb) := good_sub (fun v hv => (List.mem_cons.mp hv).elim (fun e => e ▸ h) id)
theorem r_cVi_g {X : CT} {own : String} {cc : ByteArray} {f lo : Nat} {M : Mem} {pc : Nat} {L : List (Option Value)} {st st0 : List Value} (hX : okX X own cc f lo) {k ci N idx nl n f' lo' : Nat} {T : u_T} {C : String} {y : MethodName} {cb : ByteArray} {ret : Option FieldType} {fl : List (Option Nat)} {As : List Value} {post : Int32 → Mem → Prop} (hV : FV own idx C y cb nl ret n) (hl0 : lyl[k]? = some (.inl (ci, fl))) (hci : vwCl[ci]? = some (C, T, N)) (hR2 : f' + 1 ≤ f ∧ 8 + (nl + 11) + lo' ≤ lo)
    (hM : CtI (lnX X) (dgX X) (csX X) (adX X) y cb nl ret f' lo' (.ref (adX X k) :: As) M post) (hn : As.length = n) (hst : st0 = As.reverse ++ .ref (adX X k) :: st) (hcat : (st.map fun v => v.category).sum ≤ 8) (hd : decode cc pc = .ok (.invokevirtual idx, 3)) (kk : ∀ (r : Int32) (M' : Mem), post r M' → Z X M' (pc + 3) L (.int r :: st)) : Z X M pc L st0 := by
  obtain ⟨⟨p, l, e, R, s, m, args, below, meth, c⟩, A, ad, cs, D, cells, slots, Q⟩ := X
  obtain ⟨hx, hb, hown, hts, hK, hA, hR⟩ := hX
  intro H locs ls hP hS hl
  obtain ⟨v1, v2, v3, v4, v5, v6, v7⟩ := hV
  obtain ⟨r1, r2, r3, r4⟩ := hR
  have hT : GoodIn gtb (wsV own idx C y (Cond.code y cb nl ret :: gtb)) := by
    intro w hw
    rcases List.mem_append.mp (show w ∈ _ ++ _ from hw) with h | h
    · refine good_sub (ws := [.methodLink own idx y, .instanceMethod y, .selects C y y, .initialized C]) ?_ w h
      intro q hq
      simp only [List.mem_cons, List.not_mem_nil, or_false] at hq
      rcases hq with rfl | rfl | rfl | rfl
      · exact v1
      · exact v2
      · exact v3
      · exact v4
    · exact cons_good v5 w h
  refine va_calli (va_runV (As := As) (rest := st) ⟨hx, hb, rfl, hown, hts⟩ hM (cwV n hts hT rfl rfl rfl ⟨v6, v7⟩ (by rw [r1, r2]; exact hR2)) ⟨PcM_blind, va_recv hK hP hci (wld_get hl0), fun U hU hW => ⟨rfl, by rw [hU]; exact hP, va_K.moved hW.alike hK, hA.1⟩⟩ rfl hn hl.2.1 hst (lv_room hcat) hd ⟨r3, r4⟩) hS (fun q _ h => hA.2 q h) hA.2 (fun r u t H1 locs1 ht hvm hp hB hz1 hk1 hS1 => kk r u hp H1 locs1 ls (by unfold BM at hB; rw [ht] at hB; exact hB) hS1 hl)
theorem r_cSi_g {X : CT} {own : String} {cc : ByteArray} {f lo : Nat} {M : Mem} {pc : Nat} {L : List (Option Value)} {st st0 : List Value} (hX : okX X own cc f lo) {idx nl n f' lo' : Nat} {y : MethodName} {cb : ByteArray} {ret : Option FieldType} {As : List Value} {post : Int32 → Mem → Prop} (hV : FS own idx y cb nl ret n) (hR2 : f' + 1 ≤ f ∧ 8 + (nl + 11) + lo' ≤ lo)
    (hM : CtI (lnX X) (dgX X) (csX X) (adX X) y cb nl ret f' lo' As M post) (hn : As.length = n) (hst : st0 = As.reverse ++ st) (hcat : (st.map fun v => v.category).sum ≤ 8) (hd : decode cc pc = .ok (.invokestatic idx, 3)) (kk : ∀ (r : Int32) (M' : Mem), post r M' → Z X M' (pc + 3) L (.int r :: st)) : Z X M pc L st0 := by
  obtain ⟨⟨p, l, e, R, s, m, args, below, meth, c⟩, A, ad, cs, D, cells, slots, Q⟩ := X
  obtain ⟨hx, hb, hown, hts, hK, hA, hR⟩ := hX
  intro H locs ls hP hS hl
  obtain ⟨v1, v2, v3, v4, v5⟩ := hV
  obtain ⟨r1, r2, r3, r4⟩ := hR
  refine va_calli (va_runS (As := As) (rest := st) ⟨hx, hb, rfl, hown, hts⟩ hM ⟨callB_of n hts (cons_good v4) rfl rfl rfl (hts _ v3) (hts _ v1) v5 (by rw [r1, r2]; exact hR2), hts _ v2⟩ ⟨PcM_blind, fun U hU hW => ⟨rfl, by rw [hU]; exact hP, va_K.moved hW.alike hK, hA.1⟩⟩ rfl hn hl.2.1 hst (lv_room hcat) hd ⟨r3, r4⟩) hS (fun q _ h => hA.2 q h) hA.2 (fun r u t H1 locs1 ht hvm hp hB hz1 hk1 hS1 => kk r u hp H1 locs1 ls (by unfold BM at hB; rw [ht] at hB; exact hB) hS1 hl)
theorem r_cVi0 {X : CT} {own : String} {cc : ByteArray} {f lo : Nat} {M : Mem} {pc : Nat} {L : List (Option Value)} {st : List Value} (hX : okX X own cc f lo) {k ci N idx nl f' lo' : Nat} {T : u_T} {C : String} {y : MethodName} {cb : ByteArray} {ret : Option FieldType} {fl : List (Option Nat)} {post : Int32 → Mem → Prop} (hV : FV own idx C y cb nl ret 0) (hl0 : lyl[k]? = some (.inl (ci, fl))) (hci : vwCl[ci]? = some (C, T, N)) (hR2 : f' + 1 ≤ f ∧ 8 + (nl + 11) + lo' ≤ lo) (hM : CtI (lnX X) (dgX X) (csX X) (adX X) y cb nl ret f' lo' (.ref (adX X k) :: []) M post) (hcat : (st.map fun v => v.category).sum ≤ 8) (hd : decode cc pc = .ok (.invokevirtual idx, 3)) (kk : ∀ (r : Int32) (M' : Mem), post r M' → Z X M' (pc + 3) L (.int r :: st)) : Z X M pc L (.ref (adX X k) :: st) := r_cVi_g (As := []) hX hV hl0 hci hR2 hM rfl rfl hcat hd kk
theorem r_cVi1 {X : CT} {own : String} {cc : ByteArray} {f lo : Nat} {M : Mem} {pc : Nat} {L : List (Option Value)} {st : List Value} (hX : okX X own cc f lo) {k ci N idx nl f' lo' : Nat} {T : u_T} {C : String} {y : MethodName} {cb : ByteArray} {ret : Option FieldType} {fl : List (Option Nat)} {v1 : Value} {post : Int32 → Mem → Prop} (hV : FV own idx C y cb nl ret 1) (hl0 : lyl[k]? = some (.inl (ci, fl))) (hci : vwCl[ci]? = some (C, T, N)) (hR2 : f' + 1 ≤ f ∧ 8 + (nl + 11) + lo' ≤ lo) (hM : CtI (lnX X) (dgX X) (csX X) (adX X) y cb nl ret f' lo' (.ref (adX X k) :: [v1]) M post) (hcat : (st.map fun v => v.category).sum ≤ 8) (hd : decode cc pc = .ok (.invokevirtual idx, 3)) (kk : ∀ (r : Int32) (M' : Mem), post r M' → Z X M' (pc + 3) L (.int r :: st)) : Z X M pc L (v1 :: .ref (adX X k) :: st) := r_cVi_g (As := [v1]) hX hV hl0 hci hR2 hM rfl rfl hcat hd kk
theorem r_cSi1 {X : CT} {own : String} {cc : ByteArray} {f lo : Nat} {M : Mem} {pc : Nat} {L : List (Option Value)} {st : List Value} (hX : okX X own cc f lo) {idx nl f' lo' : Nat} {y : MethodName} {cb : ByteArray} {ret : Option FieldType} {v1 : Value} {post : Int32 → Mem → Prop} (hV : FS own idx y cb nl ret 1) (hR2 : f' + 1 ≤ f ∧ 8 + (nl + 11) + lo' ≤ lo) (hM : CtI (lnX X) (dgX X) (csX X) (adX X) y cb nl ret f' lo' [v1] M post) (hcat : (st.map fun v => v.category).sum ≤ 8) (hd : decode cc pc = .ok (.invokestatic idx, 3)) (kk : ∀ (r : Int32) (M' : Mem), post r M' → Z X M' (pc + 3) L (.int r :: st)) : Z X M pc L (v1 :: st) := r_cSi_g (As := [v1]) hX hV hR2 hM rfl rfl hcat hd kk
theorem r_cVi2 {X : CT} {own : String} {cc : ByteArray} {f lo : Nat} {M : Mem} {pc : Nat} {L : List (Option Value)} {st : List Value} (hX : okX X own cc f lo) {k ci N idx nl f' lo' : Nat} {T : u_T} {C : String} {y : MethodName} {cb : ByteArray} {ret : Option FieldType} {fl : List (Option Nat)} {v1 v2 : Value} {post : Int32 → Mem → Prop} (hV : FV own idx C y cb nl ret 2) (hl0 : lyl[k]? = some (.inl (ci, fl))) (hci : vwCl[ci]? = some (C, T, N)) (hR2 : f' + 1 ≤ f ∧ 8 + (nl + 11) + lo' ≤ lo) (hM : CtI (lnX X) (dgX X) (csX X) (adX X) y cb nl ret f' lo' (.ref (adX X k) :: [v1, v2]) M post) (hcat : (st.map fun v => v.category).sum ≤ 8) (hd : decode cc pc = .ok (.invokevirtual idx, 3)) (kk : ∀ (r : Int32) (M' : Mem), post r M' → Z X M' (pc + 3) L (.int r :: st)) : Z X M pc L (v2 :: v1 :: .ref (adX X k) :: st) := r_cVi_g (As := [v1, v2]) hX hV hl0 hci hR2 hM rfl rfl hcat hd kk
theorem r_cSi2 {X : CT} {own : String} {cc : ByteArray} {f lo : Nat} {M : Mem} {pc : Nat} {L : List (Option Value)} {st : List Value} (hX : okX X own cc f lo) {idx nl f' lo' : Nat} {y : MethodName} {cb : ByteArray} {ret : Option FieldType} {v1 v2 : Value} {post : Int32 → Mem → Prop} (hV : FS own idx y cb nl ret 2) (hR2 : f' + 1 ≤ f ∧ 8 + (nl + 11) + lo' ≤ lo) (hM : CtI (lnX X) (dgX X) (csX X) (adX X) y cb nl ret f' lo' [v1, v2] M post) (hcat : (st.map fun v => v.category).sum ≤ 8) (hd : decode cc pc = .ok (.invokestatic idx, 3)) (kk : ∀ (r : Int32) (M' : Mem), post r M' → Z X M' (pc + 3) L (.int r :: st)) : Z X M pc L (v2 :: v1 :: st) := r_cSi_g (As := [v1, v2]) hX hV hR2 hM rfl rfl hcat hd kk
theorem r_cVi3 {X : CT} {own : String} {cc : ByteArray} {f lo : Nat} {M : Mem} {pc : Nat} {L : List (Option Value)} {st : List Value} (hX : okX X own cc f lo) {k ci N idx nl f' lo' : Nat} {T : u_T} {C : String} {y : MethodName} {cb : ByteArray} {ret : Option FieldType} {fl : List (Option Nat)} {v1 v2 v3 : Value} {post : Int32 → Mem → Prop} (hV : FV own idx C y cb nl ret 3) (hl0 : lyl[k]? = some (.inl (ci, fl))) (hci : vwCl[ci]? = some (C, T, N)) (hR2 : f' + 1 ≤ f ∧ 8 + (nl + 11) + lo' ≤ lo) (hM : CtI (lnX X) (dgX X) (csX X) (adX X) y cb nl ret f' lo' (.ref (adX X k) :: [v1, v2, v3]) M post) (hcat : (st.map fun v => v.category).sum ≤ 8) (hd : decode cc pc = .ok (.invokevirtual idx, 3)) (kk : ∀ (r : Int32) (M' : Mem), post r M' → Z X M' (pc + 3) L (.int r :: st)) : Z X M pc L (v3 :: v2 :: v1 :: .ref (adX X k) :: st) := r_cVi_g (As := [v1, v2, v3]) hX hV hl0 hci hR2 hM rfl rfl hcat hd kk
theorem r_cSi3 {X : CT} {own : String} {cc : ByteArray} {f lo : Nat} {M : Mem} {pc : Nat} {L : List (Option Value)} {st : List Value} (hX : okX X own cc f lo) {idx nl f' lo' : Nat} {y : MethodName} {cb : ByteArray} {ret : Option FieldType} {v1 v2 v3 : Value} {post : Int32 → Mem → Prop} (hV : FS own idx y cb nl ret 3) (hR2 : f' + 1 ≤ f ∧ 8 + (nl + 11) + lo' ≤ lo) (hM : CtI (lnX X) (dgX X) (csX X) (adX X) y cb nl ret f' lo' [v1, v2, v3] M post) (hcat : (st.map fun v => v.category).sum ≤ 8) (hd : decode cc pc = .ok (.invokestatic idx, 3)) (kk : ∀ (r : Int32) (M' : Mem), post r M' → Z X M' (pc + 3) L (.int r :: st)) : Z X M pc L (v3 :: v2 :: v1 :: st) := r_cSi_g (As := [v1, v2, v3]) hX hV hR2 hM rfl rfl hcat hd kk
theorem r_cVi4 {X : CT} {own : String} {cc : ByteArray} {f lo : Nat} {M : Mem} {pc : Nat} {L : List (Option Value)} {st : List Value} (hX : okX X own cc f lo) {k ci N idx nl f' lo' : Nat} {T : u_T} {C : String} {y : MethodName} {cb : ByteArray} {ret : Option FieldType} {fl : List (Option Nat)} {v1 v2 v3 v4 : Value} {post : Int32 → Mem → Prop} (hV : FV own idx C y cb nl ret 4) (hl0 : lyl[k]? = some (.inl (ci, fl))) (hci : vwCl[ci]? = some (C, T, N)) (hR2 : f' + 1 ≤ f ∧ 8 + (nl + 11) + lo' ≤ lo) (hM : CtI (lnX X) (dgX X) (csX X) (adX X) y cb nl ret f' lo' (.ref (adX X k) :: [v1, v2, v3, v4]) M post) (hcat : (st.map fun v => v.category).sum ≤ 8) (hd : decode cc pc = .ok (.invokevirtual idx, 3)) (kk : ∀ (r : Int32) (M' : Mem), post r M' → Z X M' (pc + 3) L (.int r :: st)) : Z X M pc L (v4 :: v3 :: v2 :: v1 :: .ref (adX X k) :: st) := r_cVi_g (As := [v1, v2, v3, v4]) hX hV hl0 hci hR2 hM rfl rfl hcat hd kk
theorem r_cSi4 {X : CT} {own : String} {cc : ByteArray} {f lo : Nat} {M : Mem} {pc : Nat} {L : List (Option Value)} {st : List Value} (hX : okX X own cc f lo) {idx nl f' lo' : Nat} {y : MethodName} {cb : ByteArray} {ret : Option FieldType} {v1 v2 v3 v4 : Value} {post : Int32 → Mem → Prop} (hV : FS own idx y cb nl ret 4) (hR2 : f' + 1 ≤ f ∧ 8 + (nl + 11) + lo' ≤ lo) (hM : CtI (lnX X) (dgX X) (csX X) (adX X) y cb nl ret f' lo' [v1, v2, v3, v4] M post) (hcat : (st.map fun v => v.category).sum ≤ 8) (hd : decode cc pc = .ok (.invokestatic idx, 3)) (kk : ∀ (r : Int32) (M' : Mem), post r M' → Z X M' (pc + 3) L (.int r :: st)) : Z X M pc L (v4 :: v3 :: v2 :: v1 :: st) := r_cSi_g (As := [v1, v2, v3, v4]) hX hV hR2 hM rfl rfl hcat hd kk
theorem r_cVi5 {X : CT} {own : String} {cc : ByteArray} {f lo : Nat} {M : Mem} {pc : Nat} {L : List (Option Value)} {st : List Value} (hX : okX X own cc f lo) {k ci N idx nl f' lo' : Nat} {T : u_T} {C : String} {y : MethodName} {cb : ByteArray} {ret : Option FieldType} {fl : List (Option Nat)} {v1 v2 v3 v4 v5 : Value} {post : Int32 → Mem → Prop} (hV : FV own idx C y cb nl ret 5) (hl0 : lyl[k]? = some (.inl (ci, fl))) (hci : vwCl[ci]? = some (C, T, N)) (hR2 : f' + 1 ≤ f ∧ 8 + (nl + 11) + lo' ≤ lo) (hM : CtI (lnX X) (dgX X) (csX X) (adX X) y cb nl ret f' lo' (.ref (adX X k) :: [v1, v2, v3, v4, v5]) M post) (hcat : (st.map fun v => v.category).sum ≤ 8) (hd : decode cc pc = .ok (.invokevirtual idx, 3)) (kk : ∀ (r : Int32) (M' : Mem), post r M' → Z X M' (pc + 3) L (.int r :: st)) : Z X M pc L (v5 :: v4 :: v3 :: v2 :: v1 :: .ref (adX X k) :: st) := r_cVi_g (As := [v1, v2, v3, v4, v5]) hX hV hl0 hci hR2 hM rfl rfl hcat hd kk
theorem r_cSi5 {X : CT} {own : String} {cc : ByteArray} {f lo : Nat} {M : Mem} {pc : Nat} {L : List (Option Value)} {st : List Value} (hX : okX X own cc f lo) {idx nl f' lo' : Nat} {y : MethodName} {cb : ByteArray} {ret : Option FieldType} {v1 v2 v3 v4 v5 : Value} {post : Int32 → Mem → Prop} (hV : FS own idx y cb nl ret 5) (hR2 : f' + 1 ≤ f ∧ 8 + (nl + 11) + lo' ≤ lo) (hM : CtI (lnX X) (dgX X) (csX X) (adX X) y cb nl ret f' lo' [v1, v2, v3, v4, v5] M post) (hcat : (st.map fun v => v.category).sum ≤ 8) (hd : decode cc pc = .ok (.invokestatic idx, 3)) (kk : ∀ (r : Int32) (M' : Mem), post r M' → Z X M' (pc + 3) L (.int r :: st)) : Z X M pc L (v5 :: v4 :: v3 :: v2 :: v1 :: st) := r_cSi_g (As := [v1, v2, v3, v4, v5]) hX hV hR2 hM rfl rfl hcat hd kk
theorem r_cVl_g {X : CT} {own : String} {cc : ByteArray} {f lo : Nat} {M : Mem} {pc : Nat} {L : List (Option Value)} {st st0 : List Value} (hX : okX X own cc f lo) {k ci N idx nl n f' lo' : Nat} {T : u_T} {C : String} {y : MethodName} {cb : ByteArray} {ret : Option FieldType} {fl : List (Option Nat)} {As : List Value} {post : Int64 → Mem → Prop} (hV : FV own idx C y cb nl ret n) (hl0 : lyl[k]? = some (.inl (ci, fl))) (hci : vwCl[ci]? = some (C, T, N)) (hR2 : f' + 1 ≤ f ∧ 8 + (nl + 11) + lo' ≤ lo)
    (hM : CtL (lnX X) (dgX X) (csX X) (adX X) y cb nl ret f' lo' (.ref (adX X k) :: As) M post) (hn : As.length = n) (hst : st0 = As.reverse ++ .ref (adX X k) :: st) (hcat : (st.map fun v => v.category).sum ≤ 8) (hd : decode cc pc = .ok (.invokevirtual idx, 3)) (kk : ∀ (r : Int64) (M' : Mem), post r M' → Z X M' (pc + 3) L (.long r :: st)) : Z X M pc L st0 := by
  obtain ⟨⟨p, l, e, R, s, m, args, below, meth, c⟩, A, ad, cs, D, cells, slots, Q⟩ := X
  obtain ⟨hx, hb, hown, hts, hK, hA, hR⟩ := hX
  intro H locs ls hP hS hl
  obtain ⟨v1, v2, v3, v4, v5, v6, v7⟩ := hV
  obtain ⟨r1, r2, r3, r4⟩ := hR
  have hT : GoodIn gtb (wsV own idx C y (Cond.code y cb nl ret :: gtb)) := by
    intro w hw
    rcases List.mem_append.mp (show w ∈ _ ++ _ from hw) with h | h
    · refine good_sub (ws := [.methodLink own idx y, .instanceMethod y, .selects C y y, .initialized C]) ?_ w h
      intro q hq
      simp only [List.mem_cons, List.not_mem_nil, or_false] at hq
      rcases hq with rfl | rfl | rfl | rfl
      · exact v1
      · exact v2
      · exact v3
      · exact v4
    · exact cons_good v5 w h
  refine va_calll (va_runV (As := As) (rest := st) ⟨hx, hb, rfl, hown, hts⟩ hM (cwV n hts hT rfl rfl rfl ⟨v6, v7⟩ (by rw [r1, r2]; exact hR2)) ⟨PcM_blind, va_recv hK hP hci (wld_get hl0), fun U hU hW => ⟨rfl, by rw [hU]; exact hP, va_K.moved hW.alike hK, hA.1⟩⟩ rfl hn hl.2.1 hst (lv_room hcat) hd ⟨r3, r4⟩) hS (fun q _ h => hA.2 q h) hA.2 (fun r u t H1 locs1 ht hvm hp hB hz1 hk1 hS1 => kk r u hp H1 locs1 ls (by unfold BM at hB; rw [ht] at hB; exact hB) hS1 hl)
theorem r_cSl_g {X : CT} {own : String} {cc : ByteArray} {f lo : Nat} {M : Mem} {pc : Nat} {L : List (Option Value)} {st st0 : List Value} (hX : okX X own cc f lo) {idx nl n f' lo' : Nat} {y : MethodName} {cb : ByteArray} {ret : Option FieldType} {As : List Value} {post : Int64 → Mem → Prop} (hV : FS own idx y cb nl ret n) (hR2 : f' + 1 ≤ f ∧ 8 + (nl + 11) + lo' ≤ lo)
    (hM : CtL (lnX X) (dgX X) (csX X) (adX X) y cb nl ret f' lo' As M post) (hn : As.length = n) (hst : st0 = As.reverse ++ st) (hcat : (st.map fun v => v.category).sum ≤ 8) (hd : decode cc pc = .ok (.invokestatic idx, 3)) (kk : ∀ (r : Int64) (M' : Mem), post r M' → Z X M' (pc + 3) L (.long r :: st)) : Z X M pc L st0 := by
  obtain ⟨⟨p, l, e, R, s, m, args, below, meth, c⟩, A, ad, cs, D, cells, slots, Q⟩ := X
  obtain ⟨hx, hb, hown, hts, hK, hA, hR⟩ := hX
  intro H locs ls hP hS hl
  obtain ⟨v1, v2, v3, v4, v5⟩ := hV
  obtain ⟨r1, r2, r3, r4⟩ := hR
  refine va_calll (va_runS (As := As) (rest := st) ⟨hx, hb, rfl, hown, hts⟩ hM ⟨callB_of n hts (cons_good v4) rfl rfl rfl (hts _ v3) (hts _ v1) v5 (by rw [r1, r2]; exact hR2), hts _ v2⟩ ⟨PcM_blind, fun U hU hW => ⟨rfl, by rw [hU]; exact hP, va_K.moved hW.alike hK, hA.1⟩⟩ rfl hn hl.2.1 hst (lv_room hcat) hd ⟨r3, r4⟩) hS (fun q _ h => hA.2 q h) hA.2 (fun r u t H1 locs1 ht hvm hp hB hz1 hk1 hS1 => kk r u hp H1 locs1 ls (by unfold BM at hB; rw [ht] at hB; exact hB) hS1 hl)
theorem r_cVl0 {X : CT} {own : String} {cc : ByteArray} {f lo : Nat} {M : Mem} {pc : Nat} {L : List (Option Value)} {st : List Value} (hX : okX X own cc f lo) {k ci N idx nl f' lo' : Nat} {T : u_T} {C : String} {y : MethodName} {cb : ByteArray} {ret : Option FieldType} {fl : List (Option Nat)} {post : Int64 → Mem → Prop} (hV : FV own idx C y cb nl ret 0) (hl0 : lyl[k]? = some (.inl (ci, fl))) (hci : vwCl[ci]? = some (C, T, N)) (hR2 : f' + 1 ≤ f ∧ 8 + (nl + 11) + lo' ≤ lo) (hM : CtL (lnX X) (dgX X) (csX X) (adX X) y cb nl ret f' lo' (.ref (adX X k) :: []) M post) (hcat : (st.map fun v => v.category).sum ≤ 8) (hd : decode cc pc = .ok (.invokevirtual idx, 3)) (kk : ∀ (r : Int64) (M' : Mem), post r M' → Z X M' (pc + 3) L (.long r :: st)) : Z X M pc L (.ref (adX X k) :: st) := r_cVl_g (As := []) hX hV hl0 hci hR2 hM rfl rfl hcat hd kk
theorem r_cVl1 {X : CT} {own : String} {cc : ByteArray} {f lo : Nat} {M : Mem} {pc : Nat} {L : List (Option Value)} {st : List Value} (hX : okX X own cc f lo) {k ci N idx nl f' lo' : Nat} {T : u_T} {C : String} {y : MethodName} {cb : ByteArray} {ret : Option FieldType} {fl : List (Option Nat)} {v1 : Value} {post : Int64 → Mem → Prop} (hV : FV own idx C y cb nl ret 1) (hl0 : lyl[k]? = some (.inl (ci, fl))) (hci : vwCl[ci]? = some (C, T, N)) (hR2 : f' + 1 ≤ f ∧ 8 + (nl + 11) + lo' ≤ lo) (hM : CtL (lnX X) (dgX X) (csX X) (adX X) y cb nl ret f' lo' (.ref (adX X k) :: [v1]) M post) (hcat : (st.map fun v => v.category).sum ≤ 8) (hd : decode cc pc = .ok (.invokevirtual idx, 3)) (kk : ∀ (r : Int64) (M' : Mem), post r M' → Z X M' (pc + 3) L (.long r :: st)) : Z X M pc L (v1 :: .ref (adX X k) :: st) := r_cVl_g (As := [v1]) hX hV hl0 hci hR2 hM rfl rfl hcat hd kk
theorem r_cSl1 {X : CT} {own : String} {cc : ByteArray} {f lo : Nat} {M : Mem} {pc : Nat} {L : List (Option Value)} {st : List Value} (hX : okX X own cc f lo) {idx nl f' lo' : Nat} {y : MethodName} {cb : ByteArray} {ret : Option FieldType} {v1 : Value} {post : Int64 → Mem → Prop} (hV : FS own idx y cb nl ret 1) (hR2 : f' + 1 ≤ f ∧ 8 + (nl + 11) + lo' ≤ lo) (hM : CtL (lnX X) (dgX X) (csX X) (adX X) y cb nl ret f' lo' [v1] M post) (hcat : (st.map fun v => v.category).sum ≤ 8) (hd : decode cc pc = .ok (.invokestatic idx, 3)) (kk : ∀ (r : Int64) (M' : Mem), post r M' → Z X M' (pc + 3) L (.long r :: st)) : Z X M pc L (v1 :: st) := r_cSl_g (As := [v1]) hX hV hR2 hM rfl rfl hcat hd kk
theorem r_cVl2 {X : CT} {own : String} {cc : ByteArray} {f lo : Nat} {M : Mem} {pc : Nat} {L : List (Option Value)} {st : List Value} (hX : okX X own cc f lo) {k ci N idx nl f' lo' : Nat} {T : u_T} {C : String} {y : MethodName} {cb : ByteArray} {ret : Option FieldType} {fl : List (Option Nat)} {v1 v2 : Value} {post : Int64 → Mem → Prop} (hV : FV own idx C y cb nl ret 2) (hl0 : lyl[k]? = some (.inl (ci, fl))) (hci : vwCl[ci]? = some (C, T, N)) (hR2 : f' + 1 ≤ f ∧ 8 + (nl + 11) + lo' ≤ lo) (hM : CtL (lnX X) (dgX X) (csX X) (adX X) y cb nl ret f' lo' (.ref (adX X k) :: [v1, v2]) M post) (hcat : (st.map fun v => v.category).sum ≤ 8) (hd : decode cc pc = .ok (.invokevirtual idx, 3)) (kk : ∀ (r : Int64) (M' : Mem), post r M' → Z X M' (pc + 3) L (.long r :: st)) : Z X M pc L (v2 :: v1 :: .ref (adX X k) :: st) := r_cVl_g (As := [v1, v2]) hX hV hl0 hci hR2 hM rfl rfl hcat hd kk
theorem r_cSl2 {X : CT} {own : String} {cc : ByteArray} {f lo : Nat} {M : Mem} {pc : Nat} {L : List (Option Value)} {st : List Value} (hX : okX X own cc f lo) {idx nl f' lo' : Nat} {y : MethodName} {cb : ByteArray} {ret : Option FieldType} {v1 v2 : Value} {post : Int64 → Mem → Prop} (hV : FS own idx y cb nl ret 2) (hR2 : f' + 1 ≤ f ∧ 8 + (nl + 11) + lo' ≤ lo) (hM : CtL (lnX X) (dgX X) (csX X) (adX X) y cb nl ret f' lo' [v1, v2] M post) (hcat : (st.map fun v => v.category).sum ≤ 8) (hd : decode cc pc = .ok (.invokestatic idx, 3)) (kk : ∀ (r : Int64) (M' : Mem), post r M' → Z X M' (pc + 3) L (.long r :: st)) : Z X M pc L (v2 :: v1 :: st) := r_cSl_g (As := [v1, v2]) hX hV hR2 hM rfl rfl hcat hd kk
theorem r_cVl3 {X : CT} {own : String} {cc : ByteArray} {f lo : Nat} {M : Mem} {pc : Nat} {L : List (Option Value)} {st : List Value} (hX : okX X own cc f lo) {k ci N idx nl f' lo' : Nat} {T : u_T} {C : String} {y : MethodName} {cb : ByteArray} {ret : Option FieldType} {fl : List (Option Nat)} {v1 v2 v3 : Value} {post : Int64 → Mem → Prop} (hV : FV own idx C y cb nl ret 3) (hl0 : lyl[k]? = some (.inl (ci, fl))) (hci : vwCl[ci]? = some (C, T, N)) (hR2 : f' + 1 ≤ f ∧ 8 + (nl + 11) + lo' ≤ lo) (hM : CtL (lnX X) (dgX X) (csX X) (adX X) y cb nl ret f' lo' (.ref (adX X k) :: [v1, v2, v3]) M post) (hcat : (st.map fun v => v.category).sum ≤ 8) (hd : decode cc pc = .ok (.invokevirtual idx, 3)) (kk : ∀ (r : Int64) (M' : Mem), post r M' → Z X M' (pc + 3) L (.long r :: st)) : Z X M pc L (v3 :: v2 :: v1 :: .ref (adX X k) :: st) := r_cVl_g (As := [v1, v2, v3]) hX hV hl0 hci hR2 hM rfl rfl hcat hd kk
theorem r_cSl3 {X : CT} {own : String} {cc : ByteArray} {f lo : Nat} {M : Mem} {pc : Nat} {L : List (Option Value)} {st : List Value} (hX : okX X own cc f lo) {idx nl f' lo' : Nat} {y : MethodName} {cb : ByteArray} {ret : Option FieldType} {v1 v2 v3 : Value} {post : Int64 → Mem → Prop} (hV : FS own idx y cb nl ret 3) (hR2 : f' + 1 ≤ f ∧ 8 + (nl + 11) + lo' ≤ lo) (hM : CtL (lnX X) (dgX X) (csX X) (adX X) y cb nl ret f' lo' [v1, v2, v3] M post) (hcat : (st.map fun v => v.category).sum ≤ 8) (hd : decode cc pc = .ok (.invokestatic idx, 3)) (kk : ∀ (r : Int64) (M' : Mem), post r M' → Z X M' (pc + 3) L (.long r :: st)) : Z X M pc L (v3 :: v2 :: v1 :: st) := r_cSl_g (As := [v1, v2, v3]) hX hV hR2 hM rfl rfl hcat hd kk
theorem r_cVl4 {X : CT} {own : String} {cc : ByteArray} {f lo : Nat} {M : Mem} {pc : Nat} {L : List (Option Value)} {st : List Value} (hX : okX X own cc f lo) {k ci N idx nl f' lo' : Nat} {T : u_T} {C : String} {y : MethodName} {cb : ByteArray} {ret : Option FieldType} {fl : List (Option Nat)} {v1 v2 v3 v4 : Value} {post : Int64 → Mem → Prop} (hV : FV own idx C y cb nl ret 4) (hl0 : lyl[k]? = some (.inl (ci, fl))) (hci : vwCl[ci]? = some (C, T, N)) (hR2 : f' + 1 ≤ f ∧ 8 + (nl + 11) + lo' ≤ lo) (hM : CtL (lnX X) (dgX X) (csX X) (adX X) y cb nl ret f' lo' (.ref (adX X k) :: [v1, v2, v3, v4]) M post) (hcat : (st.map fun v => v.category).sum ≤ 8) (hd : decode cc pc = .ok (.invokevirtual idx, 3)) (kk : ∀ (r : Int64) (M' : Mem), post r M' → Z X M' (pc + 3) L (.long r :: st)) : Z X M pc L (v4 :: v3 :: v2 :: v1 :: .ref (adX X k) :: st) := r_cVl_g (As := [v1, v2, v3, v4]) hX hV hl0 hci hR2 hM rfl rfl hcat hd kk
theorem r_cSl4 {X : CT} {own : String} {cc : ByteArray} {f lo : Nat} {M : Mem} {pc : Nat} {L : List (Option Value)} {st : List Value} (hX : okX X own cc f lo) {idx nl f' lo' : Nat} {y : MethodName} {cb : ByteArray} {ret : Option FieldType} {v1 v2 v3 v4 : Value} {post : Int64 → Mem → Prop} (hV : FS own idx y cb nl ret 4) (hR2 : f' + 1 ≤ f ∧ 8 + (nl + 11) + lo' ≤ lo) (hM : CtL (lnX X) (dgX X) (csX X) (adX X) y cb nl ret f' lo' [v1, v2, v3, v4] M post) (hcat : (st.map fun v => v.category).sum ≤ 8) (hd : decode cc pc = .ok (.invokestatic idx, 3)) (kk : ∀ (r : Int64) (M' : Mem), post r M' → Z X M' (pc + 3) L (.long r :: st)) : Z X M pc L (v4 :: v3 :: v2 :: v1 :: st) := r_cSl_g (As := [v1, v2, v3, v4]) hX hV hR2 hM rfl rfl hcat hd kk
theorem r_cVl5 {X : CT} {own : String} {cc : ByteArray} {f lo : Nat} {M : Mem} {pc : Nat} {L : List (Option Value)} {st : List Value} (hX : okX X own cc f lo) {k ci N idx nl f' lo' : Nat} {T : u_T} {C : String} {y : MethodName} {cb : ByteArray} {ret : Option FieldType} {fl : List (Option Nat)} {v1 v2 v3 v4 v5 : Value} {post : Int64 → Mem → Prop} (hV : FV own idx C y cb nl ret 5) (hl0 : lyl[k]? = some (.inl (ci, fl))) (hci : vwCl[ci]? = some (C, T, N)) (hR2 : f' + 1 ≤ f ∧ 8 + (nl + 11) + lo' ≤ lo) (hM : CtL (lnX X) (dgX X) (csX X) (adX X) y cb nl ret f' lo' (.ref (adX X k) :: [v1, v2, v3, v4, v5]) M post) (hcat : (st.map fun v => v.category).sum ≤ 8) (hd : decode cc pc = .ok (.invokevirtual idx, 3)) (kk : ∀ (r : Int64) (M' : Mem), post r M' → Z X M' (pc + 3) L (.long r :: st)) : Z X M pc L (v5 :: v4 :: v3 :: v2 :: v1 :: .ref (adX X k) :: st) := r_cVl_g (As := [v1, v2, v3, v4, v5]) hX hV hl0 hci hR2 hM rfl rfl hcat hd kk
theorem r_cSl5 {X : CT} {own : String} {cc : ByteArray} {f lo : Nat} {M : Mem} {pc : Nat} {L : List (Option Value)} {st : List Value} (hX : okX X own cc f lo) {idx nl f' lo' : Nat} {y : MethodName} {cb : ByteArray} {ret : Option FieldType} {v1 v2 v3 v4 v5 : Value} {post : Int64 → Mem → Prop} (hV : FS own idx y cb nl ret 5) (hR2 : f' + 1 ≤ f ∧ 8 + (nl + 11) + lo' ≤ lo) (hM : CtL (lnX X) (dgX X) (csX X) (adX X) y cb nl ret f' lo' [v1, v2, v3, v4, v5] M post) (hcat : (st.map fun v => v.category).sum ≤ 8) (hd : decode cc pc = .ok (.invokestatic idx, 3)) (kk : ∀ (r : Int64) (M' : Mem), post r M' → Z X M' (pc + 3) L (.long r :: st)) : Z X M pc L (v5 :: v4 :: v3 :: v2 :: v1 :: st) := r_cSl_g (As := [v1, v2, v3, v4, v5]) hX hV hR2 hM rfl rfl hcat hd kk
theorem r_cVv_g {X : CT} {own : String} {cc : ByteArray} {f lo : Nat} {M : Mem} {pc : Nat} {L : List (Option Value)} {st st0 : List Value} (hX : okX X own cc f lo) {k ci N idx nl n f' lo' : Nat} {T : u_T} {C : String} {y : MethodName} {cb : ByteArray} {ret : Option FieldType} {fl : List (Option Nat)} {As : List Value} {post : Mem → Prop} (hV : FV own idx C y cb nl ret n) (hl0 : lyl[k]? = some (.inl (ci, fl))) (hci : vwCl[ci]? = some (C, T, N)) (hR2 : f' + 1 ≤ f ∧ 8 + (nl + 11) + lo' ≤ lo)
    (hM : CtV (lnX X) (dgX X) (csX X) (adX X) y cb nl ret f' lo' (.ref (adX X k) :: As) M post) (hn : As.length = n) (hst : st0 = As.reverse ++ .ref (adX X k) :: st) (hcat : (st.map fun v => v.category).sum ≤ 8) (hd : decode cc pc = .ok (.invokevirtual idx, 3)) (kk : ∀ (M' : Mem), post M' → Z X M' (pc + 3) L st) : Z X M pc L st0 := by
  obtain ⟨⟨p, l, e, R, s, m, args, below, meth, c⟩, A, ad, cs, D, cells, slots, Q⟩ := X
  obtain ⟨hx, hb, hown, hts, hK, hA, hR⟩ := hX
  intro H locs ls hP hS hl
  obtain ⟨v1, v2, v3, v4, v5, v6, v7⟩ := hV
  obtain ⟨r1, r2, r3, r4⟩ := hR
  have hT : GoodIn gtb (wsV own idx C y (Cond.code y cb nl ret :: gtb)) := by
    intro w hw
    rcases List.mem_append.mp (show w ∈ _ ++ _ from hw) with h | h
    · refine good_sub (ws := [.methodLink own idx y, .instanceMethod y, .selects C y y, .initialized C]) ?_ w h
      intro q hq
      simp only [List.mem_cons, List.not_mem_nil, or_false] at hq
      rcases hq with rfl | rfl | rfl | rfl
      · exact v1
      · exact v2
      · exact v3
      · exact v4
    · exact cons_good v5 w h
  refine va_callv (va_runV (As := As) (rest := st) ⟨hx, hb, rfl, hown, hts⟩ hM (cwV n hts hT rfl rfl rfl ⟨v6, v7⟩ (by rw [r1, r2]; exact hR2)) ⟨PcM_blind, va_recv hK hP hci (wld_get hl0), fun U hU hW => ⟨rfl, by rw [hU]; exact hP, va_K.moved hW.alike hK, hA.1⟩⟩ rfl hn hl.2.1 hst (lv_room hcat) hd ⟨r3, r4⟩) hS (fun q _ h => hA.2 q h) hA.2 (fun u t H1 locs1 ht hvm hp hB hz1 hk1 hS1 => kk u hp H1 locs1 ls (by unfold BM at hB; rw [ht] at hB; exact hB) hS1 hl)
theorem r_cSv_g {X : CT} {own : String} {cc : ByteArray} {f lo : Nat} {M : Mem} {pc : Nat} {L : List (Option Value)} {st st0 : List Value} (hX : okX X own cc f lo) {idx nl n f' lo' : Nat} {y : MethodName} {cb : ByteArray} {ret : Option FieldType} {As : List Value} {post : Mem → Prop} (hV : FS own idx y cb nl ret n) (hR2 : f' + 1 ≤ f ∧ 8 + (nl + 11) + lo' ≤ lo)
    (hM : CtV (lnX X) (dgX X) (csX X) (adX X) y cb nl ret f' lo' As M post) (hn : As.length = n) (hst : st0 = As.reverse ++ st) (hcat : (st.map fun v => v.category).sum ≤ 8) (hd : decode cc pc = .ok (.invokestatic idx, 3)) (kk : ∀ (M' : Mem), post M' → Z X M' (pc + 3) L st) : Z X M pc L st0 := by
  obtain ⟨⟨p, l, e, R, s, m, args, below, meth, c⟩, A, ad, cs, D, cells, slots, Q⟩ := X
  obtain ⟨hx, hb, hown, hts, hK, hA, hR⟩ := hX
  intro H locs ls hP hS hl
  obtain ⟨v1, v2, v3, v4, v5⟩ := hV
  obtain ⟨r1, r2, r3, r4⟩ := hR
  refine va_callv (va_runS (As := As) (rest := st) ⟨hx, hb, rfl, hown, hts⟩ hM ⟨callB_of n hts (cons_good v4) rfl rfl rfl (hts _ v3) (hts _ v1) v5 (by rw [r1, r2]; exact hR2), hts _ v2⟩ ⟨PcM_blind, fun U hU hW => ⟨rfl, by rw [hU]; exact hP, va_K.moved hW.alike hK, hA.1⟩⟩ rfl hn hl.2.1 hst (lv_room hcat) hd ⟨r3, r4⟩) hS (fun q _ h => hA.2 q h) hA.2 (fun u t H1 locs1 ht hvm hp hB hz1 hk1 hS1 => kk u hp H1 locs1 ls (by unfold BM at hB; rw [ht] at hB; exact hB) hS1 hl)
theorem r_cVv0 {X : CT} {own : String} {cc : ByteArray} {f lo : Nat} {M : Mem} {pc : Nat} {L : List (Option Value)} {st : List Value} (hX : okX X own cc f lo) {k ci N idx nl f' lo' : Nat} {T : u_T} {C : String} {y : MethodName} {cb : ByteArray} {ret : Option FieldType} {fl : List (Option Nat)} {post : Mem → Prop} (hV : FV own idx C y cb nl ret 0) (hl0 : lyl[k]? = some (.inl (ci, fl))) (hci : vwCl[ci]? = some (C, T, N)) (hR2 : f' + 1 ≤ f ∧ 8 + (nl + 11) + lo' ≤ lo) (hM : CtV (lnX X) (dgX X) (csX X) (adX X) y cb nl ret f' lo' (.ref (adX X k) :: []) M post) (hcat : (st.map fun v => v.category).sum ≤ 8) (hd : decode cc pc = .ok (.invokevirtual idx, 3)) (kk : ∀ (M' : Mem), post M' → Z X M' (pc + 3) L st) : Z X M pc L (.ref (adX X k) :: st) := r_cVv_g (As := []) hX hV hl0 hci hR2 hM rfl rfl hcat hd kk
theorem r_cVv1 {X : CT} {own : String} {cc : ByteArray} {f lo : Nat} {M : Mem} {pc : Nat} {L : List (Option Value)} {st : List Value} (hX : okX X own cc f lo) {k ci N idx nl f' lo' : Nat} {T : u_T} {C : String} {y : MethodName} {cb : ByteArray} {ret : Option FieldType} {fl : List (Option Nat)} {v1 : Value} {post : Mem → Prop} (hV : FV own idx C y cb nl ret 1) (hl0 : lyl[k]? = some (.inl (ci, fl))) (hci : vwCl[ci]? = some (C, T, N)) (hR2 : f' + 1 ≤ f ∧ 8 + (nl + 11) + lo' ≤ lo) (hM : CtV (lnX X) (dgX X) (csX X) (adX X) y cb nl ret f' lo' (.ref (adX X k) :: [v1]) M post) (hcat : (st.map fun v => v.category).sum ≤ 8) (hd : decode cc pc = .ok (.invokevirtual idx, 3)) (kk : ∀ (M' : Mem), post M' → Z X M' (pc + 3) L st) : Z X M pc L (v1 :: .ref (adX X k) :: st) := r_cVv_g (As := [v1]) hX hV hl0 hci hR2 hM rfl rfl hcat hd kk
theorem r_cSv1 {X : CT} {own : String} {cc : ByteArray} {f lo : Nat} {M : Mem} {pc : Nat} {L : List (Option Value)} {st : List Value} (hX : okX X own cc f lo) {idx nl f' lo' : Nat} {y : MethodName} {cb : ByteArray} {ret : Option FieldType} {v1 : Value} {post : Mem → Prop} (hV : FS own idx y cb nl ret 1) (hR2 : f' + 1 ≤ f ∧ 8 + (nl + 11) + lo' ≤ lo) (hM : CtV (lnX X) (dgX X) (csX X) (adX X) y cb nl ret f' lo' [v1] M post) (hcat : (st.map fun v => v.category).sum ≤ 8) (hd : decode cc pc = .ok (.invokestatic idx, 3)) (kk : ∀ (M' : Mem), post M' → Z X M' (pc + 3) L st) : Z X M pc L (v1 :: st) := r_cSv_g (As := [v1]) hX hV hR2 hM rfl rfl hcat hd kk
theorem r_cVv2 {X : CT} {own : String} {cc : ByteArray} {f lo : Nat} {M : Mem} {pc : Nat} {L : List (Option Value)} {st : List Value} (hX : okX X own cc f lo) {k ci N idx nl f' lo' : Nat} {T : u_T} {C : String} {y : MethodName} {cb : ByteArray} {ret : Option FieldType} {fl : List (Option Nat)} {v1 v2 : Value} {post : Mem → Prop} (hV : FV own idx C y cb nl ret 2) (hl0 : lyl[k]? = some (.inl (ci, fl))) (hci : vwCl[ci]? = some (C, T, N)) (hR2 : f' + 1 ≤ f ∧ 8 + (nl + 11) + lo' ≤ lo) (hM : CtV (lnX X) (dgX X) (csX X) (adX X) y cb nl ret f' lo' (.ref (adX X k) :: [v1, v2]) M post) (hcat : (st.map fun v => v.category).sum ≤ 8) (hd : decode cc pc = .ok (.invokevirtual idx, 3)) (kk : ∀ (M' : Mem), post M' → Z X M' (pc + 3) L st) : Z X M pc L (v2 :: v1 :: .ref (adX X k) :: st) := r_cVv_g (As := [v1, v2]) hX hV hl0 hci hR2 hM rfl rfl hcat hd kk
theorem r_cSv2 {X : CT} {own : String} {cc : ByteArray} {f lo : Nat} {M : Mem} {pc : Nat} {L : List (Option Value)} {st : List Value} (hX : okX X own cc f lo) {idx nl f' lo' : Nat} {y : MethodName} {cb : ByteArray} {ret : Option FieldType} {v1 v2 : Value} {post : Mem → Prop} (hV : FS own idx y cb nl ret 2) (hR2 : f' + 1 ≤ f ∧ 8 + (nl + 11) + lo' ≤ lo) (hM : CtV (lnX X) (dgX X) (csX X) (adX X) y cb nl ret f' lo' [v1, v2] M post) (hcat : (st.map fun v => v.category).sum ≤ 8) (hd : decode cc pc = .ok (.invokestatic idx, 3)) (kk : ∀ (M' : Mem), post M' → Z X M' (pc + 3) L st) : Z X M pc L (v2 :: v1 :: st) := r_cSv_g (As := [v1, v2]) hX hV hR2 hM rfl rfl hcat hd kk
theorem r_cVv3 {X : CT} {own : String} {cc : ByteArray} {f lo : Nat} {M : Mem} {pc : Nat} {L : List (Option Value)} {st : List Value} (hX : okX X own cc f lo) {k ci N idx nl f' lo' : Nat} {T : u_T} {C : String} {y : MethodName} {cb : ByteArray} {ret : Option FieldType} {fl : List (Option Nat)} {v1 v2 v3 : Value} {post : Mem → Prop} (hV : FV own idx C y cb nl ret 3) (hl0 : lyl[k]? = some (.inl (ci, fl))) (hci : vwCl[ci]? = some (C, T, N)) (hR2 : f' + 1 ≤ f ∧ 8 + (nl + 11) + lo' ≤ lo) (hM : CtV (lnX X) (dgX X) (csX X) (adX X) y cb nl ret f' lo' (.ref (adX X k) :: [v1, v2, v3]) M post) (hcat : (st.map fun v => v.category).sum ≤ 8) (hd : decode cc pc = .ok (.invokevirtual idx, 3)) (kk : ∀ (M' : Mem), post M' → Z X M' (pc + 3) L st) : Z X M pc L (v3 :: v2 :: v1 :: .ref (adX X k) :: st) := r_cVv_g (As := [v1, v2, v3]) hX hV hl0 hci hR2 hM rfl rfl hcat hd kk
theorem r_cSv3 {X : CT} {own : String} {cc : ByteArray} {f lo : Nat} {M : Mem} {pc : Nat} {L : List (Option Value)} {st : List Value} (hX : okX X own cc f lo) {idx nl f' lo' : Nat} {y : MethodName} {cb : ByteArray} {ret : Option FieldType} {v1 v2 v3 : Value} {post : Mem → Prop} (hV : FS own idx y cb nl ret 3) (hR2 : f' + 1 ≤ f ∧ 8 + (nl + 11) + lo' ≤ lo) (hM : CtV (lnX X) (dgX X) (csX X) (adX X) y cb nl ret f' lo' [v1, v2, v3] M post) (hcat : (st.map fun v => v.category).sum ≤ 8) (hd : decode cc pc = .ok (.invokestatic idx, 3)) (kk : ∀ (M' : Mem), post M' → Z X M' (pc + 3) L st) : Z X M pc L (v3 :: v2 :: v1 :: st) := r_cSv_g (As := [v1, v2, v3]) hX hV hR2 hM rfl rfl hcat hd kk
theorem r_cVv4 {X : CT} {own : String} {cc : ByteArray} {f lo : Nat} {M : Mem} {pc : Nat} {L : List (Option Value)} {st : List Value} (hX : okX X own cc f lo) {k ci N idx nl f' lo' : Nat} {T : u_T} {C : String} {y : MethodName} {cb : ByteArray} {ret : Option FieldType} {fl : List (Option Nat)} {v1 v2 v3 v4 : Value} {post : Mem → Prop} (hV : FV own idx C y cb nl ret 4) (hl0 : lyl[k]? = some (.inl (ci, fl))) (hci : vwCl[ci]? = some (C, T, N)) (hR2 : f' + 1 ≤ f ∧ 8 + (nl + 11) + lo' ≤ lo) (hM : CtV (lnX X) (dgX X) (csX X) (adX X) y cb nl ret f' lo' (.ref (adX X k) :: [v1, v2, v3, v4]) M post) (hcat : (st.map fun v => v.category).sum ≤ 8) (hd : decode cc pc = .ok (.invokevirtual idx, 3)) (kk : ∀ (M' : Mem), post M' → Z X M' (pc + 3) L st) : Z X M pc L (v4 :: v3 :: v2 :: v1 :: .ref (adX X k) :: st) := r_cVv_g (As := [v1, v2, v3, v4]) hX hV hl0 hci hR2 hM rfl rfl hcat hd kk
theorem r_cSv4 {X : CT} {own : String} {cc : ByteArray} {f lo : Nat} {M : Mem} {pc : Nat} {L : List (Option Value)} {st : List Value} (hX : okX X own cc f lo) {idx nl f' lo' : Nat} {y : MethodName} {cb : ByteArray} {ret : Option FieldType} {v1 v2 v3 v4 : Value} {post : Mem → Prop} (hV : FS own idx y cb nl ret 4) (hR2 : f' + 1 ≤ f ∧ 8 + (nl + 11) + lo' ≤ lo) (hM : CtV (lnX X) (dgX X) (csX X) (adX X) y cb nl ret f' lo' [v1, v2, v3, v4] M post) (hcat : (st.map fun v => v.category).sum ≤ 8) (hd : decode cc pc = .ok (.invokestatic idx, 3)) (kk : ∀ (M' : Mem), post M' → Z X M' (pc + 3) L st) : Z X M pc L (v4 :: v3 :: v2 :: v1 :: st) := r_cSv_g (As := [v1, v2, v3, v4]) hX hV hR2 hM rfl rfl hcat hd kk
theorem r_cVv5 {X : CT} {own : String} {cc : ByteArray} {f lo : Nat} {M : Mem} {pc : Nat} {L : List (Option Value)} {st : List Value} (hX : okX X own cc f lo) {k ci N idx nl f' lo' : Nat} {T : u_T} {C : String} {y : MethodName} {cb : ByteArray} {ret : Option FieldType} {fl : List (Option Nat)} {v1 v2 v3 v4 v5 : Value} {post : Mem → Prop} (hV : FV own idx C y cb nl ret 5) (hl0 : lyl[k]? = some (.inl (ci, fl))) (hci : vwCl[ci]? = some (C, T, N)) (hR2 : f' + 1 ≤ f ∧ 8 + (nl + 11) + lo' ≤ lo) (hM : CtV (lnX X) (dgX X) (csX X) (adX X) y cb nl ret f' lo' (.ref (adX X k) :: [v1, v2, v3, v4, v5]) M post) (hcat : (st.map fun v => v.category).sum ≤ 8) (hd : decode cc pc = .ok (.invokevirtual idx, 3)) (kk : ∀ (M' : Mem), post M' → Z X M' (pc + 3) L st) : Z X M pc L (v5 :: v4 :: v3 :: v2 :: v1 :: .ref (adX X k) :: st) := r_cVv_g (As := [v1, v2, v3, v4, v5]) hX hV hl0 hci hR2 hM rfl rfl hcat hd kk
theorem r_cSv5 {X : CT} {own : String} {cc : ByteArray} {f lo : Nat} {M : Mem} {pc : Nat} {L : List (Option Value)} {st : List Value} (hX : okX X own cc f lo) {idx nl f' lo' : Nat} {y : MethodName} {cb : ByteArray} {ret : Option FieldType} {v1 v2 v3 v4 v5 : Value} {post : Mem → Prop} (hV : FS own idx y cb nl ret 5) (hR2 : f' + 1 ≤ f ∧ 8 + (nl + 11) + lo' ≤ lo) (hM : CtV (lnX X) (dgX X) (csX X) (adX X) y cb nl ret f' lo' [v1, v2, v3, v4, v5] M post) (hcat : (st.map fun v => v.category).sum ≤ 8) (hd : decode cc pc = .ok (.invokestatic idx, 3)) (kk : ∀ (M' : Mem), post M' → Z X M' (pc + 3) L st) : Z X M pc L (v5 :: v4 :: v3 :: v2 :: v1 :: st) := r_cSv_g (As := [v1, v2, v3, v4, v5]) hX hV hR2 hM rfl rfl hcat hd kk
/-! rows of a kind: three Notes, four Sheets -/
def isN (c : Nat) : Prop := c = 5 ∨ c = 9 ∨ c = 13
def isS (c : Nat) : Prop := c = 26 ∨ c = 27 ∨ c = 28 ∨ c = 29
theorem isN.l0 {c : Nat} (h : isN c) : lyl[c]? = some (.inl (2, [some (c + 1), some (c + 2), some (c + 3), none])) := by rcases h with rfl | rfl | rfl <;> rfl
theorem isN.l1 {c : Nat} (h : isN c) : lyl[c + 1]? = some (.inr (0, 8)) := by rcases h with rfl | rfl | rfl <;> rfl
theorem isN.l2 {c : Nat} (h : isN c) : lyl[c + 2]? = some (.inr (0, 8)) := by rcases h with rfl | rfl | rfl <;> rfl
theorem isN.l3 {c : Nat} (h : isN c) : lyl[c + 3]? = some (.inr (0, 8)) := by rcases h with rfl | rfl | rfl <;> rfl
theorem isS.l0 {c : Nat} (h : isS c) : lyl[c]? = some (.inl (4, [some (c + 4), none, none])) := by rcases h with rfl | rfl | rfl | rfl <;> rfl
theorem isS.l4 {c : Nat} (h : isS c) : lyl[c + 4]? = some (.inr (0, 60)) := by rcases h with rfl | rfl | rfl | rfl <;> rfl
theorem isS.of {i : Int32} (h : vp_in i 4) : isS (26 + i.toNatClampNeg) := by
  have h1 : i.toNatClampNeg < 4 := Nat.not_le.mp fun q => h (Or.inr q)
  unfold isS
  omega
end
