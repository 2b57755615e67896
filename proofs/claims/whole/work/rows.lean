section
-- ===== PART A: goes FIRST, ahead of the names: the tables' words, and 'selects' of the private methods out of them =====
/-- a private method of a class that the tables say can be made, by its rows of tables_1 -/
def lw_okq (q : MethodName × Nat) : Prop := (q.1.cls ≠ "java/lang/invoke/MethodHandle" ∧ q.1.cls ≠ "java/lang/invoke/VarHandle") ∧ Cond.instantiable q.1.cls q.2 ∈ tables_1 ∧ Cond.privateMethod q.1 ∈ tables_1 ∧ Cond.instanceMethod q.1 ∈ tables_1
theorem lw_p0 : lw_okq (⟨"DebtRooms$Page", "append", "(I)Z"⟩, 11) := ⟨⟨by decide +kernel, by decide +kernel⟩, List.mem_of_getElem? (i := 30) (by decide +kernel), List.mem_of_getElem? (i := 325) (by decide +kernel), List.mem_of_getElem? (i := 326) (by decide +kernel)⟩
theorem lw_p1 : lw_okq (⟨"DebtRooms$Page", "scan", "()V"⟩, 11) := ⟨⟨by decide +kernel, by decide +kernel⟩, List.mem_of_getElem? (i := 30) (by decide +kernel), List.mem_of_getElem? (i := 337) (by decide +kernel), List.mem_of_getElem? (i := 338) (by decide +kernel)⟩
theorem lw_p2 : lw_okq (⟨"DebtRooms$Page", "takes", "(C)Z"⟩, 11) := ⟨⟨by decide +kernel, by decide +kernel⟩, List.mem_of_getElem? (i := 30) (by decide +kernel), List.mem_of_getElem? (i := 341) (by decide +kernel), List.mem_of_getElem? (i := 342) (by decide +kernel)⟩
theorem lw_p3 : lw_okq (⟨"DebtRooms$Page", "takesInRooms", "(C)Z"⟩, 11) := ⟨⟨by decide +kernel, by decide +kernel⟩, List.mem_of_getElem? (i := 30) (by decide +kernel), List.mem_of_getElem? (i := 345) (by decide +kernel), List.mem_of_getElem? (i := 346) (by decide +kernel)⟩
theorem lw_p4 : lw_okq (⟨"DebtRooms$Page", "takesIf", "(Z)Z"⟩, 11) := ⟨⟨by decide +kernel, by decide +kernel⟩, List.mem_of_getElem? (i := 30) (by decide +kernel), List.mem_of_getElem? (i := 349) (by decide +kernel), List.mem_of_getElem? (i := 350) (by decide +kernel)⟩
theorem lw_p5 : lw_okq (⟨"DebtRooms$Page", "opens", "(I)Z"⟩, 11) := ⟨⟨by decide +kernel, by decide +kernel⟩, List.mem_of_getElem? (i := 30) (by decide +kernel), List.mem_of_getElem? (i := 353) (by decide +kernel), List.mem_of_getElem? (i := 354) (by decide +kernel)⟩
theorem lw_p6 : lw_okq (⟨"DebtRooms$Page", "takesInDoors", "(C)Z"⟩, 11) := ⟨⟨by decide +kernel, by decide +kernel⟩, List.mem_of_getElem? (i := 30) (by decide +kernel), List.mem_of_getElem? (i := 357) (by decide +kernel), List.mem_of_getElem? (i := 358) (by decide +kernel)⟩
theorem lw_p7 : lw_okq (⟨"DebtRooms$Page", "takesFirst", "(CI)Z"⟩, 11) := ⟨⟨by decide +kernel, by decide +kernel⟩, List.mem_of_getElem? (i := 30) (by decide +kernel), List.mem_of_getElem? (i := 361) (by decide +kernel), List.mem_of_getElem? (i := 362) (by decide +kernel)⟩
theorem lw_p8 : lw_okq (⟨"DebtRooms$Page", "takesOther", "(CI)Z"⟩, 11) := ⟨⟨by decide +kernel, by decide +kernel⟩, List.mem_of_getElem? (i := 30) (by decide +kernel), List.mem_of_getElem? (i := 368) (by decide +kernel), List.mem_of_getElem? (i := 369) (by decide +kernel)⟩
theorem lw_p9 : lw_okq (⟨"DebtRooms$Page", "takesInPeople", "(C)Z"⟩, 11) := ⟨⟨by decide +kernel, by decide +kernel⟩, List.mem_of_getElem? (i := 30) (by decide +kernel), List.mem_of_getElem? (i := 459) (by decide +kernel), List.mem_of_getElem? (i := 460) (by decide +kernel)⟩
theorem lw_p10 : lw_okq (⟨"DebtRooms$Page", "takesInDebts", "(C)Z"⟩, 11) := ⟨⟨by decide +kernel, by decide +kernel⟩, List.mem_of_getElem? (i := 30) (by decide +kernel), List.mem_of_getElem? (i := 464) (by decide +kernel), List.mem_of_getElem? (i := 465) (by decide +kernel)⟩
theorem lw_p11 : lw_okq (⟨"DebtRooms$Page", "readHouse", "(LDebtRooms$House;)V"⟩, 11) := ⟨⟨by decide +kernel, by decide +kernel⟩, List.mem_of_getElem? (i := 30) (by decide +kernel), List.mem_of_getElem? (i := 473) (by decide +kernel), List.mem_of_getElem? (i := 474) (by decide +kernel)⟩
theorem lw_p12 : lw_okq (⟨"DebtRooms$Page", "digitAt", "(I)I"⟩, 11) := ⟨⟨by decide +kernel, by decide +kernel⟩, List.mem_of_getElem? (i := 30) (by decide +kernel), List.mem_of_getElem? (i := 477) (by decide +kernel), List.mem_of_getElem? (i := 478) (by decide +kernel)⟩
theorem lw_p13 : lw_okq (⟨"DebtRooms$Page", "placeIn", "(Ljava/lang/String;I)I"⟩, 11) := ⟨⟨by decide +kernel, by decide +kernel⟩, List.mem_of_getElem? (i := 30) (by decide +kernel), List.mem_of_getElem? (i := 481) (by decide +kernel), List.mem_of_getElem? (i := 482) (by decide +kernel)⟩
theorem lw_p14 : lw_okq (⟨"DebtRooms$Page", "peopleAt", "()I"⟩, 11) := ⟨⟨by decide +kernel, by decide +kernel⟩, List.mem_of_getElem? (i := 30) (by decide +kernel), List.mem_of_getElem? (i := 485) (by decide +kernel), List.mem_of_getElem? (i := 486) (by decide +kernel)⟩
theorem lw_p15 : lw_okq (⟨"DebtRooms$Page", "debtsAt", "()I"⟩, 11) := ⟨⟨by decide +kernel, by decide +kernel⟩, List.mem_of_getElem? (i := 30) (by decide +kernel), List.mem_of_getElem? (i := 520) (by decide +kernel), List.mem_of_getElem? (i := 521) (by decide +kernel)⟩
def lw_privs_1 : List (MethodName × Nat) := [(⟨"DebtRooms$Page", "append", "(I)Z"⟩, 11), (⟨"DebtRooms$Page", "scan", "()V"⟩, 11), (⟨"DebtRooms$Page", "takes", "(C)Z"⟩, 11), (⟨"DebtRooms$Page", "takesInRooms", "(C)Z"⟩, 11), (⟨"DebtRooms$Page", "takesIf", "(Z)Z"⟩, 11), (⟨"DebtRooms$Page", "opens", "(I)Z"⟩, 11), (⟨"DebtRooms$Page", "takesInDoors", "(C)Z"⟩, 11), (⟨"DebtRooms$Page", "takesFirst", "(CI)Z"⟩, 11), (⟨"DebtRooms$Page", "takesOther", "(CI)Z"⟩, 11), (⟨"DebtRooms$Page", "takesInPeople", "(C)Z"⟩, 11), (⟨"DebtRooms$Page", "takesInDebts", "(C)Z"⟩, 11), (⟨"DebtRooms$Page", "readHouse", "(LDebtRooms$House;)V"⟩, 11), (⟨"DebtRooms$Page", "digitAt", "(I)I"⟩, 11), (⟨"DebtRooms$Page", "placeIn", "(Ljava/lang/String;I)I"⟩, 11), (⟨"DebtRooms$Page", "peopleAt", "()I"⟩, 11), (⟨"DebtRooms$Page", "debtsAt", "()I"⟩, 11)]
theorem lw_r1 : ∀ q ∈ lw_privs_1, lw_okq q := List.forall_mem_cons.mpr ⟨lw_p0, List.forall_mem_cons.mpr ⟨lw_p1, List.forall_mem_cons.mpr ⟨lw_p2, List.forall_mem_cons.mpr ⟨lw_p3, List.forall_mem_cons.mpr ⟨lw_p4, List.forall_mem_cons.mpr ⟨lw_p5, List.forall_mem_cons.mpr ⟨lw_p6, List.forall_mem_cons.mpr ⟨lw_p7, List.forall_mem_cons.mpr ⟨lw_p8, List.forall_mem_cons.mpr ⟨lw_p9, List.forall_mem_cons.mpr ⟨lw_p10, List.forall_mem_cons.mpr ⟨lw_p11, List.forall_mem_cons.mpr ⟨lw_p12, List.forall_mem_cons.mpr ⟨lw_p13, List.forall_mem_cons.mpr ⟨lw_p14, List.forall_mem_cons.mpr ⟨lw_p15, fun _ h => absurd h List.not_mem_nil⟩⟩⟩⟩⟩⟩⟩⟩⟩⟩⟩⟩⟩⟩⟩⟩
theorem lw_p16 : lw_okq (⟨"DebtRooms$Page", "readAffairs", "(LDebtRooms$Affairs;)V"⟩, 11) := ⟨⟨by decide +kernel, by decide +kernel⟩, List.mem_of_getElem? (i := 30) (by decide +kernel), List.mem_of_getElem? (i := 524) (by decide +kernel), List.mem_of_getElem? (i := 525) (by decide +kernel)⟩
theorem lw_p17 : lw_okq (⟨"DebtRooms", "isNobody", "(I)Z"⟩, 10) := ⟨⟨by decide +kernel, by decide +kernel⟩, List.mem_of_getElem? (i := 22) (by decide +kernel), List.mem_of_getElem? (i := 532) (by decide +kernel), List.mem_of_getElem? (i := 533) (by decide +kernel)⟩
theorem lw_p18 : lw_okq (⟨"DebtRooms$Affairs", "keyBits", "(I)I"⟩, 10) := ⟨⟨by decide +kernel, by decide +kernel⟩, List.mem_of_getElem? (i := 158) (by decide +kernel), List.mem_of_getElem? (i := 553) (by decide +kernel), List.mem_of_getElem? (i := 554) (by decide +kernel)⟩
theorem lw_p19 : lw_okq (⟨"DebtRooms$Affairs", "doorBits", "(I)I"⟩, 10) := ⟨⟨by decide +kernel, by decide +kernel⟩, List.mem_of_getElem? (i := 158) (by decide +kernel), List.mem_of_getElem? (i := 557) (by decide +kernel), List.mem_of_getElem? (i := 558) (by decide +kernel)⟩
theorem lw_p20 : lw_okq (⟨"DebtRooms$Affairs", "mayGo", "(II)Z"⟩, 10) := ⟨⟨by decide +kernel, by decide +kernel⟩, List.mem_of_getElem? (i := 158) (by decide +kernel), List.mem_of_getElem? (i := 561) (by decide +kernel), List.mem_of_getElem? (i := 562) (by decide +kernel)⟩
theorem lw_p21 : lw_okq (⟨"DebtRooms$House", "doorEndsAt", "(II)Z"⟩, 11) := ⟨⟨by decide +kernel, by decide +kernel⟩, List.mem_of_getElem? (i := 75) (by decide +kernel), List.mem_of_getElem? (i := 565) (by decide +kernel), List.mem_of_getElem? (i := 566) (by decide +kernel)⟩
theorem lw_p22 : lw_okq (⟨"DebtRooms$Affairs", "mayPass", "(II)Z"⟩, 10) := ⟨⟨by decide +kernel, by decide +kernel⟩, List.mem_of_getElem? (i := 158) (by decide +kernel), List.mem_of_getElem? (i := 569) (by decide +kernel), List.mem_of_getElem? (i := 570) (by decide +kernel)⟩
theorem lw_p23 : lw_okq (⟨"DebtRooms$Affairs", "payableBits", "(I)I"⟩, 10) := ⟨⟨by decide +kernel, by decide +kernel⟩, List.mem_of_getElem? (i := 158) (by decide +kernel), List.mem_of_getElem? (i := 586) (by decide +kernel), List.mem_of_getElem? (i := 587) (by decide +kernel)⟩
theorem lw_p24 : lw_okq (⟨"DebtRooms$Affairs", "mayPay", "(I)Z"⟩, 10) := ⟨⟨by decide +kernel, by decide +kernel⟩, List.mem_of_getElem? (i := 158) (by decide +kernel), List.mem_of_getElem? (i := 590) (by decide +kernel), List.mem_of_getElem? (i := 591) (by decide +kernel)⟩
theorem lw_p25 : lw_okq (⟨"DebtRooms$Affairs", "costOf", "(I)I"⟩, 10) := ⟨⟨by decide +kernel, by decide +kernel⟩, List.mem_of_getElem? (i := 158) (by decide +kernel), List.mem_of_getElem? (i := 594) (by decide +kernel), List.mem_of_getElem? (i := 595) (by decide +kernel)⟩
theorem lw_p26 : lw_okq (⟨"DebtRooms$Affairs", "standing", "(I)I"⟩, 10) := ⟨⟨by decide +kernel, by decide +kernel⟩, List.mem_of_getElem? (i := 158) (by decide +kernel), List.mem_of_getElem? (i := 624) (by decide +kernel), List.mem_of_getElem? (i := 625) (by decide +kernel)⟩
theorem lw_p27 : lw_okq (⟨"DebtRooms$Affairs", "purseBits", "(I)I"⟩, 10) := ⟨⟨by decide +kernel, by decide +kernel⟩, List.mem_of_getElem? (i := 158) (by decide +kernel), List.mem_of_getElem? (i := 628) (by decide +kernel), List.mem_of_getElem? (i := 629) (by decide +kernel)⟩
theorem lw_p28 : lw_okq (⟨"DebtRooms$Affairs", "tooPoorBits", "(I)I"⟩, 10) := ⟨⟨by decide +kernel, by decide +kernel⟩, List.mem_of_getElem? (i := 158) (by decide +kernel), List.mem_of_getElem? (i := 632) (by decide +kernel), List.mem_of_getElem? (i := 633) (by decide +kernel)⟩
theorem lw_p29 : lw_okq (⟨"DebtRooms$Affairs", "debtToPress", "(I)I"⟩, 10) := ⟨⟨by decide +kernel, by decide +kernel⟩, List.mem_of_getElem? (i := 158) (by decide +kernel), List.mem_of_getElem? (i := 636) (by decide +kernel), List.mem_of_getElem? (i := 637) (by decide +kernel)⟩
theorem lw_p30 : lw_okq (⟨"DebtRooms$House", "isOfKind", "(II)Z"⟩, 11) := ⟨⟨by decide +kernel, by decide +kernel⟩, List.mem_of_getElem? (i := 75) (by decide +kernel), List.mem_of_getElem? (i := 652) (by decide +kernel), List.mem_of_getElem? (i := 653) (by decide +kernel)⟩
theorem lw_p31 : lw_okq (⟨"DebtRooms", "isNoDoor", "(I)Z"⟩, 10) := ⟨⟨by decide +kernel, by decide +kernel⟩, List.mem_of_getElem? (i := 22) (by decide +kernel), List.mem_of_getElem? (i := 660) (by decide +kernel), List.mem_of_getElem? (i := 661) (by decide +kernel)⟩
def lw_privs_2 : List (MethodName × Nat) := [(⟨"DebtRooms$Page", "readAffairs", "(LDebtRooms$Affairs;)V"⟩, 11), (⟨"DebtRooms", "isNobody", "(I)Z"⟩, 10), (⟨"DebtRooms$Affairs", "keyBits", "(I)I"⟩, 10), (⟨"DebtRooms$Affairs", "doorBits", "(I)I"⟩, 10), (⟨"DebtRooms$Affairs", "mayGo", "(II)Z"⟩, 10), (⟨"DebtRooms$House", "doorEndsAt", "(II)Z"⟩, 11), (⟨"DebtRooms$Affairs", "mayPass", "(II)Z"⟩, 10), (⟨"DebtRooms$Affairs", "payableBits", "(I)I"⟩, 10), (⟨"DebtRooms$Affairs", "mayPay", "(I)Z"⟩, 10), (⟨"DebtRooms$Affairs", "costOf", "(I)I"⟩, 10), (⟨"DebtRooms$Affairs", "standing", "(I)I"⟩, 10), (⟨"DebtRooms$Affairs", "purseBits", "(I)I"⟩, 10), (⟨"DebtRooms$Affairs", "tooPoorBits", "(I)I"⟩, 10), (⟨"DebtRooms$Affairs", "debtToPress", "(I)I"⟩, 10), (⟨"DebtRooms$House", "isOfKind", "(II)Z"⟩, 11), (⟨"DebtRooms", "isNoDoor", "(I)Z"⟩, 10)]
theorem lw_r2 : ∀ q ∈ lw_privs_2, lw_okq q := List.forall_mem_cons.mpr ⟨lw_p16, List.forall_mem_cons.mpr ⟨lw_p17, List.forall_mem_cons.mpr ⟨lw_p18, List.forall_mem_cons.mpr ⟨lw_p19, List.forall_mem_cons.mpr ⟨lw_p20, List.forall_mem_cons.mpr ⟨lw_p21, List.forall_mem_cons.mpr ⟨lw_p22, List.forall_mem_cons.mpr ⟨lw_p23, List.forall_mem_cons.mpr ⟨lw_p24, List.forall_mem_cons.mpr ⟨lw_p25, List.forall_mem_cons.mpr ⟨lw_p26, List.forall_mem_cons.mpr ⟨lw_p27, List.forall_mem_cons.mpr ⟨lw_p28, List.forall_mem_cons.mpr ⟨lw_p29, List.forall_mem_cons.mpr ⟨lw_p30, List.forall_mem_cons.mpr ⟨lw_p31, fun _ h => absurd h List.not_mem_nil⟩⟩⟩⟩⟩⟩⟩⟩⟩⟩⟩⟩⟩⟩⟩⟩
theorem lw_p32 : lw_okq (⟨"DebtRooms", "isNoDebt", "(I)Z"⟩, 10) := ⟨⟨by decide +kernel, by decide +kernel⟩, List.mem_of_getElem? (i := 22) (by decide +kernel), List.mem_of_getElem? (i := 668) (by decide +kernel), List.mem_of_getElem? (i := 669) (by decide +kernel)⟩
theorem lw_p33 : lw_okq (⟨"DebtRooms$Affairs", "goThrough", "(II)V"⟩, 10) := ⟨⟨by decide +kernel, by decide +kernel⟩, List.mem_of_getElem? (i := 158) (by decide +kernel), List.mem_of_getElem? (i := 678) (by decide +kernel), List.mem_of_getElem? (i := 679) (by decide +kernel)⟩
theorem lw_p34 : lw_okq (⟨"DebtRooms$House", "roomBeyond", "(II)I"⟩, 11) := ⟨⟨by decide +kernel, by decide +kernel⟩, List.mem_of_getElem? (i := 75) (by decide +kernel), List.mem_of_getElem? (i := 682) (by decide +kernel), List.mem_of_getElem? (i := 683) (by decide +kernel)⟩
theorem lw_p35 : lw_okq (⟨"DebtRooms$Affairs", "settle", "(I)V"⟩, 10) := ⟨⟨by decide +kernel, by decide +kernel⟩, List.mem_of_getElem? (i := 158) (by decide +kernel), List.mem_of_getElem? (i := 695) (by decide +kernel), List.mem_of_getElem? (i := 696) (by decide +kernel)⟩
theorem lw_p36 : lw_okq (⟨"DebtRooms", "isNoRoom", "(I)Z"⟩, 10) := ⟨⟨by decide +kernel, by decide +kernel⟩, List.mem_of_getElem? (i := 22) (by decide +kernel), List.mem_of_getElem? (i := 712) (by decide +kernel), List.mem_of_getElem? (i := 713) (by decide +kernel)⟩
theorem lw_p37 : lw_okq (⟨"DebtRooms$Walks", "wayLength", "(LDebtRooms$Affairs;II)I"⟩, 4) := ⟨⟨by decide +kernel, by decide +kernel⟩, List.mem_of_getElem? (i := 215) (by decide +kernel), List.mem_of_getElem? (i := 716) (by decide +kernel), List.mem_of_getElem? (i := 717) (by decide +kernel)⟩
theorem lw_p38 : lw_okq (⟨"DebtRooms$Walks", "measure", "(LDebtRooms$Affairs;II)V"⟩, 4) := ⟨⟨by decide +kernel, by decide +kernel⟩, List.mem_of_getElem? (i := 215) (by decide +kernel), List.mem_of_getElem? (i := 720) (by decide +kernel), List.mem_of_getElem? (i := 721) (by decide +kernel)⟩
theorem lw_p39 : lw_okq (⟨"DebtRooms$Walks", "shorten", "(II)V"⟩, 4) := ⟨⟨by decide +kernel, by decide +kernel⟩, List.mem_of_getElem? (i := 215) (by decide +kernel), List.mem_of_getElem? (i := 725) (by decide +kernel), List.mem_of_getElem? (i := 726) (by decide +kernel)⟩
theorem lw_p40 : lw_okq (⟨"DebtRooms$Walks", "wayDoor", "(LDebtRooms$Affairs;III)I"⟩, 4) := ⟨⟨by decide +kernel, by decide +kernel⟩, List.mem_of_getElem? (i := 215) (by decide +kernel), List.mem_of_getElem? (i := 729) (by decide +kernel), List.mem_of_getElem? (i := 730) (by decide +kernel)⟩
theorem lw_p41 : lw_okq (⟨"DebtRooms$Walks", "doorNearer", "(LDebtRooms$Affairs;II)I"⟩, 4) := ⟨⟨by decide +kernel, by decide +kernel⟩, List.mem_of_getElem? (i := 215) (by decide +kernel), List.mem_of_getElem? (i := 733) (by decide +kernel), List.mem_of_getElem? (i := 734) (by decide +kernel)⟩
theorem lw_p42 : lw_okq (⟨"DebtRooms$Nights", "search", "(LDebtRooms$Affairs;II)V"⟩, 5) := ⟨⟨by decide +kernel, by decide +kernel⟩, List.mem_of_getElem? (i := 234) (by decide +kernel), List.mem_of_getElem? (i := 743) (by decide +kernel), List.mem_of_getElem? (i := 744) (by decide +kernel)⟩
theorem lw_p43 : lw_okq (⟨"DebtRooms$Affairs", "takeOver", "(LDebtRooms$Affairs;)V"⟩, 10) := ⟨⟨by decide +kernel, by decide +kernel⟩, List.mem_of_getElem? (i := 158) (by decide +kernel), List.mem_of_getElem? (i := 747) (by decide +kernel), List.mem_of_getElem? (i := 748) (by decide +kernel)⟩
theorem lw_p44 : lw_okq (⟨"DebtRooms$Affairs", "payAll", "(IZ)I"⟩, 10) := ⟨⟨by decide +kernel, by decide +kernel⟩, List.mem_of_getElem? (i := 158) (by decide +kernel), List.mem_of_getElem? (i := 754) (by decide +kernel), List.mem_of_getElem? (i := 755) (by decide +kernel)⟩
theorem lw_p45 : lw_okq (⟨"DebtRooms$Nights", "keepIfMore", "(I)V"⟩, 5) := ⟨⟨by decide +kernel, by decide +kernel⟩, List.mem_of_getElem? (i := 234) (by decide +kernel), List.mem_of_getElem? (i := 759) (by decide +kernel), List.mem_of_getElem? (i := 760) (by decide +kernel)⟩
theorem lw_p46 : lw_okq (⟨"DebtRooms$Nights", "doorAt", "(II)I"⟩, 5) := ⟨⟨by decide +kernel, by decide +kernel⟩, List.mem_of_getElem? (i := 234) (by decide +kernel), List.mem_of_getElem? (i := 765) (by decide +kernel), List.mem_of_getElem? (i := 766) (by decide +kernel)⟩
theorem lw_p47 : lw_okq (⟨"DebtRooms$Rings", "search", "(LDebtRooms$Affairs;I)V"⟩, 7) := ⟨⟨by decide +kernel, by decide +kernel⟩, List.mem_of_getElem? (i := 260) (by decide +kernel), List.mem_of_getElem? (i := 773) (by decide +kernel), List.mem_of_getElem? (i := 774) (by decide +kernel)⟩
def lw_privs_3 : List (MethodName × Nat) := [(⟨"DebtRooms", "isNoDebt", "(I)Z"⟩, 10), (⟨"DebtRooms$Affairs", "goThrough", "(II)V"⟩, 10), (⟨"DebtRooms$House", "roomBeyond", "(II)I"⟩, 11), (⟨"DebtRooms$Affairs", "settle", "(I)V"⟩, 10), (⟨"DebtRooms", "isNoRoom", "(I)Z"⟩, 10), (⟨"DebtRooms$Walks", "wayLength", "(LDebtRooms$Affairs;II)I"⟩, 4), (⟨"DebtRooms$Walks", "measure", "(LDebtRooms$Affairs;II)V"⟩, 4), (⟨"DebtRooms$Walks", "shorten", "(II)V"⟩, 4), (⟨"DebtRooms$Walks", "wayDoor", "(LDebtRooms$Affairs;III)I"⟩, 4), (⟨"DebtRooms$Walks", "doorNearer", "(LDebtRooms$Affairs;II)I"⟩, 4), (⟨"DebtRooms$Nights", "search", "(LDebtRooms$Affairs;II)V"⟩, 5), (⟨"DebtRooms$Affairs", "takeOver", "(LDebtRooms$Affairs;)V"⟩, 10), (⟨"DebtRooms$Affairs", "payAll", "(IZ)I"⟩, 10), (⟨"DebtRooms$Nights", "keepIfMore", "(I)V"⟩, 5), (⟨"DebtRooms$Nights", "doorAt", "(II)I"⟩, 5), (⟨"DebtRooms$Rings", "search", "(LDebtRooms$Affairs;I)V"⟩, 7)]
theorem lw_r3 : ∀ q ∈ lw_privs_3, lw_okq q := List.forall_mem_cons.mpr ⟨lw_p32, List.forall_mem_cons.mpr ⟨lw_p33, List.forall_mem_cons.mpr ⟨lw_p34, List.forall_mem_cons.mpr ⟨lw_p35, List.forall_mem_cons.mpr ⟨lw_p36, List.forall_mem_cons.mpr ⟨lw_p37, List.forall_mem_cons.mpr ⟨lw_p38, List.forall_mem_cons.mpr ⟨lw_p39, List.forall_mem_cons.mpr ⟨lw_p40, List.forall_mem_cons.mpr ⟨lw_p41, List.forall_mem_cons.mpr ⟨lw_p42, List.forall_mem_cons.mpr ⟨lw_p43, List.forall_mem_cons.mpr ⟨lw_p44, List.forall_mem_cons.mpr ⟨lw_p45, List.forall_mem_cons.mpr ⟨lw_p46, List.forall_mem_cons.mpr ⟨lw_p47, fun _ h => absurd h List.not_mem_nil⟩⟩⟩⟩⟩⟩⟩⟩⟩⟩⟩⟩⟩⟩⟩⟩
theorem lw_p48 : lw_okq (⟨"DebtRooms$Rings", "keepIfMore", "(I)V"⟩, 7) := ⟨⟨by decide +kernel, by decide +kernel⟩, List.mem_of_getElem? (i := 260) (by decide +kernel), List.mem_of_getElem? (i := 780) (by decide +kernel), List.mem_of_getElem? (i := 781) (by decide +kernel)⟩
theorem lw_p49 : lw_okq (⟨"DebtRooms$Affairs", "payWhoCan", "()I"⟩, 10) := ⟨⟨by decide +kernel, by decide +kernel⟩, List.mem_of_getElem? (i := 158) (by decide +kernel), List.mem_of_getElem? (i := 791) (by decide +kernel), List.mem_of_getElem? (i := 792) (by decide +kernel)⟩
theorem lw_p50 : lw_okq (⟨"DebtRooms$Affairs", "costOfAll", "(I)I"⟩, 10) := ⟨⟨by decide +kernel, by decide +kernel⟩, List.mem_of_getElem? (i := 158) (by decide +kernel), List.mem_of_getElem? (i := 795) (by decide +kernel), List.mem_of_getElem? (i := 796) (by decide +kernel)⟩
theorem lw_p51 : lw_okq (⟨"DebtRooms$Affairs", "owesStill", "(II)Z"⟩, 10) := ⟨⟨by decide +kernel, by decide +kernel⟩, List.mem_of_getElem? (i := 158) (by decide +kernel), List.mem_of_getElem? (i := 799) (by decide +kernel), List.mem_of_getElem? (i := 800) (by decide +kernel)⟩
theorem lw_p52 : lw_okq (⟨"DebtRooms$Affairs", "settleAll", "(I)V"⟩, 10) := ⟨⟨by decide +kernel, by decide +kernel⟩, List.mem_of_getElem? (i := 158) (by decide +kernel), List.mem_of_getElem? (i := 803) (by decide +kernel), List.mem_of_getElem? (i := 804) (by decide +kernel)⟩
theorem lw_p53 : lw_okq (⟨"DebtRooms$Walks", "metParts", "(LDebtRooms$Affairs;III)I"⟩, 4) := ⟨⟨by decide +kernel, by decide +kernel⟩, List.mem_of_getElem? (i := 215) (by decide +kernel), List.mem_of_getElem? (i := 811) (by decide +kernel), List.mem_of_getElem? (i := 812) (by decide +kernel)⟩
theorem lw_p54 : lw_okq (⟨"DebtRooms$Walks", "spread", "(LDebtRooms$Affairs;I)V"⟩, 4) := ⟨⟨by decide +kernel, by decide +kernel⟩, List.mem_of_getElem? (i := 215) (by decide +kernel), List.mem_of_getElem? (i := 816) (by decide +kernel), List.mem_of_getElem? (i := 817) (by decide +kernel)⟩
theorem lw_p55 : lw_okq (⟨"DebtRooms$Walks", "spreadFrom", "(LDebtRooms$Affairs;II)V"⟩, 4) := ⟨⟨by decide +kernel, by decide +kernel⟩, List.mem_of_getElem? (i := 215) (by decide +kernel), List.mem_of_getElem? (i := 820) (by decide +kernel), List.mem_of_getElem? (i := 821) (by decide +kernel)⟩
theorem lw_p56 : lw_okq (⟨"DebtRooms$Affairs", "paidDebts", "()I"⟩, 10) := ⟨⟨by decide +kernel, by decide +kernel⟩, List.mem_of_getElem? (i := 158) (by decide +kernel), List.mem_of_getElem? (i := 848) (by decide +kernel), List.mem_of_getElem? (i := 849) (by decide +kernel)⟩
theorem lw_p57 : lw_okq (⟨"DebtRooms$Affairs", "sumsNotPaid", "()I"⟩, 10) := ⟨⟨by decide +kernel, by decide +kernel⟩, List.mem_of_getElem? (i := 158) (by decide +kernel), List.mem_of_getElem? (i := 864) (by decide +kernel), List.mem_of_getElem? (i := 865) (by decide +kernel)⟩
theorem lw_p58 : lw_okq (⟨"DebtRooms$Affairs", "allPurses", "()I"⟩, 10) := ⟨⟨by decide +kernel, by decide +kernel⟩, List.mem_of_getElem? (i := 158) (by decide +kernel), List.mem_of_getElem? (i := 868) (by decide +kernel), List.mem_of_getElem? (i := 869) (by decide +kernel)⟩
theorem lw_p59 : lw_okq (⟨"DebtRooms", "mixPerson", "(JI)J"⟩, 10) := ⟨⟨by decide +kernel, by decide +kernel⟩, List.mem_of_getElem? (i := 22) (by decide +kernel), List.mem_of_getElem? (i := 877) (by decide +kernel), List.mem_of_getElem? (i := 878) (by decide +kernel)⟩
theorem lw_p60 : lw_okq (⟨"DebtRoomsModel", "faultOf", "()I"⟩, 44) := ⟨⟨by decide +kernel, by decide +kernel⟩, List.mem_of_getElem? (i := 893) (by decide +kernel), List.mem_of_getElem? (i := 1048) (by decide +kernel), List.mem_of_getElem? (i := 1049) (by decide +kernel)⟩
theorem lw_p61 : lw_okq (⟨"DebtRoomsModel", "isGood", "(I)Z"⟩, 44) := ⟨⟨by decide +kernel, by decide +kernel⟩, List.mem_of_getElem? (i := 893) (by decide +kernel), List.mem_of_getElem? (i := 1052) (by decide +kernel), List.mem_of_getElem? (i := 1053) (by decide +kernel)⟩
theorem lw_p62 : lw_okq (⟨"DebtRoomsModel", "isDoorLetter", "(I)Z"⟩, 44) := ⟨⟨by decide +kernel, by decide +kernel⟩, List.mem_of_getElem? (i := 893) (by decide +kernel), List.mem_of_getElem? (i := 1058) (by decide +kernel), List.mem_of_getElem? (i := 1059) (by decide +kernel)⟩
theorem lw_p63 : lw_okq (⟨"DebtRoomsModel", "isRoomLetter", "(I)Z"⟩, 44) := ⟨⟨by decide +kernel, by decide +kernel⟩, List.mem_of_getElem? (i := 893) (by decide +kernel), List.mem_of_getElem? (i := 1062) (by decide +kernel), List.mem_of_getElem? (i := 1063) (by decide +kernel)⟩
def lw_privs_4 : List (MethodName × Nat) := [(⟨"DebtRooms$Rings", "keepIfMore", "(I)V"⟩, 7), (⟨"DebtRooms$Affairs", "payWhoCan", "()I"⟩, 10), (⟨"DebtRooms$Affairs", "costOfAll", "(I)I"⟩, 10), (⟨"DebtRooms$Affairs", "owesStill", "(II)Z"⟩, 10), (⟨"DebtRooms$Affairs", "settleAll", "(I)V"⟩, 10), (⟨"DebtRooms$Walks", "metParts", "(LDebtRooms$Affairs;III)I"⟩, 4), (⟨"DebtRooms$Walks", "spread", "(LDebtRooms$Affairs;I)V"⟩, 4), (⟨"DebtRooms$Walks", "spreadFrom", "(LDebtRooms$Affairs;II)V"⟩, 4), (⟨"DebtRooms$Affairs", "paidDebts", "()I"⟩, 10), (⟨"DebtRooms$Affairs", "sumsNotPaid", "()I"⟩, 10), (⟨"DebtRooms$Affairs", "allPurses", "()I"⟩, 10), (⟨"DebtRooms", "mixPerson", "(JI)J"⟩, 10), (⟨"DebtRoomsModel", "faultOf", "()I"⟩, 44), (⟨"DebtRoomsModel", "isGood", "(I)Z"⟩, 44), (⟨"DebtRoomsModel", "isDoorLetter", "(I)Z"⟩, 44), (⟨"DebtRoomsModel", "isRoomLetter", "(I)Z"⟩, 44)]
theorem lw_r4 : ∀ q ∈ lw_privs_4, lw_okq q := List.forall_mem_cons.mpr ⟨lw_p48, List.forall_mem_cons.mpr ⟨lw_p49, List.forall_mem_cons.mpr ⟨lw_p50, List.forall_mem_cons.mpr ⟨lw_p51, List.forall_mem_cons.mpr ⟨lw_p52, List.forall_mem_cons.mpr ⟨lw_p53, List.forall_mem_cons.mpr ⟨lw_p54, List.forall_mem_cons.mpr ⟨lw_p55, List.forall_mem_cons.mpr ⟨lw_p56, List.forall_mem_cons.mpr ⟨lw_p57, List.forall_mem_cons.mpr ⟨lw_p58, List.forall_mem_cons.mpr ⟨lw_p59, List.forall_mem_cons.mpr ⟨lw_p60, List.forall_mem_cons.mpr ⟨lw_p61, List.forall_mem_cons.mpr ⟨lw_p62, List.forall_mem_cons.mpr ⟨lw_p63, fun _ h => absurd h List.not_mem_nil⟩⟩⟩⟩⟩⟩⟩⟩⟩⟩⟩⟩⟩⟩⟩⟩
theorem lw_p64 : lw_okq (⟨"DebtRoomsModel", "isPersonLetter", "(I)Z"⟩, 44) := ⟨⟨by decide +kernel, by decide +kernel⟩, List.mem_of_getElem? (i := 893) (by decide +kernel), List.mem_of_getElem? (i := 1067) (by decide +kernel), List.mem_of_getElem? (i := 1068) (by decide +kernel)⟩
theorem lw_p65 : lw_okq (⟨"DebtRoomsModel", "isDebtLetter", "(I)Z"⟩, 44) := ⟨⟨by decide +kernel, by decide +kernel⟩, List.mem_of_getElem? (i := 893) (by decide +kernel), List.mem_of_getElem? (i := 1075) (by decide +kernel), List.mem_of_getElem? (i := 1076) (by decide +kernel)⟩
theorem lw_p66 : lw_okq (⟨"DebtRoomsModel", "isPersonDigit", "(I)Z"⟩, 44) := ⟨⟨by decide +kernel, by decide +kernel⟩, List.mem_of_getElem? (i := 893) (by decide +kernel), List.mem_of_getElem? (i := 1079) (by decide +kernel), List.mem_of_getElem? (i := 1080) (by decide +kernel)⟩
theorem lw_p67 : lw_okq (⟨"DebtRoomsModel", "isPerson", "(I)Z"⟩, 44) := ⟨⟨by decide +kernel, by decide +kernel⟩, List.mem_of_getElem? (i := 893) (by decide +kernel), List.mem_of_getElem? (i := 1095) (by decide +kernel), List.mem_of_getElem? (i := 1096) (by decide +kernel)⟩
theorem lw_p68 : lw_okq (⟨"DebtRoomsModel", "tellPerson", "(II)I"⟩, 44) := ⟨⟨by decide +kernel, by decide +kernel⟩, List.mem_of_getElem? (i := 893) (by decide +kernel), List.mem_of_getElem? (i := 1099) (by decide +kernel), List.mem_of_getElem? (i := 1100) (by decide +kernel)⟩
theorem lw_p69 : lw_okq (⟨"DebtRoomsModel", "keysOf", "(I)I"⟩, 44) := ⟨⟨by decide +kernel, by decide +kernel⟩, List.mem_of_getElem? (i := 893) (by decide +kernel), List.mem_of_getElem? (i := 1103) (by decide +kernel), List.mem_of_getElem? (i := 1104) (by decide +kernel)⟩
theorem lw_p70 : lw_okq (⟨"DebtRoomsModel", "doorsOf", "(I)I"⟩, 44) := ⟨⟨by decide +kernel, by decide +kernel⟩, List.mem_of_getElem? (i := 893) (by decide +kernel), List.mem_of_getElem? (i := 1107) (by decide +kernel), List.mem_of_getElem? (i := 1108) (by decide +kernel)⟩
theorem lw_p71 : lw_okq (⟨"DebtRoomsModel", "through", "(III)I"⟩, 44) := ⟨⟨by decide +kernel, by decide +kernel⟩, List.mem_of_getElem? (i := 893) (by decide +kernel), List.mem_of_getElem? (i := 1111) (by decide +kernel), List.mem_of_getElem? (i := 1112) (by decide +kernel)⟩
theorem lw_p72 : lw_okq (⟨"DebtRoomsModel", "isRich", "(I)Z"⟩, 44) := ⟨⟨by decide +kernel, by decide +kernel⟩, List.mem_of_getElem? (i := 893) (by decide +kernel), List.mem_of_getElem? (i := 1115) (by decide +kernel), List.mem_of_getElem? (i := 1116) (by decide +kernel)⟩
theorem lw_p73 : lw_okq (⟨"DebtRoomsModel", "mayPay", "(I)I"⟩, 44) := ⟨⟨by decide +kernel, by decide +kernel⟩, List.mem_of_getElem? (i := 893) (by decide +kernel), List.mem_of_getElem? (i := 1119) (by decide +kernel), List.mem_of_getElem? (i := 1120) (by decide +kernel)⟩
theorem lw_p74 : lw_okq (⟨"DebtRoomsModel", "begin", "()V"⟩, 44) := ⟨⟨by decide +kernel, by decide +kernel⟩, List.mem_of_getElem? (i := 893) (by decide +kernel), List.mem_of_getElem? (i := 1123) (by decide +kernel), List.mem_of_getElem? (i := 1124) (by decide +kernel)⟩
theorem lw_p75 : lw_okq (⟨"DebtRoomsModel", "mayThen", "(I)Z"⟩, 44) := ⟨⟨by decide +kernel, by decide +kernel⟩, List.mem_of_getElem? (i := 893) (by decide +kernel), List.mem_of_getElem? (i := 1130) (by decide +kernel), List.mem_of_getElem? (i := 1131) (by decide +kernel)⟩
theorem lw_p76 : lw_okq (⟨"DebtRoomsModel", "costs", "(I)I"⟩, 44) := ⟨⟨by decide +kernel, by decide +kernel⟩, List.mem_of_getElem? (i := 893) (by decide +kernel), List.mem_of_getElem? (i := 1134) (by decide +kernel), List.mem_of_getElem? (i := 1135) (by decide +kernel)⟩
theorem lw_p77 : lw_okq (⟨"DebtRoomsModel", "standing", "(I)I"⟩, 44) := ⟨⟨by decide +kernel, by decide +kernel⟩, List.mem_of_getElem? (i := 893) (by decide +kernel), List.mem_of_getElem? (i := 1138) (by decide +kernel), List.mem_of_getElem? (i := 1139) (by decide +kernel)⟩
theorem lw_p78 : lw_okq (⟨"DebtRoomsModel", "pursesOf", "(I)I"⟩, 44) := ⟨⟨by decide +kernel, by decide +kernel⟩, List.mem_of_getElem? (i := 893) (by decide +kernel), List.mem_of_getElem? (i := 1142) (by decide +kernel), List.mem_of_getElem? (i := 1143) (by decide +kernel)⟩
theorem lw_p79 : lw_okq (⟨"DebtRoomsModel", "pressOf", "(I)I"⟩, 44) := ⟨⟨by decide +kernel, by decide +kernel⟩, List.mem_of_getElem? (i := 893) (by decide +kernel), List.mem_of_getElem? (i := 1146) (by decide +kernel), List.mem_of_getElem? (i := 1147) (by decide +kernel)⟩
def lw_privs_5 : List (MethodName × Nat) := [(⟨"DebtRoomsModel", "isPersonLetter", "(I)Z"⟩, 44), (⟨"DebtRoomsModel", "isDebtLetter", "(I)Z"⟩, 44), (⟨"DebtRoomsModel", "isPersonDigit", "(I)Z"⟩, 44), (⟨"DebtRoomsModel", "isPerson", "(I)Z"⟩, 44), (⟨"DebtRoomsModel", "tellPerson", "(II)I"⟩, 44), (⟨"DebtRoomsModel", "keysOf", "(I)I"⟩, 44), (⟨"DebtRoomsModel", "doorsOf", "(I)I"⟩, 44), (⟨"DebtRoomsModel", "through", "(III)I"⟩, 44), (⟨"DebtRoomsModel", "isRich", "(I)Z"⟩, 44), (⟨"DebtRoomsModel", "mayPay", "(I)I"⟩, 44), (⟨"DebtRoomsModel", "begin", "()V"⟩, 44), (⟨"DebtRoomsModel", "mayThen", "(I)Z"⟩, 44), (⟨"DebtRoomsModel", "costs", "(I)I"⟩, 44), (⟨"DebtRoomsModel", "standing", "(I)I"⟩, 44), (⟨"DebtRoomsModel", "pursesOf", "(I)I"⟩, 44), (⟨"DebtRoomsModel", "pressOf", "(I)I"⟩, 44)]
theorem lw_r5 : ∀ q ∈ lw_privs_5, lw_okq q := List.forall_mem_cons.mpr ⟨lw_p64, List.forall_mem_cons.mpr ⟨lw_p65, List.forall_mem_cons.mpr ⟨lw_p66, List.forall_mem_cons.mpr ⟨lw_p67, List.forall_mem_cons.mpr ⟨lw_p68, List.forall_mem_cons.mpr ⟨lw_p69, List.forall_mem_cons.mpr ⟨lw_p70, List.forall_mem_cons.mpr ⟨lw_p71, List.forall_mem_cons.mpr ⟨lw_p72, List.forall_mem_cons.mpr ⟨lw_p73, List.forall_mem_cons.mpr ⟨lw_p74, List.forall_mem_cons.mpr ⟨lw_p75, List.forall_mem_cons.mpr ⟨lw_p76, List.forall_mem_cons.mpr ⟨lw_p77, List.forall_mem_cons.mpr ⟨lw_p78, List.forall_mem_cons.mpr ⟨lw_p79, fun _ h => absurd h List.not_mem_nil⟩⟩⟩⟩⟩⟩⟩⟩⟩⟩⟩⟩⟩⟩⟩⟩
theorem lw_p80 : lw_okq (⟨"DebtRoomsModel", "isDoor", "(I)Z"⟩, 44) := ⟨⟨by decide +kernel, by decide +kernel⟩, List.mem_of_getElem? (i := 893) (by decide +kernel), List.mem_of_getElem? (i := 1159) (by decide +kernel), List.mem_of_getElem? (i := 1160) (by decide +kernel)⟩
theorem lw_p81 : lw_okq (⟨"DebtRoomsModel", "tellDoor", "(II)I"⟩, 44) := ⟨⟨by decide +kernel, by decide +kernel⟩, List.mem_of_getElem? (i := 893) (by decide +kernel), List.mem_of_getElem? (i := 1163) (by decide +kernel), List.mem_of_getElem? (i := 1164) (by decide +kernel)⟩
theorem lw_p82 : lw_okq (⟨"DebtRoomsModel", "isDebt", "(I)Z"⟩, 44) := ⟨⟨by decide +kernel, by decide +kernel⟩, List.mem_of_getElem? (i := 893) (by decide +kernel), List.mem_of_getElem? (i := 1171) (by decide +kernel), List.mem_of_getElem? (i := 1172) (by decide +kernel)⟩
theorem lw_p83 : lw_okq (⟨"DebtRoomsModel", "tellDebt", "(II)I"⟩, 44) := ⟨⟨by decide +kernel, by decide +kernel⟩, List.mem_of_getElem? (i := 893) (by decide +kernel), List.mem_of_getElem? (i := 1175) (by decide +kernel), List.mem_of_getElem? (i := 1176) (by decide +kernel)⟩
theorem lw_p84 : lw_okq (⟨"DebtRoomsModel", "payThen", "(I)V"⟩, 44) := ⟨⟨by decide +kernel, by decide +kernel⟩, List.mem_of_getElem? (i := 893) (by decide +kernel), List.mem_of_getElem? (i := 1191) (by decide +kernel), List.mem_of_getElem? (i := 1192) (by decide +kernel)⟩
theorem lw_p85 : lw_okq (⟨"DebtRoomsModel", "isRoom", "(I)Z"⟩, 44) := ⟨⟨by decide +kernel, by decide +kernel⟩, List.mem_of_getElem? (i := 893) (by decide +kernel), List.mem_of_getElem? (i := 1208) (by decide +kernel), List.mem_of_getElem? (i := 1209) (by decide +kernel)⟩
theorem lw_p86 : lw_okq (⟨"DebtRoomsModel", "wayOf", "(III)I"⟩, 44) := ⟨⟨by decide +kernel, by decide +kernel⟩, List.mem_of_getElem? (i := 893) (by decide +kernel), List.mem_of_getElem? (i := 1214) (by decide +kernel), List.mem_of_getElem? (i := 1215) (by decide +kernel)⟩
theorem lw_p87 : lw_okq (⟨"DebtRoomsModel", "layFar", "(II)V"⟩, 44) := ⟨⟨by decide +kernel, by decide +kernel⟩, List.mem_of_getElem? (i := 893) (by decide +kernel), List.mem_of_getElem? (i := 1218) (by decide +kernel), List.mem_of_getElem? (i := 1219) (by decide +kernel)⟩
theorem lw_p88 : lw_okq (⟨"DebtRoomsModel", "nightOf", "(III)I"⟩, 44) := ⟨⟨by decide +kernel, by decide +kernel⟩, List.mem_of_getElem? (i := 893) (by decide +kernel), List.mem_of_getElem? (i := 1227) (by decide +kernel), List.mem_of_getElem? (i := 1228) (by decide +kernel)⟩
theorem lw_p89 : lw_okq (⟨"DebtRoomsModel", "paysBy", "(III)I"⟩, 44) := ⟨⟨by decide +kernel, by decide +kernel⟩, List.mem_of_getElem? (i := 893) (by decide +kernel), List.mem_of_getElem? (i := 1231) (by decide +kernel), List.mem_of_getElem? (i := 1232) (by decide +kernel)⟩
theorem lw_p90 : lw_okq (⟨"DebtRoomsModel", "payHere", "(I)I"⟩, 44) := ⟨⟨by decide +kernel, by decide +kernel⟩, List.mem_of_getElem? (i := 893) (by decide +kernel), List.mem_of_getElem? (i := 1235) (by decide +kernel), List.mem_of_getElem? (i := 1236) (by decide +kernel)⟩
theorem lw_p91 : lw_okq (⟨"DebtRoomsModel", "cancelOf", "(II)I"⟩, 44) := ⟨⟨by decide +kernel, by decide +kernel⟩, List.mem_of_getElem? (i := 893) (by decide +kernel), List.mem_of_getElem? (i := 1243) (by decide +kernel), List.mem_of_getElem? (i := 1244) (by decide +kernel)⟩
theorem lw_p92 : lw_okq (⟨"DebtRoomsModel", "layCancel", "(I)I"⟩, 44) := ⟨⟨by decide +kernel, by decide +kernel⟩, List.mem_of_getElem? (i := 893) (by decide +kernel), List.mem_of_getElem? (i := 1247) (by decide +kernel), List.mem_of_getElem? (i := 1248) (by decide +kernel)⟩
theorem lw_p93 : lw_okq (⟨"DebtRoomsModel", "topOf", "(II)I"⟩, 44) := ⟨⟨by decide +kernel, by decide +kernel⟩, List.mem_of_getElem? (i := 893) (by decide +kernel), List.mem_of_getElem? (i := 1251) (by decide +kernel), List.mem_of_getElem? (i := 1252) (by decide +kernel)⟩
theorem lw_p94 : lw_okq (⟨"DebtRoomsModel", "isOf", "(II)Z"⟩, 44) := ⟨⟨by decide +kernel, by decide +kernel⟩, List.mem_of_getElem? (i := 893) (by decide +kernel), List.mem_of_getElem? (i := 1255) (by decide +kernel), List.mem_of_getElem? (i := 1256) (by decide +kernel)⟩
theorem lw_p95 : lw_okq (⟨"DebtRoomsModel", "lessBy", "()I"⟩, 44) := ⟨⟨by decide +kernel, by decide +kernel⟩, List.mem_of_getElem? (i := 893) (by decide +kernel), List.mem_of_getElem? (i := 1259) (by decide +kernel), List.mem_of_getElem? (i := 1260) (by decide +kernel)⟩
def lw_privs_6 : List (MethodName × Nat) := [(⟨"DebtRoomsModel", "isDoor", "(I)Z"⟩, 44), (⟨"DebtRoomsModel", "tellDoor", "(II)I"⟩, 44), (⟨"DebtRoomsModel", "isDebt", "(I)Z"⟩, 44), (⟨"DebtRoomsModel", "tellDebt", "(II)I"⟩, 44), (⟨"DebtRoomsModel", "payThen", "(I)V"⟩, 44), (⟨"DebtRoomsModel", "isRoom", "(I)Z"⟩, 44), (⟨"DebtRoomsModel", "wayOf", "(III)I"⟩, 44), (⟨"DebtRoomsModel", "layFar", "(II)V"⟩, 44), (⟨"DebtRoomsModel", "nightOf", "(III)I"⟩, 44), (⟨"DebtRoomsModel", "paysBy", "(III)I"⟩, 44), (⟨"DebtRoomsModel", "payHere", "(I)I"⟩, 44), (⟨"DebtRoomsModel", "cancelOf", "(II)I"⟩, 44), (⟨"DebtRoomsModel", "layCancel", "(I)I"⟩, 44), (⟨"DebtRoomsModel", "topOf", "(II)I"⟩, 44), (⟨"DebtRoomsModel", "isOf", "(II)Z"⟩, 44), (⟨"DebtRoomsModel", "lessBy", "()I"⟩, 44)]
theorem lw_r6 : ∀ q ∈ lw_privs_6, lw_okq q := List.forall_mem_cons.mpr ⟨lw_p80, List.forall_mem_cons.mpr ⟨lw_p81, List.forall_mem_cons.mpr ⟨lw_p82, List.forall_mem_cons.mpr ⟨lw_p83, List.forall_mem_cons.mpr ⟨lw_p84, List.forall_mem_cons.mpr ⟨lw_p85, List.forall_mem_cons.mpr ⟨lw_p86, List.forall_mem_cons.mpr ⟨lw_p87, List.forall_mem_cons.mpr ⟨lw_p88, List.forall_mem_cons.mpr ⟨lw_p89, List.forall_mem_cons.mpr ⟨lw_p90, List.forall_mem_cons.mpr ⟨lw_p91, List.forall_mem_cons.mpr ⟨lw_p92, List.forall_mem_cons.mpr ⟨lw_p93, List.forall_mem_cons.mpr ⟨lw_p94, List.forall_mem_cons.mpr ⟨lw_p95, fun _ h => absurd h List.not_mem_nil⟩⟩⟩⟩⟩⟩⟩⟩⟩⟩⟩⟩⟩⟩⟩⟩
theorem lw_p96 : lw_okq (⟨"DebtRoomsModel", "lacks", "()Z"⟩, 44) := ⟨⟨by decide +kernel, by decide +kernel⟩, List.mem_of_getElem? (i := 893) (by decide +kernel), List.mem_of_getElem? (i := 1267) (by decide +kernel), List.mem_of_getElem? (i := 1268) (by decide +kernel)⟩
theorem lw_p97 : lw_okq (⟨"DebtRoomsModel", "soundOf", "()I"⟩, 44) := ⟨⟨by decide +kernel, by decide +kernel⟩, List.mem_of_getElem? (i := 893) (by decide +kernel), List.mem_of_getElem? (i := 1271) (by decide +kernel), List.mem_of_getElem? (i := 1272) (by decide +kernel)⟩
theorem lw_p98 : lw_okq (⟨"DebtRoomsModel", "owesThen", "(I)I"⟩, 44) := ⟨⟨by decide +kernel, by decide +kernel⟩, List.mem_of_getElem? (i := 893) (by decide +kernel), List.mem_of_getElem? (i := 1275) (by decide +kernel), List.mem_of_getElem? (i := 1276) (by decide +kernel)⟩
theorem lw_p99 : lw_okq (⟨"DebtRoomsModel", "metOf", "(IIII)I"⟩, 44) := ⟨⟨by decide +kernel, by decide +kernel⟩, List.mem_of_getElem? (i := 893) (by decide +kernel), List.mem_of_getElem? (i := 1284) (by decide +kernel), List.mem_of_getElem? (i := 1285) (by decide +kernel)⟩
theorem lw_p100 : lw_okq (⟨"DebtRoomsModel", "goAll", "(II)V"⟩, 44) := ⟨⟨by decide +kernel, by decide +kernel⟩, List.mem_of_getElem? (i := 893) (by decide +kernel), List.mem_of_getElem? (i := 1288) (by decide +kernel), List.mem_of_getElem? (i := 1289) (by decide +kernel)⟩
theorem lw_p101 : lw_okq (⟨"DebtRoomsModel", "draw", "(I)I"⟩, 44) := ⟨⟨by decide +kernel, by decide +kernel⟩, List.mem_of_getElem? (i := 893) (by decide +kernel), List.mem_of_getElem? (i := 1306) (by decide +kernel), List.mem_of_getElem? (i := 1307) (by decide +kernel)⟩
theorem lw_p102 : lw_okq (⟨"DebtRoomsModel", "payAll", "(I)I"⟩, 44) := ⟨⟨by decide +kernel, by decide +kernel⟩, List.mem_of_getElem? (i := 893) (by decide +kernel), List.mem_of_getElem? (i := 1314) (by decide +kernel), List.mem_of_getElem? (i := 1315) (by decide +kernel)⟩
theorem lw_p103 : lw_okq (⟨"DebtRoomsModel", "paidMany", "([I)I"⟩, 44) := ⟨⟨by decide +kernel, by decide +kernel⟩, List.mem_of_getElem? (i := 893) (by decide +kernel), List.mem_of_getElem? (i := 1318) (by decide +kernel), List.mem_of_getElem? (i := 1319) (by decide +kernel)⟩
theorem lw_p104 : lw_okq (⟨"DebtRoomsModel", "countOf", "(I)I"⟩, 44) := ⟨⟨by decide +kernel, by decide +kernel⟩, List.mem_of_getElem? (i := 893) (by decide +kernel), List.mem_of_getElem? (i := 1334) (by decide +kernel), List.mem_of_getElem? (i := 1335) (by decide +kernel)⟩
theorem lw_p105 : lw_okq (⟨"DebtRoomsModel", "owedAll", "()I"⟩, 44) := ⟨⟨by decide +kernel, by decide +kernel⟩, List.mem_of_getElem? (i := 893) (by decide +kernel), List.mem_of_getElem? (i := 1338) (by decide +kernel), List.mem_of_getElem? (i := 1339) (by decide +kernel)⟩
theorem lw_p106 : lw_okq (⟨"DebtRoomsModel", "pursesAll", "()I"⟩, 44) := ⟨⟨by decide +kernel, by decide +kernel⟩, List.mem_of_getElem? (i := 893) (by decide +kernel), List.mem_of_getElem? (i := 1342) (by decide +kernel), List.mem_of_getElem? (i := 1343) (by decide +kernel)⟩
theorem lw_p107 : lw_okq (⟨"DebtRoomsModel", "sayPerson", "(I)V"⟩, 44) := ⟨⟨by decide +kernel, by decide +kernel⟩, List.mem_of_getElem? (i := 893) (by decide +kernel), List.mem_of_getElem? (i := 1351) (by decide +kernel), List.mem_of_getElem? (i := 1352) (by decide +kernel)⟩
theorem lw_p108 : lw_okq (⟨"DebtRoomsModel", "say", "(J)V"⟩, 44) := ⟨⟨by decide +kernel, by decide +kernel⟩, List.mem_of_getElem? (i := 893) (by decide +kernel), List.mem_of_getElem? (i := 1355) (by decide +kernel), List.mem_of_getElem? (i := 1356) (by decide +kernel)⟩
theorem lw_p109 : lw_okq (⟨"DebtRoomsModel", "sayThings", "()V"⟩, 44) := ⟨⟨by decide +kernel, by decide +kernel⟩, List.mem_of_getElem? (i := 893) (by decide +kernel), List.mem_of_getElem? (i := 1360) (by decide +kernel), List.mem_of_getElem? (i := 1361) (by decide +kernel)⟩
def lw_privs_7 : List (MethodName × Nat) := [(⟨"DebtRoomsModel", "lacks", "()Z"⟩, 44), (⟨"DebtRoomsModel", "soundOf", "()I"⟩, 44), (⟨"DebtRoomsModel", "owesThen", "(I)I"⟩, 44), (⟨"DebtRoomsModel", "metOf", "(IIII)I"⟩, 44), (⟨"DebtRoomsModel", "goAll", "(II)V"⟩, 44), (⟨"DebtRoomsModel", "draw", "(I)I"⟩, 44), (⟨"DebtRoomsModel", "payAll", "(I)I"⟩, 44), (⟨"DebtRoomsModel", "paidMany", "([I)I"⟩, 44), (⟨"DebtRoomsModel", "countOf", "(I)I"⟩, 44), (⟨"DebtRoomsModel", "owedAll", "()I"⟩, 44), (⟨"DebtRoomsModel", "pursesAll", "()I"⟩, 44), (⟨"DebtRoomsModel", "sayPerson", "(I)V"⟩, 44), (⟨"DebtRoomsModel", "say", "(J)V"⟩, 44), (⟨"DebtRoomsModel", "sayThings", "()V"⟩, 44)]
theorem lw_r7 : ∀ q ∈ lw_privs_7, lw_okq q := List.forall_mem_cons.mpr ⟨lw_p96, List.forall_mem_cons.mpr ⟨lw_p97, List.forall_mem_cons.mpr ⟨lw_p98, List.forall_mem_cons.mpr ⟨lw_p99, List.forall_mem_cons.mpr ⟨lw_p100, List.forall_mem_cons.mpr ⟨lw_p101, List.forall_mem_cons.mpr ⟨lw_p102, List.forall_mem_cons.mpr ⟨lw_p103, List.forall_mem_cons.mpr ⟨lw_p104, List.forall_mem_cons.mpr ⟨lw_p105, List.forall_mem_cons.mpr ⟨lw_p106, List.forall_mem_cons.mpr ⟨lw_p107, List.forall_mem_cons.mpr ⟨lw_p108, List.forall_mem_cons.mpr ⟨lw_p109, fun _ h => absurd h List.not_mem_nil⟩⟩⟩⟩⟩⟩⟩⟩⟩⟩⟩⟩⟩⟩
def lw_privs : List (MethodName × Nat) := lw_privs_1 ++ (lw_privs_2 ++ (lw_privs_3 ++ (lw_privs_4 ++ (lw_privs_5 ++ (lw_privs_6 ++ (lw_privs_7))))))
def lw_tbl : List Cond := k2_sels lw_privs ++ tables_1
theorem lw_privs_ok : ∀ q ∈ lw_privs, lw_okq q := by
  show ∀ q ∈ lw_privs_1 ++ (lw_privs_2 ++ (lw_privs_3 ++ (lw_privs_4 ++ (lw_privs_5 ++ (lw_privs_6 ++ (lw_privs_7)))))), lw_okq q
  exact List.forall_mem_append.mpr ⟨lw_r1, List.forall_mem_append.mpr ⟨lw_r2, List.forall_mem_append.mpr ⟨lw_r3, List.forall_mem_append.mpr ⟨lw_r4, List.forall_mem_append.mpr ⟨lw_r5, List.forall_mem_append.mpr ⟨lw_r6, lw_r7⟩⟩⟩⟩⟩⟩
end
section
def RX0 : String := "DebtRooms$Affairs"
def TX0 : u_T := fun k => match k with
  | 0 => ("DebtRooms$Affairs", "plan", "LDebtRooms$House;", true)
  | 1 => ("DebtRooms$Affairs", "purse", "[I", true)
  | 2 => ("DebtRooms$Affairs", "room", "[I", true)
  | 3 => ("DebtRooms$Affairs", "holder", "[I", true)
  | 4 => ("DebtRooms$Affairs", "sum", "[I", true)
  | 5 => ("DebtRooms$Affairs", "paid", "[Z", true)
  | 6 => ("DebtRooms$Affairs", "seenDebt", "[I", true)
  | 7 => ("DebtRooms$Affairs", "seenCould", "[Z", true)
  | 8 => ("DebtRooms$Affairs", "seen", "I", false)
  | _ => ("DebtRooms$Affairs", "gone", "I", false)
def tyX0 : Nat → FieldType := fun k => match k with
  | 0 => .object "DebtRooms$House"
  | 1 => .array .int
  | 2 => .array .int
  | 3 => .array .int
  | 4 => .array .int
  | 5 => .array .boolean
  | 6 => .array .int
  | 7 => .array .boolean
  | 8 => .int
  | _ => .int
theorem nmX0 : ∀ a, a < 10 → ∀ b, b < 10 → a ≠ b → (TX0 a).2.1 ≠ (TX0 b).2.1 := by decide +kernel
theorem tyX0_ok : ∀ k, k < 10 → parseFieldDescriptor (TX0 k).2.2.1 = some (tyX0 k) := by decide +kernel
abbrev cX0_init : ByteArray := prog_2_method_1_code
def yX0_init : MethodName := ⟨RX0, "<init>", "(LDebtRooms$House;)V"⟩
abbrev cX0_takeOver : ByteArray := prog_2_method_2_code
def yX0_takeOver : MethodName := ⟨RX0, "takeOver", "(LDebtRooms$Affairs;)V"⟩
abbrev cX0_mayPass : ByteArray := prog_2_method_3_code
def yX0_mayPass : MethodName := ⟨RX0, "mayPass", "(II)Z"⟩
abbrev cX0_mayGo : ByteArray := prog_2_method_4_code
def yX0_mayGo : MethodName := ⟨RX0, "mayGo", "(II)Z"⟩
abbrev cX0_goThrough : ByteArray := prog_2_method_5_code
def yX0_goThrough : MethodName := ⟨RX0, "goThrough", "(II)V"⟩
abbrev cX0_costOf : ByteArray := prog_2_method_6_code
def yX0_costOf : MethodName := ⟨RX0, "costOf", "(I)I"⟩
abbrev cX0_mayPay : ByteArray := prog_2_method_7_code
def yX0_mayPay : MethodName := ⟨RX0, "mayPay", "(I)Z"⟩
abbrev cX0_settle : ByteArray := prog_2_method_8_code
def yX0_settle : MethodName := ⟨RX0, "settle", "(I)V"⟩
abbrev cX0_payAll : ByteArray := prog_2_method_9_code
def yX0_payAll : MethodName := ⟨RX0, "payAll", "(IZ)I"⟩
abbrev cX0_owesStill : ByteArray := prog_2_method_10_code
def yX0_owesStill : MethodName := ⟨RX0, "owesStill", "(II)Z"⟩
abbrev cX0_costOfAll : ByteArray := prog_2_method_11_code
def yX0_costOfAll : MethodName := ⟨RX0, "costOfAll", "(I)I"⟩
abbrev cX0_payWhoCan : ByteArray := prog_2_method_12_code
def yX0_payWhoCan : MethodName := ⟨RX0, "payWhoCan", "()I"⟩
abbrev cX0_settleAll : ByteArray := prog_2_method_13_code
def yX0_settleAll : MethodName := ⟨RX0, "settleAll", "(I)V"⟩
abbrev cX0_keyBits : ByteArray := prog_2_method_14_code
def yX0_keyBits : MethodName := ⟨RX0, "keyBits", "(I)I"⟩
abbrev cX0_doorBits : ByteArray := prog_2_method_15_code
def yX0_doorBits : MethodName := ⟨RX0, "doorBits", "(I)I"⟩
abbrev cX0_payableBits : ByteArray := prog_2_method_16_code
def yX0_payableBits : MethodName := ⟨RX0, "payableBits", "(I)I"⟩
abbrev cX0_standing : ByteArray := prog_2_method_17_code
def yX0_standing : MethodName := ⟨RX0, "standing", "(I)I"⟩
abbrev cX0_purseBits : ByteArray := prog_2_method_18_code
def yX0_purseBits : MethodName := ⟨RX0, "purseBits", "(I)I"⟩
abbrev cX0_tooPoorBits : ByteArray := prog_2_method_19_code
def yX0_tooPoorBits : MethodName := ⟨RX0, "tooPoorBits", "(I)I"⟩
abbrev cX0_debtToPress : ByteArray := prog_2_method_20_code
def yX0_debtToPress : MethodName := ⟨RX0, "debtToPress", "(I)I"⟩
abbrev cX0_paidDebts : ByteArray := prog_2_method_21_code
def yX0_paidDebts : MethodName := ⟨RX0, "paidDebts", "()I"⟩
abbrev cX0_sumsNotPaid : ByteArray := prog_2_method_22_code
def yX0_sumsNotPaid : MethodName := ⟨RX0, "sumsNotPaid", "()I"⟩
abbrev cX0_allPurses : ByteArray := prog_2_method_23_code
def yX0_allPurses : MethodName := ⟨RX0, "allPurses", "()I"⟩
def RX1 : String := "DebtRooms$Blind"
def TX1 : u_T := fun k => match k with
  | _ => ("", "", "", false)
def tyX1 : Nat → FieldType := fun k => match k with
  | _ => .int
theorem nmX1 : ∀ a, a < 0 → ∀ b, b < 0 → a ≠ b → (TX1 a).2.1 ≠ (TX1 b).2.1 := by decide +kernel
theorem tyX1_ok : ∀ k, k < 0 → parseFieldDescriptor (TX1 k).2.2.1 = some (tyX1 k) := by decide +kernel
abbrev cX1_init : ByteArray := prog_3_method_1_code
def yX1_init : MethodName := ⟨RX1, "<init>", "()V"⟩
abbrev cX1_number : ByteArray := prog_3_method_2_code
def yX1_number : MethodName := ⟨RX1, "number", "()I"⟩
abbrev cX1_passes : ByteArray := prog_3_method_3_code
def yX1_passes : MethodName := ⟨RX1, "passes", "(ZZ)Z"⟩
def RX2 : String := "DebtRooms$Duke"
def TX2 : u_T := fun k => match k with
  | _ => ("", "", "", false)
def tyX2 : Nat → FieldType := fun k => match k with
  | _ => .int
theorem nmX2 : ∀ a, a < 0 → ∀ b, b < 0 → a ≠ b → (TX2 a).2.1 ≠ (TX2 b).2.1 := by decide +kernel
theorem tyX2_ok : ∀ k, k < 0 → parseFieldDescriptor (TX2 k).2.2.1 = some (tyX2 k) := by decide +kernel
abbrev cX2_init : ByteArray := prog_4_method_1_code
def yX2_init : MethodName := ⟨RX2, "<init>", "()V"⟩
abbrev cX2_number : ByteArray := prog_4_method_2_code
def yX2_number : MethodName := ⟨RX2, "number", "()I"⟩
abbrev cX2_costOfSum : ByteArray := prog_4_method_3_code
def yX2_costOfSum : MethodName := ⟨RX2, "costOfSum", "(I)I"⟩
def RX3 : String := "DebtRooms$Heir"
def TX3 : u_T := fun k => match k with
  | _ => ("", "", "", false)
def tyX3 : Nat → FieldType := fun k => match k with
  | _ => .int
theorem nmX3 : ∀ a, a < 0 → ∀ b, b < 0 → a ≠ b → (TX3 a).2.1 ≠ (TX3 b).2.1 := by decide +kernel
theorem tyX3_ok : ∀ k, k < 0 → parseFieldDescriptor (TX3 k).2.2.1 = some (tyX3 k) := by decide +kernel
abbrev cX3_init : ByteArray := prog_5_method_1_code
def yX3_init : MethodName := ⟨RX3, "<init>", "()V"⟩
abbrev cX3_number : ByteArray := prog_5_method_2_code
def yX3_number : MethodName := ⟨RX3, "number", "()I"⟩
abbrev cX3_mayPayFrom : ByteArray := prog_5_method_3_code
def yX3_mayPayFrom : MethodName := ⟨RX3, "mayPayFrom", "(ZZ)Z"⟩
def RX4 : String := "DebtRooms$House"
def TX4 : u_T := fun k => match k with
  | 0 => ("DebtRooms$House", "rooms", "I", false)
  | 1 => ("DebtRooms$House", "doors", "I", false)
  | 2 => ("DebtRooms$House", "people", "I", false)
  | 3 => ("DebtRooms$House", "debts", "I", false)
  | 4 => ("DebtRooms$House", "oneEnd", "[I", true)
  | 5 => ("DebtRooms$House", "otherEnd", "[I", true)
  | 6 => ("DebtRooms$House", "lock", "[I", true)
  | 7 => ("DebtRooms$House", "kinds", "[LDebtRooms$Person;", true)
  | 8 => ("DebtRooms$House", "debtor", "[I", true)
  | 9 => ("DebtRooms$House", "creditor", "[I", true)
  | _ => ("DebtRooms$House", "debtRoom", "[I", true)
def tyX4 : Nat → FieldType := fun k => match k with
  | 0 => .int
  | 1 => .int
  | 2 => .int
  | 3 => .int
  | 4 => .array .int
  | 5 => .array .int
  | 6 => .array .int
  | 7 => .array (.object "DebtRooms$Person")
  | 8 => .array .int
  | 9 => .array .int
  | _ => .array .int
theorem nmX4 : ∀ a, a < 11 → ∀ b, b < 11 → a ≠ b → (TX4 a).2.1 ≠ (TX4 b).2.1 := by decide +kernel
theorem tyX4_ok : ∀ k, k < 11 → parseFieldDescriptor (TX4 k).2.2.1 = some (tyX4 k) := by decide +kernel
abbrev cX4_init : ByteArray := prog_6_method_1_code
def yX4_init : MethodName := ⟨RX4, "<init>", "()V"⟩
abbrev cX4_newOfKind : ByteArray := prog_6_method_2_code
def yX4_newOfKind : MethodName := ⟨RX4, "newOfKind", "(I)LDebtRooms$Person;"⟩
abbrev cX4_isOfKind : ByteArray := prog_6_method_3_code
def yX4_isOfKind : MethodName := ⟨RX4, "isOfKind", "(II)Z"⟩
abbrev cX4_doorEndsAt : ByteArray := prog_6_method_4_code
def yX4_doorEndsAt : MethodName := ⟨RX4, "doorEndsAt", "(II)Z"⟩
abbrev cX4_roomBeyond : ByteArray := prog_6_method_5_code
def yX4_roomBeyond : MethodName := ⟨RX4, "roomBeyond", "(II)I"⟩
def RX5 : String := "DebtRooms$Nights"
def TX5 : u_T := fun k => match k with
  | 0 => ("DebtRooms$Nights", "plan", "LDebtRooms$House;", true)
  | 1 => ("DebtRooms$Nights", "levels", "[LDebtRooms$Affairs;", true)
  | 2 => ("DebtRooms$Nights", "path", "[I", true)
  | 3 => ("DebtRooms$Nights", "best", "[I", true)
  | _ => ("DebtRooms$Nights", "most", "I", false)
def tyX5 : Nat → FieldType := fun k => match k with
  | 0 => .object "DebtRooms$House"
  | 1 => .array (.object "DebtRooms$Affairs")
  | 2 => .array .int
  | 3 => .array .int
  | _ => .int
theorem nmX5 : ∀ a, a < 5 → ∀ b, b < 5 → a ≠ b → (TX5 a).2.1 ≠ (TX5 b).2.1 := by decide +kernel
theorem tyX5_ok : ∀ k, k < 5 → parseFieldDescriptor (TX5 k).2.2.1 = some (tyX5 k) := by decide +kernel
abbrev cX5_init : ByteArray := prog_7_method_1_code
def yX5_init : MethodName := ⟨RX5, "<init>", "(LDebtRooms$House;)V"⟩
abbrev cX5_search : ByteArray := prog_7_method_2_code
def yX5_search : MethodName := ⟨RX5, "search", "(LDebtRooms$Affairs;II)V"⟩
abbrev cX5_doorAt : ByteArray := prog_7_method_3_code
def yX5_doorAt : MethodName := ⟨RX5, "doorAt", "(II)I"⟩
abbrev cX5_goOn : ByteArray := prog_7_method_4_code
def yX5_goOn : MethodName := ⟨RX5, "goOn", "(LDebtRooms$Nights;IIII)V"⟩
abbrev cX5_keepIfMore : ByteArray := prog_7_method_5_code
def yX5_keepIfMore : MethodName := ⟨RX5, "keepIfMore", "(I)V"⟩
def RX6 : String := "DebtRooms$Page"
def TX6 : u_T := fun k => match k with
  | 0 => ("DebtRooms$Page", "letters", "[I", true)
  | 1 => ("DebtRooms$Page", "length", "I", false)
  | 2 => ("DebtRooms$Page", "faultAt", "I", false)
  | 3 => ("DebtRooms$Page", "isWhole", "Z", false)
  | 4 => ("DebtRooms$Page", "part", "I", false)
  | 5 => ("DebtRooms$Page", "field", "I", false)
  | 6 => ("DebtRooms$Page", "first", "I", false)
  | 7 => ("DebtRooms$Page", "rooms", "I", false)
  | 8 => ("DebtRooms$Page", "doors", "I", false)
  | 9 => ("DebtRooms$Page", "people", "I", false)
  | _ => ("DebtRooms$Page", "debts", "I", false)
def tyX6 : Nat → FieldType := fun k => match k with
  | 0 => .array .int
  | 1 => .int
  | 2 => .int
  | 3 => .boolean
  | 4 => .int
  | 5 => .int
  | 6 => .int
  | 7 => .int
  | 8 => .int
  | 9 => .int
  | _ => .int
theorem nmX6 : ∀ a, a < 11 → ∀ b, b < 11 → a ≠ b → (TX6 a).2.1 ≠ (TX6 b).2.1 := by decide +kernel
theorem tyX6_ok : ∀ k, k < 11 → parseFieldDescriptor (TX6 k).2.2.1 = some (tyX6 k) := by decide +kernel
abbrev cX6_init : ByteArray := prog_8_method_1_code
def yX6_init : MethodName := ⟨RX6, "<init>", "()V"⟩
abbrev cX6_append : ByteArray := prog_8_method_2_code
def yX6_append : MethodName := ⟨RX6, "append", "(I)Z"⟩
abbrev cX6_scan : ByteArray := prog_8_method_3_code
def yX6_scan : MethodName := ⟨RX6, "scan", "()V"⟩
abbrev cX6_takes : ByteArray := prog_8_method_4_code
def yX6_takes : MethodName := ⟨RX6, "takes", "(C)Z"⟩
abbrev cX6_takesInRooms : ByteArray := prog_8_method_5_code
def yX6_takesInRooms : MethodName := ⟨RX6, "takesInRooms", "(C)Z"⟩
abbrev cX6_takesInDoors : ByteArray := prog_8_method_6_code
def yX6_takesInDoors : MethodName := ⟨RX6, "takesInDoors", "(C)Z"⟩
abbrev cX6_takesInPeople : ByteArray := prog_8_method_7_code
def yX6_takesInPeople : MethodName := ⟨RX6, "takesInPeople", "(C)Z"⟩
abbrev cX6_takesInDebts : ByteArray := prog_8_method_8_code
def yX6_takesInDebts : MethodName := ⟨RX6, "takesInDebts", "(C)Z"⟩
abbrev cX6_takesFirst : ByteArray := prog_8_method_9_code
def yX6_takesFirst : MethodName := ⟨RX6, "takesFirst", "(CI)Z"⟩
abbrev cX6_takesOther : ByteArray := prog_8_method_10_code
def yX6_takesOther : MethodName := ⟨RX6, "takesOther", "(CI)Z"⟩
abbrev cX6_takesIf : ByteArray := prog_8_method_11_code
def yX6_takesIf : MethodName := ⟨RX6, "takesIf", "(Z)Z"⟩
abbrev cX6_opens : ByteArray := prog_8_method_12_code
def yX6_opens : MethodName := ⟨RX6, "opens", "(I)Z"⟩
abbrev cX6_isDigitBelow : ByteArray := prog_8_method_13_code
def yX6_isDigitBelow : MethodName := ⟨RX6, "isDigitBelow", "(CI)Z"⟩
abbrev cX6_digitAt : ByteArray := prog_8_method_14_code
def yX6_digitAt : MethodName := ⟨RX6, "digitAt", "(I)I"⟩
abbrev cX6_placeIn : ByteArray := prog_8_method_15_code
def yX6_placeIn : MethodName := ⟨RX6, "placeIn", "(Ljava/lang/String;I)I"⟩
abbrev cX6_peopleAt : ByteArray := prog_8_method_16_code
def yX6_peopleAt : MethodName := ⟨RX6, "peopleAt", "()I"⟩
abbrev cX6_debtsAt : ByteArray := prog_8_method_17_code
def yX6_debtsAt : MethodName := ⟨RX6, "debtsAt", "()I"⟩
abbrev cX6_readHouse : ByteArray := prog_8_method_18_code
def yX6_readHouse : MethodName := ⟨RX6, "readHouse", "(LDebtRooms$House;)V"⟩
abbrev cX6_readAffairs : ByteArray := prog_8_method_19_code
def yX6_readAffairs : MethodName := ⟨RX6, "readAffairs", "(LDebtRooms$Affairs;)V"⟩
def RX7 : String := "DebtRooms$Person"
def TX7 : u_T := fun k => match k with
  | _ => ("", "", "", false)
def tyX7 : Nat → FieldType := fun k => match k with
  | _ => .int
theorem nmX7 : ∀ a, a < 0 → ∀ b, b < 0 → a ≠ b → (TX7 a).2.1 ≠ (TX7 b).2.1 := by decide +kernel
theorem tyX7_ok : ∀ k, k < 0 → parseFieldDescriptor (TX7 k).2.2.1 = some (tyX7 k) := by decide +kernel
abbrev cX7_init : ByteArray := prog_9_method_1_code
def yX7_init : MethodName := ⟨RX7, "<init>", "()V"⟩
abbrev cX7_number : ByteArray := prog_9_method_2_code
def yX7_number : MethodName := ⟨RX7, "number", "()I"⟩
abbrev cX7_passes : ByteArray := prog_9_method_3_code
def yX7_passes : MethodName := ⟨RX7, "passes", "(ZZ)Z"⟩
abbrev cX7_costOfSum : ByteArray := prog_9_method_4_code
def yX7_costOfSum : MethodName := ⟨RX7, "costOfSum", "(I)I"⟩
abbrev cX7_mayPayFrom : ByteArray := prog_9_method_5_code
def yX7_mayPayFrom : MethodName := ⟨RX7, "mayPayFrom", "(ZZ)Z"⟩
def RX8 : String := "DebtRooms$Rich"
def TX8 : u_T := fun k => match k with
  | _ => ("", "", "", false)
def tyX8 : Nat → FieldType := fun k => match k with
  | _ => .int
theorem nmX8 : ∀ a, a < 0 → ∀ b, b < 0 → a ≠ b → (TX8 a).2.1 ≠ (TX8 b).2.1 := by decide +kernel
theorem tyX8_ok : ∀ k, k < 0 → parseFieldDescriptor (TX8 k).2.2.1 = some (tyX8 k) := by decide +kernel
abbrev cX8_init : ByteArray := prog_10_method_1_code
def yX8_init : MethodName := ⟨RX8, "<init>", "()V"⟩
abbrev cX8_number : ByteArray := prog_10_method_2_code
def yX8_number : MethodName := ⟨RX8, "number", "()I"⟩
abbrev cX8_passes : ByteArray := prog_10_method_3_code
def yX8_passes : MethodName := ⟨RX8, "passes", "(ZZ)Z"⟩
abbrev cX8_costOfSum : ByteArray := prog_10_method_4_code
def yX8_costOfSum : MethodName := ⟨RX8, "costOfSum", "(I)I"⟩
abbrev cX8_mayPayFrom : ByteArray := prog_10_method_5_code
def yX8_mayPayFrom : MethodName := ⟨RX8, "mayPayFrom", "(ZZ)Z"⟩
def RX9 : String := "DebtRooms$Rings"
def TX9 : u_T := fun k => match k with
  | 0 => ("DebtRooms$Rings", "plan", "LDebtRooms$House;", true)
  | 1 => ("DebtRooms$Rings", "limit", "[I", true)
  | 2 => ("DebtRooms$Rings", "less", "[I", true)
  | 3 => ("DebtRooms$Rings", "best", "[I", true)
  | 4 => ("DebtRooms$Rings", "lastDebt", "[I", true)
  | 5 => ("DebtRooms$Rings", "uneven", "[I", true)
  | _ => ("DebtRooms$Rings", "most", "I", false)
def tyX9 : Nat → FieldType := fun k => match k with
  | 0 => .object "DebtRooms$House"
  | 1 => .array .int
  | 2 => .array .int
  | 3 => .array .int
  | 4 => .array .int
  | 5 => .array .int
  | _ => .int
theorem nmX9 : ∀ a, a < 7 → ∀ b, b < 7 → a ≠ b → (TX9 a).2.1 ≠ (TX9 b).2.1 := by decide +kernel
theorem tyX9_ok : ∀ k, k < 7 → parseFieldDescriptor (TX9 k).2.2.1 = some (tyX9 k) := by decide +kernel
abbrev cX9_init : ByteArray := prog_11_method_1_code
def yX9_init : MethodName := ⟨RX9, "<init>", "(LDebtRooms$House;)V"⟩
abbrev cX9_search : ByteArray := prog_11_method_2_code
def yX9_search : MethodName := ⟨RX9, "search", "(LDebtRooms$Affairs;I)V"⟩
abbrev cX9_lessen : ByteArray := prog_11_method_3_code
def yX9_lessen : MethodName := ⟨RX9, "lessen", "(LDebtRooms$Rings;II)V"⟩
abbrev cX9_keepIfMore : ByteArray := prog_11_method_4_code
def yX9_keepIfMore : MethodName := ⟨RX9, "keepIfMore", "(I)V"⟩
def RX10 : String := "DebtRooms$Walks"
def TX10 : u_T := fun k => match k with
  | 0 => ("DebtRooms$Walks", "plan", "LDebtRooms$House;", true)
  | 1 => ("DebtRooms$Walks", "far", "[I", true)
  | 2 => ("DebtRooms$Walks", "parts", "[I", true)
  | _ => ("DebtRooms$Walks", "next", "[I", true)
def tyX10 : Nat → FieldType := fun k => match k with
  | 0 => .object "DebtRooms$House"
  | 1 => .array .int
  | 2 => .array .int
  | _ => .array .int
theorem nmX10 : ∀ a, a < 4 → ∀ b, b < 4 → a ≠ b → (TX10 a).2.1 ≠ (TX10 b).2.1 := by decide +kernel
theorem tyX10_ok : ∀ k, k < 4 → parseFieldDescriptor (TX10 k).2.2.1 = some (tyX10 k) := by decide +kernel
abbrev cX10_init : ByteArray := prog_12_method_1_code
def yX10_init : MethodName := ⟨RX10, "<init>", "(LDebtRooms$House;)V"⟩
abbrev cX10_wayLength : ByteArray := prog_12_method_2_code
def yX10_wayLength : MethodName := ⟨RX10, "wayLength", "(LDebtRooms$Affairs;II)I"⟩
abbrev cX10_wayDoor : ByteArray := prog_12_method_3_code
def yX10_wayDoor : MethodName := ⟨RX10, "wayDoor", "(LDebtRooms$Affairs;III)I"⟩
abbrev cX10_measure : ByteArray := prog_12_method_4_code
def yX10_measure : MethodName := ⟨RX10, "measure", "(LDebtRooms$Affairs;II)V"⟩
abbrev cX10_shorten : ByteArray := prog_12_method_5_code
def yX10_shorten : MethodName := ⟨RX10, "shorten", "(II)V"⟩
abbrev cX10_doorNearer : ByteArray := prog_12_method_6_code
def yX10_doorNearer : MethodName := ⟨RX10, "doorNearer", "(LDebtRooms$Affairs;II)I"⟩
abbrev cX10_metParts : ByteArray := prog_12_method_7_code
def yX10_metParts : MethodName := ⟨RX10, "metParts", "(LDebtRooms$Affairs;III)I"⟩
abbrev cX10_spread : ByteArray := prog_12_method_8_code
def yX10_spread : MethodName := ⟨RX10, "spread", "(LDebtRooms$Affairs;I)V"⟩
abbrev cX10_spreadFrom : ByteArray := prog_12_method_9_code
def yX10_spreadFrom : MethodName := ⟨RX10, "spreadFrom", "(LDebtRooms$Affairs;II)V"⟩
def RX11 : String := "DebtRooms"
def TX11 : u_T := fun k => match k with
  | 0 => ("DebtRooms", "page", "LDebtRooms$Page;", true)
  | 1 => ("DebtRooms", "plan", "LDebtRooms$House;", true)
  | 2 => ("DebtRooms", "now", "LDebtRooms$Affairs;", true)
  | 3 => ("DebtRooms", "kept", "LDebtRooms$Affairs;", true)
  | 4 => ("DebtRooms", "trial", "LDebtRooms$Affairs;", true)
  | 5 => ("DebtRooms", "walks", "LDebtRooms$Walks;", true)
  | 6 => ("DebtRooms", "nights", "LDebtRooms$Nights;", true)
  | 7 => ("DebtRooms", "rings", "LDebtRooms$Rings;", true)
  | 8 => ("DebtRooms", "isKept", "Z", false)
  | _ => ("DebtRooms", "readings", "I", false)
def tyX11 : Nat → FieldType := fun k => match k with
  | 0 => .object "DebtRooms$Page"
  | 1 => .object "DebtRooms$House"
  | 2 => .object "DebtRooms$Affairs"
  | 3 => .object "DebtRooms$Affairs"
  | 4 => .object "DebtRooms$Affairs"
  | 5 => .object "DebtRooms$Walks"
  | 6 => .object "DebtRooms$Nights"
  | 7 => .object "DebtRooms$Rings"
  | 8 => .boolean
  | _ => .int
theorem nmX11 : ∀ a, a < 10 → ∀ b, b < 10 → a ≠ b → (TX11 a).2.1 ≠ (TX11 b).2.1 := by decide +kernel
theorem tyX11_ok : ∀ k, k < 10 → parseFieldDescriptor (TX11 k).2.2.1 = some (tyX11 k) := by decide +kernel
abbrev cX11_init : ByteArray := prog_1_method_1_code
def yX11_init : MethodName := ⟨RX11, "<init>", "()V"⟩
abbrev cX11_letter : ByteArray := prog_1_method_2_code
def yX11_letter : MethodName := ⟨RX11, "letter", "(I)I"⟩
abbrev cX11_blank : ByteArray := prog_1_method_3_code
def yX11_blank : MethodName := ⟨RX11, "blank", "()I"⟩
abbrev cX11_fault : ByteArray := prog_1_method_4_code
def yX11_fault : MethodName := ⟨RX11, "fault", "()I"⟩
abbrev cX11_house : ByteArray := prog_1_method_5_code
def yX11_house : MethodName := ⟨RX11, "house", "()I"⟩
abbrev cX11_person : ByteArray := prog_1_method_6_code
def yX11_person : MethodName := ⟨RX11, "person", "(II)I"⟩
abbrev cX11_as : ByteArray := prog_1_method_7_code
def yX11_as : MethodName := ⟨RX11, "as", "(II)I"⟩
abbrev cX11_door : ByteArray := prog_1_method_8_code
def yX11_door : MethodName := ⟨RX11, "door", "(II)I"⟩
abbrev cX11_debt : ByteArray := prog_1_method_9_code
def yX11_debt : MethodName := ⟨RX11, "debt", "(II)I"⟩
abbrev cX11_go : ByteArray := prog_1_method_10_code
def yX11_go : MethodName := ⟨RX11, "go", "(II)I"⟩
abbrev cX11_give : ByteArray := prog_1_method_11_code
def yX11_give : MethodName := ⟨RX11, "give", "(II)I"⟩
abbrev cX11_pay : ByteArray := prog_1_method_12_code
def yX11_pay : MethodName := ⟨RX11, "pay", "(I)I"⟩
abbrev cX11_earn : ByteArray := prog_1_method_13_code
def yX11_earn : MethodName := ⟨RX11, "earn", "(II)I"⟩
abbrev cX11_owe : ByteArray := prog_1_method_14_code
def yX11_owe : MethodName := ⟨RX11, "owe", "(II)I"⟩
abbrev cX11_way : ByteArray := prog_1_method_15_code
def yX11_way : MethodName := ⟨RX11, "way", "(III)I"⟩
abbrev cX11_night : ByteArray := prog_1_method_16_code
def yX11_night : MethodName := ⟨RX11, "night", "(III)I"⟩
abbrev cX11_cancel : ByteArray := prog_1_method_17_code
def yX11_cancel : MethodName := ⟨RX11, "cancel", "(II)I"⟩
abbrev cX11_sound : ByteArray := prog_1_method_18_code
def yX11_sound : MethodName := ⟨RX11, "sound", "()I"⟩
abbrev cX11_met : ByteArray := prog_1_method_19_code
def yX11_met : MethodName := ⟨RX11, "met", "(IIII)I"⟩
abbrev cX11_see : ByteArray := prog_1_method_20_code
def yX11_see : MethodName := ⟨RX11, "see", "(IZ)I"⟩
abbrev cX11_forget : ByteArray := prog_1_method_21_code
def yX11_forget : MethodName := ⟨RX11, "forget", "()I"⟩
abbrev cX11_winters : ByteArray := prog_1_method_22_code
def yX11_winters : MethodName := ⟨RX11, "winters", "(III)I"⟩
abbrev cX11_image : ByteArray := prog_1_method_23_code
def yX11_image : MethodName := ⟨RX11, "image", "()I"⟩
abbrev cX11_restore : ByteArray := prog_1_method_24_code
def yX11_restore : MethodName := ⟨RX11, "restore", "()I"⟩
abbrev cX11_count : ByteArray := prog_1_method_25_code
def yX11_count : MethodName := ⟨RX11, "count", "(I)I"⟩
abbrev cX11_digest : ByteArray := prog_1_method_26_code
def yX11_digest : MethodName := ⟨RX11, "digest", "()J"⟩
abbrev cX11_mixPerson : ByteArray := prog_1_method_27_code
def yX11_mixPerson : MethodName := ⟨RX11, "mixPerson", "(JI)J"⟩
abbrev cX11_mix : ByteArray := prog_1_method_28_code
def yX11_mix : MethodName := ⟨RX11, "mix", "(JI)J"⟩
abbrev cX11_isNobody : ByteArray := prog_1_method_29_code
def yX11_isNobody : MethodName := ⟨RX11, "isNobody", "(I)Z"⟩
abbrev cX11_isNoDoor : ByteArray := prog_1_method_30_code
def yX11_isNoDoor : MethodName := ⟨RX11, "isNoDoor", "(I)Z"⟩
abbrev cX11_isNoDebt : ByteArray := prog_1_method_31_code
def yX11_isNoDebt : MethodName := ⟨RX11, "isNoDebt", "(I)Z"⟩
abbrev cX11_isNoRoom : ByteArray := prog_1_method_32_code
def yX11_isNoRoom : MethodName := ⟨RX11, "isNoRoom", "(I)Z"⟩
abbrev cX11_nextSeed : ByteArray := prog_1_method_33_code
def yX11_nextSeed : MethodName := ⟨RX11, "nextSeed", "(I)I"⟩
abbrev cX11_commonDivisor : ByteArray := prog_1_method_34_code
def yX11_commonDivisor : MethodName := ⟨RX11, "commonDivisor", "(II)I"⟩
def RX12 : String := "DebtRoomsModel"
def TX12 : u_T := fun k => match k with
  | 0 => ("DebtRoomsModel", "page", "[I", true)
  | 1 => ("DebtRoomsModel", "pageMany", "I", false)
  | 2 => ("DebtRoomsModel", "doorsEnd", "I", false)
  | 3 => ("DebtRoomsModel", "peopleEnd", "I", false)
  | 4 => ("DebtRoomsModel", "rooms", "I", false)
  | 5 => ("DebtRoomsModel", "doors", "I", false)
  | 6 => ("DebtRoomsModel", "people", "I", false)
  | 7 => ("DebtRoomsModel", "debts", "I", false)
  | 8 => ("DebtRoomsModel", "gone", "I", false)
  | 9 => ("DebtRoomsModel", "housesRead", "I", false)
  | 10 => ("DebtRoomsModel", "one", "[I", true)
  | 11 => ("DebtRoomsModel", "other", "[I", true)
  | 12 => ("DebtRoomsModel", "locks", "[I", true)
  | 13 => ("DebtRoomsModel", "kinds", "[I", true)
  | 14 => ("DebtRoomsModel", "purses", "[I", true)
  | 15 => ("DebtRoomsModel", "places", "[I", true)
  | 16 => ("DebtRoomsModel", "keys", "[I", true)
  | 17 => ("DebtRoomsModel", "owers", "[I", true)
  | 18 => ("DebtRoomsModel", "owed", "[I", true)
  | 19 => ("DebtRoomsModel", "debtRooms", "[I", true)
  | 20 => ("DebtRoomsModel", "sums", "[I", true)
  | 21 => ("DebtRoomsModel", "paid", "[I", true)
  | 22 => ("DebtRoomsModel", "pursesThen", "[I", true)
  | 23 => ("DebtRoomsModel", "placesThen", "[I", true)
  | 24 => ("DebtRoomsModel", "paidThen", "[I", true)
  | 25 => ("DebtRoomsModel", "far", "[I", true)
  | 26 => ("DebtRoomsModel", "less", "[I", true)
  | 27 => ("DebtRoomsModel", "balance", "[I", true)
  | 28 => ("DebtRoomsModel", "bestLess", "[I", true)
  | 29 => ("DebtRoomsModel", "ways", "[I", true)
  | 30 => ("DebtRoomsModel", "waysThen", "[I", true)
  | 31 => ("DebtRoomsModel", "seenMany", "I", false)
  | 32 => ("DebtRoomsModel", "sights", "[I", true)
  | 33 => ("DebtRoomsModel", "seedNow", "I", false)
  | 34 => ("DebtRoomsModel", "keptHouse", "I", false)
  | 35 => ("DebtRoomsModel", "keptGone", "I", false)
  | 36 => ("DebtRoomsModel", "keptSeen", "I", false)
  | 37 => ("DebtRoomsModel", "keptPurses", "[I", true)
  | 38 => ("DebtRoomsModel", "keptPlaces", "[I", true)
  | 39 => ("DebtRoomsModel", "keptKeys", "[I", true)
  | 40 => ("DebtRoomsModel", "keptSums", "[I", true)
  | 41 => ("DebtRoomsModel", "keptPaid", "[I", true)
  | 42 => ("DebtRoomsModel", "keptSights", "[I", true)
  | _ => ("DebtRoomsModel", "hash", "J", false)
def tyX12 : Nat → FieldType := fun k => match k with
  | 0 => .array .int
  | 1 => .int
  | 2 => .int
  | 3 => .int
  | 4 => .int
  | 5 => .int
  | 6 => .int
  | 7 => .int
  | 8 => .int
  | 9 => .int
  | 10 => .array .int
  | 11 => .array .int
  | 12 => .array .int
  | 13 => .array .int
  | 14 => .array .int
  | 15 => .array .int
  | 16 => .array .int
  | 17 => .array .int
  | 18 => .array .int
  | 19 => .array .int
  | 20 => .array .int
  | 21 => .array .int
  | 22 => .array .int
  | 23 => .array .int
  | 24 => .array .int
  | 25 => .array .int
  | 26 => .array .int
  | 27 => .array .int
  | 28 => .array .int
  | 29 => .array .int
  | 30 => .array .int
  | 31 => .int
  | 32 => .array .int
  | 33 => .int
  | 34 => .int
  | 35 => .int
  | 36 => .int
  | 37 => .array .int
  | 38 => .array .int
  | 39 => .array .int
  | 40 => .array .int
  | 41 => .array .int
  | 42 => .array .int
  | _ => .long
theorem nmX12 : ∀ a, a < 44 → ∀ b, b < 44 → a ≠ b → (TX12 a).2.1 ≠ (TX12 b).2.1 := by decide +kernel
theorem tyX12_ok : ∀ k, k < 44 → parseFieldDescriptor (TX12 k).2.2.1 = some (tyX12 k) := by decide +kernel
abbrev cX12_init : ByteArray := prog_14_method_1_code
def yX12_init : MethodName := ⟨RX12, "<init>", "()V"⟩
abbrev cX12_in : ByteArray := prog_14_method_2_code
def yX12_in : MethodName := ⟨RX12, "in", "(JJJ)Z"⟩
abbrev cX12_copy : ByteArray := prog_14_method_3_code
def yX12_copy : MethodName := ⟨RX12, "copy", "([I[I)V"⟩
abbrev cX12_letter : ByteArray := prog_14_method_4_code
def yX12_letter : MethodName := ⟨RX12, "letter", "(I)I"⟩
abbrev cX12_blank : ByteArray := prog_14_method_5_code
def yX12_blank : MethodName := ⟨RX12, "blank", "()I"⟩
abbrev cX12_kindBy : ByteArray := prog_14_method_6_code
def yX12_kindBy : MethodName := ⟨RX12, "kindBy", "(I)I"⟩
abbrev cX12_lockBy : ByteArray := prog_14_method_7_code
def yX12_lockBy : MethodName := ⟨RX12, "lockBy", "(I)I"⟩
abbrev cX12_isRoomLetter : ByteArray := prog_14_method_8_code
def yX12_isRoomLetter : MethodName := ⟨RX12, "isRoomLetter", "(I)Z"⟩
abbrev cX12_isDoorLetter : ByteArray := prog_14_method_9_code
def yX12_isDoorLetter : MethodName := ⟨RX12, "isDoorLetter", "(I)Z"⟩
abbrev cX12_isPersonLetter : ByteArray := prog_14_method_10_code
def yX12_isPersonLetter : MethodName := ⟨RX12, "isPersonLetter", "(I)Z"⟩
abbrev cX12_isPersonDigit : ByteArray := prog_14_method_11_code
def yX12_isPersonDigit : MethodName := ⟨RX12, "isPersonDigit", "(I)Z"⟩
abbrev cX12_isDebtLetter : ByteArray := prog_14_method_12_code
def yX12_isDebtLetter : MethodName := ⟨RX12, "isDebtLetter", "(I)Z"⟩
abbrev cX12_isGood : ByteArray := prog_14_method_13_code
def yX12_isGood : MethodName := ⟨RX12, "isGood", "(I)Z"⟩
abbrev cX12_faultOf : ByteArray := prog_14_method_14_code
def yX12_faultOf : MethodName := ⟨RX12, "faultOf", "()I"⟩
abbrev cX12_fault : ByteArray := prog_14_method_15_code
def yX12_fault : MethodName := ⟨RX12, "fault", "()I"⟩
abbrev cX12_house : ByteArray := prog_14_method_16_code
def yX12_house : MethodName := ⟨RX12, "house", "()I"⟩
abbrev cX12_lacks : ByteArray := prog_14_method_17_code
def yX12_lacks : MethodName := ⟨RX12, "lacks", "()Z"⟩
abbrev cX12_isPerson : ByteArray := prog_14_method_18_code
def yX12_isPerson : MethodName := ⟨RX12, "isPerson", "(I)Z"⟩
abbrev cX12_isDoor : ByteArray := prog_14_method_19_code
def yX12_isDoor : MethodName := ⟨RX12, "isDoor", "(I)Z"⟩
abbrev cX12_isDebt : ByteArray := prog_14_method_20_code
def yX12_isDebt : MethodName := ⟨RX12, "isDebt", "(I)Z"⟩
abbrev cX12_isRoom : ByteArray := prog_14_method_21_code
def yX12_isRoom : MethodName := ⟨RX12, "isRoom", "(I)Z"⟩
abbrev cX12_isRich : ByteArray := prog_14_method_22_code
def yX12_isRich : MethodName := ⟨RX12, "isRich", "(I)Z"⟩
abbrev cX12_costs : ByteArray := prog_14_method_23_code
def yX12_costs : MethodName := ⟨RX12, "costs", "(I)I"⟩
abbrev cX12_begin : ByteArray := prog_14_method_24_code
def yX12_begin : MethodName := ⟨RX12, "begin", "()V"⟩
abbrev cX12_through : ByteArray := prog_14_method_25_code
def yX12_through : MethodName := ⟨RX12, "through", "(III)I"⟩
abbrev cX12_mayThen : ByteArray := prog_14_method_26_code
def yX12_mayThen : MethodName := ⟨RX12, "mayThen", "(I)Z"⟩
abbrev cX12_payThen : ByteArray := prog_14_method_27_code
def yX12_payThen : MethodName := ⟨RX12, "payThen", "(I)V"⟩
abbrev cX12_keysOf : ByteArray := prog_14_method_28_code
def yX12_keysOf : MethodName := ⟨RX12, "keysOf", "(I)I"⟩
abbrev cX12_doorsOf : ByteArray := prog_14_method_29_code
def yX12_doorsOf : MethodName := ⟨RX12, "doorsOf", "(I)I"⟩
abbrev cX12_mayPay : ByteArray := prog_14_method_30_code
def yX12_mayPay : MethodName := ⟨RX12, "mayPay", "(I)I"⟩
abbrev cX12_standing : ByteArray := prog_14_method_31_code
def yX12_standing : MethodName := ⟨RX12, "standing", "(I)I"⟩
abbrev cX12_tellPerson : ByteArray := prog_14_method_32_code
def yX12_tellPerson : MethodName := ⟨RX12, "tellPerson", "(II)I"⟩
abbrev cX12_person : ByteArray := prog_14_method_33_code
def yX12_person : MethodName := ⟨RX12, "person", "(II)I"⟩
abbrev cX12_as : ByteArray := prog_14_method_34_code
def yX12_as : MethodName := ⟨RX12, "as", "(II)I"⟩
abbrev cX12_tellDoor : ByteArray := prog_14_method_35_code
def yX12_tellDoor : MethodName := ⟨RX12, "tellDoor", "(II)I"⟩
abbrev cX12_door : ByteArray := prog_14_method_36_code
def yX12_door : MethodName := ⟨RX12, "door", "(II)I"⟩
abbrev cX12_tellDebt : ByteArray := prog_14_method_37_code
def yX12_tellDebt : MethodName := ⟨RX12, "tellDebt", "(II)I"⟩
abbrev cX12_debt : ByteArray := prog_14_method_38_code
def yX12_debt : MethodName := ⟨RX12, "debt", "(II)I"⟩
abbrev cX12_go : ByteArray := prog_14_method_39_code
def yX12_go : MethodName := ⟨RX12, "go", "(II)I"⟩
abbrev cX12_give : ByteArray := prog_14_method_40_code
def yX12_give : MethodName := ⟨RX12, "give", "(II)I"⟩
abbrev cX12_pay : ByteArray := prog_14_method_41_code
def yX12_pay : MethodName := ⟨RX12, "pay", "(I)I"⟩
abbrev cX12_earn : ByteArray := prog_14_method_42_code
def yX12_earn : MethodName := ⟨RX12, "earn", "(II)I"⟩
abbrev cX12_owe : ByteArray := prog_14_method_43_code
def yX12_owe : MethodName := ⟨RX12, "owe", "(II)I"⟩
abbrev cX12_layFar : ByteArray := prog_14_method_44_code
def yX12_layFar : MethodName := ⟨RX12, "layFar", "(II)V"⟩
abbrev cX12_wayOf : ByteArray := prog_14_method_45_code
def yX12_wayOf : MethodName := ⟨RX12, "wayOf", "(III)I"⟩
abbrev cX12_way : ByteArray := prog_14_method_46_code
def yX12_way : MethodName := ⟨RX12, "way", "(III)I"⟩
abbrev cX12_payHere : ByteArray := prog_14_method_47_code
def yX12_payHere : MethodName := ⟨RX12, "payHere", "(I)I"⟩
abbrev cX12_paysBy : ByteArray := prog_14_method_48_code
def yX12_paysBy : MethodName := ⟨RX12, "paysBy", "(III)I"⟩
abbrev cX12_nightOf : ByteArray := prog_14_method_49_code
def yX12_nightOf : MethodName := ⟨RX12, "nightOf", "(III)I"⟩
abbrev cX12_night : ByteArray := prog_14_method_50_code
def yX12_night : MethodName := ⟨RX12, "night", "(III)I"⟩
abbrev cX12_isOf : ByteArray := prog_14_method_51_code
def yX12_isOf : MethodName := ⟨RX12, "isOf", "(II)Z"⟩
abbrev cX12_topOf : ByteArray := prog_14_method_52_code
def yX12_topOf : MethodName := ⟨RX12, "topOf", "(II)I"⟩
abbrev cX12_lessBy : ByteArray := prog_14_method_53_code
def yX12_lessBy : MethodName := ⟨RX12, "lessBy", "()I"⟩
abbrev cX12_layCancel : ByteArray := prog_14_method_54_code
def yX12_layCancel : MethodName := ⟨RX12, "layCancel", "(I)I"⟩
abbrev cX12_cancelOf : ByteArray := prog_14_method_55_code
def yX12_cancelOf : MethodName := ⟨RX12, "cancelOf", "(II)I"⟩
abbrev cX12_cancel : ByteArray := prog_14_method_56_code
def yX12_cancel : MethodName := ⟨RX12, "cancel", "(II)I"⟩
abbrev cX12_owesThen : ByteArray := prog_14_method_57_code
def yX12_owesThen : MethodName := ⟨RX12, "owesThen", "(I)I"⟩
abbrev cX12_soundOf : ByteArray := prog_14_method_58_code
def yX12_soundOf : MethodName := ⟨RX12, "soundOf", "()I"⟩
abbrev cX12_sound : ByteArray := prog_14_method_59_code
def yX12_sound : MethodName := ⟨RX12, "sound", "()I"⟩
abbrev cX12_metOf : ByteArray := prog_14_method_60_code
def yX12_metOf : MethodName := ⟨RX12, "metOf", "(IIII)I"⟩
abbrev cX12_goAll : ByteArray := prog_14_method_61_code
def yX12_goAll : MethodName := ⟨RX12, "goAll", "(II)V"⟩
abbrev cX12_met : ByteArray := prog_14_method_62_code
def yX12_met : MethodName := ⟨RX12, "met", "(IIII)I"⟩
abbrev cX12_see : ByteArray := prog_14_method_63_code
def yX12_see : MethodName := ⟨RX12, "see", "(IZ)I"⟩
abbrev cX12_forget : ByteArray := prog_14_method_64_code
def yX12_forget : MethodName := ⟨RX12, "forget", "()I"⟩
abbrev cX12_pursesOf : ByteArray := prog_14_method_65_code
def yX12_pursesOf : MethodName := ⟨RX12, "pursesOf", "(I)I"⟩
abbrev cX12_pressOf : ByteArray := prog_14_method_66_code
def yX12_pressOf : MethodName := ⟨RX12, "pressOf", "(I)I"⟩
abbrev cX12_draw : ByteArray := prog_14_method_67_code
def yX12_draw : MethodName := ⟨RX12, "draw", "(I)I"⟩
abbrev cX12_payAll : ByteArray := prog_14_method_68_code
def yX12_payAll : MethodName := ⟨RX12, "payAll", "(I)I"⟩
abbrev cX12_paidMany : ByteArray := prog_14_method_69_code
def yX12_paidMany : MethodName := ⟨RX12, "paidMany", "([I)I"⟩
abbrev cX12_winters : ByteArray := prog_14_method_70_code
def yX12_winters : MethodName := ⟨RX12, "winters", "(III)I"⟩
abbrev cX12_image : ByteArray := prog_14_method_71_code
def yX12_image : MethodName := ⟨RX12, "image", "()I"⟩
abbrev cX12_restore : ByteArray := prog_14_method_72_code
def yX12_restore : MethodName := ⟨RX12, "restore", "()I"⟩
abbrev cX12_owedAll : ByteArray := prog_14_method_73_code
def yX12_owedAll : MethodName := ⟨RX12, "owedAll", "()I"⟩
abbrev cX12_pursesAll : ByteArray := prog_14_method_74_code
def yX12_pursesAll : MethodName := ⟨RX12, "pursesAll", "()I"⟩
abbrev cX12_countOf : ByteArray := prog_14_method_75_code
def yX12_countOf : MethodName := ⟨RX12, "countOf", "(I)I"⟩
abbrev cX12_count : ByteArray := prog_14_method_76_code
def yX12_count : MethodName := ⟨RX12, "count", "(I)I"⟩
abbrev cX12_say : ByteArray := prog_14_method_77_code
def yX12_say : MethodName := ⟨RX12, "say", "(J)V"⟩
abbrev cX12_sayPerson : ByteArray := prog_14_method_78_code
def yX12_sayPerson : MethodName := ⟨RX12, "sayPerson", "(I)V"⟩
abbrev cX12_sayThings : ByteArray := prog_14_method_79_code
def yX12_sayThings : MethodName := ⟨RX12, "sayThings", "()V"⟩
abbrev cX12_digest : ByteArray := prog_14_method_80_code
def yX12_digest : MethodName := ⟨RX12, "digest", "()J"⟩
def RJ11 : String := "java/lang/Character"
def TJ11 : u_T := fun k => match k with
  | _ => ("", "", "", false)
def tyJ11 : Nat → FieldType := fun k => match k with
  | _ => .int
theorem nmJ11 : ∀ a, a < 0 → ∀ b, b < 0 → a ≠ b → (TJ11 a).2.1 ≠ (TJ11 b).2.1 := by decide +kernel
theorem tyJ11_ok : ∀ k, k < 0 → parseFieldDescriptor (TJ11 k).2.2.1 = some (tyJ11 k) := by decide +kernel
abbrev cJ11_isValidCodePoint_9a6ad : ByteArray := prog_15_method_11_code
def yJ11_isValidCodePoint_9a6ad : MethodName := ⟨RJ11, "isValidCodePoint", "(I)Z"⟩
abbrev cJ11_highSurrogate_5068e : ByteArray := prog_15_method_28_code
def yJ11_highSurrogate_5068e : MethodName := ⟨RJ11, "highSurrogate", "(I)C"⟩
abbrev cJ11_lowSurrogate_5068e : ByteArray := prog_15_method_29_code
def yJ11_lowSurrogate_5068e : MethodName := ⟨RJ11, "lowSurrogate", "(I)C"⟩
def RJ6 : String := "java/lang/Integer"
def TJ6 : u_T := fun k => match k with
  | _ => ("", "", "", false)
def tyJ6 : Nat → FieldType := fun k => match k with
  | _ => .int
theorem nmJ6 : ∀ a, a < 0 → ∀ b, b < 0 → a ≠ b → (TJ6 a).2.1 ≠ (TJ6 b).2.1 := by decide +kernel
theorem tyJ6_ok : ∀ k, k < 0 → parseFieldDescriptor (TJ6 k).2.2.1 = some (tyJ6 k) := by decide +kernel
abbrev cJ6_bitCount_0f7a4 : ByteArray := prog_16_method_49_code
def yJ6_bitCount_0f7a4 : MethodName := ⟨RJ6, "bitCount", "(I)I"⟩
def RJ9 : String := "java/lang/Math"
def TJ9 : u_T := fun k => match k with
  | _ => ("", "", "", false)
def tyJ9 : Nat → FieldType := fun k => match k with
  | _ => .int
theorem nmJ9 : ∀ a, a < 0 → ∀ b, b < 0 → a ≠ b → (TJ9 a).2.1 ≠ (TJ9 b).2.1 := by decide +kernel
theorem tyJ9_ok : ∀ k, k < 0 → parseFieldDescriptor (TJ9 k).2.2.1 = some (tyJ9 k) := by decide +kernel
abbrev cJ9_max_7cf53 : ByteArray := prog_17_method_65_code
def yJ9_max_7cf53 : MethodName := ⟨RJ9, "max", "(II)I"⟩
abbrev cJ9_min_7cf53 : ByteArray := prog_17_method_69_code
def yJ9_min_7cf53 : MethodName := ⟨RJ9, "min", "(II)I"⟩
def RJ0 : String := "java/lang/String"
def TJ0 : u_T := fun k => match k with
  | _ => ("", "", "", false)
def tyJ0 : Nat → FieldType := fun k => match k with
  | _ => .int
theorem nmJ0 : ∀ a, a < 0 → ∀ b, b < 0 → a ≠ b → (TJ0 a).2.1 ≠ (TJ0 b).2.1 := by decide +kernel
theorem tyJ0_ok : ∀ k, k < 0 → parseFieldDescriptor (TJ0 k).2.2.1 = some (tyJ0 k) := by decide +kernel
abbrev cJ0_length_8abf5 : ByteArray := prog_18_method_54_code
def yJ0_length_8abf5 : MethodName := ⟨RJ0, "length", "()I"⟩
abbrev cJ0_indexOf_0f7a4 : ByteArray := prog_18_method_79_code
def yJ0_indexOf_0f7a4 : MethodName := ⟨RJ0, "indexOf", "(I)I"⟩
abbrev cJ0_indexOf_7cf53 : ByteArray := prog_18_method_80_code
def yJ0_indexOf_7cf53 : MethodName := ⟨RJ0, "indexOf", "(II)I"⟩
abbrev cJ0_coder_7d493 : ByteArray := prog_18_method_152_code
def yJ0_coder_7d493 : MethodName := ⟨RJ0, "coder", "()B"⟩
abbrev cJ0_isLatin1_aae02 : ByteArray := prog_18_method_154_code
def yJ0_isLatin1_aae02 : MethodName := ⟨RJ0, "isLatin1", "()Z"⟩
abbrev cJ0_checkBoundsBeginEnd_23922 : ByteArray := prog_18_method_158_code
def yJ0_checkBoundsBeginEnd_23922 : MethodName := ⟨RJ0, "checkBoundsBeginEnd", "(III)V"⟩
def RJ1 : String := "java/lang/StringLatin1"
def TJ1 : u_T := fun k => match k with
  | _ => ("", "", "", false)
def tyJ1 : Nat → FieldType := fun k => match k with
  | _ => .int
theorem nmJ1 : ∀ a, a < 0 → ∀ b, b < 0 → a ≠ b → (TJ1 a).2.1 ≠ (TJ1 b).2.1 := by decide +kernel
theorem tyJ1_ok : ∀ k, k < 0 → parseFieldDescriptor (TJ1 k).2.2.1 = some (tyJ1 k) := by decide +kernel
abbrev cJ1_canEncode_9a6ad : ByteArray := prog_19_method_4_code
def yJ1_canEncode_9a6ad : MethodName := ⟨RJ1, "canEncode", "(I)Z"⟩
abbrev cJ1_indexOf_4cfef : ByteArray := prog_19_method_22_code
def yJ1_indexOf_4cfef : MethodName := ⟨RJ1, "indexOf", "([BIII)I"⟩
abbrev cJ1_indexOfChar_4cfef : ByteArray := prog_19_method_23_code
def yJ1_indexOfChar_4cfef : MethodName := ⟨RJ1, "indexOfChar", "([BIII)I"⟩
def RJ2 : String := "java/lang/StringUTF16"
def TJ2 : u_T := fun k => match k with
  | _ => ("", "", "", false)
def tyJ2 : Nat → FieldType := fun k => match k with
  | _ => .int
theorem nmJ2 : ∀ a, a < 0 → ∀ b, b < 0 → a ≠ b → (TJ2 a).2.1 ≠ (TJ2 b).2.1 := by decide +kernel
theorem tyJ2_ok : ∀ k, k < 0 → parseFieldDescriptor (TJ2 k).2.2.1 = some (tyJ2 k) := by decide +kernel
abbrev cJ2_getChar_3b067 : ByteArray := prog_20_method_5_code
def yJ2_getChar_3b067 : MethodName := ⟨RJ2, "getChar", "([BI)C"⟩
abbrev cJ2_length_9d52b : ByteArray := prog_20_method_6_code
def yJ2_length_9d52b : MethodName := ⟨RJ2, "length", "([B)I"⟩
abbrev cJ2_indexOf_4cfef : ByteArray := prog_20_method_40_code
def yJ2_indexOf_4cfef : MethodName := ⟨RJ2, "indexOf", "([BIII)I"⟩
abbrev cJ2_indexOfChar_4cfef : ByteArray := prog_20_method_47_code
def yJ2_indexOfChar_4cfef : MethodName := ⟨RJ2, "indexOfChar", "([BIII)I"⟩
abbrev cJ2_indexOfCharUnsafe_4cfef : ByteArray := prog_20_method_48_code
def yJ2_indexOfCharUnsafe_4cfef : MethodName := ⟨RJ2, "indexOfCharUnsafe", "([BIII)I"⟩
abbrev cJ2_indexOfSupplementary_4cfef : ByteArray := prog_20_method_49_code
def yJ2_indexOfSupplementary_4cfef : MethodName := ⟨RJ2, "indexOfSupplementary", "([BIII)I"⟩
abbrev cJ2_checkBoundsBeginEnd_d044e : ByteArray := prog_20_method_93_code
def yJ2_checkBoundsBeginEnd_d044e : MethodName := ⟨RJ2, "checkBoundsBeginEnd", "(II[B)V"⟩
def RJ3 : String := "jdk/internal/util/Preconditions"
def TJ3 : u_T := fun k => match k with
  | _ => ("", "", "", false)
def tyJ3 : Nat → FieldType := fun k => match k with
  | _ => .int
theorem nmJ3 : ∀ a, a < 0 → ∀ b, b < 0 → a ≠ b → (TJ3 a).2.1 ≠ (TJ3 b).2.1 := by decide +kernel
theorem tyJ3_ok : ∀ k, k < 0 → parseFieldDescriptor (TJ3 k).2.2.1 = some (tyJ3 k) := by decide +kernel
abbrev cJ3_checkFromToIndex_8c36e : ByteArray := prog_21_method_12_code
def yJ3_checkFromToIndex_8c36e : MethodName := ⟨RJ3, "checkFromToIndex", "(IIILjava/util/function/BiFunction;)I"⟩
def RL : String := "DebtRoomsLaw"
abbrev cL_law : ByteArray := code
def yL_law : MethodName := ⟨RL, "law", "([I)Z"⟩
end
section
abbrev Mem : Type := (Nat → Nat → Int32) × Int64
/-- what stays: fields' places, classes of arrays, addresses of cells, of texts, of their bytes, from where on the cells are ours -/
abbrev Ek : Type := va_G × (Nat → ClassId) × (Nat → Nat) × (Nat → Nat) × (Nat → Nat) × Nat
def eD (E : Ek) : va_G := E.1
def eA (E : Ek) : Nat → ClassId := E.2.1
def ad (E : Ek) : Nat → Nat := E.2.2.1
def eK (E : Ek) : Nat → Nat := E.2.2.2.1
def eV (E : Ek) : Nat → Nat := E.2.2.2.2.1
def eL (E : Ek) : Nat := E.2.2.2.2.2
def frE (E : Ek) : Nat → Prop := fun q => eL E ≤ q
def rd (M : Mem) (q k : Nat) : Int32 := M.1 q k
def wr (M : Mem) (q k : Nat) (v : Int32) : Mem := (fun a => if a = q then upd (M.1 q) k v else M.1 a, M.2)
def wrH (M : Mem) (v : Int64) : Mem := (M.1, v)
theorem wr_self (M : Mem) (q k : Nat) (v : Int32) : (wr M q k v).1 q = upd (M.1 q) k v := by simp [wr]
theorem wr_ne {M : Mem} {q k a : Nat} {v : Int32} (h : a ≠ q) : (wr M q k v).1 a = M.1 a := by simp [wr, h]
theorem rd_wr (M : Mem) (q k : Nat) (v : Int32) (a b : Nat) : rd (wr M q k v) a b = if a = q ∧ b = k then v else rd M a b := by
  unfold rd wr
  by_cases ha : a = q
  · subst ha
    by_cases hb : b = k
    · subst hb; simp [upd]
    · simp [upd, hb]
  · simp [ha]
theorem rd_wrH (M : Mem) (v : Int64) (a b : Nat) : rd (wrH M v) a b = rd M a b := rfl
abbrev classes : List vw_C := [(RX0, TX0, 10), (RX1, TX1, 0), (RX2, TX2, 0), (RX3, TX3, 0), (RX4, TX4, 11), (RX5, TX5, 5), (RX6, TX6, 11), (RX7, TX7, 0), (RX8, TX8, 0), (RX9, TX9, 7), (RX10, TX10, 4), (RX11, TX11, 10), (RX12, TX12, 44)]
def pcls (k : Int32) : Nat := if k = 1 then 8 else if k = 2 then 1 else if k = 3 then 3 else if k = 4 then 2 else 7
def layA (E : Ek) (q : Nat) (f : Nat → Int32) : List va_E := [
  .inr (0, [.ref (ad E 3), .ref (ad E (q + 1)), .ref (ad E (q + 2)), .ref (ad E (q + 3)), .ref (ad E (q + 4)), .ref (ad E (q + 5)), .ref (ad E (q + 6)), .ref (ad E (q + 7)), .int (f 8), .int (f 9)]),
  .inl (eA E 0, 4, .inl f),
  .inl (eA E 0, 4, .inl f),
  .inl (eA E 0, 2, .inl f),
  .inl (eA E 0, 4, .inl f),
  .inl (eA E 1, 4, .inl f),
  .inl (eA E 0, 6, .inl f),
  .inl (eA E 1, 6, .inl f)]
def layM (E : Ek) (f : Nat → Int32) (h : Int64) : va_E := .inr (12, [.ref (ad E 30), .int (f 1), .int (f 2), .int (f 3), .int (f 4), .int (f 5), .int (f 6), .int (f 7), .int (f 8), .int (f 9), .ref (ad E 31), .ref (ad E 32), .ref (ad E 33), .ref (ad E 34), .ref (ad E 35), .ref (ad E 36), .ref (ad E 37), .ref (ad E 38), .ref (ad E 39), .ref (ad E 40), .ref (ad E 41), .ref (ad E 42), .ref (ad E 43), .ref (ad E 44), .ref (ad E 45), .ref (ad E 46), .ref (ad E 47), .ref (ad E 48), .ref (ad E 49), .ref (ad E 50), .ref (ad E 51), .int (f 31), .ref (ad E 52), .int (f 33), .int (f 34), .int (f 35), .int (f 36), .ref (ad E 53), .ref (ad E 54), .ref (ad E 55), .ref (ad E 56), .ref (ad E 57), .ref (ad E 58), .long h])
def layL (E : Ek) (f : Nat → Int32) : List va_E := [
  .inr (11, [.ref (ad E 1), .ref (ad E 3), .ref (ad E 59), .ref (ad E 67), .ref (ad E 75), .ref (ad E 15), .ref (ad E 19), .ref (ad E 23), .int (f 8), .int (f 9)]),
  .inr (6, [.ref (ad E 2), .int (f 1), .int (f 2), .int (f 3), .int (f 4), .int (f 5), .int (f 6), .int (f 7), .int (f 8), .int (f 9), .int (f 10)]),
  .inl (eA E 0, 64, .inl f),
  .inr (4, [.int (f 0), .int (f 1), .int (f 2), .int (f 3), .ref (ad E 4), .ref (ad E 5), .ref (ad E 6), .ref (ad E 7), .ref (ad E 8), .ref (ad E 9), .ref (ad E 10)]),
  .inl (eA E 0, 6, .inl f),
  .inl (eA E 0, 6, .inl f),
  .inl (eA E 0, 6, .inl f),
  .inl (eA E 2, 4, .inr (.inr (.inr (.inr (fun j => some (ad E (11 + j))))))),
  .inl (eA E 0, 4, .inl f),
  .inl (eA E 0, 4, .inl f),
  .inl (eA E 0, 4, .inl f),
  .inr (pcls (f 0), []),
  .inr (pcls (f 0), []),
  .inr (pcls (f 0), []),
  .inr (pcls (f 0), []),
  .inr (10, [.ref (ad E 3), .ref (ad E 16), .ref (ad E 17), .ref (ad E 18)]),
  .inl (eA E 0, 6, .inl f),
  .inl (eA E 0, 6, .inl f),
  .inl (eA E 0, 6, .inl f),
  .inr (5, [.ref (ad E 3), .ref (ad E 20), .ref (ad E 21), .ref (ad E 22), .int (f 4)]),
  .inl (eA E 3, 5, .inr (.inr (.inr (.inr (fun j => some (ad E (83 + 8 * j))))))),
  .inl (eA E 0, 4, .inl f),
  .inl (eA E 0, 4, .inl f),
  .inr (9, [.ref (ad E 3), .ref (ad E 24), .ref (ad E 25), .ref (ad E 26), .ref (ad E 27), .ref (ad E 28), .int (f 6)]),
  .inl (eA E 0, 4, .inl f),
  .inl (eA E 0, 4, .inl f),
  .inl (eA E 0, 4, .inl f),
  .inl (eA E 0, 4, .inl f),
  .inl (eA E 0, 4, .inl f),
  .inr (0, []),
  .inl (eA E 0, 64, .inl f),
  .inl (eA E 0, 6, .inl f),
  .inl (eA E 0, 6, .inl f),
  .inl (eA E 0, 6, .inl f),
  .inl (eA E 0, 4, .inl f),
  .inl (eA E 0, 4, .inl f),
  .inl (eA E 0, 4, .inl f),
  .inl (eA E 0, 2, .inl f),
  .inl (eA E 0, 4, .inl f),
  .inl (eA E 0, 4, .inl f),
  .inl (eA E 0, 4, .inl f),
  .inl (eA E 0, 4, .inl f),
  .inl (eA E 0, 4, .inl f),
  .inl (eA E 0, 4, .inl f),
  .inl (eA E 0, 4, .inl f),
  .inl (eA E 0, 4, .inl f),
  .inl (eA E 0, 6, .inl f),
  .inl (eA E 0, 4, .inl f),
  .inl (eA E 0, 4, .inl f),
  .inl (eA E 0, 4, .inl f),
  .inl (eA E 0, 6, .inl f),
  .inl (eA E 0, 6, .inl f),
  .inl (eA E 0, 12, .inl f),
  .inl (eA E 0, 4, .inl f),
  .inl (eA E 0, 4, .inl f),
  .inl (eA E 0, 2, .inl f),
  .inl (eA E 0, 4, .inl f),
  .inl (eA E 0, 4, .inl f),
  .inl (eA E 0, 12, .inl f)]
def lay (E : Ek) (q : Nat) (f : Nat → Int32) (h : Int64) : va_E := bif Nat.beq q 29 then layM E f h else bif Nat.blt q 59 then (layL E f).getD q (.inr (0, [])) else (layA E q f).getD ((q - 59) % 8) (.inr (0, []))
def ws (E : Ek) (M : Mem) : va_W := (List.range 123).map (fun q => (ad E q, lay E q (M.1 q) M.2))
theorem ws_at {E : Ek} {M : Mem} {q : Nat} (h : q < 123) : (ws E M)[q]? = some (ad E q, lay E q (M.1 q) M.2) := by
  simp [ws, h]
theorem ws_set {E : Ek} {M M' : Mem} {q : Nat} {e : va_E} (h : q < 123) (he : e = lay E q (M'.1 q) M'.2) (ho : ∀ a, a ≠ q → lay E a (M'.1 a) M'.2 = lay E a (M.1 a) M.2) : (ws E M).set q (ad E q, e) = ws E M' := by
  subst he
  apply List.ext_getElem?
  intro i
  have hlen : (ws E M).length = 123 := by simp [ws]
  have hlen' : (ws E M').length = 123 := by simp [ws]
  by_cases hi : i < 123
  · by_cases hq : q = i
    · subst hq
      rw [List.getElem?_set_self (by rw [hlen]; exact hi), ws_at hi]
    · rw [List.getElem?_set_ne hq, ws_at hi, ws_at hi, ho i (fun z => hq z.symm)]
  · rw [List.getElem?_eq_none (by rw [List.length_set, hlen]; omega), List.getElem?_eq_none (by rw [hlen']; omega)]
theorem lay_h {E : Ek} {q : Nat} (h : q ≠ 29) (f : Nat → Int32) (a b : Int64) : lay E q f a = lay E q f b := by
  have : Nat.beq q 29 = false := by
    rcases hb : Nat.beq q 29 with _ | _
    · rfl
    · exact absurd (Nat.eq_of_beq_eq_true hb) h
  unfold lay
  rw [this]
  rfl
def Apart (E : Ek) : Prop := (∀ i j, i < 123 → j < 123 → ad E i = ad E j → i = j) ∧ ∀ i, i < 123 → eL E ≤ ad E i
theorem ws_D {E : Ek} {M : Mem} (h : Apart E) : va_D (frE E) (ws E M) := by
  have key : ∀ (k : Nat) (q : Nat × va_E), (ws E M)[k]? = some q → k < 123 ∧ q.1 = ad E k := by
    intro k q hk
    have hl : k < (ws E M).length := (List.getElem?_eq_some_iff.mp hk).1
    have hl2 : k < 123 := by simpa [ws] using hl
    rw [ws_at hl2] at hk
    cases hk
    exact ⟨hl2, rfl⟩
  refine ⟨fun i j p q hi hj hpq => ?_, fun k q hk => ?_⟩
  · obtain ⟨a1, a2⟩ := key i p hi
    obtain ⟨b1, b2⟩ := key j q hj
    exact h.1 i j a1 b1 (by rw [← a2, ← b2]; exact hpq)
  · obtain ⟨a1, a2⟩ := key k q hk
    rw [a2]
    exact h.2 k a1
/-! the words that any method may use -/
def gt : List Cond := lw_tbl.filter goodWord
theorem gt_good {w : Cond} (h : w ∈ gt) : goodWord w = true := (List.mem_filter.mp h).2
theorem gt_lw {w : Cond} (h : w ∈ gt) : w ∈ lw_tbl := (List.mem_filter.mp h).1
theorem gt_t {w : Cond} (h : w ∈ tables_1) (hg : goodWord w = true) : w ∈ gt := List.mem_filter.mpr ⟨List.mem_append_right _ h, hg⟩
theorem gt_s {w : Cond} (h : w ∈ k2_sels lw_privs) (hg : goodWord w = true) : w ∈ gt := List.mem_filter.mpr ⟨List.mem_append_left _ h, hg⟩
theorem tb_1 {w : Cond} (i : Nat) (h : tables_1_1[i]? = some w) : w ∈ tables_1 := List.mem_append_left _ (List.mem_of_getElem? h)
theorem tb_2 {w : Cond} (i : Nat) (h : tables_1_2[i]? = some w) : w ∈ tables_1 := List.mem_append_right _ (List.mem_append_left _ (List.mem_of_getElem? h))
theorem tb_3 {w : Cond} (i : Nat) (h : tables_1_3[i]? = some w) : w ∈ tables_1 := List.mem_append_right _ (List.mem_append_right _ (List.mem_append_left _ (List.mem_of_getElem? h)))
theorem tb_4 {w : Cond} (i : Nat) (h : tables_1_4[i]? = some w) : w ∈ tables_1 := List.mem_append_right _ (List.mem_append_right _ (List.mem_append_right _ (List.mem_append_left _ (List.mem_of_getElem? h))))
theorem tb_5 {w : Cond} (i : Nat) (h : tables_1_5[i]? = some w) : w ∈ tables_1 := List.mem_append_right _ (List.mem_append_right _ (List.mem_append_right _ (List.mem_append_right _ (List.mem_append_left _ (List.mem_of_getElem? h)))))
theorem tb_6 {w : Cond} (i : Nat) (h : tables_1_6[i]? = some w) : w ∈ tables_1 := List.mem_append_right _ (List.mem_append_right _ (List.mem_append_right _ (List.mem_append_right _ (List.mem_append_right _ (List.mem_of_getElem? h)))))
theorem pr_s {q : MethodName × Nat} (h : q ∈ lw_privs) : Cond.selects q.1.cls q.1 q.1 ∈ k2_sels lw_privs := List.mem_map.mpr ⟨q, h, rfl⟩
theorem u_in {C : String} {T : u_T} {N : Nat} (h : ∀ k, k < N → u_lay C T k ∈ gt) : ∀ w ∈ u_ws C T N, w ∈ gt := by
  intro w hw
  obtain ⟨k, hk, rfl⟩ := List.mem_map.mp hw
  exact h k (List.mem_range.mp hk)
def isN : Cond → Bool
  | .fieldLinkNest .. => true
  | .methodLinkNest .. => true
  | .castable .. => true
  | _ => false
theorem isN_warm {w : Cond} {s U : State} (hW : s.WarmedH U.vm) (h : isN w = true) (hw : va_Nw w s) : va_Nw w U := by
  cases w <;> first | exact va_Nw.warmF hW hw | exact va_Nw.warmM hW hw | exact va_Nw.warmC hW hw | (simp [isN] at h)
theorem isN_tab {w : Cond} (h : isN w = true) : w.onTables = true := by
  cases w <;> first | rfl | (simp [isN] at h)
abbrev gtys (E : Ek) : List (ClassId × FieldType) := [(eA E 0, .int), (eA E 1, .boolean), (eA E 2, .object RX7), (eA E 3, .object RX0)]
/-- who is no instance of what -/
def ncs : List (String × String) := [(RX7, RX8), (RX1, RX8), (RX3, RX8), (RX7, RX1), (RX8, RX1), (RX3, RX1), (RX2, RX1), (RX7, RX3), (RX8, RX3), (RX1, RX3), (RX2, RX3), (RX7, RX2), (RX8, RX2), (RX1, RX2), (RX3, RX2)]
/-- what the tables say, at any state of the run -/
def gE (E : Ek) (U : State) : Prop := va_K (eD E) classes (gtys E) U ∧ (∀ w ∈ tables_1, isN w = true → va_Nw w U) ∧ (∀ q ∈ ncs, va_Nc q.1 q.2 U) ∧ vk_R RX6 78 "oab" (eK E 0) U ∧ vk_R RX6 86 "prbhd" (eK E 1) U
theorem gE.warm {E : Ek} {s U : State} (hW : s.WarmedH U.vm) (h : gE E s) : gE E U :=
  ⟨va_K.moved hW.alike h.1, fun w hw hn => isN_warm hW hn (h.2.1 w hw hn), fun q hq => (h.2.2.1 q hq).moved hW.alike, h.2.2.2.1.warm hW, h.2.2.2.2.warm hW⟩
theorem gE.same {E : Ek} {s U : State} (hv : U.vm = s.vm) (h : gE E s) : gE E U :=
  ⟨va_K.moved (by rw [hv]; exact Vm.Alike.refl _) h.1, fun w hw hn => va_Nw.same (isN_tab hn) hv.symm (h.2.1 w hw hn), fun q hq => (h.2.2.1 q hq).moved (by rw [hv]; exact Vm.Alike.refl _), h.2.2.2.1.same hv, h.2.2.2.2.same hv⟩
/-- what lies in the heap from before, and stays -/
def Str (E : Ek) (U : State) (H : Heap) : Prop := vk_S 2 [3, 5] [[111, 97, 98], [112, 114, 98, 104, 100]] (eK E) (eV E) (frE E) U H ∧ va_Z "java/lang/String" "COMPACT_STRINGS" "Z" (.int 1) (frE E) U H
theorem Str.moved {E : Ek} {u U : State} {H : Heap} (hvm : u.vm.Alike U.vm) (h : Str E u H) : Str E U H := ⟨h.1.moved hvm, h.2.moved hvm⟩
theorem Str.kept {E : Ek} {U : State} {H H1 : Heap} (h : Str E U H) (hq : ∀ a : Nat, a < H.size → ¬ frE E a → H1[a]? = H[a]?) : Str E U H1 := ⟨h.1.kept hq, h.2.kept hq⟩
/-- the world at a call -/
def Wd (E : Ek) (M : Mem) (U : State) : Prop := va_P (eD E) classes (ws E M) U.heap ∧ gE E U ∧ Apart E ∧ Str E U U.heap ∧ eL E ≤ U.heap.size
theorem Wd.calling {E : Ek} {M : Mem} (a : Array Value) (U : State) (g : JFrame) (mk : MethodId) (h : Wd E M U) : Wd E M (U.calling g mk a) :=
  ⟨h.1, gE.same (s := U) rfl h.2.1, h.2.2.1, Str.moved (u := U) (Vm.Alike.refl _) h.2.2.2.1, h.2.2.2.2⟩
end
section
/-- the machine's part of a judgement -/
abbrev MC : Type := Program × Launch × Jvm.Env × Room × State × MethodId × Array Value × List Frame × Method × Code × (State → Prop) × Nat × Nat × Nat
def xp (x : MC) : Program := x.1
def xl (x : MC) : Launch := x.2.1
def xe (x : MC) : Jvm.Env := x.2.2.1
def xR (x : MC) : Room := x.2.2.2.1
def xs (x : MC) : State := x.2.2.2.2.1
def xm (x : MC) : MethodId := x.2.2.2.2.2.1
def xa (x : MC) : Array Value := x.2.2.2.2.2.2.1
def xb (x : MC) : List Frame := x.2.2.2.2.2.2.2.1
def xM (x : MC) : Method := x.2.2.2.2.2.2.2.2.1
def xc (x : MC) : Code := x.2.2.2.2.2.2.2.2.2.1
def xQ (x : MC) : State → Prop := x.2.2.2.2.2.2.2.2.2.2.1
def xn (x : MC) : Nat := x.2.2.2.2.2.2.2.2.2.2.2.1
def xk (x : MC) : Nat := x.2.2.2.2.2.2.2.2.2.2.2.2.1
def xz (x : MC) : Nat := x.2.2.2.2.2.2.2.2.2.2.2.2.2
def rmh (h : Nat) : Room := { frames := h, cells := 0, slots := 0, locals := 40 * h }
/-- a method's standing facts -/
def Cx (E : Ek) (x : MC) (cc : ByteArray) (nL : Nat) (own : String) (hm : Nat) : Prop :=
  (xp x).tables.exec = Jvm.exec ∧ (xc x).code = cc ∧ (xc x).maxLocals = nL ∧ xn x = nL ∧ (xs x).vm.findClass own = some (xm x).cls ∧ (∀ w ∈ gt, w.before (xa x) (xs x) = true) ∧ (xM x).locks = false ∧ (hm ≤ (xR x).frames ∧ 40 * hm ≤ (xR x).locals) ∧ (xk x ≤ (xR x).cells ∧ xz x ≤ (xR x).slots) ∧ gE E (xs x) ∧ Apart E ∧ Str E (xs x) (xs x).heap ∧ eL E ≤ (xs x).heap.size
/-- from here it comes to the method's end -/
def G (E : Ek) (x : MC) (M : Mem) (pc : Nat) (lv : List (Nat × Value)) (st : List Value) : Prop :=
  ∀ (H : Heap) (locs : List Loc) (ls : Array Slot), va_P (eD E) classes (ws E M) H → va_S (frE E) (xs x).heap H locs → lv_has ls (xn x) lv → W (xp x) (xl x) (xe x) (xR x) (xs x) (xm x) (xa x) (xb x) (xM x) (xc x) H locs (xk x) (xz x) (xQ x) (F0 (xm x) pc ls st)
section GRows
variable {E : Ek} {x : MC} {cc : ByteArray} {nL hm pc : Nat} {own : String} {M : Mem} {lv : List (Nat × Value)} {st : List Value} {A B : Prop}
theorem Cx.ex (X : Cx E x cc nL own hm) : (xp x).tables.exec = Jvm.exec := X.1
theorem Cx.cb (X : Cx E x cc nL own hm) : (xc x).code = cc := X.2.1
theorem Cx.ml (X : Cx E x cc nL own hm) : (xc x).maxLocals = nL := X.2.2.1
theorem Cx.nl (X : Cx E x cc nL own hm) : xn x = nL := X.2.2.2.1
theorem Cx.ow (X : Cx E x cc nL own hm) : (xs x).vm.findClass own = some (xm x).cls := X.2.2.2.2.1
theorem Cx.hts (X : Cx E x cc nL own hm) : ∀ w ∈ gt, w.before (xa x) (xs x) = true := X.2.2.2.2.2.1
theorem Cx.lk (X : Cx E x cc nL own hm) : (xM x).locks = false := X.2.2.2.2.2.2.1
theorem Cx.rm (X : Cx E x cc nL own hm) : hm ≤ (xR x).frames ∧ 40 * hm ≤ (xR x).locals := X.2.2.2.2.2.2.2.1
theorem Cx.kz (X : Cx E x cc nL own hm) : xk x ≤ (xR x).cells ∧ xz x ≤ (xR x).slots := X.2.2.2.2.2.2.2.2.1
theorem Cx.ge (X : Cx E x cc nL own hm) : gE E (xs x) := X.2.2.2.2.2.2.2.2.2.1
theorem Cx.ap (X : Cx E x cc nL own hm) : Apart E := X.2.2.2.2.2.2.2.2.2.2.1
theorem Cx.sr (X : Cx E x cc nL own hm) : Str E (xs x) (xs x).heap := X.2.2.2.2.2.2.2.2.2.2.2.1
theorem Cx.sz (X : Cx E x cc nL own hm) : eL E ≤ (xs x).heap.size := X.2.2.2.2.2.2.2.2.2.2.2.2
theorem Cx.nest (X : Cx E x cc nL own hm) {w : Cond} (h : w ∈ tables_1) (hn : isN w = true) : w.before (xa x) (xs x) = true := va_Nw.use (isN_tab hn) (X.ge.2.1 w h hn)
/-! locals -/
def lins : List (Nat × Value) → Nat → Value → List (Nat × Value)
  | [], i, v => [(i, v)]
  | (j, w) :: t, i, v => bif Nat.blt i j then (i, v) :: (j, w) :: t else (j, w) :: lins t i v
def lset (l : List (Nat × Value)) (i : Nat) (v : Value) : List (Nat × Value) := lins (l.filter (fun q => !(q.1 == i))) i v
def lsto (l : List (Nat × Value)) (i : Nat) : Bool := l.all (fun q => !(q.1 + 1 == i && q.2.category == 2))
theorem lins_mem {q : Nat × Value} {i : Nat} {v : Value} : ∀ (l : List (Nat × Value)), q ∈ lins l i v → q = (i, v) ∨ q ∈ l
  | [], h => Or.inl (List.mem_singleton.mp h)
  | (j, w) :: t, h => by
    unfold lins at h
    cases hb : Nat.blt i j with
    | true => rw [hb] at h; exact List.mem_cons.mp h
    | false =>
      rw [hb] at h
      rcases List.mem_cons.mp h with h | h
      · exact Or.inr (List.mem_cons.mpr (Or.inl h))
      · rcases lins_mem t h with h | h
        · exact Or.inl h
        · exact Or.inr (List.mem_cons_of_mem _ h)
theorem lset_has {ls : Array Slot} {n i : Nat} {v : Value} {l : List (Nat × Value)} (hc : lsto l i = true) (h : lv_has ls n ((i, v) :: l.filter (fun q => !(q.1 == i) && !(q.1 + 1 == i && q.2.category == 2)))) : lv_has ls n (lset l i v) := by
  refine ⟨h.1, h.2.1, fun q hq => ?_⟩
  rcases lins_mem _ hq with e | hm
  · exact h.2.2 q (by rw [e]; exact List.mem_cons_self)
  · obtain ⟨h1, h2⟩ := List.mem_filter.mp hm
    refine h.2.2 q (List.mem_cons_of_mem _ (List.mem_filter.mpr ⟨h1, ?_⟩))
    have h3 := List.all_eq_true.mp hc q h1
    rw [h2, h3]; rfl
theorem lset_has2 {ls : Array Slot} {n i : Nat} {v : Value} {l : List (Nat × Value)} (hc : lsto l i = true) (hd : l.all (fun q => !(q.1 == i + 1)) = true) (h : lv_has ls n ((i, v) :: l.filter (fun q => !(q.1 == i) && (!(q.1 == i + 1) && !(q.1 + 1 == i && q.2.category == 2))))) : lv_has ls n (lset l i v) := by
  refine ⟨h.1, h.2.1, fun q hq => ?_⟩
  rcases lins_mem _ hq with e | hm
  · exact h.2.2 q (by rw [e]; exact List.mem_cons_self)
  · obtain ⟨h1, h2⟩ := List.mem_filter.mp hm
    refine h.2.2 q (List.mem_cons_of_mem _ (List.mem_filter.mpr ⟨h1, ?_⟩))
    have h3 := List.all_eq_true.mp hc q h1
    have h4 := List.all_eq_true.mp hd q h1
    rw [h2, h3, h4]; rfl
theorem g_sub (ks : List Nat) {lv' : List (Nat × Value)} (hl : lv_pick lv ks = lv') (kk : G E x M pc lv' st) : G E x M pc lv st := fun H locs ls hP hS hL => kk H locs ls hP hS (lv_sub hL ks hl)
theorem g_nm {e : Int32} {A : Int32 → Prop} (h : ∀ y, y = e → A y) (kk : ∀ y, A y → G E x M pc lv (.int y :: st)) : G E x M pc lv (.int e :: st) := kk e (h e rfl)
theorem g_nml {e : Int64} {A : Int64 → Prop} (h : ∀ y, y = e → A y) (kk : ∀ y, A y → G E x M pc lv (.long y :: st)) : G E x M pc lv (.long e :: st) := kk e (h e rfl)

theorem g_iconst (X : Cx E x cc nL own hm) {n : Int} {v : Int32} (hd : decode cc pc = .ok (.iconst n, 1)) (hv : Int32.ofInt n = v) (kk : G E x M (pc + 1) lv (.int v :: st)) : G E x M pc lv (st) := fun H locs ls hP hS hL => lv_iconst X.ex X.cb hd hv (kk H locs ls hP hS hL)
theorem g_bipush (X : Cx E x cc nL own hm) {n : Int} {v : Int32} (hd : decode cc pc = .ok (.bipush n, 2)) (hv : (Int8.ofInt n).toInt32 = v) (kk : G E x M (pc + 2) lv (.int v :: st)) : G E x M pc lv (st) := fun H locs ls hP hS hL => lv_bipush X.ex X.cb hd hv (kk H locs ls hP hS hL)
theorem g_sipush (X : Cx E x cc nL own hm) {n : Int} {v : Int32} (hd : decode cc pc = .ok (.sipush n, 3)) (hv : (Int16.ofInt n).toInt32 = v) (kk : G E x M (pc + 3) lv (.int v :: st)) : G E x M pc lv (st) := fun H locs ls hP hS hL => lv_sipush X.ex X.cb hd hv (kk H locs ls hP hS hL)
theorem g_lconst (X : Cx E x cc nL own hm) {n : Fin 2} {v : Int64} (hd : decode cc pc = .ok (.lconst n, 1)) (hv : Int64.ofNat (n : Nat) = v) (kk : G E x M (pc + 1) lv (.long v :: st)) : G E x M pc lv (st) := fun H locs ls hP hS hL => lv_lconst X.ex X.cb hd hv (kk H locs ls hP hS hL)
theorem g_iload_n (X : Cx E x cc nL own hm) {k : Fin 4} {i : Nat} {v : Int32} (hd : decode cc pc = .ok (.iload_n k, 1)) (hi : (k : Nat) = i) (j : Nat) (hl : lv[j]? = some (i, .int v)) (kk : G E x M (pc + 1) lv (.int v :: st)) : G E x M pc lv (st) := fun H locs ls hP hS hL => lv_iload_n X.ex X.cb hd hi (lv_at hL j hl) (kk H locs ls hP hS hL)
theorem g_iload (X : Cx E x cc nL own hm) {i : Nat} {v : Int32} (hd : decode cc pc = .ok (.iload i, 2)) (j : Nat) (hl : lv[j]? = some (i, .int v)) (kk : G E x M (pc + 2) lv (.int v :: st)) : G E x M pc lv (st) := fun H locs ls hP hS hL => lv_iload X.ex X.cb hd (lv_at hL j hl) (kk H locs ls hP hS hL)
theorem g_lload_n (X : Cx E x cc nL own hm) {k : Fin 4} {i : Nat} {v : Int64} (hd : decode cc pc = .ok (.lload_n k, 1)) (hi : (k : Nat) = i) (j : Nat) (hl : lv[j]? = some (i, .long v)) (kk : G E x M (pc + 1) lv (.long v :: st)) : G E x M pc lv (st) := fun H locs ls hP hS hL => lv_lload_n X.ex X.cb hd hi (lv_at hL j hl) (kk H locs ls hP hS hL)
theorem g_lload (X : Cx E x cc nL own hm) {i : Nat} {v : Int64} (hd : decode cc pc = .ok (.lload i, 2)) (j : Nat) (hl : lv[j]? = some (i, .long v)) (kk : G E x M (pc + 2) lv (.long v :: st)) : G E x M pc lv (st) := fun H locs ls hP hS hL => lv_lload X.ex X.cb hd (lv_at hL j hl) (kk H locs ls hP hS hL)
theorem g_aload_n (X : Cx E x cc nL own hm) {k : Fin 4} {i : Nat} {v : Nat} (hd : decode cc pc = .ok (.aload_n k, 1)) (hi : (k : Nat) = i) (j : Nat) (hl : lv[j]? = some (i, .ref v)) (kk : G E x M (pc + 1) lv (.ref v :: st)) : G E x M pc lv (st) := fun H locs ls hP hS hL => lv_aload_n X.ex X.cb hd hi (lv_at hL j hl) (kk H locs ls hP hS hL)
theorem g_aload (X : Cx E x cc nL own hm) {i : Nat} {v : Nat} (hd : decode cc pc = .ok (.aload i, 2)) (j : Nat) (hl : lv[j]? = some (i, .ref v)) (kk : G E x M (pc + 2) lv (.ref v :: st)) : G E x M pc lv (st) := fun H locs ls hP hS hL => lv_aload X.ex X.cb hd (lv_at hL j hl) (kk H locs ls hP hS hL)
theorem g_istore_n (X : Cx E x cc nL own hm) {k : Fin 4} {i : Nat} {v : Int32} {lv' : List (Nat × Value)} (hd : decode cc pc = .ok (.istore_n k, 1)) (hi : (k : Nat) = i) (hn : i < nL) (hc : lsto lv i = true) (hl : lset lv i (.int v) = lv') (kk : G E x M (pc + 1) lv' st) : G E x M pc lv (.int v :: st) := fun H locs ls hP hS hL => lv_istore_n X.ex X.cb hd hi hL (by rw [X.nl]; exact hn) rfl (fun ls' h => kk H locs ls' hP hS (hl ▸ lset_has hc h))
theorem g_istore (X : Cx E x cc nL own hm) {i : Nat} {v : Int32} {lv' : List (Nat × Value)} (hd : decode cc pc = .ok (.istore i, 2)) (hn : i < nL) (hc : lsto lv i = true) (hl : lset lv i (.int v) = lv') (kk : G E x M (pc + 2) lv' st) : G E x M pc lv (.int v :: st) := fun H locs ls hP hS hL => lv_istore X.ex X.cb hd hL (by rw [X.nl]; exact hn) rfl (fun ls' h => kk H locs ls' hP hS (hl ▸ lset_has hc h))
theorem g_astore_n (X : Cx E x cc nL own hm) {k : Fin 4} {i : Nat} {v : Nat} {lv' : List (Nat × Value)} (hd : decode cc pc = .ok (.astore_n k, 1)) (hi : (k : Nat) = i) (hn : i < nL) (hc : lsto lv i = true) (hl : lset lv i (.ref v) = lv') (kk : G E x M (pc + 1) lv' st) : G E x M pc lv (.ref v :: st) := fun H locs ls hP hS hL => lv_astore_n X.ex X.cb hd hi hL (by rw [X.nl]; exact hn) rfl (fun ls' h => kk H locs ls' hP hS (hl ▸ lset_has hc h))
theorem g_astore (X : Cx E x cc nL own hm) {i : Nat} {v : Nat} {lv' : List (Nat × Value)} (hd : decode cc pc = .ok (.astore i, 2)) (hn : i < nL) (hc : lsto lv i = true) (hl : lset lv i (.ref v) = lv') (kk : G E x M (pc + 2) lv' st) : G E x M pc lv (.ref v :: st) := fun H locs ls hP hS hL => lv_astore X.ex X.cb hd hL (by rw [X.nl]; exact hn) rfl (fun ls' h => kk H locs ls' hP hS (hl ▸ lset_has hc h))
theorem g_lstore_n (X : Cx E x cc nL own hm) {k : Fin 4} {i : Nat} {v : Int64} {lv' : List (Nat × Value)} (hd : decode cc pc = .ok (.lstore_n k, 1)) (hi : (k : Nat) = i) (hn : i + 1 < nL) (hc : lsto lv i = true) (hc2 : lv.all (fun q => !(q.1 == i + 1)) = true) (hl : lset lv i (.long v) = lv') (kk : G E x M (pc + 1) lv' st) : G E x M pc lv (.long v :: st) := fun H locs ls hP hS hL => lv_lstore_n X.ex X.cb hd hi hL (by rw [X.nl]; exact hn) rfl (fun ls' h => kk H locs ls' hP hS (hl ▸ lset_has2 hc hc2 h))
theorem g_lstore (X : Cx E x cc nL own hm) {i : Nat} {v : Int64} {lv' : List (Nat × Value)} (hd : decode cc pc = .ok (.lstore i, 2)) (hn : i + 1 < nL) (hc : lsto lv i = true) (hc2 : lv.all (fun q => !(q.1 == i + 1)) = true) (hl : lset lv i (.long v) = lv') (kk : G E x M (pc + 2) lv' st) : G E x M pc lv (.long v :: st) := fun H locs ls hP hS hL => lv_lstore X.ex X.cb hd hL (by rw [X.nl]; exact hn) rfl (fun ls' h => kk H locs ls' hP hS (hl ▸ lset_has2 hc hc2 h))
theorem g_iinc (X : Cx E x cc nL own hm) {i : Nat} {n : Int} {v : Int32} {w : Int32} {A : Int32 → Prop} (hd : decode cc pc = .ok (.iinc i n, 3)) (j : Nat) (hk : lv[j]? = some (i, .int v)) (hw : Int32.ofInt n = w) (hn : i < nL) (hc : lsto lv i = true) (lv' : Int32 → List (Nat × Value)) (hl : ∀ y, lset lv i (.int y) = lv' y) (h : ∀ y, y = v + w → A y) (kk : ∀ y, A y → G E x M (pc + 3) (lv' y) st) : G E x M pc lv st := fun H locs ls hP hS hL => lv_iinc (v := v + w) X.ex X.cb hd hL hk (by rw [hw]) (by rw [X.nl]; exact hn) rfl (fun ls' h' => kk (v + w) (h _ rfl) H locs ls' hP hS (hl (v + w) ▸ lset_has hc h'))
theorem g_iadd (X : Cx E x cc nL own hm) {a b : Int32} (hd : decode cc pc = .ok (.iadd, 1)) (kk : G E x M (pc + 1) lv (.int (a + b) :: st)) : G E x M pc lv (.int b :: .int a :: st) := fun H locs ls hP hS hL => lv_iadd X.ex X.cb hd (kk H locs ls hP hS hL)
theorem g_isub (X : Cx E x cc nL own hm) {a b : Int32} (hd : decode cc pc = .ok (.isub, 1)) (kk : G E x M (pc + 1) lv (.int (a - b) :: st)) : G E x M pc lv (.int b :: .int a :: st) := fun H locs ls hP hS hL => lv_isub X.ex X.cb hd (kk H locs ls hP hS hL)
theorem g_imul (X : Cx E x cc nL own hm) {a b : Int32} (hd : decode cc pc = .ok (.imul, 1)) (kk : G E x M (pc + 1) lv (.int (a * b) :: st)) : G E x M pc lv (.int b :: .int a :: st) := fun H locs ls hP hS hL => lv_imul X.ex X.cb hd (kk H locs ls hP hS hL)
theorem g_iand (X : Cx E x cc nL own hm) {a b : Int32} (hd : decode cc pc = .ok (.iand, 1)) (kk : G E x M (pc + 1) lv (.int (a &&& b) :: st)) : G E x M pc lv (.int b :: .int a :: st) := fun H locs ls hP hS hL => lv_iand X.ex X.cb hd (kk H locs ls hP hS hL)
theorem g_ior (X : Cx E x cc nL own hm) {a b : Int32} (hd : decode cc pc = .ok (.ior, 1)) (kk : G E x M (pc + 1) lv (.int (a ||| b) :: st)) : G E x M pc lv (.int b :: .int a :: st) := fun H locs ls hP hS hL => lv_ior X.ex X.cb hd (kk H locs ls hP hS hL)
theorem g_ixor (X : Cx E x cc nL own hm) {a b : Int32} (hd : decode cc pc = .ok (.ixor, 1)) (kk : G E x M (pc + 1) lv (.int (a ^^^ b) :: st)) : G E x M pc lv (.int b :: .int a :: st) := fun H locs ls hP hS hL => lv_ixor X.ex X.cb hd (kk H locs ls hP hS hL)
theorem g_ishl (X : Cx E x cc nL own hm) {a b : Int32} (hd : decode cc pc = .ok (.ishl, 1)) (kk : G E x M (pc + 1) lv (.int (a <<< (b &&& 31)) :: st)) : G E x M pc lv (.int b :: .int a :: st) := fun H locs ls hP hS hL => lv_ishl X.ex X.cb hd (kk H locs ls hP hS hL)
theorem g_ishr (X : Cx E x cc nL own hm) {a b : Int32} (hd : decode cc pc = .ok (.ishr, 1)) (kk : G E x M (pc + 1) lv (.int (a >>> (b &&& 31)) :: st)) : G E x M pc lv (.int b :: .int a :: st) := fun H locs ls hP hS hL => lv_ishr X.ex X.cb hd (kk H locs ls hP hS hL)
theorem g_ladd (X : Cx E x cc nL own hm) {a b : Int64} (hd : decode cc pc = .ok (.ladd, 1)) (kk : G E x M (pc + 1) lv (.long (a + b) :: st)) : G E x M pc lv (.long b :: .long a :: st) := fun H locs ls hP hS hL => lv_ladd X.ex X.cb hd (kk H locs ls hP hS hL)
theorem g_lmul (X : Cx E x cc nL own hm) {a b : Int64} (hd : decode cc pc = .ok (.lmul, 1)) (kk : G E x M (pc + 1) lv (.long (a * b) :: st)) : G E x M pc lv (.long b :: .long a :: st) := fun H locs ls hP hS hL => lv_lmul X.ex X.cb hd (kk H locs ls hP hS hL)
theorem g_land (X : Cx E x cc nL own hm) {a b : Int64} (hd : decode cc pc = .ok (.land, 1)) (kk : G E x M (pc + 1) lv (.long (a &&& b) :: st)) : G E x M pc lv (.long b :: .long a :: st) := fun H locs ls hP hS hL => lv_land X.ex X.cb hd (kk H locs ls hP hS hL)
theorem g_iushr (X : Cx E x cc nL own hm) {a b : Int32} (hd : decode cc pc = .ok (.iushr, 1)) (kk : G E x M (pc + 1) lv (.int (a.toUInt32 >>> (b.toUInt32 &&& Int32.toUInt32 31)).toInt32 :: st)) : G E x M pc lv (.int b :: .int a :: st) := fun H locs ls hP hS hL => lv_iushr X.ex X.cb hd rfl (kk H locs ls hP hS hL)
theorem g_i2b (X : Cx E x cc nL own hm) {a : Int32} (hd : decode cc pc = .ok (.i2b, 1)) (kk : G E x M (pc + 1) lv (.int a.toInt8.toInt32 :: st)) : G E x M pc lv (.int a :: st) := fun H locs ls hP hS hL => lv_i2b X.ex X.cb hd rfl (kk H locs ls hP hS hL)
theorem g_ineg (X : Cx E x cc nL own hm) {a : Int32} (hd : decode cc pc = .ok (.ineg, 1)) (kk : G E x M (pc + 1) lv (.int (-a) :: st)) : G E x M pc lv (.int a :: st) := fun H locs ls hP hS hL => lv_ineg X.ex X.cb hd (kk H locs ls hP hS hL)
theorem g_i2l (X : Cx E x cc nL own hm) {a : Int32} (hd : decode cc pc = .ok (.i2l, 1)) (kk : G E x M (pc + 1) lv (.long a.toInt64 :: st)) : G E x M pc lv (.int a :: st) := fun H locs ls hP hS hL => lv_i2l X.ex X.cb hd rfl (kk H locs ls hP hS hL)
theorem g_l2i (X : Cx E x cc nL own hm) {a : Int64} (hd : decode cc pc = .ok (.l2i, 1)) (kk : G E x M (pc + 1) lv (.int a.toInt32 :: st)) : G E x M pc lv (.long a :: st) := fun H locs ls hP hS hL => lv_l2i X.ex X.cb hd rfl (kk H locs ls hP hS hL)
theorem g_i2c (X : Cx E x cc nL own hm) {a : Int32} (hd : decode cc pc = .ok (.i2c, 1)) (kk : G E x M (pc + 1) lv (.int (a.toUInt32 % 65536).toInt32 :: st)) : G E x M pc lv (.int a :: st) := fun H locs ls hP hS hL => lv_i2c X.ex X.cb hd rfl (kk H locs ls hP hS hL)
theorem g_lcmp (X : Cx E x cc nL own hm) {a b : Int64} (hd : decode cc pc = .ok (.lcmp, 1)) (kk : G E x M (pc + 1) lv (.int (lg_cmp a b) :: st)) : G E x M pc lv (.long b :: .long a :: st) := fun H locs ls hP hS hL => W.lcmp X.ex X.cb hd (kk H locs ls hP hS hL)
theorem g_dup (X : Cx E x cc nL own hm) {v : Value} (hd : decode cc pc = .ok (.dup, 1)) (hv : v.category = 1) (kk : G E x M (pc + 1) lv (v :: v :: st)) : G E x M pc lv (v :: st) := fun H locs ls hP hS hL => lv_dup X.ex X.cb hd hv (kk H locs ls hP hS hL)
theorem g_dup_x1 (X : Cx E x cc nL own hm) {v w : Value} (hd : decode cc pc = .ok (.dup_x1, 1)) (hv : v.category = 1) (hw : w.category = 1) (kk : G E x M (pc + 1) lv (v :: w :: v :: st)) : G E x M pc lv (v :: w :: st) := fun H locs ls hP hS hL => lv_dup_x1 X.ex X.cb hd hv hw (kk H locs ls hP hS hL)
theorem g_dup2 (X : Cx E x cc nL own hm) {v w : Value} (hd : decode cc pc = .ok (.dup2, 1)) (hv : v.category = 1) (hw : w.category = 1) (kk : G E x M (pc + 1) lv (v :: w :: v :: w :: st)) : G E x M pc lv (v :: w :: st) := fun H locs ls hP hS hL => lv_dup2_11 X.ex X.cb hd hv hw (kk H locs ls hP hS hL)
theorem g_idiv (X : Cx E x cc nL own hm) {a b : Int32} (hd : decode cc pc = .ok (.idiv, 1)) (h : ¬ b = 0 ∧ A) (kk : A → G E x M (pc + 1) lv (.int (a / b) :: st)) : G E x M pc lv (.int b :: .int a :: st) := fun H locs ls hP hS hL => lv_idiv X.ex X.cb hd h.1 (kk h.2 H locs ls hP hS hL)
theorem g_irem (X : Cx E x cc nL own hm) {a b : Int32} (hd : decode cc pc = .ok (.irem, 1)) (h : ¬ b = 0 ∧ A) (kk : A → G E x M (pc + 1) lv (.int (a - a / b * b) :: st)) : G E x M pc lv (.int b :: .int a :: st) := fun H locs ls hP hS hL => lv_irem X.ex X.cb hd h.1 (kk h.2 H locs ls hP hS hL)
theorem g_goto (X : Cx E x cc nL own hm) {off : Int} {tgt : Nat} (hd : decode cc pc = .ok (.goto off, 3)) (ht : (pc : Int) + off = (tgt : Int)) (kk : G E x M tgt lv st) : G E x M pc lv st := fun H locs ls hP hS hL => lv_goto X.ex X.cb hd ht (kk H locs ls hP hS hL)
theorem g_ldc (X : Cx E x cc nL own hm) {index : Nat} {v : Int32} (hd : decode cc pc = .ok (.ldc index, 2)) (hw : Cond.constant own index v ∈ gt) (kk : G E x M (pc + 2) lv (.int v :: st)) : G E x M pc lv st := fun H locs ls hP hS hL => lv_ldc X.ex X.cb X.ow (X.hts _ hw) hd (kk H locs ls hP hS hL)
theorem g_ldcw (X : Cx E x cc nL own hm) {index : Nat} {v : Int32} (hd : decode cc pc = .ok (.ldc_w index, 3)) (hw : Cond.constant own index v ∈ gt) (kk : G E x M (pc + 3) lv (.int v :: st)) : G E x M pc lv st := fun H locs ls hP hS hL => lv_ldcw X.ex X.cb X.ow (X.hts _ hw) hd (kk H locs ls hP hS hL)
theorem g_ldc2 (X : Cx E x cc nL own hm) {index : Nat} {v : Int64} (hd : decode cc pc = .ok (.ldc2_w index, 3)) (hw : Cond.constantLong own index v ∈ gt) (kk : G E x M (pc + 3) lv (.long v :: st)) : G E x M pc lv st := fun H locs ls hP hS hL => lv_ldc2 X.ex X.cb X.ow (X.hts _ hw) hd (kk H locs ls hP hS hL)
theorem g_ifeq (X : Cx E x cc nL own hm) {v : Int32} {off : Int} {tgt : Nat} (hd : decode cc pc = .ok (.ifCond .eq off, 3)) (ht : (pc : Int) + off = (tgt : Int)) (h : (v = 0 → A) ∧ (¬ v = 0 → B)) (kt : A → G E x M tgt lv st) (kf : B → G E x M (pc + 3) lv st) : G E x M pc lv (.int v :: st) := fun H locs ls hP hS hL => lv_if_eq X.ex X.cb hd ht (fun c => kt (h.1 c) H locs ls hP hS hL) (fun c => kf (h.2 c) H locs ls hP hS hL)
theorem g_icmpeq (X : Cx E x cc nL own hm) {v w : Int32} {off : Int} {tgt : Nat} (hd : decode cc pc = .ok (.if_icmp .eq off, 3)) (ht : (pc : Int) + off = (tgt : Int)) (h : (v = w → A) ∧ (¬ v = w → B)) (kt : A → G E x M tgt lv st) (kf : B → G E x M (pc + 3) lv st) : G E x M pc lv (.int w :: .int v :: st) := fun H locs ls hP hS hL => lv_icmp_eq X.ex X.cb hd ht (fun c => kt (h.1 c) H locs ls hP hS hL) (fun c => kf (h.2 c) H locs ls hP hS hL)
theorem g_ifne (X : Cx E x cc nL own hm) {v : Int32} {off : Int} {tgt : Nat} (hd : decode cc pc = .ok (.ifCond .ne off, 3)) (ht : (pc : Int) + off = (tgt : Int)) (h : (¬ v = 0 → A) ∧ (v = 0 → B)) (kt : A → G E x M tgt lv st) (kf : B → G E x M (pc + 3) lv st) : G E x M pc lv (.int v :: st) := fun H locs ls hP hS hL => lv_if_ne X.ex X.cb hd ht (fun c => kt (h.1 c) H locs ls hP hS hL) (fun c => kf (h.2 c) H locs ls hP hS hL)
theorem g_icmpne (X : Cx E x cc nL own hm) {v w : Int32} {off : Int} {tgt : Nat} (hd : decode cc pc = .ok (.if_icmp .ne off, 3)) (ht : (pc : Int) + off = (tgt : Int)) (h : (¬ v = w → A) ∧ (v = w → B)) (kt : A → G E x M tgt lv st) (kf : B → G E x M (pc + 3) lv st) : G E x M pc lv (.int w :: .int v :: st) := fun H locs ls hP hS hL => lv_icmp_ne X.ex X.cb hd ht (fun c => kt (h.1 c) H locs ls hP hS hL) (fun c => kf (h.2 c) H locs ls hP hS hL)
theorem g_iflt (X : Cx E x cc nL own hm) {v : Int32} {off : Int} {tgt : Nat} (hd : decode cc pc = .ok (.ifCond .lt off, 3)) (ht : (pc : Int) + off = (tgt : Int)) (h : (v < 0 → A) ∧ (¬ v < 0 → B)) (kt : A → G E x M tgt lv st) (kf : B → G E x M (pc + 3) lv st) : G E x M pc lv (.int v :: st) := fun H locs ls hP hS hL => lv_if_lt X.ex X.cb hd ht (fun c => kt (h.1 c) H locs ls hP hS hL) (fun c => kf (h.2 c) H locs ls hP hS hL)
theorem g_icmplt (X : Cx E x cc nL own hm) {v w : Int32} {off : Int} {tgt : Nat} (hd : decode cc pc = .ok (.if_icmp .lt off, 3)) (ht : (pc : Int) + off = (tgt : Int)) (h : (v < w → A) ∧ (¬ v < w → B)) (kt : A → G E x M tgt lv st) (kf : B → G E x M (pc + 3) lv st) : G E x M pc lv (.int w :: .int v :: st) := fun H locs ls hP hS hL => lv_icmp_lt X.ex X.cb hd ht (fun c => kt (h.1 c) H locs ls hP hS hL) (fun c => kf (h.2 c) H locs ls hP hS hL)
theorem g_ifge (X : Cx E x cc nL own hm) {v : Int32} {off : Int} {tgt : Nat} (hd : decode cc pc = .ok (.ifCond .ge off, 3)) (ht : (pc : Int) + off = (tgt : Int)) (h : (0 ≤ v → A) ∧ (¬ 0 ≤ v → B)) (kt : A → G E x M tgt lv st) (kf : B → G E x M (pc + 3) lv st) : G E x M pc lv (.int v :: st) := fun H locs ls hP hS hL => lv_if_ge X.ex X.cb hd ht (fun c => kt (h.1 c) H locs ls hP hS hL) (fun c => kf (h.2 c) H locs ls hP hS hL)
theorem g_icmpge (X : Cx E x cc nL own hm) {v w : Int32} {off : Int} {tgt : Nat} (hd : decode cc pc = .ok (.if_icmp .ge off, 3)) (ht : (pc : Int) + off = (tgt : Int)) (h : (w ≤ v → A) ∧ (¬ w ≤ v → B)) (kt : A → G E x M tgt lv st) (kf : B → G E x M (pc + 3) lv st) : G E x M pc lv (.int w :: .int v :: st) := fun H locs ls hP hS hL => lv_icmp_ge X.ex X.cb hd ht (fun c => kt (h.1 c) H locs ls hP hS hL) (fun c => kf (h.2 c) H locs ls hP hS hL)
theorem g_ifgt (X : Cx E x cc nL own hm) {v : Int32} {off : Int} {tgt : Nat} (hd : decode cc pc = .ok (.ifCond .gt off, 3)) (ht : (pc : Int) + off = (tgt : Int)) (h : (0 < v → A) ∧ (¬ 0 < v → B)) (kt : A → G E x M tgt lv st) (kf : B → G E x M (pc + 3) lv st) : G E x M pc lv (.int v :: st) := fun H locs ls hP hS hL => lv_if_gt X.ex X.cb hd ht (fun c => kt (h.1 c) H locs ls hP hS hL) (fun c => kf (h.2 c) H locs ls hP hS hL)
theorem g_icmpgt (X : Cx E x cc nL own hm) {v w : Int32} {off : Int} {tgt : Nat} (hd : decode cc pc = .ok (.if_icmp .gt off, 3)) (ht : (pc : Int) + off = (tgt : Int)) (h : (w < v → A) ∧ (¬ w < v → B)) (kt : A → G E x M tgt lv st) (kf : B → G E x M (pc + 3) lv st) : G E x M pc lv (.int w :: .int v :: st) := fun H locs ls hP hS hL => lv_icmp_gt X.ex X.cb hd ht (fun c => kt (h.1 c) H locs ls hP hS hL) (fun c => kf (h.2 c) H locs ls hP hS hL)
theorem g_ifle (X : Cx E x cc nL own hm) {v : Int32} {off : Int} {tgt : Nat} (hd : decode cc pc = .ok (.ifCond .le off, 3)) (ht : (pc : Int) + off = (tgt : Int)) (h : (v ≤ 0 → A) ∧ (¬ v ≤ 0 → B)) (kt : A → G E x M tgt lv st) (kf : B → G E x M (pc + 3) lv st) : G E x M pc lv (.int v :: st) := fun H locs ls hP hS hL => lv_if_le X.ex X.cb hd ht (fun c => kt (h.1 c) H locs ls hP hS hL) (fun c => kf (h.2 c) H locs ls hP hS hL)
theorem g_icmple (X : Cx E x cc nL own hm) {v w : Int32} {off : Int} {tgt : Nat} (hd : decode cc pc = .ok (.if_icmp .le off, 3)) (ht : (pc : Int) + off = (tgt : Int)) (h : (v ≤ w → A) ∧ (¬ v ≤ w → B)) (kt : A → G E x M tgt lv st) (kf : B → G E x M (pc + 3) lv st) : G E x M pc lv (.int w :: .int v :: st) := fun H locs ls hP hS hL => lv_icmp_le X.ex X.cb hd ht (fun c => kt (h.1 c) H locs ls hP hS hL) (fun c => kf (h.2 c) H locs ls hP hS hL)
theorem g_tabO (X : Cx E x cc nL own hm) {dflt lo hi : Int} {offs : Array Int} {len : Nat} {v : Int32} {tgt : Nat} (hd : decode cc pc = .ok (.tableswitch dflt lo hi offs, len)) (hc : v.toInt < lo ∨ hi < v.toInt) (ht : (pc : Int) + dflt = (tgt : Int)) (kk : G E x M tgt lv st) : G E x M pc lv (.int v :: st) := fun H locs ls hP hS hL => lv_tableOut X.ex X.cb hd hc ht (kk H locs ls hP hS hL)
theorem g_tabI (X : Cx E x cc nL own hm) {dflt lo hi : Int} {offs : Array Int} {len : Nat} {v k : Int32} {off : Int} {tgt : Nat} (hd : decode cc pc = .ok (.tableswitch dflt lo hi offs, len)) (hv : v = k) (hc : (¬ k.toInt < lo ∧ ¬ hi < k.toInt) ∧ offs[(k.toInt - lo).toNat]? = some off) (ht : (pc : Int) + off = (tgt : Int)) (kk : G E x M tgt lv st) : G E x M pc lv (.int v :: st) := fun H locs ls hP hS hL => lv_tableIn X.ex X.cb hd (by rw [hv]; exact hc.1.1) (by rw [hv]; exact hc.1.2) (by rw [hv]; exact hc.2) ht (kk H locs ls hP hS hL)
theorem g_look (X : Cx E x cc nL own hm) {dflt : Int} {ps : Array (Int × Int)} {len : Nat} {v : Int32} {off : Int} {tgt : Nat} (hd : decode cc pc = .ok (.lookupswitch dflt ps, len)) (hp : (ps.toList.zip (ps.toList.drop 1)).all (fun (a, next) => a.1 < next.1) = true) (ho : Op.lookupswitch.offset ps.toList dflt v.toInt = off) (ht : (pc : Int) + off = (tgt : Int)) (kk : G E x M tgt lv st) : G E x M pc lv (.int v :: st) := fun H locs ls hP hS hL => lv_lookup X.ex X.cb hd hp ho ht (kk H locs ls hP hS hL)
theorem g_mmax (X : Cx E x cc nL own hm) {index : Nat} {a b : Int32} (hd : decode cc pc = .ok (.invokestatic index, 3)) (w1 : Cond.methodLink own index Lib.Math.max.name ∈ gt) (w2 : Cond.static Lib.Math.max.name ∈ gt) (w3 : Cond.initialized "java/lang/Math" ∈ gt) (w4 : Cond.code Lib.Math.max.name Lib.Math.max.code 2 (some .int) ∈ gt) (hh : 1 ≤ hm) (hr : (st.map fun v => v.category).sum ≤ 8) (kk : G E x M (pc + 3) lv (.int (if a < b then b else a) :: st)) : G E x M pc lv (.int b :: .int a :: st) := fun H locs ls hP hS hL => va_mmax X.ex X.cb (by rw [hL.1, X.nl]; exact X.ml) X.ow (X.hts _ w1) (X.hts _ w2) (X.hts _ w3) (X.hts _ w4) (Nat.le_trans hh X.rm.1) (by have := X.rm.2; omega) X.kz.1 X.kz.2 hd (kk H locs ls hP hS hL)
theorem g_mmin (X : Cx E x cc nL own hm) {index : Nat} {a b : Int32} (hd : decode cc pc = .ok (.invokestatic index, 3)) (w1 : Cond.methodLink own index Lib.Math.min.name ∈ gt) (w2 : Cond.static Lib.Math.min.name ∈ gt) (w3 : Cond.initialized "java/lang/Math" ∈ gt) (w4 : Cond.code Lib.Math.min.name Lib.Math.min.code 2 (some .int) ∈ gt) (hh : 1 ≤ hm) (hr : (st.map fun v => v.category).sum ≤ 8) (kk : G E x M (pc + 3) lv (.int (if b < a then b else a) :: st)) : G E x M pc lv (.int b :: .int a :: st) := fun H locs ls hP hS hL => va_mmin X.ex X.cb (by rw [hL.1, X.nl]; exact X.ml) X.ow (X.hts _ w1) (X.hts _ w2) (X.hts _ w3) (X.hts _ w4) (Nat.le_trans hh X.rm.1) (by have := X.rm.2; omega) X.kz.1 X.kz.2 hd (kk H locs ls hP hS hL)
end GRows
end
section
def zb (v : Int32) : Prop := v = 0 ∨ v = 1
def Aff (o : Nat) : Prop := ∃ a, a < 8 ∧ o = 59 + 8 * a
def Prs (q : Nat) : Prop := 11 ≤ q ∧ q < 15
/-- an int field, a field that is a cell, an array of ints, of bits -/
def FI (q ci k : Nat) : Prop := q < 123 ∧ ∀ (E : Ek) (f : Nat → Int32) (h : Int64), ∃ fs, lay E q f h = .inr (ci, fs) ∧ fs[k]? = some (.int (f k)) ∧ ∀ v, lay E q (upd f k v) h = .inr (ci, fs.set k (.int v)) ∧ k < fs.length
def FR (q ci k q' : Nat) : Prop := q < 123 ∧ ∀ (E : Ek) (f : Nat → Int32) (h : Int64), ∃ fs, lay E q f h = .inr (ci, fs) ∧ fs[k]? = some (.ref (ad E q'))
def IA (q n : Nat) : Prop := q < 123 ∧ ∀ (E : Ek) (f : Nat → Int32) (h : Int64), lay E q f h = .inl (eA E 0, n, .inl f)
def ZA (q n : Nat) : Prop := q < 123 ∧ ∀ (E : Ek) (f : Nat → Int32) (h : Int64), lay E q f h = .inl (eA E 1, n, .inl f)
def OC (q : Nat) (C : String) : Prop := q < 123 ∧ ∀ (E : Ek) (f : Nat → Int32) (h : Int64), ∃ ci fs r, lay E q f h = .inr (ci, fs) ∧ classes[ci]? = some r ∧ r.1 = C
theorem aff_c {P : Nat → Prop} (h0 : P 59) (h1 : P 67) (h2 : P 75) (h3 : P 83) (h4 : P 91) (h5 : P 99) (h6 : P 107) (h7 : P 115) {o : Nat} (h : Aff o) : P o := by
  obtain ⟨a, ha, rfl⟩ := h
  rcases (by omega : a = 0 ∨ a = 1 ∨ a = 2 ∨ a = 3 ∨ a = 4 ∨ a = 5 ∨ a = 6 ∨ a = 7) with rfl | rfl | rfl | rfl | rfl | rfl | rfl | rfl <;> assumption
theorem aff_59 : Aff 59 := ⟨0, by decide, rfl⟩
theorem aff_67 : Aff 67 := ⟨1, by decide, rfl⟩
theorem aff_75 : Aff 75 := ⟨2, by decide, rfl⟩
theorem aff_lev {n : Nat} (h : n < 5) : Aff (83 + 8 * n) := ⟨n + 3, by omega, by omega⟩
theorem vp_lt {i : Int32} {n : Nat} (h : vp_in i n) : i.toNatClampNeg < n := Nat.not_le.mp fun q => h (Or.inr q)
theorem prs_of {i : Int32} (h : vp_in i 4) : Prs (11 + i.toNatClampNeg) := ⟨by omega, by have := vp_lt h; omega⟩
section HRows
variable {E : Ek} {x : MC} {cc : ByteArray} {nL hm pc : Nat} {own : String} {M : Mem} {lv : List (Nat × Value)} {st : List Value} {A B : Prop}
variable {q ci k N idx n : Nat} {C : String} {T : u_T}
theorem g_getI (X : Cx E x cc nL own hm) (hF : FI q ci k) (hc : classes[ci]? = some (C, T, N)) (hin : ∀ w ∈ u_ws C T N, w ∈ gt) (hk : k < N) (hl : Cond.fieldLink own idx (T k).1 (T k).2.1 (T k).2.2.1 ∈ gt) (hd : decode cc pc = .ok (.getfield idx, 3)) (kk : G E x M (pc + 3) lv (.int (rd M q k) :: st)) : G E x M pc lv (.ref (ad E q) :: st) := fun H locs ls hP hS hL => by
  obtain ⟨fs, h1, h2, h3⟩ := hF.2 E (M.1 q) M.2
  exact va_get (D := eD E) (ci := ci) (v := .int (rd M q k)) X.ex X.cb X.hts hin X.ow X.ge.1 hP q ((ws_at hF.1).trans (by rw [h1])) hc k hk (X.hts _ hl) (fun _ h => h) h2 hd (kk H locs ls hP hS hL)
theorem g_getIN (X : Cx E x cc nL own hm) {host : String} (hF : FI q ci k) (hc : classes[ci]? = some (C, T, N)) (hin : ∀ w ∈ u_ws C T N, w ∈ gt) (hk : k < N) (hl : Cond.fieldLinkNest own idx (T k).1 (T k).2.1 (T k).2.2.1 host ∈ tables_1) (hd : decode cc pc = .ok (.getfield idx, 3)) (kk : G E x M (pc + 3) lv (.int (rd M q k) :: st)) : G E x M pc lv (.ref (ad E q) :: st) := fun H locs ls hP hS hL => by
  obtain ⟨fs, h1, h2, h3⟩ := hF.2 E (M.1 q) M.2
  exact va_getN (D := eD E) (ci := ci) (v := .int (rd M q k)) X.ex X.cb X.hts hin X.ow X.ge.1 hP q ((ws_at hF.1).trans (by rw [h1])) hc k hk (X.nest hl rfl) (fun _ h => h) h2 hd (kk H locs ls hP hS hL)
theorem g_getR (X : Cx E x cc nL own hm) {q' : Nat} (hF : FR q ci k q') (hc : classes[ci]? = some (C, T, N)) (hin : ∀ w ∈ u_ws C T N, w ∈ gt) (hk : k < N) (hl : Cond.fieldLink own idx (T k).1 (T k).2.1 (T k).2.2.1 ∈ gt) (hd : decode cc pc = .ok (.getfield idx, 3)) (kk : G E x M (pc + 3) lv (.ref (ad E q') :: st)) : G E x M pc lv (.ref (ad E q) :: st) := fun H locs ls hP hS hL => by
  obtain ⟨fs, h1, h2⟩ := hF.2 E (M.1 q) M.2
  exact va_get (D := eD E) (ci := ci) (v := .ref (ad E q')) X.ex X.cb X.hts hin X.ow X.ge.1 hP q ((ws_at hF.1).trans (by rw [h1])) hc k hk (X.hts _ hl) (fun _ h => h) h2 hd (kk H locs ls hP hS hL)
theorem g_getRN (X : Cx E x cc nL own hm) {q' : Nat} {host : String} (hF : FR q ci k q') (hc : classes[ci]? = some (C, T, N)) (hin : ∀ w ∈ u_ws C T N, w ∈ gt) (hk : k < N) (hl : Cond.fieldLinkNest own idx (T k).1 (T k).2.1 (T k).2.2.1 host ∈ tables_1) (hd : decode cc pc = .ok (.getfield idx, 3)) (kk : G E x M (pc + 3) lv (.ref (ad E q') :: st)) : G E x M pc lv (.ref (ad E q) :: st) := fun H locs ls hP hS hL => by
  obtain ⟨fs, h1, h2⟩ := hF.2 E (M.1 q) M.2
  exact va_getN (D := eD E) (ci := ci) (v := .ref (ad E q')) X.ex X.cb X.hts hin X.ow X.ge.1 hP q ((ws_at hF.1).trans (by rw [h1])) hc k hk (X.nest hl rfl) (fun _ h => h) h2 hd (kk H locs ls hP hS hL)
theorem ws_wr {v : Int32} {fs : List Value} (hq : q < 123) (h3 : lay E q (upd (M.1 q) k v) M.2 = .inr (ci, fs.set k (.int v))) : (ws E M).set q (ad E q, .inr (ci, fs.set k (.int v))) = ws E (wr M q k v) :=
  ws_set hq (by rw [wr_self]; exact h3.symm) (fun a ha => by rw [wr_ne ha]; rfl)
theorem g_putI (X : Cx E x cc nL own hm) {v : Int32} {ty : FieldType} {A : Mem → Prop} (hF : FI q ci k) (hc : classes[ci]? = some (C, T, N)) (hin : ∀ w ∈ u_ws C T N, w ∈ gt) (ty0 : Nat → FieldType) (hty : ∀ k, k < N → parseFieldDescriptor (T k).2.2.1 = some (ty0 k)) (hnm : ∀ a, a < N → ∀ b, b < N → a ≠ b → (T a).2.1 ≠ (T b).2.1) (hk : k < N) (hl : Cond.fieldLink own idx (T k).1 (T k).2.1 (T k).2.2.1 ∈ gt) (hfin : (T k).2.2.2 = false) (hds : parseFieldDescriptor (T k).2.2.1 = some ty) (hn : narrow ty (.int v) = .int v) (hf : fits ty (.int v) = true) (hd : decode cc pc = .ok (.putfield idx, 3)) (h : ∀ M1, M1 = wr M q k v → A M1) (kk : ∀ M1, A M1 → G E x M1 (pc + 3) lv st) : G E x M pc lv (.int v :: .ref (ad E q) :: st) := fun H locs ls hP hS hL => by
  obtain ⟨fs, h1, h2, h3⟩ := hF.2 E (M.1 q) M.2
  refine va_put (D := eD E) (ci := ci) (v := .int v) (ty := ty) X.ex X.cb X.hts hin ty0 hty hnm X.ow X.ge.1 hP (ws_D X.ap) hS q ((ws_at hF.1).trans (by rw [h1])) hc k hk (X.hts _ hl) (fun _ h => h) hfin hds hn hf (h3 v).2 hd (fun H1 locs1 hP1 hD1 hS1 => ?_)
  rw [ws_wr hF.1 (h3 v).1] at hP1
  exact kk _ (h _ rfl) H1 locs1 ls hP1 hS1 hL
theorem g_putIN (X : Cx E x cc nL own hm) {v : Int32} {ty : FieldType} {host : String} {A : Mem → Prop} (hF : FI q ci k) (hc : classes[ci]? = some (C, T, N)) (hin : ∀ w ∈ u_ws C T N, w ∈ gt) (ty0 : Nat → FieldType) (hty : ∀ k, k < N → parseFieldDescriptor (T k).2.2.1 = some (ty0 k)) (hnm : ∀ a, a < N → ∀ b, b < N → a ≠ b → (T a).2.1 ≠ (T b).2.1) (hk : k < N) (hl : Cond.fieldLinkNest own idx (T k).1 (T k).2.1 (T k).2.2.1 host ∈ tables_1) (hfin : (T k).2.2.2 = false) (hds : parseFieldDescriptor (T k).2.2.1 = some ty) (hn : narrow ty (.int v) = .int v) (hf : fits ty (.int v) = true) (hd : decode cc pc = .ok (.putfield idx, 3)) (h : ∀ M1, M1 = wr M q k v → A M1) (kk : ∀ M1, A M1 → G E x M1 (pc + 3) lv st) : G E x M pc lv (.int v :: .ref (ad E q) :: st) := fun H locs ls hP hS hL => by
  obtain ⟨fs, h1, h2, h3⟩ := hF.2 E (M.1 q) M.2
  refine va_putN (D := eD E) (ci := ci) (v := .int v) (ty := ty) X.ex X.cb X.hts hin ty0 hty hnm X.ow X.ge.1 hP (ws_D X.ap) hS q ((ws_at hF.1).trans (by rw [h1])) hc k hk (X.nest hl rfl) (fun _ h => h) hfin hds hn hf (h3 v).2 hd (fun H1 locs1 hP1 hD1 hS1 => ?_)
  rw [ws_wr hF.1 (h3 v).1] at hP1
  exact kk _ (h _ rfl) H1 locs1 ls hP1 hS1 hL
theorem zb_n {v : Int32} (h : zb v) : narrow .boolean (.int v) = .int v := by
  rcases h with rfl | rfl <;> rfl
theorem zb_f {v : Int32} (h : zb v) : fits .boolean (.int v) = true := by
  rcases h with rfl | rfl <;> rfl
/-- the model's one long -/
theorem g_getJ (X : Cx E x cc nL own hm) (hin : ∀ w ∈ u_ws RX12 TX12 44, w ∈ gt) (hl : Cond.fieldLink own idx (TX12 43).1 (TX12 43).2.1 (TX12 43).2.2.1 ∈ gt) (hd : decode cc pc = .ok (.getfield idx, 3)) (kk : G E x M (pc + 3) lv (.long M.2 :: st)) : G E x M pc lv (.ref (ad E 29) :: st) := fun H locs ls hP hS hL =>
  va_get (D := eD E) (ci := 12) (v := .long M.2) X.ex X.cb X.hts hin X.ow X.ge.1 hP 29 (ws_at (by decide)) rfl 43 (by decide) (X.hts _ hl) (fun _ h => h) rfl hd (kk H locs ls hP hS hL)
theorem g_putJ (X : Cx E x cc nL own hm) {v : Int64} {A : Mem → Prop} (hin : ∀ w ∈ u_ws RX12 TX12 44, w ∈ gt) (hl : Cond.fieldLink own idx (TX12 43).1 (TX12 43).2.1 (TX12 43).2.2.1 ∈ gt) (hd : decode cc pc = .ok (.putfield idx, 3)) (h : ∀ M1, M1 = wrH M v → A M1) (kk : ∀ M1, A M1 → G E x M1 (pc + 3) lv st) : G E x M pc lv (.long v :: .ref (ad E 29) :: st) := fun H locs ls hP hS hL => by
  refine va_put (D := eD E) (ci := 12) (C := RX12) (T := TX12) (N := 44) (v := .long v) (ty := .long) X.ex X.cb X.hts hin tyX12 tyX12_ok nmX12 X.ow X.ge.1 hP (ws_D X.ap) hS 29 (ws_at (by decide)) rfl 43 (by decide) (X.hts _ hl) (fun _ h => h) rfl (by decide +kernel) rfl rfl (Nat.le_of_ble_eq_true rfl) hd (fun H1 locs1 hP1 hD1 hS1 => ?_)
  have e : (ws E M).set 29 (ad E 29, lay E 29 ((wrH M v).1 29) (wrH M v).2) = ws E (wrH M v) := ws_set (by decide) rfl (fun a ha => lay_h ha _ _ _)
  exact kk _ (h _ rfl) H1 locs1 ls (by rw [← e]; exact hP1) hS1 hL
/-! arrays -/
theorem g_iald (X : Cx E x cc nL own hm) {i : Int32} (hI : IA q n) (hd : decode cc pc = .ok (.iaload, 1)) (h : vp_in i n ∧ A) (kk : A → G E x M (pc + 1) lv (.int (rd M q i.toNatClampNeg) :: st)) : G E x M pc lv (.int i :: .ref (ad E q) :: st) := fun H locs ls hP hS hL =>
  va_iald X.ex X.cb X.ge.1 hP q 0 (f := M.1 q) (n := n) (cA := eA E 0) ((ws_at hI.1).trans (by rw [hI.2])) rfl h.1 hd (kk h.2 H locs ls hP hS hL)
theorem g_zald (X : Cx E x cc nL own hm) {i : Int32} (hI : ZA q n) (hd : decode cc pc = .ok (.baload, 1)) (h : vp_in i n ∧ A) (kk : A → G E x M (pc + 1) lv (.int (rd M q i.toNatClampNeg) :: st)) : G E x M pc lv (.int i :: .ref (ad E q) :: st) := fun H locs ls hP hS hL =>
  va_zald X.ex X.cb X.ge.1 hP q 1 (f := M.1 q) (n := n) (cA := eA E 1) ((ws_at hI.1).trans (by rw [hI.2])) rfl h.1 hd (kk h.2 H locs ls hP hS hL)
theorem ws_wrA {i : Nat} {v : Int32} {cA : ClassId} (hq : q < 123) (h : lay E q (upd (M.1 q) i v) M.2 = .inl (cA, n, .inl (upd (M.1 q) i v))) : (ws E M).set q (ad E q, .inl (cA, n, .inl (upd (M.1 q) i v))) = ws E (wr M q i v) :=
  ws_set hq (by rw [wr_self]; exact h.symm) (fun a ha => by rw [wr_ne ha]; rfl)
theorem g_iast (X : Cx E x cc nL own hm) {i v : Int32} {A : Mem → Prop} (hI : IA q n) (hd : decode cc pc = .ok (.iastore, 1)) (h : vp_in i n ∧ ∀ M1, M1 = wr M q i.toNatClampNeg v → A M1) (kk : ∀ M1, A M1 → G E x M1 (pc + 1) lv st) : G E x M pc lv (.int v :: .int i :: .ref (ad E q) :: st) := fun H locs ls hP hS hL => by
  refine va_iast X.ex X.cb X.ge.1 hP (ws_D X.ap) hS q 0 (f := M.1 q) (n := n) (cA := eA E 0) ((ws_at hI.1).trans (by rw [hI.2])) rfl h.1 hd (fun H1 locs1 hP1 hD1 hS1 => ?_)
  rw [ws_wrA hI.1 (hI.2 E _ _)] at hP1
  exact kk _ (h.2 _ rfl) H1 locs1 ls hP1 hS1 hL
theorem g_zast (X : Cx E x cc nL own hm) {i v : Int32} {A : Mem → Prop} (hI : ZA q n) (hd : decode cc pc = .ok (.bastore, 1)) (h : vp_in i n ∧ ∀ M1, M1 = wr M q i.toNatClampNeg (vp_nar .boolean v) → A M1) (kk : ∀ M1, A M1 → G E x M1 (pc + 1) lv st) : G E x M pc lv (.int v :: .int i :: .ref (ad E q) :: st) := fun H locs ls hP hS hL => by
  refine va_zast X.ex X.cb X.ge.1 hP (ws_D X.ap) hS q 1 (f := M.1 q) (n := n) (cA := eA E 1) ((ws_at hI.1).trans (by rw [hI.2])) rfl h.1 hd (fun H1 locs1 hP1 hD1 hS1 => ?_)
  rw [ws_wrA hI.1 (hI.2 E _ _)] at hP1
  exact kk _ (h.2 _ rfl) H1 locs1 ls hP1 hS1 hL
theorem g_alen (X : Cx E x cc nL own hm) (hI : IA q n) (hd : decode cc pc = .ok (.arraylength, 1)) {v : Int32} (hv : Int32.ofNat n = v) (kk : G E x M (pc + 1) lv (.int v :: st)) : G E x M pc lv (.ref (ad E q) :: st) := fun H locs ls hP hS hL =>
  va_alen X.ex X.cb X.ge.1 hP q 0 (x := (n, .inl (M.1 q))) (cA := eA E 0) (ty := .int) ((ws_at hI.1).trans (by rw [hI.2])) rfl hv hd (kk H locs ls hP hS hL)
theorem g_pald (X : Cx E x cc nL own hm) {i : Int32} (hd : decode cc pc = .ok (.aaload, 1)) (h : vp_in i 4 ∧ A) (kk : vp_in i 4 → A → G E x M (pc + 1) lv (.ref (ad E (11 + i.toNatClampNeg)) :: st)) : G E x M pc lv (.int i :: .ref (ad E 7) :: st) := fun H locs ls hP hS hL =>
  va_aldq (C := RX7) X.ex X.cb X.ge.1 hP 7 2 (f := fun j => some (ad E (11 + j))) (n := 4) (cA := eA E 2) (ws_at (by decide)) rfl h.1 hd (kk h.1 h.2 H locs ls hP hS hL)
theorem g_lald (X : Cx E x cc nL own hm) {i : Int32} (hd : decode cc pc = .ok (.aaload, 1)) (h : vp_in i 5 ∧ A) (kk : vp_in i 5 → A → G E x M (pc + 1) lv (.ref (ad E (83 + 8 * i.toNatClampNeg)) :: st)) : G E x M pc lv (.int i :: .ref (ad E 20) :: st) := fun H locs ls hP hS hL =>
  va_aldq (C := RX0) X.ex X.cb X.ge.1 hP 20 3 (f := fun j => some (ad E (83 + 8 * j))) (n := 5) (cA := eA E 3) (ws_at (by decide)) rfl h.1 hd (kk h.1 h.2 H locs ls hP hS hL)
/-! ends -/
def wdP (E : Ek) (M : Mem) (t : State) : Prop := va_P (eD E) classes (ws E M) t.heap
def QI (E : Ek) (x : MC) (Post : Int32 → Mem → Prop) (rt : Option FieldType) : Prop := xQ x = MQ (xb x) (va_Qi Post (wdP E) (frE E)) (xa x) (xs x) (xk x) (xz x) (frE E) ∧ (xM x).sig.returnType = rt
def QL (E : Ek) (x : MC) (Post : Int64 → Mem → Prop) (rt : Option FieldType) : Prop := xQ x = MQ (xb x) (va_Ql Post (wdP E) (frE E)) (xa x) (xs x) (xk x) (xz x) (frE E) ∧ (xM x).sig.returnType = rt
def QV (E : Ek) (x : MC) (Post : Mem → Prop) (rt : Option FieldType) : Prop := xQ x = MQ (xb x) (va_Qv Post (wdP E) (frE E)) (xa x) (xs x) (xk x) (xz x) (frE E) ∧ (xM x).sig.returnType = rt
theorem g_iret (X : Cx E x cc nL own hm) {Post : Int32 → Mem → Prop} {v : Int32} (hQ : QI E x Post (some .int)) (hd : decode cc pc = .ok (.ireturn, 1)) (h : Post v M) : G E x M pc lv [.int v] := fun H locs ls hP hS hL => by
  rw [hQ.1]
  exact W.iret (v := v) X.ex X.cb hQ.2 (fun t ht hW => ⟨⟨v, M, rfl, h, by show va_P _ _ _ _; rw [ht]; exact hP⟩, hS.F ht⟩) hS.2.2 hd X.lk
theorem g_zret (X : Cx E x cc nL own hm) {Post : Int32 → Mem → Prop} {v : Int32} (hQ : QI E x Post (some .boolean)) (hd : decode cc pc = .ok (.ireturn, 1)) (h : zb v ∧ Post v M) : G E x M pc lv [.int v] := fun H locs ls hP hS hL => by
  rw [hQ.1]
  exact W.zret (v := v) (ty := .boolean) X.ex X.cb hQ.2 (zb_n h.1) (fun t ht hW => ⟨⟨v, M, rfl, h.2, by show va_P _ _ _ _; rw [ht]; exact hP⟩, hS.F ht⟩) hS.2.2 hd X.lk
theorem g_lret (X : Cx E x cc nL own hm) {Post : Int64 → Mem → Prop} {v : Int64} (hQ : QL E x Post (some .long)) (hd : decode cc pc = .ok (.lreturn, 1)) (h : Post v M) : G E x M pc lv [.long v] := fun H locs ls hP hS hL => by
  rw [hQ.1]
  exact W.lret (v := v) X.ex X.cb hQ.2 (fun t ht hW => ⟨⟨v, M, rfl, h, by show va_P _ _ _ _; rw [ht]; exact hP⟩, hS.F ht⟩) hS.2.2 hd X.lk
theorem g_vret (X : Cx E x cc nL own hm) {Post : Mem → Prop} (hQ : QV E x Post none) (hd : decode cc pc = .ok (.return_, 1)) (h : Post M) : G E x M pc lv [] := fun H locs ls hP hS hL => by
  rw [hQ.1]
  exact W.vret X.ex X.cb hQ.2 (fun t ht hW => ⟨⟨M, rfl, h, by show va_P _ _ _ _; rw [ht]; exact hP⟩, hS.F ht⟩) hS.2.2 hd X.lk
/-! contracts -/
def ctG (E : Ek) (l : Launch) (y : MethodName) (b : ByteArray) (mL : Nat) (rt : Option FieldType) (h : Nat) (As : List Value) (M : Mem) (Qc : Array Value → State → Outcome → State → Prop) : Prop := Met l y (.code y b mL rt :: gt) (rmh h) (va_Pc As (Wd E M)) Qc 0 0 (frE E)
abbrev ctI (E : Ek) (l : Launch) (y : MethodName) (b : ByteArray) (mL : Nat) (rt : Option FieldType) (h : Nat) (As : List Value) (M : Mem) (Post : Int32 → Mem → Prop) : Prop := ctG E l y b mL rt h As M (va_Qi Post (wdP E) (frE E))
abbrev ctL (E : Ek) (l : Launch) (y : MethodName) (b : ByteArray) (mL : Nat) (rt : Option FieldType) (h : Nat) (As : List Value) (M : Mem) (Post : Int64 → Mem → Prop) : Prop := ctG E l y b mL rt h As M (va_Ql Post (wdP E) (frE E))
abbrev ctV (E : Ek) (l : Launch) (y : MethodName) (b : ByteArray) (mL : Nat) (rt : Option FieldType) (h : Nat) (As : List Value) (M : Mem) (Post : Mem → Prop) : Prop := ctG E l y b mL rt h As M (va_Qv Post (wdP E) (frE E))
theorem ct_of {l : Launch} {y : MethodName} {b : ByteArray} {mL h : Nat} {rt : Option FieldType} {As : List Value} {Qc : Array Value → State → Outcome → State → Prop} (hy : plainName y.cls = true) (hlen : (lg_sl As).length ≤ mL) (body : ∀ x : MC, Cx E x b mL y.cls h → xQ x = MQ (xb x) Qc (xa x) (xs x) (xk x) (xz x) (frE E) ∧ (xM x).sig.returnType = rt → G E x M 0 (lv_args 0 As) []) : ctG E l y b mL rt h As M Qc := by
  refine Met.ofW (cc := b) (maxL := mL) (ret := rt) hy rfl ?_
  intro p e s m args below meth c s₁ B hml hv
  obtain ⟨rfl, hP, hE, hAp, hSt, hsz⟩ := hv
  have hts := atoms_spec (ws := .code y b mL rt :: gt) B.pre
  have hown : s.vm.findClass y.cls = some m.cls := findClass_of_methodNamed B.named
  have hl := lv_entry As (n := mL) hlen
  rw [lg_entry_eq]
  exact body (p, l, e, (headSpec (.code y b mL rt :: gt) (rmh h)).room, s, m, As.toArray, below, meth, c, MQ below Qc As.toArray s 0 0 (frE E), mL, 0, 0) ⟨B.exec, B.bytes, hml, rfl, hown, fun w hw => hts w (List.mem_cons_of_mem _ hw), B.notSynchronized, ⟨Nat.le_refl _, Nat.le_refl _⟩, ⟨Nat.zero_le _, Nat.zero_le _⟩, hE, hAp, hSt, hsz⟩ ⟨rfl, B.returns⟩ s.heap [] _ hP va_S.rf hl
/-! calls -/
def CW (y : MethodName) (b : ByteArray) (mL : Nat) (rt : Option FieldType) (n : Nat) : Prop := Cond.code y b mL rt ∈ gt ∧ Cond.initialized y.cls ∈ gt ∧ mL ≤ 21 ∧ (y.cls ≠ "java/lang/invoke/MethodHandle" ∧ y.cls ≠ "java/lang/invoke/VarHandle" ∧ (parseMethodDescriptor y.desc).map (fun d => d.parameters.length) = some n)
theorem gt_GI {y : MethodName} {b : ByteArray} {mL : Nat} {rt : Option FieldType} (h : Cond.code y b mL rt ∈ gt) : GoodIn gt (.code y b mL rt :: gt) := fun w hw => by
  rcases List.mem_cons.mp hw with rfl | hw
  · exact ⟨h, good_of_word (gt_good h)⟩
  · exact ⟨hw, good_of_word (gt_good hw)⟩
theorem Cx.room (X : Cx E x cc nL own hm) {hc mL : Nat} (hr : hc < hm) (hl : mL ≤ 21) : (rmh hc).frames + 1 ≤ (xR x).frames ∧ 8 + (mL + 11) + (rmh hc).locals ≤ (xR x).locals := by
  have h := X.rm
  refine ⟨?_, ?_⟩
  · show hc + 1 ≤ _; omega
  · show 8 + (mL + 11) + 40 * hc ≤ _; omega
theorem Cx.pre (X : Cx E x cc nL own hm) {H : Heap} {locs : List Loc} (hP : va_P (eD E) classes (ws E M) H) (hS : va_S (frE E) (xs x).heap H locs) {As : List Value} : PreS (xs x) H (va_Pc As (Wd E M)) As :=
  ⟨fun a U g mk h => ⟨h.1, Wd.calling a U g mk h.2⟩, fun U hU hW => ⟨rfl, by rw [hU]; exact hP, gE.warm hW X.ge, X.ap, by rw [hU]; exact (X.sr.moved hW.alike).kept hS.2.1, by rw [hU]; exact Nat.le_trans X.sz hS.1⟩⟩
theorem Cx.recv (X : Cx E x cc nL own hm) (hO : OC q C) {H : Heap} (hP : va_P (eD E) classes (ws E M) H) : ∃ cellB : Cell, H[ad E q]? = some cellB ∧ cellB.vm.isStatics = false ∧ (xs x).vm.findClass C = some cellB.cls := by
  obtain ⟨ci, fs, r, h1, h2, h3⟩ := hO.2 E (M.1 q) M.2
  have := va_recv X.ge.1 hP h2 ((ws_at hO.1).trans (by rw [h1]))
  rw [h3] at this
  exact this
section Runs
variable {y : MethodName} {b : ByteArray} {mL hc : Nat} {rt : Option FieldType} {As : List Value} {Qc : Array Value → State → Outcome → State → Prop}
theorem run_V (X : Cx E x cc nL own hm) (hM : ctG E (xl x) y b mL rt hc (.ref (ad E q) :: As) M Qc) (hw : CW y b mL rt n) (w1 : Cond.methodLink own idx y ∈ gt) (w2 : Cond.instanceMethod y ∈ gt) (w3 : Cond.selects C y y ∈ gt) (hO : OC q C) (hr : hc < hm) (hn : As.length = n) (hd : decode cc pc = .ok (.invokevirtual idx, 3)) (hW : (st.map fun v => v.category).sum ≤ 8) {H : Heap} {locs : List Loc} {ls : Array Slot} (hP : va_P (eD E) classes (ws E M) H) (hS : va_S (frE E) (xs x).heap H locs) (hL : lv_has ls (xn x) lv) :
    va_Run (xp x) (xl x) (xe x) (xR x) (xs x) (xm x) (xa x) (xb x) (xM x) (xc x) H locs (xk x) (xz x) 0 0 (F0 (xm x) pc ls (As.reverse ++ .ref (ad E q) :: st)) st (Qc (Value.ref (ad E q) :: As).toArray) (frE E) :=
  va_runV ⟨X.ex, X.cb, X.ml, X.ow, X.hts⟩ hM ⟨callB_of n X.hts (gt_GI hw.1) rfl rfl rfl (X.hts _ hw.2.1) (X.hts _ w1) hw.2.2.2 (X.room hr hw.2.2.1), X.hts _ w2, X.hts _ w3⟩ ⟨(X.pre hP hS).1, X.recv hO hP, (X.pre hP hS).2⟩ rfl hn (hL.1.trans X.nl) rfl (lv_room hW) hd ⟨X.kz.1, X.kz.2⟩
theorem run_VN (X : Cx E x cc nL own hm) {host : String} (hM : ctG E (xl x) y b mL rt hc (.ref (ad E q) :: As) M Qc) (hw : CW y b mL rt n) (w1 : Cond.methodLinkNest own idx y host ∈ tables_1) (w2 : Cond.instanceMethod y ∈ gt) (w3 : Cond.selects C y y ∈ gt) (hO : OC q C) (hr : hc < hm) (hn : As.length = n) (hd : decode cc pc = .ok (.invokevirtual idx, 3)) (hW : (st.map fun v => v.category).sum ≤ 8) {H : Heap} {locs : List Loc} {ls : Array Slot} (hP : va_P (eD E) classes (ws E M) H) (hS : va_S (frE E) (xs x).heap H locs) (hL : lv_has ls (xn x) lv) :
    va_Run (xp x) (xl x) (xe x) (xR x) (xs x) (xm x) (xa x) (xb x) (xM x) (xc x) H locs (xk x) (xz x) 0 0 (F0 (xm x) pc ls (As.reverse ++ .ref (ad E q) :: st)) st (Qc (Value.ref (ad E q) :: As).toArray) (frE E) :=
  va_runVN ⟨X.ex, X.cb, X.ml, X.ow, X.hts⟩ hM ⟨va_cnB n X.hts (gt_GI hw.1) rfl rfl rfl (X.ge.2.1 _ w1 rfl) (X.hts _ hw.2.1) hw.2.2.2 (X.room hr hw.2.2.1), X.hts _ w2, X.hts _ w3⟩ ⟨(X.pre hP hS).1, X.recv hO hP, (X.pre hP hS).2⟩ rfl hn (hL.1.trans X.nl) rfl (lv_room hW) hd ⟨X.kz.1, X.kz.2⟩
theorem run_S (X : Cx E x cc nL own hm) (hM : ctG E (xl x) y b mL rt hc As M Qc) (hw : CW y b mL rt n) (w1 : Cond.methodLink own idx y ∈ gt) (w2 : Cond.static y ∈ gt) (hr : hc < hm) (hn : As.length = n) (hd : decode cc pc = .ok (.invokestatic idx, 3)) (hW : (st.map fun v => v.category).sum ≤ 8) {H : Heap} {locs : List Loc} {ls : Array Slot} (hP : va_P (eD E) classes (ws E M) H) (hS : va_S (frE E) (xs x).heap H locs) (hL : lv_has ls (xn x) lv) :
    va_Run (xp x) (xl x) (xe x) (xR x) (xs x) (xm x) (xa x) (xb x) (xM x) (xc x) H locs (xk x) (xz x) 0 0 (F0 (xm x) pc ls (As.reverse ++ st)) st (Qc As.toArray) (frE E) :=
  va_runS ⟨X.ex, X.cb, X.ml, X.ow, X.hts⟩ hM ⟨callB_of n X.hts (gt_GI hw.1) rfl rfl rfl (X.hts _ hw.2.1) (X.hts _ w1) hw.2.2.2 (X.room hr hw.2.2.1), X.hts _ w2⟩ (X.pre hP hS) rfl hn (hL.1.trans X.nl) rfl (lv_room hW) hd ⟨X.kz.1, X.kz.2⟩
theorem k_I {st0 : List Value} {a : Array Value} {Post : Int32 → Mem → Prop} (hrun : ∀ {H : Heap} {locs : List Loc} {ls : Array Slot}, va_P (eD E) classes (ws E M) H → va_S (frE E) (xs x).heap H locs → lv_has ls (xn x) lv → va_Run (xp x) (xl x) (xe x) (xR x) (xs x) (xm x) (xa x) (xb x) (xM x) (xc x) H locs (xk x) (xz x) 0 0 (F0 (xm x) pc ls st0) st (va_Qi Post (wdP E) (frE E) a) (frE E)) (kk : ∀ r M1, Post r M1 → G E x M1 (pc + 3) lv (.int r :: st)) : G E x M pc lv st0 := fun H locs ls hP hS hL =>
  va_calli (hrun hP hS hL) hS (fun _ _ h => h) (fun _ h => h) (fun r u t H1 locs1 ht hvm hw hB hz1 hk1 hS1 => kk r u hw H1 locs1 ls (by rw [← ht]; exact hB) hS1 hL)
theorem k_L {st0 : List Value} {a : Array Value} {Post : Int64 → Mem → Prop} (hrun : ∀ {H : Heap} {locs : List Loc} {ls : Array Slot}, va_P (eD E) classes (ws E M) H → va_S (frE E) (xs x).heap H locs → lv_has ls (xn x) lv → va_Run (xp x) (xl x) (xe x) (xR x) (xs x) (xm x) (xa x) (xb x) (xM x) (xc x) H locs (xk x) (xz x) 0 0 (F0 (xm x) pc ls st0) st (va_Ql Post (wdP E) (frE E) a) (frE E)) (kk : ∀ r M1, Post r M1 → G E x M1 (pc + 3) lv (.long r :: st)) : G E x M pc lv st0 := fun H locs ls hP hS hL =>
  va_calll (hrun hP hS hL) hS (fun _ _ h => h) (fun _ h => h) (fun r u t H1 locs1 ht hvm hw hB hz1 hk1 hS1 => kk r u hw H1 locs1 ls (by rw [← ht]; exact hB) hS1 hL)
theorem k_V {st0 : List Value} {a : Array Value} {Post : Mem → Prop} (hrun : ∀ {H : Heap} {locs : List Loc} {ls : Array Slot}, va_P (eD E) classes (ws E M) H → va_S (frE E) (xs x).heap H locs → lv_has ls (xn x) lv → va_Run (xp x) (xl x) (xe x) (xR x) (xs x) (xm x) (xa x) (xb x) (xM x) (xc x) H locs (xk x) (xz x) 0 0 (F0 (xm x) pc ls st0) st (va_Qv Post (wdP E) (frE E) a) (frE E)) (kk : ∀ M1, Post M1 → G E x M1 (pc + 3) lv st) : G E x M pc lv st0 := fun H locs ls hP hS hL =>
  va_callv (hrun hP hS hL) hS (fun _ _ h => h) (fun _ h => h) (fun u t H1 locs1 ht hvm hw hB hz1 hk1 hS1 => kk u hw H1 locs1 ls (by rw [← ht]; exact hB) hS1 hL)
end Runs
end HRows
end
section
theorem m0 : Cond.fieldLink RX6 15 "DebtRooms$Page" "length" "I" ∈ gt := gt_t (tb_1 37 rfl) rfl
theorem m1 : Cond.fieldLink RX6 9 "DebtRooms$Page" "letters" "[I" ∈ gt := gt_t (tb_1 35 rfl) rfl
theorem m2 : Cond.code yX6_append cX6_append 2 (some .boolean) ∈ gt := gt_t (tb_2 87 rfl) rfl
theorem m3 : Cond.initialized RX6 ∈ gt := gt_t (tb_1 2 rfl) rfl
theorem m4 : Cond.fieldLink RX11 10 "DebtRooms" "page" "LDebtRooms$Page;" ∈ gt := gt_t (tb_2 49 rfl) rfl
theorem m5 : Cond.methodLinkNest RX11 67 yX6_append "DebtRooms" ∈ tables_1 := tb_2 84 rfl
theorem m6 : Cond.instanceMethod yX6_append ∈ gt := gt_t (tb_2 86 rfl) rfl
theorem m7 : Cond.selects RX6 yX6_append yX6_append ∈ gt := gt_s (pr_s (q := (yX6_append, 11)) (List.mem_of_getElem? (i := 0) rfl)) rfl
theorem m8 : Cond.fieldLinkNest RX11 71 "DebtRooms$Page" "length" "I" "DebtRooms" ∈ tables_1 := tb_1 38 rfl
theorem m9 : Cond.code yX11_letter cX11_letter 2 (some .int) ∈ gt := gt_t (tb_2 83 rfl) rfl
theorem m10 : Cond.initialized RX11 ∈ gt := gt_t (tb_1 1 rfl) rfl
theorem m11 : Cond.code yX11_blank cX11_blank 2 (some .int) ∈ gt := gt_t (tb_2 91 rfl) rfl
theorem m12 : Cond.fieldLink RX6 22 "DebtRooms$Page" "field" "I" ∈ gt := gt_t (tb_1 44 rfl) rfl
theorem m13 : Cond.code yX6_takesIf cX6_takesIf 2 (some .boolean) ∈ gt := gt_t (tb_2 111 rfl) rfl
theorem m14 : Cond.fieldLink RX6 19 "DebtRooms$Page" "part" "I" ∈ gt := gt_t (tb_1 43 rfl) rfl
theorem m15 : Cond.code yX6_opens cX6_opens 2 (some .boolean) ∈ gt := gt_t (tb_2 115 rfl) rfl
theorem m16 : Cond.methodLink RX6 67 yX6_opens ∈ gt := gt_t (tb_2 112 rfl) rfl
theorem m17 : Cond.instanceMethod yX6_opens ∈ gt := gt_t (tb_2 114 rfl) rfl
theorem m18 : Cond.selects RX6 yX6_opens yX6_opens ∈ gt := gt_s (pr_s (q := (yX6_opens, 11)) (List.mem_of_getElem? (i := 5) rfl)) rfl
theorem m19 : Cond.fieldLink RX6 28 "DebtRooms$Page" "rooms" "I" ∈ gt := gt_t (tb_1 46 rfl) rfl
theorem m20 : Cond.methodLink RX6 63 yX6_takesIf ∈ gt := gt_t (tb_2 108 rfl) rfl
theorem m21 : Cond.instanceMethod yX6_takesIf ∈ gt := gt_t (tb_2 110 rfl) rfl
theorem m22 : Cond.selects RX6 yX6_takesIf yX6_takesIf ∈ gt := gt_s (pr_s (q := (yX6_takesIf, 11)) (List.mem_of_getElem? (i := 4) rfl)) rfl
theorem m23 : Cond.code yX6_takesInRooms cX6_takesInRooms 2 (some .boolean) ∈ gt := gt_t (tb_2 107 rfl) rfl
theorem m24 : Cond.code yX6_isDigitBelow cX6_isDigitBelow 2 (some .boolean) ∈ gt := gt_t (tb_2 126 rfl) rfl
theorem m25 : Cond.fieldLink RX6 25 "DebtRooms$Page" "first" "I" ∈ gt := gt_t (tb_1 45 rfl) rfl
theorem m26 : Cond.methodLink RX6 88 yX6_isDigitBelow ∈ gt := gt_t (tb_2 124 rfl) rfl
theorem m27 : Cond.static yX6_isDigitBelow ∈ gt := gt_t (tb_2 125 rfl) rfl
theorem m28 : Cond.code yX6_takesFirst cX6_takesFirst 3 (some .boolean) ∈ gt := gt_t (tb_2 123 rfl) rfl
theorem m29 : Cond.code yX6_takesOther cX6_takesOther 3 (some .boolean) ∈ gt := gt_t (tb_2 130 rfl) rfl
theorem m30 : Cond.fieldLink RX6 34 "DebtRooms$Page" "people" "I" ∈ gt := gt_t (tb_1 48 rfl) rfl
theorem m31 : Cond.methodLink RX6 71 yX6_takesFirst ∈ gt := gt_t (tb_2 120 rfl) rfl
theorem m32 : Cond.instanceMethod yX6_takesFirst ∈ gt := gt_t (tb_2 122 rfl) rfl
theorem m33 : Cond.selects RX6 yX6_takesFirst yX6_takesFirst ∈ gt := gt_s (pr_s (q := (yX6_takesFirst, 11)) (List.mem_of_getElem? (i := 7) rfl)) rfl
theorem m34 : Cond.methodLink RX6 75 yX6_takesOther ∈ gt := gt_t (tb_2 127 rfl) rfl
theorem m35 : Cond.instanceMethod yX6_takesOther ∈ gt := gt_t (tb_2 129 rfl) rfl
theorem m36 : Cond.selects RX6 yX6_takesOther yX6_takesOther ∈ gt := gt_s (pr_s (q := (yX6_takesOther, 11)) (List.mem_of_getElem? (i := 8) rfl)) rfl
theorem m37 : Cond.fieldLink RX6 37 "DebtRooms$Page" "debts" "I" ∈ gt := gt_t (tb_1 49 rfl) rfl
theorem m38 : Cond.code yX6_takesInDebts cX6_takesInDebts 2 (some .boolean) ∈ gt := gt_t (tb_2 226 rfl) rfl
theorem m39 : Cond.code yX6_digitAt cX6_digitAt 2 (some .int) ∈ gt := gt_t (tb_2 239 rfl) rfl
theorem m40 : Cond.fieldLink RX6 31 "DebtRooms$Page" "doors" "I" ∈ gt := gt_t (tb_1 47 rfl) rfl
theorem m41 : Cond.code yX6_peopleAt cX6_peopleAt 1 (some .int) ∈ gt := gt_t (tb_3 7 rfl) rfl
theorem m42 : Cond.methodLink RX6 91 yX6_peopleAt ∈ gt := gt_t (tb_3 4 rfl) rfl
theorem m43 : Cond.instanceMethod yX6_peopleAt ∈ gt := gt_t (tb_3 6 rfl) rfl
theorem m44 : Cond.selects RX6 yX6_peopleAt yX6_peopleAt ∈ gt := gt_s (pr_s (q := (yX6_peopleAt, 11)) (List.mem_of_getElem? (i := 14) rfl)) rfl
theorem m45 : Cond.code yX6_debtsAt cX6_debtsAt 1 (some .int) ∈ gt := gt_t (tb_3 42 rfl) rfl
theorem m46 : Cond.fieldLinkNest RX6 137 "DebtRooms$Affairs" "purse" "[I" "DebtRooms" ∈ tables_1 := tb_1 166 rfl
theorem m47 : Cond.methodLink RX6 104 yX6_digitAt ∈ gt := gt_t (tb_2 236 rfl) rfl
theorem m48 : Cond.instanceMethod yX6_digitAt ∈ gt := gt_t (tb_2 238 rfl) rfl
theorem m49 : Cond.selects RX6 yX6_digitAt yX6_digitAt ∈ gt := gt_s (pr_s (q := (yX6_digitAt, 11)) (List.mem_of_getElem? (i := 12) rfl)) rfl
theorem m50 : Cond.fieldLinkNest RX6 142 "DebtRooms$Affairs" "room" "[I" "DebtRooms" ∈ tables_1 := tb_1 170 rfl
theorem m51 : Cond.fieldLinkNest RX6 145 "DebtRooms$Affairs" "sum" "[I" "DebtRooms" ∈ tables_1 := tb_1 177 rfl
theorem m52 : Cond.methodLink RX6 125 yX6_debtsAt ∈ gt := gt_t (tb_3 39 rfl) rfl
theorem m53 : Cond.instanceMethod yX6_debtsAt ∈ gt := gt_t (tb_3 41 rfl) rfl
theorem m54 : Cond.selects RX6 yX6_debtsAt yX6_debtsAt ∈ gt := gt_s (pr_s (q := (yX6_debtsAt, 11)) (List.mem_of_getElem? (i := 15) rfl)) rfl
theorem m55 : Cond.fieldLinkNest RX6 148 "DebtRooms$Affairs" "paid" "[Z" "DebtRooms" ∈ tables_1 := tb_1 181 rfl
theorem m56 : Cond.fieldLinkNest RX6 155 "DebtRooms$Affairs" "gone" "I" "DebtRooms" ∈ tables_1 := tb_1 191 rfl
theorem m57 : Cond.fieldLinkNest RX6 158 "DebtRooms$Affairs" "seen" "I" "DebtRooms" ∈ tables_1 := tb_1 187 rfl
theorem m58 : Cond.fieldLinkNest RX6 152 "DebtRooms$Affairs" "holder" "[I" "DebtRooms" ∈ tables_1 := tb_1 173 rfl
theorem m59 : Cond.code yX6_readAffairs cX6_readAffairs 4 none ∈ gt := gt_t (tb_3 46 rfl) rfl
theorem m60 : Cond.fieldLink RX11 19 "DebtRooms" "plan" "LDebtRooms$House;" ∈ gt := gt_t (tb_2 50 rfl) rfl
theorem m61 : Cond.fieldLinkNest RX11 90 "DebtRooms$House" "people" "I" "DebtRooms" ∈ tables_1 := tb_1 96 rfl
theorem m62 : Cond.code yX11_isNobody cX11_isNobody 2 (some .boolean) ∈ gt := gt_t (tb_3 54 rfl) rfl
theorem m63 : Cond.code yX1_number cX1_number 1 (some .int) ∈ gt := gt_t (tb_3 61 rfl) rfl
theorem m64 : Cond.initialized RX1 ∈ gt := gt_t (tb_1 17 rfl) rfl
theorem m65 : Cond.code yX2_number cX2_number 1 (some .int) ∈ gt := gt_t (tb_3 64 rfl) rfl
theorem m66 : Cond.initialized RX2 ∈ gt := gt_t (tb_1 19 rfl) rfl
theorem m67 : Cond.code yX3_number cX3_number 1 (some .int) ∈ gt := gt_t (tb_3 67 rfl) rfl
theorem m68 : Cond.initialized RX3 ∈ gt := gt_t (tb_1 18 rfl) rfl
theorem m69 : Cond.code yX7_number cX7_number 1 (some .int) ∈ gt := gt_t (tb_3 71 rfl) rfl
theorem m70 : Cond.initialized RX7 ∈ gt := gt_t (tb_1 4 rfl) rfl
theorem m71 : Cond.code yX8_number cX8_number 1 (some .int) ∈ gt := gt_t (tb_3 70 rfl) rfl
theorem m72 : Cond.initialized RX8 ∈ gt := gt_t (tb_1 16 rfl) rfl
theorem m73 : Cond.fieldLink RX0 18 "DebtRooms$Affairs" "holder" "[I" ∈ gt := gt_t (tb_1 171 rfl) rfl
theorem m74 : Cond.code yX0_keyBits cX0_keyBits 4 (some .int) ∈ gt := gt_t (tb_3 75 rfl) rfl
theorem m75 : Cond.initialized RX0 ∈ gt := gt_t (tb_1 5 rfl) rfl
theorem m76 : Cond.fieldLink RX4 9 "DebtRooms$House" "oneEnd" "[I" ∈ gt := gt_t (tb_1 103 rfl) rfl
theorem m77 : Cond.fieldLink RX4 15 "DebtRooms$House" "otherEnd" "[I" ∈ gt := gt_t (tb_1 107 rfl) rfl
theorem m78 : Cond.code yX4_doorEndsAt cX4_doorEndsAt 3 (some .boolean) ∈ gt := gt_t (tb_3 87 rfl) rfl
theorem m79 : Cond.initialized RX4 ∈ gt := gt_t (tb_1 3 rfl) rfl
theorem m80 : Cond.code yX1_passes cX1_passes 3 (some .boolean) ∈ gt := gt_t (tb_3 98 rfl) rfl
theorem m81 : Cond.code yX7_passes cX7_passes 3 (some .boolean) ∈ gt := gt_t (tb_3 104 rfl) rfl
theorem m82 : Cond.code yX8_passes cX8_passes 3 (some .boolean) ∈ gt := gt_t (tb_3 101 rfl) rfl
theorem m83 : Cond.fieldLink RX0 34 "DebtRooms$Affairs" "plan" "LDebtRooms$House;" ∈ gt := gt_t (tb_1 163 rfl) rfl
theorem m84 : Cond.fieldLinkNest RX0 45 "DebtRooms$House" "lock" "[I" "DebtRooms" ∈ tables_1 := tb_1 112 rfl
theorem m85 : Cond.fieldLinkNest RX0 50 "DebtRooms$House" "kinds" "[LDebtRooms$Person;" "DebtRooms" ∈ tables_1 := tb_1 116 rfl
theorem m86 : Cond.code yX0_mayPass cX0_mayPass 6 (some .boolean) ∈ gt := gt_t (tb_3 91 rfl) rfl
theorem m87 : Cond.fieldLink RX0 15 "DebtRooms$Affairs" "room" "[I" ∈ gt := gt_t (tb_1 167 rfl) rfl
theorem m88 : Cond.methodLinkNest RX0 60 yX4_doorEndsAt "DebtRooms" ∈ tables_1 := tb_3 84 rfl
theorem m89 : Cond.instanceMethod yX4_doorEndsAt ∈ gt := gt_t (tb_3 86 rfl) rfl
theorem m90 : Cond.selects RX4 yX4_doorEndsAt yX4_doorEndsAt ∈ gt := gt_s (pr_s (q := (yX4_doorEndsAt, 11)) (List.mem_of_getElem? (i := 21) rfl)) rfl
theorem m91 : Cond.methodLink RX0 64 yX0_mayPass ∈ gt := gt_t (tb_3 88 rfl) rfl
theorem m92 : Cond.instanceMethod yX0_mayPass ∈ gt := gt_t (tb_3 90 rfl) rfl
theorem m93 : Cond.selects RX0 yX0_mayPass yX0_mayPass ∈ gt := gt_s (pr_s (q := (yX0_mayPass, 10)) (List.mem_of_getElem? (i := 22) rfl)) rfl
theorem m94 : Cond.code yX0_mayGo cX0_mayGo 3 (some .boolean) ∈ gt := gt_t (tb_3 83 rfl) rfl
theorem m95 : Cond.fieldLinkNest RX0 118 "DebtRooms$House" "doors" "I" "DebtRooms" ∈ tables_1 := tb_1 93 rfl
theorem m96 : Cond.methodLink RX0 121 yX0_mayGo ∈ gt := gt_t (tb_3 80 rfl) rfl
theorem m97 : Cond.instanceMethod yX0_mayGo ∈ gt := gt_t (tb_3 82 rfl) rfl
theorem m98 : Cond.selects RX0 yX0_mayGo yX0_mayGo ∈ gt := gt_s (pr_s (q := (yX0_mayGo, 10)) (List.mem_of_getElem? (i := 20) rfl)) rfl
theorem m99 : Cond.code yX0_doorBits cX0_doorBits 4 (some .int) ∈ gt := gt_t (tb_3 79 rfl) rfl
theorem m100 : Cond.code yX2_costOfSum cX2_costOfSum 2 (some .int) ∈ gt := gt_t (tb_3 124 rfl) rfl
theorem m101 : Cond.code yX7_costOfSum cX7_costOfSum 2 (some .int) ∈ gt := gt_t (tb_3 129 rfl) rfl
theorem m102 : Cond.code yX8_costOfSum cX8_costOfSum 2 (some .int) ∈ gt := gt_t (tb_3 128 rfl) rfl
theorem m103 : Cond.fieldLinkNest RX0 71 "DebtRooms$House" "debtor" "[I" "DebtRooms" ∈ tables_1 := tb_1 121 rfl
theorem m104 : Cond.fieldLink RX0 21 "DebtRooms$Affairs" "sum" "[I" ∈ gt := gt_t (tb_1 174 rfl) rfl
theorem m105 : Cond.code yX0_costOf cX0_costOf 2 (some .int) ∈ gt := gt_t (tb_3 116 rfl) rfl
theorem m106 : Cond.code yX3_mayPayFrom cX3_mayPayFrom 3 (some .boolean) ∈ gt := gt_t (tb_3 140 rfl) rfl
theorem m107 : Cond.code yX7_mayPayFrom cX7_mayPayFrom 3 (some .boolean) ∈ gt := gt_t (tb_3 142 rfl) rfl
theorem m108 : Cond.code yX8_mayPayFrom cX8_mayPayFrom 3 (some .boolean) ∈ gt := gt_t (tb_3 137 rfl) rfl
theorem m109 : Cond.fieldLink RX0 24 "DebtRooms$Affairs" "paid" "[Z" ∈ gt := gt_t (tb_1 178 rfl) rfl
theorem m110 : Cond.fieldLink RX0 9 "DebtRooms$Affairs" "purse" "[I" ∈ gt := gt_t (tb_1 164 rfl) rfl
theorem m111 : Cond.methodLink RX0 78 yX0_costOf ∈ gt := gt_t (tb_3 113 rfl) rfl
theorem m112 : Cond.instanceMethod yX0_costOf ∈ gt := gt_t (tb_3 115 rfl) rfl
theorem m113 : Cond.selects RX0 yX0_costOf yX0_costOf ∈ gt := gt_s (pr_s (q := (yX0_costOf, 10)) (List.mem_of_getElem? (i := 25) rfl)) rfl
theorem m114 : Cond.fieldLinkNest RX0 81 "DebtRooms$House" "debtRoom" "[I" "DebtRooms" ∈ tables_1 := tb_1 131 rfl
theorem m115 : Cond.fieldLinkNest RX0 84 "DebtRooms$House" "creditor" "[I" "DebtRooms" ∈ tables_1 := tb_1 126 rfl
theorem m116 : Cond.code yX0_mayPay cX0_mayPay 4 (some .boolean) ∈ gt := gt_t (tb_3 112 rfl) rfl
theorem m117 : Cond.fieldLinkNest RX0 95 "DebtRooms$House" "debts" "I" "DebtRooms" ∈ tables_1 := tb_1 100 rfl
theorem m118 : Cond.methodLink RX0 98 yX0_mayPay ∈ gt := gt_t (tb_3 109 rfl) rfl
theorem m119 : Cond.instanceMethod yX0_mayPay ∈ gt := gt_t (tb_3 111 rfl) rfl
theorem m120 : Cond.selects RX0 yX0_mayPay yX0_mayPay ∈ gt := gt_s (pr_s (q := (yX0_mayPay, 10)) (List.mem_of_getElem? (i := 24) rfl)) rfl
theorem m121 : Cond.code yX0_payableBits cX0_payableBits 4 (some .int) ∈ gt := gt_t (tb_3 108 rfl) rfl
theorem m122 : Cond.code yX0_standing cX0_standing 4 (some .int) ∈ gt := gt_t (tb_3 146 rfl) rfl
theorem m123 : Cond.code yX0_tooPoorBits cX0_tooPoorBits 2 (some .int) ∈ gt := gt_t (tb_3 154 rfl) rfl
theorem m124 : Cond.fieldLink RX0 38 "DebtRooms$Affairs" "seen" "I" ∈ gt := gt_t (tb_1 186 rfl) rfl
theorem m125 : Cond.fieldLink RX0 28 "DebtRooms$Affairs" "seenDebt" "[I" ∈ gt := gt_t (tb_1 182 rfl) rfl
theorem m126 : Cond.fieldLink RX0 31 "DebtRooms$Affairs" "seenCould" "[Z" ∈ gt := gt_t (tb_1 184 rfl) rfl
theorem m127 : Cond.methodLink RX0 124 yX0_tooPoorBits ∈ gt := gt_t (tb_3 151 rfl) rfl
theorem m128 : Cond.instanceMethod yX0_tooPoorBits ∈ gt := gt_t (tb_3 153 rfl) rfl
theorem m129 : Cond.selects RX0 yX0_tooPoorBits yX0_tooPoorBits ∈ gt := gt_s (pr_s (q := (yX0_tooPoorBits, 10)) (List.mem_of_getElem? (i := 28) rfl)) rfl
theorem m130 : Cond.code yX0_purseBits cX0_purseBits 5 (some .int) ∈ gt := gt_t (tb_3 150 rfl) rfl
theorem m131 : Cond.constant RJ6 265 (1431655765) ∈ gt := gt_t (tb_3 163 rfl) rfl
theorem m132 : Cond.constant RJ6 266 (858993459) ∈ gt := gt_t (tb_3 164 rfl) rfl
theorem m133 : Cond.constant RJ6 267 (252645135) ∈ gt := gt_t (tb_3 165 rfl) rfl
theorem m134 : Cond.code yJ6_bitCount_0f7a4 cJ6_bitCount_0f7a4 1 (some .int) ∈ gt := gt_t (tb_3 162 rfl) rfl
theorem m135 : Cond.initialized RJ6 ∈ gt := gt_t (tb_1 20 rfl) rfl
theorem m136 : Cond.methodLink RX0 127 yX0_purseBits ∈ gt := gt_t (tb_3 159 rfl) rfl
theorem m137 : Cond.instanceMethod yX0_purseBits ∈ gt := gt_t (tb_3 149 rfl) rfl
theorem m138 : Cond.selects RX0 yX0_purseBits yX0_purseBits ∈ gt := gt_s (pr_s (q := (yX0_purseBits, 10)) (List.mem_of_getElem? (i := 27) rfl)) rfl
theorem m139 : Cond.methodLink RX0 130 yJ6_bitCount_0f7a4 ∈ gt := gt_t (tb_3 160 rfl) rfl
theorem m140 : Cond.static yJ6_bitCount_0f7a4 ∈ gt := gt_t (tb_3 161 rfl) rfl
theorem ma141 : Cond.methodLink RX0 135 Lib.Math.max.name ∈ gt := gt_t (tb_3 166 (by decide +kernel)) rfl
theorem ma142 : Cond.static Lib.Math.max.name ∈ gt := gt_t (tb_2 161 (by decide +kernel)) rfl
theorem ma143 : Cond.code Lib.Math.max.name Lib.Math.max.code 2 (some .int) ∈ gt := gt_t (tb_2 162 (by decide +kernel)) rfl
theorem ma144 : Cond.initialized "java/lang/Math" ∈ gt := gt_t (tb_1 12 (by decide +kernel)) rfl
theorem m145 : Cond.code yX0_debtToPress cX0_debtToPress 8 (some .int) ∈ gt := gt_t (tb_3 158 rfl) rfl
theorem m146 : Cond.methodLink RX11 93 yX11_isNobody ∈ gt := gt_t (tb_3 51 rfl) rfl
theorem m147 : Cond.instanceMethod yX11_isNobody ∈ gt := gt_t (tb_3 53 rfl) rfl
theorem m148 : Cond.selects RX11 yX11_isNobody yX11_isNobody ∈ gt := gt_s (pr_s (q := (yX11_isNobody, 10)) (List.mem_of_getElem? (i := 17) rfl)) rfl
theorem m149 : Cond.fieldLinkNest RX11 96 "DebtRooms$House" "kinds" "[LDebtRooms$Person;" "DebtRooms" ∈ tables_1 := tb_1 117 rfl
theorem m150 : Cond.fieldLink RX11 28 "DebtRooms" "now" "LDebtRooms$Affairs;" ∈ gt := gt_t (tb_2 51 rfl) rfl
theorem m151 : Cond.fieldLinkNest RX11 106 "DebtRooms$Affairs" "purse" "[I" "DebtRooms" ∈ tables_1 := tb_1 165 rfl
theorem m152 : Cond.fieldLinkNest RX11 110 "DebtRooms$Affairs" "room" "[I" "DebtRooms" ∈ tables_1 := tb_1 169 rfl
theorem m153 : Cond.methodLinkNest RX11 113 yX0_keyBits "DebtRooms" ∈ tables_1 := tb_3 72 rfl
theorem m154 : Cond.instanceMethod yX0_keyBits ∈ gt := gt_t (tb_3 74 rfl) rfl
theorem m155 : Cond.selects RX0 yX0_keyBits yX0_keyBits ∈ gt := gt_s (pr_s (q := (yX0_keyBits, 10)) (List.mem_of_getElem? (i := 18) rfl)) rfl
theorem m156 : Cond.methodLinkNest RX11 117 yX0_doorBits "DebtRooms" ∈ tables_1 := tb_3 76 rfl
theorem m157 : Cond.instanceMethod yX0_doorBits ∈ gt := gt_t (tb_3 78 rfl) rfl
theorem m158 : Cond.selects RX0 yX0_doorBits yX0_doorBits ∈ gt := gt_s (pr_s (q := (yX0_doorBits, 10)) (List.mem_of_getElem? (i := 19) rfl)) rfl
theorem m159 : Cond.methodLinkNest RX11 120 yX0_payableBits "DebtRooms" ∈ tables_1 := tb_3 105 rfl
theorem m160 : Cond.instanceMethod yX0_payableBits ∈ gt := gt_t (tb_3 107 rfl) rfl
theorem m161 : Cond.selects RX0 yX0_payableBits yX0_payableBits ∈ gt := gt_s (pr_s (q := (yX0_payableBits, 10)) (List.mem_of_getElem? (i := 23) rfl)) rfl
theorem m162 : Cond.methodLinkNest RX11 123 yX0_standing "DebtRooms" ∈ tables_1 := tb_3 143 rfl
theorem m163 : Cond.instanceMethod yX0_standing ∈ gt := gt_t (tb_3 145 rfl) rfl
theorem m164 : Cond.selects RX0 yX0_standing yX0_standing ∈ gt := gt_s (pr_s (q := (yX0_standing, 10)) (List.mem_of_getElem? (i := 26) rfl)) rfl
theorem m165 : Cond.methodLinkNest RX11 126 yX0_purseBits "DebtRooms" ∈ tables_1 := tb_3 147 rfl
theorem m166 : Cond.methodLinkNest RX11 129 yX0_debtToPress "DebtRooms" ∈ tables_1 := tb_3 155 rfl
theorem m167 : Cond.instanceMethod yX0_debtToPress ∈ gt := gt_t (tb_3 157 rfl) rfl
theorem m168 : Cond.selects RX0 yX0_debtToPress yX0_debtToPress ∈ gt := gt_s (pr_s (q := (yX0_debtToPress, 10)) (List.mem_of_getElem? (i := 29) rfl)) rfl
theorem m169 : Cond.code yX11_person cX11_person 3 (some .int) ∈ gt := gt_t (tb_3 50 rfl) rfl
theorem m170 : Cond.fieldLink RX4 23 "DebtRooms$House" "kinds" "[LDebtRooms$Person;" ∈ gt := gt_t (tb_1 115 rfl) rfl
theorem m171 : Cond.code yX4_isOfKind cX4_isOfKind 4 (some .boolean) ∈ gt := gt_t (tb_3 174 rfl) rfl
theorem m172 : Cond.methodLinkNest RX11 132 yX4_isOfKind "DebtRooms" ∈ tables_1 := tb_3 171 rfl
theorem m173 : Cond.instanceMethod yX4_isOfKind ∈ gt := gt_t (tb_3 173 rfl) rfl
theorem m174 : Cond.selects RX4 yX4_isOfKind yX4_isOfKind ∈ gt := gt_s (pr_s (q := (yX4_isOfKind, 11)) (List.mem_of_getElem? (i := 30) rfl)) rfl
theorem m175 : Cond.code yX11_as cX11_as 3 (some .int) ∈ gt := gt_t (tb_3 170 rfl) rfl
theorem m176 : Cond.fieldLinkNest RX11 241 "DebtRooms$House" "doors" "I" "DebtRooms" ∈ tables_1 := tb_1 95 rfl
theorem m177 : Cond.code yX11_isNoDoor cX11_isNoDoor 2 (some .boolean) ∈ gt := gt_t (tb_3 182 rfl) rfl
theorem m178 : Cond.methodLink RX11 136 yX11_isNoDoor ∈ gt := gt_t (tb_3 179 rfl) rfl
theorem m179 : Cond.instanceMethod yX11_isNoDoor ∈ gt := gt_t (tb_3 181 rfl) rfl
theorem m180 : Cond.selects RX11 yX11_isNoDoor yX11_isNoDoor ∈ gt := gt_s (pr_s (q := (yX11_isNoDoor, 10)) (List.mem_of_getElem? (i := 31) rfl)) rfl
theorem m181 : Cond.fieldLinkNest RX11 139 "DebtRooms$House" "oneEnd" "[I" "DebtRooms" ∈ tables_1 := tb_1 105 rfl
theorem m182 : Cond.fieldLinkNest RX11 142 "DebtRooms$House" "otherEnd" "[I" "DebtRooms" ∈ tables_1 := tb_1 109 rfl
theorem m183 : Cond.fieldLinkNest RX11 145 "DebtRooms$House" "lock" "[I" "DebtRooms" ∈ tables_1 := tb_1 113 rfl
theorem m184 : Cond.code yX11_door cX11_door 3 (some .int) ∈ gt := gt_t (tb_3 178 rfl) rfl
theorem m185 : Cond.fieldLinkNest RX11 258 "DebtRooms$House" "debts" "I" "DebtRooms" ∈ tables_1 := tb_1 102 rfl
theorem m186 : Cond.code yX11_isNoDebt cX11_isNoDebt 2 (some .boolean) ∈ gt := gt_t (tb_3 190 rfl) rfl
theorem m187 : Cond.methodLink RX11 148 yX11_isNoDebt ∈ gt := gt_t (tb_3 187 rfl) rfl
theorem m188 : Cond.instanceMethod yX11_isNoDebt ∈ gt := gt_t (tb_3 189 rfl) rfl
theorem m189 : Cond.selects RX11 yX11_isNoDebt yX11_isNoDebt ∈ gt := gt_s (pr_s (q := (yX11_isNoDebt, 10)) (List.mem_of_getElem? (i := 32) rfl)) rfl
theorem m190 : Cond.fieldLinkNest RX11 151 "DebtRooms$House" "debtor" "[I" "DebtRooms" ∈ tables_1 := tb_1 122 rfl
theorem m191 : Cond.fieldLinkNest RX11 154 "DebtRooms$House" "creditor" "[I" "DebtRooms" ∈ tables_1 := tb_1 127 rfl
theorem m192 : Cond.fieldLinkNest RX11 157 "DebtRooms$House" "debtRoom" "[I" "DebtRooms" ∈ tables_1 := tb_1 132 rfl
theorem m193 : Cond.fieldLinkNest RX11 160 "DebtRooms$Affairs" "sum" "[I" "DebtRooms" ∈ tables_1 := tb_1 176 rfl
theorem m194 : Cond.methodLinkNest RX11 163 yX0_costOf "DebtRooms" ∈ tables_1 := tb_3 191 rfl
theorem m195 : Cond.fieldLinkNest RX11 166 "DebtRooms$Affairs" "paid" "[Z" "DebtRooms" ∈ tables_1 := tb_1 180 rfl
theorem m196 : Cond.code yX11_debt cX11_debt 3 (some .int) ∈ gt := gt_t (tb_3 186 rfl) rfl
theorem m197 : Cond.code yX4_roomBeyond cX4_roomBeyond 3 (some .int) ∈ gt := gt_t (tb_3 204 rfl) rfl
theorem m198 : Cond.methodLinkNest RX0 67 yX4_roomBeyond "DebtRooms" ∈ tables_1 := tb_3 201 rfl
theorem m199 : Cond.instanceMethod yX4_roomBeyond ∈ gt := gt_t (tb_3 203 rfl) rfl
theorem m200 : Cond.selects RX4 yX4_roomBeyond yX4_roomBeyond ∈ gt := gt_s (pr_s (q := (yX4_roomBeyond, 11)) (List.mem_of_getElem? (i := 34) rfl)) rfl
theorem m201 : Cond.fieldLink RX0 42 "DebtRooms$Affairs" "gone" "I" ∈ gt := gt_t (tb_1 189 rfl) rfl
theorem m202 : Cond.code yX0_goThrough cX0_goThrough 3 none ∈ gt := gt_t (tb_3 200 rfl) rfl
theorem m203 : Cond.methodLinkNest RX11 170 yX0_mayGo "DebtRooms" ∈ tables_1 := tb_3 196 rfl
theorem m204 : Cond.fieldLinkNest RX11 173 "DebtRooms$Affairs" "gone" "I" "DebtRooms" ∈ tables_1 := tb_1 190 rfl
theorem m205 : Cond.methodLinkNest RX11 176 yX0_goThrough "DebtRooms" ∈ tables_1 := tb_3 197 rfl
theorem m206 : Cond.instanceMethod yX0_goThrough ∈ gt := gt_t (tb_3 199 rfl) rfl
theorem m207 : Cond.selects RX0 yX0_goThrough yX0_goThrough ∈ gt := gt_s (pr_s (q := (yX0_goThrough, 10)) (List.mem_of_getElem? (i := 33) rfl)) rfl
theorem m208 : Cond.code yX11_go cX11_go 3 (some .int) ∈ gt := gt_t (tb_3 195 rfl) rfl
theorem m209 : Cond.fieldLinkNest RX11 180 "DebtRooms$Affairs" "holder" "[I" "DebtRooms" ∈ tables_1 := tb_1 172 rfl
theorem m210 : Cond.code yX11_give cX11_give 4 (some .int) ∈ gt := gt_t (tb_3 208 rfl) rfl
theorem ma211 : Cond.methodLink RX0 90 Lib.Math.min.name ∈ gt := gt_t (tb_3 218 (by decide +kernel)) rfl
theorem ma212 : Cond.static Lib.Math.min.name ∈ gt := gt_t (tb_2 164 (by decide +kernel)) rfl
theorem ma213 : Cond.code Lib.Math.min.name Lib.Math.min.code 2 (some .int) ∈ gt := gt_t (tb_2 165 (by decide +kernel)) rfl
theorem ma214 : Cond.initialized "java/lang/Math" ∈ gt := gt_t (tb_1 12 (by decide +kernel)) rfl
theorem m215 : Cond.code yX0_settle cX0_settle 3 none ∈ gt := gt_t (tb_3 217 rfl) rfl
theorem m216 : Cond.methodLinkNest RX11 183 yX0_mayPay "DebtRooms" ∈ tables_1 := tb_3 213 rfl
theorem m217 : Cond.methodLinkNest RX11 186 yX0_settle "DebtRooms" ∈ tables_1 := tb_3 214 rfl
theorem m218 : Cond.instanceMethod yX0_settle ∈ gt := gt_t (tb_3 216 rfl) rfl
theorem m219 : Cond.selects RX0 yX0_settle yX0_settle ∈ gt := gt_s (pr_s (q := (yX0_settle, 10)) (List.mem_of_getElem? (i := 35) rfl)) rfl
theorem m220 : Cond.code yX11_pay cX11_pay 2 (some .int) ∈ gt := gt_t (tb_3 212 rfl) rfl
theorem m221 : Cond.code yX11_earn cX11_earn 3 (some .int) ∈ gt := gt_t (tb_3 222 rfl) rfl
theorem m222 : Cond.code yX11_owe cX11_owe 4 (some .int) ∈ gt := gt_t (tb_3 226 rfl) rfl
theorem m223 : Cond.fieldLinkNest RX11 255 "DebtRooms$House" "rooms" "I" "DebtRooms" ∈ tables_1 := tb_1 90 rfl
theorem m224 : Cond.code yX11_isNoRoom cX11_isNoRoom 2 (some .boolean) ∈ gt := gt_t (tb_3 234 rfl) rfl
theorem m225 : Cond.fieldLink RX10 9 "DebtRooms$Walks" "far" "[I" ∈ gt := gt_t (tb_1 221 rfl) rfl
theorem m226 : Cond.code yX10_shorten cX10_shorten 3 none ∈ gt := gt_t (tb_4 7 rfl) rfl
theorem m227 : Cond.initialized RX10 ∈ gt := gt_t (tb_1 6 rfl) rfl
theorem m228 : Cond.fieldLink RX10 21 "DebtRooms$Walks" "plan" "LDebtRooms$House;" ∈ gt := gt_t (tb_1 220 rfl) rfl
theorem m229 : Cond.fieldLinkNest RX10 44 "DebtRooms$House" "rooms" "I" "DebtRooms" ∈ tables_1 := tb_1 88 rfl
theorem m230 : Cond.fieldLinkNest RX10 48 "DebtRooms$House" "doors" "I" "DebtRooms" ∈ tables_1 := tb_1 91 rfl
theorem m231 : Cond.methodLinkNest RX10 51 yX0_mayPass "DebtRooms" ∈ tables_1 := tb_4 3 rfl
theorem m232 : Cond.fieldLinkNest RX10 55 "DebtRooms$House" "oneEnd" "[I" "DebtRooms" ∈ tables_1 := tb_1 104 rfl
theorem m233 : Cond.fieldLinkNest RX10 58 "DebtRooms$House" "otherEnd" "[I" "DebtRooms" ∈ tables_1 := tb_1 108 rfl
theorem m234 : Cond.methodLink RX10 61 yX10_shorten ∈ gt := gt_t (tb_4 4 rfl) rfl
theorem m235 : Cond.instanceMethod yX10_shorten ∈ gt := gt_t (tb_4 6 rfl) rfl
theorem m236 : Cond.selects RX10 yX10_shorten yX10_shorten ∈ gt := gt_s (pr_s (q := (yX10_shorten, 4)) (List.mem_of_getElem? (i := 39) rfl)) rfl
theorem m237 : Cond.code yX10_measure cX10_measure 6 none ∈ gt := gt_t (tb_4 2 rfl) rfl
theorem m238 : Cond.methodLink RX10 25 yX10_measure ∈ gt := gt_t (tb_3 239 rfl) rfl
theorem m239 : Cond.instanceMethod yX10_measure ∈ gt := gt_t (tb_4 1 rfl) rfl
theorem m240 : Cond.selects RX10 yX10_measure yX10_measure ∈ gt := gt_s (pr_s (q := (yX10_measure, 4)) (List.mem_of_getElem? (i := 38) rfl)) rfl
theorem m241 : Cond.fieldLinkNest RX10 29 "DebtRooms$Affairs" "room" "[I" "DebtRooms" ∈ tables_1 := tb_1 168 rfl
theorem m242 : Cond.code yX10_wayLength cX10_wayLength 4 (some .int) ∈ gt := gt_t (tb_3 238 rfl) rfl
theorem m243 : Cond.methodLinkNest RX10 65 yX4_doorEndsAt "DebtRooms" ∈ tables_1 := tb_4 16 rfl
theorem m244 : Cond.methodLinkNest RX10 38 yX4_roomBeyond "DebtRooms" ∈ tables_1 := tb_4 17 rfl
theorem m245 : Cond.code yX10_doorNearer cX10_doorNearer 5 (some .int) ∈ gt := gt_t (tb_4 15 rfl) rfl
theorem m246 : Cond.methodLink RX10 34 yX10_doorNearer ∈ gt := gt_t (tb_4 12 rfl) rfl
theorem m247 : Cond.instanceMethod yX10_doorNearer ∈ gt := gt_t (tb_4 14 rfl) rfl
theorem m248 : Cond.selects RX10 yX10_doorNearer yX10_doorNearer ∈ gt := gt_s (pr_s (q := (yX10_doorNearer, 4)) (List.mem_of_getElem? (i := 41) rfl)) rfl
theorem m249 : Cond.code yX10_wayDoor cX10_wayDoor 8 (some .int) ∈ gt := gt_t (tb_4 11 rfl) rfl
theorem m250 : Cond.methodLink RX11 190 yX11_isNoRoom ∈ gt := gt_t (tb_3 231 rfl) rfl
theorem m251 : Cond.instanceMethod yX11_isNoRoom ∈ gt := gt_t (tb_3 233 rfl) rfl
theorem m252 : Cond.selects RX11 yX11_isNoRoom yX11_isNoRoom ∈ gt := gt_s (pr_s (q := (yX11_isNoRoom, 10)) (List.mem_of_getElem? (i := 36) rfl)) rfl
theorem m253 : Cond.fieldLink RX11 41 "DebtRooms" "walks" "LDebtRooms$Walks;" ∈ gt := gt_t (tb_2 54 rfl) rfl
theorem m254 : Cond.methodLinkNest RX11 197 yX10_wayDoor "DebtRooms" ∈ tables_1 := tb_4 8 rfl
theorem m255 : Cond.instanceMethod yX10_wayDoor ∈ gt := gt_t (tb_4 10 rfl) rfl
theorem m256 : Cond.selects RX10 yX10_wayDoor yX10_wayDoor ∈ gt := gt_s (pr_s (q := (yX10_wayDoor, 4)) (List.mem_of_getElem? (i := 40) rfl)) rfl
theorem m257 : Cond.methodLinkNest RX11 193 yX10_wayLength "DebtRooms" ∈ tables_1 := tb_3 235 rfl
theorem m258 : Cond.instanceMethod yX10_wayLength ∈ gt := gt_t (tb_3 237 rfl) rfl
theorem m259 : Cond.selects RX10 yX10_wayLength yX10_wayLength ∈ gt := gt_s (pr_s (q := (yX10_wayLength, 4)) (List.mem_of_getElem? (i := 37) rfl)) rfl
theorem m260 : Cond.code yX11_way cX11_way 4 (some .int) ∈ gt := gt_t (tb_3 230 rfl) rfl
theorem m261 : Cond.code yX0_takeOver cX0_takeOver 3 none ∈ gt := gt_t (tb_4 29 rfl) rfl
theorem m262 : Cond.methodLink RX0 102 yX0_settle ∈ gt := gt_t (tb_4 37 rfl) rfl
theorem m263 : Cond.code yX0_payAll cX0_payAll 6 (some .int) ∈ gt := gt_t (tb_4 36 rfl) rfl
theorem m264 : Cond.fieldLink RX5 31 "DebtRooms$Nights" "most" "I" ∈ gt := gt_t (tb_2 6 rfl) rfl
theorem m265 : Cond.fieldLink RX5 21 "DebtRooms$Nights" "best" "[I" ∈ gt := gt_t (tb_2 5 rfl) rfl
theorem m266 : Cond.fieldLink RX5 17 "DebtRooms$Nights" "path" "[I" ∈ gt := gt_t (tb_2 4 rfl) rfl
theorem m267 : Cond.code yX5_keepIfMore cX5_keepIfMore 3 none ∈ gt := gt_t (tb_4 41 rfl) rfl
theorem m268 : Cond.initialized RX5 ∈ gt := gt_t (tb_1 7 rfl) rfl
theorem m269 : Cond.fieldLink RX5 11 "DebtRooms$Nights" "levels" "[LDebtRooms$Affairs;" ∈ gt := gt_t (tb_2 3 rfl) rfl
theorem m270 : Cond.methodLinkNest RX5 43 yX0_payAll "DebtRooms" ∈ tables_1 := tb_4 33 rfl
theorem m271 : Cond.instanceMethod yX0_payAll ∈ gt := gt_t (tb_4 35 rfl) rfl
theorem m272 : Cond.selects RX0 yX0_payAll yX0_payAll ∈ gt := gt_s (pr_s (q := (yX0_payAll, 10)) (List.mem_of_getElem? (i := 44) rfl)) rfl
theorem m273 : Cond.methodLink RX5 47 yX5_keepIfMore ∈ gt := gt_t (tb_4 38 rfl) rfl
theorem m274 : Cond.instanceMethod yX5_keepIfMore ∈ gt := gt_t (tb_4 40 rfl) rfl
theorem m275 : Cond.selects RX5 yX5_keepIfMore yX5_keepIfMore ∈ gt := gt_s (pr_s (q := (yX5_keepIfMore, 5)) (List.mem_of_getElem? (i := 45) rfl)) rfl
theorem m276 : Cond.fieldLink RX5 24 "DebtRooms$Nights" "plan" "LDebtRooms$House;" ∈ gt := gt_t (tb_2 2 rfl) rfl
theorem m277 : Cond.fieldLinkNest RX5 51 "DebtRooms$House" "doors" "I" "DebtRooms" ∈ tables_1 := tb_1 92 rfl
theorem m278 : Cond.methodLinkNest RX5 56 yX0_mayGo "DebtRooms" ∈ tables_1 := tb_4 42 rfl
theorem m279 : Cond.methodLinkNest RX5 35 yX0_takeOver "DebtRooms" ∈ tables_1 := tb_4 26 rfl
theorem m280 : Cond.instanceMethod yX0_takeOver ∈ gt := gt_t (tb_4 28 rfl) rfl
theorem m281 : Cond.selects RX0 yX0_takeOver yX0_takeOver ∈ gt := gt_s (pr_s (q := (yX0_takeOver, 10)) (List.mem_of_getElem? (i := 43) rfl)) rfl
theorem m282 : Cond.methodLinkNest RX5 60 yX0_goThrough "DebtRooms" ∈ tables_1 := tb_4 43 rfl
theorem m283 : Cond.methodLink RX5 39 yX5_goOn ∈ gt := gt_t (tb_4 30 rfl) rfl
theorem m284 : Cond.static yX5_goOn ∈ gt := gt_t (tb_4 31 rfl) rfl
theorem m285 : Cond.code yX5_goOn cX5_goOn 9 none ∈ gt := gt_t (tb_4 32 rfl) rfl
theorem m286 : Cond.code yX5_search cX5_search 4 none ∈ gt := gt_t (tb_4 25 rfl) rfl
theorem m287 : Cond.code yX5_doorAt cX5_doorAt 3 (some .int) ∈ gt := gt_t (tb_4 47 rfl) rfl
theorem m288 : Cond.fieldLink RX11 48 "DebtRooms" "nights" "LDebtRooms$Nights;" ∈ gt := gt_t (tb_2 55 rfl) rfl
theorem m289 : Cond.methodLinkNest RX11 201 yX5_search "DebtRooms" ∈ tables_1 := tb_4 22 rfl
theorem m290 : Cond.instanceMethod yX5_search ∈ gt := gt_t (tb_4 24 rfl) rfl
theorem m291 : Cond.selects RX5 yX5_search yX5_search ∈ gt := gt_s (pr_s (q := (yX5_search, 5)) (List.mem_of_getElem? (i := 42) rfl)) rfl
theorem m292 : Cond.methodLinkNest RX11 208 yX5_doorAt "DebtRooms" ∈ tables_1 := tb_4 44 rfl
theorem m293 : Cond.instanceMethod yX5_doorAt ∈ gt := gt_t (tb_4 46 rfl) rfl
theorem m294 : Cond.selects RX5 yX5_doorAt yX5_doorAt ∈ gt := gt_s (pr_s (q := (yX5_doorAt, 5)) (List.mem_of_getElem? (i := 46) rfl)) rfl
theorem m295 : Cond.fieldLinkNest RX11 205 "DebtRooms$Nights" "most" "I" "DebtRooms" ∈ tables_1 := tb_2 7 rfl
theorem m296 : Cond.code yX11_night cX11_night 4 (some .int) ∈ gt := gt_t (tb_4 21 rfl) rfl
theorem m297 : Cond.fieldLink RX9 55 "DebtRooms$Rings" "most" "I" ∈ gt := gt_t (tb_2 32 rfl) rfl
theorem m298 : Cond.fieldLink RX9 18 "DebtRooms$Rings" "best" "[I" ∈ gt := gt_t (tb_2 28 rfl) rfl
theorem m299 : Cond.fieldLink RX9 15 "DebtRooms$Rings" "less" "[I" ∈ gt := gt_t (tb_2 27 rfl) rfl
theorem m300 : Cond.code yX9_keepIfMore cX9_keepIfMore 3 none ∈ gt := gt_t (tb_4 62 rfl) rfl
theorem m301 : Cond.initialized RX9 ∈ gt := gt_t (tb_1 8 rfl) rfl
theorem m302 : Cond.fieldLink RX9 9 "DebtRooms$Rings" "limit" "[I" ∈ gt := gt_t (tb_2 26 rfl) rfl
theorem m303 : Cond.fieldLink RX9 27 "DebtRooms$Rings" "plan" "LDebtRooms$House;" ∈ gt := gt_t (tb_2 25 rfl) rfl
theorem m304 : Cond.fieldLinkNest RX9 49 "DebtRooms$House" "debtor" "[I" "DebtRooms" ∈ tables_1 := tb_1 120 rfl
theorem m305 : Cond.fieldLinkNest RX9 52 "DebtRooms$House" "creditor" "[I" "DebtRooms" ∈ tables_1 := tb_1 125 rfl
theorem m306 : Cond.fieldLink RX9 21 "DebtRooms$Rings" "lastDebt" "[I" ∈ gt := gt_t (tb_2 30 rfl) rfl
theorem m307 : Cond.fieldLink RX9 24 "DebtRooms$Rings" "uneven" "[I" ∈ gt := gt_t (tb_2 31 rfl) rfl
theorem ma308 : Cond.methodLink RX9 66 Lib.Math.max.name ∈ gt := gt_t (tb_4 63 (by decide +kernel)) rfl
theorem ma309 : Cond.methodLink RX9 72 Lib.Math.min.name ∈ gt := gt_t (tb_4 64 (by decide +kernel)) rfl
theorem m310 : Cond.methodLink RX9 58 yX9_lessen ∈ gt := gt_t (tb_4 56 rfl) rfl
theorem m311 : Cond.static yX9_lessen ∈ gt := gt_t (tb_4 57 rfl) rfl
theorem m312 : Cond.methodLink RX9 62 yX9_keepIfMore ∈ gt := gt_t (tb_4 59 rfl) rfl
theorem m313 : Cond.instanceMethod yX9_keepIfMore ∈ gt := gt_t (tb_4 61 rfl) rfl
theorem m314 : Cond.selects RX9 yX9_keepIfMore yX9_keepIfMore ∈ gt := gt_s (pr_s (q := (yX9_keepIfMore, 7)) (List.mem_of_getElem? (i := 48) rfl)) rfl
theorem m315 : Cond.code yX9_lessen cX9_lessen 8 none ∈ gt := gt_t (tb_4 58 rfl) rfl
theorem m316 : Cond.fieldLinkNest RX9 31 "DebtRooms$House" "debts" "I" "DebtRooms" ∈ tables_1 := tb_1 99 rfl
theorem m317 : Cond.fieldLinkNest RX9 37 "DebtRooms$House" "debtRoom" "[I" "DebtRooms" ∈ tables_1 := tb_1 130 rfl
theorem m318 : Cond.fieldLinkNest RX9 40 "DebtRooms$Affairs" "paid" "[Z" "DebtRooms" ∈ tables_1 := tb_1 179 rfl
theorem m319 : Cond.fieldLinkNest RX9 46 "DebtRooms$Affairs" "sum" "[I" "DebtRooms" ∈ tables_1 := tb_1 175 rfl
theorem m320 : Cond.code yX9_search cX9_search 4 none ∈ gt := gt_t (tb_4 55 rfl) rfl
theorem m321 : Cond.fieldLink RX11 55 "DebtRooms" "rings" "LDebtRooms$Rings;" ∈ gt := gt_t (tb_2 56 rfl) rfl
theorem m322 : Cond.methodLinkNest RX11 212 yX9_search "DebtRooms" ∈ tables_1 := tb_4 52 rfl
theorem m323 : Cond.instanceMethod yX9_search ∈ gt := gt_t (tb_4 54 rfl) rfl
theorem m324 : Cond.selects RX9 yX9_search yX9_search ∈ gt := gt_s (pr_s (q := (yX9_search, 7)) (List.mem_of_getElem? (i := 47) rfl)) rfl
theorem m325 : Cond.fieldLinkNest RX11 216 "DebtRooms$Rings" "best" "[I" "DebtRooms" ∈ tables_1 := tb_2 29 rfl
theorem m326 : Cond.fieldLinkNest RX11 215 "DebtRooms$Rings" "most" "I" "DebtRooms" ∈ tables_1 := tb_2 33 rfl
theorem m327 : Cond.code yX11_cancel cX11_cancel 3 (some .int) ∈ gt := gt_t (tb_4 51 rfl) rfl
theorem m328 : Cond.code yX0_owesStill cX0_owesStill 3 (some .boolean) ∈ gt := gt_t (tb_4 81 rfl) rfl
theorem m329 : Cond.methodLink RX0 106 yX0_owesStill ∈ gt := gt_t (tb_4 78 rfl) rfl
theorem m330 : Cond.instanceMethod yX0_owesStill ∈ gt := gt_t (tb_4 80 rfl) rfl
theorem m331 : Cond.selects RX0 yX0_owesStill yX0_owesStill ∈ gt := gt_s (pr_s (q := (yX0_owesStill, 10)) (List.mem_of_getElem? (i := 51) rfl)) rfl
theorem m332 : Cond.code yX0_costOfAll cX0_costOfAll 4 (some .int) ∈ gt := gt_t (tb_4 77 rfl) rfl
theorem m333 : Cond.code yX0_settleAll cX0_settleAll 3 none ∈ gt := gt_t (tb_4 85 rfl) rfl
theorem m334 : Cond.fieldLinkNest RX0 109 "DebtRooms$House" "people" "I" "DebtRooms" ∈ tables_1 := tb_1 97 rfl
theorem m335 : Cond.methodLink RX0 112 yX0_costOfAll ∈ gt := gt_t (tb_4 74 rfl) rfl
theorem m336 : Cond.instanceMethod yX0_costOfAll ∈ gt := gt_t (tb_4 76 rfl) rfl
theorem m337 : Cond.selects RX0 yX0_costOfAll yX0_costOfAll ∈ gt := gt_s (pr_s (q := (yX0_costOfAll, 10)) (List.mem_of_getElem? (i := 50) rfl)) rfl
theorem m338 : Cond.methodLink RX0 115 yX0_settleAll ∈ gt := gt_t (tb_4 82 rfl) rfl
theorem m339 : Cond.instanceMethod yX0_settleAll ∈ gt := gt_t (tb_4 84 rfl) rfl
theorem m340 : Cond.selects RX0 yX0_settleAll yX0_settleAll ∈ gt := gt_s (pr_s (q := (yX0_settleAll, 10)) (List.mem_of_getElem? (i := 52) rfl)) rfl
theorem m341 : Cond.code yX0_payWhoCan cX0_payWhoCan 3 (some .int) ∈ gt := gt_t (tb_4 73 rfl) rfl
theorem m342 : Cond.fieldLink RX11 35 "DebtRooms" "trial" "LDebtRooms$Affairs;" ∈ gt := gt_t (tb_2 53 rfl) rfl
theorem m343 : Cond.methodLinkNest RX11 219 yX0_takeOver "DebtRooms" ∈ tables_1 := tb_4 69 rfl
theorem m344 : Cond.methodLinkNest RX11 222 yX0_payWhoCan "DebtRooms" ∈ tables_1 := tb_4 70 rfl
theorem m345 : Cond.instanceMethod yX0_payWhoCan ∈ gt := gt_t (tb_4 72 rfl) rfl
theorem m346 : Cond.selects RX0 yX0_payWhoCan yX0_payWhoCan ∈ gt := gt_s (pr_s (q := (yX0_payWhoCan, 10)) (List.mem_of_getElem? (i := 49) rfl)) rfl
theorem m347 : Cond.code yX11_sound cX11_sound 1 (some .int) ∈ gt := gt_t (tb_4 68 rfl) rfl
theorem m348 : Cond.fieldLink RX10 18 "DebtRooms$Walks" "next" "[I" ∈ gt := gt_t (tb_1 223 rfl) rfl
theorem m349 : Cond.fieldLink RX10 15 "DebtRooms$Walks" "parts" "[I" ∈ gt := gt_t (tb_1 222 rfl) rfl
theorem m350 : Cond.code yX10_spreadFrom cX10_spreadFrom 6 none ∈ gt := gt_t (tb_4 102 rfl) rfl
theorem m351 : Cond.methodLink RX10 73 yX10_spreadFrom ∈ gt := gt_t (tb_4 99 rfl) rfl
theorem m352 : Cond.instanceMethod yX10_spreadFrom ∈ gt := gt_t (tb_4 101 rfl) rfl
theorem m353 : Cond.selects RX10 yX10_spreadFrom yX10_spreadFrom ∈ gt := gt_s (pr_s (q := (yX10_spreadFrom, 4)) (List.mem_of_getElem? (i := 55) rfl)) rfl
theorem m354 : Cond.code yX10_spread cX10_spread 4 none ∈ gt := gt_t (tb_4 98 rfl) rfl
theorem m355 : Cond.constant RX10 68 (216000) ∈ gt := gt_t (tb_4 94 rfl) rfl
theorem m356 : Cond.methodLink RX10 69 yX10_spread ∈ gt := gt_t (tb_4 95 rfl) rfl
theorem m357 : Cond.instanceMethod yX10_spread ∈ gt := gt_t (tb_4 97 rfl) rfl
theorem m358 : Cond.selects RX10 yX10_spread yX10_spread ∈ gt := gt_s (pr_s (q := (yX10_spread, 4)) (List.mem_of_getElem? (i := 54) rfl)) rfl
theorem m359 : Cond.code yX10_metParts cX10_metParts 8 (some .int) ∈ gt := gt_t (tb_4 93 rfl) rfl
theorem m360 : Cond.code yX11_commonDivisor cX11_commonDivisor 6 (some .int) ∈ gt := gt_t (tb_4 106 rfl) rfl
theorem m361 : Cond.methodLinkNest RX11 225 yX10_metParts "DebtRooms" ∈ tables_1 := tb_4 90 rfl
theorem m362 : Cond.instanceMethod yX10_metParts ∈ gt := gt_t (tb_4 92 rfl) rfl
theorem m363 : Cond.selects RX10 yX10_metParts yX10_metParts ∈ gt := gt_s (pr_s (q := (yX10_metParts, 4)) (List.mem_of_getElem? (i := 53) rfl)) rfl
theorem m364 : Cond.constant RX11 228 (216000) ∈ gt := gt_t (tb_4 103 rfl) rfl
theorem m365 : Cond.methodLink RX11 229 yX11_commonDivisor ∈ gt := gt_t (tb_4 104 rfl) rfl
theorem m366 : Cond.static yX11_commonDivisor ∈ gt := gt_t (tb_4 105 rfl) rfl
theorem m367 : Cond.code yX11_met cX11_met 7 (some .int) ∈ gt := gt_t (tb_4 89 rfl) rfl
theorem m368 : Cond.fieldLinkNest RX11 232 "DebtRooms$Affairs" "seen" "I" "DebtRooms" ∈ tables_1 := tb_1 188 rfl
theorem m369 : Cond.fieldLinkNest RX11 235 "DebtRooms$Affairs" "seenDebt" "[I" "DebtRooms" ∈ tables_1 := tb_1 183 rfl
theorem m370 : Cond.fieldLinkNest RX11 238 "DebtRooms$Affairs" "seenCould" "[Z" "DebtRooms" ∈ tables_1 := tb_1 185 rfl
theorem m371 : Cond.code yX11_see cX11_see 3 (some .int) ∈ gt := gt_t (tb_4 110 rfl) rfl
theorem m372 : Cond.code yX11_forget cX11_forget 2 (some .int) ∈ gt := gt_t (tb_4 114 rfl) rfl
theorem m373 : Cond.constantLong RX11 307 (1103515245) ∈ gt := gt_t (tb_4 122 rfl) rfl
theorem m374 : Cond.constantLong RX11 309 (12345) ∈ gt := gt_t (tb_4 123 rfl) rfl
theorem m375 : Cond.constantLong RX11 311 (2147483647) ∈ gt := gt_t (tb_4 124 rfl) rfl
theorem m376 : Cond.code yX11_nextSeed cX11_nextSeed 1 (some .int) ∈ gt := gt_t (tb_4 121 rfl) rfl
theorem m377 : Cond.code yX0_paidDebts cX0_paidDebts 3 (some .int) ∈ gt := gt_t (tb_4 130 rfl) rfl
theorem m378 : Cond.methodLinkNest RX11 252 yX0_paidDebts "DebtRooms" ∈ tables_1 := tb_4 127 rfl
theorem m379 : Cond.instanceMethod yX0_paidDebts ∈ gt := gt_t (tb_4 129 rfl) rfl
theorem m380 : Cond.selects RX0 yX0_paidDebts yX0_paidDebts ∈ gt := gt_s (pr_s (q := (yX0_paidDebts, 10)) (List.mem_of_getElem? (i := 56) rfl)) rfl
theorem m381 : Cond.methodLink RX11 244 yX11_nextSeed ∈ gt := gt_t (tb_4 119 rfl) rfl
theorem m382 : Cond.static yX11_nextSeed ∈ gt := gt_t (tb_4 120 rfl) rfl
theorem m383 : Cond.constant RX11 247 (65536) ∈ gt := gt_t (tb_4 125 rfl) rfl
theorem m384 : Cond.methodLinkNest RX11 248 yX0_payAll "DebtRooms" ∈ tables_1 := tb_4 126 rfl
theorem m385 : Cond.code yX11_winters cX11_winters 9 (some .int) ∈ gt := gt_t (tb_4 118 rfl) rfl
theorem m386 : Cond.fieldLink RX11 32 "DebtRooms" "kept" "LDebtRooms$Affairs;" ∈ gt := gt_t (tb_2 52 rfl) rfl
theorem m387 : Cond.fieldLink RX11 59 "DebtRooms" "isKept" "Z" ∈ gt := gt_t (tb_2 57 rfl) rfl
theorem m388 : Cond.code yX11_image cX11_image 1 (some .int) ∈ gt := gt_t (tb_4 134 rfl) rfl
theorem m389 : Cond.code yX11_restore cX11_restore 1 (some .int) ∈ gt := gt_t (tb_4 138 rfl) rfl
theorem m390 : Cond.code yX0_sumsNotPaid cX0_sumsNotPaid 3 (some .int) ∈ gt := gt_t (tb_4 146 rfl) rfl
theorem m391 : Cond.code yX0_allPurses cX0_allPurses 3 (some .int) ∈ gt := gt_t (tb_4 150 rfl) rfl
theorem m392 : Cond.methodLinkNest RX11 261 yX0_sumsNotPaid "DebtRooms" ∈ tables_1 := tb_4 143 rfl
theorem m393 : Cond.instanceMethod yX0_sumsNotPaid ∈ gt := gt_t (tb_4 145 rfl) rfl
theorem m394 : Cond.selects RX0 yX0_sumsNotPaid yX0_sumsNotPaid ∈ gt := gt_s (pr_s (q := (yX0_sumsNotPaid, 10)) (List.mem_of_getElem? (i := 57) rfl)) rfl
theorem m395 : Cond.methodLinkNest RX11 264 yX0_allPurses "DebtRooms" ∈ tables_1 := tb_4 147 rfl
theorem m396 : Cond.instanceMethod yX0_allPurses ∈ gt := gt_t (tb_4 149 rfl) rfl
theorem m397 : Cond.selects RX0 yX0_allPurses yX0_allPurses ∈ gt := gt_s (pr_s (q := (yX0_allPurses, 10)) (List.mem_of_getElem? (i := 58) rfl)) rfl
theorem m398 : Cond.fieldLink RX11 63 "DebtRooms" "readings" "I" ∈ gt := gt_t (tb_2 58 rfl) rfl
theorem m399 : Cond.code yX11_count cX11_count 2 (some .int) ∈ gt := gt_t (tb_4 142 rfl) rfl
theorem m400 : Cond.constantLong RX11 305 (31) ∈ gt := gt_t (tb_4 164 rfl) rfl
theorem m401 : Cond.code yX11_mix cX11_mix 3 (some .long) ∈ gt := gt_t (tb_4 163 rfl) rfl
theorem m402 : Cond.methodLink RX11 298 yX11_person ∈ gt := gt_t (tb_4 160 rfl) rfl
theorem m403 : Cond.instanceMethod yX11_person ∈ gt := gt_t (tb_3 48 rfl) rfl
theorem m404 : Cond.selects RX11 yX11_person yX11_person ∈ gt := gt_t (tb_3 49 rfl) rfl
theorem m405 : Cond.methodLink RX11 276 yX11_mix ∈ gt := gt_t (tb_4 161 rfl) rfl
theorem m406 : Cond.static yX11_mix ∈ gt := gt_t (tb_4 162 rfl) rfl
theorem m407 : Cond.methodLink RX11 301 yX11_way ∈ gt := gt_t (tb_4 165 rfl) rfl
theorem m408 : Cond.instanceMethod yX11_way ∈ gt := gt_t (tb_3 228 rfl) rfl
theorem m409 : Cond.selects RX11 yX11_way yX11_way ∈ gt := gt_t (tb_3 229 rfl) rfl
theorem m410 : Cond.code yX11_mixPerson cX11_mixPerson 7 (some .long) ∈ gt := gt_t (tb_4 159 rfl) rfl
theorem m411 : Cond.constantLong RX11 267 (1223) ∈ gt := gt_t (tb_4 155 rfl) rfl
theorem m412 : Cond.methodLink RX11 269 yX11_mixPerson ∈ gt := gt_t (tb_4 156 rfl) rfl
theorem m413 : Cond.instanceMethod yX11_mixPerson ∈ gt := gt_t (tb_4 158 rfl) rfl
theorem m414 : Cond.selects RX11 yX11_mixPerson yX11_mixPerson ∈ gt := gt_s (pr_s (q := (yX11_mixPerson, 10)) (List.mem_of_getElem? (i := 59) rfl)) rfl
theorem m415 : Cond.methodLink RX11 273 yX11_door ∈ gt := gt_t (tb_4 166 rfl) rfl
theorem m416 : Cond.instanceMethod yX11_door ∈ gt := gt_t (tb_3 176 rfl) rfl
theorem m417 : Cond.selects RX11 yX11_door yX11_door ∈ gt := gt_t (tb_3 177 rfl) rfl
theorem m418 : Cond.methodLink RX11 279 yX11_debt ∈ gt := gt_t (tb_4 167 rfl) rfl
theorem m419 : Cond.instanceMethod yX11_debt ∈ gt := gt_t (tb_3 184 rfl) rfl
theorem m420 : Cond.selects RX11 yX11_debt yX11_debt ∈ gt := gt_t (tb_3 185 rfl) rfl
theorem m421 : Cond.methodLink RX11 285 yX11_sound ∈ gt := gt_t (tb_4 169 rfl) rfl
theorem m422 : Cond.instanceMethod yX11_sound ∈ gt := gt_t (tb_4 66 rfl) rfl
theorem m423 : Cond.selects RX11 yX11_sound yX11_sound ∈ gt := gt_t (tb_4 67 rfl) rfl
theorem m424 : Cond.methodLink RX11 288 yX11_met ∈ gt := gt_t (tb_4 170 rfl) rfl
theorem m425 : Cond.instanceMethod yX11_met ∈ gt := gt_t (tb_4 87 rfl) rfl
theorem m426 : Cond.selects RX11 yX11_met yX11_met ∈ gt := gt_t (tb_4 88 rfl) rfl
theorem m427 : Cond.methodLink RX11 282 yX11_cancel ∈ gt := gt_t (tb_4 168 rfl) rfl
theorem m428 : Cond.instanceMethod yX11_cancel ∈ gt := gt_t (tb_4 49 rfl) rfl
theorem m429 : Cond.selects RX11 yX11_cancel yX11_cancel ∈ gt := gt_t (tb_4 50 rfl) rfl
theorem m430 : Cond.fieldLinkNest RX11 292 "DebtRooms$Page" "letters" "[I" "DebtRooms" ∈ tables_1 := tb_1 36 rfl
theorem m431 : Cond.methodLink RX11 295 yX11_count ∈ gt := gt_t (tb_4 171 rfl) rfl
theorem m432 : Cond.instanceMethod yX11_count ∈ gt := gt_t (tb_4 140 rfl) rfl
theorem m433 : Cond.selects RX11 yX11_count yX11_count ∈ gt := gt_t (tb_4 141 rfl) rfl
theorem m434 : Cond.code yX11_digest cX11_digest 5 (some .long) ∈ gt := gt_t (tb_4 154 rfl) rfl
theorem m435 : Cond.code yX12_in cX12_in 6 (some .boolean) ∈ gt := gt_t (tb_5 78 rfl) rfl
theorem m436 : Cond.initialized RX12 ∈ gt := gt_t (tb_1 9 rfl) rfl
theorem m437 : Cond.code yX12_copy cX12_copy 3 none ∈ gt := gt_t (tb_5 168 rfl) rfl
theorem m438 : Cond.constantLong RX12 101 (126) ∈ gt := gt_t (tb_5 75 rfl) rfl
theorem m439 : Cond.methodLink RX12 103 yX12_in ∈ gt := gt_t (tb_5 76 rfl) rfl
theorem m440 : Cond.static yX12_in ∈ gt := gt_t (tb_5 77 rfl) rfl
theorem m441 : Cond.fieldLink RX12 107 "DebtRoomsModel" "pageMany" "I" ∈ gt := gt_t (tb_4 179 rfl) rfl
theorem m442 : Cond.fieldLink RX12 7 "DebtRoomsModel" "page" "[I" ∈ gt := gt_t (tb_4 178 rfl) rfl
theorem m443 : Cond.code yX12_letter cX12_letter 2 (some .int) ∈ gt := gt_t (tb_5 74 rfl) rfl
theorem m444 : Cond.code yX12_blank cX12_blank 2 (some .int) ∈ gt := gt_t (tb_5 82 rfl) rfl
theorem m445 : Cond.code yX12_kindBy cX12_kindBy 1 (some .int) ∈ gt := gt_t (tb_5 112 rfl) rfl
theorem m446 : Cond.code yX12_lockBy cX12_lockBy 1 (some .int) ∈ gt := gt_t (tb_5 129 rfl) rfl
theorem m447 : Cond.constantLong RX12 110 (48) ∈ gt := gt_t (tb_5 105 rfl) rfl
theorem m448 : Cond.code yX12_isRoomLetter cX12_isRoomLetter 2 (some .boolean) ∈ gt := gt_t (tb_5 104 rfl) rfl
theorem m449 : Cond.methodLink RX12 112 yX12_isRoomLetter ∈ gt := gt_t (tb_5 101 rfl) rfl
theorem m450 : Cond.instanceMethod yX12_isRoomLetter ∈ gt := gt_t (tb_5 103 rfl) rfl
theorem m451 : Cond.selects RX12 yX12_isRoomLetter yX12_isRoomLetter ∈ gt := gt_s (pr_s (q := (yX12_isRoomLetter, 44)) (List.mem_of_getElem? (i := 63) rfl)) rfl
theorem m452 : Cond.fieldLink RX12 116 "DebtRoomsModel" "doorsEnd" "I" ∈ gt := gt_t (tb_4 180 rfl) rfl
theorem m453 : Cond.code yX12_isDoorLetter cX12_isDoorLetter 3 (some .boolean) ∈ gt := gt_t (tb_5 100 rfl) rfl
theorem m454 : Cond.methodLink RX12 119 yX12_kindBy ∈ gt := gt_t (tb_5 110 rfl) rfl
theorem m455 : Cond.static yX12_kindBy ∈ gt := gt_t (tb_5 111 rfl) rfl
theorem m456 : Cond.constantLong RX12 123 (57) ∈ gt := gt_t (tb_5 113 rfl) rfl
theorem m457 : Cond.fieldLink RX12 125 "DebtRoomsModel" "peopleEnd" "I" ∈ gt := gt_t (tb_4 181 rfl) rfl
theorem m458 : Cond.code yX12_isPersonLetter cX12_isPersonLetter 4 (some .boolean) ∈ gt := gt_t (tb_5 109 rfl) rfl
theorem m459 : Cond.code yX12_isPersonDigit cX12_isPersonDigit 2 (some .boolean) ∈ gt := gt_t (tb_5 121 rfl) rfl
theorem m460 : Cond.methodLink RX12 128 yX12_isPersonDigit ∈ gt := gt_t (tb_5 118 rfl) rfl
theorem m461 : Cond.instanceMethod yX12_isPersonDigit ∈ gt := gt_t (tb_5 120 rfl) rfl
theorem m462 : Cond.selects RX12 yX12_isPersonDigit yX12_isPersonDigit ∈ gt := gt_s (pr_s (q := (yX12_isPersonDigit, 44)) (List.mem_of_getElem? (i := 66) rfl)) rfl
theorem m463 : Cond.constantLong RX12 131 (49) ∈ gt := gt_t (tb_5 122 rfl) rfl
theorem m464 : Cond.code yX12_isDebtLetter cX12_isDebtLetter 4 (some .boolean) ∈ gt := gt_t (tb_5 117 rfl) rfl
theorem m465 : Cond.methodLink RX12 143 yX12_isDebtLetter ∈ gt := gt_t (tb_5 114 rfl) rfl
theorem m466 : Cond.instanceMethod yX12_isDebtLetter ∈ gt := gt_t (tb_5 116 rfl) rfl
theorem m467 : Cond.selects RX12 yX12_isDebtLetter yX12_isDebtLetter ∈ gt := gt_s (pr_s (q := (yX12_isDebtLetter, 44)) (List.mem_of_getElem? (i := 65) rfl)) rfl
theorem m468 : Cond.methodLink RX12 140 yX12_isPersonLetter ∈ gt := gt_t (tb_5 106 rfl) rfl
theorem m469 : Cond.instanceMethod yX12_isPersonLetter ∈ gt := gt_t (tb_5 108 rfl) rfl
theorem m470 : Cond.selects RX12 yX12_isPersonLetter yX12_isPersonLetter ∈ gt := gt_s (pr_s (q := (yX12_isPersonLetter, 44)) (List.mem_of_getElem? (i := 64) rfl)) rfl
theorem m471 : Cond.methodLink RX12 137 yX12_isDoorLetter ∈ gt := gt_t (tb_5 97 rfl) rfl
theorem m472 : Cond.instanceMethod yX12_isDoorLetter ∈ gt := gt_t (tb_5 99 rfl) rfl
theorem m473 : Cond.selects RX12 yX12_isDoorLetter yX12_isDoorLetter ∈ gt := gt_s (pr_s (q := (yX12_isDoorLetter, 44)) (List.mem_of_getElem? (i := 62) rfl)) rfl
theorem m474 : Cond.constantLong RX12 133 (50) ∈ gt := gt_t (tb_5 95 rfl) rfl
theorem m475 : Cond.constantLong RX12 135 (54) ∈ gt := gt_t (tb_5 96 rfl) rfl
theorem m476 : Cond.code yX12_isGood cX12_isGood 2 (some .boolean) ∈ gt := gt_t (tb_5 94 rfl) rfl
theorem m477 : Cond.methodLink RX12 146 yX12_isGood ∈ gt := gt_t (tb_5 91 rfl) rfl
theorem m478 : Cond.instanceMethod yX12_isGood ∈ gt := gt_t (tb_5 93 rfl) rfl
theorem m479 : Cond.selects RX12 yX12_isGood yX12_isGood ∈ gt := gt_s (pr_s (q := (yX12_isGood, 44)) (List.mem_of_getElem? (i := 61) rfl)) rfl
theorem m480 : Cond.code yX12_faultOf cX12_faultOf 2 (some .int) ∈ gt := gt_t (tb_5 90 rfl) rfl
theorem m481 : Cond.methodLink RX12 149 yX12_faultOf ∈ gt := gt_t (tb_5 87 rfl) rfl
theorem m482 : Cond.instanceMethod yX12_faultOf ∈ gt := gt_t (tb_5 89 rfl) rfl
theorem m483 : Cond.selects RX12 yX12_faultOf yX12_faultOf ∈ gt := gt_s (pr_s (q := (yX12_faultOf, 44)) (List.mem_of_getElem? (i := 60) rfl)) rfl
theorem m484 : Cond.code yX12_fault cX12_fault 1 (some .int) ∈ gt := gt_t (tb_5 86 rfl) rfl
theorem m485 : Cond.fieldLink RX12 153 "DebtRoomsModel" "rooms" "I" ∈ gt := gt_t (tb_4 182 rfl) rfl
theorem m486 : Cond.fieldLink RX12 156 "DebtRoomsModel" "doors" "I" ∈ gt := gt_t (tb_4 183 rfl) rfl
theorem m487 : Cond.fieldLink RX12 159 "DebtRoomsModel" "people" "I" ∈ gt := gt_t (tb_4 184 rfl) rfl
theorem m488 : Cond.fieldLink RX12 162 "DebtRoomsModel" "debts" "I" ∈ gt := gt_t (tb_4 185 rfl) rfl
theorem m489 : Cond.fieldLink RX12 13 "DebtRoomsModel" "one" "[I" ∈ gt := gt_t (tb_4 188 rfl) rfl
theorem m490 : Cond.fieldLink RX12 16 "DebtRoomsModel" "other" "[I" ∈ gt := gt_t (tb_4 189 rfl) rfl
theorem m491 : Cond.fieldLink RX12 19 "DebtRoomsModel" "locks" "[I" ∈ gt := gt_t (tb_4 190 rfl) rfl
theorem m492 : Cond.methodLink RX12 165 yX12_lockBy ∈ gt := gt_t (tb_5 127 rfl) rfl
theorem m493 : Cond.static yX12_lockBy ∈ gt := gt_t (tb_5 128 rfl) rfl
theorem m494 : Cond.fieldLink RX12 22 "DebtRoomsModel" "kinds" "[I" ∈ gt := gt_t (tb_4 191 rfl) rfl
theorem m495 : Cond.fieldLink RX12 25 "DebtRoomsModel" "purses" "[I" ∈ gt := gt_t (tb_4 192 rfl) rfl
theorem m496 : Cond.fieldLink RX12 28 "DebtRoomsModel" "places" "[I" ∈ gt := gt_t (tb_4 193 rfl) rfl
theorem m497 : Cond.fieldLink RX12 31 "DebtRoomsModel" "keys" "[I" ∈ gt := gt_t (tb_4 194 rfl) rfl
theorem m498 : Cond.fieldLink RX12 168 "DebtRoomsModel" "gone" "I" ∈ gt := gt_t (tb_4 186 rfl) rfl
theorem m499 : Cond.fieldLink RX12 171 "DebtRoomsModel" "seenMany" "I" ∈ gt := gt_t (tb_4 209 rfl) rfl
theorem m500 : Cond.fieldLink RX12 174 "DebtRoomsModel" "housesRead" "I" ∈ gt := gt_t (tb_4 187 rfl) rfl
theorem m501 : Cond.fieldLink RX12 34 "DebtRoomsModel" "owers" "[I" ∈ gt := gt_t (tb_4 195 rfl) rfl
theorem m502 : Cond.fieldLink RX12 37 "DebtRoomsModel" "owed" "[I" ∈ gt := gt_t (tb_4 196 rfl) rfl
theorem m503 : Cond.fieldLink RX12 40 "DebtRoomsModel" "debtRooms" "[I" ∈ gt := gt_t (tb_4 197 rfl) rfl
theorem m504 : Cond.fieldLink RX12 43 "DebtRoomsModel" "sums" "[I" ∈ gt := gt_t (tb_4 198 rfl) rfl
theorem m505 : Cond.fieldLink RX12 46 "DebtRoomsModel" "paid" "[I" ∈ gt := gt_t (tb_4 199 rfl) rfl
theorem m506 : Cond.code yX12_house cX12_house 3 (some .int) ∈ gt := gt_t (tb_5 126 rfl) rfl
theorem m507 : Cond.code yX12_lacks cX12_lacks 1 (some .boolean) ∈ gt := gt_t (tb_6 69 rfl) rfl
theorem m508 : Cond.code yX12_isPerson cX12_isPerson 2 (some .boolean) ∈ gt := gt_t (tb_5 137 rfl) rfl
theorem m509 : Cond.code yX12_isDoor cX12_isDoor 2 (some .boolean) ∈ gt := gt_t (tb_5 201 rfl) rfl
theorem m510 : Cond.code yX12_isDebt cX12_isDebt 2 (some .boolean) ∈ gt := gt_t (tb_5 213 rfl) rfl
theorem m511 : Cond.code yX12_isRoom cX12_isRoom 2 (some .boolean) ∈ gt := gt_t (tb_6 10 rfl) rfl
theorem m512 : Cond.code yX12_isRich cX12_isRich 2 (some .boolean) ∈ gt := gt_t (tb_5 157 rfl) rfl
theorem m513 : Cond.code yX12_costs cX12_costs 2 (some .int) ∈ gt := gt_t (tb_5 176 rfl) rfl
theorem m514 : Cond.fieldLink RX12 49 "DebtRoomsModel" "pursesThen" "[I" ∈ gt := gt_t (tb_4 200 rfl) rfl
theorem m515 : Cond.methodLink RX12 177 yX12_copy ∈ gt := gt_t (tb_5 166 rfl) rfl
theorem m516 : Cond.static yX12_copy ∈ gt := gt_t (tb_5 167 rfl) rfl
theorem m517 : Cond.fieldLink RX12 52 "DebtRoomsModel" "placesThen" "[I" ∈ gt := gt_t (tb_4 201 rfl) rfl
theorem m518 : Cond.fieldLink RX12 55 "DebtRoomsModel" "paidThen" "[I" ∈ gt := gt_t (tb_4 202 rfl) rfl
theorem m519 : Cond.code yX12_begin cX12_begin 1 none ∈ gt := gt_t (tb_5 165 rfl) rfl
theorem m520 : Cond.methodLink RX12 181 yX12_isRich ∈ gt := gt_t (tb_5 154 rfl) rfl
theorem m521 : Cond.instanceMethod yX12_isRich ∈ gt := gt_t (tb_5 156 rfl) rfl
theorem m522 : Cond.selects RX12 yX12_isRich yX12_isRich ∈ gt := gt_s (pr_s (q := (yX12_isRich, 44)) (List.mem_of_getElem? (i := 72) rfl)) rfl
theorem m523 : Cond.code yX12_through cX12_through 6 (some .int) ∈ gt := gt_t (tb_5 153 rfl) rfl
theorem m524 : Cond.methodLink RX12 184 yX12_costs ∈ gt := gt_t (tb_5 173 rfl) rfl
theorem m525 : Cond.instanceMethod yX12_costs ∈ gt := gt_t (tb_5 175 rfl) rfl
theorem m526 : Cond.selects RX12 yX12_costs yX12_costs ∈ gt := gt_s (pr_s (q := (yX12_costs, 44)) (List.mem_of_getElem? (i := 76) rfl)) rfl
theorem m527 : Cond.code yX12_mayThen cX12_mayThen 4 (some .boolean) ∈ gt := gt_t (tb_5 172 rfl) rfl
theorem m528 : Cond.code yX12_payThen cX12_payThen 3 none ∈ gt := gt_t (tb_5 233 rfl) rfl
theorem m529 : Cond.code yX12_keysOf cX12_keysOf 2 (some .int) ∈ gt := gt_t (tb_5 145 rfl) rfl
theorem m530 : Cond.methodLink RX12 187 yX12_through ∈ gt := gt_t (tb_5 150 rfl) rfl
theorem m531 : Cond.instanceMethod yX12_through ∈ gt := gt_t (tb_5 152 rfl) rfl
theorem m532 : Cond.selects RX12 yX12_through yX12_through ∈ gt := gt_s (pr_s (q := (yX12_through, 44)) (List.mem_of_getElem? (i := 71) rfl)) rfl
theorem m533 : Cond.code yX12_doorsOf cX12_doorsOf 4 (some .int) ∈ gt := gt_t (tb_5 149 rfl) rfl
theorem m534 : Cond.methodLink RX12 191 yX12_begin ∈ gt := gt_t (tb_5 162 rfl) rfl
theorem m535 : Cond.instanceMethod yX12_begin ∈ gt := gt_t (tb_5 164 rfl) rfl
theorem m536 : Cond.selects RX12 yX12_begin yX12_begin ∈ gt := gt_s (pr_s (q := (yX12_begin, 44)) (List.mem_of_getElem? (i := 74) rfl)) rfl
theorem m537 : Cond.methodLink RX12 194 yX12_mayThen ∈ gt := gt_t (tb_5 169 rfl) rfl
theorem m538 : Cond.instanceMethod yX12_mayThen ∈ gt := gt_t (tb_5 171 rfl) rfl
theorem m539 : Cond.selects RX12 yX12_mayThen yX12_mayThen ∈ gt := gt_s (pr_s (q := (yX12_mayThen, 44)) (List.mem_of_getElem? (i := 75) rfl)) rfl
theorem m540 : Cond.code yX12_mayPay cX12_mayPay 4 (some .int) ∈ gt := gt_t (tb_5 161 rfl) rfl
theorem m541 : Cond.code yX12_standing cX12_standing 4 (some .int) ∈ gt := gt_t (tb_5 180 rfl) rfl
theorem m542 : Cond.fieldLink RX12 76 "DebtRoomsModel" "sights" "[I" ∈ gt := gt_t (tb_4 210 rfl) rfl
theorem m543 : Cond.code yX12_pursesOf cX12_pursesOf 6 (some .int) ∈ gt := gt_t (tb_5 184 rfl) rfl
theorem m544 : Cond.methodLink RX12 209 yX12_pursesOf ∈ gt := gt_t (tb_5 181 rfl) rfl
theorem m545 : Cond.instanceMethod yX12_pursesOf ∈ gt := gt_t (tb_5 183 rfl) rfl
theorem m546 : Cond.selects RX12 yX12_pursesOf yX12_pursesOf ∈ gt := gt_s (pr_s (q := (yX12_pursesOf, 44)) (List.mem_of_getElem? (i := 78) rfl)) rfl
theorem m547 : Cond.code yX12_pressOf cX12_pressOf 9 (some .int) ∈ gt := gt_t (tb_5 188 rfl) rfl
theorem m548 : Cond.methodLink RX12 197 yX12_keysOf ∈ gt := gt_t (tb_5 142 rfl) rfl
theorem m549 : Cond.instanceMethod yX12_keysOf ∈ gt := gt_t (tb_5 144 rfl) rfl
theorem m550 : Cond.selects RX12 yX12_keysOf yX12_keysOf ∈ gt := gt_s (pr_s (q := (yX12_keysOf, 44)) (List.mem_of_getElem? (i := 69) rfl)) rfl
theorem m551 : Cond.methodLink RX12 200 yX12_doorsOf ∈ gt := gt_t (tb_5 146 rfl) rfl
theorem m552 : Cond.instanceMethod yX12_doorsOf ∈ gt := gt_t (tb_5 148 rfl) rfl
theorem m553 : Cond.selects RX12 yX12_doorsOf yX12_doorsOf ∈ gt := gt_s (pr_s (q := (yX12_doorsOf, 44)) (List.mem_of_getElem? (i := 70) rfl)) rfl
theorem m554 : Cond.methodLink RX12 203 yX12_mayPay ∈ gt := gt_t (tb_5 158 rfl) rfl
theorem m555 : Cond.instanceMethod yX12_mayPay ∈ gt := gt_t (tb_5 160 rfl) rfl
theorem m556 : Cond.selects RX12 yX12_mayPay yX12_mayPay ∈ gt := gt_s (pr_s (q := (yX12_mayPay, 44)) (List.mem_of_getElem? (i := 73) rfl)) rfl
theorem m557 : Cond.methodLink RX12 206 yX12_standing ∈ gt := gt_t (tb_5 177 rfl) rfl
theorem m558 : Cond.instanceMethod yX12_standing ∈ gt := gt_t (tb_5 179 rfl) rfl
theorem m559 : Cond.selects RX12 yX12_standing yX12_standing ∈ gt := gt_s (pr_s (q := (yX12_standing, 44)) (List.mem_of_getElem? (i := 77) rfl)) rfl
theorem m560 : Cond.methodLink RX12 212 yX12_pressOf ∈ gt := gt_t (tb_5 185 rfl) rfl
theorem m561 : Cond.instanceMethod yX12_pressOf ∈ gt := gt_t (tb_5 187 rfl) rfl
theorem m562 : Cond.selects RX12 yX12_pressOf yX12_pressOf ∈ gt := gt_s (pr_s (q := (yX12_pressOf, 44)) (List.mem_of_getElem? (i := 79) rfl)) rfl
theorem m563 : Cond.code yX12_tellPerson cX12_tellPerson 3 (some .int) ∈ gt := gt_t (tb_5 141 rfl) rfl
theorem m564 : Cond.methodLink RX12 215 yX12_isPerson ∈ gt := gt_t (tb_5 134 rfl) rfl
theorem m565 : Cond.instanceMethod yX12_isPerson ∈ gt := gt_t (tb_5 136 rfl) rfl
theorem m566 : Cond.selects RX12 yX12_isPerson yX12_isPerson ∈ gt := gt_s (pr_s (q := (yX12_isPerson, 44)) (List.mem_of_getElem? (i := 67) rfl)) rfl
theorem m567 : Cond.methodLink RX12 218 yX12_tellPerson ∈ gt := gt_t (tb_5 138 rfl) rfl
theorem m568 : Cond.instanceMethod yX12_tellPerson ∈ gt := gt_t (tb_5 140 rfl) rfl
theorem m569 : Cond.selects RX12 yX12_tellPerson yX12_tellPerson ∈ gt := gt_s (pr_s (q := (yX12_tellPerson, 44)) (List.mem_of_getElem? (i := 68) rfl)) rfl
theorem m570 : Cond.code yX12_person cX12_person 3 (some .int) ∈ gt := gt_t (tb_5 133 rfl) rfl
theorem m571 : Cond.constantLong RX12 222 (4) ∈ gt := gt_t (tb_5 193 rfl) rfl
theorem m572 : Cond.code yX12_as cX12_as 4 (some .int) ∈ gt := gt_t (tb_5 192 rfl) rfl
theorem m573 : Cond.code yX12_tellDoor cX12_tellDoor 3 (some .int) ∈ gt := gt_t (tb_5 205 rfl) rfl
theorem m574 : Cond.methodLink RX12 224 yX12_isDoor ∈ gt := gt_t (tb_5 198 rfl) rfl
theorem m575 : Cond.instanceMethod yX12_isDoor ∈ gt := gt_t (tb_5 200 rfl) rfl
theorem m576 : Cond.selects RX12 yX12_isDoor yX12_isDoor ∈ gt := gt_s (pr_s (q := (yX12_isDoor, 44)) (List.mem_of_getElem? (i := 80) rfl)) rfl
theorem m577 : Cond.methodLink RX12 227 yX12_tellDoor ∈ gt := gt_t (tb_5 202 rfl) rfl
theorem m578 : Cond.instanceMethod yX12_tellDoor ∈ gt := gt_t (tb_5 204 rfl) rfl
theorem m579 : Cond.selects RX12 yX12_tellDoor yX12_tellDoor ∈ gt := gt_s (pr_s (q := (yX12_tellDoor, 44)) (List.mem_of_getElem? (i := 81) rfl)) rfl
theorem m580 : Cond.code yX12_door cX12_door 3 (some .int) ∈ gt := gt_t (tb_5 197 rfl) rfl
theorem m581 : Cond.code yX12_tellDebt cX12_tellDebt 3 (some .int) ∈ gt := gt_t (tb_5 217 rfl) rfl
theorem m582 : Cond.methodLink RX12 230 yX12_isDebt ∈ gt := gt_t (tb_5 210 rfl) rfl
theorem m583 : Cond.instanceMethod yX12_isDebt ∈ gt := gt_t (tb_5 212 rfl) rfl
theorem m584 : Cond.selects RX12 yX12_isDebt yX12_isDebt ∈ gt := gt_s (pr_s (q := (yX12_isDebt, 44)) (List.mem_of_getElem? (i := 82) rfl)) rfl
theorem m585 : Cond.methodLink RX12 233 yX12_tellDebt ∈ gt := gt_t (tb_5 214 rfl) rfl
theorem m586 : Cond.instanceMethod yX12_tellDebt ∈ gt := gt_t (tb_5 216 rfl) rfl
theorem m587 : Cond.selects RX12 yX12_tellDebt yX12_tellDebt ∈ gt := gt_s (pr_s (q := (yX12_tellDebt, 44)) (List.mem_of_getElem? (i := 83) rfl)) rfl
theorem m588 : Cond.code yX12_debt cX12_debt 3 (some .int) ∈ gt := gt_t (tb_5 209 rfl) rfl
theorem m589 : Cond.code yX12_go cX12_go 4 (some .int) ∈ gt := gt_t (tb_5 221 rfl) rfl
theorem m590 : Cond.code yX12_give cX12_give 4 (some .int) ∈ gt := gt_t (tb_5 225 rfl) rfl
theorem m591 : Cond.methodLink RX12 236 yX12_payThen ∈ gt := gt_t (tb_5 230 rfl) rfl
theorem m592 : Cond.instanceMethod yX12_payThen ∈ gt := gt_t (tb_5 232 rfl) rfl
theorem m593 : Cond.selects RX12 yX12_payThen yX12_payThen ∈ gt := gt_s (pr_s (q := (yX12_payThen, 44)) (List.mem_of_getElem? (i := 84) rfl)) rfl
theorem m594 : Cond.code yX12_pay cX12_pay 2 (some .int) ∈ gt := gt_t (tb_5 229 rfl) rfl
theorem m595 : Cond.constantLong RX12 240 (9) ∈ gt := gt_t (tb_5 238 rfl) rfl
theorem m596 : Cond.code yX12_earn cX12_earn 3 (some .int) ∈ gt := gt_t (tb_5 237 rfl) rfl
theorem m597 : Cond.code yX12_owe cX12_owe 4 (some .int) ∈ gt := gt_t (tb_6 2 rfl) rfl
theorem m598 : Cond.fieldLink RX12 58 "DebtRoomsModel" "far" "[I" ∈ gt := gt_t (tb_4 203 rfl) rfl
theorem m599 : Cond.code yX12_layFar cX12_layFar 7 none ∈ gt := gt_t (tb_6 20 rfl) rfl
theorem m600 : Cond.methodLink RX12 242 yX12_layFar ∈ gt := gt_t (tb_6 17 rfl) rfl
theorem m601 : Cond.instanceMethod yX12_layFar ∈ gt := gt_t (tb_6 19 rfl) rfl
theorem m602 : Cond.selects RX12 yX12_layFar yX12_layFar ∈ gt := gt_s (pr_s (q := (yX12_layFar, 44)) (List.mem_of_getElem? (i := 87) rfl)) rfl
theorem m603 : Cond.code yX12_wayOf cX12_wayOf 10 (some .int) ∈ gt := gt_t (tb_6 16 rfl) rfl
theorem m604 : Cond.methodLink RX12 246 yX12_isRoom ∈ gt := gt_t (tb_6 7 rfl) rfl
theorem m605 : Cond.instanceMethod yX12_isRoom ∈ gt := gt_t (tb_6 9 rfl) rfl
theorem m606 : Cond.selects RX12 yX12_isRoom yX12_isRoom ∈ gt := gt_s (pr_s (q := (yX12_isRoom, 44)) (List.mem_of_getElem? (i := 85) rfl)) rfl
theorem m607 : Cond.constantLong RX12 249 (10) ∈ gt := gt_t (tb_6 11 rfl) rfl
theorem m608 : Cond.constantLong RX12 251 (14) ∈ gt := gt_t (tb_6 12 rfl) rfl
theorem m609 : Cond.methodLink RX12 253 yX12_wayOf ∈ gt := gt_t (tb_6 13 rfl) rfl
theorem m610 : Cond.instanceMethod yX12_wayOf ∈ gt := gt_t (tb_6 15 rfl) rfl
theorem m611 : Cond.selects RX12 yX12_wayOf yX12_wayOf ∈ gt := gt_s (pr_s (q := (yX12_wayOf, 44)) (List.mem_of_getElem? (i := 86) rfl)) rfl
theorem m612 : Cond.code yX12_way cX12_way 4 (some .int) ∈ gt := gt_t (tb_6 6 rfl) rfl
theorem m613 : Cond.code yX12_payHere cX12_payHere 4 (some .int) ∈ gt := gt_t (tb_6 37 rfl) rfl
theorem m614 : Cond.methodLink RX12 256 yX12_payHere ∈ gt := gt_t (tb_6 34 rfl) rfl
theorem m615 : Cond.instanceMethod yX12_payHere ∈ gt := gt_t (tb_6 36 rfl) rfl
theorem m616 : Cond.selects RX12 yX12_payHere yX12_payHere ∈ gt := gt_s (pr_s (q := (yX12_payHere, 44)) (List.mem_of_getElem? (i := 90) rfl)) rfl
theorem m617 : Cond.code yX12_paysBy cX12_paysBy 9 (some .int) ∈ gt := gt_t (tb_6 33 rfl) rfl
theorem m618 : Cond.methodLink RX12 259 yX12_paysBy ∈ gt := gt_t (tb_6 30 rfl) rfl
theorem m619 : Cond.instanceMethod yX12_paysBy ∈ gt := gt_t (tb_6 32 rfl) rfl
theorem m620 : Cond.selects RX12 yX12_paysBy yX12_paysBy ∈ gt := gt_s (pr_s (q := (yX12_paysBy, 44)) (List.mem_of_getElem? (i := 89) rfl)) rfl
theorem m621 : Cond.code yX12_nightOf cX12_nightOf 9 (some .int) ∈ gt := gt_t (tb_6 29 rfl) rfl
theorem m622 : Cond.constantLong RX12 262 (13) ∈ gt := gt_t (tb_6 25 rfl) rfl
theorem m623 : Cond.methodLink RX12 264 yX12_nightOf ∈ gt := gt_t (tb_6 26 rfl) rfl
theorem m624 : Cond.instanceMethod yX12_nightOf ∈ gt := gt_t (tb_6 28 rfl) rfl
theorem m625 : Cond.selects RX12 yX12_nightOf yX12_nightOf ∈ gt := gt_s (pr_s (q := (yX12_nightOf, 44)) (List.mem_of_getElem? (i := 88) rfl)) rfl
theorem m626 : Cond.code yX12_night cX12_night 4 (some .int) ∈ gt := gt_t (tb_6 24 rfl) rfl
theorem m627 : Cond.code yX12_isOf cX12_isOf 3 (some .boolean) ∈ gt := gt_t (tb_6 57 rfl) rfl
theorem m628 : Cond.methodLink RX12 267 yX12_isOf ∈ gt := gt_t (tb_6 54 rfl) rfl
theorem m629 : Cond.instanceMethod yX12_isOf ∈ gt := gt_t (tb_6 56 rfl) rfl
theorem m630 : Cond.selects RX12 yX12_isOf yX12_isOf ∈ gt := gt_s (pr_s (q := (yX12_isOf, 44)) (List.mem_of_getElem? (i := 94) rfl)) rfl
theorem m631 : Cond.code yX12_topOf cX12_topOf 3 (some .int) ∈ gt := gt_t (tb_6 53 rfl) rfl
theorem m632 : Cond.fieldLink RX12 64 "DebtRoomsModel" "balance" "[I" ∈ gt := gt_t (tb_4 205 rfl) rfl
theorem m633 : Cond.fieldLink RX12 61 "DebtRoomsModel" "less" "[I" ∈ gt := gt_t (tb_4 204 rfl) rfl
theorem m634 : Cond.code yX12_lessBy cX12_lessBy 3 (some .int) ∈ gt := gt_t (tb_6 61 rfl) rfl
theorem m635 : Cond.methodLink RX12 271 yX12_topOf ∈ gt := gt_t (tb_6 50 rfl) rfl
theorem m636 : Cond.instanceMethod yX12_topOf ∈ gt := gt_t (tb_6 52 rfl) rfl
theorem m637 : Cond.selects RX12 yX12_topOf yX12_topOf ∈ gt := gt_s (pr_s (q := (yX12_topOf, 44)) (List.mem_of_getElem? (i := 93) rfl)) rfl
theorem m638 : Cond.methodLink RX12 274 yX12_lessBy ∈ gt := gt_t (tb_6 58 rfl) rfl
theorem m639 : Cond.instanceMethod yX12_lessBy ∈ gt := gt_t (tb_6 60 rfl) rfl
theorem m640 : Cond.selects RX12 yX12_lessBy yX12_lessBy ∈ gt := gt_s (pr_s (q := (yX12_lessBy, 44)) (List.mem_of_getElem? (i := 95) rfl)) rfl
theorem m641 : Cond.fieldLink RX12 67 "DebtRoomsModel" "bestLess" "[I" ∈ gt := gt_t (tb_4 206 rfl) rfl
theorem m642 : Cond.code yX12_layCancel cX12_layCancel 4 (some .int) ∈ gt := gt_t (tb_6 49 rfl) rfl
theorem m643 : Cond.methodLink RX12 277 yX12_layCancel ∈ gt := gt_t (tb_6 46 rfl) rfl
theorem m644 : Cond.instanceMethod yX12_layCancel ∈ gt := gt_t (tb_6 48 rfl) rfl
theorem m645 : Cond.selects RX12 yX12_layCancel yX12_layCancel ∈ gt := gt_s (pr_s (q := (yX12_layCancel, 44)) (List.mem_of_getElem? (i := 92) rfl)) rfl
theorem m646 : Cond.code yX12_cancelOf cX12_cancelOf 4 (some .int) ∈ gt := gt_t (tb_6 45 rfl) rfl
theorem m647 : Cond.methodLink RX12 280 yX12_cancelOf ∈ gt := gt_t (tb_6 42 rfl) rfl
theorem m648 : Cond.instanceMethod yX12_cancelOf ∈ gt := gt_t (tb_6 44 rfl) rfl
theorem m649 : Cond.selects RX12 yX12_cancelOf yX12_cancelOf ∈ gt := gt_s (pr_s (q := (yX12_cancelOf, 44)) (List.mem_of_getElem? (i := 91) rfl)) rfl
theorem m650 : Cond.code yX12_cancel cX12_cancel 3 (some .int) ∈ gt := gt_t (tb_6 41 rfl) rfl
theorem m651 : Cond.code yX12_owesThen cX12_owesThen 4 (some .int) ∈ gt := gt_t (tb_6 77 rfl) rfl
theorem m652 : Cond.methodLink RX12 283 yX12_owesThen ∈ gt := gt_t (tb_6 74 rfl) rfl
theorem m653 : Cond.instanceMethod yX12_owesThen ∈ gt := gt_t (tb_6 76 rfl) rfl
theorem m654 : Cond.selects RX12 yX12_owesThen yX12_owesThen ∈ gt := gt_s (pr_s (q := (yX12_owesThen, 44)) (List.mem_of_getElem? (i := 98) rfl)) rfl
theorem m655 : Cond.code yX12_soundOf cX12_soundOf 5 (some .int) ∈ gt := gt_t (tb_6 73 rfl) rfl
theorem m656 : Cond.methodLink RX12 286 yX12_lacks ∈ gt := gt_t (tb_6 66 rfl) rfl
theorem m657 : Cond.instanceMethod yX12_lacks ∈ gt := gt_t (tb_6 68 rfl) rfl
theorem m658 : Cond.selects RX12 yX12_lacks yX12_lacks ∈ gt := gt_s (pr_s (q := (yX12_lacks, 44)) (List.mem_of_getElem? (i := 96) rfl)) rfl
theorem m659 : Cond.methodLink RX12 290 yX12_soundOf ∈ gt := gt_t (tb_6 70 rfl) rfl
theorem m660 : Cond.instanceMethod yX12_soundOf ∈ gt := gt_t (tb_6 72 rfl) rfl
theorem m661 : Cond.selects RX12 yX12_soundOf yX12_soundOf ∈ gt := gt_s (pr_s (q := (yX12_soundOf, 44)) (List.mem_of_getElem? (i := 97) rfl)) rfl
theorem m662 : Cond.code yX12_sound cX12_sound 1 (some .int) ∈ gt := gt_t (tb_6 65 rfl) rfl
theorem m663 : Cond.fieldLink RX12 73 "DebtRoomsModel" "waysThen" "[I" ∈ gt := gt_t (tb_4 208 rfl) rfl
theorem m664 : Cond.fieldLink RX12 70 "DebtRoomsModel" "ways" "[I" ∈ gt := gt_t (tb_4 207 rfl) rfl
theorem m665 : Cond.code yX12_goAll cX12_goAll 6 none ∈ gt := gt_t (tb_6 90 rfl) rfl
theorem m666 : Cond.methodLink RX12 293 yX12_goAll ∈ gt := gt_t (tb_6 87 rfl) rfl
theorem m667 : Cond.instanceMethod yX12_goAll ∈ gt := gt_t (tb_6 89 rfl) rfl
theorem m668 : Cond.selects RX12 yX12_goAll yX12_goAll ∈ gt := gt_s (pr_s (q := (yX12_goAll, 44)) (List.mem_of_getElem? (i := 100) rfl)) rfl
theorem m669 : Cond.code yX12_metOf cX12_metOf 10 (some .int) ∈ gt := gt_t (tb_6 86 rfl) rfl
theorem m670 : Cond.constantLong RX12 296 (3) ∈ gt := gt_t (tb_6 82 rfl) rfl
theorem m671 : Cond.methodLink RX12 298 yX12_metOf ∈ gt := gt_t (tb_6 83 rfl) rfl
theorem m672 : Cond.instanceMethod yX12_metOf ∈ gt := gt_t (tb_6 85 rfl) rfl
theorem m673 : Cond.selects RX12 yX12_metOf yX12_metOf ∈ gt := gt_s (pr_s (q := (yX12_metOf, 44)) (List.mem_of_getElem? (i := 99) rfl)) rfl
theorem m674 : Cond.code yX12_met cX12_met 5 (some .int) ∈ gt := gt_t (tb_6 81 rfl) rfl
theorem m675 : Cond.code yX12_see cX12_see 3 (some .int) ∈ gt := gt_t (tb_6 94 rfl) rfl
theorem m676 : Cond.code yX12_forget cX12_forget 2 (some .int) ∈ gt := gt_t (tb_6 98 rfl) rfl
theorem m677 : Cond.constantLong RX12 302 (1103515245) ∈ gt := gt_t (tb_6 109 rfl) rfl
theorem m678 : Cond.fieldLink RX12 304 "DebtRoomsModel" "seedNow" "I" ∈ gt := gt_t (tb_4 211 rfl) rfl
theorem m679 : Cond.constantLong RX12 307 (12345) ∈ gt := gt_t (tb_6 110 rfl) rfl
theorem m680 : Cond.constantLong RX12 309 (2147483647) ∈ gt := gt_t (tb_6 111 rfl) rfl
theorem m681 : Cond.constant RX12 311 (65536) ∈ gt := gt_t (tb_6 112 rfl) rfl
theorem m682 : Cond.code yX12_draw cX12_draw 2 (some .int) ∈ gt := gt_t (tb_6 108 rfl) rfl
theorem m683 : Cond.code yX12_payAll cX12_payAll 4 (some .int) ∈ gt := gt_t (tb_6 116 rfl) rfl
theorem m684 : Cond.code yX12_paidMany cX12_paidMany 4 (some .int) ∈ gt := gt_t (tb_6 120 rfl) rfl
theorem m685 : Cond.constantLong RX12 312 (60) ∈ gt := gt_t (tb_6 103 rfl) rfl
theorem m686 : Cond.constantLong RX12 314 (2) ∈ gt := gt_t (tb_6 104 rfl) rfl
theorem m687 : Cond.methodLink RX12 322 yX12_paidMany ∈ gt := gt_t (tb_6 117 rfl) rfl
theorem m688 : Cond.instanceMethod yX12_paidMany ∈ gt := gt_t (tb_6 119 rfl) rfl
theorem m689 : Cond.selects RX12 yX12_paidMany yX12_paidMany ∈ gt := gt_s (pr_s (q := (yX12_paidMany, 44)) (List.mem_of_getElem? (i := 103) rfl)) rfl
theorem m690 : Cond.methodLink RX12 316 yX12_draw ∈ gt := gt_t (tb_6 105 rfl) rfl
theorem m691 : Cond.instanceMethod yX12_draw ∈ gt := gt_t (tb_6 107 rfl) rfl
theorem m692 : Cond.selects RX12 yX12_draw yX12_draw ∈ gt := gt_s (pr_s (q := (yX12_draw, 44)) (List.mem_of_getElem? (i := 101) rfl)) rfl
theorem m693 : Cond.methodLink RX12 319 yX12_payAll ∈ gt := gt_t (tb_6 113 rfl) rfl
theorem m694 : Cond.instanceMethod yX12_payAll ∈ gt := gt_t (tb_6 115 rfl) rfl
theorem m695 : Cond.selects RX12 yX12_payAll yX12_payAll ∈ gt := gt_s (pr_s (q := (yX12_payAll, 44)) (List.mem_of_getElem? (i := 102) rfl)) rfl
theorem m696 : Cond.code yX12_winters cX12_winters 8 (some .int) ∈ gt := gt_t (tb_6 102 rfl) rfl
theorem m697 : Cond.fieldLink RX12 79 "DebtRoomsModel" "keptPurses" "[I" ∈ gt := gt_t (tb_4 215 rfl) rfl
theorem m698 : Cond.fieldLink RX12 82 "DebtRoomsModel" "keptPlaces" "[I" ∈ gt := gt_t (tb_4 216 rfl) rfl
theorem m699 : Cond.fieldLink RX12 85 "DebtRoomsModel" "keptKeys" "[I" ∈ gt := gt_t (tb_4 217 rfl) rfl
theorem m700 : Cond.fieldLink RX12 88 "DebtRoomsModel" "keptSums" "[I" ∈ gt := gt_t (tb_4 218 rfl) rfl
theorem m701 : Cond.fieldLink RX12 91 "DebtRoomsModel" "keptPaid" "[I" ∈ gt := gt_t (tb_4 219 rfl) rfl
theorem m702 : Cond.fieldLink RX12 94 "DebtRoomsModel" "keptSights" "[I" ∈ gt := gt_t (tb_4 220 rfl) rfl
theorem m703 : Cond.fieldLink RX12 326 "DebtRoomsModel" "keptGone" "I" ∈ gt := gt_t (tb_4 213 rfl) rfl
theorem m704 : Cond.fieldLink RX12 329 "DebtRoomsModel" "keptSeen" "I" ∈ gt := gt_t (tb_4 214 rfl) rfl
theorem m705 : Cond.fieldLink RX12 97 "DebtRoomsModel" "keptHouse" "I" ∈ gt := gt_t (tb_4 212 rfl) rfl
theorem m706 : Cond.code yX12_image cX12_image 1 (some .int) ∈ gt := gt_t (tb_6 124 rfl) rfl
theorem m707 : Cond.code yX12_restore cX12_restore 1 (some .int) ∈ gt := gt_t (tb_6 128 rfl) rfl
theorem m708 : Cond.code yX12_owedAll cX12_owedAll 3 (some .int) ∈ gt := gt_t (tb_6 140 rfl) rfl
theorem m709 : Cond.code yX12_pursesAll cX12_pursesAll 3 (some .int) ∈ gt := gt_t (tb_6 144 rfl) rfl
theorem m710 : Cond.methodLink RX12 332 yX12_owedAll ∈ gt := gt_t (tb_6 137 rfl) rfl
theorem m711 : Cond.instanceMethod yX12_owedAll ∈ gt := gt_t (tb_6 139 rfl) rfl
theorem m712 : Cond.selects RX12 yX12_owedAll yX12_owedAll ∈ gt := gt_s (pr_s (q := (yX12_owedAll, 44)) (List.mem_of_getElem? (i := 105) rfl)) rfl
theorem m713 : Cond.methodLink RX12 335 yX12_pursesAll ∈ gt := gt_t (tb_6 141 rfl) rfl
theorem m714 : Cond.instanceMethod yX12_pursesAll ∈ gt := gt_t (tb_6 143 rfl) rfl
theorem m715 : Cond.selects RX12 yX12_pursesAll yX12_pursesAll ∈ gt := gt_s (pr_s (q := (yX12_pursesAll, 44)) (List.mem_of_getElem? (i := 106) rfl)) rfl
theorem m716 : Cond.code yX12_countOf cX12_countOf 2 (some .int) ∈ gt := gt_t (tb_6 136 rfl) rfl
theorem m717 : Cond.methodLink RX12 338 yX12_countOf ∈ gt := gt_t (tb_6 133 rfl) rfl
theorem m718 : Cond.instanceMethod yX12_countOf ∈ gt := gt_t (tb_6 135 rfl) rfl
theorem m719 : Cond.selects RX12 yX12_countOf yX12_countOf ∈ gt := gt_s (pr_s (q := (yX12_countOf, 44)) (List.mem_of_getElem? (i := 104) rfl)) rfl
theorem m720 : Cond.code yX12_count cX12_count 2 (some .int) ∈ gt := gt_t (tb_6 132 rfl) rfl
theorem m721 : Cond.constantLong RX12 341 (31) ∈ gt := gt_t (tb_6 158 rfl) rfl
theorem m722 : Cond.fieldLink RX12 343 "DebtRoomsModel" "hash" "J" ∈ gt := gt_t (tb_4 221 rfl) rfl
theorem m723 : Cond.code yX12_say cX12_say 3 none ∈ gt := gt_t (tb_6 157 rfl) rfl
theorem m724 : Cond.methodLink RX12 347 yX12_say ∈ gt := gt_t (tb_6 154 rfl) rfl
theorem m725 : Cond.instanceMethod yX12_say ∈ gt := gt_t (tb_6 156 rfl) rfl
theorem m726 : Cond.selects RX12 yX12_say yX12_say ∈ gt := gt_s (pr_s (q := (yX12_say, 44)) (List.mem_of_getElem? (i := 108) rfl)) rfl
theorem m727 : Cond.code yX12_sayPerson cX12_sayPerson 3 none ∈ gt := gt_t (tb_6 153 rfl) rfl
theorem m728 : Cond.code yX12_sayThings cX12_sayThings 3 none ∈ gt := gt_t (tb_6 162 rfl) rfl
theorem m729 : Cond.constantLong RX12 351 (1223) ∈ gt := gt_t (tb_6 149 rfl) rfl
theorem m730 : Cond.methodLink RX12 356 yX12_sayThings ∈ gt := gt_t (tb_6 159 rfl) rfl
theorem m731 : Cond.instanceMethod yX12_sayThings ∈ gt := gt_t (tb_6 161 rfl) rfl
theorem m732 : Cond.selects RX12 yX12_sayThings yX12_sayThings ∈ gt := gt_s (pr_s (q := (yX12_sayThings, 44)) (List.mem_of_getElem? (i := 109) rfl)) rfl
theorem m733 : Cond.methodLink RX12 353 yX12_sayPerson ∈ gt := gt_t (tb_6 150 rfl) rfl
theorem m734 : Cond.instanceMethod yX12_sayPerson ∈ gt := gt_t (tb_6 152 rfl) rfl
theorem m735 : Cond.selects RX12 yX12_sayPerson yX12_sayPerson ∈ gt := gt_s (pr_s (q := (yX12_sayPerson, 44)) (List.mem_of_getElem? (i := 107) rfl)) rfl
theorem m736 : Cond.code yX12_digest cX12_digest 2 (some .long) ∈ gt := gt_t (tb_6 148 rfl) rfl
theorem m737 : Cond.methodLink RX11 100 yX7_number ∈ gt := gt_t (tb_3 55 rfl) rfl
theorem m738 : Cond.sameMethod RX7 RX7 "number" "()I" ∈ gt := gt_t (tb_3 58 rfl) rfl
theorem m739 : Cond.selects RX8 yX7_number yX8_number ∈ gt := gt_t (tb_3 68 rfl) rfl
theorem m740 : Cond.instanceMethod yX8_number ∈ gt := gt_t (tb_3 69 rfl) rfl
theorem m741 : Cond.instanceMethod yX7_number ∈ gt := gt_t (tb_3 56 rfl) rfl
theorem m742 : Cond.selects RX1 yX7_number yX1_number ∈ gt := gt_t (tb_3 59 rfl) rfl
theorem m743 : Cond.instanceMethod yX1_number ∈ gt := gt_t (tb_3 60 rfl) rfl
theorem m744 : Cond.selects RX3 yX7_number yX3_number ∈ gt := gt_t (tb_3 65 rfl) rfl
theorem m745 : Cond.instanceMethod yX3_number ∈ gt := gt_t (tb_3 66 rfl) rfl
theorem m746 : Cond.selects RX2 yX7_number yX2_number ∈ gt := gt_t (tb_3 62 rfl) rfl
theorem m747 : Cond.instanceMethod yX2_number ∈ gt := gt_t (tb_3 63 rfl) rfl
theorem m748 : Cond.selects RX7 yX7_number yX7_number ∈ gt := gt_t (tb_3 57 rfl) rfl
theorem m749 : Cond.methodLink RX0 54 yX7_passes ∈ gt := gt_t (tb_3 92 rfl) rfl
theorem m750 : Cond.sameMethod RX7 RX7 "passes" "(ZZ)Z" ∈ gt := gt_t (tb_3 95 rfl) rfl
theorem m751 : Cond.selects RX8 yX7_passes yX8_passes ∈ gt := gt_t (tb_3 103 rfl) rfl
theorem m752 : Cond.instanceMethod yX8_passes ∈ gt := gt_t (tb_3 100 rfl) rfl
theorem m753 : Cond.instanceMethod yX7_passes ∈ gt := gt_t (tb_3 93 rfl) rfl
theorem m754 : Cond.selects RX1 yX7_passes yX1_passes ∈ gt := gt_t (tb_3 96 rfl) rfl
theorem m755 : Cond.instanceMethod yX1_passes ∈ gt := gt_t (tb_3 97 rfl) rfl
theorem m756 : Cond.selects RX3 yX7_passes yX7_passes ∈ gt := gt_t (tb_3 102 rfl) rfl
theorem m757 : Cond.selects RX2 yX7_passes yX8_passes ∈ gt := gt_t (tb_3 99 rfl) rfl
theorem m758 : Cond.selects RX7 yX7_passes yX7_passes ∈ gt := gt_t (tb_3 94 rfl) rfl
theorem m759 : Cond.methodLink RX0 74 yX7_costOfSum ∈ gt := gt_t (tb_3 117 rfl) rfl
theorem m760 : Cond.sameMethod RX7 RX7 "costOfSum" "(I)I" ∈ gt := gt_t (tb_3 120 rfl) rfl
theorem m761 : Cond.selects RX8 yX7_costOfSum yX8_costOfSum ∈ gt := gt_t (tb_3 126 rfl) rfl
theorem m762 : Cond.instanceMethod yX8_costOfSum ∈ gt := gt_t (tb_3 127 rfl) rfl
theorem m763 : Cond.instanceMethod yX7_costOfSum ∈ gt := gt_t (tb_3 118 rfl) rfl
theorem m764 : Cond.selects RX1 yX7_costOfSum yX7_costOfSum ∈ gt := gt_t (tb_3 121 rfl) rfl
theorem m765 : Cond.selects RX3 yX7_costOfSum yX7_costOfSum ∈ gt := gt_t (tb_3 125 rfl) rfl
theorem m766 : Cond.selects RX2 yX7_costOfSum yX2_costOfSum ∈ gt := gt_t (tb_3 122 rfl) rfl
theorem m767 : Cond.instanceMethod yX2_costOfSum ∈ gt := gt_t (tb_3 123 rfl) rfl
theorem m768 : Cond.selects RX7 yX7_costOfSum yX7_costOfSum ∈ gt := gt_t (tb_3 119 rfl) rfl
theorem m769 : Cond.methodLink RX0 87 yX7_mayPayFrom ∈ gt := gt_t (tb_3 130 rfl) rfl
theorem m770 : Cond.sameMethod RX7 RX7 "mayPayFrom" "(ZZ)Z" ∈ gt := gt_t (tb_3 133 rfl) rfl
theorem m771 : Cond.selects RX8 yX7_mayPayFrom yX8_mayPayFrom ∈ gt := gt_t (tb_3 141 rfl) rfl
theorem m772 : Cond.instanceMethod yX8_mayPayFrom ∈ gt := gt_t (tb_3 136 rfl) rfl
theorem m773 : Cond.instanceMethod yX7_mayPayFrom ∈ gt := gt_t (tb_3 131 rfl) rfl
theorem m774 : Cond.selects RX1 yX7_mayPayFrom yX7_mayPayFrom ∈ gt := gt_t (tb_3 134 rfl) rfl
theorem m775 : Cond.selects RX3 yX7_mayPayFrom yX3_mayPayFrom ∈ gt := gt_t (tb_3 138 rfl) rfl
theorem m776 : Cond.instanceMethod yX3_mayPayFrom ∈ gt := gt_t (tb_3 139 rfl) rfl
theorem m777 : Cond.selects RX2 yX7_mayPayFrom yX8_mayPayFrom ∈ gt := gt_t (tb_3 135 rfl) rfl
theorem m778 : Cond.selects RX7 yX7_mayPayFrom yX7_mayPayFrom ∈ gt := gt_t (tb_3 132 rfl) rfl
theorem m779 : Cond.classLink RX4 37 RX8 ∈ gt := gt_t (tb_3 11 rfl) rfl
theorem m780 : Cond.castable RX2 RX8 ∈ tables_1 := tb_6 163 rfl
theorem m781 : Cond.classLink RX4 40 RX1 ∈ gt := gt_t (tb_3 18 rfl) rfl
theorem m782 : Cond.classLink RX4 43 RX3 ∈ gt := gt_t (tb_3 25 rfl) rfl
theorem m783 : Cond.classLink RX4 46 RX2 ∈ gt := gt_t (tb_3 32 rfl) rfl
theorem m784 : Cond.laysFinal RX0 "DebtRooms$Affairs" "plan" "LDebtRooms$House;" ∈ gt := gt_t (tb_1 192 rfl) rfl
theorem m785 : Cond.laysFinal RX0 "DebtRooms$Affairs" "purse" "[I" ∈ gt := gt_t (tb_1 194 rfl) rfl
theorem m786 : Cond.laysFinal RX0 "DebtRooms$Affairs" "room" "[I" ∈ gt := gt_t (tb_1 196 rfl) rfl
theorem m787 : Cond.laysFinal RX0 "DebtRooms$Affairs" "holder" "[I" ∈ gt := gt_t (tb_1 198 rfl) rfl
theorem m788 : Cond.laysFinal RX0 "DebtRooms$Affairs" "sum" "[I" ∈ gt := gt_t (tb_1 200 rfl) rfl
theorem m789 : Cond.laysFinal RX0 "DebtRooms$Affairs" "paid" "[Z" ∈ gt := gt_t (tb_1 202 rfl) rfl
theorem m790 : Cond.laysFinal RX0 "DebtRooms$Affairs" "seenDebt" "[I" ∈ gt := gt_t (tb_1 204 rfl) rfl
theorem m791 : Cond.laysFinal RX0 "DebtRooms$Affairs" "seenCould" "[Z" ∈ gt := gt_t (tb_1 206 rfl) rfl
theorem m792 : Cond.lays RX0 "DebtRooms$Affairs" "seen" "I" ∈ gt := gt_t (tb_1 208 rfl) rfl
theorem m793 : Cond.lays RX0 "DebtRooms$Affairs" "gone" "I" ∈ gt := gt_t (tb_1 210 rfl) rfl
theorem m794 : Cond.lays RX4 "DebtRooms$House" "rooms" "I" ∈ gt := gt_t (tb_1 134 rfl) rfl
theorem m795 : Cond.lays RX4 "DebtRooms$House" "doors" "I" ∈ gt := gt_t (tb_1 136 rfl) rfl
theorem m796 : Cond.lays RX4 "DebtRooms$House" "people" "I" ∈ gt := gt_t (tb_1 138 rfl) rfl
theorem m797 : Cond.lays RX4 "DebtRooms$House" "debts" "I" ∈ gt := gt_t (tb_1 140 rfl) rfl
theorem m798 : Cond.laysFinal RX4 "DebtRooms$House" "oneEnd" "[I" ∈ gt := gt_t (tb_1 142 rfl) rfl
theorem m799 : Cond.laysFinal RX4 "DebtRooms$House" "otherEnd" "[I" ∈ gt := gt_t (tb_1 144 rfl) rfl
theorem m800 : Cond.laysFinal RX4 "DebtRooms$House" "lock" "[I" ∈ gt := gt_t (tb_1 146 rfl) rfl
theorem m801 : Cond.laysFinal RX4 "DebtRooms$House" "kinds" "[LDebtRooms$Person;" ∈ gt := gt_t (tb_1 148 rfl) rfl
theorem m802 : Cond.laysFinal RX4 "DebtRooms$House" "debtor" "[I" ∈ gt := gt_t (tb_1 150 rfl) rfl
theorem m803 : Cond.laysFinal RX4 "DebtRooms$House" "creditor" "[I" ∈ gt := gt_t (tb_1 152 rfl) rfl
theorem m804 : Cond.laysFinal RX4 "DebtRooms$House" "debtRoom" "[I" ∈ gt := gt_t (tb_1 154 rfl) rfl
theorem m805 : Cond.laysFinal RX5 "DebtRooms$Nights" "plan" "LDebtRooms$House;" ∈ gt := gt_t (tb_2 8 rfl) rfl
theorem m806 : Cond.laysFinal RX5 "DebtRooms$Nights" "levels" "[LDebtRooms$Affairs;" ∈ gt := gt_t (tb_2 10 rfl) rfl
theorem m807 : Cond.laysFinal RX5 "DebtRooms$Nights" "path" "[I" ∈ gt := gt_t (tb_2 12 rfl) rfl
theorem m808 : Cond.laysFinal RX5 "DebtRooms$Nights" "best" "[I" ∈ gt := gt_t (tb_2 14 rfl) rfl
theorem m809 : Cond.lays RX5 "DebtRooms$Nights" "most" "I" ∈ gt := gt_t (tb_2 16 rfl) rfl
theorem m810 : Cond.laysFinal RX6 "DebtRooms$Page" "letters" "[I" ∈ gt := gt_t (tb_1 50 rfl) rfl
theorem m811 : Cond.lays RX6 "DebtRooms$Page" "length" "I" ∈ gt := gt_t (tb_1 52 rfl) rfl
theorem m812 : Cond.lays RX6 "DebtRooms$Page" "faultAt" "I" ∈ gt := gt_t (tb_1 54 rfl) rfl
theorem m813 : Cond.lays RX6 "DebtRooms$Page" "isWhole" "Z" ∈ gt := gt_t (tb_1 56 rfl) rfl
theorem m814 : Cond.lays RX6 "DebtRooms$Page" "part" "I" ∈ gt := gt_t (tb_1 58 rfl) rfl
theorem m815 : Cond.lays RX6 "DebtRooms$Page" "field" "I" ∈ gt := gt_t (tb_1 60 rfl) rfl
theorem m816 : Cond.lays RX6 "DebtRooms$Page" "first" "I" ∈ gt := gt_t (tb_1 62 rfl) rfl
theorem m817 : Cond.lays RX6 "DebtRooms$Page" "rooms" "I" ∈ gt := gt_t (tb_1 64 rfl) rfl
theorem m818 : Cond.lays RX6 "DebtRooms$Page" "doors" "I" ∈ gt := gt_t (tb_1 66 rfl) rfl
theorem m819 : Cond.lays RX6 "DebtRooms$Page" "people" "I" ∈ gt := gt_t (tb_1 68 rfl) rfl
theorem m820 : Cond.lays RX6 "DebtRooms$Page" "debts" "I" ∈ gt := gt_t (tb_1 70 rfl) rfl
theorem m821 : Cond.laysFinal RX9 "DebtRooms$Rings" "plan" "LDebtRooms$House;" ∈ gt := gt_t (tb_2 34 rfl) rfl
theorem m822 : Cond.laysFinal RX9 "DebtRooms$Rings" "limit" "[I" ∈ gt := gt_t (tb_2 36 rfl) rfl
theorem m823 : Cond.laysFinal RX9 "DebtRooms$Rings" "less" "[I" ∈ gt := gt_t (tb_2 38 rfl) rfl
theorem m824 : Cond.laysFinal RX9 "DebtRooms$Rings" "best" "[I" ∈ gt := gt_t (tb_2 40 rfl) rfl
theorem m825 : Cond.laysFinal RX9 "DebtRooms$Rings" "lastDebt" "[I" ∈ gt := gt_t (tb_2 42 rfl) rfl
theorem m826 : Cond.laysFinal RX9 "DebtRooms$Rings" "uneven" "[I" ∈ gt := gt_t (tb_2 44 rfl) rfl
theorem m827 : Cond.lays RX9 "DebtRooms$Rings" "most" "I" ∈ gt := gt_t (tb_2 46 rfl) rfl
theorem m828 : Cond.laysFinal RX10 "DebtRooms$Walks" "plan" "LDebtRooms$House;" ∈ gt := gt_t (tb_1 224 rfl) rfl
theorem m829 : Cond.laysFinal RX10 "DebtRooms$Walks" "far" "[I" ∈ gt := gt_t (tb_1 226 rfl) rfl
theorem m830 : Cond.laysFinal RX10 "DebtRooms$Walks" "parts" "[I" ∈ gt := gt_t (tb_1 228 rfl) rfl
theorem m831 : Cond.laysFinal RX10 "DebtRooms$Walks" "next" "[I" ∈ gt := gt_t (tb_1 230 rfl) rfl
theorem m832 : Cond.laysFinal RX11 "DebtRooms" "page" "LDebtRooms$Page;" ∈ gt := gt_t (tb_2 59 rfl) rfl
theorem m833 : Cond.laysFinal RX11 "DebtRooms" "plan" "LDebtRooms$House;" ∈ gt := gt_t (tb_2 61 rfl) rfl
theorem m834 : Cond.laysFinal RX11 "DebtRooms" "now" "LDebtRooms$Affairs;" ∈ gt := gt_t (tb_2 63 rfl) rfl
theorem m835 : Cond.laysFinal RX11 "DebtRooms" "kept" "LDebtRooms$Affairs;" ∈ gt := gt_t (tb_2 65 rfl) rfl
theorem m836 : Cond.laysFinal RX11 "DebtRooms" "trial" "LDebtRooms$Affairs;" ∈ gt := gt_t (tb_2 67 rfl) rfl
theorem m837 : Cond.laysFinal RX11 "DebtRooms" "walks" "LDebtRooms$Walks;" ∈ gt := gt_t (tb_2 69 rfl) rfl
theorem m838 : Cond.laysFinal RX11 "DebtRooms" "nights" "LDebtRooms$Nights;" ∈ gt := gt_t (tb_2 71 rfl) rfl
theorem m839 : Cond.laysFinal RX11 "DebtRooms" "rings" "LDebtRooms$Rings;" ∈ gt := gt_t (tb_2 73 rfl) rfl
theorem m840 : Cond.lays RX11 "DebtRooms" "isKept" "Z" ∈ gt := gt_t (tb_2 75 rfl) rfl
theorem m841 : Cond.lays RX11 "DebtRooms" "readings" "I" ∈ gt := gt_t (tb_2 77 rfl) rfl
theorem m842 : Cond.laysFinal RX12 "DebtRoomsModel" "page" "[I" ∈ gt := gt_t (tb_4 222 rfl) rfl
theorem m843 : Cond.lays RX12 "DebtRoomsModel" "pageMany" "I" ∈ gt := gt_t (tb_4 224 rfl) rfl
theorem m844 : Cond.lays RX12 "DebtRoomsModel" "doorsEnd" "I" ∈ gt := gt_t (tb_4 226 rfl) rfl
theorem m845 : Cond.lays RX12 "DebtRoomsModel" "peopleEnd" "I" ∈ gt := gt_t (tb_4 228 rfl) rfl
theorem m846 : Cond.lays RX12 "DebtRoomsModel" "rooms" "I" ∈ gt := gt_t (tb_4 230 rfl) rfl
theorem m847 : Cond.lays RX12 "DebtRoomsModel" "doors" "I" ∈ gt := gt_t (tb_4 232 rfl) rfl
theorem m848 : Cond.lays RX12 "DebtRoomsModel" "people" "I" ∈ gt := gt_t (tb_4 234 rfl) rfl
theorem m849 : Cond.lays RX12 "DebtRoomsModel" "debts" "I" ∈ gt := gt_t (tb_4 236 rfl) rfl
theorem m850 : Cond.lays RX12 "DebtRoomsModel" "gone" "I" ∈ gt := gt_t (tb_4 238 rfl) rfl
theorem m851 : Cond.lays RX12 "DebtRoomsModel" "housesRead" "I" ∈ gt := gt_t (tb_5 0 rfl) rfl
theorem m852 : Cond.laysFinal RX12 "DebtRoomsModel" "one" "[I" ∈ gt := gt_t (tb_5 2 rfl) rfl
theorem m853 : Cond.laysFinal RX12 "DebtRoomsModel" "other" "[I" ∈ gt := gt_t (tb_5 4 rfl) rfl
theorem m854 : Cond.laysFinal RX12 "DebtRoomsModel" "locks" "[I" ∈ gt := gt_t (tb_5 6 rfl) rfl
theorem m855 : Cond.laysFinal RX12 "DebtRoomsModel" "kinds" "[I" ∈ gt := gt_t (tb_5 8 rfl) rfl
theorem m856 : Cond.laysFinal RX12 "DebtRoomsModel" "purses" "[I" ∈ gt := gt_t (tb_5 10 rfl) rfl
theorem m857 : Cond.laysFinal RX12 "DebtRoomsModel" "places" "[I" ∈ gt := gt_t (tb_5 12 rfl) rfl
theorem m858 : Cond.laysFinal RX12 "DebtRoomsModel" "keys" "[I" ∈ gt := gt_t (tb_5 14 rfl) rfl
theorem m859 : Cond.laysFinal RX12 "DebtRoomsModel" "owers" "[I" ∈ gt := gt_t (tb_5 16 rfl) rfl
theorem m860 : Cond.laysFinal RX12 "DebtRoomsModel" "owed" "[I" ∈ gt := gt_t (tb_5 18 rfl) rfl
theorem m861 : Cond.laysFinal RX12 "DebtRoomsModel" "debtRooms" "[I" ∈ gt := gt_t (tb_5 20 rfl) rfl
theorem m862 : Cond.laysFinal RX12 "DebtRoomsModel" "sums" "[I" ∈ gt := gt_t (tb_5 22 rfl) rfl
theorem m863 : Cond.laysFinal RX12 "DebtRoomsModel" "paid" "[I" ∈ gt := gt_t (tb_5 24 rfl) rfl
theorem m864 : Cond.laysFinal RX12 "DebtRoomsModel" "pursesThen" "[I" ∈ gt := gt_t (tb_5 26 rfl) rfl
theorem m865 : Cond.laysFinal RX12 "DebtRoomsModel" "placesThen" "[I" ∈ gt := gt_t (tb_5 28 rfl) rfl
theorem m866 : Cond.laysFinal RX12 "DebtRoomsModel" "paidThen" "[I" ∈ gt := gt_t (tb_5 30 rfl) rfl
theorem m867 : Cond.laysFinal RX12 "DebtRoomsModel" "far" "[I" ∈ gt := gt_t (tb_5 32 rfl) rfl
theorem m868 : Cond.laysFinal RX12 "DebtRoomsModel" "less" "[I" ∈ gt := gt_t (tb_5 34 rfl) rfl
theorem m869 : Cond.laysFinal RX12 "DebtRoomsModel" "balance" "[I" ∈ gt := gt_t (tb_5 36 rfl) rfl
theorem m870 : Cond.laysFinal RX12 "DebtRoomsModel" "bestLess" "[I" ∈ gt := gt_t (tb_5 38 rfl) rfl
theorem m871 : Cond.laysFinal RX12 "DebtRoomsModel" "ways" "[I" ∈ gt := gt_t (tb_5 40 rfl) rfl
theorem m872 : Cond.laysFinal RX12 "DebtRoomsModel" "waysThen" "[I" ∈ gt := gt_t (tb_5 42 rfl) rfl
theorem m873 : Cond.lays RX12 "DebtRoomsModel" "seenMany" "I" ∈ gt := gt_t (tb_5 44 rfl) rfl
theorem m874 : Cond.laysFinal RX12 "DebtRoomsModel" "sights" "[I" ∈ gt := gt_t (tb_5 46 rfl) rfl
theorem m875 : Cond.lays RX12 "DebtRoomsModel" "seedNow" "I" ∈ gt := gt_t (tb_5 48 rfl) rfl
theorem m876 : Cond.lays RX12 "DebtRoomsModel" "keptHouse" "I" ∈ gt := gt_t (tb_5 50 rfl) rfl
theorem m877 : Cond.lays RX12 "DebtRoomsModel" "keptGone" "I" ∈ gt := gt_t (tb_5 52 rfl) rfl
theorem m878 : Cond.lays RX12 "DebtRoomsModel" "keptSeen" "I" ∈ gt := gt_t (tb_5 54 rfl) rfl
theorem m879 : Cond.laysFinal RX12 "DebtRoomsModel" "keptPurses" "[I" ∈ gt := gt_t (tb_5 56 rfl) rfl
theorem m880 : Cond.laysFinal RX12 "DebtRoomsModel" "keptPlaces" "[I" ∈ gt := gt_t (tb_5 58 rfl) rfl
theorem m881 : Cond.laysFinal RX12 "DebtRoomsModel" "keptKeys" "[I" ∈ gt := gt_t (tb_5 60 rfl) rfl
theorem m882 : Cond.laysFinal RX12 "DebtRoomsModel" "keptSums" "[I" ∈ gt := gt_t (tb_5 62 rfl) rfl
theorem m883 : Cond.laysFinal RX12 "DebtRoomsModel" "keptPaid" "[I" ∈ gt := gt_t (tb_5 64 rfl) rfl
theorem m884 : Cond.laysFinal RX12 "DebtRoomsModel" "keptSights" "[I" ∈ gt := gt_t (tb_5 66 rfl) rfl
theorem m885 : Cond.lays RX12 "DebtRoomsModel" "hash" "J" ∈ gt := gt_t (tb_5 68 rfl) rfl
end
section
theorem in_X0 : ∀ w ∈ u_ws RX0 TX0 10, w ∈ gt := u_in (fun k hk => by
  match k, hk with
  | 0, _ => exact m784
  | 1, _ => exact m785
  | 2, _ => exact m786
  | 3, _ => exact m787
  | 4, _ => exact m788
  | 5, _ => exact m789
  | 6, _ => exact m790
  | 7, _ => exact m791
  | 8, _ => exact m792
  | 9, _ => exact m793
  | k + 10, hk => exact absurd hk (by omega))
theorem in_X1 : ∀ w ∈ u_ws RX1 TX1 0, w ∈ gt := u_in (fun k hk => absurd hk (Nat.not_lt_zero _))
theorem in_X2 : ∀ w ∈ u_ws RX2 TX2 0, w ∈ gt := u_in (fun k hk => absurd hk (Nat.not_lt_zero _))
theorem in_X3 : ∀ w ∈ u_ws RX3 TX3 0, w ∈ gt := u_in (fun k hk => absurd hk (Nat.not_lt_zero _))
theorem in_X4 : ∀ w ∈ u_ws RX4 TX4 11, w ∈ gt := u_in (fun k hk => by
  match k, hk with
  | 0, _ => exact m794
  | 1, _ => exact m795
  | 2, _ => exact m796
  | 3, _ => exact m797
  | 4, _ => exact m798
  | 5, _ => exact m799
  | 6, _ => exact m800
  | 7, _ => exact m801
  | 8, _ => exact m802
  | 9, _ => exact m803
  | 10, _ => exact m804
  | k + 11, hk => exact absurd hk (by omega))
theorem in_X5 : ∀ w ∈ u_ws RX5 TX5 5, w ∈ gt := u_in (fun k hk => by
  match k, hk with
  | 0, _ => exact m805
  | 1, _ => exact m806
  | 2, _ => exact m807
  | 3, _ => exact m808
  | 4, _ => exact m809
  | k + 5, hk => exact absurd hk (by omega))
theorem in_X6 : ∀ w ∈ u_ws RX6 TX6 11, w ∈ gt := u_in (fun k hk => by
  match k, hk with
  | 0, _ => exact m810
  | 1, _ => exact m811
  | 2, _ => exact m812
  | 3, _ => exact m813
  | 4, _ => exact m814
  | 5, _ => exact m815
  | 6, _ => exact m816
  | 7, _ => exact m817
  | 8, _ => exact m818
  | 9, _ => exact m819
  | 10, _ => exact m820
  | k + 11, hk => exact absurd hk (by omega))
theorem in_X7 : ∀ w ∈ u_ws RX7 TX7 0, w ∈ gt := u_in (fun k hk => absurd hk (Nat.not_lt_zero _))
theorem in_X8 : ∀ w ∈ u_ws RX8 TX8 0, w ∈ gt := u_in (fun k hk => absurd hk (Nat.not_lt_zero _))
theorem in_X9 : ∀ w ∈ u_ws RX9 TX9 7, w ∈ gt := u_in (fun k hk => by
  match k, hk with
  | 0, _ => exact m821
  | 1, _ => exact m822
  | 2, _ => exact m823
  | 3, _ => exact m824
  | 4, _ => exact m825
  | 5, _ => exact m826
  | 6, _ => exact m827
  | k + 7, hk => exact absurd hk (by omega))
theorem in_X10 : ∀ w ∈ u_ws RX10 TX10 4, w ∈ gt := u_in (fun k hk => by
  match k, hk with
  | 0, _ => exact m828
  | 1, _ => exact m829
  | 2, _ => exact m830
  | 3, _ => exact m831
  | k + 4, hk => exact absurd hk (by omega))
theorem in_X11 : ∀ w ∈ u_ws RX11 TX11 10, w ∈ gt := u_in (fun k hk => by
  match k, hk with
  | 0, _ => exact m832
  | 1, _ => exact m833
  | 2, _ => exact m834
  | 3, _ => exact m835
  | 4, _ => exact m836
  | 5, _ => exact m837
  | 6, _ => exact m838
  | 7, _ => exact m839
  | 8, _ => exact m840
  | 9, _ => exact m841
  | k + 10, hk => exact absurd hk (by omega))
theorem in_X12 : ∀ w ∈ u_ws RX12 TX12 44, w ∈ gt := u_in (fun k hk => by
  match k, hk with
  | 0, _ => exact m842
  | 1, _ => exact m843
  | 2, _ => exact m844
  | 3, _ => exact m845
  | 4, _ => exact m846
  | 5, _ => exact m847
  | 6, _ => exact m848
  | 7, _ => exact m849
  | 8, _ => exact m850
  | 9, _ => exact m851
  | 10, _ => exact m852
  | 11, _ => exact m853
  | 12, _ => exact m854
  | 13, _ => exact m855
  | 14, _ => exact m856
  | 15, _ => exact m857
  | 16, _ => exact m858
  | 17, _ => exact m859
  | 18, _ => exact m860
  | 19, _ => exact m861
  | 20, _ => exact m862
  | 21, _ => exact m863
  | 22, _ => exact m864
  | 23, _ => exact m865
  | 24, _ => exact m866
  | 25, _ => exact m867
  | 26, _ => exact m868
  | 27, _ => exact m869
  | 28, _ => exact m870
  | 29, _ => exact m871
  | 30, _ => exact m872
  | 31, _ => exact m873
  | 32, _ => exact m874
  | 33, _ => exact m875
  | 34, _ => exact m876
  | 35, _ => exact m877
  | 36, _ => exact m878
  | 37, _ => exact m879
  | 38, _ => exact m880
  | 39, _ => exact m881
  | 40, _ => exact m882
  | 41, _ => exact m883
  | 42, _ => exact m884
  | 43, _ => exact m885
  | k + 44, hk => exact absurd hk (by omega))
theorem ia_2 : IA 2 64 := ⟨by decide, fun _ _ _ => rfl⟩
theorem ia_4 : IA 4 6 := ⟨by decide, fun _ _ _ => rfl⟩
theorem ia_5 : IA 5 6 := ⟨by decide, fun _ _ _ => rfl⟩
theorem ia_6 : IA 6 6 := ⟨by decide, fun _ _ _ => rfl⟩
theorem ia_8 : IA 8 4 := ⟨by decide, fun _ _ _ => rfl⟩
theorem ia_9 : IA 9 4 := ⟨by decide, fun _ _ _ => rfl⟩
theorem ia_10 : IA 10 4 := ⟨by decide, fun _ _ _ => rfl⟩
theorem ia_16 : IA 16 6 := ⟨by decide, fun _ _ _ => rfl⟩
theorem ia_17 : IA 17 6 := ⟨by decide, fun _ _ _ => rfl⟩
theorem ia_18 : IA 18 6 := ⟨by decide, fun _ _ _ => rfl⟩
theorem ia_21 : IA 21 4 := ⟨by decide, fun _ _ _ => rfl⟩
theorem ia_22 : IA 22 4 := ⟨by decide, fun _ _ _ => rfl⟩
theorem ia_24 : IA 24 4 := ⟨by decide, fun _ _ _ => rfl⟩
theorem ia_25 : IA 25 4 := ⟨by decide, fun _ _ _ => rfl⟩
theorem ia_26 : IA 26 4 := ⟨by decide, fun _ _ _ => rfl⟩
theorem ia_27 : IA 27 4 := ⟨by decide, fun _ _ _ => rfl⟩
theorem ia_28 : IA 28 4 := ⟨by decide, fun _ _ _ => rfl⟩
theorem ia_30 : IA 30 64 := ⟨by decide, fun _ _ _ => rfl⟩
theorem ia_31 : IA 31 6 := ⟨by decide, fun _ _ _ => rfl⟩
theorem ia_32 : IA 32 6 := ⟨by decide, fun _ _ _ => rfl⟩
theorem ia_33 : IA 33 6 := ⟨by decide, fun _ _ _ => rfl⟩
theorem ia_34 : IA 34 4 := ⟨by decide, fun _ _ _ => rfl⟩
theorem ia_35 : IA 35 4 := ⟨by decide, fun _ _ _ => rfl⟩
theorem ia_36 : IA 36 4 := ⟨by decide, fun _ _ _ => rfl⟩
theorem ia_37 : IA 37 2 := ⟨by decide, fun _ _ _ => rfl⟩
theorem ia_38 : IA 38 4 := ⟨by decide, fun _ _ _ => rfl⟩
theorem ia_39 : IA 39 4 := ⟨by decide, fun _ _ _ => rfl⟩
theorem ia_40 : IA 40 4 := ⟨by decide, fun _ _ _ => rfl⟩
theorem ia_41 : IA 41 4 := ⟨by decide, fun _ _ _ => rfl⟩
theorem ia_42 : IA 42 4 := ⟨by decide, fun _ _ _ => rfl⟩
theorem ia_43 : IA 43 4 := ⟨by decide, fun _ _ _ => rfl⟩
theorem ia_44 : IA 44 4 := ⟨by decide, fun _ _ _ => rfl⟩
theorem ia_45 : IA 45 4 := ⟨by decide, fun _ _ _ => rfl⟩
theorem ia_46 : IA 46 6 := ⟨by decide, fun _ _ _ => rfl⟩
theorem ia_47 : IA 47 4 := ⟨by decide, fun _ _ _ => rfl⟩
theorem ia_48 : IA 48 4 := ⟨by decide, fun _ _ _ => rfl⟩
theorem ia_49 : IA 49 4 := ⟨by decide, fun _ _ _ => rfl⟩
theorem ia_50 : IA 50 6 := ⟨by decide, fun _ _ _ => rfl⟩
theorem ia_51 : IA 51 6 := ⟨by decide, fun _ _ _ => rfl⟩
theorem ia_52 : IA 52 12 := ⟨by decide, fun _ _ _ => rfl⟩
theorem ia_53 : IA 53 4 := ⟨by decide, fun _ _ _ => rfl⟩
theorem ia_54 : IA 54 4 := ⟨by decide, fun _ _ _ => rfl⟩
theorem ia_55 : IA 55 2 := ⟨by decide, fun _ _ _ => rfl⟩
theorem ia_56 : IA 56 4 := ⟨by decide, fun _ _ _ => rfl⟩
theorem ia_57 : IA 57 4 := ⟨by decide, fun _ _ _ => rfl⟩
theorem ia_58 : IA 58 12 := ⟨by decide, fun _ _ _ => rfl⟩
theorem af_ia1 {o : Nat} (h : Aff o) : IA (o + 1) 4 := aff_c (P := fun o => IA (o + 1) 4) ⟨by decide, fun _ _ _ => rfl⟩ ⟨by decide, fun _ _ _ => rfl⟩ ⟨by decide, fun _ _ _ => rfl⟩ ⟨by decide, fun _ _ _ => rfl⟩ ⟨by decide, fun _ _ _ => rfl⟩ ⟨by decide, fun _ _ _ => rfl⟩ ⟨by decide, fun _ _ _ => rfl⟩ ⟨by decide, fun _ _ _ => rfl⟩ h
theorem af_ia2 {o : Nat} (h : Aff o) : IA (o + 2) 4 := aff_c (P := fun o => IA (o + 2) 4) ⟨by decide, fun _ _ _ => rfl⟩ ⟨by decide, fun _ _ _ => rfl⟩ ⟨by decide, fun _ _ _ => rfl⟩ ⟨by decide, fun _ _ _ => rfl⟩ ⟨by decide, fun _ _ _ => rfl⟩ ⟨by decide, fun _ _ _ => rfl⟩ ⟨by decide, fun _ _ _ => rfl⟩ ⟨by decide, fun _ _ _ => rfl⟩ h
theorem af_ia3 {o : Nat} (h : Aff o) : IA (o + 3) 2 := aff_c (P := fun o => IA (o + 3) 2) ⟨by decide, fun _ _ _ => rfl⟩ ⟨by decide, fun _ _ _ => rfl⟩ ⟨by decide, fun _ _ _ => rfl⟩ ⟨by decide, fun _ _ _ => rfl⟩ ⟨by decide, fun _ _ _ => rfl⟩ ⟨by decide, fun _ _ _ => rfl⟩ ⟨by decide, fun _ _ _ => rfl⟩ ⟨by decide, fun _ _ _ => rfl⟩ h
theorem af_ia4 {o : Nat} (h : Aff o) : IA (o + 4) 4 := aff_c (P := fun o => IA (o + 4) 4) ⟨by decide, fun _ _ _ => rfl⟩ ⟨by decide, fun _ _ _ => rfl⟩ ⟨by decide, fun _ _ _ => rfl⟩ ⟨by decide, fun _ _ _ => rfl⟩ ⟨by decide, fun _ _ _ => rfl⟩ ⟨by decide, fun _ _ _ => rfl⟩ ⟨by decide, fun _ _ _ => rfl⟩ ⟨by decide, fun _ _ _ => rfl⟩ h
theorem af_za5 {o : Nat} (h : Aff o) : ZA (o + 5) 4 := aff_c (P := fun o => ZA (o + 5) 4) ⟨by decide, fun _ _ _ => rfl⟩ ⟨by decide, fun _ _ _ => rfl⟩ ⟨by decide, fun _ _ _ => rfl⟩ ⟨by decide, fun _ _ _ => rfl⟩ ⟨by decide, fun _ _ _ => rfl⟩ ⟨by decide, fun _ _ _ => rfl⟩ ⟨by decide, fun _ _ _ => rfl⟩ ⟨by decide, fun _ _ _ => rfl⟩ h
theorem af_ia6 {o : Nat} (h : Aff o) : IA (o + 6) 6 := aff_c (P := fun o => IA (o + 6) 6) ⟨by decide, fun _ _ _ => rfl⟩ ⟨by decide, fun _ _ _ => rfl⟩ ⟨by decide, fun _ _ _ => rfl⟩ ⟨by decide, fun _ _ _ => rfl⟩ ⟨by decide, fun _ _ _ => rfl⟩ ⟨by decide, fun _ _ _ => rfl⟩ ⟨by decide, fun _ _ _ => rfl⟩ ⟨by decide, fun _ _ _ => rfl⟩ h
theorem af_za7 {o : Nat} (h : Aff o) : ZA (o + 7) 6 := aff_c (P := fun o => ZA (o + 7) 6) ⟨by decide, fun _ _ _ => rfl⟩ ⟨by decide, fun _ _ _ => rfl⟩ ⟨by decide, fun _ _ _ => rfl⟩ ⟨by decide, fun _ _ _ => rfl⟩ ⟨by decide, fun _ _ _ => rfl⟩ ⟨by decide, fun _ _ _ => rfl⟩ ⟨by decide, fun _ _ _ => rfl⟩ ⟨by decide, fun _ _ _ => rfl⟩ h
theorem af_fi8 {o : Nat} (h : Aff o) : FI o 0 8 := aff_c (P := fun o => FI o 0 8) ⟨by decide, fun E f h => ⟨_, rfl, rfl, fun v => ⟨rfl, Nat.le_of_ble_eq_true rfl⟩⟩⟩ ⟨by decide, fun E f h => ⟨_, rfl, rfl, fun v => ⟨rfl, Nat.le_of_ble_eq_true rfl⟩⟩⟩ ⟨by decide, fun E f h => ⟨_, rfl, rfl, fun v => ⟨rfl, Nat.le_of_ble_eq_true rfl⟩⟩⟩ ⟨by decide, fun E f h => ⟨_, rfl, rfl, fun v => ⟨rfl, Nat.le_of_ble_eq_true rfl⟩⟩⟩ ⟨by decide, fun E f h => ⟨_, rfl, rfl, fun v => ⟨rfl, Nat.le_of_ble_eq_true rfl⟩⟩⟩ ⟨by decide, fun E f h => ⟨_, rfl, rfl, fun v => ⟨rfl, Nat.le_of_ble_eq_true rfl⟩⟩⟩ ⟨by decide, fun E f h => ⟨_, rfl, rfl, fun v => ⟨rfl, Nat.le_of_ble_eq_true rfl⟩⟩⟩ ⟨by decide, fun E f h => ⟨_, rfl, rfl, fun v => ⟨rfl, Nat.le_of_ble_eq_true rfl⟩⟩⟩ h
theorem af_fi9 {o : Nat} (h : Aff o) : FI o 0 9 := aff_c (P := fun o => FI o 0 9) ⟨by decide, fun E f h => ⟨_, rfl, rfl, fun v => ⟨rfl, Nat.le_of_ble_eq_true rfl⟩⟩⟩ ⟨by decide, fun E f h => ⟨_, rfl, rfl, fun v => ⟨rfl, Nat.le_of_ble_eq_true rfl⟩⟩⟩ ⟨by decide, fun E f h => ⟨_, rfl, rfl, fun v => ⟨rfl, Nat.le_of_ble_eq_true rfl⟩⟩⟩ ⟨by decide, fun E f h => ⟨_, rfl, rfl, fun v => ⟨rfl, Nat.le_of_ble_eq_true rfl⟩⟩⟩ ⟨by decide, fun E f h => ⟨_, rfl, rfl, fun v => ⟨rfl, Nat.le_of_ble_eq_true rfl⟩⟩⟩ ⟨by decide, fun E f h => ⟨_, rfl, rfl, fun v => ⟨rfl, Nat.le_of_ble_eq_true rfl⟩⟩⟩ ⟨by decide, fun E f h => ⟨_, rfl, rfl, fun v => ⟨rfl, Nat.le_of_ble_eq_true rfl⟩⟩⟩ ⟨by decide, fun E f h => ⟨_, rfl, rfl, fun v => ⟨rfl, Nat.le_of_ble_eq_true rfl⟩⟩⟩ h
theorem af_fr0 {o : Nat} (h : Aff o) : FR o 0 0 (3) := aff_c (P := fun o => FR o 0 0 (3)) ⟨by decide, fun E f h => ⟨_, rfl, rfl⟩⟩ ⟨by decide, fun E f h => ⟨_, rfl, rfl⟩⟩ ⟨by decide, fun E f h => ⟨_, rfl, rfl⟩⟩ ⟨by decide, fun E f h => ⟨_, rfl, rfl⟩⟩ ⟨by decide, fun E f h => ⟨_, rfl, rfl⟩⟩ ⟨by decide, fun E f h => ⟨_, rfl, rfl⟩⟩ ⟨by decide, fun E f h => ⟨_, rfl, rfl⟩⟩ ⟨by decide, fun E f h => ⟨_, rfl, rfl⟩⟩ h
theorem af_fr1 {o : Nat} (h : Aff o) : FR o 0 1 (o + 1) := aff_c (P := fun o => FR o 0 1 (o + 1)) ⟨by decide, fun E f h => ⟨_, rfl, rfl⟩⟩ ⟨by decide, fun E f h => ⟨_, rfl, rfl⟩⟩ ⟨by decide, fun E f h => ⟨_, rfl, rfl⟩⟩ ⟨by decide, fun E f h => ⟨_, rfl, rfl⟩⟩ ⟨by decide, fun E f h => ⟨_, rfl, rfl⟩⟩ ⟨by decide, fun E f h => ⟨_, rfl, rfl⟩⟩ ⟨by decide, fun E f h => ⟨_, rfl, rfl⟩⟩ ⟨by decide, fun E f h => ⟨_, rfl, rfl⟩⟩ h
theorem af_fr2 {o : Nat} (h : Aff o) : FR o 0 2 (o + 2) := aff_c (P := fun o => FR o 0 2 (o + 2)) ⟨by decide, fun E f h => ⟨_, rfl, rfl⟩⟩ ⟨by decide, fun E f h => ⟨_, rfl, rfl⟩⟩ ⟨by decide, fun E f h => ⟨_, rfl, rfl⟩⟩ ⟨by decide, fun E f h => ⟨_, rfl, rfl⟩⟩ ⟨by decide, fun E f h => ⟨_, rfl, rfl⟩⟩ ⟨by decide, fun E f h => ⟨_, rfl, rfl⟩⟩ ⟨by decide, fun E f h => ⟨_, rfl, rfl⟩⟩ ⟨by decide, fun E f h => ⟨_, rfl, rfl⟩⟩ h
theorem af_fr3 {o : Nat} (h : Aff o) : FR o 0 3 (o + 3) := aff_c (P := fun o => FR o 0 3 (o + 3)) ⟨by decide, fun E f h => ⟨_, rfl, rfl⟩⟩ ⟨by decide, fun E f h => ⟨_, rfl, rfl⟩⟩ ⟨by decide, fun E f h => ⟨_, rfl, rfl⟩⟩ ⟨by decide, fun E f h => ⟨_, rfl, rfl⟩⟩ ⟨by decide, fun E f h => ⟨_, rfl, rfl⟩⟩ ⟨by decide, fun E f h => ⟨_, rfl, rfl⟩⟩ ⟨by decide, fun E f h => ⟨_, rfl, rfl⟩⟩ ⟨by decide, fun E f h => ⟨_, rfl, rfl⟩⟩ h
theorem af_fr4 {o : Nat} (h : Aff o) : FR o 0 4 (o + 4) := aff_c (P := fun o => FR o 0 4 (o + 4)) ⟨by decide, fun E f h => ⟨_, rfl, rfl⟩⟩ ⟨by decide, fun E f h => ⟨_, rfl, rfl⟩⟩ ⟨by decide, fun E f h => ⟨_, rfl, rfl⟩⟩ ⟨by decide, fun E f h => ⟨_, rfl, rfl⟩⟩ ⟨by decide, fun E f h => ⟨_, rfl, rfl⟩⟩ ⟨by decide, fun E f h => ⟨_, rfl, rfl⟩⟩ ⟨by decide, fun E f h => ⟨_, rfl, rfl⟩⟩ ⟨by decide, fun E f h => ⟨_, rfl, rfl⟩⟩ h
theorem af_fr5 {o : Nat} (h : Aff o) : FR o 0 5 (o + 5) := aff_c (P := fun o => FR o 0 5 (o + 5)) ⟨by decide, fun E f h => ⟨_, rfl, rfl⟩⟩ ⟨by decide, fun E f h => ⟨_, rfl, rfl⟩⟩ ⟨by decide, fun E f h => ⟨_, rfl, rfl⟩⟩ ⟨by decide, fun E f h => ⟨_, rfl, rfl⟩⟩ ⟨by decide, fun E f h => ⟨_, rfl, rfl⟩⟩ ⟨by decide, fun E f h => ⟨_, rfl, rfl⟩⟩ ⟨by decide, fun E f h => ⟨_, rfl, rfl⟩⟩ ⟨by decide, fun E f h => ⟨_, rfl, rfl⟩⟩ h
theorem af_fr6 {o : Nat} (h : Aff o) : FR o 0 6 (o + 6) := aff_c (P := fun o => FR o 0 6 (o + 6)) ⟨by decide, fun E f h => ⟨_, rfl, rfl⟩⟩ ⟨by decide, fun E f h => ⟨_, rfl, rfl⟩⟩ ⟨by decide, fun E f h => ⟨_, rfl, rfl⟩⟩ ⟨by decide, fun E f h => ⟨_, rfl, rfl⟩⟩ ⟨by decide, fun E f h => ⟨_, rfl, rfl⟩⟩ ⟨by decide, fun E f h => ⟨_, rfl, rfl⟩⟩ ⟨by decide, fun E f h => ⟨_, rfl, rfl⟩⟩ ⟨by decide, fun E f h => ⟨_, rfl, rfl⟩⟩ h
theorem af_fr7 {o : Nat} (h : Aff o) : FR o 0 7 (o + 7) := aff_c (P := fun o => FR o 0 7 (o + 7)) ⟨by decide, fun E f h => ⟨_, rfl, rfl⟩⟩ ⟨by decide, fun E f h => ⟨_, rfl, rfl⟩⟩ ⟨by decide, fun E f h => ⟨_, rfl, rfl⟩⟩ ⟨by decide, fun E f h => ⟨_, rfl, rfl⟩⟩ ⟨by decide, fun E f h => ⟨_, rfl, rfl⟩⟩ ⟨by decide, fun E f h => ⟨_, rfl, rfl⟩⟩ ⟨by decide, fun E f h => ⟨_, rfl, rfl⟩⟩ ⟨by decide, fun E f h => ⟨_, rfl, rfl⟩⟩ h
theorem af_oc {o : Nat} (h : Aff o) : OC o RX0 := aff_c (P := fun o => OC o RX0) ⟨by decide, fun E f h => ⟨_, _, _, rfl, rfl, rfl⟩⟩ ⟨by decide, fun E f h => ⟨_, _, _, rfl, rfl, rfl⟩⟩ ⟨by decide, fun E f h => ⟨_, _, _, rfl, rfl, rfl⟩⟩ ⟨by decide, fun E f h => ⟨_, _, _, rfl, rfl, rfl⟩⟩ ⟨by decide, fun E f h => ⟨_, _, _, rfl, rfl, rfl⟩⟩ ⟨by decide, fun E f h => ⟨_, _, _, rfl, rfl, rfl⟩⟩ ⟨by decide, fun E f h => ⟨_, _, _, rfl, rfl, rfl⟩⟩ ⟨by decide, fun E f h => ⟨_, _, _, rfl, rfl, rfl⟩⟩ h
end
section
theorem dX6_append_0 : decode cX6_append 0 = .ok (.aload_n 0, 1) := by decide +kernel
theorem dX6_append_1 : decode cX6_append 1 = .ok (.getfield 15, 3) := by decide +kernel
theorem dX6_append_4 : decode cX6_append 4 = .ok (.bipush 64, 2) := by decide +kernel
theorem dX6_append_6 : decode cX6_append 6 = .ok (.if_icmp .lt 5, 3) := by decide +kernel
theorem dX6_append_9 : decode cX6_append 9 = .ok (.iconst 0, 1) := by decide +kernel
theorem dX6_append_10 : decode cX6_append 10 = .ok (.ireturn, 1) := by decide +kernel
theorem dX6_append_11 : decode cX6_append 11 = .ok (.aload_n 0, 1) := by decide +kernel
theorem dX6_append_12 : decode cX6_append 12 = .ok (.getfield 9, 3) := by decide +kernel
theorem dX6_append_15 : decode cX6_append 15 = .ok (.aload_n 0, 1) := by decide +kernel
theorem dX6_append_16 : decode cX6_append 16 = .ok (.getfield 15, 3) := by decide +kernel
theorem dX6_append_19 : decode cX6_append 19 = .ok (.iload_n 1, 1) := by decide +kernel
theorem dX6_append_20 : decode cX6_append 20 = .ok (.iastore, 1) := by decide +kernel
theorem dX6_append_21 : decode cX6_append 21 = .ok (.aload_n 0, 1) := by decide +kernel
theorem dX6_append_22 : decode cX6_append 22 = .ok (.dup, 1) := by decide +kernel
theorem dX6_append_23 : decode cX6_append 23 = .ok (.getfield 15, 3) := by decide +kernel
theorem dX6_append_26 : decode cX6_append 26 = .ok (.iconst 1, 1) := by decide +kernel
theorem dX6_append_27 : decode cX6_append 27 = .ok (.iadd, 1) := by decide +kernel
theorem dX6_append_28 : decode cX6_append 28 = .ok (.putfield 15, 3) := by decide +kernel
theorem dX6_append_31 : decode cX6_append 31 = .ok (.iconst 1, 1) := by decide +kernel
theorem dX6_append_32 : decode cX6_append 32 = .ok (.ireturn, 1) := by decide +kernel
theorem dX11_letter_0 : decode cX11_letter 0 = .ok (.iload_n 1, 1) := by decide +kernel
theorem dX11_letter_1 : decode cX11_letter 1 = .ok (.iconst 1, 1) := by decide +kernel
theorem dX11_letter_2 : decode cX11_letter 2 = .ok (.if_icmp .lt 9, 3) := by decide +kernel
theorem dX11_letter_5 : decode cX11_letter 5 = .ok (.iload_n 1, 1) := by decide +kernel
theorem dX11_letter_6 : decode cX11_letter 6 = .ok (.bipush 126, 2) := by decide +kernel
theorem dX11_letter_8 : decode cX11_letter 8 = .ok (.if_icmp .le 6, 3) := by decide +kernel
theorem dX11_letter_11 : decode cX11_letter 11 = .ok (.bipush (-102), 2) := by decide +kernel
theorem dX11_letter_13 : decode cX11_letter 13 = .ok (.ireturn, 1) := by decide +kernel
theorem dX11_letter_14 : decode cX11_letter 14 = .ok (.aload_n 0, 1) := by decide +kernel
theorem dX11_letter_15 : decode cX11_letter 15 = .ok (.getfield 10, 3) := by decide +kernel
theorem dX11_letter_18 : decode cX11_letter 18 = .ok (.iload_n 1, 1) := by decide +kernel
theorem dX11_letter_19 : decode cX11_letter 19 = .ok (.invokevirtual 67, 3) := by decide +kernel
theorem dX11_letter_22 : decode cX11_letter 22 = .ok (.ifCond .eq 13, 3) := by decide +kernel
theorem dX11_letter_25 : decode cX11_letter 25 = .ok (.aload_n 0, 1) := by decide +kernel
theorem dX11_letter_26 : decode cX11_letter 26 = .ok (.getfield 10, 3) := by decide +kernel
theorem dX11_letter_29 : decode cX11_letter 29 = .ok (.getfield 71, 3) := by decide +kernel
theorem dX11_letter_32 : decode cX11_letter 32 = .ok (.goto 5, 3) := by decide +kernel
theorem dX11_letter_35 : decode cX11_letter 35 = .ok (.bipush (-104), 2) := by decide +kernel
theorem dX11_letter_37 : decode cX11_letter 37 = .ok (.ireturn, 1) := by decide +kernel
theorem dX11_blank_0 : decode cX11_blank 0 = .ok (.aload_n 0, 1) := by decide +kernel
theorem dX11_blank_1 : decode cX11_blank 1 = .ok (.getfield 10, 3) := by decide +kernel
theorem dX11_blank_4 : decode cX11_blank 4 = .ok (.getfield 71, 3) := by decide +kernel
theorem dX11_blank_7 : decode cX11_blank 7 = .ok (.istore_n 1, 1) := by decide +kernel
theorem dX11_blank_8 : decode cX11_blank 8 = .ok (.aload_n 0, 1) := by decide +kernel
theorem dX11_blank_9 : decode cX11_blank 9 = .ok (.getfield 10, 3) := by decide +kernel
theorem dX11_blank_12 : decode cX11_blank 12 = .ok (.iconst 0, 1) := by decide +kernel
theorem dX11_blank_13 : decode cX11_blank 13 = .ok (.putfield 71, 3) := by decide +kernel
theorem dX11_blank_16 : decode cX11_blank 16 = .ok (.iload_n 1, 1) := by decide +kernel
theorem dX11_blank_17 : decode cX11_blank 17 = .ok (.ireturn, 1) := by decide +kernel
theorem dX6_takesIf_0 : decode cX6_takesIf 0 = .ok (.aload_n 0, 1) := by decide +kernel
theorem dX6_takesIf_1 : decode cX6_takesIf 1 = .ok (.dup, 1) := by decide +kernel
theorem dX6_takesIf_2 : decode cX6_takesIf 2 = .ok (.getfield 22, 3) := by decide +kernel
theorem dX6_takesIf_5 : decode cX6_takesIf 5 = .ok (.iconst 1, 1) := by decide +kernel
theorem dX6_takesIf_6 : decode cX6_takesIf 6 = .ok (.iadd, 1) := by decide +kernel
theorem dX6_takesIf_7 : decode cX6_takesIf 7 = .ok (.putfield 22, 3) := by decide +kernel
theorem dX6_takesIf_10 : decode cX6_takesIf 10 = .ok (.iload_n 1, 1) := by decide +kernel
theorem dX6_takesIf_11 : decode cX6_takesIf 11 = .ok (.ireturn, 1) := by decide +kernel
theorem dX6_opens_0 : decode cX6_opens 0 = .ok (.aload_n 0, 1) := by decide +kernel
theorem dX6_opens_1 : decode cX6_opens 1 = .ok (.iload_n 1, 1) := by decide +kernel
theorem dX6_opens_2 : decode cX6_opens 2 = .ok (.putfield 19, 3) := by decide +kernel
theorem dX6_opens_5 : decode cX6_opens 5 = .ok (.aload_n 0, 1) := by decide +kernel
theorem dX6_opens_6 : decode cX6_opens 6 = .ok (.iconst 0, 1) := by decide +kernel
theorem dX6_opens_7 : decode cX6_opens 7 = .ok (.putfield 22, 3) := by decide +kernel
theorem dX6_opens_10 : decode cX6_opens 10 = .ok (.iconst 1, 1) := by decide +kernel
theorem dX6_opens_11 : decode cX6_opens 11 = .ok (.ireturn, 1) := by decide +kernel
theorem dX6_takesInRooms_0 : decode cX6_takesInRooms 0 = .ok (.aload_n 0, 1) := by decide +kernel
theorem dX6_takesInRooms_1 : decode cX6_takesInRooms 1 = .ok (.getfield 22, 3) := by decide +kernel
theorem dX6_takesInRooms_4 : decode cX6_takesInRooms 4 = .ok (.ifCond .ne 38, 3) := by decide +kernel
theorem dX6_takesInRooms_7 : decode cX6_takesInRooms 7 = .ok (.aload_n 0, 1) := by decide +kernel
theorem dX6_takesInRooms_8 : decode cX6_takesInRooms 8 = .ok (.iload_n 1, 1) := by decide +kernel
theorem dX6_takesInRooms_9 : decode cX6_takesInRooms 9 = .ok (.bipush 48, 2) := by decide +kernel
theorem dX6_takesInRooms_11 : decode cX6_takesInRooms 11 = .ok (.isub, 1) := by decide +kernel
theorem dX6_takesInRooms_12 : decode cX6_takesInRooms 12 = .ok (.putfield 28, 3) := by decide +kernel
theorem dX6_takesInRooms_15 : decode cX6_takesInRooms 15 = .ok (.aload_n 0, 1) := by decide +kernel
theorem dX6_takesInRooms_16 : decode cX6_takesInRooms 16 = .ok (.aload_n 0, 1) := by decide +kernel
theorem dX6_takesInRooms_17 : decode cX6_takesInRooms 17 = .ok (.getfield 28, 3) := by decide +kernel
theorem dX6_takesInRooms_20 : decode cX6_takesInRooms 20 = .ok (.iconst 2, 1) := by decide +kernel
theorem dX6_takesInRooms_21 : decode cX6_takesInRooms 21 = .ok (.if_icmp .lt 16, 3) := by decide +kernel
theorem dX6_takesInRooms_24 : decode cX6_takesInRooms 24 = .ok (.aload_n 0, 1) := by decide +kernel
theorem dX6_takesInRooms_25 : decode cX6_takesInRooms 25 = .ok (.getfield 28, 3) := by decide +kernel
theorem dX6_takesInRooms_28 : decode cX6_takesInRooms 28 = .ok (.bipush 6, 2) := by decide +kernel
theorem dX6_takesInRooms_30 : decode cX6_takesInRooms 30 = .ok (.if_icmp .gt 7, 3) := by decide +kernel
theorem dX6_takesInRooms_33 : decode cX6_takesInRooms 33 = .ok (.iconst 1, 1) := by decide +kernel
theorem dX6_takesInRooms_34 : decode cX6_takesInRooms 34 = .ok (.goto 4, 3) := by decide +kernel
theorem dX6_takesInRooms_37 : decode cX6_takesInRooms 37 = .ok (.iconst 0, 1) := by decide +kernel
theorem dX6_takesInRooms_38 : decode cX6_takesInRooms 38 = .ok (.invokevirtual 63, 3) := by decide +kernel
theorem dX6_takesInRooms_41 : decode cX6_takesInRooms 41 = .ok (.ireturn, 1) := by decide +kernel
theorem dX6_takesInRooms_42 : decode cX6_takesInRooms 42 = .ok (.iload_n 1, 1) := by decide +kernel
theorem dX6_takesInRooms_43 : decode cX6_takesInRooms 43 = .ok (.bipush 59, 2) := by decide +kernel
theorem dX6_takesInRooms_45 : decode cX6_takesInRooms 45 = .ok (.if_icmp .ne 15, 3) := by decide +kernel
theorem dX6_takesInRooms_48 : decode cX6_takesInRooms 48 = .ok (.aload_n 0, 1) := by decide +kernel
theorem dX6_takesInRooms_49 : decode cX6_takesInRooms 49 = .ok (.iconst 1, 1) := by decide +kernel
theorem dX6_takesInRooms_50 : decode cX6_takesInRooms 50 = .ok (.invokevirtual 67, 3) := by decide +kernel
theorem dX6_takesInRooms_53 : decode cX6_takesInRooms 53 = .ok (.ifCond .eq 7, 3) := by decide +kernel
theorem dX6_takesInRooms_56 : decode cX6_takesInRooms 56 = .ok (.iconst 1, 1) := by decide +kernel
theorem dX6_takesInRooms_57 : decode cX6_takesInRooms 57 = .ok (.goto 4, 3) := by decide +kernel
theorem dX6_takesInRooms_60 : decode cX6_takesInRooms 60 = .ok (.iconst 0, 1) := by decide +kernel
theorem dX6_takesInRooms_61 : decode cX6_takesInRooms 61 = .ok (.ireturn, 1) := by decide +kernel
theorem dX6_isDigitBelow_0 : decode cX6_isDigitBelow 0 = .ok (.iload_n 0, 1) := by decide +kernel
theorem dX6_isDigitBelow_1 : decode cX6_isDigitBelow 1 = .ok (.bipush 48, 2) := by decide +kernel
theorem dX6_isDigitBelow_3 : decode cX6_isDigitBelow 3 = .ok (.if_icmp .lt 15, 3) := by decide +kernel
theorem dX6_isDigitBelow_6 : decode cX6_isDigitBelow 6 = .ok (.iload_n 0, 1) := by decide +kernel
theorem dX6_isDigitBelow_7 : decode cX6_isDigitBelow 7 = .ok (.bipush 48, 2) := by decide +kernel
theorem dX6_isDigitBelow_9 : decode cX6_isDigitBelow 9 = .ok (.isub, 1) := by decide +kernel
theorem dX6_isDigitBelow_10 : decode cX6_isDigitBelow 10 = .ok (.iload_n 1, 1) := by decide +kernel
theorem dX6_isDigitBelow_11 : decode cX6_isDigitBelow 11 = .ok (.if_icmp .ge 7, 3) := by decide +kernel
theorem dX6_isDigitBelow_14 : decode cX6_isDigitBelow 14 = .ok (.iconst 1, 1) := by decide +kernel
theorem dX6_isDigitBelow_15 : decode cX6_isDigitBelow 15 = .ok (.goto 4, 3) := by decide +kernel
theorem dX6_isDigitBelow_18 : decode cX6_isDigitBelow 18 = .ok (.iconst 0, 1) := by decide +kernel
theorem dX6_isDigitBelow_19 : decode cX6_isDigitBelow 19 = .ok (.ireturn, 1) := by decide +kernel
theorem dX6_takesFirst_0 : decode cX6_takesFirst 0 = .ok (.aload_n 0, 1) := by decide +kernel
theorem dX6_takesFirst_1 : decode cX6_takesFirst 1 = .ok (.iload_n 1, 1) := by decide +kernel
theorem dX6_takesFirst_2 : decode cX6_takesFirst 2 = .ok (.bipush 48, 2) := by decide +kernel
theorem dX6_takesFirst_4 : decode cX6_takesFirst 4 = .ok (.isub, 1) := by decide +kernel
theorem dX6_takesFirst_5 : decode cX6_takesFirst 5 = .ok (.putfield 25, 3) := by decide +kernel
theorem dX6_takesFirst_8 : decode cX6_takesFirst 8 = .ok (.aload_n 0, 1) := by decide +kernel
theorem dX6_takesFirst_9 : decode cX6_takesFirst 9 = .ok (.iload_n 1, 1) := by decide +kernel
theorem dX6_takesFirst_10 : decode cX6_takesFirst 10 = .ok (.iload_n 2, 1) := by decide +kernel
theorem dX6_takesFirst_11 : decode cX6_takesFirst 11 = .ok (.invokestatic 88, 3) := by decide +kernel
theorem dX6_takesFirst_14 : decode cX6_takesFirst 14 = .ok (.invokevirtual 63, 3) := by decide +kernel
theorem dX6_takesFirst_17 : decode cX6_takesFirst 17 = .ok (.ireturn, 1) := by decide +kernel
theorem dX6_takesOther_0 : decode cX6_takesOther 0 = .ok (.aload_n 0, 1) := by decide +kernel
theorem dX6_takesOther_1 : decode cX6_takesOther 1 = .ok (.iload_n 1, 1) := by decide +kernel
theorem dX6_takesOther_2 : decode cX6_takesOther 2 = .ok (.iload_n 2, 1) := by decide +kernel
theorem dX6_takesOther_3 : decode cX6_takesOther 3 = .ok (.invokestatic 88, 3) := by decide +kernel
theorem dX6_takesOther_6 : decode cX6_takesOther 6 = .ok (.ifCond .eq 18, 3) := by decide +kernel
theorem dX6_takesOther_9 : decode cX6_takesOther 9 = .ok (.iload_n 1, 1) := by decide +kernel
theorem dX6_takesOther_10 : decode cX6_takesOther 10 = .ok (.bipush 48, 2) := by decide +kernel
theorem dX6_takesOther_12 : decode cX6_takesOther 12 = .ok (.isub, 1) := by decide +kernel
theorem dX6_takesOther_13 : decode cX6_takesOther 13 = .ok (.aload_n 0, 1) := by decide +kernel
theorem dX6_takesOther_14 : decode cX6_takesOther 14 = .ok (.getfield 25, 3) := by decide +kernel
theorem dX6_takesOther_17 : decode cX6_takesOther 17 = .ok (.if_icmp .eq 7, 3) := by decide +kernel
theorem dX6_takesOther_20 : decode cX6_takesOther 20 = .ok (.iconst 1, 1) := by decide +kernel
theorem dX6_takesOther_21 : decode cX6_takesOther 21 = .ok (.goto 4, 3) := by decide +kernel
theorem dX6_takesOther_24 : decode cX6_takesOther 24 = .ok (.iconst 0, 1) := by decide +kernel
theorem dX6_takesOther_25 : decode cX6_takesOther 25 = .ok (.invokevirtual 63, 3) := by decide +kernel
theorem dX6_takesOther_28 : decode cX6_takesOther 28 = .ok (.ireturn, 1) := by decide +kernel
theorem dX6_takesInDebts_0 : decode cX6_takesInDebts 0 = .ok (.aload_n 0, 1) := by decide +kernel
theorem dX6_takesInDebts_1 : decode cX6_takesInDebts 1 = .ok (.getfield 22, 3) := by decide +kernel
theorem dX6_takesInDebts_4 : decode cX6_takesInDebts 4 = .ok (.tableswitch 100 0 3 #[32, 42, 52, 65], 32) := by decide +kernel
theorem dX6_takesInDebts_36 : decode cX6_takesInDebts 36 = .ok (.aload_n 0, 1) := by decide +kernel
theorem dX6_takesInDebts_37 : decode cX6_takesInDebts 37 = .ok (.iload_n 1, 1) := by decide +kernel
theorem dX6_takesInDebts_38 : decode cX6_takesInDebts 38 = .ok (.aload_n 0, 1) := by decide +kernel
theorem dX6_takesInDebts_39 : decode cX6_takesInDebts 39 = .ok (.getfield 34, 3) := by decide +kernel
theorem dX6_takesInDebts_42 : decode cX6_takesInDebts 42 = .ok (.invokevirtual 71, 3) := by decide +kernel
theorem dX6_takesInDebts_45 : decode cX6_takesInDebts 45 = .ok (.ireturn, 1) := by decide +kernel
theorem dX6_takesInDebts_46 : decode cX6_takesInDebts 46 = .ok (.aload_n 0, 1) := by decide +kernel
theorem dX6_takesInDebts_47 : decode cX6_takesInDebts 47 = .ok (.iload_n 1, 1) := by decide +kernel
theorem dX6_takesInDebts_48 : decode cX6_takesInDebts 48 = .ok (.aload_n 0, 1) := by decide +kernel
theorem dX6_takesInDebts_49 : decode cX6_takesInDebts 49 = .ok (.getfield 34, 3) := by decide +kernel
theorem dX6_takesInDebts_52 : decode cX6_takesInDebts 52 = .ok (.invokevirtual 75, 3) := by decide +kernel
theorem dX6_takesInDebts_55 : decode cX6_takesInDebts 55 = .ok (.ireturn, 1) := by decide +kernel
theorem dX6_takesInDebts_56 : decode cX6_takesInDebts 56 = .ok (.aload_n 0, 1) := by decide +kernel
theorem dX6_takesInDebts_57 : decode cX6_takesInDebts 57 = .ok (.iload_n 1, 1) := by decide +kernel
theorem dX6_takesInDebts_58 : decode cX6_takesInDebts 58 = .ok (.aload_n 0, 1) := by decide +kernel
theorem dX6_takesInDebts_59 : decode cX6_takesInDebts 59 = .ok (.getfield 28, 3) := by decide +kernel
theorem dX6_takesInDebts_62 : decode cX6_takesInDebts 62 = .ok (.invokestatic 88, 3) := by decide +kernel
theorem dX6_takesInDebts_65 : decode cX6_takesInDebts 65 = .ok (.invokevirtual 63, 3) := by decide +kernel
theorem dX6_takesInDebts_68 : decode cX6_takesInDebts 68 = .ok (.ireturn, 1) := by decide +kernel
theorem dX6_takesInDebts_69 : decode cX6_takesInDebts 69 = .ok (.aload_n 0, 1) := by decide +kernel
theorem dX6_takesInDebts_70 : decode cX6_takesInDebts 70 = .ok (.dup, 1) := by decide +kernel
theorem dX6_takesInDebts_71 : decode cX6_takesInDebts 71 = .ok (.getfield 37, 3) := by decide +kernel
theorem dX6_takesInDebts_74 : decode cX6_takesInDebts 74 = .ok (.iconst 1, 1) := by decide +kernel
theorem dX6_takesInDebts_75 : decode cX6_takesInDebts 75 = .ok (.iadd, 1) := by decide +kernel
theorem dX6_takesInDebts_76 : decode cX6_takesInDebts 76 = .ok (.putfield 37, 3) := by decide +kernel
theorem dX6_takesInDebts_79 : decode cX6_takesInDebts 79 = .ok (.aload_n 0, 1) := by decide +kernel
theorem dX6_takesInDebts_80 : decode cX6_takesInDebts 80 = .ok (.iload_n 1, 1) := by decide +kernel
theorem dX6_takesInDebts_81 : decode cX6_takesInDebts 81 = .ok (.bipush 48, 2) := by decide +kernel
theorem dX6_takesInDebts_83 : decode cX6_takesInDebts 83 = .ok (.if_icmp .eq 16, 3) := by decide +kernel
theorem dX6_takesInDebts_86 : decode cX6_takesInDebts 86 = .ok (.iload_n 1, 1) := by decide +kernel
theorem dX6_takesInDebts_87 : decode cX6_takesInDebts 87 = .ok (.bipush 10, 2) := by decide +kernel
theorem dX6_takesInDebts_89 : decode cX6_takesInDebts 89 = .ok (.invokestatic 88, 3) := by decide +kernel
theorem dX6_takesInDebts_92 : decode cX6_takesInDebts 92 = .ok (.ifCond .eq 7, 3) := by decide +kernel
theorem dX6_takesInDebts_95 : decode cX6_takesInDebts 95 = .ok (.iconst 1, 1) := by decide +kernel
theorem dX6_takesInDebts_96 : decode cX6_takesInDebts 96 = .ok (.goto 4, 3) := by decide +kernel
theorem dX6_takesInDebts_99 : decode cX6_takesInDebts 99 = .ok (.iconst 0, 1) := by decide +kernel
theorem dX6_takesInDebts_100 : decode cX6_takesInDebts 100 = .ok (.invokevirtual 63, 3) := by decide +kernel
theorem dX6_takesInDebts_103 : decode cX6_takesInDebts 103 = .ok (.ireturn, 1) := by decide +kernel
theorem dX6_takesInDebts_104 : decode cX6_takesInDebts 104 = .ok (.iload_n 1, 1) := by decide +kernel
theorem dX6_takesInDebts_105 : decode cX6_takesInDebts 105 = .ok (.bipush 44, 2) := by decide +kernel
theorem dX6_takesInDebts_107 : decode cX6_takesInDebts 107 = .ok (.if_icmp .ne 23, 3) := by decide +kernel
theorem dX6_takesInDebts_110 : decode cX6_takesInDebts 110 = .ok (.aload_n 0, 1) := by decide +kernel
theorem dX6_takesInDebts_111 : decode cX6_takesInDebts 111 = .ok (.getfield 37, 3) := by decide +kernel
theorem dX6_takesInDebts_114 : decode cX6_takesInDebts 114 = .ok (.iconst 4, 1) := by decide +kernel
theorem dX6_takesInDebts_115 : decode cX6_takesInDebts 115 = .ok (.if_icmp .ge 15, 3) := by decide +kernel
theorem dX6_takesInDebts_118 : decode cX6_takesInDebts 118 = .ok (.aload_n 0, 1) := by decide +kernel
theorem dX6_takesInDebts_119 : decode cX6_takesInDebts 119 = .ok (.iconst 3, 1) := by decide +kernel
theorem dX6_takesInDebts_120 : decode cX6_takesInDebts 120 = .ok (.invokevirtual 67, 3) := by decide +kernel
theorem dX6_takesInDebts_123 : decode cX6_takesInDebts 123 = .ok (.ifCond .eq 7, 3) := by decide +kernel
theorem dX6_takesInDebts_126 : decode cX6_takesInDebts 126 = .ok (.iconst 1, 1) := by decide +kernel
theorem dX6_takesInDebts_127 : decode cX6_takesInDebts 127 = .ok (.goto 4, 3) := by decide +kernel
theorem dX6_takesInDebts_130 : decode cX6_takesInDebts 130 = .ok (.iconst 0, 1) := by decide +kernel
theorem dX6_takesInDebts_131 : decode cX6_takesInDebts 131 = .ok (.ireturn, 1) := by decide +kernel
theorem dX6_digitAt_0 : decode cX6_digitAt 0 = .ok (.iload_n 1, 1) := by decide +kernel
theorem dX6_digitAt_1 : decode cX6_digitAt 1 = .ok (.ifCond .lt 21, 3) := by decide +kernel
theorem dX6_digitAt_4 : decode cX6_digitAt 4 = .ok (.iload_n 1, 1) := by decide +kernel
theorem dX6_digitAt_5 : decode cX6_digitAt 5 = .ok (.bipush 64, 2) := by decide +kernel
theorem dX6_digitAt_7 : decode cX6_digitAt 7 = .ok (.if_icmp .ge 15, 3) := by decide +kernel
theorem dX6_digitAt_10 : decode cX6_digitAt 10 = .ok (.aload_n 0, 1) := by decide +kernel
theorem dX6_digitAt_11 : decode cX6_digitAt 11 = .ok (.getfield 9, 3) := by decide +kernel
theorem dX6_digitAt_14 : decode cX6_digitAt 14 = .ok (.iload_n 1, 1) := by decide +kernel
theorem dX6_digitAt_15 : decode cX6_digitAt 15 = .ok (.iaload, 1) := by decide +kernel
theorem dX6_digitAt_16 : decode cX6_digitAt 16 = .ok (.bipush 48, 2) := by decide +kernel
theorem dX6_digitAt_18 : decode cX6_digitAt 18 = .ok (.isub, 1) := by decide +kernel
theorem dX6_digitAt_19 : decode cX6_digitAt 19 = .ok (.goto 4, 3) := by decide +kernel
theorem dX6_digitAt_22 : decode cX6_digitAt 22 = .ok (.iconst 0, 1) := by decide +kernel
theorem dX6_digitAt_23 : decode cX6_digitAt 23 = .ok (.ireturn, 1) := by decide +kernel
theorem dX6_peopleAt_0 : decode cX6_peopleAt 0 = .ok (.iconst 2, 1) := by decide +kernel
theorem dX6_peopleAt_1 : decode cX6_peopleAt 1 = .ok (.iconst 4, 1) := by decide +kernel
theorem dX6_peopleAt_2 : decode cX6_peopleAt 2 = .ok (.aload_n 0, 1) := by decide +kernel
theorem dX6_peopleAt_3 : decode cX6_peopleAt 3 = .ok (.getfield 31, 3) := by decide +kernel
theorem dX6_peopleAt_6 : decode cX6_peopleAt 6 = .ok (.imul, 1) := by decide +kernel
theorem dX6_peopleAt_7 : decode cX6_peopleAt 7 = .ok (.iadd, 1) := by decide +kernel
theorem dX6_peopleAt_8 : decode cX6_peopleAt 8 = .ok (.ireturn, 1) := by decide +kernel
theorem dX6_debtsAt_0 : decode cX6_debtsAt 0 = .ok (.aload_n 0, 1) := by decide +kernel
theorem dX6_debtsAt_1 : decode cX6_debtsAt 1 = .ok (.invokevirtual 91, 3) := by decide +kernel
theorem dX6_debtsAt_4 : decode cX6_debtsAt 4 = .ok (.iconst 4, 1) := by decide +kernel
theorem dX6_debtsAt_5 : decode cX6_debtsAt 5 = .ok (.aload_n 0, 1) := by decide +kernel
theorem dX6_debtsAt_6 : decode cX6_debtsAt 6 = .ok (.getfield 34, 3) := by decide +kernel
theorem dX6_debtsAt_9 : decode cX6_debtsAt 9 = .ok (.imul, 1) := by decide +kernel
theorem dX6_debtsAt_10 : decode cX6_debtsAt 10 = .ok (.iadd, 1) := by decide +kernel
theorem dX6_debtsAt_11 : decode cX6_debtsAt 11 = .ok (.ireturn, 1) := by decide +kernel
theorem dX6_readAffairs_0 : decode cX6_readAffairs 0 = .ok (.iconst 0, 1) := by decide +kernel
theorem dX6_readAffairs_1 : decode cX6_readAffairs 1 = .ok (.istore_n 2, 1) := by decide +kernel
theorem dX6_readAffairs_2 : decode cX6_readAffairs 2 = .ok (.iload_n 2, 1) := by decide +kernel
theorem dX6_readAffairs_3 : decode cX6_readAffairs 3 = .ok (.aload_n 0, 1) := by decide +kernel
theorem dX6_readAffairs_4 : decode cX6_readAffairs 4 = .ok (.getfield 34, 3) := by decide +kernel
theorem dX6_readAffairs_7 : decode cX6_readAffairs 7 = .ok (.if_icmp .ge 44, 3) := by decide +kernel
theorem dX6_readAffairs_10 : decode cX6_readAffairs 10 = .ok (.aload_n 0, 1) := by decide +kernel
theorem dX6_readAffairs_11 : decode cX6_readAffairs 11 = .ok (.invokevirtual 91, 3) := by decide +kernel
theorem dX6_readAffairs_14 : decode cX6_readAffairs 14 = .ok (.iconst 4, 1) := by decide +kernel
theorem dX6_readAffairs_15 : decode cX6_readAffairs 15 = .ok (.iload_n 2, 1) := by decide +kernel
theorem dX6_readAffairs_16 : decode cX6_readAffairs 16 = .ok (.imul, 1) := by decide +kernel
theorem dX6_readAffairs_17 : decode cX6_readAffairs 17 = .ok (.iadd, 1) := by decide +kernel
theorem dX6_readAffairs_18 : decode cX6_readAffairs 18 = .ok (.istore_n 3, 1) := by decide +kernel
theorem dX6_readAffairs_19 : decode cX6_readAffairs 19 = .ok (.aload_n 1, 1) := by decide +kernel
theorem dX6_readAffairs_20 : decode cX6_readAffairs 20 = .ok (.getfield 137, 3) := by decide +kernel
theorem dX6_readAffairs_23 : decode cX6_readAffairs 23 = .ok (.iload_n 2, 1) := by decide +kernel
theorem dX6_readAffairs_24 : decode cX6_readAffairs 24 = .ok (.aload_n 0, 1) := by decide +kernel
theorem dX6_readAffairs_25 : decode cX6_readAffairs 25 = .ok (.iload_n 3, 1) := by decide +kernel
theorem dX6_readAffairs_26 : decode cX6_readAffairs 26 = .ok (.iconst 1, 1) := by decide +kernel
theorem dX6_readAffairs_27 : decode cX6_readAffairs 27 = .ok (.iadd, 1) := by decide +kernel
theorem dX6_readAffairs_28 : decode cX6_readAffairs 28 = .ok (.invokevirtual 104, 3) := by decide +kernel
theorem dX6_readAffairs_31 : decode cX6_readAffairs 31 = .ok (.iastore, 1) := by decide +kernel
theorem dX6_readAffairs_32 : decode cX6_readAffairs 32 = .ok (.aload_n 1, 1) := by decide +kernel
theorem dX6_readAffairs_33 : decode cX6_readAffairs 33 = .ok (.getfield 142, 3) := by decide +kernel
theorem dX6_readAffairs_36 : decode cX6_readAffairs 36 = .ok (.iload_n 2, 1) := by decide +kernel
theorem dX6_readAffairs_37 : decode cX6_readAffairs 37 = .ok (.aload_n 0, 1) := by decide +kernel
theorem dX6_readAffairs_38 : decode cX6_readAffairs 38 = .ok (.iload_n 3, 1) := by decide +kernel
theorem dX6_readAffairs_39 : decode cX6_readAffairs 39 = .ok (.iconst 2, 1) := by decide +kernel
theorem dX6_readAffairs_40 : decode cX6_readAffairs 40 = .ok (.iadd, 1) := by decide +kernel
theorem dX6_readAffairs_41 : decode cX6_readAffairs 41 = .ok (.invokevirtual 104, 3) := by decide +kernel
theorem dX6_readAffairs_44 : decode cX6_readAffairs 44 = .ok (.iastore, 1) := by decide +kernel
theorem dX6_readAffairs_45 : decode cX6_readAffairs 45 = .ok (.iinc 2 1, 3) := by decide +kernel
theorem dX6_readAffairs_48 : decode cX6_readAffairs 48 = .ok (.goto (-46), 3) := by decide +kernel
theorem dX6_readAffairs_51 : decode cX6_readAffairs 51 = .ok (.iconst 0, 1) := by decide +kernel
theorem dX6_readAffairs_52 : decode cX6_readAffairs 52 = .ok (.istore_n 2, 1) := by decide +kernel
theorem dX6_readAffairs_53 : decode cX6_readAffairs 53 = .ok (.iload_n 2, 1) := by decide +kernel
theorem dX6_readAffairs_54 : decode cX6_readAffairs 54 = .ok (.aload_n 0, 1) := by decide +kernel
theorem dX6_readAffairs_55 : decode cX6_readAffairs 55 = .ok (.getfield 37, 3) := by decide +kernel
theorem dX6_readAffairs_58 : decode cX6_readAffairs 58 = .ok (.if_icmp .ge 36, 3) := by decide +kernel
theorem dX6_readAffairs_61 : decode cX6_readAffairs 61 = .ok (.aload_n 1, 1) := by decide +kernel
theorem dX6_readAffairs_62 : decode cX6_readAffairs 62 = .ok (.getfield 145, 3) := by decide +kernel
theorem dX6_readAffairs_65 : decode cX6_readAffairs 65 = .ok (.iload_n 2, 1) := by decide +kernel
theorem dX6_readAffairs_66 : decode cX6_readAffairs 66 = .ok (.aload_n 0, 1) := by decide +kernel
theorem dX6_readAffairs_67 : decode cX6_readAffairs 67 = .ok (.aload_n 0, 1) := by decide +kernel
theorem dX6_readAffairs_68 : decode cX6_readAffairs 68 = .ok (.invokevirtual 125, 3) := by decide +kernel
theorem dX6_readAffairs_71 : decode cX6_readAffairs 71 = .ok (.iconst 5, 1) := by decide +kernel
theorem dX6_readAffairs_72 : decode cX6_readAffairs 72 = .ok (.iload_n 2, 1) := by decide +kernel
theorem dX6_readAffairs_73 : decode cX6_readAffairs 73 = .ok (.imul, 1) := by decide +kernel
theorem dX6_readAffairs_74 : decode cX6_readAffairs 74 = .ok (.iadd, 1) := by decide +kernel
theorem dX6_readAffairs_75 : decode cX6_readAffairs 75 = .ok (.iconst 3, 1) := by decide +kernel
theorem dX6_readAffairs_76 : decode cX6_readAffairs 76 = .ok (.iadd, 1) := by decide +kernel
theorem dX6_readAffairs_77 : decode cX6_readAffairs 77 = .ok (.invokevirtual 104, 3) := by decide +kernel
theorem dX6_readAffairs_80 : decode cX6_readAffairs 80 = .ok (.iastore, 1) := by decide +kernel
theorem dX6_readAffairs_81 : decode cX6_readAffairs 81 = .ok (.aload_n 1, 1) := by decide +kernel
theorem dX6_readAffairs_82 : decode cX6_readAffairs 82 = .ok (.getfield 148, 3) := by decide +kernel
theorem dX6_readAffairs_85 : decode cX6_readAffairs 85 = .ok (.iload_n 2, 1) := by decide +kernel
theorem dX6_readAffairs_86 : decode cX6_readAffairs 86 = .ok (.iconst 0, 1) := by decide +kernel
theorem dX6_readAffairs_87 : decode cX6_readAffairs 87 = .ok (.bastore, 1) := by decide +kernel
theorem dX6_readAffairs_88 : decode cX6_readAffairs 88 = .ok (.iinc 2 1, 3) := by decide +kernel
theorem dX6_readAffairs_91 : decode cX6_readAffairs 91 = .ok (.goto (-38), 3) := by decide +kernel
theorem dX6_readAffairs_94 : decode cX6_readAffairs 94 = .ok (.iconst 0, 1) := by decide +kernel
theorem dX6_readAffairs_95 : decode cX6_readAffairs 95 = .ok (.istore_n 2, 1) := by decide +kernel
theorem dX6_readAffairs_96 : decode cX6_readAffairs 96 = .ok (.iload_n 2, 1) := by decide +kernel
theorem dX6_readAffairs_97 : decode cX6_readAffairs 97 = .ok (.iconst 2, 1) := by decide +kernel
theorem dX6_readAffairs_98 : decode cX6_readAffairs 98 = .ok (.if_icmp .ge 16, 3) := by decide +kernel
theorem dX6_readAffairs_101 : decode cX6_readAffairs 101 = .ok (.aload_n 1, 1) := by decide +kernel
theorem dX6_readAffairs_102 : decode cX6_readAffairs 102 = .ok (.getfield 152, 3) := by decide +kernel
theorem dX6_readAffairs_105 : decode cX6_readAffairs 105 = .ok (.iload_n 2, 1) := by decide +kernel
theorem dX6_readAffairs_106 : decode cX6_readAffairs 106 = .ok (.iload_n 2, 1) := by decide +kernel
theorem dX6_readAffairs_107 : decode cX6_readAffairs 107 = .ok (.iastore, 1) := by decide +kernel
theorem dX6_readAffairs_108 : decode cX6_readAffairs 108 = .ok (.iinc 2 1, 3) := by decide +kernel
theorem dX6_readAffairs_111 : decode cX6_readAffairs 111 = .ok (.goto (-15), 3) := by decide +kernel
theorem dX6_readAffairs_114 : decode cX6_readAffairs 114 = .ok (.aload_n 1, 1) := by decide +kernel
theorem dX6_readAffairs_115 : decode cX6_readAffairs 115 = .ok (.iconst 0, 1) := by decide +kernel
theorem dX6_readAffairs_116 : decode cX6_readAffairs 116 = .ok (.putfield 155, 3) := by decide +kernel
theorem dX6_readAffairs_119 : decode cX6_readAffairs 119 = .ok (.aload_n 1, 1) := by decide +kernel
theorem dX6_readAffairs_120 : decode cX6_readAffairs 120 = .ok (.iconst 0, 1) := by decide +kernel
theorem dX6_readAffairs_121 : decode cX6_readAffairs 121 = .ok (.putfield 158, 3) := by decide +kernel
theorem dX6_readAffairs_124 : decode cX6_readAffairs 124 = .ok (.return_, 1) := by decide +kernel
theorem dX11_isNobody_0 : decode cX11_isNobody 0 = .ok (.iload_n 1, 1) := by decide +kernel
theorem dX11_isNobody_1 : decode cX11_isNobody 1 = .ok (.ifCond .lt 14, 3) := by decide +kernel
theorem dX11_isNobody_4 : decode cX11_isNobody 4 = .ok (.iload_n 1, 1) := by decide +kernel
theorem dX11_isNobody_5 : decode cX11_isNobody 5 = .ok (.aload_n 0, 1) := by decide +kernel
theorem dX11_isNobody_6 : decode cX11_isNobody 6 = .ok (.getfield 19, 3) := by decide +kernel
theorem dX11_isNobody_9 : decode cX11_isNobody 9 = .ok (.getfield 90, 3) := by decide +kernel
theorem dX11_isNobody_12 : decode cX11_isNobody 12 = .ok (.if_icmp .lt 7, 3) := by decide +kernel
theorem dX11_isNobody_15 : decode cX11_isNobody 15 = .ok (.iconst 1, 1) := by decide +kernel
theorem dX11_isNobody_16 : decode cX11_isNobody 16 = .ok (.goto 4, 3) := by decide +kernel
theorem dX11_isNobody_19 : decode cX11_isNobody 19 = .ok (.iconst 0, 1) := by decide +kernel
theorem dX11_isNobody_20 : decode cX11_isNobody 20 = .ok (.ireturn, 1) := by decide +kernel
theorem dX1_number_0 : decode cX1_number 0 = .ok (.iconst 2, 1) := by decide +kernel
theorem dX1_number_1 : decode cX1_number 1 = .ok (.ireturn, 1) := by decide +kernel
theorem dX2_number_0 : decode cX2_number 0 = .ok (.iconst 4, 1) := by decide +kernel
theorem dX2_number_1 : decode cX2_number 1 = .ok (.ireturn, 1) := by decide +kernel
theorem dX3_number_0 : decode cX3_number 0 = .ok (.iconst 3, 1) := by decide +kernel
theorem dX3_number_1 : decode cX3_number 1 = .ok (.ireturn, 1) := by decide +kernel
theorem dX7_number_0 : decode cX7_number 0 = .ok (.iconst 0, 1) := by decide +kernel
theorem dX7_number_1 : decode cX7_number 1 = .ok (.ireturn, 1) := by decide +kernel
theorem dX8_number_0 : decode cX8_number 0 = .ok (.iconst 1, 1) := by decide +kernel
theorem dX8_number_1 : decode cX8_number 1 = .ok (.ireturn, 1) := by decide +kernel
theorem dX0_keyBits_0 : decode cX0_keyBits 0 = .ok (.iconst 0, 1) := by decide +kernel
theorem dX0_keyBits_1 : decode cX0_keyBits 1 = .ok (.istore_n 2, 1) := by decide +kernel
theorem dX0_keyBits_2 : decode cX0_keyBits 2 = .ok (.iconst 0, 1) := by decide +kernel
theorem dX0_keyBits_3 : decode cX0_keyBits 3 = .ok (.istore_n 3, 1) := by decide +kernel
theorem dX0_keyBits_4 : decode cX0_keyBits 4 = .ok (.iload_n 3, 1) := by decide +kernel
theorem dX0_keyBits_5 : decode cX0_keyBits 5 = .ok (.iconst 2, 1) := by decide +kernel
theorem dX0_keyBits_6 : decode cX0_keyBits 6 = .ok (.if_icmp .ge 25, 3) := by decide +kernel
theorem dX0_keyBits_9 : decode cX0_keyBits 9 = .ok (.aload_n 0, 1) := by decide +kernel
theorem dX0_keyBits_10 : decode cX0_keyBits 10 = .ok (.getfield 18, 3) := by decide +kernel
theorem dX0_keyBits_13 : decode cX0_keyBits 13 = .ok (.iload_n 3, 1) := by decide +kernel
theorem dX0_keyBits_14 : decode cX0_keyBits 14 = .ok (.iaload, 1) := by decide +kernel
theorem dX0_keyBits_15 : decode cX0_keyBits 15 = .ok (.iload_n 1, 1) := by decide +kernel
theorem dX0_keyBits_16 : decode cX0_keyBits 16 = .ok (.if_icmp .ne 9, 3) := by decide +kernel
theorem dX0_keyBits_19 : decode cX0_keyBits 19 = .ok (.iload_n 2, 1) := by decide +kernel
theorem dX0_keyBits_20 : decode cX0_keyBits 20 = .ok (.iconst 1, 1) := by decide +kernel
theorem dX0_keyBits_21 : decode cX0_keyBits 21 = .ok (.iload_n 3, 1) := by decide +kernel
theorem dX0_keyBits_22 : decode cX0_keyBits 22 = .ok (.ishl, 1) := by decide +kernel
theorem dX0_keyBits_23 : decode cX0_keyBits 23 = .ok (.ior, 1) := by decide +kernel
theorem dX0_keyBits_24 : decode cX0_keyBits 24 = .ok (.istore_n 2, 1) := by decide +kernel
theorem dX0_keyBits_25 : decode cX0_keyBits 25 = .ok (.iinc 3 1, 3) := by decide +kernel
theorem dX0_keyBits_28 : decode cX0_keyBits 28 = .ok (.goto (-24), 3) := by decide +kernel
theorem dX0_keyBits_31 : decode cX0_keyBits 31 = .ok (.iload_n 2, 1) := by decide +kernel
theorem dX0_keyBits_32 : decode cX0_keyBits 32 = .ok (.ireturn, 1) := by decide +kernel
theorem dX4_doorEndsAt_0 : decode cX4_doorEndsAt 0 = .ok (.aload_n 0, 1) := by decide +kernel
theorem dX4_doorEndsAt_1 : decode cX4_doorEndsAt 1 = .ok (.getfield 9, 3) := by decide +kernel
theorem dX4_doorEndsAt_4 : decode cX4_doorEndsAt 4 = .ok (.iload_n 1, 1) := by decide +kernel
theorem dX4_doorEndsAt_5 : decode cX4_doorEndsAt 5 = .ok (.iaload, 1) := by decide +kernel
theorem dX4_doorEndsAt_6 : decode cX4_doorEndsAt 6 = .ok (.iload_n 2, 1) := by decide +kernel
theorem dX4_doorEndsAt_7 : decode cX4_doorEndsAt 7 = .ok (.if_icmp .eq 13, 3) := by decide +kernel
theorem dX4_doorEndsAt_10 : decode cX4_doorEndsAt 10 = .ok (.aload_n 0, 1) := by decide +kernel
theorem dX4_doorEndsAt_11 : decode cX4_doorEndsAt 11 = .ok (.getfield 15, 3) := by decide +kernel
theorem dX4_doorEndsAt_14 : decode cX4_doorEndsAt 14 = .ok (.iload_n 1, 1) := by decide +kernel
theorem dX4_doorEndsAt_15 : decode cX4_doorEndsAt 15 = .ok (.iaload, 1) := by decide +kernel
theorem dX4_doorEndsAt_16 : decode cX4_doorEndsAt 16 = .ok (.iload_n 2, 1) := by decide +kernel
theorem dX4_doorEndsAt_17 : decode cX4_doorEndsAt 17 = .ok (.if_icmp .ne 7, 3) := by decide +kernel
theorem dX4_doorEndsAt_20 : decode cX4_doorEndsAt 20 = .ok (.iconst 1, 1) := by decide +kernel
theorem dX4_doorEndsAt_21 : decode cX4_doorEndsAt 21 = .ok (.goto 4, 3) := by decide +kernel
theorem dX4_doorEndsAt_24 : decode cX4_doorEndsAt 24 = .ok (.iconst 0, 1) := by decide +kernel
theorem dX4_doorEndsAt_25 : decode cX4_doorEndsAt 25 = .ok (.ireturn, 1) := by decide +kernel
theorem dX1_passes_0 : decode cX1_passes 0 = .ok (.iconst 1, 1) := by decide +kernel
theorem dX1_passes_1 : decode cX1_passes 1 = .ok (.ireturn, 1) := by decide +kernel
theorem dX7_passes_0 : decode cX7_passes 0 = .ok (.iload_n 1, 1) := by decide +kernel
theorem dX7_passes_1 : decode cX7_passes 1 = .ok (.ifCond .eq 7, 3) := by decide +kernel
theorem dX7_passes_4 : decode cX7_passes 4 = .ok (.iload_n 2, 1) := by decide +kernel
theorem dX7_passes_5 : decode cX7_passes 5 = .ok (.ifCond .eq 7, 3) := by decide +kernel
theorem dX7_passes_8 : decode cX7_passes 8 = .ok (.iconst 1, 1) := by decide +kernel
theorem dX7_passes_9 : decode cX7_passes 9 = .ok (.goto 4, 3) := by decide +kernel
theorem dX7_passes_12 : decode cX7_passes 12 = .ok (.iconst 0, 1) := by decide +kernel
theorem dX7_passes_13 : decode cX7_passes 13 = .ok (.ireturn, 1) := by decide +kernel
theorem dX8_passes_0 : decode cX8_passes 0 = .ok (.iconst 0, 1) := by decide +kernel
theorem dX8_passes_1 : decode cX8_passes 1 = .ok (.ireturn, 1) := by decide +kernel
theorem dX0_mayPass_0 : decode cX0_mayPass 0 = .ok (.aload_n 0, 1) := by decide +kernel
theorem dX0_mayPass_1 : decode cX0_mayPass 1 = .ok (.getfield 34, 3) := by decide +kernel
theorem dX0_mayPass_4 : decode cX0_mayPass 4 = .ok (.getfield 45, 3) := by decide +kernel
theorem dX0_mayPass_7 : decode cX0_mayPass 7 = .ok (.iload_n 2, 1) := by decide +kernel
theorem dX0_mayPass_8 : decode cX0_mayPass 8 = .ok (.iaload, 1) := by decide +kernel
theorem dX0_mayPass_9 : decode cX0_mayPass 9 = .ok (.istore_n 3, 1) := by decide +kernel
theorem dX0_mayPass_10 : decode cX0_mayPass 10 = .ok (.iload_n 3, 1) := by decide +kernel
theorem dX0_mayPass_11 : decode cX0_mayPass 11 = .ok (.ifCond .lt 12, 3) := by decide +kernel
theorem dX0_mayPass_14 : decode cX0_mayPass 14 = .ok (.iload_n 3, 1) := by decide +kernel
theorem dX0_mayPass_15 : decode cX0_mayPass 15 = .ok (.iconst 2, 1) := by decide +kernel
theorem dX0_mayPass_16 : decode cX0_mayPass 16 = .ok (.if_icmp .ge 7, 3) := by decide +kernel
theorem dX0_mayPass_19 : decode cX0_mayPass 19 = .ok (.iconst 1, 1) := by decide +kernel
theorem dX0_mayPass_20 : decode cX0_mayPass 20 = .ok (.goto 4, 3) := by decide +kernel
theorem dX0_mayPass_23 : decode cX0_mayPass 23 = .ok (.iconst 0, 1) := by decide +kernel
theorem dX0_mayPass_24 : decode cX0_mayPass 24 = .ok (.istore 4, 2) := by decide +kernel
theorem dX0_mayPass_26 : decode cX0_mayPass 26 = .ok (.iload 4, 2) := by decide +kernel
theorem dX0_mayPass_28 : decode cX0_mayPass 28 = .ok (.ifCond .eq 17, 3) := by decide +kernel
theorem dX0_mayPass_31 : decode cX0_mayPass 31 = .ok (.aload_n 0, 1) := by decide +kernel
theorem dX0_mayPass_32 : decode cX0_mayPass 32 = .ok (.getfield 18, 3) := by decide +kernel
theorem dX0_mayPass_35 : decode cX0_mayPass 35 = .ok (.iload_n 3, 1) := by decide +kernel
theorem dX0_mayPass_36 : decode cX0_mayPass 36 = .ok (.iaload, 1) := by decide +kernel
theorem dX0_mayPass_37 : decode cX0_mayPass 37 = .ok (.iload_n 1, 1) := by decide +kernel
theorem dX0_mayPass_38 : decode cX0_mayPass 38 = .ok (.if_icmp .ne 7, 3) := by decide +kernel
theorem dX0_mayPass_41 : decode cX0_mayPass 41 = .ok (.iconst 1, 1) := by decide +kernel
theorem dX0_mayPass_42 : decode cX0_mayPass 42 = .ok (.goto 4, 3) := by decide +kernel
theorem dX0_mayPass_45 : decode cX0_mayPass 45 = .ok (.iconst 0, 1) := by decide +kernel
theorem dX0_mayPass_46 : decode cX0_mayPass 46 = .ok (.istore 5, 2) := by decide +kernel
theorem dX0_mayPass_48 : decode cX0_mayPass 48 = .ok (.aload_n 0, 1) := by decide +kernel
theorem dX0_mayPass_49 : decode cX0_mayPass 49 = .ok (.getfield 34, 3) := by decide +kernel
theorem dX0_mayPass_52 : decode cX0_mayPass 52 = .ok (.getfield 50, 3) := by decide +kernel
theorem dX0_mayPass_55 : decode cX0_mayPass 55 = .ok (.iload_n 1, 1) := by decide +kernel
theorem dX0_mayPass_56 : decode cX0_mayPass 56 = .ok (.aaload, 1) := by decide +kernel
theorem dX0_mayPass_57 : decode cX0_mayPass 57 = .ok (.iload 4, 2) := by decide +kernel
theorem dX0_mayPass_59 : decode cX0_mayPass 59 = .ok (.iload 5, 2) := by decide +kernel
theorem dX0_mayPass_61 : decode cX0_mayPass 61 = .ok (.invokevirtual 54, 3) := by decide +kernel
theorem dX0_mayPass_64 : decode cX0_mayPass 64 = .ok (.ireturn, 1) := by decide +kernel
theorem dX0_mayGo_0 : decode cX0_mayGo 0 = .ok (.aload_n 0, 1) := by decide +kernel
theorem dX0_mayGo_1 : decode cX0_mayGo 1 = .ok (.getfield 34, 3) := by decide +kernel
theorem dX0_mayGo_4 : decode cX0_mayGo 4 = .ok (.iload_n 2, 1) := by decide +kernel
theorem dX0_mayGo_5 : decode cX0_mayGo 5 = .ok (.aload_n 0, 1) := by decide +kernel
theorem dX0_mayGo_6 : decode cX0_mayGo 6 = .ok (.getfield 15, 3) := by decide +kernel
theorem dX0_mayGo_9 : decode cX0_mayGo 9 = .ok (.iload_n 1, 1) := by decide +kernel
theorem dX0_mayGo_10 : decode cX0_mayGo 10 = .ok (.iaload, 1) := by decide +kernel
theorem dX0_mayGo_11 : decode cX0_mayGo 11 = .ok (.invokevirtual 60, 3) := by decide +kernel
theorem dX0_mayGo_14 : decode cX0_mayGo 14 = .ok (.ifCond .eq 16, 3) := by decide +kernel
theorem dX0_mayGo_17 : decode cX0_mayGo 17 = .ok (.aload_n 0, 1) := by decide +kernel
theorem dX0_mayGo_18 : decode cX0_mayGo 18 = .ok (.iload_n 1, 1) := by decide +kernel
theorem dX0_mayGo_19 : decode cX0_mayGo 19 = .ok (.iload_n 2, 1) := by decide +kernel
theorem dX0_mayGo_20 : decode cX0_mayGo 20 = .ok (.invokevirtual 64, 3) := by decide +kernel
theorem dX0_mayGo_23 : decode cX0_mayGo 23 = .ok (.ifCond .eq 7, 3) := by decide +kernel
theorem dX0_mayGo_26 : decode cX0_mayGo 26 = .ok (.iconst 1, 1) := by decide +kernel
theorem dX0_mayGo_27 : decode cX0_mayGo 27 = .ok (.goto 4, 3) := by decide +kernel
theorem dX0_mayGo_30 : decode cX0_mayGo 30 = .ok (.iconst 0, 1) := by decide +kernel
theorem dX0_mayGo_31 : decode cX0_mayGo 31 = .ok (.ireturn, 1) := by decide +kernel
theorem dX0_doorBits_0 : decode cX0_doorBits 0 = .ok (.iconst 0, 1) := by decide +kernel
theorem dX0_doorBits_1 : decode cX0_doorBits 1 = .ok (.istore_n 2, 1) := by decide +kernel
theorem dX0_doorBits_2 : decode cX0_doorBits 2 = .ok (.iconst 0, 1) := by decide +kernel
theorem dX0_doorBits_3 : decode cX0_doorBits 3 = .ok (.istore_n 3, 1) := by decide +kernel
theorem dX0_doorBits_4 : decode cX0_doorBits 4 = .ok (.iload_n 3, 1) := by decide +kernel
theorem dX0_doorBits_5 : decode cX0_doorBits 5 = .ok (.aload_n 0, 1) := by decide +kernel
theorem dX0_doorBits_6 : decode cX0_doorBits 6 = .ok (.getfield 34, 3) := by decide +kernel
theorem dX0_doorBits_9 : decode cX0_doorBits 9 = .ok (.getfield 118, 3) := by decide +kernel
theorem dX0_doorBits_12 : decode cX0_doorBits 12 = .ok (.if_icmp .ge 24, 3) := by decide +kernel
theorem dX0_doorBits_15 : decode cX0_doorBits 15 = .ok (.aload_n 0, 1) := by decide +kernel
theorem dX0_doorBits_16 : decode cX0_doorBits 16 = .ok (.iload_n 1, 1) := by decide +kernel
theorem dX0_doorBits_17 : decode cX0_doorBits 17 = .ok (.iload_n 3, 1) := by decide +kernel
theorem dX0_doorBits_18 : decode cX0_doorBits 18 = .ok (.invokevirtual 121, 3) := by decide +kernel
theorem dX0_doorBits_21 : decode cX0_doorBits 21 = .ok (.ifCond .eq 9, 3) := by decide +kernel
theorem dX0_doorBits_24 : decode cX0_doorBits 24 = .ok (.iload_n 2, 1) := by decide +kernel
theorem dX0_doorBits_25 : decode cX0_doorBits 25 = .ok (.iconst 1, 1) := by decide +kernel
theorem dX0_doorBits_26 : decode cX0_doorBits 26 = .ok (.iload_n 3, 1) := by decide +kernel
theorem dX0_doorBits_27 : decode cX0_doorBits 27 = .ok (.ishl, 1) := by decide +kernel
theorem dX0_doorBits_28 : decode cX0_doorBits 28 = .ok (.ior, 1) := by decide +kernel
theorem dX0_doorBits_29 : decode cX0_doorBits 29 = .ok (.istore_n 2, 1) := by decide +kernel
theorem dX0_doorBits_30 : decode cX0_doorBits 30 = .ok (.iinc 3 1, 3) := by decide +kernel
theorem dX0_doorBits_33 : decode cX0_doorBits 33 = .ok (.goto (-29), 3) := by decide +kernel
theorem dX0_doorBits_36 : decode cX0_doorBits 36 = .ok (.iload_n 2, 1) := by decide +kernel
theorem dX0_doorBits_37 : decode cX0_doorBits 37 = .ok (.ireturn, 1) := by decide +kernel
theorem dX2_costOfSum_0 : decode cX2_costOfSum 0 = .ok (.iload_n 1, 1) := by decide +kernel
theorem dX2_costOfSum_1 : decode cX2_costOfSum 1 = .ok (.ireturn, 1) := by decide +kernel
theorem dX7_costOfSum_0 : decode cX7_costOfSum 0 = .ok (.iload_n 1, 1) := by decide +kernel
theorem dX7_costOfSum_1 : decode cX7_costOfSum 1 = .ok (.ireturn, 1) := by decide +kernel
theorem dX8_costOfSum_0 : decode cX8_costOfSum 0 = .ok (.iload_n 1, 1) := by decide +kernel
theorem dX8_costOfSum_1 : decode cX8_costOfSum 1 = .ok (.iconst 1, 1) := by decide +kernel
theorem dX8_costOfSum_2 : decode cX8_costOfSum 2 = .ok (.iadd, 1) := by decide +kernel
theorem dX8_costOfSum_3 : decode cX8_costOfSum 3 = .ok (.ireturn, 1) := by decide +kernel
theorem dX0_costOf_0 : decode cX0_costOf 0 = .ok (.aload_n 0, 1) := by decide +kernel
theorem dX0_costOf_1 : decode cX0_costOf 1 = .ok (.getfield 34, 3) := by decide +kernel
theorem dX0_costOf_4 : decode cX0_costOf 4 = .ok (.getfield 50, 3) := by decide +kernel
theorem dX0_costOf_7 : decode cX0_costOf 7 = .ok (.aload_n 0, 1) := by decide +kernel
theorem dX0_costOf_8 : decode cX0_costOf 8 = .ok (.getfield 34, 3) := by decide +kernel
theorem dX0_costOf_11 : decode cX0_costOf 11 = .ok (.getfield 71, 3) := by decide +kernel
theorem dX0_costOf_14 : decode cX0_costOf 14 = .ok (.iload_n 1, 1) := by decide +kernel
theorem dX0_costOf_15 : decode cX0_costOf 15 = .ok (.iaload, 1) := by decide +kernel
theorem dX0_costOf_16 : decode cX0_costOf 16 = .ok (.aaload, 1) := by decide +kernel
theorem dX0_costOf_17 : decode cX0_costOf 17 = .ok (.aload_n 0, 1) := by decide +kernel
theorem dX0_costOf_18 : decode cX0_costOf 18 = .ok (.getfield 21, 3) := by decide +kernel
theorem dX0_costOf_21 : decode cX0_costOf 21 = .ok (.iload_n 1, 1) := by decide +kernel
theorem dX0_costOf_22 : decode cX0_costOf 22 = .ok (.iaload, 1) := by decide +kernel
theorem dX0_costOf_23 : decode cX0_costOf 23 = .ok (.invokevirtual 74, 3) := by decide +kernel
theorem dX0_costOf_26 : decode cX0_costOf 26 = .ok (.ireturn, 1) := by decide +kernel
theorem dX3_mayPayFrom_0 : decode cX3_mayPayFrom 0 = .ok (.iload_n 1, 1) := by decide +kernel
theorem dX3_mayPayFrom_1 : decode cX3_mayPayFrom 1 = .ok (.ireturn, 1) := by decide +kernel
theorem dX7_mayPayFrom_0 : decode cX7_mayPayFrom 0 = .ok (.iload_n 1, 1) := by decide +kernel
theorem dX7_mayPayFrom_1 : decode cX7_mayPayFrom 1 = .ok (.ifCond .eq 11, 3) := by decide +kernel
theorem dX7_mayPayFrom_4 : decode cX7_mayPayFrom 4 = .ok (.iload_n 2, 1) := by decide +kernel
theorem dX7_mayPayFrom_5 : decode cX7_mayPayFrom 5 = .ok (.ifCond .eq 7, 3) := by decide +kernel
theorem dX7_mayPayFrom_8 : decode cX7_mayPayFrom 8 = .ok (.iconst 1, 1) := by decide +kernel
theorem dX7_mayPayFrom_9 : decode cX7_mayPayFrom 9 = .ok (.goto 4, 3) := by decide +kernel
theorem dX7_mayPayFrom_12 : decode cX7_mayPayFrom 12 = .ok (.iconst 0, 1) := by decide +kernel
theorem dX7_mayPayFrom_13 : decode cX7_mayPayFrom 13 = .ok (.ireturn, 1) := by decide +kernel
theorem dX8_mayPayFrom_0 : decode cX8_mayPayFrom 0 = .ok (.iconst 1, 1) := by decide +kernel
theorem dX8_mayPayFrom_1 : decode cX8_mayPayFrom 1 = .ok (.ireturn, 1) := by decide +kernel
theorem dX0_mayPay_0 : decode cX0_mayPay 0 = .ok (.aload_n 0, 1) := by decide +kernel
theorem dX0_mayPay_1 : decode cX0_mayPay 1 = .ok (.getfield 34, 3) := by decide +kernel
theorem dX0_mayPay_4 : decode cX0_mayPay 4 = .ok (.getfield 71, 3) := by decide +kernel
theorem dX0_mayPay_7 : decode cX0_mayPay 7 = .ok (.iload_n 1, 1) := by decide +kernel
theorem dX0_mayPay_8 : decode cX0_mayPay 8 = .ok (.iaload, 1) := by decide +kernel
theorem dX0_mayPay_9 : decode cX0_mayPay 9 = .ok (.istore_n 2, 1) := by decide +kernel
theorem dX0_mayPay_10 : decode cX0_mayPay 10 = .ok (.aload_n 0, 1) := by decide +kernel
theorem dX0_mayPay_11 : decode cX0_mayPay 11 = .ok (.getfield 24, 3) := by decide +kernel
theorem dX0_mayPay_14 : decode cX0_mayPay 14 = .ok (.iload_n 1, 1) := by decide +kernel
theorem dX0_mayPay_15 : decode cX0_mayPay 15 = .ok (.baload, 1) := by decide +kernel
theorem dX0_mayPay_16 : decode cX0_mayPay 16 = .ok (.ifCond .ne 17, 3) := by decide +kernel
theorem dX0_mayPay_19 : decode cX0_mayPay 19 = .ok (.aload_n 0, 1) := by decide +kernel
theorem dX0_mayPay_20 : decode cX0_mayPay 20 = .ok (.getfield 9, 3) := by decide +kernel
theorem dX0_mayPay_23 : decode cX0_mayPay 23 = .ok (.iload_n 2, 1) := by decide +kernel
theorem dX0_mayPay_24 : decode cX0_mayPay 24 = .ok (.iaload, 1) := by decide +kernel
theorem dX0_mayPay_25 : decode cX0_mayPay 25 = .ok (.aload_n 0, 1) := by decide +kernel
theorem dX0_mayPay_26 : decode cX0_mayPay 26 = .ok (.iload_n 1, 1) := by decide +kernel
theorem dX0_mayPay_27 : decode cX0_mayPay 27 = .ok (.invokevirtual 78, 3) := by decide +kernel
theorem dX0_mayPay_30 : decode cX0_mayPay 30 = .ok (.if_icmp .ge 5, 3) := by decide +kernel
theorem dX0_mayPay_33 : decode cX0_mayPay 33 = .ok (.iconst 0, 1) := by decide +kernel
theorem dX0_mayPay_34 : decode cX0_mayPay 34 = .ok (.ireturn, 1) := by decide +kernel
theorem dX0_mayPay_35 : decode cX0_mayPay 35 = .ok (.aload_n 0, 1) := by decide +kernel
theorem dX0_mayPay_36 : decode cX0_mayPay 36 = .ok (.getfield 34, 3) := by decide +kernel
theorem dX0_mayPay_39 : decode cX0_mayPay 39 = .ok (.getfield 81, 3) := by decide +kernel
theorem dX0_mayPay_42 : decode cX0_mayPay 42 = .ok (.iload_n 1, 1) := by decide +kernel
theorem dX0_mayPay_43 : decode cX0_mayPay 43 = .ok (.iaload, 1) := by decide +kernel
theorem dX0_mayPay_44 : decode cX0_mayPay 44 = .ok (.istore_n 3, 1) := by decide +kernel
theorem dX0_mayPay_45 : decode cX0_mayPay 45 = .ok (.aload_n 0, 1) := by decide +kernel
theorem dX0_mayPay_46 : decode cX0_mayPay 46 = .ok (.getfield 34, 3) := by decide +kernel
theorem dX0_mayPay_49 : decode cX0_mayPay 49 = .ok (.getfield 50, 3) := by decide +kernel
theorem dX0_mayPay_52 : decode cX0_mayPay 52 = .ok (.iload_n 2, 1) := by decide +kernel
theorem dX0_mayPay_53 : decode cX0_mayPay 53 = .ok (.aaload, 1) := by decide +kernel
theorem dX0_mayPay_54 : decode cX0_mayPay 54 = .ok (.aload_n 0, 1) := by decide +kernel
theorem dX0_mayPay_55 : decode cX0_mayPay 55 = .ok (.getfield 15, 3) := by decide +kernel
theorem dX0_mayPay_58 : decode cX0_mayPay 58 = .ok (.iload_n 2, 1) := by decide +kernel
theorem dX0_mayPay_59 : decode cX0_mayPay 59 = .ok (.iaload, 1) := by decide +kernel
theorem dX0_mayPay_60 : decode cX0_mayPay 60 = .ok (.iload_n 3, 1) := by decide +kernel
theorem dX0_mayPay_61 : decode cX0_mayPay 61 = .ok (.if_icmp .ne 7, 3) := by decide +kernel
theorem dX0_mayPay_64 : decode cX0_mayPay 64 = .ok (.iconst 1, 1) := by decide +kernel
theorem dX0_mayPay_65 : decode cX0_mayPay 65 = .ok (.goto 4, 3) := by decide +kernel
theorem dX0_mayPay_68 : decode cX0_mayPay 68 = .ok (.iconst 0, 1) := by decide +kernel
theorem dX0_mayPay_69 : decode cX0_mayPay 69 = .ok (.aload_n 0, 1) := by decide +kernel
theorem dX0_mayPay_70 : decode cX0_mayPay 70 = .ok (.getfield 15, 3) := by decide +kernel
theorem dX0_mayPay_73 : decode cX0_mayPay 73 = .ok (.aload_n 0, 1) := by decide +kernel
theorem dX0_mayPay_74 : decode cX0_mayPay 74 = .ok (.getfield 34, 3) := by decide +kernel
theorem dX0_mayPay_77 : decode cX0_mayPay 77 = .ok (.getfield 84, 3) := by decide +kernel
theorem dX0_mayPay_80 : decode cX0_mayPay 80 = .ok (.iload_n 1, 1) := by decide +kernel
theorem dX0_mayPay_81 : decode cX0_mayPay 81 = .ok (.iaload, 1) := by decide +kernel
theorem dX0_mayPay_82 : decode cX0_mayPay 82 = .ok (.iaload, 1) := by decide +kernel
theorem dX0_mayPay_83 : decode cX0_mayPay 83 = .ok (.iload_n 3, 1) := by decide +kernel
theorem dX0_mayPay_84 : decode cX0_mayPay 84 = .ok (.if_icmp .ne 7, 3) := by decide +kernel
theorem dX0_mayPay_87 : decode cX0_mayPay 87 = .ok (.iconst 1, 1) := by decide +kernel
theorem dX0_mayPay_88 : decode cX0_mayPay 88 = .ok (.goto 4, 3) := by decide +kernel
theorem dX0_mayPay_91 : decode cX0_mayPay 91 = .ok (.iconst 0, 1) := by decide +kernel
theorem dX0_mayPay_92 : decode cX0_mayPay 92 = .ok (.invokevirtual 87, 3) := by decide +kernel
theorem dX0_mayPay_95 : decode cX0_mayPay 95 = .ok (.ireturn, 1) := by decide +kernel
theorem dX0_payableBits_0 : decode cX0_payableBits 0 = .ok (.iconst 0, 1) := by decide +kernel
theorem dX0_payableBits_1 : decode cX0_payableBits 1 = .ok (.istore_n 2, 1) := by decide +kernel
theorem dX0_payableBits_2 : decode cX0_payableBits 2 = .ok (.iconst 0, 1) := by decide +kernel
theorem dX0_payableBits_3 : decode cX0_payableBits 3 = .ok (.istore_n 3, 1) := by decide +kernel
theorem dX0_payableBits_4 : decode cX0_payableBits 4 = .ok (.iload_n 3, 1) := by decide +kernel
theorem dX0_payableBits_5 : decode cX0_payableBits 5 = .ok (.aload_n 0, 1) := by decide +kernel
theorem dX0_payableBits_6 : decode cX0_payableBits 6 = .ok (.getfield 34, 3) := by decide +kernel
theorem dX0_payableBits_9 : decode cX0_payableBits 9 = .ok (.getfield 95, 3) := by decide +kernel
theorem dX0_payableBits_12 : decode cX0_payableBits 12 = .ok (.if_icmp .ge 36, 3) := by decide +kernel
theorem dX0_payableBits_15 : decode cX0_payableBits 15 = .ok (.aload_n 0, 1) := by decide +kernel
theorem dX0_payableBits_16 : decode cX0_payableBits 16 = .ok (.getfield 34, 3) := by decide +kernel
theorem dX0_payableBits_19 : decode cX0_payableBits 19 = .ok (.getfield 71, 3) := by decide +kernel
theorem dX0_payableBits_22 : decode cX0_payableBits 22 = .ok (.iload_n 3, 1) := by decide +kernel
theorem dX0_payableBits_23 : decode cX0_payableBits 23 = .ok (.iaload, 1) := by decide +kernel
theorem dX0_payableBits_24 : decode cX0_payableBits 24 = .ok (.iload_n 1, 1) := by decide +kernel
theorem dX0_payableBits_25 : decode cX0_payableBits 25 = .ok (.if_icmp .ne 17, 3) := by decide +kernel
theorem dX0_payableBits_28 : decode cX0_payableBits 28 = .ok (.aload_n 0, 1) := by decide +kernel
theorem dX0_payableBits_29 : decode cX0_payableBits 29 = .ok (.iload_n 3, 1) := by decide +kernel
theorem dX0_payableBits_30 : decode cX0_payableBits 30 = .ok (.invokevirtual 98, 3) := by decide +kernel
theorem dX0_payableBits_33 : decode cX0_payableBits 33 = .ok (.ifCond .eq 9, 3) := by decide +kernel
theorem dX0_payableBits_36 : decode cX0_payableBits 36 = .ok (.iload_n 2, 1) := by decide +kernel
theorem dX0_payableBits_37 : decode cX0_payableBits 37 = .ok (.iconst 1, 1) := by decide +kernel
theorem dX0_payableBits_38 : decode cX0_payableBits 38 = .ok (.iload_n 3, 1) := by decide +kernel
theorem dX0_payableBits_39 : decode cX0_payableBits 39 = .ok (.ishl, 1) := by decide +kernel
theorem dX0_payableBits_40 : decode cX0_payableBits 40 = .ok (.ior, 1) := by decide +kernel
theorem dX0_payableBits_41 : decode cX0_payableBits 41 = .ok (.istore_n 2, 1) := by decide +kernel
theorem dX0_payableBits_42 : decode cX0_payableBits 42 = .ok (.iinc 3 1, 3) := by decide +kernel
theorem dX0_payableBits_45 : decode cX0_payableBits 45 = .ok (.goto (-41), 3) := by decide +kernel
theorem dX0_payableBits_48 : decode cX0_payableBits 48 = .ok (.iload_n 2, 1) := by decide +kernel
theorem dX0_payableBits_49 : decode cX0_payableBits 49 = .ok (.ireturn, 1) := by decide +kernel
theorem dX0_standing_0 : decode cX0_standing 0 = .ok (.bipush 100, 2) := by decide +kernel
theorem dX0_standing_2 : decode cX0_standing 2 = .ok (.aload_n 0, 1) := by decide +kernel
theorem dX0_standing_3 : decode cX0_standing 3 = .ok (.getfield 9, 3) := by decide +kernel
theorem dX0_standing_6 : decode cX0_standing 6 = .ok (.iload_n 1, 1) := by decide +kernel
theorem dX0_standing_7 : decode cX0_standing 7 = .ok (.iaload, 1) := by decide +kernel
theorem dX0_standing_8 : decode cX0_standing 8 = .ok (.iadd, 1) := by decide +kernel
theorem dX0_standing_9 : decode cX0_standing 9 = .ok (.istore_n 2, 1) := by decide +kernel
theorem dX0_standing_10 : decode cX0_standing 10 = .ok (.iconst 0, 1) := by decide +kernel
theorem dX0_standing_11 : decode cX0_standing 11 = .ok (.istore_n 3, 1) := by decide +kernel
theorem dX0_standing_12 : decode cX0_standing 12 = .ok (.iload_n 3, 1) := by decide +kernel
theorem dX0_standing_13 : decode cX0_standing 13 = .ok (.aload_n 0, 1) := by decide +kernel
theorem dX0_standing_14 : decode cX0_standing 14 = .ok (.getfield 34, 3) := by decide +kernel
theorem dX0_standing_17 : decode cX0_standing 17 = .ok (.getfield 95, 3) := by decide +kernel
theorem dX0_standing_20 : decode cX0_standing 20 = .ok (.if_icmp .ge 68, 3) := by decide +kernel
theorem dX0_standing_23 : decode cX0_standing 23 = .ok (.aload_n 0, 1) := by decide +kernel
theorem dX0_standing_24 : decode cX0_standing 24 = .ok (.getfield 24, 3) := by decide +kernel
theorem dX0_standing_27 : decode cX0_standing 27 = .ok (.iload_n 3, 1) := by decide +kernel
theorem dX0_standing_28 : decode cX0_standing 28 = .ok (.baload, 1) := by decide +kernel
theorem dX0_standing_29 : decode cX0_standing 29 = .ok (.ifCond .eq 6, 3) := by decide +kernel
theorem dX0_standing_32 : decode cX0_standing 32 = .ok (.goto 50, 3) := by decide +kernel
theorem dX0_standing_35 : decode cX0_standing 35 = .ok (.aload_n 0, 1) := by decide +kernel
theorem dX0_standing_36 : decode cX0_standing 36 = .ok (.getfield 34, 3) := by decide +kernel
theorem dX0_standing_39 : decode cX0_standing 39 = .ok (.getfield 84, 3) := by decide +kernel
theorem dX0_standing_42 : decode cX0_standing 42 = .ok (.iload_n 3, 1) := by decide +kernel
theorem dX0_standing_43 : decode cX0_standing 43 = .ok (.iaload, 1) := by decide +kernel
theorem dX0_standing_44 : decode cX0_standing 44 = .ok (.iload_n 1, 1) := by decide +kernel
theorem dX0_standing_45 : decode cX0_standing 45 = .ok (.if_icmp .ne 15, 3) := by decide +kernel
theorem dX0_standing_48 : decode cX0_standing 48 = .ok (.iload_n 2, 1) := by decide +kernel
theorem dX0_standing_49 : decode cX0_standing 49 = .ok (.aload_n 0, 1) := by decide +kernel
theorem dX0_standing_50 : decode cX0_standing 50 = .ok (.getfield 21, 3) := by decide +kernel
theorem dX0_standing_53 : decode cX0_standing 53 = .ok (.iload_n 3, 1) := by decide +kernel
theorem dX0_standing_54 : decode cX0_standing 54 = .ok (.iaload, 1) := by decide +kernel
theorem dX0_standing_55 : decode cX0_standing 55 = .ok (.iadd, 1) := by decide +kernel
theorem dX0_standing_56 : decode cX0_standing 56 = .ok (.istore_n 2, 1) := by decide +kernel
theorem dX0_standing_57 : decode cX0_standing 57 = .ok (.goto 25, 3) := by decide +kernel
theorem dX0_standing_60 : decode cX0_standing 60 = .ok (.aload_n 0, 1) := by decide +kernel
theorem dX0_standing_61 : decode cX0_standing 61 = .ok (.getfield 34, 3) := by decide +kernel
theorem dX0_standing_64 : decode cX0_standing 64 = .ok (.getfield 71, 3) := by decide +kernel
theorem dX0_standing_67 : decode cX0_standing 67 = .ok (.iload_n 3, 1) := by decide +kernel
theorem dX0_standing_68 : decode cX0_standing 68 = .ok (.iaload, 1) := by decide +kernel
theorem dX0_standing_69 : decode cX0_standing 69 = .ok (.iload_n 1, 1) := by decide +kernel
theorem dX0_standing_70 : decode cX0_standing 70 = .ok (.if_icmp .ne 12, 3) := by decide +kernel
theorem dX0_standing_73 : decode cX0_standing 73 = .ok (.iload_n 2, 1) := by decide +kernel
theorem dX0_standing_74 : decode cX0_standing 74 = .ok (.aload_n 0, 1) := by decide +kernel
theorem dX0_standing_75 : decode cX0_standing 75 = .ok (.getfield 21, 3) := by decide +kernel
theorem dX0_standing_78 : decode cX0_standing 78 = .ok (.iload_n 3, 1) := by decide +kernel
theorem dX0_standing_79 : decode cX0_standing 79 = .ok (.iaload, 1) := by decide +kernel
theorem dX0_standing_80 : decode cX0_standing 80 = .ok (.isub, 1) := by decide +kernel
theorem dX0_standing_81 : decode cX0_standing 81 = .ok (.istore_n 2, 1) := by decide +kernel
theorem dX0_standing_82 : decode cX0_standing 82 = .ok (.iinc 3 1, 3) := by decide +kernel
theorem dX0_standing_85 : decode cX0_standing 85 = .ok (.goto (-73), 3) := by decide +kernel
theorem dX0_standing_88 : decode cX0_standing 88 = .ok (.iload_n 2, 1) := by decide +kernel
theorem dX0_standing_89 : decode cX0_standing 89 = .ok (.ireturn, 1) := by decide +kernel
theorem dX0_tooPoorBits_0 : decode cX0_tooPoorBits 0 = .ok (.iconst 1, 1) := by decide +kernel
theorem dX0_tooPoorBits_1 : decode cX0_tooPoorBits 1 = .ok (.aload_n 0, 1) := by decide +kernel
theorem dX0_tooPoorBits_2 : decode cX0_tooPoorBits 2 = .ok (.iload_n 1, 1) := by decide +kernel
theorem dX0_tooPoorBits_3 : decode cX0_tooPoorBits 3 = .ok (.invokevirtual 78, 3) := by decide +kernel
theorem dX0_tooPoorBits_6 : decode cX0_tooPoorBits 6 = .ok (.ishl, 1) := by decide +kernel
theorem dX0_tooPoorBits_7 : decode cX0_tooPoorBits 7 = .ok (.iconst 1, 1) := by decide +kernel
theorem dX0_tooPoorBits_8 : decode cX0_tooPoorBits 8 = .ok (.isub, 1) := by decide +kernel
theorem dX0_tooPoorBits_9 : decode cX0_tooPoorBits 9 = .ok (.ireturn, 1) := by decide +kernel
theorem dX0_purseBits_0 : decode cX0_purseBits 0 = .ok (.sipush 1023, 3) := by decide +kernel
theorem dX0_purseBits_3 : decode cX0_purseBits 3 = .ok (.istore_n 2, 1) := by decide +kernel
theorem dX0_purseBits_4 : decode cX0_purseBits 4 = .ok (.iconst 0, 1) := by decide +kernel
theorem dX0_purseBits_5 : decode cX0_purseBits 5 = .ok (.istore_n 3, 1) := by decide +kernel
theorem dX0_purseBits_6 : decode cX0_purseBits 6 = .ok (.iload_n 3, 1) := by decide +kernel
theorem dX0_purseBits_7 : decode cX0_purseBits 7 = .ok (.aload_n 0, 1) := by decide +kernel
theorem dX0_purseBits_8 : decode cX0_purseBits 8 = .ok (.getfield 38, 3) := by decide +kernel
theorem dX0_purseBits_11 : decode cX0_purseBits 11 = .ok (.if_icmp .ge 66, 3) := by decide +kernel
theorem dX0_purseBits_14 : decode cX0_purseBits 14 = .ok (.iload_n 3, 1) := by decide +kernel
theorem dX0_purseBits_15 : decode cX0_purseBits 15 = .ok (.bipush 6, 2) := by decide +kernel
theorem dX0_purseBits_17 : decode cX0_purseBits 17 = .ok (.if_icmp .ge 60, 3) := by decide +kernel
theorem dX0_purseBits_20 : decode cX0_purseBits 20 = .ok (.aload_n 0, 1) := by decide +kernel
theorem dX0_purseBits_21 : decode cX0_purseBits 21 = .ok (.getfield 28, 3) := by decide +kernel
theorem dX0_purseBits_24 : decode cX0_purseBits 24 = .ok (.iload_n 3, 1) := by decide +kernel
theorem dX0_purseBits_25 : decode cX0_purseBits 25 = .ok (.iaload, 1) := by decide +kernel
theorem dX0_purseBits_26 : decode cX0_purseBits 26 = .ok (.istore 4, 2) := by decide +kernel
theorem dX0_purseBits_28 : decode cX0_purseBits 28 = .ok (.aload_n 0, 1) := by decide +kernel
theorem dX0_purseBits_29 : decode cX0_purseBits 29 = .ok (.getfield 34, 3) := by decide +kernel
theorem dX0_purseBits_32 : decode cX0_purseBits 32 = .ok (.getfield 71, 3) := by decide +kernel
theorem dX0_purseBits_35 : decode cX0_purseBits 35 = .ok (.iload 4, 2) := by decide +kernel
theorem dX0_purseBits_37 : decode cX0_purseBits 37 = .ok (.iaload, 1) := by decide +kernel
theorem dX0_purseBits_38 : decode cX0_purseBits 38 = .ok (.iload_n 1, 1) := by decide +kernel
theorem dX0_purseBits_39 : decode cX0_purseBits 39 = .ok (.if_icmp .ne 32, 3) := by decide +kernel
theorem dX0_purseBits_42 : decode cX0_purseBits 42 = .ok (.iload_n 2, 1) := by decide +kernel
theorem dX0_purseBits_43 : decode cX0_purseBits 43 = .ok (.aload_n 0, 1) := by decide +kernel
theorem dX0_purseBits_44 : decode cX0_purseBits 44 = .ok (.getfield 31, 3) := by decide +kernel
theorem dX0_purseBits_47 : decode cX0_purseBits 47 = .ok (.iload_n 3, 1) := by decide +kernel
theorem dX0_purseBits_48 : decode cX0_purseBits 48 = .ok (.baload, 1) := by decide +kernel
theorem dX0_purseBits_49 : decode cX0_purseBits 49 = .ok (.ifCond .eq 14, 3) := by decide +kernel
theorem dX0_purseBits_52 : decode cX0_purseBits 52 = .ok (.aload_n 0, 1) := by decide +kernel
theorem dX0_purseBits_53 : decode cX0_purseBits 53 = .ok (.iload 4, 2) := by decide +kernel
theorem dX0_purseBits_55 : decode cX0_purseBits 55 = .ok (.invokevirtual 124, 3) := by decide +kernel
theorem dX0_purseBits_58 : decode cX0_purseBits 58 = .ok (.iconst (-1), 1) := by decide +kernel
theorem dX0_purseBits_59 : decode cX0_purseBits 59 = .ok (.ixor, 1) := by decide +kernel
theorem dX0_purseBits_60 : decode cX0_purseBits 60 = .ok (.goto 9, 3) := by decide +kernel
theorem dX0_purseBits_63 : decode cX0_purseBits 63 = .ok (.aload_n 0, 1) := by decide +kernel
theorem dX0_purseBits_64 : decode cX0_purseBits 64 = .ok (.iload 4, 2) := by decide +kernel
theorem dX0_purseBits_66 : decode cX0_purseBits 66 = .ok (.invokevirtual 124, 3) := by decide +kernel
theorem dX0_purseBits_69 : decode cX0_purseBits 69 = .ok (.iand, 1) := by decide +kernel
theorem dX0_purseBits_70 : decode cX0_purseBits 70 = .ok (.istore_n 2, 1) := by decide +kernel
theorem dX0_purseBits_71 : decode cX0_purseBits 71 = .ok (.iinc 3 1, 3) := by decide +kernel
theorem dX0_purseBits_74 : decode cX0_purseBits 74 = .ok (.goto (-68), 3) := by decide +kernel
theorem dX0_purseBits_77 : decode cX0_purseBits 77 = .ok (.iload_n 2, 1) := by decide +kernel
theorem dX0_purseBits_78 : decode cX0_purseBits 78 = .ok (.ireturn, 1) := by decide +kernel
theorem dJ6_bitCount_0f7a4_0 : decode cJ6_bitCount_0f7a4 0 = .ok (.iload_n 0, 1) := by decide +kernel
theorem dJ6_bitCount_0f7a4_1 : decode cJ6_bitCount_0f7a4 1 = .ok (.iload_n 0, 1) := by decide +kernel
theorem dJ6_bitCount_0f7a4_2 : decode cJ6_bitCount_0f7a4 2 = .ok (.iconst 1, 1) := by decide +kernel
theorem dJ6_bitCount_0f7a4_3 : decode cJ6_bitCount_0f7a4 3 = .ok (.iushr, 1) := by decide +kernel
theorem dJ6_bitCount_0f7a4_4 : decode cJ6_bitCount_0f7a4 4 = .ok (.ldc_w 265, 3) := by decide +kernel
theorem dJ6_bitCount_0f7a4_7 : decode cJ6_bitCount_0f7a4 7 = .ok (.iand, 1) := by decide +kernel
theorem dJ6_bitCount_0f7a4_8 : decode cJ6_bitCount_0f7a4 8 = .ok (.isub, 1) := by decide +kernel
theorem dJ6_bitCount_0f7a4_9 : decode cJ6_bitCount_0f7a4 9 = .ok (.istore_n 0, 1) := by decide +kernel
theorem dJ6_bitCount_0f7a4_10 : decode cJ6_bitCount_0f7a4 10 = .ok (.iload_n 0, 1) := by decide +kernel
theorem dJ6_bitCount_0f7a4_11 : decode cJ6_bitCount_0f7a4 11 = .ok (.ldc_w 266, 3) := by decide +kernel
theorem dJ6_bitCount_0f7a4_14 : decode cJ6_bitCount_0f7a4 14 = .ok (.iand, 1) := by decide +kernel
theorem dJ6_bitCount_0f7a4_15 : decode cJ6_bitCount_0f7a4 15 = .ok (.iload_n 0, 1) := by decide +kernel
theorem dJ6_bitCount_0f7a4_16 : decode cJ6_bitCount_0f7a4 16 = .ok (.iconst 2, 1) := by decide +kernel
theorem dJ6_bitCount_0f7a4_17 : decode cJ6_bitCount_0f7a4 17 = .ok (.iushr, 1) := by decide +kernel
theorem dJ6_bitCount_0f7a4_18 : decode cJ6_bitCount_0f7a4 18 = .ok (.ldc_w 266, 3) := by decide +kernel
theorem dJ6_bitCount_0f7a4_21 : decode cJ6_bitCount_0f7a4 21 = .ok (.iand, 1) := by decide +kernel
theorem dJ6_bitCount_0f7a4_22 : decode cJ6_bitCount_0f7a4 22 = .ok (.iadd, 1) := by decide +kernel
theorem dJ6_bitCount_0f7a4_23 : decode cJ6_bitCount_0f7a4 23 = .ok (.istore_n 0, 1) := by decide +kernel
theorem dJ6_bitCount_0f7a4_24 : decode cJ6_bitCount_0f7a4 24 = .ok (.iload_n 0, 1) := by decide +kernel
theorem dJ6_bitCount_0f7a4_25 : decode cJ6_bitCount_0f7a4 25 = .ok (.iload_n 0, 1) := by decide +kernel
theorem dJ6_bitCount_0f7a4_26 : decode cJ6_bitCount_0f7a4 26 = .ok (.iconst 4, 1) := by decide +kernel
theorem dJ6_bitCount_0f7a4_27 : decode cJ6_bitCount_0f7a4 27 = .ok (.iushr, 1) := by decide +kernel
theorem dJ6_bitCount_0f7a4_28 : decode cJ6_bitCount_0f7a4 28 = .ok (.iadd, 1) := by decide +kernel
theorem dJ6_bitCount_0f7a4_29 : decode cJ6_bitCount_0f7a4 29 = .ok (.ldc_w 267, 3) := by decide +kernel
theorem dJ6_bitCount_0f7a4_32 : decode cJ6_bitCount_0f7a4 32 = .ok (.iand, 1) := by decide +kernel
theorem dJ6_bitCount_0f7a4_33 : decode cJ6_bitCount_0f7a4 33 = .ok (.istore_n 0, 1) := by decide +kernel
theorem dJ6_bitCount_0f7a4_34 : decode cJ6_bitCount_0f7a4 34 = .ok (.iload_n 0, 1) := by decide +kernel
theorem dJ6_bitCount_0f7a4_35 : decode cJ6_bitCount_0f7a4 35 = .ok (.iload_n 0, 1) := by decide +kernel
theorem dJ6_bitCount_0f7a4_36 : decode cJ6_bitCount_0f7a4 36 = .ok (.bipush 8, 2) := by decide +kernel
theorem dJ6_bitCount_0f7a4_38 : decode cJ6_bitCount_0f7a4 38 = .ok (.iushr, 1) := by decide +kernel
theorem dJ6_bitCount_0f7a4_39 : decode cJ6_bitCount_0f7a4 39 = .ok (.iadd, 1) := by decide +kernel
theorem dJ6_bitCount_0f7a4_40 : decode cJ6_bitCount_0f7a4 40 = .ok (.istore_n 0, 1) := by decide +kernel
theorem dJ6_bitCount_0f7a4_41 : decode cJ6_bitCount_0f7a4 41 = .ok (.iload_n 0, 1) := by decide +kernel
theorem dJ6_bitCount_0f7a4_42 : decode cJ6_bitCount_0f7a4 42 = .ok (.iload_n 0, 1) := by decide +kernel
theorem dJ6_bitCount_0f7a4_43 : decode cJ6_bitCount_0f7a4 43 = .ok (.bipush 16, 2) := by decide +kernel
theorem dJ6_bitCount_0f7a4_45 : decode cJ6_bitCount_0f7a4 45 = .ok (.iushr, 1) := by decide +kernel
theorem dJ6_bitCount_0f7a4_46 : decode cJ6_bitCount_0f7a4 46 = .ok (.iadd, 1) := by decide +kernel
theorem dJ6_bitCount_0f7a4_47 : decode cJ6_bitCount_0f7a4 47 = .ok (.istore_n 0, 1) := by decide +kernel
theorem dJ6_bitCount_0f7a4_48 : decode cJ6_bitCount_0f7a4 48 = .ok (.iload_n 0, 1) := by decide +kernel
theorem dJ6_bitCount_0f7a4_49 : decode cJ6_bitCount_0f7a4 49 = .ok (.bipush 63, 2) := by decide +kernel
theorem dJ6_bitCount_0f7a4_51 : decode cJ6_bitCount_0f7a4 51 = .ok (.iand, 1) := by decide +kernel
theorem dJ6_bitCount_0f7a4_52 : decode cJ6_bitCount_0f7a4 52 = .ok (.ireturn, 1) := by decide +kernel
theorem dX0_debtToPress_0 : decode cX0_debtToPress 0 = .ok (.aload_n 0, 1) := by decide +kernel
theorem dX0_debtToPress_1 : decode cX0_debtToPress 1 = .ok (.iload_n 1, 1) := by decide +kernel
theorem dX0_debtToPress_2 : decode cX0_debtToPress 2 = .ok (.invokevirtual 127, 3) := by decide +kernel
theorem dX0_debtToPress_5 : decode cX0_debtToPress 5 = .ok (.istore_n 2, 1) := by decide +kernel
theorem dX0_debtToPress_6 : decode cX0_debtToPress 6 = .ok (.iconst (-1), 1) := by decide +kernel
theorem dX0_debtToPress_7 : decode cX0_debtToPress 7 = .ok (.istore_n 3, 1) := by decide +kernel
theorem dX0_debtToPress_8 : decode cX0_debtToPress 8 = .ok (.bipush 11, 2) := by decide +kernel
theorem dX0_debtToPress_10 : decode cX0_debtToPress 10 = .ok (.istore 4, 2) := by decide +kernel
theorem dX0_debtToPress_12 : decode cX0_debtToPress 12 = .ok (.iconst 0, 1) := by decide +kernel
theorem dX0_debtToPress_13 : decode cX0_debtToPress 13 = .ok (.istore 5, 2) := by decide +kernel
theorem dX0_debtToPress_15 : decode cX0_debtToPress 15 = .ok (.iload 5, 2) := by decide +kernel
theorem dX0_debtToPress_17 : decode cX0_debtToPress 17 = .ok (.aload_n 0, 1) := by decide +kernel
theorem dX0_debtToPress_18 : decode cX0_debtToPress 18 = .ok (.getfield 34, 3) := by decide +kernel
theorem dX0_debtToPress_21 : decode cX0_debtToPress 21 = .ok (.getfield 95, 3) := by decide +kernel
theorem dX0_debtToPress_24 : decode cX0_debtToPress 24 = .ok (.if_icmp .ge 71, 3) := by decide +kernel
theorem dX0_debtToPress_27 : decode cX0_debtToPress 27 = .ok (.iload_n 2, 1) := by decide +kernel
theorem dX0_debtToPress_28 : decode cX0_debtToPress 28 = .ok (.ifCond .eq 67, 3) := by decide +kernel
theorem dX0_debtToPress_31 : decode cX0_debtToPress 31 = .ok (.aload_n 0, 1) := by decide +kernel
theorem dX0_debtToPress_32 : decode cX0_debtToPress 32 = .ok (.getfield 34, 3) := by decide +kernel
theorem dX0_debtToPress_35 : decode cX0_debtToPress 35 = .ok (.getfield 71, 3) := by decide +kernel
theorem dX0_debtToPress_38 : decode cX0_debtToPress 38 = .ok (.iload 5, 2) := by decide +kernel
theorem dX0_debtToPress_40 : decode cX0_debtToPress 40 = .ok (.iaload, 1) := by decide +kernel
theorem dX0_debtToPress_41 : decode cX0_debtToPress 41 = .ok (.iload_n 1, 1) := by decide +kernel
theorem dX0_debtToPress_42 : decode cX0_debtToPress 42 = .ok (.if_icmp .eq 6, 3) := by decide +kernel
theorem dX0_debtToPress_45 : decode cX0_debtToPress 45 = .ok (.goto 44, 3) := by decide +kernel
theorem dX0_debtToPress_48 : decode cX0_debtToPress 48 = .ok (.iload_n 2, 1) := by decide +kernel
theorem dX0_debtToPress_49 : decode cX0_debtToPress 49 = .ok (.aload_n 0, 1) := by decide +kernel
theorem dX0_debtToPress_50 : decode cX0_debtToPress 50 = .ok (.iload 5, 2) := by decide +kernel
theorem dX0_debtToPress_52 : decode cX0_debtToPress 52 = .ok (.invokevirtual 124, 3) := by decide +kernel
theorem dX0_debtToPress_55 : decode cX0_debtToPress 55 = .ok (.iand, 1) := by decide +kernel
theorem dX0_debtToPress_56 : decode cX0_debtToPress 56 = .ok (.invokestatic 130, 3) := by decide +kernel
theorem dX0_debtToPress_59 : decode cX0_debtToPress 59 = .ok (.istore 6, 2) := by decide +kernel
theorem dX0_debtToPress_61 : decode cX0_debtToPress 61 = .ok (.iload 6, 2) := by decide +kernel
theorem dX0_debtToPress_63 : decode cX0_debtToPress 63 = .ok (.iload_n 2, 1) := by decide +kernel
theorem dX0_debtToPress_64 : decode cX0_debtToPress 64 = .ok (.invokestatic 130, 3) := by decide +kernel
theorem dX0_debtToPress_67 : decode cX0_debtToPress 67 = .ok (.iload 6, 2) := by decide +kernel
theorem dX0_debtToPress_69 : decode cX0_debtToPress 69 = .ok (.isub, 1) := by decide +kernel
theorem dX0_debtToPress_70 : decode cX0_debtToPress 70 = .ok (.invokestatic 135, 3) := by decide +kernel
theorem dX0_debtToPress_73 : decode cX0_debtToPress 73 = .ok (.istore 7, 2) := by decide +kernel
theorem dX0_debtToPress_75 : decode cX0_debtToPress 75 = .ok (.iload 7, 2) := by decide +kernel
theorem dX0_debtToPress_77 : decode cX0_debtToPress 77 = .ok (.iload 4, 2) := by decide +kernel
theorem dX0_debtToPress_79 : decode cX0_debtToPress 79 = .ok (.if_icmp .ge 10, 3) := by decide +kernel
theorem dX0_debtToPress_82 : decode cX0_debtToPress 82 = .ok (.iload 7, 2) := by decide +kernel
theorem dX0_debtToPress_84 : decode cX0_debtToPress 84 = .ok (.istore 4, 2) := by decide +kernel
theorem dX0_debtToPress_86 : decode cX0_debtToPress 86 = .ok (.iload 5, 2) := by decide +kernel
theorem dX0_debtToPress_88 : decode cX0_debtToPress 88 = .ok (.istore_n 3, 1) := by decide +kernel
theorem dX0_debtToPress_89 : decode cX0_debtToPress 89 = .ok (.iinc 5 1, 3) := by decide +kernel
theorem dX0_debtToPress_92 : decode cX0_debtToPress 92 = .ok (.goto (-77), 3) := by decide +kernel
theorem dX0_debtToPress_95 : decode cX0_debtToPress 95 = .ok (.iload_n 3, 1) := by decide +kernel
theorem dX0_debtToPress_96 : decode cX0_debtToPress 96 = .ok (.ireturn, 1) := by decide +kernel
theorem dX11_person_0 : decode cX11_person 0 = .ok (.aload_n 0, 1) := by decide +kernel
theorem dX11_person_1 : decode cX11_person 1 = .ok (.iload_n 1, 1) := by decide +kernel
theorem dX11_person_2 : decode cX11_person 2 = .ok (.invokevirtual 93, 3) := by decide +kernel
theorem dX11_person_5 : decode cX11_person 5 = .ok (.ifCond .eq 6, 3) := by decide +kernel
theorem dX11_person_8 : decode cX11_person 8 = .ok (.bipush (-101), 2) := by decide +kernel
theorem dX11_person_10 : decode cX11_person 10 = .ok (.ireturn, 1) := by decide +kernel
theorem dX11_person_11 : decode cX11_person 11 = .ok (.iload_n 2, 1) := by decide +kernel
theorem dX11_person_12 : decode cX11_person 12 = .ok (.tableswitch 139 0 8 #[52, 65, 75, 85, 94, 103, 112, 121, 130], 52) := by decide +kernel
theorem dX11_person_64 : decode cX11_person 64 = .ok (.aload_n 0, 1) := by decide +kernel
theorem dX11_person_65 : decode cX11_person 65 = .ok (.getfield 19, 3) := by decide +kernel
theorem dX11_person_68 : decode cX11_person 68 = .ok (.getfield 96, 3) := by decide +kernel
theorem dX11_person_71 : decode cX11_person 71 = .ok (.iload_n 1, 1) := by decide +kernel
theorem dX11_person_72 : decode cX11_person 72 = .ok (.aaload, 1) := by decide +kernel
theorem dX11_person_73 : decode cX11_person 73 = .ok (.invokevirtual 100, 3) := by decide +kernel
theorem dX11_person_76 : decode cX11_person 76 = .ok (.ireturn, 1) := by decide +kernel
theorem dX11_person_77 : decode cX11_person 77 = .ok (.aload_n 0, 1) := by decide +kernel
theorem dX11_person_78 : decode cX11_person 78 = .ok (.getfield 28, 3) := by decide +kernel
theorem dX11_person_81 : decode cX11_person 81 = .ok (.getfield 106, 3) := by decide +kernel
theorem dX11_person_84 : decode cX11_person 84 = .ok (.iload_n 1, 1) := by decide +kernel
theorem dX11_person_85 : decode cX11_person 85 = .ok (.iaload, 1) := by decide +kernel
theorem dX11_person_86 : decode cX11_person 86 = .ok (.ireturn, 1) := by decide +kernel
theorem dX11_person_87 : decode cX11_person 87 = .ok (.aload_n 0, 1) := by decide +kernel
theorem dX11_person_88 : decode cX11_person 88 = .ok (.getfield 28, 3) := by decide +kernel
theorem dX11_person_91 : decode cX11_person 91 = .ok (.getfield 110, 3) := by decide +kernel
theorem dX11_person_94 : decode cX11_person 94 = .ok (.iload_n 1, 1) := by decide +kernel
theorem dX11_person_95 : decode cX11_person 95 = .ok (.iaload, 1) := by decide +kernel
theorem dX11_person_96 : decode cX11_person 96 = .ok (.ireturn, 1) := by decide +kernel
theorem dX11_person_97 : decode cX11_person 97 = .ok (.aload_n 0, 1) := by decide +kernel
theorem dX11_person_98 : decode cX11_person 98 = .ok (.getfield 28, 3) := by decide +kernel
theorem dX11_person_101 : decode cX11_person 101 = .ok (.iload_n 1, 1) := by decide +kernel
theorem dX11_person_102 : decode cX11_person 102 = .ok (.invokevirtual 113, 3) := by decide +kernel
theorem dX11_person_105 : decode cX11_person 105 = .ok (.ireturn, 1) := by decide +kernel
theorem dX11_person_106 : decode cX11_person 106 = .ok (.aload_n 0, 1) := by decide +kernel
theorem dX11_person_107 : decode cX11_person 107 = .ok (.getfield 28, 3) := by decide +kernel
theorem dX11_person_110 : decode cX11_person 110 = .ok (.iload_n 1, 1) := by decide +kernel
theorem dX11_person_111 : decode cX11_person 111 = .ok (.invokevirtual 117, 3) := by decide +kernel
theorem dX11_person_114 : decode cX11_person 114 = .ok (.ireturn, 1) := by decide +kernel
theorem dX11_person_115 : decode cX11_person 115 = .ok (.aload_n 0, 1) := by decide +kernel
theorem dX11_person_116 : decode cX11_person 116 = .ok (.getfield 28, 3) := by decide +kernel
theorem dX11_person_119 : decode cX11_person 119 = .ok (.iload_n 1, 1) := by decide +kernel
theorem dX11_person_120 : decode cX11_person 120 = .ok (.invokevirtual 120, 3) := by decide +kernel
theorem dX11_person_123 : decode cX11_person 123 = .ok (.ireturn, 1) := by decide +kernel
theorem dX11_person_124 : decode cX11_person 124 = .ok (.aload_n 0, 1) := by decide +kernel
theorem dX11_person_125 : decode cX11_person 125 = .ok (.getfield 28, 3) := by decide +kernel
theorem dX11_person_128 : decode cX11_person 128 = .ok (.iload_n 1, 1) := by decide +kernel
theorem dX11_person_129 : decode cX11_person 129 = .ok (.invokevirtual 123, 3) := by decide +kernel
theorem dX11_person_132 : decode cX11_person 132 = .ok (.ireturn, 1) := by decide +kernel
theorem dX11_person_133 : decode cX11_person 133 = .ok (.aload_n 0, 1) := by decide +kernel
theorem dX11_person_134 : decode cX11_person 134 = .ok (.getfield 28, 3) := by decide +kernel
theorem dX11_person_137 : decode cX11_person 137 = .ok (.iload_n 1, 1) := by decide +kernel
theorem dX11_person_138 : decode cX11_person 138 = .ok (.invokevirtual 126, 3) := by decide +kernel
theorem dX11_person_141 : decode cX11_person 141 = .ok (.ireturn, 1) := by decide +kernel
theorem dX11_person_142 : decode cX11_person 142 = .ok (.aload_n 0, 1) := by decide +kernel
theorem dX11_person_143 : decode cX11_person 143 = .ok (.getfield 28, 3) := by decide +kernel
theorem dX11_person_146 : decode cX11_person 146 = .ok (.iload_n 1, 1) := by decide +kernel
theorem dX11_person_147 : decode cX11_person 147 = .ok (.invokevirtual 129, 3) := by decide +kernel
theorem dX11_person_150 : decode cX11_person 150 = .ok (.ireturn, 1) := by decide +kernel
theorem dX11_person_151 : decode cX11_person 151 = .ok (.bipush (-102), 2) := by decide +kernel
theorem dX11_person_153 : decode cX11_person 153 = .ok (.ireturn, 1) := by decide +kernel
theorem dX4_isOfKind_0 : decode cX4_isOfKind 0 = .ok (.aload_n 0, 1) := by decide +kernel
theorem dX4_isOfKind_1 : decode cX4_isOfKind 1 = .ok (.getfield 23, 3) := by decide +kernel
theorem dX4_isOfKind_4 : decode cX4_isOfKind 4 = .ok (.iload_n 1, 1) := by decide +kernel
theorem dX4_isOfKind_5 : decode cX4_isOfKind 5 = .ok (.aaload, 1) := by decide +kernel
theorem dX4_isOfKind_6 : decode cX4_isOfKind 6 = .ok (.astore_n 3, 1) := by decide +kernel
theorem dX4_isOfKind_7 : decode cX4_isOfKind 7 = .ok (.iload_n 2, 1) := by decide +kernel
theorem dX4_isOfKind_8 : decode cX4_isOfKind 8 = .ok (.tableswitch 49 0 3 #[32, 34, 39, 44], 32) := by decide +kernel
theorem dX4_isOfKind_40 : decode cX4_isOfKind 40 = .ok (.iconst 1, 1) := by decide +kernel
theorem dX4_isOfKind_41 : decode cX4_isOfKind 41 = .ok (.ireturn, 1) := by decide +kernel
theorem dX4_isOfKind_42 : decode cX4_isOfKind 42 = .ok (.aload_n 3, 1) := by decide +kernel
theorem dX4_isOfKind_43 : decode cX4_isOfKind 43 = .ok (.instanceof 37, 3) := by decide +kernel
theorem dX4_isOfKind_46 : decode cX4_isOfKind 46 = .ok (.ireturn, 1) := by decide +kernel
theorem dX4_isOfKind_47 : decode cX4_isOfKind 47 = .ok (.aload_n 3, 1) := by decide +kernel
theorem dX4_isOfKind_48 : decode cX4_isOfKind 48 = .ok (.instanceof 40, 3) := by decide +kernel
theorem dX4_isOfKind_51 : decode cX4_isOfKind 51 = .ok (.ireturn, 1) := by decide +kernel
theorem dX4_isOfKind_52 : decode cX4_isOfKind 52 = .ok (.aload_n 3, 1) := by decide +kernel
theorem dX4_isOfKind_53 : decode cX4_isOfKind 53 = .ok (.instanceof 43, 3) := by decide +kernel
theorem dX4_isOfKind_56 : decode cX4_isOfKind 56 = .ok (.ireturn, 1) := by decide +kernel
theorem dX4_isOfKind_57 : decode cX4_isOfKind 57 = .ok (.aload_n 3, 1) := by decide +kernel
theorem dX4_isOfKind_58 : decode cX4_isOfKind 58 = .ok (.instanceof 46, 3) := by decide +kernel
theorem dX4_isOfKind_61 : decode cX4_isOfKind 61 = .ok (.ireturn, 1) := by decide +kernel
theorem dX11_as_0 : decode cX11_as 0 = .ok (.aload_n 0, 1) := by decide +kernel
theorem dX11_as_1 : decode cX11_as 1 = .ok (.iload_n 1, 1) := by decide +kernel
theorem dX11_as_2 : decode cX11_as 2 = .ok (.invokevirtual 93, 3) := by decide +kernel
theorem dX11_as_5 : decode cX11_as 5 = .ok (.ifCond .eq 6, 3) := by decide +kernel
theorem dX11_as_8 : decode cX11_as 8 = .ok (.bipush (-101), 2) := by decide +kernel
theorem dX11_as_10 : decode cX11_as 10 = .ok (.ireturn, 1) := by decide +kernel
theorem dX11_as_11 : decode cX11_as 11 = .ok (.iload_n 2, 1) := by decide +kernel
theorem dX11_as_12 : decode cX11_as 12 = .ok (.ifCond .lt 8, 3) := by decide +kernel
theorem dX11_as_15 : decode cX11_as 15 = .ok (.iload_n 2, 1) := by decide +kernel
theorem dX11_as_16 : decode cX11_as 16 = .ok (.iconst 4, 1) := by decide +kernel
theorem dX11_as_17 : decode cX11_as 17 = .ok (.if_icmp .le 6, 3) := by decide +kernel
theorem dX11_as_20 : decode cX11_as 20 = .ok (.bipush (-102), 2) := by decide +kernel
theorem dX11_as_22 : decode cX11_as 22 = .ok (.ireturn, 1) := by decide +kernel
theorem dX11_as_23 : decode cX11_as 23 = .ok (.aload_n 0, 1) := by decide +kernel
theorem dX11_as_24 : decode cX11_as 24 = .ok (.getfield 19, 3) := by decide +kernel
theorem dX11_as_27 : decode cX11_as 27 = .ok (.iload_n 1, 1) := by decide +kernel
theorem dX11_as_28 : decode cX11_as 28 = .ok (.iload_n 2, 1) := by decide +kernel
theorem dX11_as_29 : decode cX11_as 29 = .ok (.invokevirtual 132, 3) := by decide +kernel
theorem dX11_as_32 : decode cX11_as 32 = .ok (.ifCond .eq 7, 3) := by decide +kernel
theorem dX11_as_35 : decode cX11_as 35 = .ok (.iload_n 1, 1) := by decide +kernel
theorem dX11_as_36 : decode cX11_as 36 = .ok (.goto 4, 3) := by decide +kernel
theorem dX11_as_39 : decode cX11_as 39 = .ok (.iconst (-1), 1) := by decide +kernel
theorem dX11_as_40 : decode cX11_as 40 = .ok (.ireturn, 1) := by decide +kernel
theorem dX11_isNoDoor_0 : decode cX11_isNoDoor 0 = .ok (.iload_n 1, 1) := by decide +kernel
theorem dX11_isNoDoor_1 : decode cX11_isNoDoor 1 = .ok (.ifCond .lt 14, 3) := by decide +kernel
theorem dX11_isNoDoor_4 : decode cX11_isNoDoor 4 = .ok (.iload_n 1, 1) := by decide +kernel
theorem dX11_isNoDoor_5 : decode cX11_isNoDoor 5 = .ok (.aload_n 0, 1) := by decide +kernel
theorem dX11_isNoDoor_6 : decode cX11_isNoDoor 6 = .ok (.getfield 19, 3) := by decide +kernel
theorem dX11_isNoDoor_9 : decode cX11_isNoDoor 9 = .ok (.getfield 241, 3) := by decide +kernel
theorem dX11_isNoDoor_12 : decode cX11_isNoDoor 12 = .ok (.if_icmp .lt 7, 3) := by decide +kernel
theorem dX11_isNoDoor_15 : decode cX11_isNoDoor 15 = .ok (.iconst 1, 1) := by decide +kernel
theorem dX11_isNoDoor_16 : decode cX11_isNoDoor 16 = .ok (.goto 4, 3) := by decide +kernel
theorem dX11_isNoDoor_19 : decode cX11_isNoDoor 19 = .ok (.iconst 0, 1) := by decide +kernel
theorem dX11_isNoDoor_20 : decode cX11_isNoDoor 20 = .ok (.ireturn, 1) := by decide +kernel
theorem dX11_door_0 : decode cX11_door 0 = .ok (.aload_n 0, 1) := by decide +kernel
theorem dX11_door_1 : decode cX11_door 1 = .ok (.iload_n 1, 1) := by decide +kernel
theorem dX11_door_2 : decode cX11_door 2 = .ok (.invokevirtual 136, 3) := by decide +kernel
theorem dX11_door_5 : decode cX11_door 5 = .ok (.ifCond .eq 6, 3) := by decide +kernel
theorem dX11_door_8 : decode cX11_door 8 = .ok (.bipush (-101), 2) := by decide +kernel
theorem dX11_door_10 : decode cX11_door 10 = .ok (.ireturn, 1) := by decide +kernel
theorem dX11_door_11 : decode cX11_door 11 = .ok (.iload_n 2, 1) := by decide +kernel
theorem dX11_door_12 : decode cX11_door 12 = .ok (.tableswitch 58 0 2 #[28, 38, 48], 28) := by decide +kernel
theorem dX11_door_40 : decode cX11_door 40 = .ok (.aload_n 0, 1) := by decide +kernel
theorem dX11_door_41 : decode cX11_door 41 = .ok (.getfield 19, 3) := by decide +kernel
theorem dX11_door_44 : decode cX11_door 44 = .ok (.getfield 139, 3) := by decide +kernel
theorem dX11_door_47 : decode cX11_door 47 = .ok (.iload_n 1, 1) := by decide +kernel
theorem dX11_door_48 : decode cX11_door 48 = .ok (.iaload, 1) := by decide +kernel
theorem dX11_door_49 : decode cX11_door 49 = .ok (.ireturn, 1) := by decide +kernel
theorem dX11_door_50 : decode cX11_door 50 = .ok (.aload_n 0, 1) := by decide +kernel
theorem dX11_door_51 : decode cX11_door 51 = .ok (.getfield 19, 3) := by decide +kernel
theorem dX11_door_54 : decode cX11_door 54 = .ok (.getfield 142, 3) := by decide +kernel
theorem dX11_door_57 : decode cX11_door 57 = .ok (.iload_n 1, 1) := by decide +kernel
theorem dX11_door_58 : decode cX11_door 58 = .ok (.iaload, 1) := by decide +kernel
theorem dX11_door_59 : decode cX11_door 59 = .ok (.ireturn, 1) := by decide +kernel
theorem dX11_door_60 : decode cX11_door 60 = .ok (.aload_n 0, 1) := by decide +kernel
theorem dX11_door_61 : decode cX11_door 61 = .ok (.getfield 19, 3) := by decide +kernel
theorem dX11_door_64 : decode cX11_door 64 = .ok (.getfield 145, 3) := by decide +kernel
theorem dX11_door_67 : decode cX11_door 67 = .ok (.iload_n 1, 1) := by decide +kernel
theorem dX11_door_68 : decode cX11_door 68 = .ok (.iaload, 1) := by decide +kernel
theorem dX11_door_69 : decode cX11_door 69 = .ok (.ireturn, 1) := by decide +kernel
theorem dX11_door_70 : decode cX11_door 70 = .ok (.bipush (-102), 2) := by decide +kernel
theorem dX11_door_72 : decode cX11_door 72 = .ok (.ireturn, 1) := by decide +kernel
theorem dX11_isNoDebt_0 : decode cX11_isNoDebt 0 = .ok (.iload_n 1, 1) := by decide +kernel
theorem dX11_isNoDebt_1 : decode cX11_isNoDebt 1 = .ok (.ifCond .lt 14, 3) := by decide +kernel
theorem dX11_isNoDebt_4 : decode cX11_isNoDebt 4 = .ok (.iload_n 1, 1) := by decide +kernel
theorem dX11_isNoDebt_5 : decode cX11_isNoDebt 5 = .ok (.aload_n 0, 1) := by decide +kernel
theorem dX11_isNoDebt_6 : decode cX11_isNoDebt 6 = .ok (.getfield 19, 3) := by decide +kernel
theorem dX11_isNoDebt_9 : decode cX11_isNoDebt 9 = .ok (.getfield 258, 3) := by decide +kernel
theorem dX11_isNoDebt_12 : decode cX11_isNoDebt 12 = .ok (.if_icmp .lt 7, 3) := by decide +kernel
theorem dX11_isNoDebt_15 : decode cX11_isNoDebt 15 = .ok (.iconst 1, 1) := by decide +kernel
theorem dX11_isNoDebt_16 : decode cX11_isNoDebt 16 = .ok (.goto 4, 3) := by decide +kernel
theorem dX11_isNoDebt_19 : decode cX11_isNoDebt 19 = .ok (.iconst 0, 1) := by decide +kernel
theorem dX11_isNoDebt_20 : decode cX11_isNoDebt 20 = .ok (.ireturn, 1) := by decide +kernel
theorem dX11_debt_0 : decode cX11_debt 0 = .ok (.aload_n 0, 1) := by decide +kernel
theorem dX11_debt_1 : decode cX11_debt 1 = .ok (.iload_n 1, 1) := by decide +kernel
theorem dX11_debt_2 : decode cX11_debt 2 = .ok (.invokevirtual 148, 3) := by decide +kernel
theorem dX11_debt_5 : decode cX11_debt 5 = .ok (.ifCond .eq 6, 3) := by decide +kernel
theorem dX11_debt_8 : decode cX11_debt 8 = .ok (.bipush (-101), 2) := by decide +kernel
theorem dX11_debt_10 : decode cX11_debt 10 = .ok (.ireturn, 1) := by decide +kernel
theorem dX11_debt_11 : decode cX11_debt 11 = .ok (.iload_n 2, 1) := by decide +kernel
theorem dX11_debt_12 : decode cX11_debt 12 = .ok (.tableswitch 107 0 5 #[40, 50, 60, 70, 80, 89], 40) := by decide +kernel
theorem dX11_debt_52 : decode cX11_debt 52 = .ok (.aload_n 0, 1) := by decide +kernel
theorem dX11_debt_53 : decode cX11_debt 53 = .ok (.getfield 19, 3) := by decide +kernel
theorem dX11_debt_56 : decode cX11_debt 56 = .ok (.getfield 151, 3) := by decide +kernel
theorem dX11_debt_59 : decode cX11_debt 59 = .ok (.iload_n 1, 1) := by decide +kernel
theorem dX11_debt_60 : decode cX11_debt 60 = .ok (.iaload, 1) := by decide +kernel
theorem dX11_debt_61 : decode cX11_debt 61 = .ok (.ireturn, 1) := by decide +kernel
theorem dX11_debt_62 : decode cX11_debt 62 = .ok (.aload_n 0, 1) := by decide +kernel
theorem dX11_debt_63 : decode cX11_debt 63 = .ok (.getfield 19, 3) := by decide +kernel
theorem dX11_debt_66 : decode cX11_debt 66 = .ok (.getfield 154, 3) := by decide +kernel
theorem dX11_debt_69 : decode cX11_debt 69 = .ok (.iload_n 1, 1) := by decide +kernel
theorem dX11_debt_70 : decode cX11_debt 70 = .ok (.iaload, 1) := by decide +kernel
theorem dX11_debt_71 : decode cX11_debt 71 = .ok (.ireturn, 1) := by decide +kernel
theorem dX11_debt_72 : decode cX11_debt 72 = .ok (.aload_n 0, 1) := by decide +kernel
theorem dX11_debt_73 : decode cX11_debt 73 = .ok (.getfield 19, 3) := by decide +kernel
theorem dX11_debt_76 : decode cX11_debt 76 = .ok (.getfield 157, 3) := by decide +kernel
theorem dX11_debt_79 : decode cX11_debt 79 = .ok (.iload_n 1, 1) := by decide +kernel
theorem dX11_debt_80 : decode cX11_debt 80 = .ok (.iaload, 1) := by decide +kernel
theorem dX11_debt_81 : decode cX11_debt 81 = .ok (.ireturn, 1) := by decide +kernel
theorem dX11_debt_82 : decode cX11_debt 82 = .ok (.aload_n 0, 1) := by decide +kernel
theorem dX11_debt_83 : decode cX11_debt 83 = .ok (.getfield 28, 3) := by decide +kernel
theorem dX11_debt_86 : decode cX11_debt 86 = .ok (.getfield 160, 3) := by decide +kernel
theorem dX11_debt_89 : decode cX11_debt 89 = .ok (.iload_n 1, 1) := by decide +kernel
theorem dX11_debt_90 : decode cX11_debt 90 = .ok (.iaload, 1) := by decide +kernel
theorem dX11_debt_91 : decode cX11_debt 91 = .ok (.ireturn, 1) := by decide +kernel
theorem dX11_debt_92 : decode cX11_debt 92 = .ok (.aload_n 0, 1) := by decide +kernel
theorem dX11_debt_93 : decode cX11_debt 93 = .ok (.getfield 28, 3) := by decide +kernel
theorem dX11_debt_96 : decode cX11_debt 96 = .ok (.iload_n 1, 1) := by decide +kernel
theorem dX11_debt_97 : decode cX11_debt 97 = .ok (.invokevirtual 163, 3) := by decide +kernel
theorem dX11_debt_100 : decode cX11_debt 100 = .ok (.ireturn, 1) := by decide +kernel
theorem dX11_debt_101 : decode cX11_debt 101 = .ok (.aload_n 0, 1) := by decide +kernel
theorem dX11_debt_102 : decode cX11_debt 102 = .ok (.getfield 28, 3) := by decide +kernel
theorem dX11_debt_105 : decode cX11_debt 105 = .ok (.getfield 166, 3) := by decide +kernel
theorem dX11_debt_108 : decode cX11_debt 108 = .ok (.iload_n 1, 1) := by decide +kernel
theorem dX11_debt_109 : decode cX11_debt 109 = .ok (.baload, 1) := by decide +kernel
theorem dX11_debt_110 : decode cX11_debt 110 = .ok (.ifCond .eq 7, 3) := by decide +kernel
theorem dX11_debt_113 : decode cX11_debt 113 = .ok (.iconst 1, 1) := by decide +kernel
theorem dX11_debt_114 : decode cX11_debt 114 = .ok (.goto 4, 3) := by decide +kernel
theorem dX11_debt_117 : decode cX11_debt 117 = .ok (.iconst 0, 1) := by decide +kernel
theorem dX11_debt_118 : decode cX11_debt 118 = .ok (.ireturn, 1) := by decide +kernel
theorem dX11_debt_119 : decode cX11_debt 119 = .ok (.bipush (-102), 2) := by decide +kernel
theorem dX11_debt_121 : decode cX11_debt 121 = .ok (.ireturn, 1) := by decide +kernel
theorem dX4_roomBeyond_0 : decode cX4_roomBeyond 0 = .ok (.aload_n 0, 1) := by decide +kernel
theorem dX4_roomBeyond_1 : decode cX4_roomBeyond 1 = .ok (.getfield 9, 3) := by decide +kernel
theorem dX4_roomBeyond_4 : decode cX4_roomBeyond 4 = .ok (.iload_n 1, 1) := by decide +kernel
theorem dX4_roomBeyond_5 : decode cX4_roomBeyond 5 = .ok (.iaload, 1) := by decide +kernel
theorem dX4_roomBeyond_6 : decode cX4_roomBeyond 6 = .ok (.iload_n 2, 1) := by decide +kernel
theorem dX4_roomBeyond_7 : decode cX4_roomBeyond 7 = .ok (.if_icmp .ne 12, 3) := by decide +kernel
theorem dX4_roomBeyond_10 : decode cX4_roomBeyond 10 = .ok (.aload_n 0, 1) := by decide +kernel
theorem dX4_roomBeyond_11 : decode cX4_roomBeyond 11 = .ok (.getfield 15, 3) := by decide +kernel
theorem dX4_roomBeyond_14 : decode cX4_roomBeyond 14 = .ok (.iload_n 1, 1) := by decide +kernel
theorem dX4_roomBeyond_15 : decode cX4_roomBeyond 15 = .ok (.iaload, 1) := by decide +kernel
theorem dX4_roomBeyond_16 : decode cX4_roomBeyond 16 = .ok (.goto 9, 3) := by decide +kernel
theorem dX4_roomBeyond_19 : decode cX4_roomBeyond 19 = .ok (.aload_n 0, 1) := by decide +kernel
theorem dX4_roomBeyond_20 : decode cX4_roomBeyond 20 = .ok (.getfield 9, 3) := by decide +kernel
theorem dX4_roomBeyond_23 : decode cX4_roomBeyond 23 = .ok (.iload_n 1, 1) := by decide +kernel
theorem dX4_roomBeyond_24 : decode cX4_roomBeyond 24 = .ok (.iaload, 1) := by decide +kernel
theorem dX4_roomBeyond_25 : decode cX4_roomBeyond 25 = .ok (.ireturn, 1) := by decide +kernel
theorem dX0_goThrough_0 : decode cX0_goThrough 0 = .ok (.aload_n 0, 1) := by decide +kernel
theorem dX0_goThrough_1 : decode cX0_goThrough 1 = .ok (.getfield 15, 3) := by decide +kernel
theorem dX0_goThrough_4 : decode cX0_goThrough 4 = .ok (.iload_n 1, 1) := by decide +kernel
theorem dX0_goThrough_5 : decode cX0_goThrough 5 = .ok (.aload_n 0, 1) := by decide +kernel
theorem dX0_goThrough_6 : decode cX0_goThrough 6 = .ok (.getfield 34, 3) := by decide +kernel
theorem dX0_goThrough_9 : decode cX0_goThrough 9 = .ok (.iload_n 2, 1) := by decide +kernel
theorem dX0_goThrough_10 : decode cX0_goThrough 10 = .ok (.aload_n 0, 1) := by decide +kernel
theorem dX0_goThrough_11 : decode cX0_goThrough 11 = .ok (.getfield 15, 3) := by decide +kernel
theorem dX0_goThrough_14 : decode cX0_goThrough 14 = .ok (.iload_n 1, 1) := by decide +kernel
theorem dX0_goThrough_15 : decode cX0_goThrough 15 = .ok (.iaload, 1) := by decide +kernel
theorem dX0_goThrough_16 : decode cX0_goThrough 16 = .ok (.invokevirtual 67, 3) := by decide +kernel
theorem dX0_goThrough_19 : decode cX0_goThrough 19 = .ok (.iastore, 1) := by decide +kernel
theorem dX0_goThrough_20 : decode cX0_goThrough 20 = .ok (.aload_n 0, 1) := by decide +kernel
theorem dX0_goThrough_21 : decode cX0_goThrough 21 = .ok (.dup, 1) := by decide +kernel
theorem dX0_goThrough_22 : decode cX0_goThrough 22 = .ok (.getfield 42, 3) := by decide +kernel
theorem dX0_goThrough_25 : decode cX0_goThrough 25 = .ok (.iconst 1, 1) := by decide +kernel
theorem dX0_goThrough_26 : decode cX0_goThrough 26 = .ok (.iadd, 1) := by decide +kernel
theorem dX0_goThrough_27 : decode cX0_goThrough 27 = .ok (.putfield 42, 3) := by decide +kernel
theorem dX0_goThrough_30 : decode cX0_goThrough 30 = .ok (.return_, 1) := by decide +kernel
theorem dX11_go_0 : decode cX11_go 0 = .ok (.aload_n 0, 1) := by decide +kernel
theorem dX11_go_1 : decode cX11_go 1 = .ok (.iload_n 1, 1) := by decide +kernel
theorem dX11_go_2 : decode cX11_go 2 = .ok (.invokevirtual 93, 3) := by decide +kernel
theorem dX11_go_5 : decode cX11_go 5 = .ok (.ifCond .ne 11, 3) := by decide +kernel
theorem dX11_go_8 : decode cX11_go 8 = .ok (.aload_n 0, 1) := by decide +kernel
theorem dX11_go_9 : decode cX11_go 9 = .ok (.iload_n 2, 1) := by decide +kernel
theorem dX11_go_10 : decode cX11_go 10 = .ok (.invokevirtual 136, 3) := by decide +kernel
theorem dX11_go_13 : decode cX11_go 13 = .ok (.ifCond .eq 6, 3) := by decide +kernel
theorem dX11_go_16 : decode cX11_go 16 = .ok (.bipush (-101), 2) := by decide +kernel
theorem dX11_go_18 : decode cX11_go 18 = .ok (.ireturn, 1) := by decide +kernel
theorem dX11_go_19 : decode cX11_go 19 = .ok (.aload_n 0, 1) := by decide +kernel
theorem dX11_go_20 : decode cX11_go 20 = .ok (.getfield 28, 3) := by decide +kernel
theorem dX11_go_23 : decode cX11_go 23 = .ok (.iload_n 1, 1) := by decide +kernel
theorem dX11_go_24 : decode cX11_go 24 = .ok (.iload_n 2, 1) := by decide +kernel
theorem dX11_go_25 : decode cX11_go 25 = .ok (.invokevirtual 170, 3) := by decide +kernel
theorem dX11_go_28 : decode cX11_go 28 = .ok (.ifCond .ne 6, 3) := by decide +kernel
theorem dX11_go_31 : decode cX11_go 31 = .ok (.bipush (-103), 2) := by decide +kernel
theorem dX11_go_33 : decode cX11_go 33 = .ok (.ireturn, 1) := by decide +kernel
theorem dX11_go_34 : decode cX11_go 34 = .ok (.aload_n 0, 1) := by decide +kernel
theorem dX11_go_35 : decode cX11_go 35 = .ok (.getfield 28, 3) := by decide +kernel
theorem dX11_go_38 : decode cX11_go 38 = .ok (.getfield 173, 3) := by decide +kernel
theorem dX11_go_41 : decode cX11_go 41 = .ok (.sipush 999, 3) := by decide +kernel
theorem dX11_go_44 : decode cX11_go 44 = .ok (.if_icmp .lt 6, 3) := by decide +kernel
theorem dX11_go_47 : decode cX11_go 47 = .ok (.bipush (-104), 2) := by decide +kernel
theorem dX11_go_49 : decode cX11_go 49 = .ok (.ireturn, 1) := by decide +kernel
theorem dX11_go_50 : decode cX11_go 50 = .ok (.aload_n 0, 1) := by decide +kernel
theorem dX11_go_51 : decode cX11_go 51 = .ok (.getfield 28, 3) := by decide +kernel
theorem dX11_go_54 : decode cX11_go 54 = .ok (.iload_n 1, 1) := by decide +kernel
theorem dX11_go_55 : decode cX11_go 55 = .ok (.iload_n 2, 1) := by decide +kernel
theorem dX11_go_56 : decode cX11_go 56 = .ok (.invokevirtual 176, 3) := by decide +kernel
theorem dX11_go_59 : decode cX11_go 59 = .ok (.aload_n 0, 1) := by decide +kernel
theorem dX11_go_60 : decode cX11_go 60 = .ok (.getfield 28, 3) := by decide +kernel
theorem dX11_go_63 : decode cX11_go 63 = .ok (.getfield 110, 3) := by decide +kernel
theorem dX11_go_66 : decode cX11_go 66 = .ok (.iload_n 1, 1) := by decide +kernel
theorem dX11_go_67 : decode cX11_go 67 = .ok (.iaload, 1) := by decide +kernel
theorem dX11_go_68 : decode cX11_go 68 = .ok (.ireturn, 1) := by decide +kernel
theorem dX11_give_0 : decode cX11_give 0 = .ok (.iload_n 1, 1) := by decide +kernel
theorem dX11_give_1 : decode cX11_give 1 = .ok (.ifCond .lt 16, 3) := by decide +kernel
theorem dX11_give_4 : decode cX11_give 4 = .ok (.iload_n 1, 1) := by decide +kernel
theorem dX11_give_5 : decode cX11_give 5 = .ok (.iconst 2, 1) := by decide +kernel
theorem dX11_give_6 : decode cX11_give 6 = .ok (.if_icmp .ge 11, 3) := by decide +kernel
theorem dX11_give_9 : decode cX11_give 9 = .ok (.aload_n 0, 1) := by decide +kernel
theorem dX11_give_10 : decode cX11_give 10 = .ok (.iload_n 2, 1) := by decide +kernel
theorem dX11_give_11 : decode cX11_give 11 = .ok (.invokevirtual 93, 3) := by decide +kernel
theorem dX11_give_14 : decode cX11_give 14 = .ok (.ifCond .eq 6, 3) := by decide +kernel
theorem dX11_give_17 : decode cX11_give 17 = .ok (.bipush (-101), 2) := by decide +kernel
theorem dX11_give_19 : decode cX11_give 19 = .ok (.ireturn, 1) := by decide +kernel
theorem dX11_give_20 : decode cX11_give 20 = .ok (.aload_n 0, 1) := by decide +kernel
theorem dX11_give_21 : decode cX11_give 21 = .ok (.getfield 28, 3) := by decide +kernel
theorem dX11_give_24 : decode cX11_give 24 = .ok (.getfield 180, 3) := by decide +kernel
theorem dX11_give_27 : decode cX11_give 27 = .ok (.iload_n 1, 1) := by decide +kernel
theorem dX11_give_28 : decode cX11_give 28 = .ok (.iaload, 1) := by decide +kernel
theorem dX11_give_29 : decode cX11_give 29 = .ok (.istore_n 3, 1) := by decide +kernel
theorem dX11_give_30 : decode cX11_give 30 = .ok (.iload_n 3, 1) := by decide +kernel
theorem dX11_give_31 : decode cX11_give 31 = .ok (.iload_n 2, 1) := by decide +kernel
theorem dX11_give_32 : decode cX11_give 32 = .ok (.if_icmp .eq 24, 3) := by decide +kernel
theorem dX11_give_35 : decode cX11_give 35 = .ok (.aload_n 0, 1) := by decide +kernel
theorem dX11_give_36 : decode cX11_give 36 = .ok (.getfield 28, 3) := by decide +kernel
theorem dX11_give_39 : decode cX11_give 39 = .ok (.getfield 110, 3) := by decide +kernel
theorem dX11_give_42 : decode cX11_give 42 = .ok (.iload_n 3, 1) := by decide +kernel
theorem dX11_give_43 : decode cX11_give 43 = .ok (.iaload, 1) := by decide +kernel
theorem dX11_give_44 : decode cX11_give 44 = .ok (.aload_n 0, 1) := by decide +kernel
theorem dX11_give_45 : decode cX11_give 45 = .ok (.getfield 28, 3) := by decide +kernel
theorem dX11_give_48 : decode cX11_give 48 = .ok (.getfield 110, 3) := by decide +kernel
theorem dX11_give_51 : decode cX11_give 51 = .ok (.iload_n 2, 1) := by decide +kernel
theorem dX11_give_52 : decode cX11_give 52 = .ok (.iaload, 1) := by decide +kernel
theorem dX11_give_53 : decode cX11_give 53 = .ok (.if_icmp .eq 6, 3) := by decide +kernel
theorem dX11_give_56 : decode cX11_give 56 = .ok (.bipush (-103), 2) := by decide +kernel
theorem dX11_give_58 : decode cX11_give 58 = .ok (.ireturn, 1) := by decide +kernel
theorem dX11_give_59 : decode cX11_give 59 = .ok (.aload_n 0, 1) := by decide +kernel
theorem dX11_give_60 : decode cX11_give 60 = .ok (.getfield 28, 3) := by decide +kernel
theorem dX11_give_63 : decode cX11_give 63 = .ok (.getfield 180, 3) := by decide +kernel
theorem dX11_give_66 : decode cX11_give 66 = .ok (.iload_n 1, 1) := by decide +kernel
theorem dX11_give_67 : decode cX11_give 67 = .ok (.iload_n 2, 1) := by decide +kernel
theorem dX11_give_68 : decode cX11_give 68 = .ok (.iastore, 1) := by decide +kernel
theorem dX11_give_69 : decode cX11_give 69 = .ok (.iload_n 3, 1) := by decide +kernel
theorem dX11_give_70 : decode cX11_give 70 = .ok (.ireturn, 1) := by decide +kernel
theorem dX0_settle_0 : decode cX0_settle 0 = .ok (.aload_n 0, 1) := by decide +kernel
theorem dX0_settle_1 : decode cX0_settle 1 = .ok (.getfield 34, 3) := by decide +kernel
theorem dX0_settle_4 : decode cX0_settle 4 = .ok (.getfield 84, 3) := by decide +kernel
theorem dX0_settle_7 : decode cX0_settle 7 = .ok (.iload_n 1, 1) := by decide +kernel
theorem dX0_settle_8 : decode cX0_settle 8 = .ok (.iaload, 1) := by decide +kernel
theorem dX0_settle_9 : decode cX0_settle 9 = .ok (.istore_n 2, 1) := by decide +kernel
theorem dX0_settle_10 : decode cX0_settle 10 = .ok (.aload_n 0, 1) := by decide +kernel
theorem dX0_settle_11 : decode cX0_settle 11 = .ok (.getfield 9, 3) := by decide +kernel
theorem dX0_settle_14 : decode cX0_settle 14 = .ok (.aload_n 0, 1) := by decide +kernel
theorem dX0_settle_15 : decode cX0_settle 15 = .ok (.getfield 34, 3) := by decide +kernel
theorem dX0_settle_18 : decode cX0_settle 18 = .ok (.getfield 71, 3) := by decide +kernel
theorem dX0_settle_21 : decode cX0_settle 21 = .ok (.iload_n 1, 1) := by decide +kernel
theorem dX0_settle_22 : decode cX0_settle 22 = .ok (.iaload, 1) := by decide +kernel
theorem dX0_settle_23 : decode cX0_settle 23 = .ok (.dup2, 1) := by decide +kernel
theorem dX0_settle_24 : decode cX0_settle 24 = .ok (.iaload, 1) := by decide +kernel
theorem dX0_settle_25 : decode cX0_settle 25 = .ok (.aload_n 0, 1) := by decide +kernel
theorem dX0_settle_26 : decode cX0_settle 26 = .ok (.iload_n 1, 1) := by decide +kernel
theorem dX0_settle_27 : decode cX0_settle 27 = .ok (.invokevirtual 78, 3) := by decide +kernel
theorem dX0_settle_30 : decode cX0_settle 30 = .ok (.isub, 1) := by decide +kernel
theorem dX0_settle_31 : decode cX0_settle 31 = .ok (.iastore, 1) := by decide +kernel
theorem dX0_settle_32 : decode cX0_settle 32 = .ok (.aload_n 0, 1) := by decide +kernel
theorem dX0_settle_33 : decode cX0_settle 33 = .ok (.getfield 9, 3) := by decide +kernel
theorem dX0_settle_36 : decode cX0_settle 36 = .ok (.iload_n 2, 1) := by decide +kernel
theorem dX0_settle_37 : decode cX0_settle 37 = .ok (.bipush 99, 2) := by decide +kernel
theorem dX0_settle_39 : decode cX0_settle 39 = .ok (.aload_n 0, 1) := by decide +kernel
theorem dX0_settle_40 : decode cX0_settle 40 = .ok (.getfield 9, 3) := by decide +kernel
theorem dX0_settle_43 : decode cX0_settle 43 = .ok (.iload_n 2, 1) := by decide +kernel
theorem dX0_settle_44 : decode cX0_settle 44 = .ok (.iaload, 1) := by decide +kernel
theorem dX0_settle_45 : decode cX0_settle 45 = .ok (.aload_n 0, 1) := by decide +kernel
theorem dX0_settle_46 : decode cX0_settle 46 = .ok (.getfield 21, 3) := by decide +kernel
theorem dX0_settle_49 : decode cX0_settle 49 = .ok (.iload_n 1, 1) := by decide +kernel
theorem dX0_settle_50 : decode cX0_settle 50 = .ok (.iaload, 1) := by decide +kernel
theorem dX0_settle_51 : decode cX0_settle 51 = .ok (.iadd, 1) := by decide +kernel
theorem dX0_settle_52 : decode cX0_settle 52 = .ok (.invokestatic 90, 3) := by decide +kernel
theorem dX0_settle_55 : decode cX0_settle 55 = .ok (.iastore, 1) := by decide +kernel
theorem dX0_settle_56 : decode cX0_settle 56 = .ok (.aload_n 0, 1) := by decide +kernel
theorem dX0_settle_57 : decode cX0_settle 57 = .ok (.getfield 24, 3) := by decide +kernel
theorem dX0_settle_60 : decode cX0_settle 60 = .ok (.iload_n 1, 1) := by decide +kernel
theorem dX0_settle_61 : decode cX0_settle 61 = .ok (.iconst 1, 1) := by decide +kernel
theorem dX0_settle_62 : decode cX0_settle 62 = .ok (.bastore, 1) := by decide +kernel
theorem dX0_settle_63 : decode cX0_settle 63 = .ok (.return_, 1) := by decide +kernel
theorem dX11_pay_0 : decode cX11_pay 0 = .ok (.aload_n 0, 1) := by decide +kernel
theorem dX11_pay_1 : decode cX11_pay 1 = .ok (.iload_n 1, 1) := by decide +kernel
theorem dX11_pay_2 : decode cX11_pay 2 = .ok (.invokevirtual 148, 3) := by decide +kernel
theorem dX11_pay_5 : decode cX11_pay 5 = .ok (.ifCond .eq 6, 3) := by decide +kernel
theorem dX11_pay_8 : decode cX11_pay 8 = .ok (.bipush (-101), 2) := by decide +kernel
theorem dX11_pay_10 : decode cX11_pay 10 = .ok (.ireturn, 1) := by decide +kernel
theorem dX11_pay_11 : decode cX11_pay 11 = .ok (.aload_n 0, 1) := by decide +kernel
theorem dX11_pay_12 : decode cX11_pay 12 = .ok (.getfield 28, 3) := by decide +kernel
theorem dX11_pay_15 : decode cX11_pay 15 = .ok (.iload_n 1, 1) := by decide +kernel
theorem dX11_pay_16 : decode cX11_pay 16 = .ok (.invokevirtual 183, 3) := by decide +kernel
theorem dX11_pay_19 : decode cX11_pay 19 = .ok (.ifCond .ne 6, 3) := by decide +kernel
theorem dX11_pay_22 : decode cX11_pay 22 = .ok (.bipush (-103), 2) := by decide +kernel
theorem dX11_pay_24 : decode cX11_pay 24 = .ok (.ireturn, 1) := by decide +kernel
theorem dX11_pay_25 : decode cX11_pay 25 = .ok (.aload_n 0, 1) := by decide +kernel
theorem dX11_pay_26 : decode cX11_pay 26 = .ok (.getfield 28, 3) := by decide +kernel
theorem dX11_pay_29 : decode cX11_pay 29 = .ok (.iload_n 1, 1) := by decide +kernel
theorem dX11_pay_30 : decode cX11_pay 30 = .ok (.invokevirtual 186, 3) := by decide +kernel
theorem dX11_pay_33 : decode cX11_pay 33 = .ok (.aload_n 0, 1) := by decide +kernel
theorem dX11_pay_34 : decode cX11_pay 34 = .ok (.getfield 28, 3) := by decide +kernel
theorem dX11_pay_37 : decode cX11_pay 37 = .ok (.getfield 106, 3) := by decide +kernel
theorem dX11_pay_40 : decode cX11_pay 40 = .ok (.aload_n 0, 1) := by decide +kernel
theorem dX11_pay_41 : decode cX11_pay 41 = .ok (.getfield 19, 3) := by decide +kernel
theorem dX11_pay_44 : decode cX11_pay 44 = .ok (.getfield 151, 3) := by decide +kernel
theorem dX11_pay_47 : decode cX11_pay 47 = .ok (.iload_n 1, 1) := by decide +kernel
theorem dX11_pay_48 : decode cX11_pay 48 = .ok (.iaload, 1) := by decide +kernel
theorem dX11_pay_49 : decode cX11_pay 49 = .ok (.iaload, 1) := by decide +kernel
theorem dX11_pay_50 : decode cX11_pay 50 = .ok (.ireturn, 1) := by decide +kernel
theorem dX11_earn_0 : decode cX11_earn 0 = .ok (.aload_n 0, 1) := by decide +kernel
theorem dX11_earn_1 : decode cX11_earn 1 = .ok (.iload_n 1, 1) := by decide +kernel
theorem dX11_earn_2 : decode cX11_earn 2 = .ok (.invokevirtual 93, 3) := by decide +kernel
theorem dX11_earn_5 : decode cX11_earn 5 = .ok (.ifCond .eq 6, 3) := by decide +kernel
theorem dX11_earn_8 : decode cX11_earn 8 = .ok (.bipush (-101), 2) := by decide +kernel
theorem dX11_earn_10 : decode cX11_earn 10 = .ok (.ireturn, 1) := by decide +kernel
theorem dX11_earn_11 : decode cX11_earn 11 = .ok (.iload_n 2, 1) := by decide +kernel
theorem dX11_earn_12 : decode cX11_earn 12 = .ok (.iconst 1, 1) := by decide +kernel
theorem dX11_earn_13 : decode cX11_earn 13 = .ok (.if_icmp .lt 9, 3) := by decide +kernel
theorem dX11_earn_16 : decode cX11_earn 16 = .ok (.iload_n 2, 1) := by decide +kernel
theorem dX11_earn_17 : decode cX11_earn 17 = .ok (.bipush 9, 2) := by decide +kernel
theorem dX11_earn_19 : decode cX11_earn 19 = .ok (.if_icmp .le 6, 3) := by decide +kernel
theorem dX11_earn_22 : decode cX11_earn 22 = .ok (.bipush (-102), 2) := by decide +kernel
theorem dX11_earn_24 : decode cX11_earn 24 = .ok (.ireturn, 1) := by decide +kernel
theorem dX11_earn_25 : decode cX11_earn 25 = .ok (.aload_n 0, 1) := by decide +kernel
theorem dX11_earn_26 : decode cX11_earn 26 = .ok (.getfield 28, 3) := by decide +kernel
theorem dX11_earn_29 : decode cX11_earn 29 = .ok (.getfield 106, 3) := by decide +kernel
theorem dX11_earn_32 : decode cX11_earn 32 = .ok (.iload_n 1, 1) := by decide +kernel
theorem dX11_earn_33 : decode cX11_earn 33 = .ok (.iaload, 1) := by decide +kernel
theorem dX11_earn_34 : decode cX11_earn 34 = .ok (.iload_n 2, 1) := by decide +kernel
theorem dX11_earn_35 : decode cX11_earn 35 = .ok (.iadd, 1) := by decide +kernel
theorem dX11_earn_36 : decode cX11_earn 36 = .ok (.bipush 99, 2) := by decide +kernel
theorem dX11_earn_38 : decode cX11_earn 38 = .ok (.if_icmp .le 6, 3) := by decide +kernel
theorem dX11_earn_41 : decode cX11_earn 41 = .ok (.bipush (-104), 2) := by decide +kernel
theorem dX11_earn_43 : decode cX11_earn 43 = .ok (.ireturn, 1) := by decide +kernel
theorem dX11_earn_44 : decode cX11_earn 44 = .ok (.aload_n 0, 1) := by decide +kernel
theorem dX11_earn_45 : decode cX11_earn 45 = .ok (.getfield 28, 3) := by decide +kernel
theorem dX11_earn_48 : decode cX11_earn 48 = .ok (.getfield 106, 3) := by decide +kernel
theorem dX11_earn_51 : decode cX11_earn 51 = .ok (.iload_n 1, 1) := by decide +kernel
theorem dX11_earn_52 : decode cX11_earn 52 = .ok (.dup2, 1) := by decide +kernel
theorem dX11_earn_53 : decode cX11_earn 53 = .ok (.iaload, 1) := by decide +kernel
theorem dX11_earn_54 : decode cX11_earn 54 = .ok (.iload_n 2, 1) := by decide +kernel
theorem dX11_earn_55 : decode cX11_earn 55 = .ok (.iadd, 1) := by decide +kernel
theorem dX11_earn_56 : decode cX11_earn 56 = .ok (.iastore, 1) := by decide +kernel
theorem dX11_earn_57 : decode cX11_earn 57 = .ok (.aload_n 0, 1) := by decide +kernel
theorem dX11_earn_58 : decode cX11_earn 58 = .ok (.getfield 28, 3) := by decide +kernel
theorem dX11_earn_61 : decode cX11_earn 61 = .ok (.getfield 106, 3) := by decide +kernel
theorem dX11_earn_64 : decode cX11_earn 64 = .ok (.iload_n 1, 1) := by decide +kernel
theorem dX11_earn_65 : decode cX11_earn 65 = .ok (.iaload, 1) := by decide +kernel
theorem dX11_earn_66 : decode cX11_earn 66 = .ok (.ireturn, 1) := by decide +kernel
theorem dX11_owe_0 : decode cX11_owe 0 = .ok (.aload_n 0, 1) := by decide +kernel
theorem dX11_owe_1 : decode cX11_owe 1 = .ok (.iload_n 1, 1) := by decide +kernel
theorem dX11_owe_2 : decode cX11_owe 2 = .ok (.invokevirtual 148, 3) := by decide +kernel
theorem dX11_owe_5 : decode cX11_owe 5 = .ok (.ifCond .eq 6, 3) := by decide +kernel
theorem dX11_owe_8 : decode cX11_owe 8 = .ok (.bipush (-101), 2) := by decide +kernel
theorem dX11_owe_10 : decode cX11_owe 10 = .ok (.ireturn, 1) := by decide +kernel
theorem dX11_owe_11 : decode cX11_owe 11 = .ok (.iload_n 2, 1) := by decide +kernel
theorem dX11_owe_12 : decode cX11_owe 12 = .ok (.iconst 1, 1) := by decide +kernel
theorem dX11_owe_13 : decode cX11_owe 13 = .ok (.if_icmp .lt 9, 3) := by decide +kernel
theorem dX11_owe_16 : decode cX11_owe 16 = .ok (.iload_n 2, 1) := by decide +kernel
theorem dX11_owe_17 : decode cX11_owe 17 = .ok (.bipush 9, 2) := by decide +kernel
theorem dX11_owe_19 : decode cX11_owe 19 = .ok (.if_icmp .le 6, 3) := by decide +kernel
theorem dX11_owe_22 : decode cX11_owe 22 = .ok (.bipush (-102), 2) := by decide +kernel
theorem dX11_owe_24 : decode cX11_owe 24 = .ok (.ireturn, 1) := by decide +kernel
theorem dX11_owe_25 : decode cX11_owe 25 = .ok (.aload_n 0, 1) := by decide +kernel
theorem dX11_owe_26 : decode cX11_owe 26 = .ok (.getfield 28, 3) := by decide +kernel
theorem dX11_owe_29 : decode cX11_owe 29 = .ok (.getfield 160, 3) := by decide +kernel
theorem dX11_owe_32 : decode cX11_owe 32 = .ok (.iload_n 1, 1) := by decide +kernel
theorem dX11_owe_33 : decode cX11_owe 33 = .ok (.iaload, 1) := by decide +kernel
theorem dX11_owe_34 : decode cX11_owe 34 = .ok (.istore_n 3, 1) := by decide +kernel
theorem dX11_owe_35 : decode cX11_owe 35 = .ok (.aload_n 0, 1) := by decide +kernel
theorem dX11_owe_36 : decode cX11_owe 36 = .ok (.getfield 28, 3) := by decide +kernel
theorem dX11_owe_39 : decode cX11_owe 39 = .ok (.getfield 160, 3) := by decide +kernel
theorem dX11_owe_42 : decode cX11_owe 42 = .ok (.iload_n 1, 1) := by decide +kernel
theorem dX11_owe_43 : decode cX11_owe 43 = .ok (.iload_n 2, 1) := by decide +kernel
theorem dX11_owe_44 : decode cX11_owe 44 = .ok (.iastore, 1) := by decide +kernel
theorem dX11_owe_45 : decode cX11_owe 45 = .ok (.aload_n 0, 1) := by decide +kernel
theorem dX11_owe_46 : decode cX11_owe 46 = .ok (.getfield 28, 3) := by decide +kernel
theorem dX11_owe_49 : decode cX11_owe 49 = .ok (.getfield 166, 3) := by decide +kernel
theorem dX11_owe_52 : decode cX11_owe 52 = .ok (.iload_n 1, 1) := by decide +kernel
theorem dX11_owe_53 : decode cX11_owe 53 = .ok (.iconst 0, 1) := by decide +kernel
theorem dX11_owe_54 : decode cX11_owe 54 = .ok (.bastore, 1) := by decide +kernel
theorem dX11_owe_55 : decode cX11_owe 55 = .ok (.iload_n 3, 1) := by decide +kernel
theorem dX11_owe_56 : decode cX11_owe 56 = .ok (.ireturn, 1) := by decide +kernel
theorem dX11_isNoRoom_0 : decode cX11_isNoRoom 0 = .ok (.iload_n 1, 1) := by decide +kernel
theorem dX11_isNoRoom_1 : decode cX11_isNoRoom 1 = .ok (.ifCond .lt 14, 3) := by decide +kernel
theorem dX11_isNoRoom_4 : decode cX11_isNoRoom 4 = .ok (.iload_n 1, 1) := by decide +kernel
theorem dX11_isNoRoom_5 : decode cX11_isNoRoom 5 = .ok (.aload_n 0, 1) := by decide +kernel
theorem dX11_isNoRoom_6 : decode cX11_isNoRoom 6 = .ok (.getfield 19, 3) := by decide +kernel
theorem dX11_isNoRoom_9 : decode cX11_isNoRoom 9 = .ok (.getfield 255, 3) := by decide +kernel
theorem dX11_isNoRoom_12 : decode cX11_isNoRoom 12 = .ok (.if_icmp .lt 7, 3) := by decide +kernel
theorem dX11_isNoRoom_15 : decode cX11_isNoRoom 15 = .ok (.iconst 1, 1) := by decide +kernel
theorem dX11_isNoRoom_16 : decode cX11_isNoRoom 16 = .ok (.goto 4, 3) := by decide +kernel
theorem dX11_isNoRoom_19 : decode cX11_isNoRoom 19 = .ok (.iconst 0, 1) := by decide +kernel
theorem dX11_isNoRoom_20 : decode cX11_isNoRoom 20 = .ok (.ireturn, 1) := by decide +kernel
theorem dX10_shorten_0 : decode cX10_shorten 0 = .ok (.aload_n 0, 1) := by decide +kernel
theorem dX10_shorten_1 : decode cX10_shorten 1 = .ok (.getfield 9, 3) := by decide +kernel
theorem dX10_shorten_4 : decode cX10_shorten 4 = .ok (.iload_n 1, 1) := by decide +kernel
theorem dX10_shorten_5 : decode cX10_shorten 5 = .ok (.iaload, 1) := by decide +kernel
theorem dX10_shorten_6 : decode cX10_shorten 6 = .ok (.iconst (-1), 1) := by decide +kernel
theorem dX10_shorten_7 : decode cX10_shorten 7 = .ok (.if_icmp .eq 44, 3) := by decide +kernel
theorem dX10_shorten_10 : decode cX10_shorten 10 = .ok (.aload_n 0, 1) := by decide +kernel
theorem dX10_shorten_11 : decode cX10_shorten 11 = .ok (.getfield 9, 3) := by decide +kernel
theorem dX10_shorten_14 : decode cX10_shorten 14 = .ok (.iload_n 2, 1) := by decide +kernel
theorem dX10_shorten_15 : decode cX10_shorten 15 = .ok (.iaload, 1) := by decide +kernel
theorem dX10_shorten_16 : decode cX10_shorten 16 = .ok (.iconst (-1), 1) := by decide +kernel
theorem dX10_shorten_17 : decode cX10_shorten 17 = .ok (.if_icmp .eq 20, 3) := by decide +kernel
theorem dX10_shorten_20 : decode cX10_shorten 20 = .ok (.aload_n 0, 1) := by decide +kernel
theorem dX10_shorten_21 : decode cX10_shorten 21 = .ok (.getfield 9, 3) := by decide +kernel
theorem dX10_shorten_24 : decode cX10_shorten 24 = .ok (.iload_n 2, 1) := by decide +kernel
theorem dX10_shorten_25 : decode cX10_shorten 25 = .ok (.iaload, 1) := by decide +kernel
theorem dX10_shorten_26 : decode cX10_shorten 26 = .ok (.aload_n 0, 1) := by decide +kernel
theorem dX10_shorten_27 : decode cX10_shorten 27 = .ok (.getfield 9, 3) := by decide +kernel
theorem dX10_shorten_30 : decode cX10_shorten 30 = .ok (.iload_n 1, 1) := by decide +kernel
theorem dX10_shorten_31 : decode cX10_shorten 31 = .ok (.iaload, 1) := by decide +kernel
theorem dX10_shorten_32 : decode cX10_shorten 32 = .ok (.iconst 1, 1) := by decide +kernel
theorem dX10_shorten_33 : decode cX10_shorten 33 = .ok (.iadd, 1) := by decide +kernel
theorem dX10_shorten_34 : decode cX10_shorten 34 = .ok (.if_icmp .le 17, 3) := by decide +kernel
theorem dX10_shorten_37 : decode cX10_shorten 37 = .ok (.aload_n 0, 1) := by decide +kernel
theorem dX10_shorten_38 : decode cX10_shorten 38 = .ok (.getfield 9, 3) := by decide +kernel
theorem dX10_shorten_41 : decode cX10_shorten 41 = .ok (.iload_n 2, 1) := by decide +kernel
theorem dX10_shorten_42 : decode cX10_shorten 42 = .ok (.aload_n 0, 1) := by decide +kernel
theorem dX10_shorten_43 : decode cX10_shorten 43 = .ok (.getfield 9, 3) := by decide +kernel
theorem dX10_shorten_46 : decode cX10_shorten 46 = .ok (.iload_n 1, 1) := by decide +kernel
theorem dX10_shorten_47 : decode cX10_shorten 47 = .ok (.iaload, 1) := by decide +kernel
theorem dX10_shorten_48 : decode cX10_shorten 48 = .ok (.iconst 1, 1) := by decide +kernel
theorem dX10_shorten_49 : decode cX10_shorten 49 = .ok (.iadd, 1) := by decide +kernel
theorem dX10_shorten_50 : decode cX10_shorten 50 = .ok (.iastore, 1) := by decide +kernel
theorem dX10_shorten_51 : decode cX10_shorten 51 = .ok (.return_, 1) := by decide +kernel
theorem dX10_measure_0 : decode cX10_measure 0 = .ok (.iconst 0, 1) := by decide +kernel
theorem dX10_measure_1 : decode cX10_measure 1 = .ok (.istore 4, 2) := by decide +kernel
theorem dX10_measure_3 : decode cX10_measure 3 = .ok (.iload 4, 2) := by decide +kernel
theorem dX10_measure_5 : decode cX10_measure 5 = .ok (.bipush 6, 2) := by decide +kernel
theorem dX10_measure_7 : decode cX10_measure 7 = .ok (.if_icmp .ge 17, 3) := by decide +kernel
theorem dX10_measure_10 : decode cX10_measure 10 = .ok (.aload_n 0, 1) := by decide +kernel
theorem dX10_measure_11 : decode cX10_measure 11 = .ok (.getfield 9, 3) := by decide +kernel
theorem dX10_measure_14 : decode cX10_measure 14 = .ok (.iload 4, 2) := by decide +kernel
theorem dX10_measure_16 : decode cX10_measure 16 = .ok (.iconst (-1), 1) := by decide +kernel
theorem dX10_measure_17 : decode cX10_measure 17 = .ok (.iastore, 1) := by decide +kernel
theorem dX10_measure_18 : decode cX10_measure 18 = .ok (.iinc 4 1, 3) := by decide +kernel
theorem dX10_measure_21 : decode cX10_measure 21 = .ok (.goto (-18), 3) := by decide +kernel
theorem dX10_measure_24 : decode cX10_measure 24 = .ok (.aload_n 0, 1) := by decide +kernel
theorem dX10_measure_25 : decode cX10_measure 25 = .ok (.getfield 9, 3) := by decide +kernel
theorem dX10_measure_28 : decode cX10_measure 28 = .ok (.iload_n 3, 1) := by decide +kernel
theorem dX10_measure_29 : decode cX10_measure 29 = .ok (.iconst 0, 1) := by decide +kernel
theorem dX10_measure_30 : decode cX10_measure 30 = .ok (.iastore, 1) := by decide +kernel
theorem dX10_measure_31 : decode cX10_measure 31 = .ok (.iconst 1, 1) := by decide +kernel
theorem dX10_measure_32 : decode cX10_measure 32 = .ok (.istore 4, 2) := by decide +kernel
theorem dX10_measure_34 : decode cX10_measure 34 = .ok (.iload 4, 2) := by decide +kernel
theorem dX10_measure_36 : decode cX10_measure 36 = .ok (.aload_n 0, 1) := by decide +kernel
theorem dX10_measure_37 : decode cX10_measure 37 = .ok (.getfield 21, 3) := by decide +kernel
theorem dX10_measure_40 : decode cX10_measure 40 = .ok (.getfield 44, 3) := by decide +kernel
theorem dX10_measure_43 : decode cX10_measure 43 = .ok (.if_icmp .ge 88, 3) := by decide +kernel
theorem dX10_measure_46 : decode cX10_measure 46 = .ok (.iconst 0, 1) := by decide +kernel
theorem dX10_measure_47 : decode cX10_measure 47 = .ok (.istore 5, 2) := by decide +kernel
theorem dX10_measure_49 : decode cX10_measure 49 = .ok (.iload 5, 2) := by decide +kernel
theorem dX10_measure_51 : decode cX10_measure 51 = .ok (.aload_n 0, 1) := by decide +kernel
theorem dX10_measure_52 : decode cX10_measure 52 = .ok (.getfield 21, 3) := by decide +kernel
theorem dX10_measure_55 : decode cX10_measure 55 = .ok (.getfield 48, 3) := by decide +kernel
theorem dX10_measure_58 : decode cX10_measure 58 = .ok (.if_icmp .ge 67, 3) := by decide +kernel
theorem dX10_measure_61 : decode cX10_measure 61 = .ok (.aload_n 1, 1) := by decide +kernel
theorem dX10_measure_62 : decode cX10_measure 62 = .ok (.iload_n 2, 1) := by decide +kernel
theorem dX10_measure_63 : decode cX10_measure 63 = .ok (.iload 5, 2) := by decide +kernel
theorem dX10_measure_65 : decode cX10_measure 65 = .ok (.invokevirtual 51, 3) := by decide +kernel
theorem dX10_measure_68 : decode cX10_measure 68 = .ok (.ifCond .eq 51, 3) := by decide +kernel
theorem dX10_measure_71 : decode cX10_measure 71 = .ok (.aload_n 0, 1) := by decide +kernel
theorem dX10_measure_72 : decode cX10_measure 72 = .ok (.aload_n 0, 1) := by decide +kernel
theorem dX10_measure_73 : decode cX10_measure 73 = .ok (.getfield 21, 3) := by decide +kernel
theorem dX10_measure_76 : decode cX10_measure 76 = .ok (.getfield 55, 3) := by decide +kernel
theorem dX10_measure_79 : decode cX10_measure 79 = .ok (.iload 5, 2) := by decide +kernel
theorem dX10_measure_81 : decode cX10_measure 81 = .ok (.iaload, 1) := by decide +kernel
theorem dX10_measure_82 : decode cX10_measure 82 = .ok (.aload_n 0, 1) := by decide +kernel
theorem dX10_measure_83 : decode cX10_measure 83 = .ok (.getfield 21, 3) := by decide +kernel
theorem dX10_measure_86 : decode cX10_measure 86 = .ok (.getfield 58, 3) := by decide +kernel
theorem dX10_measure_89 : decode cX10_measure 89 = .ok (.iload 5, 2) := by decide +kernel
theorem dX10_measure_91 : decode cX10_measure 91 = .ok (.iaload, 1) := by decide +kernel
theorem dX10_measure_92 : decode cX10_measure 92 = .ok (.invokevirtual 61, 3) := by decide +kernel
theorem dX10_measure_95 : decode cX10_measure 95 = .ok (.aload_n 0, 1) := by decide +kernel
theorem dX10_measure_96 : decode cX10_measure 96 = .ok (.aload_n 0, 1) := by decide +kernel
theorem dX10_measure_97 : decode cX10_measure 97 = .ok (.getfield 21, 3) := by decide +kernel
theorem dX10_measure_100 : decode cX10_measure 100 = .ok (.getfield 58, 3) := by decide +kernel
theorem dX10_measure_103 : decode cX10_measure 103 = .ok (.iload 5, 2) := by decide +kernel
theorem dX10_measure_105 : decode cX10_measure 105 = .ok (.iaload, 1) := by decide +kernel
theorem dX10_measure_106 : decode cX10_measure 106 = .ok (.aload_n 0, 1) := by decide +kernel
theorem dX10_measure_107 : decode cX10_measure 107 = .ok (.getfield 21, 3) := by decide +kernel
theorem dX10_measure_110 : decode cX10_measure 110 = .ok (.getfield 55, 3) := by decide +kernel
theorem dX10_measure_113 : decode cX10_measure 113 = .ok (.iload 5, 2) := by decide +kernel
theorem dX10_measure_115 : decode cX10_measure 115 = .ok (.iaload, 1) := by decide +kernel
theorem dX10_measure_116 : decode cX10_measure 116 = .ok (.invokevirtual 61, 3) := by decide +kernel
theorem dX10_measure_119 : decode cX10_measure 119 = .ok (.iinc 5 1, 3) := by decide +kernel
theorem dX10_measure_122 : decode cX10_measure 122 = .ok (.goto (-73), 3) := by decide +kernel
theorem dX10_measure_125 : decode cX10_measure 125 = .ok (.iinc 4 1, 3) := by decide +kernel
theorem dX10_measure_128 : decode cX10_measure 128 = .ok (.goto (-94), 3) := by decide +kernel
theorem dX10_measure_131 : decode cX10_measure 131 = .ok (.return_, 1) := by decide +kernel
theorem dX10_wayLength_0 : decode cX10_wayLength 0 = .ok (.aload_n 0, 1) := by decide +kernel
theorem dX10_wayLength_1 : decode cX10_wayLength 1 = .ok (.aload_n 1, 1) := by decide +kernel
theorem dX10_wayLength_2 : decode cX10_wayLength 2 = .ok (.iload_n 2, 1) := by decide +kernel
theorem dX10_wayLength_3 : decode cX10_wayLength 3 = .ok (.iload_n 3, 1) := by decide +kernel
theorem dX10_wayLength_4 : decode cX10_wayLength 4 = .ok (.invokevirtual 25, 3) := by decide +kernel
theorem dX10_wayLength_7 : decode cX10_wayLength 7 = .ok (.aload_n 0, 1) := by decide +kernel
theorem dX10_wayLength_8 : decode cX10_wayLength 8 = .ok (.getfield 9, 3) := by decide +kernel
theorem dX10_wayLength_11 : decode cX10_wayLength 11 = .ok (.aload_n 1, 1) := by decide +kernel
theorem dX10_wayLength_12 : decode cX10_wayLength 12 = .ok (.getfield 29, 3) := by decide +kernel
theorem dX10_wayLength_15 : decode cX10_wayLength 15 = .ok (.iload_n 2, 1) := by decide +kernel
theorem dX10_wayLength_16 : decode cX10_wayLength 16 = .ok (.iaload, 1) := by decide +kernel
theorem dX10_wayLength_17 : decode cX10_wayLength 17 = .ok (.iaload, 1) := by decide +kernel
theorem dX10_wayLength_18 : decode cX10_wayLength 18 = .ok (.ireturn, 1) := by decide +kernel
theorem dX10_doorNearer_0 : decode cX10_doorNearer 0 = .ok (.aload_n 0, 1) := by decide +kernel
theorem dX10_doorNearer_1 : decode cX10_doorNearer 1 = .ok (.getfield 9, 3) := by decide +kernel
theorem dX10_doorNearer_4 : decode cX10_doorNearer 4 = .ok (.iload_n 3, 1) := by decide +kernel
theorem dX10_doorNearer_5 : decode cX10_doorNearer 5 = .ok (.iaload, 1) := by decide +kernel
theorem dX10_doorNearer_6 : decode cX10_doorNearer 6 = .ok (.ifCond .gt 5, 3) := by decide +kernel
theorem dX10_doorNearer_9 : decode cX10_doorNearer 9 = .ok (.iconst (-1), 1) := by decide +kernel
theorem dX10_doorNearer_10 : decode cX10_doorNearer 10 = .ok (.ireturn, 1) := by decide +kernel
theorem dX10_doorNearer_11 : decode cX10_doorNearer 11 = .ok (.iconst 0, 1) := by decide +kernel
theorem dX10_doorNearer_12 : decode cX10_doorNearer 12 = .ok (.istore 4, 2) := by decide +kernel
theorem dX10_doorNearer_14 : decode cX10_doorNearer 14 = .ok (.iload 4, 2) := by decide +kernel
theorem dX10_doorNearer_16 : decode cX10_doorNearer 16 = .ok (.aload_n 0, 1) := by decide +kernel
theorem dX10_doorNearer_17 : decode cX10_doorNearer 17 = .ok (.getfield 21, 3) := by decide +kernel
theorem dX10_doorNearer_20 : decode cX10_doorNearer 20 = .ok (.getfield 48, 3) := by decide +kernel
theorem dX10_doorNearer_23 : decode cX10_doorNearer 23 = .ok (.if_icmp .ge 61, 3) := by decide +kernel
theorem dX10_doorNearer_26 : decode cX10_doorNearer 26 = .ok (.aload_n 0, 1) := by decide +kernel
theorem dX10_doorNearer_27 : decode cX10_doorNearer 27 = .ok (.getfield 21, 3) := by decide +kernel
theorem dX10_doorNearer_30 : decode cX10_doorNearer 30 = .ok (.iload 4, 2) := by decide +kernel
theorem dX10_doorNearer_32 : decode cX10_doorNearer 32 = .ok (.iload_n 3, 1) := by decide +kernel
theorem dX10_doorNearer_33 : decode cX10_doorNearer 33 = .ok (.invokevirtual 65, 3) := by decide +kernel
theorem dX10_doorNearer_36 : decode cX10_doorNearer 36 = .ok (.ifCond .eq 42, 3) := by decide +kernel
theorem dX10_doorNearer_39 : decode cX10_doorNearer 39 = .ok (.aload_n 1, 1) := by decide +kernel
theorem dX10_doorNearer_40 : decode cX10_doorNearer 40 = .ok (.iload_n 2, 1) := by decide +kernel
theorem dX10_doorNearer_41 : decode cX10_doorNearer 41 = .ok (.iload 4, 2) := by decide +kernel
theorem dX10_doorNearer_43 : decode cX10_doorNearer 43 = .ok (.invokevirtual 51, 3) := by decide +kernel
theorem dX10_doorNearer_46 : decode cX10_doorNearer 46 = .ok (.ifCond .eq 32, 3) := by decide +kernel
theorem dX10_doorNearer_49 : decode cX10_doorNearer 49 = .ok (.aload_n 0, 1) := by decide +kernel
theorem dX10_doorNearer_50 : decode cX10_doorNearer 50 = .ok (.getfield 9, 3) := by decide +kernel
theorem dX10_doorNearer_53 : decode cX10_doorNearer 53 = .ok (.aload_n 0, 1) := by decide +kernel
theorem dX10_doorNearer_54 : decode cX10_doorNearer 54 = .ok (.getfield 21, 3) := by decide +kernel
theorem dX10_doorNearer_57 : decode cX10_doorNearer 57 = .ok (.iload 4, 2) := by decide +kernel
theorem dX10_doorNearer_59 : decode cX10_doorNearer 59 = .ok (.iload_n 3, 1) := by decide +kernel
theorem dX10_doorNearer_60 : decode cX10_doorNearer 60 = .ok (.invokevirtual 38, 3) := by decide +kernel
theorem dX10_doorNearer_63 : decode cX10_doorNearer 63 = .ok (.iaload, 1) := by decide +kernel
theorem dX10_doorNearer_64 : decode cX10_doorNearer 64 = .ok (.aload_n 0, 1) := by decide +kernel
theorem dX10_doorNearer_65 : decode cX10_doorNearer 65 = .ok (.getfield 9, 3) := by decide +kernel
theorem dX10_doorNearer_68 : decode cX10_doorNearer 68 = .ok (.iload_n 3, 1) := by decide +kernel
theorem dX10_doorNearer_69 : decode cX10_doorNearer 69 = .ok (.iaload, 1) := by decide +kernel
theorem dX10_doorNearer_70 : decode cX10_doorNearer 70 = .ok (.iconst 1, 1) := by decide +kernel
theorem dX10_doorNearer_71 : decode cX10_doorNearer 71 = .ok (.isub, 1) := by decide +kernel
theorem dX10_doorNearer_72 : decode cX10_doorNearer 72 = .ok (.if_icmp .ne 6, 3) := by decide +kernel
theorem dX10_doorNearer_75 : decode cX10_doorNearer 75 = .ok (.iload 4, 2) := by decide +kernel
theorem dX10_doorNearer_77 : decode cX10_doorNearer 77 = .ok (.ireturn, 1) := by decide +kernel
theorem dX10_doorNearer_78 : decode cX10_doorNearer 78 = .ok (.iinc 4 1, 3) := by decide +kernel
theorem dX10_doorNearer_81 : decode cX10_doorNearer 81 = .ok (.goto (-67), 3) := by decide +kernel
theorem dX10_doorNearer_84 : decode cX10_doorNearer 84 = .ok (.iconst (-1), 1) := by decide +kernel
theorem dX10_doorNearer_85 : decode cX10_doorNearer 85 = .ok (.ireturn, 1) := by decide +kernel
theorem dX10_wayDoor_0 : decode cX10_wayDoor 0 = .ok (.aload_n 0, 1) := by decide +kernel
theorem dX10_wayDoor_1 : decode cX10_wayDoor 1 = .ok (.aload_n 1, 1) := by decide +kernel
theorem dX10_wayDoor_2 : decode cX10_wayDoor 2 = .ok (.iload_n 2, 1) := by decide +kernel
theorem dX10_wayDoor_3 : decode cX10_wayDoor 3 = .ok (.iload_n 3, 1) := by decide +kernel
theorem dX10_wayDoor_4 : decode cX10_wayDoor 4 = .ok (.invokevirtual 25, 3) := by decide +kernel
theorem dX10_wayDoor_7 : decode cX10_wayDoor 7 = .ok (.aload_n 1, 1) := by decide +kernel
theorem dX10_wayDoor_8 : decode cX10_wayDoor 8 = .ok (.getfield 29, 3) := by decide +kernel
theorem dX10_wayDoor_11 : decode cX10_wayDoor 11 = .ok (.iload_n 2, 1) := by decide +kernel
theorem dX10_wayDoor_12 : decode cX10_wayDoor 12 = .ok (.iaload, 1) := by decide +kernel
theorem dX10_wayDoor_13 : decode cX10_wayDoor 13 = .ok (.istore 5, 2) := by decide +kernel
theorem dX10_wayDoor_15 : decode cX10_wayDoor 15 = .ok (.iconst (-1), 1) := by decide +kernel
theorem dX10_wayDoor_16 : decode cX10_wayDoor 16 = .ok (.istore 6, 2) := by decide +kernel
theorem dX10_wayDoor_18 : decode cX10_wayDoor 18 = .ok (.iconst 0, 1) := by decide +kernel
theorem dX10_wayDoor_19 : decode cX10_wayDoor 19 = .ok (.istore 7, 2) := by decide +kernel
theorem dX10_wayDoor_21 : decode cX10_wayDoor 21 = .ok (.iload 7, 2) := by decide +kernel
theorem dX10_wayDoor_23 : decode cX10_wayDoor 23 = .ok (.iload 4, 2) := by decide +kernel
theorem dX10_wayDoor_25 : decode cX10_wayDoor 25 = .ok (.if_icmp .gt 40, 3) := by decide +kernel
theorem dX10_wayDoor_28 : decode cX10_wayDoor 28 = .ok (.aload_n 0, 1) := by decide +kernel
theorem dX10_wayDoor_29 : decode cX10_wayDoor 29 = .ok (.aload_n 1, 1) := by decide +kernel
theorem dX10_wayDoor_30 : decode cX10_wayDoor 30 = .ok (.iload_n 2, 1) := by decide +kernel
theorem dX10_wayDoor_31 : decode cX10_wayDoor 31 = .ok (.iload 5, 2) := by decide +kernel
theorem dX10_wayDoor_33 : decode cX10_wayDoor 33 = .ok (.invokevirtual 34, 3) := by decide +kernel
theorem dX10_wayDoor_36 : decode cX10_wayDoor 36 = .ok (.istore 6, 2) := by decide +kernel
theorem dX10_wayDoor_38 : decode cX10_wayDoor 38 = .ok (.iload 6, 2) := by decide +kernel
theorem dX10_wayDoor_40 : decode cX10_wayDoor 40 = .ok (.iconst (-1), 1) := by decide +kernel
theorem dX10_wayDoor_41 : decode cX10_wayDoor 41 = .ok (.if_icmp .ne 5, 3) := by decide +kernel
theorem dX10_wayDoor_44 : decode cX10_wayDoor 44 = .ok (.iconst (-1), 1) := by decide +kernel
theorem dX10_wayDoor_45 : decode cX10_wayDoor 45 = .ok (.ireturn, 1) := by decide +kernel
theorem dX10_wayDoor_46 : decode cX10_wayDoor 46 = .ok (.aload_n 0, 1) := by decide +kernel
theorem dX10_wayDoor_47 : decode cX10_wayDoor 47 = .ok (.getfield 21, 3) := by decide +kernel
theorem dX10_wayDoor_50 : decode cX10_wayDoor 50 = .ok (.iload 6, 2) := by decide +kernel
theorem dX10_wayDoor_52 : decode cX10_wayDoor 52 = .ok (.iload 5, 2) := by decide +kernel
theorem dX10_wayDoor_54 : decode cX10_wayDoor 54 = .ok (.invokevirtual 38, 3) := by decide +kernel
theorem dX10_wayDoor_57 : decode cX10_wayDoor 57 = .ok (.istore 5, 2) := by decide +kernel
theorem dX10_wayDoor_59 : decode cX10_wayDoor 59 = .ok (.iinc 7 1, 3) := by decide +kernel
theorem dX10_wayDoor_62 : decode cX10_wayDoor 62 = .ok (.goto (-41), 3) := by decide +kernel
theorem dX10_wayDoor_65 : decode cX10_wayDoor 65 = .ok (.iload 6, 2) := by decide +kernel
theorem dX10_wayDoor_67 : decode cX10_wayDoor 67 = .ok (.ireturn, 1) := by decide +kernel
theorem dX11_way_0 : decode cX11_way 0 = .ok (.aload_n 0, 1) := by decide +kernel
theorem dX11_way_1 : decode cX11_way 1 = .ok (.iload_n 1, 1) := by decide +kernel
theorem dX11_way_2 : decode cX11_way 2 = .ok (.invokevirtual 93, 3) := by decide +kernel
theorem dX11_way_5 : decode cX11_way 5 = .ok (.ifCond .ne 11, 3) := by decide +kernel
theorem dX11_way_8 : decode cX11_way 8 = .ok (.aload_n 0, 1) := by decide +kernel
theorem dX11_way_9 : decode cX11_way 9 = .ok (.iload_n 2, 1) := by decide +kernel
theorem dX11_way_10 : decode cX11_way 10 = .ok (.invokevirtual 190, 3) := by decide +kernel
theorem dX11_way_13 : decode cX11_way 13 = .ok (.ifCond .eq 6, 3) := by decide +kernel
theorem dX11_way_16 : decode cX11_way 16 = .ok (.bipush (-101), 2) := by decide +kernel
theorem dX11_way_18 : decode cX11_way 18 = .ok (.ireturn, 1) := by decide +kernel
theorem dX11_way_19 : decode cX11_way 19 = .ok (.iload_n 3, 1) := by decide +kernel
theorem dX11_way_20 : decode cX11_way 20 = .ok (.ifCond .ne 17, 3) := by decide +kernel
theorem dX11_way_23 : decode cX11_way 23 = .ok (.aload_n 0, 1) := by decide +kernel
theorem dX11_way_24 : decode cX11_way 24 = .ok (.getfield 41, 3) := by decide +kernel
theorem dX11_way_27 : decode cX11_way 27 = .ok (.aload_n 0, 1) := by decide +kernel
theorem dX11_way_28 : decode cX11_way 28 = .ok (.getfield 28, 3) := by decide +kernel
theorem dX11_way_31 : decode cX11_way 31 = .ok (.iload_n 1, 1) := by decide +kernel
theorem dX11_way_32 : decode cX11_way 32 = .ok (.iload_n 2, 1) := by decide +kernel
theorem dX11_way_33 : decode cX11_way 33 = .ok (.invokevirtual 193, 3) := by decide +kernel
theorem dX11_way_36 : decode cX11_way 36 = .ok (.ireturn, 1) := by decide +kernel
theorem dX11_way_37 : decode cX11_way 37 = .ok (.iload_n 3, 1) := by decide +kernel
theorem dX11_way_38 : decode cX11_way 38 = .ok (.bipush 10, 2) := by decide +kernel
theorem dX11_way_40 : decode cX11_way 40 = .ok (.if_icmp .lt 9, 3) := by decide +kernel
theorem dX11_way_43 : decode cX11_way 43 = .ok (.iload_n 3, 1) := by decide +kernel
theorem dX11_way_44 : decode cX11_way 44 = .ok (.bipush 14, 2) := by decide +kernel
theorem dX11_way_46 : decode cX11_way 46 = .ok (.if_icmp .le 6, 3) := by decide +kernel
theorem dX11_way_49 : decode cX11_way 49 = .ok (.bipush (-102), 2) := by decide +kernel
theorem dX11_way_51 : decode cX11_way 51 = .ok (.ireturn, 1) := by decide +kernel
theorem dX11_way_52 : decode cX11_way 52 = .ok (.aload_n 0, 1) := by decide +kernel
theorem dX11_way_53 : decode cX11_way 53 = .ok (.getfield 41, 3) := by decide +kernel
theorem dX11_way_56 : decode cX11_way 56 = .ok (.aload_n 0, 1) := by decide +kernel
theorem dX11_way_57 : decode cX11_way 57 = .ok (.getfield 28, 3) := by decide +kernel
theorem dX11_way_60 : decode cX11_way 60 = .ok (.iload_n 1, 1) := by decide +kernel
theorem dX11_way_61 : decode cX11_way 61 = .ok (.iload_n 2, 1) := by decide +kernel
theorem dX11_way_62 : decode cX11_way 62 = .ok (.iload_n 3, 1) := by decide +kernel
theorem dX11_way_63 : decode cX11_way 63 = .ok (.bipush 10, 2) := by decide +kernel
theorem dX11_way_65 : decode cX11_way 65 = .ok (.isub, 1) := by decide +kernel
theorem dX11_way_66 : decode cX11_way 66 = .ok (.invokevirtual 197, 3) := by decide +kernel
theorem dX11_way_69 : decode cX11_way 69 = .ok (.ireturn, 1) := by decide +kernel
theorem dX0_takeOver_0 : decode cX0_takeOver 0 = .ok (.iconst 0, 1) := by decide +kernel
theorem dX0_takeOver_1 : decode cX0_takeOver 1 = .ok (.istore_n 2, 1) := by decide +kernel
theorem dX0_takeOver_2 : decode cX0_takeOver 2 = .ok (.iload_n 2, 1) := by decide +kernel
theorem dX0_takeOver_3 : decode cX0_takeOver 3 = .ok (.iconst 4, 1) := by decide +kernel
theorem dX0_takeOver_4 : decode cX0_takeOver 4 = .ok (.if_icmp .ge 33, 3) := by decide +kernel
theorem dX0_takeOver_7 : decode cX0_takeOver 7 = .ok (.aload_n 0, 1) := by decide +kernel
theorem dX0_takeOver_8 : decode cX0_takeOver 8 = .ok (.getfield 9, 3) := by decide +kernel
theorem dX0_takeOver_11 : decode cX0_takeOver 11 = .ok (.iload_n 2, 1) := by decide +kernel
theorem dX0_takeOver_12 : decode cX0_takeOver 12 = .ok (.aload_n 1, 1) := by decide +kernel
theorem dX0_takeOver_13 : decode cX0_takeOver 13 = .ok (.getfield 9, 3) := by decide +kernel
theorem dX0_takeOver_16 : decode cX0_takeOver 16 = .ok (.iload_n 2, 1) := by decide +kernel
theorem dX0_takeOver_17 : decode cX0_takeOver 17 = .ok (.iaload, 1) := by decide +kernel
theorem dX0_takeOver_18 : decode cX0_takeOver 18 = .ok (.iastore, 1) := by decide +kernel
theorem dX0_takeOver_19 : decode cX0_takeOver 19 = .ok (.aload_n 0, 1) := by decide +kernel
theorem dX0_takeOver_20 : decode cX0_takeOver 20 = .ok (.getfield 15, 3) := by decide +kernel
theorem dX0_takeOver_23 : decode cX0_takeOver 23 = .ok (.iload_n 2, 1) := by decide +kernel
theorem dX0_takeOver_24 : decode cX0_takeOver 24 = .ok (.aload_n 1, 1) := by decide +kernel
theorem dX0_takeOver_25 : decode cX0_takeOver 25 = .ok (.getfield 15, 3) := by decide +kernel
theorem dX0_takeOver_28 : decode cX0_takeOver 28 = .ok (.iload_n 2, 1) := by decide +kernel
theorem dX0_takeOver_29 : decode cX0_takeOver 29 = .ok (.iaload, 1) := by decide +kernel
theorem dX0_takeOver_30 : decode cX0_takeOver 30 = .ok (.iastore, 1) := by decide +kernel
theorem dX0_takeOver_31 : decode cX0_takeOver 31 = .ok (.iinc 2 1, 3) := by decide +kernel
theorem dX0_takeOver_34 : decode cX0_takeOver 34 = .ok (.goto (-32), 3) := by decide +kernel
theorem dX0_takeOver_37 : decode cX0_takeOver 37 = .ok (.iconst 0, 1) := by decide +kernel
theorem dX0_takeOver_38 : decode cX0_takeOver 38 = .ok (.istore_n 2, 1) := by decide +kernel
theorem dX0_takeOver_39 : decode cX0_takeOver 39 = .ok (.iload_n 2, 1) := by decide +kernel
theorem dX0_takeOver_40 : decode cX0_takeOver 40 = .ok (.iconst 2, 1) := by decide +kernel
theorem dX0_takeOver_41 : decode cX0_takeOver 41 = .ok (.if_icmp .ge 21, 3) := by decide +kernel
theorem dX0_takeOver_44 : decode cX0_takeOver 44 = .ok (.aload_n 0, 1) := by decide +kernel
end
section
theorem dX0_takeOver_45 : decode cX0_takeOver 45 = .ok (.getfield 18, 3) := by decide +kernel
theorem dX0_takeOver_48 : decode cX0_takeOver 48 = .ok (.iload_n 2, 1) := by decide +kernel
theorem dX0_takeOver_49 : decode cX0_takeOver 49 = .ok (.aload_n 1, 1) := by decide +kernel
theorem dX0_takeOver_50 : decode cX0_takeOver 50 = .ok (.getfield 18, 3) := by decide +kernel
theorem dX0_takeOver_53 : decode cX0_takeOver 53 = .ok (.iload_n 2, 1) := by decide +kernel
theorem dX0_takeOver_54 : decode cX0_takeOver 54 = .ok (.iaload, 1) := by decide +kernel
theorem dX0_takeOver_55 : decode cX0_takeOver 55 = .ok (.iastore, 1) := by decide +kernel
theorem dX0_takeOver_56 : decode cX0_takeOver 56 = .ok (.iinc 2 1, 3) := by decide +kernel
theorem dX0_takeOver_59 : decode cX0_takeOver 59 = .ok (.goto (-20), 3) := by decide +kernel
theorem dX0_takeOver_62 : decode cX0_takeOver 62 = .ok (.iconst 0, 1) := by decide +kernel
theorem dX0_takeOver_63 : decode cX0_takeOver 63 = .ok (.istore_n 2, 1) := by decide +kernel
theorem dX0_takeOver_64 : decode cX0_takeOver 64 = .ok (.iload_n 2, 1) := by decide +kernel
theorem dX0_takeOver_65 : decode cX0_takeOver 65 = .ok (.iconst 4, 1) := by decide +kernel
theorem dX0_takeOver_66 : decode cX0_takeOver 66 = .ok (.if_icmp .ge 33, 3) := by decide +kernel
theorem dX0_takeOver_69 : decode cX0_takeOver 69 = .ok (.aload_n 0, 1) := by decide +kernel
theorem dX0_takeOver_70 : decode cX0_takeOver 70 = .ok (.getfield 21, 3) := by decide +kernel
theorem dX0_takeOver_73 : decode cX0_takeOver 73 = .ok (.iload_n 2, 1) := by decide +kernel
theorem dX0_takeOver_74 : decode cX0_takeOver 74 = .ok (.aload_n 1, 1) := by decide +kernel
theorem dX0_takeOver_75 : decode cX0_takeOver 75 = .ok (.getfield 21, 3) := by decide +kernel
theorem dX0_takeOver_78 : decode cX0_takeOver 78 = .ok (.iload_n 2, 1) := by decide +kernel
theorem dX0_takeOver_79 : decode cX0_takeOver 79 = .ok (.iaload, 1) := by decide +kernel
theorem dX0_takeOver_80 : decode cX0_takeOver 80 = .ok (.iastore, 1) := by decide +kernel
theorem dX0_takeOver_81 : decode cX0_takeOver 81 = .ok (.aload_n 0, 1) := by decide +kernel
theorem dX0_takeOver_82 : decode cX0_takeOver 82 = .ok (.getfield 24, 3) := by decide +kernel
theorem dX0_takeOver_85 : decode cX0_takeOver 85 = .ok (.iload_n 2, 1) := by decide +kernel
theorem dX0_takeOver_86 : decode cX0_takeOver 86 = .ok (.aload_n 1, 1) := by decide +kernel
theorem dX0_takeOver_87 : decode cX0_takeOver 87 = .ok (.getfield 24, 3) := by decide +kernel
theorem dX0_takeOver_90 : decode cX0_takeOver 90 = .ok (.iload_n 2, 1) := by decide +kernel
theorem dX0_takeOver_91 : decode cX0_takeOver 91 = .ok (.baload, 1) := by decide +kernel
theorem dX0_takeOver_92 : decode cX0_takeOver 92 = .ok (.bastore, 1) := by decide +kernel
theorem dX0_takeOver_93 : decode cX0_takeOver 93 = .ok (.iinc 2 1, 3) := by decide +kernel
theorem dX0_takeOver_96 : decode cX0_takeOver 96 = .ok (.goto (-32), 3) := by decide +kernel
theorem dX0_takeOver_99 : decode cX0_takeOver 99 = .ok (.iconst 0, 1) := by decide +kernel
theorem dX0_takeOver_100 : decode cX0_takeOver 100 = .ok (.istore_n 2, 1) := by decide +kernel
theorem dX0_takeOver_101 : decode cX0_takeOver 101 = .ok (.iload_n 2, 1) := by decide +kernel
theorem dX0_takeOver_102 : decode cX0_takeOver 102 = .ok (.bipush 6, 2) := by decide +kernel
theorem dX0_takeOver_104 : decode cX0_takeOver 104 = .ok (.if_icmp .ge 33, 3) := by decide +kernel
theorem dX0_takeOver_107 : decode cX0_takeOver 107 = .ok (.aload_n 0, 1) := by decide +kernel
theorem dX0_takeOver_108 : decode cX0_takeOver 108 = .ok (.getfield 28, 3) := by decide +kernel
theorem dX0_takeOver_111 : decode cX0_takeOver 111 = .ok (.iload_n 2, 1) := by decide +kernel
theorem dX0_takeOver_112 : decode cX0_takeOver 112 = .ok (.aload_n 1, 1) := by decide +kernel
theorem dX0_takeOver_113 : decode cX0_takeOver 113 = .ok (.getfield 28, 3) := by decide +kernel
theorem dX0_takeOver_116 : decode cX0_takeOver 116 = .ok (.iload_n 2, 1) := by decide +kernel
theorem dX0_takeOver_117 : decode cX0_takeOver 117 = .ok (.iaload, 1) := by decide +kernel
theorem dX0_takeOver_118 : decode cX0_takeOver 118 = .ok (.iastore, 1) := by decide +kernel
theorem dX0_takeOver_119 : decode cX0_takeOver 119 = .ok (.aload_n 0, 1) := by decide +kernel
theorem dX0_takeOver_120 : decode cX0_takeOver 120 = .ok (.getfield 31, 3) := by decide +kernel
theorem dX0_takeOver_123 : decode cX0_takeOver 123 = .ok (.iload_n 2, 1) := by decide +kernel
theorem dX0_takeOver_124 : decode cX0_takeOver 124 = .ok (.aload_n 1, 1) := by decide +kernel
theorem dX0_takeOver_125 : decode cX0_takeOver 125 = .ok (.getfield 31, 3) := by decide +kernel
theorem dX0_takeOver_128 : decode cX0_takeOver 128 = .ok (.iload_n 2, 1) := by decide +kernel
theorem dX0_takeOver_129 : decode cX0_takeOver 129 = .ok (.baload, 1) := by decide +kernel
theorem dX0_takeOver_130 : decode cX0_takeOver 130 = .ok (.bastore, 1) := by decide +kernel
theorem dX0_takeOver_131 : decode cX0_takeOver 131 = .ok (.iinc 2 1, 3) := by decide +kernel
theorem dX0_takeOver_134 : decode cX0_takeOver 134 = .ok (.goto (-33), 3) := by decide +kernel
theorem dX0_takeOver_137 : decode cX0_takeOver 137 = .ok (.aload_n 0, 1) := by decide +kernel
theorem dX0_takeOver_138 : decode cX0_takeOver 138 = .ok (.aload_n 1, 1) := by decide +kernel
theorem dX0_takeOver_139 : decode cX0_takeOver 139 = .ok (.getfield 38, 3) := by decide +kernel
theorem dX0_takeOver_142 : decode cX0_takeOver 142 = .ok (.putfield 38, 3) := by decide +kernel
theorem dX0_takeOver_145 : decode cX0_takeOver 145 = .ok (.aload_n 0, 1) := by decide +kernel
theorem dX0_takeOver_146 : decode cX0_takeOver 146 = .ok (.aload_n 1, 1) := by decide +kernel
theorem dX0_takeOver_147 : decode cX0_takeOver 147 = .ok (.getfield 42, 3) := by decide +kernel
theorem dX0_takeOver_150 : decode cX0_takeOver 150 = .ok (.putfield 42, 3) := by decide +kernel
theorem dX0_takeOver_153 : decode cX0_takeOver 153 = .ok (.return_, 1) := by decide +kernel
theorem dX0_payAll_0 : decode cX0_payAll 0 = .ok (.iconst 0, 1) := by decide +kernel
theorem dX0_payAll_1 : decode cX0_payAll 1 = .ok (.istore_n 3, 1) := by decide +kernel
theorem dX0_payAll_2 : decode cX0_payAll 2 = .ok (.iconst 0, 1) := by decide +kernel
theorem dX0_payAll_3 : decode cX0_payAll 3 = .ok (.istore 4, 2) := by decide +kernel
theorem dX0_payAll_5 : decode cX0_payAll 5 = .ok (.iload 4, 2) := by decide +kernel
theorem dX0_payAll_7 : decode cX0_payAll 7 = .ok (.aload_n 0, 1) := by decide +kernel
theorem dX0_payAll_8 : decode cX0_payAll 8 = .ok (.getfield 34, 3) := by decide +kernel
theorem dX0_payAll_11 : decode cX0_payAll 11 = .ok (.getfield 95, 3) := by decide +kernel
theorem dX0_payAll_14 : decode cX0_payAll 14 = .ok (.if_icmp .ge 83, 3) := by decide +kernel
theorem dX0_payAll_17 : decode cX0_payAll 17 = .ok (.iload_n 2, 1) := by decide +kernel
theorem dX0_payAll_18 : decode cX0_payAll 18 = .ok (.ifCond .eq 22, 3) := by decide +kernel
theorem dX0_payAll_21 : decode cX0_payAll 21 = .ok (.aload_n 0, 1) := by decide +kernel
theorem dX0_payAll_22 : decode cX0_payAll 22 = .ok (.getfield 34, 3) := by decide +kernel
theorem dX0_payAll_25 : decode cX0_payAll 25 = .ok (.getfield 81, 3) := by decide +kernel
theorem dX0_payAll_28 : decode cX0_payAll 28 = .ok (.iload 4, 2) := by decide +kernel
theorem dX0_payAll_30 : decode cX0_payAll 30 = .ok (.iaload, 1) := by decide +kernel
theorem dX0_payAll_31 : decode cX0_payAll 31 = .ok (.aload_n 0, 1) := by decide +kernel
theorem dX0_payAll_32 : decode cX0_payAll 32 = .ok (.getfield 15, 3) := by decide +kernel
theorem dX0_payAll_35 : decode cX0_payAll 35 = .ok (.iload_n 1, 1) := by decide +kernel
theorem dX0_payAll_36 : decode cX0_payAll 36 = .ok (.iaload, 1) := by decide +kernel
theorem dX0_payAll_37 : decode cX0_payAll 37 = .ok (.if_icmp .ne 7, 3) := by decide +kernel
theorem dX0_payAll_40 : decode cX0_payAll 40 = .ok (.iconst 1, 1) := by decide +kernel
theorem dX0_payAll_41 : decode cX0_payAll 41 = .ok (.goto 4, 3) := by decide +kernel
theorem dX0_payAll_44 : decode cX0_payAll 44 = .ok (.iconst 0, 1) := by decide +kernel
theorem dX0_payAll_45 : decode cX0_payAll 45 = .ok (.istore 5, 2) := by decide +kernel
theorem dX0_payAll_47 : decode cX0_payAll 47 = .ok (.iload 5, 2) := by decide +kernel
theorem dX0_payAll_49 : decode cX0_payAll 49 = .ok (.ifCond .eq 42, 3) := by decide +kernel
theorem dX0_payAll_52 : decode cX0_payAll 52 = .ok (.aload_n 0, 1) := by decide +kernel
theorem dX0_payAll_53 : decode cX0_payAll 53 = .ok (.getfield 34, 3) := by decide +kernel
theorem dX0_payAll_56 : decode cX0_payAll 56 = .ok (.getfield 71, 3) := by decide +kernel
theorem dX0_payAll_59 : decode cX0_payAll 59 = .ok (.iload 4, 2) := by decide +kernel
theorem dX0_payAll_61 : decode cX0_payAll 61 = .ok (.iaload, 1) := by decide +kernel
theorem dX0_payAll_62 : decode cX0_payAll 62 = .ok (.iload_n 1, 1) := by decide +kernel
theorem dX0_payAll_63 : decode cX0_payAll 63 = .ok (.if_icmp .ne 28, 3) := by decide +kernel
theorem dX0_payAll_66 : decode cX0_payAll 66 = .ok (.aload_n 0, 1) := by decide +kernel
theorem dX0_payAll_67 : decode cX0_payAll 67 = .ok (.iload 4, 2) := by decide +kernel
theorem dX0_payAll_69 : decode cX0_payAll 69 = .ok (.invokevirtual 98, 3) := by decide +kernel
theorem dX0_payAll_72 : decode cX0_payAll 72 = .ok (.ifCond .eq 19, 3) := by decide +kernel
theorem dX0_payAll_75 : decode cX0_payAll 75 = .ok (.aload_n 0, 1) := by decide +kernel
theorem dX0_payAll_76 : decode cX0_payAll 76 = .ok (.iload 4, 2) := by decide +kernel
theorem dX0_payAll_78 : decode cX0_payAll 78 = .ok (.invokevirtual 102, 3) := by decide +kernel
theorem dX0_payAll_81 : decode cX0_payAll 81 = .ok (.iload_n 3, 1) := by decide +kernel
theorem dX0_payAll_82 : decode cX0_payAll 82 = .ok (.aload_n 0, 1) := by decide +kernel
theorem dX0_payAll_83 : decode cX0_payAll 83 = .ok (.getfield 21, 3) := by decide +kernel
theorem dX0_payAll_86 : decode cX0_payAll 86 = .ok (.iload 4, 2) := by decide +kernel
theorem dX0_payAll_88 : decode cX0_payAll 88 = .ok (.iaload, 1) := by decide +kernel
theorem dX0_payAll_89 : decode cX0_payAll 89 = .ok (.iadd, 1) := by decide +kernel
theorem dX0_payAll_90 : decode cX0_payAll 90 = .ok (.istore_n 3, 1) := by decide +kernel
theorem dX0_payAll_91 : decode cX0_payAll 91 = .ok (.iinc 4 1, 3) := by decide +kernel
theorem dX0_payAll_94 : decode cX0_payAll 94 = .ok (.goto (-89), 3) := by decide +kernel
theorem dX0_payAll_97 : decode cX0_payAll 97 = .ok (.iload_n 3, 1) := by decide +kernel
theorem dX0_payAll_98 : decode cX0_payAll 98 = .ok (.ireturn, 1) := by decide +kernel
theorem dX5_keepIfMore_0 : decode cX5_keepIfMore 0 = .ok (.iload_n 1, 1) := by decide +kernel
theorem dX5_keepIfMore_1 : decode cX5_keepIfMore 1 = .ok (.aload_n 0, 1) := by decide +kernel
theorem dX5_keepIfMore_2 : decode cX5_keepIfMore 2 = .ok (.getfield 31, 3) := by decide +kernel
theorem dX5_keepIfMore_5 : decode cX5_keepIfMore 5 = .ok (.if_icmp .le 33, 3) := by decide +kernel
theorem dX5_keepIfMore_8 : decode cX5_keepIfMore 8 = .ok (.aload_n 0, 1) := by decide +kernel
theorem dX5_keepIfMore_9 : decode cX5_keepIfMore 9 = .ok (.iload_n 1, 1) := by decide +kernel
theorem dX5_keepIfMore_10 : decode cX5_keepIfMore 10 = .ok (.putfield 31, 3) := by decide +kernel
theorem dX5_keepIfMore_13 : decode cX5_keepIfMore 13 = .ok (.iconst 0, 1) := by decide +kernel
theorem dX5_keepIfMore_14 : decode cX5_keepIfMore 14 = .ok (.istore_n 2, 1) := by decide +kernel
theorem dX5_keepIfMore_15 : decode cX5_keepIfMore 15 = .ok (.iload_n 2, 1) := by decide +kernel
theorem dX5_keepIfMore_16 : decode cX5_keepIfMore 16 = .ok (.iconst 4, 1) := by decide +kernel
theorem dX5_keepIfMore_17 : decode cX5_keepIfMore 17 = .ok (.if_icmp .ge 21, 3) := by decide +kernel
theorem dX5_keepIfMore_20 : decode cX5_keepIfMore 20 = .ok (.aload_n 0, 1) := by decide +kernel
theorem dX5_keepIfMore_21 : decode cX5_keepIfMore 21 = .ok (.getfield 21, 3) := by decide +kernel
theorem dX5_keepIfMore_24 : decode cX5_keepIfMore 24 = .ok (.iload_n 2, 1) := by decide +kernel
theorem dX5_keepIfMore_25 : decode cX5_keepIfMore 25 = .ok (.aload_n 0, 1) := by decide +kernel
theorem dX5_keepIfMore_26 : decode cX5_keepIfMore 26 = .ok (.getfield 17, 3) := by decide +kernel
theorem dX5_keepIfMore_29 : decode cX5_keepIfMore 29 = .ok (.iload_n 2, 1) := by decide +kernel
theorem dX5_keepIfMore_30 : decode cX5_keepIfMore 30 = .ok (.iaload, 1) := by decide +kernel
theorem dX5_keepIfMore_31 : decode cX5_keepIfMore 31 = .ok (.iastore, 1) := by decide +kernel
theorem dX5_keepIfMore_32 : decode cX5_keepIfMore 32 = .ok (.iinc 2 1, 3) := by decide +kernel
theorem dX5_keepIfMore_35 : decode cX5_keepIfMore 35 = .ok (.goto (-20), 3) := by decide +kernel
theorem dX5_keepIfMore_38 : decode cX5_keepIfMore 38 = .ok (.return_, 1) := by decide +kernel
theorem dX5_goOn_0 : decode cX5_goOn 0 = .ok (.iload_n 3, 1) := by decide +kernel
theorem dX5_goOn_1 : decode cX5_goOn 1 = .ok (.iconst 4, 1) := by decide +kernel
theorem dX5_goOn_2 : decode cX5_goOn 2 = .ok (.if_icmp .le 4, 3) := by decide +kernel
theorem dX5_goOn_5 : decode cX5_goOn 5 = .ok (.return_, 1) := by decide +kernel
theorem dX5_goOn_6 : decode cX5_goOn 6 = .ok (.aload_n 0, 1) := by decide +kernel
theorem dX5_goOn_7 : decode cX5_goOn 7 = .ok (.getfield 11, 3) := by decide +kernel
theorem dX5_goOn_10 : decode cX5_goOn 10 = .ok (.iload_n 3, 1) := by decide +kernel
theorem dX5_goOn_11 : decode cX5_goOn 11 = .ok (.aaload, 1) := by decide +kernel
theorem dX5_goOn_12 : decode cX5_goOn 12 = .ok (.astore 5, 2) := by decide +kernel
theorem dX5_goOn_14 : decode cX5_goOn 14 = .ok (.iload 4, 2) := by decide +kernel
theorem dX5_goOn_16 : decode cX5_goOn 16 = .ok (.aload 5, 2) := by decide +kernel
theorem dX5_goOn_18 : decode cX5_goOn 18 = .ok (.iload_n 1, 1) := by decide +kernel
theorem dX5_goOn_19 : decode cX5_goOn 19 = .ok (.iconst 1, 1) := by decide +kernel
theorem dX5_goOn_20 : decode cX5_goOn 20 = .ok (.invokevirtual 43, 3) := by decide +kernel
theorem dX5_goOn_23 : decode cX5_goOn 23 = .ok (.iadd, 1) := by decide +kernel
theorem dX5_goOn_24 : decode cX5_goOn 24 = .ok (.istore 6, 2) := by decide +kernel
theorem dX5_goOn_26 : decode cX5_goOn 26 = .ok (.iload_n 3, 1) := by decide +kernel
theorem dX5_goOn_27 : decode cX5_goOn 27 = .ok (.iload_n 2, 1) := by decide +kernel
theorem dX5_goOn_28 : decode cX5_goOn 28 = .ok (.if_icmp .ge 8, 3) := by decide +kernel
theorem dX5_goOn_31 : decode cX5_goOn 31 = .ok (.iload_n 3, 1) := by decide +kernel
theorem dX5_goOn_32 : decode cX5_goOn 32 = .ok (.iconst 4, 1) := by decide +kernel
theorem dX5_goOn_33 : decode cX5_goOn 33 = .ok (.if_icmp .lt 10, 3) := by decide +kernel
theorem dX5_goOn_36 : decode cX5_goOn 36 = .ok (.aload_n 0, 1) := by decide +kernel
theorem dX5_goOn_37 : decode cX5_goOn 37 = .ok (.iload 6, 2) := by decide +kernel
theorem dX5_goOn_39 : decode cX5_goOn 39 = .ok (.invokevirtual 47, 3) := by decide +kernel
theorem dX5_goOn_42 : decode cX5_goOn 42 = .ok (.return_, 1) := by decide +kernel
theorem dX5_goOn_43 : decode cX5_goOn 43 = .ok (.aload_n 0, 1) := by decide +kernel
theorem dX5_goOn_44 : decode cX5_goOn 44 = .ok (.getfield 11, 3) := by decide +kernel
theorem dX5_goOn_47 : decode cX5_goOn 47 = .ok (.iload_n 3, 1) := by decide +kernel
theorem dX5_goOn_48 : decode cX5_goOn 48 = .ok (.iconst 1, 1) := by decide +kernel
theorem dX5_goOn_49 : decode cX5_goOn 49 = .ok (.iadd, 1) := by decide +kernel
theorem dX5_goOn_50 : decode cX5_goOn 50 = .ok (.aaload, 1) := by decide +kernel
theorem dX5_goOn_51 : decode cX5_goOn 51 = .ok (.astore 7, 2) := by decide +kernel
theorem dX5_goOn_53 : decode cX5_goOn 53 = .ok (.iconst 0, 1) := by decide +kernel
theorem dX5_goOn_54 : decode cX5_goOn 54 = .ok (.istore 8, 2) := by decide +kernel
theorem dX5_goOn_56 : decode cX5_goOn 56 = .ok (.iload 8, 2) := by decide +kernel
theorem dX5_goOn_58 : decode cX5_goOn 58 = .ok (.aload_n 0, 1) := by decide +kernel
theorem dX5_goOn_59 : decode cX5_goOn 59 = .ok (.getfield 24, 3) := by decide +kernel
theorem dX5_goOn_62 : decode cX5_goOn 62 = .ok (.getfield 51, 3) := by decide +kernel
theorem dX5_goOn_65 : decode cX5_goOn 65 = .ok (.if_icmp .ge 54, 3) := by decide +kernel
theorem dX5_goOn_68 : decode cX5_goOn 68 = .ok (.aload 5, 2) := by decide +kernel
theorem dX5_goOn_70 : decode cX5_goOn 70 = .ok (.iload_n 1, 1) := by decide +kernel
theorem dX5_goOn_71 : decode cX5_goOn 71 = .ok (.iload 8, 2) := by decide +kernel
theorem dX5_goOn_73 : decode cX5_goOn 73 = .ok (.invokevirtual 56, 3) := by decide +kernel
theorem dX5_goOn_76 : decode cX5_goOn 76 = .ok (.ifCond .eq 37, 3) := by decide +kernel
theorem dX5_goOn_79 : decode cX5_goOn 79 = .ok (.aload_n 0, 1) := by decide +kernel
theorem dX5_goOn_80 : decode cX5_goOn 80 = .ok (.getfield 17, 3) := by decide +kernel
theorem dX5_goOn_83 : decode cX5_goOn 83 = .ok (.iload_n 3, 1) := by decide +kernel
theorem dX5_goOn_84 : decode cX5_goOn 84 = .ok (.iload 8, 2) := by decide +kernel
theorem dX5_goOn_86 : decode cX5_goOn 86 = .ok (.iastore, 1) := by decide +kernel
theorem dX5_goOn_87 : decode cX5_goOn 87 = .ok (.aload 7, 2) := by decide +kernel
theorem dX5_goOn_89 : decode cX5_goOn 89 = .ok (.aload 5, 2) := by decide +kernel
theorem dX5_goOn_91 : decode cX5_goOn 91 = .ok (.invokevirtual 35, 3) := by decide +kernel
theorem dX5_goOn_94 : decode cX5_goOn 94 = .ok (.aload 7, 2) := by decide +kernel
theorem dX5_goOn_96 : decode cX5_goOn 96 = .ok (.iload_n 1, 1) := by decide +kernel
theorem dX5_goOn_97 : decode cX5_goOn 97 = .ok (.iload 8, 2) := by decide +kernel
theorem dX5_goOn_99 : decode cX5_goOn 99 = .ok (.invokevirtual 60, 3) := by decide +kernel
theorem dX5_goOn_102 : decode cX5_goOn 102 = .ok (.aload_n 0, 1) := by decide +kernel
theorem dX5_goOn_103 : decode cX5_goOn 103 = .ok (.iload_n 1, 1) := by decide +kernel
theorem dX5_goOn_104 : decode cX5_goOn 104 = .ok (.iload_n 2, 1) := by decide +kernel
theorem dX5_goOn_105 : decode cX5_goOn 105 = .ok (.iload_n 3, 1) := by decide +kernel
theorem dX5_goOn_106 : decode cX5_goOn 106 = .ok (.iconst 1, 1) := by decide +kernel
theorem dX5_goOn_107 : decode cX5_goOn 107 = .ok (.iadd, 1) := by decide +kernel
theorem dX5_goOn_108 : decode cX5_goOn 108 = .ok (.iload 6, 2) := by decide +kernel
theorem dX5_goOn_110 : decode cX5_goOn 110 = .ok (.invokestatic 39, 3) := by decide +kernel
theorem dX5_goOn_113 : decode cX5_goOn 113 = .ok (.iinc 8 1, 3) := by decide +kernel
theorem dX5_goOn_116 : decode cX5_goOn 116 = .ok (.goto (-60), 3) := by decide +kernel
theorem dX5_goOn_119 : decode cX5_goOn 119 = .ok (.return_, 1) := by decide +kernel
theorem dX5_search_0 : decode cX5_search 0 = .ok (.aload_n 0, 1) := by decide +kernel
theorem dX5_search_1 : decode cX5_search 1 = .ok (.iconst (-1), 1) := by decide +kernel
theorem dX5_search_2 : decode cX5_search 2 = .ok (.putfield 31, 3) := by decide +kernel
theorem dX5_search_5 : decode cX5_search 5 = .ok (.aload_n 0, 1) := by decide +kernel
theorem dX5_search_6 : decode cX5_search 6 = .ok (.getfield 11, 3) := by decide +kernel
theorem dX5_search_9 : decode cX5_search 9 = .ok (.iconst 0, 1) := by decide +kernel
theorem dX5_search_10 : decode cX5_search 10 = .ok (.aaload, 1) := by decide +kernel
theorem dX5_search_11 : decode cX5_search 11 = .ok (.aload_n 1, 1) := by decide +kernel
theorem dX5_search_12 : decode cX5_search 12 = .ok (.invokevirtual 35, 3) := by decide +kernel
theorem dX5_search_15 : decode cX5_search 15 = .ok (.aload_n 0, 1) := by decide +kernel
theorem dX5_search_16 : decode cX5_search 16 = .ok (.iload_n 2, 1) := by decide +kernel
theorem dX5_search_17 : decode cX5_search 17 = .ok (.iload_n 3, 1) := by decide +kernel
theorem dX5_search_18 : decode cX5_search 18 = .ok (.iconst 0, 1) := by decide +kernel
theorem dX5_search_19 : decode cX5_search 19 = .ok (.iconst 0, 1) := by decide +kernel
theorem dX5_search_20 : decode cX5_search 20 = .ok (.invokestatic 39, 3) := by decide +kernel
theorem dX5_search_23 : decode cX5_search 23 = .ok (.return_, 1) := by decide +kernel
theorem dX5_doorAt_0 : decode cX5_doorAt 0 = .ok (.aload_n 0, 1) := by decide +kernel
theorem dX5_doorAt_1 : decode cX5_doorAt 1 = .ok (.getfield 31, 3) := by decide +kernel
theorem dX5_doorAt_4 : decode cX5_doorAt 4 = .ok (.iconst (-1), 1) := by decide +kernel
theorem dX5_doorAt_5 : decode cX5_doorAt 5 = .ok (.if_icmp .eq 13, 3) := by decide +kernel
theorem dX5_doorAt_8 : decode cX5_doorAt 8 = .ok (.iload_n 1, 1) := by decide +kernel
theorem dX5_doorAt_9 : decode cX5_doorAt 9 = .ok (.iload_n 2, 1) := by decide +kernel
theorem dX5_doorAt_10 : decode cX5_doorAt 10 = .ok (.if_icmp .ge 8, 3) := by decide +kernel
theorem dX5_doorAt_13 : decode cX5_doorAt 13 = .ok (.iload_n 1, 1) := by decide +kernel
theorem dX5_doorAt_14 : decode cX5_doorAt 14 = .ok (.iconst 4, 1) := by decide +kernel
theorem dX5_doorAt_15 : decode cX5_doorAt 15 = .ok (.if_icmp .lt 7, 3) := by decide +kernel
theorem dX5_doorAt_18 : decode cX5_doorAt 18 = .ok (.iconst (-1), 1) := by decide +kernel
theorem dX5_doorAt_19 : decode cX5_doorAt 19 = .ok (.goto 9, 3) := by decide +kernel
theorem dX5_doorAt_22 : decode cX5_doorAt 22 = .ok (.aload_n 0, 1) := by decide +kernel
theorem dX5_doorAt_23 : decode cX5_doorAt 23 = .ok (.getfield 21, 3) := by decide +kernel
theorem dX5_doorAt_26 : decode cX5_doorAt 26 = .ok (.iload_n 1, 1) := by decide +kernel
theorem dX5_doorAt_27 : decode cX5_doorAt 27 = .ok (.iaload, 1) := by decide +kernel
theorem dX5_doorAt_28 : decode cX5_doorAt 28 = .ok (.ireturn, 1) := by decide +kernel
theorem dX11_night_0 : decode cX11_night 0 = .ok (.aload_n 0, 1) := by decide +kernel
theorem dX11_night_1 : decode cX11_night 1 = .ok (.iload_n 1, 1) := by decide +kernel
theorem dX11_night_2 : decode cX11_night 2 = .ok (.invokevirtual 93, 3) := by decide +kernel
theorem dX11_night_5 : decode cX11_night 5 = .ok (.ifCond .eq 6, 3) := by decide +kernel
theorem dX11_night_8 : decode cX11_night 8 = .ok (.bipush (-101), 2) := by decide +kernel
theorem dX11_night_10 : decode cX11_night 10 = .ok (.ireturn, 1) := by decide +kernel
theorem dX11_night_11 : decode cX11_night 11 = .ok (.iload_n 2, 1) := by decide +kernel
theorem dX11_night_12 : decode cX11_night 12 = .ok (.ifCond .lt 24, 3) := by decide +kernel
theorem dX11_night_15 : decode cX11_night 15 = .ok (.iload_n 2, 1) := by decide +kernel
theorem dX11_night_16 : decode cX11_night 16 = .ok (.iconst 4, 1) := by decide +kernel
theorem dX11_night_17 : decode cX11_night 17 = .ok (.if_icmp .gt 19, 3) := by decide +kernel
theorem dX11_night_20 : decode cX11_night 20 = .ok (.iload_n 3, 1) := by decide +kernel
theorem dX11_night_21 : decode cX11_night 21 = .ok (.ifCond .eq 18, 3) := by decide +kernel
theorem dX11_night_24 : decode cX11_night 24 = .ok (.iload_n 3, 1) := by decide +kernel
theorem dX11_night_25 : decode cX11_night 25 = .ok (.bipush 10, 2) := by decide +kernel
theorem dX11_night_27 : decode cX11_night 27 = .ok (.if_icmp .lt 9, 3) := by decide +kernel
theorem dX11_night_30 : decode cX11_night 30 = .ok (.iload_n 3, 1) := by decide +kernel
theorem dX11_night_31 : decode cX11_night 31 = .ok (.bipush 13, 2) := by decide +kernel
theorem dX11_night_33 : decode cX11_night 33 = .ok (.if_icmp .le 6, 3) := by decide +kernel
theorem dX11_night_36 : decode cX11_night 36 = .ok (.bipush (-102), 2) := by decide +kernel
theorem dX11_night_38 : decode cX11_night 38 = .ok (.ireturn, 1) := by decide +kernel
theorem dX11_night_39 : decode cX11_night 39 = .ok (.aload_n 0, 1) := by decide +kernel
theorem dX11_night_40 : decode cX11_night 40 = .ok (.getfield 48, 3) := by decide +kernel
theorem dX11_night_43 : decode cX11_night 43 = .ok (.aload_n 0, 1) := by decide +kernel
theorem dX11_night_44 : decode cX11_night 44 = .ok (.getfield 28, 3) := by decide +kernel
theorem dX11_night_47 : decode cX11_night 47 = .ok (.iload_n 1, 1) := by decide +kernel
theorem dX11_night_48 : decode cX11_night 48 = .ok (.iload_n 2, 1) := by decide +kernel
theorem dX11_night_49 : decode cX11_night 49 = .ok (.invokevirtual 201, 3) := by decide +kernel
theorem dX11_night_52 : decode cX11_night 52 = .ok (.iload_n 3, 1) := by decide +kernel
theorem dX11_night_53 : decode cX11_night 53 = .ok (.ifCond .ne 13, 3) := by decide +kernel
theorem dX11_night_56 : decode cX11_night 56 = .ok (.aload_n 0, 1) := by decide +kernel
theorem dX11_night_57 : decode cX11_night 57 = .ok (.getfield 48, 3) := by decide +kernel
theorem dX11_night_60 : decode cX11_night 60 = .ok (.getfield 205, 3) := by decide +kernel
theorem dX11_night_63 : decode cX11_night 63 = .ok (.goto 15, 3) := by decide +kernel
theorem dX11_night_66 : decode cX11_night 66 = .ok (.aload_n 0, 1) := by decide +kernel
theorem dX11_night_67 : decode cX11_night 67 = .ok (.getfield 48, 3) := by decide +kernel
theorem dX11_night_70 : decode cX11_night 70 = .ok (.iload_n 3, 1) := by decide +kernel
theorem dX11_night_71 : decode cX11_night 71 = .ok (.bipush 10, 2) := by decide +kernel
theorem dX11_night_73 : decode cX11_night 73 = .ok (.isub, 1) := by decide +kernel
theorem dX11_night_74 : decode cX11_night 74 = .ok (.iload_n 2, 1) := by decide +kernel
theorem dX11_night_75 : decode cX11_night 75 = .ok (.invokevirtual 208, 3) := by decide +kernel
theorem dX11_night_78 : decode cX11_night 78 = .ok (.ireturn, 1) := by decide +kernel
theorem dX9_keepIfMore_0 : decode cX9_keepIfMore 0 = .ok (.iload_n 1, 1) := by decide +kernel
theorem dX9_keepIfMore_1 : decode cX9_keepIfMore 1 = .ok (.aload_n 0, 1) := by decide +kernel
theorem dX9_keepIfMore_2 : decode cX9_keepIfMore 2 = .ok (.getfield 55, 3) := by decide +kernel
theorem dX9_keepIfMore_5 : decode cX9_keepIfMore 5 = .ok (.if_icmp .le 33, 3) := by decide +kernel
theorem dX9_keepIfMore_8 : decode cX9_keepIfMore 8 = .ok (.aload_n 0, 1) := by decide +kernel
theorem dX9_keepIfMore_9 : decode cX9_keepIfMore 9 = .ok (.iload_n 1, 1) := by decide +kernel
theorem dX9_keepIfMore_10 : decode cX9_keepIfMore 10 = .ok (.putfield 55, 3) := by decide +kernel
theorem dX9_keepIfMore_13 : decode cX9_keepIfMore 13 = .ok (.iconst 0, 1) := by decide +kernel
theorem dX9_keepIfMore_14 : decode cX9_keepIfMore 14 = .ok (.istore_n 2, 1) := by decide +kernel
theorem dX9_keepIfMore_15 : decode cX9_keepIfMore 15 = .ok (.iload_n 2, 1) := by decide +kernel
theorem dX9_keepIfMore_16 : decode cX9_keepIfMore 16 = .ok (.iconst 4, 1) := by decide +kernel
theorem dX9_keepIfMore_17 : decode cX9_keepIfMore 17 = .ok (.if_icmp .ge 21, 3) := by decide +kernel
theorem dX9_keepIfMore_20 : decode cX9_keepIfMore 20 = .ok (.aload_n 0, 1) := by decide +kernel
theorem dX9_keepIfMore_21 : decode cX9_keepIfMore 21 = .ok (.getfield 18, 3) := by decide +kernel
theorem dX9_keepIfMore_24 : decode cX9_keepIfMore 24 = .ok (.iload_n 2, 1) := by decide +kernel
theorem dX9_keepIfMore_25 : decode cX9_keepIfMore 25 = .ok (.aload_n 0, 1) := by decide +kernel
theorem dX9_keepIfMore_26 : decode cX9_keepIfMore 26 = .ok (.getfield 15, 3) := by decide +kernel
theorem dX9_keepIfMore_29 : decode cX9_keepIfMore 29 = .ok (.iload_n 2, 1) := by decide +kernel
theorem dX9_keepIfMore_30 : decode cX9_keepIfMore 30 = .ok (.iaload, 1) := by decide +kernel
theorem dX9_keepIfMore_31 : decode cX9_keepIfMore 31 = .ok (.iastore, 1) := by decide +kernel
theorem dX9_keepIfMore_32 : decode cX9_keepIfMore 32 = .ok (.iinc 2 1, 3) := by decide +kernel
theorem dX9_keepIfMore_35 : decode cX9_keepIfMore 35 = .ok (.goto (-20), 3) := by decide +kernel
theorem dX9_keepIfMore_38 : decode cX9_keepIfMore 38 = .ok (.return_, 1) := by decide +kernel
theorem dX9_lessen_0 : decode cX9_lessen 0 = .ok (.iload_n 1, 1) := by decide +kernel
theorem dX9_lessen_1 : decode cX9_lessen 1 = .ok (.iconst 4, 1) := by decide +kernel
theorem dX9_lessen_2 : decode cX9_lessen 2 = .ok (.if_icmp .lt 9, 3) := by decide +kernel
theorem dX9_lessen_5 : decode cX9_lessen 5 = .ok (.aload_n 0, 1) := by decide +kernel
theorem dX9_lessen_6 : decode cX9_lessen 6 = .ok (.iload_n 2, 1) := by decide +kernel
theorem dX9_lessen_7 : decode cX9_lessen 7 = .ok (.invokevirtual 62, 3) := by decide +kernel
theorem dX9_lessen_10 : decode cX9_lessen 10 = .ok (.return_, 1) := by decide +kernel
theorem dX9_lessen_11 : decode cX9_lessen 11 = .ok (.aload_n 0, 1) := by decide +kernel
theorem dX9_lessen_12 : decode cX9_lessen 12 = .ok (.getfield 9, 3) := by decide +kernel
theorem dX9_lessen_15 : decode cX9_lessen 15 = .ok (.iload_n 1, 1) := by decide +kernel
theorem dX9_lessen_16 : decode cX9_lessen 16 = .ok (.iaload, 1) := by decide +kernel
theorem dX9_lessen_17 : decode cX9_lessen 17 = .ok (.iconst (-1), 1) := by decide +kernel
theorem dX9_lessen_18 : decode cX9_lessen 18 = .ok (.if_icmp .ne 12, 3) := by decide +kernel
theorem dX9_lessen_21 : decode cX9_lessen 21 = .ok (.aload_n 0, 1) := by decide +kernel
theorem dX9_lessen_22 : decode cX9_lessen 22 = .ok (.iload_n 1, 1) := by decide +kernel
theorem dX9_lessen_23 : decode cX9_lessen 23 = .ok (.iconst 1, 1) := by decide +kernel
theorem dX9_lessen_24 : decode cX9_lessen 24 = .ok (.iadd, 1) := by decide +kernel
theorem dX9_lessen_25 : decode cX9_lessen 25 = .ok (.iload_n 2, 1) := by decide +kernel
theorem dX9_lessen_26 : decode cX9_lessen 26 = .ok (.invokestatic 58, 3) := by decide +kernel
theorem dX9_lessen_29 : decode cX9_lessen 29 = .ok (.return_, 1) := by decide +kernel
theorem dX9_lessen_30 : decode cX9_lessen 30 = .ok (.aload_n 0, 1) := by decide +kernel
theorem dX9_lessen_31 : decode cX9_lessen 31 = .ok (.getfield 27, 3) := by decide +kernel
theorem dX9_lessen_34 : decode cX9_lessen 34 = .ok (.getfield 49, 3) := by decide +kernel
theorem dX9_lessen_37 : decode cX9_lessen 37 = .ok (.iload_n 1, 1) := by decide +kernel
theorem dX9_lessen_38 : decode cX9_lessen 38 = .ok (.iaload, 1) := by decide +kernel
theorem dX9_lessen_39 : decode cX9_lessen 39 = .ok (.istore_n 3, 1) := by decide +kernel
theorem dX9_lessen_40 : decode cX9_lessen 40 = .ok (.aload_n 0, 1) := by decide +kernel
theorem dX9_lessen_41 : decode cX9_lessen 41 = .ok (.getfield 27, 3) := by decide +kernel
theorem dX9_lessen_44 : decode cX9_lessen 44 = .ok (.getfield 52, 3) := by decide +kernel
theorem dX9_lessen_47 : decode cX9_lessen 47 = .ok (.iload_n 1, 1) := by decide +kernel
theorem dX9_lessen_48 : decode cX9_lessen 48 = .ok (.iaload, 1) := by decide +kernel
theorem dX9_lessen_49 : decode cX9_lessen 49 = .ok (.istore 4, 2) := by decide +kernel
theorem dX9_lessen_51 : decode cX9_lessen 51 = .ok (.iconst 0, 1) := by decide +kernel
theorem dX9_lessen_52 : decode cX9_lessen 52 = .ok (.istore 5, 2) := by decide +kernel
theorem dX9_lessen_54 : decode cX9_lessen 54 = .ok (.aload_n 0, 1) := by decide +kernel
theorem dX9_lessen_55 : decode cX9_lessen 55 = .ok (.getfield 9, 3) := by decide +kernel
theorem dX9_lessen_58 : decode cX9_lessen 58 = .ok (.iload_n 1, 1) := by decide +kernel
theorem dX9_lessen_59 : decode cX9_lessen 59 = .ok (.iaload, 1) := by decide +kernel
theorem dX9_lessen_60 : decode cX9_lessen 60 = .ok (.istore 6, 2) := by decide +kernel
theorem dX9_lessen_62 : decode cX9_lessen 62 = .ok (.aload_n 0, 1) := by decide +kernel
theorem dX9_lessen_63 : decode cX9_lessen 63 = .ok (.getfield 21, 3) := by decide +kernel
theorem dX9_lessen_66 : decode cX9_lessen 66 = .ok (.iload_n 3, 1) := by decide +kernel
theorem dX9_lessen_67 : decode cX9_lessen 67 = .ok (.iaload, 1) := by decide +kernel
theorem dX9_lessen_68 : decode cX9_lessen 68 = .ok (.iload_n 1, 1) := by decide +kernel
theorem dX9_lessen_69 : decode cX9_lessen 69 = .ok (.if_icmp .ne 31, 3) := by decide +kernel
theorem dX9_lessen_72 : decode cX9_lessen 72 = .ok (.iload 5, 2) := by decide +kernel
theorem dX9_lessen_74 : decode cX9_lessen 74 = .ok (.aload_n 0, 1) := by decide +kernel
theorem dX9_lessen_75 : decode cX9_lessen 75 = .ok (.getfield 24, 3) := by decide +kernel
theorem dX9_lessen_78 : decode cX9_lessen 78 = .ok (.iload_n 3, 1) := by decide +kernel
theorem dX9_lessen_79 : decode cX9_lessen 79 = .ok (.iaload, 1) := by decide +kernel
theorem dX9_lessen_80 : decode cX9_lessen 80 = .ok (.ineg, 1) := by decide +kernel
theorem dX9_lessen_81 : decode cX9_lessen 81 = .ok (.invokestatic 66, 3) := by decide +kernel
theorem dX9_lessen_84 : decode cX9_lessen 84 = .ok (.istore 5, 2) := by decide +kernel
theorem dX9_lessen_86 : decode cX9_lessen 86 = .ok (.iload 6, 2) := by decide +kernel
theorem dX9_lessen_88 : decode cX9_lessen 88 = .ok (.aload_n 0, 1) := by decide +kernel
theorem dX9_lessen_89 : decode cX9_lessen 89 = .ok (.getfield 24, 3) := by decide +kernel
theorem dX9_lessen_92 : decode cX9_lessen 92 = .ok (.iload_n 3, 1) := by decide +kernel
theorem dX9_lessen_93 : decode cX9_lessen 93 = .ok (.iaload, 1) := by decide +kernel
theorem dX9_lessen_94 : decode cX9_lessen 94 = .ok (.ineg, 1) := by decide +kernel
theorem dX9_lessen_95 : decode cX9_lessen 95 = .ok (.invokestatic 72, 3) := by decide +kernel
theorem dX9_lessen_98 : decode cX9_lessen 98 = .ok (.istore 6, 2) := by decide +kernel
theorem dX9_lessen_100 : decode cX9_lessen 100 = .ok (.aload_n 0, 1) := by decide +kernel
theorem dX9_lessen_101 : decode cX9_lessen 101 = .ok (.getfield 21, 3) := by decide +kernel
theorem dX9_lessen_104 : decode cX9_lessen 104 = .ok (.iload 4, 2) := by decide +kernel
theorem dX9_lessen_106 : decode cX9_lessen 106 = .ok (.iaload, 1) := by decide +kernel
theorem dX9_lessen_107 : decode cX9_lessen 107 = .ok (.iload_n 1, 1) := by decide +kernel
theorem dX9_lessen_108 : decode cX9_lessen 108 = .ok (.if_icmp .ne 31, 3) := by decide +kernel
theorem dX9_lessen_111 : decode cX9_lessen 111 = .ok (.iload 5, 2) := by decide +kernel
theorem dX9_lessen_113 : decode cX9_lessen 113 = .ok (.aload_n 0, 1) := by decide +kernel
theorem dX9_lessen_114 : decode cX9_lessen 114 = .ok (.getfield 24, 3) := by decide +kernel
theorem dX9_lessen_117 : decode cX9_lessen 117 = .ok (.iload 4, 2) := by decide +kernel
theorem dX9_lessen_119 : decode cX9_lessen 119 = .ok (.iaload, 1) := by decide +kernel
theorem dX9_lessen_120 : decode cX9_lessen 120 = .ok (.invokestatic 66, 3) := by decide +kernel
theorem dX9_lessen_123 : decode cX9_lessen 123 = .ok (.istore 5, 2) := by decide +kernel
theorem dX9_lessen_125 : decode cX9_lessen 125 = .ok (.iload 6, 2) := by decide +kernel
theorem dX9_lessen_127 : decode cX9_lessen 127 = .ok (.aload_n 0, 1) := by decide +kernel
theorem dX9_lessen_128 : decode cX9_lessen 128 = .ok (.getfield 24, 3) := by decide +kernel
theorem dX9_lessen_131 : decode cX9_lessen 131 = .ok (.iload 4, 2) := by decide +kernel
theorem dX9_lessen_133 : decode cX9_lessen 133 = .ok (.iaload, 1) := by decide +kernel
theorem dX9_lessen_134 : decode cX9_lessen 134 = .ok (.invokestatic 72, 3) := by decide +kernel
theorem dX9_lessen_137 : decode cX9_lessen 137 = .ok (.istore 6, 2) := by decide +kernel
theorem dX9_lessen_139 : decode cX9_lessen 139 = .ok (.iload 5, 2) := by decide +kernel
theorem dX9_lessen_141 : decode cX9_lessen 141 = .ok (.istore 7, 2) := by decide +kernel
theorem dX9_lessen_143 : decode cX9_lessen 143 = .ok (.iload 7, 2) := by decide +kernel
theorem dX9_lessen_145 : decode cX9_lessen 145 = .ok (.iload 6, 2) := by decide +kernel
theorem dX9_lessen_147 : decode cX9_lessen 147 = .ok (.if_icmp .gt 74, 3) := by decide +kernel
theorem dX9_lessen_150 : decode cX9_lessen 150 = .ok (.aload_n 0, 1) := by decide +kernel
theorem dX9_lessen_151 : decode cX9_lessen 151 = .ok (.getfield 15, 3) := by decide +kernel
theorem dX9_lessen_154 : decode cX9_lessen 154 = .ok (.iload_n 1, 1) := by decide +kernel
theorem dX9_lessen_155 : decode cX9_lessen 155 = .ok (.iload 7, 2) := by decide +kernel
theorem dX9_lessen_157 : decode cX9_lessen 157 = .ok (.iastore, 1) := by decide +kernel
theorem dX9_lessen_158 : decode cX9_lessen 158 = .ok (.aload_n 0, 1) := by decide +kernel
theorem dX9_lessen_159 : decode cX9_lessen 159 = .ok (.getfield 24, 3) := by decide +kernel
theorem dX9_lessen_162 : decode cX9_lessen 162 = .ok (.iload_n 3, 1) := by decide +kernel
theorem dX9_lessen_163 : decode cX9_lessen 163 = .ok (.dup2, 1) := by decide +kernel
theorem dX9_lessen_164 : decode cX9_lessen 164 = .ok (.iaload, 1) := by decide +kernel
theorem dX9_lessen_165 : decode cX9_lessen 165 = .ok (.iload 7, 2) := by decide +kernel
theorem dX9_lessen_167 : decode cX9_lessen 167 = .ok (.iadd, 1) := by decide +kernel
theorem dX9_lessen_168 : decode cX9_lessen 168 = .ok (.iastore, 1) := by decide +kernel
theorem dX9_lessen_169 : decode cX9_lessen 169 = .ok (.aload_n 0, 1) := by decide +kernel
theorem dX9_lessen_170 : decode cX9_lessen 170 = .ok (.getfield 24, 3) := by decide +kernel
theorem dX9_lessen_173 : decode cX9_lessen 173 = .ok (.iload 4, 2) := by decide +kernel
theorem dX9_lessen_175 : decode cX9_lessen 175 = .ok (.dup2, 1) := by decide +kernel
theorem dX9_lessen_176 : decode cX9_lessen 176 = .ok (.iaload, 1) := by decide +kernel
theorem dX9_lessen_177 : decode cX9_lessen 177 = .ok (.iload 7, 2) := by decide +kernel
theorem dX9_lessen_179 : decode cX9_lessen 179 = .ok (.isub, 1) := by decide +kernel
theorem dX9_lessen_180 : decode cX9_lessen 180 = .ok (.iastore, 1) := by decide +kernel
theorem dX9_lessen_181 : decode cX9_lessen 181 = .ok (.aload_n 0, 1) := by decide +kernel
theorem dX9_lessen_182 : decode cX9_lessen 182 = .ok (.iload_n 1, 1) := by decide +kernel
theorem dX9_lessen_183 : decode cX9_lessen 183 = .ok (.iconst 1, 1) := by decide +kernel
theorem dX9_lessen_184 : decode cX9_lessen 184 = .ok (.iadd, 1) := by decide +kernel
theorem dX9_lessen_185 : decode cX9_lessen 185 = .ok (.iload_n 2, 1) := by decide +kernel
theorem dX9_lessen_186 : decode cX9_lessen 186 = .ok (.iload 7, 2) := by decide +kernel
theorem dX9_lessen_188 : decode cX9_lessen 188 = .ok (.iadd, 1) := by decide +kernel
theorem dX9_lessen_189 : decode cX9_lessen 189 = .ok (.invokestatic 58, 3) := by decide +kernel
theorem dX9_lessen_192 : decode cX9_lessen 192 = .ok (.aload_n 0, 1) := by decide +kernel
theorem dX9_lessen_193 : decode cX9_lessen 193 = .ok (.getfield 24, 3) := by decide +kernel
theorem dX9_lessen_196 : decode cX9_lessen 196 = .ok (.iload_n 3, 1) := by decide +kernel
theorem dX9_lessen_197 : decode cX9_lessen 197 = .ok (.dup2, 1) := by decide +kernel
theorem dX9_lessen_198 : decode cX9_lessen 198 = .ok (.iaload, 1) := by decide +kernel
theorem dX9_lessen_199 : decode cX9_lessen 199 = .ok (.iload 7, 2) := by decide +kernel
theorem dX9_lessen_201 : decode cX9_lessen 201 = .ok (.isub, 1) := by decide +kernel
theorem dX9_lessen_202 : decode cX9_lessen 202 = .ok (.iastore, 1) := by decide +kernel
theorem dX9_lessen_203 : decode cX9_lessen 203 = .ok (.aload_n 0, 1) := by decide +kernel
theorem dX9_lessen_204 : decode cX9_lessen 204 = .ok (.getfield 24, 3) := by decide +kernel
theorem dX9_lessen_207 : decode cX9_lessen 207 = .ok (.iload 4, 2) := by decide +kernel
theorem dX9_lessen_209 : decode cX9_lessen 209 = .ok (.dup2, 1) := by decide +kernel
theorem dX9_lessen_210 : decode cX9_lessen 210 = .ok (.iaload, 1) := by decide +kernel
theorem dX9_lessen_211 : decode cX9_lessen 211 = .ok (.iload 7, 2) := by decide +kernel
theorem dX9_lessen_213 : decode cX9_lessen 213 = .ok (.iadd, 1) := by decide +kernel
theorem dX9_lessen_214 : decode cX9_lessen 214 = .ok (.iastore, 1) := by decide +kernel
theorem dX9_lessen_215 : decode cX9_lessen 215 = .ok (.iinc 7 1, 3) := by decide +kernel
theorem dX9_lessen_218 : decode cX9_lessen 218 = .ok (.goto (-75), 3) := by decide +kernel
theorem dX9_lessen_221 : decode cX9_lessen 221 = .ok (.return_, 1) := by decide +kernel
theorem dX9_search_0 : decode cX9_search 0 = .ok (.iconst 0, 1) := by decide +kernel
theorem dX9_search_1 : decode cX9_search 1 = .ok (.istore_n 3, 1) := by decide +kernel
theorem dX9_search_2 : decode cX9_search 2 = .ok (.iload_n 3, 1) := by decide +kernel
theorem dX9_search_3 : decode cX9_search 3 = .ok (.iconst 4, 1) := by decide +kernel
theorem dX9_search_4 : decode cX9_search 4 = .ok (.if_icmp .ge 23, 3) := by decide +kernel
theorem dX9_search_7 : decode cX9_search 7 = .ok (.aload_n 0, 1) := by decide +kernel
theorem dX9_search_8 : decode cX9_search 8 = .ok (.getfield 21, 3) := by decide +kernel
theorem dX9_search_11 : decode cX9_search 11 = .ok (.iload_n 3, 1) := by decide +kernel
theorem dX9_search_12 : decode cX9_search 12 = .ok (.iconst (-1), 1) := by decide +kernel
theorem dX9_search_13 : decode cX9_search 13 = .ok (.iastore, 1) := by decide +kernel
theorem dX9_search_14 : decode cX9_search 14 = .ok (.aload_n 0, 1) := by decide +kernel
theorem dX9_search_15 : decode cX9_search 15 = .ok (.getfield 24, 3) := by decide +kernel
theorem dX9_search_18 : decode cX9_search 18 = .ok (.iload_n 3, 1) := by decide +kernel
theorem dX9_search_19 : decode cX9_search 19 = .ok (.iconst 0, 1) := by decide +kernel
theorem dX9_search_20 : decode cX9_search 20 = .ok (.iastore, 1) := by decide +kernel
theorem dX9_search_21 : decode cX9_search 21 = .ok (.iinc 3 1, 3) := by decide +kernel
theorem dX9_search_24 : decode cX9_search 24 = .ok (.goto (-22), 3) := by decide +kernel
theorem dX9_search_27 : decode cX9_search 27 = .ok (.iconst 0, 1) := by decide +kernel
theorem dX9_search_28 : decode cX9_search 28 = .ok (.istore_n 3, 1) := by decide +kernel
theorem dX9_search_29 : decode cX9_search 29 = .ok (.iload_n 3, 1) := by decide +kernel
theorem dX9_search_30 : decode cX9_search 30 = .ok (.iconst 4, 1) := by decide +kernel
theorem dX9_search_31 : decode cX9_search 31 = .ok (.if_icmp .ge 98, 3) := by decide +kernel
theorem dX9_search_34 : decode cX9_search 34 = .ok (.aload_n 0, 1) := by decide +kernel
theorem dX9_search_35 : decode cX9_search 35 = .ok (.getfield 15, 3) := by decide +kernel
theorem dX9_search_38 : decode cX9_search 38 = .ok (.iload_n 3, 1) := by decide +kernel
theorem dX9_search_39 : decode cX9_search 39 = .ok (.iconst (-1), 1) := by decide +kernel
theorem dX9_search_40 : decode cX9_search 40 = .ok (.iastore, 1) := by decide +kernel
theorem dX9_search_41 : decode cX9_search 41 = .ok (.aload_n 0, 1) := by decide +kernel
theorem dX9_search_42 : decode cX9_search 42 = .ok (.getfield 9, 3) := by decide +kernel
theorem dX9_search_45 : decode cX9_search 45 = .ok (.iload_n 3, 1) := by decide +kernel
theorem dX9_search_46 : decode cX9_search 46 = .ok (.iconst (-1), 1) := by decide +kernel
theorem dX9_search_47 : decode cX9_search 47 = .ok (.iastore, 1) := by decide +kernel
theorem dX9_search_48 : decode cX9_search 48 = .ok (.iload_n 3, 1) := by decide +kernel
theorem dX9_search_49 : decode cX9_search 49 = .ok (.aload_n 0, 1) := by decide +kernel
theorem dX9_search_50 : decode cX9_search 50 = .ok (.getfield 27, 3) := by decide +kernel
theorem dX9_search_53 : decode cX9_search 53 = .ok (.getfield 31, 3) := by decide +kernel
theorem dX9_search_56 : decode cX9_search 56 = .ok (.if_icmp .ge 67, 3) := by decide +kernel
theorem dX9_search_59 : decode cX9_search 59 = .ok (.aload_n 0, 1) := by decide +kernel
theorem dX9_search_60 : decode cX9_search 60 = .ok (.getfield 27, 3) := by decide +kernel
theorem dX9_search_63 : decode cX9_search 63 = .ok (.getfield 37, 3) := by decide +kernel
theorem dX9_search_66 : decode cX9_search 66 = .ok (.iload_n 3, 1) := by decide +kernel
theorem dX9_search_67 : decode cX9_search 67 = .ok (.iaload, 1) := by decide +kernel
theorem dX9_search_68 : decode cX9_search 68 = .ok (.iload_n 2, 1) := by decide +kernel
theorem dX9_search_69 : decode cX9_search 69 = .ok (.if_icmp .ne 54, 3) := by decide +kernel
theorem dX9_search_72 : decode cX9_search 72 = .ok (.aload_n 1, 1) := by decide +kernel
theorem dX9_search_73 : decode cX9_search 73 = .ok (.getfield 40, 3) := by decide +kernel
theorem dX9_search_76 : decode cX9_search 76 = .ok (.iload_n 3, 1) := by decide +kernel
theorem dX9_search_77 : decode cX9_search 77 = .ok (.baload, 1) := by decide +kernel
theorem dX9_search_78 : decode cX9_search 78 = .ok (.ifCond .ne 45, 3) := by decide +kernel
theorem dX9_search_81 : decode cX9_search 81 = .ok (.aload_n 0, 1) := by decide +kernel
theorem dX9_search_82 : decode cX9_search 82 = .ok (.getfield 9, 3) := by decide +kernel
theorem dX9_search_85 : decode cX9_search 85 = .ok (.iload_n 3, 1) := by decide +kernel
theorem dX9_search_86 : decode cX9_search 86 = .ok (.aload_n 1, 1) := by decide +kernel
theorem dX9_search_87 : decode cX9_search 87 = .ok (.getfield 46, 3) := by decide +kernel
theorem dX9_search_90 : decode cX9_search 90 = .ok (.iload_n 3, 1) := by decide +kernel
theorem dX9_search_91 : decode cX9_search 91 = .ok (.iaload, 1) := by decide +kernel
theorem dX9_search_92 : decode cX9_search 92 = .ok (.iastore, 1) := by decide +kernel
theorem dX9_search_93 : decode cX9_search 93 = .ok (.aload_n 0, 1) := by decide +kernel
theorem dX9_search_94 : decode cX9_search 94 = .ok (.getfield 21, 3) := by decide +kernel
theorem dX9_search_97 : decode cX9_search 97 = .ok (.aload_n 0, 1) := by decide +kernel
theorem dX9_search_98 : decode cX9_search 98 = .ok (.getfield 27, 3) := by decide +kernel
theorem dX9_search_101 : decode cX9_search 101 = .ok (.getfield 49, 3) := by decide +kernel
theorem dX9_search_104 : decode cX9_search 104 = .ok (.iload_n 3, 1) := by decide +kernel
theorem dX9_search_105 : decode cX9_search 105 = .ok (.iaload, 1) := by decide +kernel
theorem dX9_search_106 : decode cX9_search 106 = .ok (.iload_n 3, 1) := by decide +kernel
theorem dX9_search_107 : decode cX9_search 107 = .ok (.iastore, 1) := by decide +kernel
theorem dX9_search_108 : decode cX9_search 108 = .ok (.aload_n 0, 1) := by decide +kernel
theorem dX9_search_109 : decode cX9_search 109 = .ok (.getfield 21, 3) := by decide +kernel
theorem dX9_search_112 : decode cX9_search 112 = .ok (.aload_n 0, 1) := by decide +kernel
theorem dX9_search_113 : decode cX9_search 113 = .ok (.getfield 27, 3) := by decide +kernel
theorem dX9_search_116 : decode cX9_search 116 = .ok (.getfield 52, 3) := by decide +kernel
theorem dX9_search_119 : decode cX9_search 119 = .ok (.iload_n 3, 1) := by decide +kernel
theorem dX9_search_120 : decode cX9_search 120 = .ok (.iaload, 1) := by decide +kernel
theorem dX9_search_121 : decode cX9_search 121 = .ok (.iload_n 3, 1) := by decide +kernel
theorem dX9_search_122 : decode cX9_search 122 = .ok (.iastore, 1) := by decide +kernel
theorem dX9_search_123 : decode cX9_search 123 = .ok (.iinc 3 1, 3) := by decide +kernel
theorem dX9_search_126 : decode cX9_search 126 = .ok (.goto (-97), 3) := by decide +kernel
theorem dX9_search_129 : decode cX9_search 129 = .ok (.aload_n 0, 1) := by decide +kernel
theorem dX9_search_130 : decode cX9_search 130 = .ok (.iconst (-1), 1) := by decide +kernel
theorem dX9_search_131 : decode cX9_search 131 = .ok (.putfield 55, 3) := by decide +kernel
theorem dX9_search_134 : decode cX9_search 134 = .ok (.aload_n 0, 1) := by decide +kernel
theorem dX9_search_135 : decode cX9_search 135 = .ok (.iconst 0, 1) := by decide +kernel
theorem dX9_search_136 : decode cX9_search 136 = .ok (.iconst 0, 1) := by decide +kernel
theorem dX9_search_137 : decode cX9_search 137 = .ok (.invokestatic 58, 3) := by decide +kernel
theorem dX9_search_140 : decode cX9_search 140 = .ok (.return_, 1) := by decide +kernel
theorem dX11_cancel_0 : decode cX11_cancel 0 = .ok (.aload_n 0, 1) := by decide +kernel
theorem dX11_cancel_1 : decode cX11_cancel 1 = .ok (.iload_n 1, 1) := by decide +kernel
theorem dX11_cancel_2 : decode cX11_cancel 2 = .ok (.invokevirtual 190, 3) := by decide +kernel
theorem dX11_cancel_5 : decode cX11_cancel 5 = .ok (.ifCond .eq 6, 3) := by decide +kernel
theorem dX11_cancel_8 : decode cX11_cancel 8 = .ok (.bipush (-101), 2) := by decide +kernel
theorem dX11_cancel_10 : decode cX11_cancel 10 = .ok (.ireturn, 1) := by decide +kernel
theorem dX11_cancel_11 : decode cX11_cancel 11 = .ok (.iload_n 2, 1) := by decide +kernel
theorem dX11_cancel_12 : decode cX11_cancel 12 = .ok (.ifCond .eq 18, 3) := by decide +kernel
theorem dX11_cancel_15 : decode cX11_cancel 15 = .ok (.iload_n 2, 1) := by decide +kernel
theorem dX11_cancel_16 : decode cX11_cancel 16 = .ok (.bipush 10, 2) := by decide +kernel
theorem dX11_cancel_18 : decode cX11_cancel 18 = .ok (.if_icmp .lt 9, 3) := by decide +kernel
theorem dX11_cancel_21 : decode cX11_cancel 21 = .ok (.iload_n 2, 1) := by decide +kernel
theorem dX11_cancel_22 : decode cX11_cancel 22 = .ok (.bipush 13, 2) := by decide +kernel
theorem dX11_cancel_24 : decode cX11_cancel 24 = .ok (.if_icmp .le 6, 3) := by decide +kernel
theorem dX11_cancel_27 : decode cX11_cancel 27 = .ok (.bipush (-102), 2) := by decide +kernel
theorem dX11_cancel_29 : decode cX11_cancel 29 = .ok (.ireturn, 1) := by decide +kernel
theorem dX11_cancel_30 : decode cX11_cancel 30 = .ok (.aload_n 0, 1) := by decide +kernel
theorem dX11_cancel_31 : decode cX11_cancel 31 = .ok (.getfield 55, 3) := by decide +kernel
theorem dX11_cancel_34 : decode cX11_cancel 34 = .ok (.aload_n 0, 1) := by decide +kernel
theorem dX11_cancel_35 : decode cX11_cancel 35 = .ok (.getfield 28, 3) := by decide +kernel
theorem dX11_cancel_38 : decode cX11_cancel 38 = .ok (.iload_n 1, 1) := by decide +kernel
theorem dX11_cancel_39 : decode cX11_cancel 39 = .ok (.invokevirtual 212, 3) := by decide +kernel
theorem dX11_cancel_42 : decode cX11_cancel 42 = .ok (.iload_n 2, 1) := by decide +kernel
theorem dX11_cancel_43 : decode cX11_cancel 43 = .ok (.ifCond .ne 13, 3) := by decide +kernel
theorem dX11_cancel_46 : decode cX11_cancel 46 = .ok (.aload_n 0, 1) := by decide +kernel
theorem dX11_cancel_47 : decode cX11_cancel 47 = .ok (.getfield 55, 3) := by decide +kernel
theorem dX11_cancel_50 : decode cX11_cancel 50 = .ok (.getfield 215, 3) := by decide +kernel
theorem dX11_cancel_53 : decode cX11_cancel 53 = .ok (.goto 15, 3) := by decide +kernel
theorem dX11_cancel_56 : decode cX11_cancel 56 = .ok (.aload_n 0, 1) := by decide +kernel
theorem dX11_cancel_57 : decode cX11_cancel 57 = .ok (.getfield 55, 3) := by decide +kernel
theorem dX11_cancel_60 : decode cX11_cancel 60 = .ok (.getfield 216, 3) := by decide +kernel
theorem dX11_cancel_63 : decode cX11_cancel 63 = .ok (.iload_n 2, 1) := by decide +kernel
theorem dX11_cancel_64 : decode cX11_cancel 64 = .ok (.bipush 10, 2) := by decide +kernel
theorem dX11_cancel_66 : decode cX11_cancel 66 = .ok (.isub, 1) := by decide +kernel
theorem dX11_cancel_67 : decode cX11_cancel 67 = .ok (.iaload, 1) := by decide +kernel
theorem dX11_cancel_68 : decode cX11_cancel 68 = .ok (.ireturn, 1) := by decide +kernel
theorem dX0_owesStill_0 : decode cX0_owesStill 0 = .ok (.aload_n 0, 1) := by decide +kernel
theorem dX0_owesStill_1 : decode cX0_owesStill 1 = .ok (.getfield 34, 3) := by decide +kernel
theorem dX0_owesStill_4 : decode cX0_owesStill 4 = .ok (.getfield 71, 3) := by decide +kernel
theorem dX0_owesStill_7 : decode cX0_owesStill 7 = .ok (.iload_n 2, 1) := by decide +kernel
theorem dX0_owesStill_8 : decode cX0_owesStill 8 = .ok (.iaload, 1) := by decide +kernel
theorem dX0_owesStill_9 : decode cX0_owesStill 9 = .ok (.iload_n 1, 1) := by decide +kernel
theorem dX0_owesStill_10 : decode cX0_owesStill 10 = .ok (.if_icmp .ne 16, 3) := by decide +kernel
theorem dX0_owesStill_13 : decode cX0_owesStill 13 = .ok (.aload_n 0, 1) := by decide +kernel
theorem dX0_owesStill_14 : decode cX0_owesStill 14 = .ok (.getfield 24, 3) := by decide +kernel
theorem dX0_owesStill_17 : decode cX0_owesStill 17 = .ok (.iload_n 2, 1) := by decide +kernel
theorem dX0_owesStill_18 : decode cX0_owesStill 18 = .ok (.baload, 1) := by decide +kernel
theorem dX0_owesStill_19 : decode cX0_owesStill 19 = .ok (.ifCond .ne 7, 3) := by decide +kernel
theorem dX0_owesStill_22 : decode cX0_owesStill 22 = .ok (.iconst 1, 1) := by decide +kernel
theorem dX0_owesStill_23 : decode cX0_owesStill 23 = .ok (.goto 4, 3) := by decide +kernel
theorem dX0_owesStill_26 : decode cX0_owesStill 26 = .ok (.iconst 0, 1) := by decide +kernel
theorem dX0_owesStill_27 : decode cX0_owesStill 27 = .ok (.ireturn, 1) := by decide +kernel
theorem dX0_costOfAll_0 : decode cX0_costOfAll 0 = .ok (.iconst 0, 1) := by decide +kernel
theorem dX0_costOfAll_1 : decode cX0_costOfAll 1 = .ok (.istore_n 2, 1) := by decide +kernel
theorem dX0_costOfAll_2 : decode cX0_costOfAll 2 = .ok (.iconst 0, 1) := by decide +kernel
theorem dX0_costOfAll_3 : decode cX0_costOfAll 3 = .ok (.istore_n 3, 1) := by decide +kernel
theorem dX0_costOfAll_4 : decode cX0_costOfAll 4 = .ok (.iload_n 3, 1) := by decide +kernel
theorem dX0_costOfAll_5 : decode cX0_costOfAll 5 = .ok (.aload_n 0, 1) := by decide +kernel
theorem dX0_costOfAll_6 : decode cX0_costOfAll 6 = .ok (.getfield 34, 3) := by decide +kernel
theorem dX0_costOfAll_9 : decode cX0_costOfAll 9 = .ok (.getfield 95, 3) := by decide +kernel
theorem dX0_costOfAll_12 : decode cX0_costOfAll 12 = .ok (.if_icmp .ge 26, 3) := by decide +kernel
theorem dX0_costOfAll_15 : decode cX0_costOfAll 15 = .ok (.aload_n 0, 1) := by decide +kernel
theorem dX0_costOfAll_16 : decode cX0_costOfAll 16 = .ok (.iload_n 1, 1) := by decide +kernel
theorem dX0_costOfAll_17 : decode cX0_costOfAll 17 = .ok (.iload_n 3, 1) := by decide +kernel
theorem dX0_costOfAll_18 : decode cX0_costOfAll 18 = .ok (.invokevirtual 106, 3) := by decide +kernel
theorem dX0_costOfAll_21 : decode cX0_costOfAll 21 = .ok (.ifCond .eq 11, 3) := by decide +kernel
theorem dX0_costOfAll_24 : decode cX0_costOfAll 24 = .ok (.iload_n 2, 1) := by decide +kernel
theorem dX0_costOfAll_25 : decode cX0_costOfAll 25 = .ok (.aload_n 0, 1) := by decide +kernel
theorem dX0_costOfAll_26 : decode cX0_costOfAll 26 = .ok (.iload_n 3, 1) := by decide +kernel
theorem dX0_costOfAll_27 : decode cX0_costOfAll 27 = .ok (.invokevirtual 78, 3) := by decide +kernel
theorem dX0_costOfAll_30 : decode cX0_costOfAll 30 = .ok (.iadd, 1) := by decide +kernel
theorem dX0_costOfAll_31 : decode cX0_costOfAll 31 = .ok (.istore_n 2, 1) := by decide +kernel
theorem dX0_costOfAll_32 : decode cX0_costOfAll 32 = .ok (.iinc 3 1, 3) := by decide +kernel
theorem dX0_costOfAll_35 : decode cX0_costOfAll 35 = .ok (.goto (-31), 3) := by decide +kernel
theorem dX0_costOfAll_38 : decode cX0_costOfAll 38 = .ok (.iload_n 2, 1) := by decide +kernel
theorem dX0_costOfAll_39 : decode cX0_costOfAll 39 = .ok (.ireturn, 1) := by decide +kernel
theorem dX0_settleAll_0 : decode cX0_settleAll 0 = .ok (.iconst 0, 1) := by decide +kernel
theorem dX0_settleAll_1 : decode cX0_settleAll 1 = .ok (.istore_n 2, 1) := by decide +kernel
theorem dX0_settleAll_2 : decode cX0_settleAll 2 = .ok (.iload_n 2, 1) := by decide +kernel
theorem dX0_settleAll_3 : decode cX0_settleAll 3 = .ok (.aload_n 0, 1) := by decide +kernel
theorem dX0_settleAll_4 : decode cX0_settleAll 4 = .ok (.getfield 34, 3) := by decide +kernel
theorem dX0_settleAll_7 : decode cX0_settleAll 7 = .ok (.getfield 95, 3) := by decide +kernel
theorem dX0_settleAll_10 : decode cX0_settleAll 10 = .ok (.if_icmp .ge 23, 3) := by decide +kernel
theorem dX0_settleAll_13 : decode cX0_settleAll 13 = .ok (.aload_n 0, 1) := by decide +kernel
theorem dX0_settleAll_14 : decode cX0_settleAll 14 = .ok (.iload_n 1, 1) := by decide +kernel
theorem dX0_settleAll_15 : decode cX0_settleAll 15 = .ok (.iload_n 2, 1) := by decide +kernel
theorem dX0_settleAll_16 : decode cX0_settleAll 16 = .ok (.invokevirtual 106, 3) := by decide +kernel
theorem dX0_settleAll_19 : decode cX0_settleAll 19 = .ok (.ifCond .eq 8, 3) := by decide +kernel
theorem dX0_settleAll_22 : decode cX0_settleAll 22 = .ok (.aload_n 0, 1) := by decide +kernel
theorem dX0_settleAll_23 : decode cX0_settleAll 23 = .ok (.iload_n 2, 1) := by decide +kernel
theorem dX0_settleAll_24 : decode cX0_settleAll 24 = .ok (.invokevirtual 102, 3) := by decide +kernel
theorem dX0_settleAll_27 : decode cX0_settleAll 27 = .ok (.iinc 2 1, 3) := by decide +kernel
theorem dX0_settleAll_30 : decode cX0_settleAll 30 = .ok (.goto (-28), 3) := by decide +kernel
theorem dX0_settleAll_33 : decode cX0_settleAll 33 = .ok (.return_, 1) := by decide +kernel
theorem dX0_payWhoCan_0 : decode cX0_payWhoCan 0 = .ok (.iconst 0, 1) := by decide +kernel
theorem dX0_payWhoCan_1 : decode cX0_payWhoCan 1 = .ok (.istore_n 1, 1) := by decide +kernel
theorem dX0_payWhoCan_2 : decode cX0_payWhoCan 2 = .ok (.iload_n 1, 1) := by decide +kernel
theorem dX0_payWhoCan_3 : decode cX0_payWhoCan 3 = .ok (.aload_n 0, 1) := by decide +kernel
theorem dX0_payWhoCan_4 : decode cX0_payWhoCan 4 = .ok (.getfield 34, 3) := by decide +kernel
theorem dX0_payWhoCan_7 : decode cX0_payWhoCan 7 = .ok (.getfield 109, 3) := by decide +kernel
theorem dX0_payWhoCan_10 : decode cX0_payWhoCan 10 = .ok (.if_icmp .ge 47, 3) := by decide +kernel
theorem dX0_payWhoCan_13 : decode cX0_payWhoCan 13 = .ok (.iconst 0, 1) := by decide +kernel
theorem dX0_payWhoCan_14 : decode cX0_payWhoCan 14 = .ok (.istore_n 2, 1) := by decide +kernel
theorem dX0_payWhoCan_15 : decode cX0_payWhoCan 15 = .ok (.iload_n 2, 1) := by decide +kernel
theorem dX0_payWhoCan_16 : decode cX0_payWhoCan 16 = .ok (.aload_n 0, 1) := by decide +kernel
theorem dX0_payWhoCan_17 : decode cX0_payWhoCan 17 = .ok (.getfield 34, 3) := by decide +kernel
theorem dX0_payWhoCan_20 : decode cX0_payWhoCan 20 = .ok (.getfield 109, 3) := by decide +kernel
theorem dX0_payWhoCan_23 : decode cX0_payWhoCan 23 = .ok (.if_icmp .ge 28, 3) := by decide +kernel
theorem dX0_payWhoCan_26 : decode cX0_payWhoCan 26 = .ok (.aload_n 0, 1) := by decide +kernel
theorem dX0_payWhoCan_27 : decode cX0_payWhoCan 27 = .ok (.getfield 9, 3) := by decide +kernel
theorem dX0_payWhoCan_30 : decode cX0_payWhoCan 30 = .ok (.iload_n 2, 1) := by decide +kernel
theorem dX0_payWhoCan_31 : decode cX0_payWhoCan 31 = .ok (.iaload, 1) := by decide +kernel
theorem dX0_payWhoCan_32 : decode cX0_payWhoCan 32 = .ok (.aload_n 0, 1) := by decide +kernel
theorem dX0_payWhoCan_33 : decode cX0_payWhoCan 33 = .ok (.iload_n 2, 1) := by decide +kernel
theorem dX0_payWhoCan_34 : decode cX0_payWhoCan 34 = .ok (.invokevirtual 112, 3) := by decide +kernel
theorem dX0_payWhoCan_37 : decode cX0_payWhoCan 37 = .ok (.if_icmp .lt 8, 3) := by decide +kernel
theorem dX0_payWhoCan_40 : decode cX0_payWhoCan 40 = .ok (.aload_n 0, 1) := by decide +kernel
theorem dX0_payWhoCan_41 : decode cX0_payWhoCan 41 = .ok (.iload_n 2, 1) := by decide +kernel
theorem dX0_payWhoCan_42 : decode cX0_payWhoCan 42 = .ok (.invokevirtual 115, 3) := by decide +kernel
theorem dX0_payWhoCan_45 : decode cX0_payWhoCan 45 = .ok (.iinc 2 1, 3) := by decide +kernel
theorem dX0_payWhoCan_48 : decode cX0_payWhoCan 48 = .ok (.goto (-33), 3) := by decide +kernel
theorem dX0_payWhoCan_51 : decode cX0_payWhoCan 51 = .ok (.iinc 1 1, 3) := by decide +kernel
theorem dX0_payWhoCan_54 : decode cX0_payWhoCan 54 = .ok (.goto (-52), 3) := by decide +kernel
theorem dX0_payWhoCan_57 : decode cX0_payWhoCan 57 = .ok (.iconst 0, 1) := by decide +kernel
theorem dX0_payWhoCan_58 : decode cX0_payWhoCan 58 = .ok (.istore_n 1, 1) := by decide +kernel
theorem dX0_payWhoCan_59 : decode cX0_payWhoCan 59 = .ok (.iconst 0, 1) := by decide +kernel
theorem dX0_payWhoCan_60 : decode cX0_payWhoCan 60 = .ok (.istore_n 2, 1) := by decide +kernel
theorem dX0_payWhoCan_61 : decode cX0_payWhoCan 61 = .ok (.iload_n 2, 1) := by decide +kernel
theorem dX0_payWhoCan_62 : decode cX0_payWhoCan 62 = .ok (.aload_n 0, 1) := by decide +kernel
theorem dX0_payWhoCan_63 : decode cX0_payWhoCan 63 = .ok (.getfield 34, 3) := by decide +kernel
theorem dX0_payWhoCan_66 : decode cX0_payWhoCan 66 = .ok (.getfield 109, 3) := by decide +kernel
theorem dX0_payWhoCan_69 : decode cX0_payWhoCan 69 = .ok (.if_icmp .ge 23, 3) := by decide +kernel
theorem dX0_payWhoCan_72 : decode cX0_payWhoCan 72 = .ok (.aload_n 0, 1) := by decide +kernel
theorem dX0_payWhoCan_73 : decode cX0_payWhoCan 73 = .ok (.iload_n 2, 1) := by decide +kernel
theorem dX0_payWhoCan_74 : decode cX0_payWhoCan 74 = .ok (.invokevirtual 112, 3) := by decide +kernel
theorem dX0_payWhoCan_77 : decode cX0_payWhoCan 77 = .ok (.ifCond .ne 9, 3) := by decide +kernel
theorem dX0_payWhoCan_80 : decode cX0_payWhoCan 80 = .ok (.iload_n 1, 1) := by decide +kernel
theorem dX0_payWhoCan_81 : decode cX0_payWhoCan 81 = .ok (.iconst 1, 1) := by decide +kernel
theorem dX0_payWhoCan_82 : decode cX0_payWhoCan 82 = .ok (.iload_n 2, 1) := by decide +kernel
theorem dX0_payWhoCan_83 : decode cX0_payWhoCan 83 = .ok (.ishl, 1) := by decide +kernel
theorem dX0_payWhoCan_84 : decode cX0_payWhoCan 84 = .ok (.ior, 1) := by decide +kernel
theorem dX0_payWhoCan_85 : decode cX0_payWhoCan 85 = .ok (.istore_n 1, 1) := by decide +kernel
theorem dX0_payWhoCan_86 : decode cX0_payWhoCan 86 = .ok (.iinc 2 1, 3) := by decide +kernel
theorem dX0_payWhoCan_89 : decode cX0_payWhoCan 89 = .ok (.goto (-28), 3) := by decide +kernel
theorem dX0_payWhoCan_92 : decode cX0_payWhoCan 92 = .ok (.iload_n 1, 1) := by decide +kernel
theorem dX0_payWhoCan_93 : decode cX0_payWhoCan 93 = .ok (.ireturn, 1) := by decide +kernel
theorem dX11_sound_0 : decode cX11_sound 0 = .ok (.aload_n 0, 1) := by decide +kernel
theorem dX11_sound_1 : decode cX11_sound 1 = .ok (.getfield 19, 3) := by decide +kernel
theorem dX11_sound_4 : decode cX11_sound 4 = .ok (.getfield 90, 3) := by decide +kernel
theorem dX11_sound_7 : decode cX11_sound 7 = .ok (.ifCond .ne 6, 3) := by decide +kernel
theorem dX11_sound_10 : decode cX11_sound 10 = .ok (.bipush (-103), 2) := by decide +kernel
theorem dX11_sound_12 : decode cX11_sound 12 = .ok (.ireturn, 1) := by decide +kernel
theorem dX11_sound_13 : decode cX11_sound 13 = .ok (.aload_n 0, 1) := by decide +kernel
theorem dX11_sound_14 : decode cX11_sound 14 = .ok (.getfield 35, 3) := by decide +kernel
theorem dX11_sound_17 : decode cX11_sound 17 = .ok (.aload_n 0, 1) := by decide +kernel
theorem dX11_sound_18 : decode cX11_sound 18 = .ok (.getfield 28, 3) := by decide +kernel
theorem dX11_sound_21 : decode cX11_sound 21 = .ok (.invokevirtual 219, 3) := by decide +kernel
theorem dX11_sound_24 : decode cX11_sound 24 = .ok (.aload_n 0, 1) := by decide +kernel
theorem dX11_sound_25 : decode cX11_sound 25 = .ok (.getfield 35, 3) := by decide +kernel
theorem dX11_sound_28 : decode cX11_sound 28 = .ok (.invokevirtual 222, 3) := by decide +kernel
theorem dX11_sound_31 : decode cX11_sound 31 = .ok (.ireturn, 1) := by decide +kernel
theorem dX10_spreadFrom_0 : decode cX10_spreadFrom 0 = .ok (.iconst 0, 1) := by decide +kernel
theorem dX10_spreadFrom_1 : decode cX10_spreadFrom 1 = .ok (.istore 4, 2) := by decide +kernel
theorem dX10_spreadFrom_3 : decode cX10_spreadFrom 3 = .ok (.iconst 0, 1) := by decide +kernel
theorem dX10_spreadFrom_4 : decode cX10_spreadFrom 4 = .ok (.istore 5, 2) := by decide +kernel
theorem dX10_spreadFrom_6 : decode cX10_spreadFrom 6 = .ok (.iload 5, 2) := by decide +kernel
theorem dX10_spreadFrom_8 : decode cX10_spreadFrom 8 = .ok (.aload_n 0, 1) := by decide +kernel
theorem dX10_spreadFrom_9 : decode cX10_spreadFrom 9 = .ok (.getfield 21, 3) := by decide +kernel
theorem dX10_spreadFrom_12 : decode cX10_spreadFrom 12 = .ok (.getfield 48, 3) := by decide +kernel
theorem dX10_spreadFrom_15 : decode cX10_spreadFrom 15 = .ok (.if_icmp .ge 35, 3) := by decide +kernel
theorem dX10_spreadFrom_18 : decode cX10_spreadFrom 18 = .ok (.aload_n 0, 1) := by decide +kernel
theorem dX10_spreadFrom_19 : decode cX10_spreadFrom 19 = .ok (.getfield 21, 3) := by decide +kernel
theorem dX10_spreadFrom_22 : decode cX10_spreadFrom 22 = .ok (.iload 5, 2) := by decide +kernel
theorem dX10_spreadFrom_24 : decode cX10_spreadFrom 24 = .ok (.iload_n 3, 1) := by decide +kernel
theorem dX10_spreadFrom_25 : decode cX10_spreadFrom 25 = .ok (.invokevirtual 65, 3) := by decide +kernel
theorem dX10_spreadFrom_28 : decode cX10_spreadFrom 28 = .ok (.ifCond .eq 16, 3) := by decide +kernel
theorem dX10_spreadFrom_31 : decode cX10_spreadFrom 31 = .ok (.aload_n 1, 1) := by decide +kernel
theorem dX10_spreadFrom_32 : decode cX10_spreadFrom 32 = .ok (.iload_n 2, 1) := by decide +kernel
theorem dX10_spreadFrom_33 : decode cX10_spreadFrom 33 = .ok (.iload 5, 2) := by decide +kernel
theorem dX10_spreadFrom_35 : decode cX10_spreadFrom 35 = .ok (.invokevirtual 51, 3) := by decide +kernel
theorem dX10_spreadFrom_38 : decode cX10_spreadFrom 38 = .ok (.ifCond .eq 6, 3) := by decide +kernel
theorem dX10_spreadFrom_41 : decode cX10_spreadFrom 41 = .ok (.iinc 4 1, 3) := by decide +kernel
theorem dX10_spreadFrom_44 : decode cX10_spreadFrom 44 = .ok (.iinc 5 1, 3) := by decide +kernel
theorem dX10_spreadFrom_47 : decode cX10_spreadFrom 47 = .ok (.goto (-41), 3) := by decide +kernel
theorem dX10_spreadFrom_50 : decode cX10_spreadFrom 50 = .ok (.iload 4, 2) := by decide +kernel
theorem dX10_spreadFrom_52 : decode cX10_spreadFrom 52 = .ok (.ifCond .ne 19, 3) := by decide +kernel
theorem dX10_spreadFrom_55 : decode cX10_spreadFrom 55 = .ok (.aload_n 0, 1) := by decide +kernel
theorem dX10_spreadFrom_56 : decode cX10_spreadFrom 56 = .ok (.getfield 18, 3) := by decide +kernel
theorem dX10_spreadFrom_59 : decode cX10_spreadFrom 59 = .ok (.iload_n 3, 1) := by decide +kernel
theorem dX10_spreadFrom_60 : decode cX10_spreadFrom 60 = .ok (.dup2, 1) := by decide +kernel
theorem dX10_spreadFrom_61 : decode cX10_spreadFrom 61 = .ok (.iaload, 1) := by decide +kernel
theorem dX10_spreadFrom_62 : decode cX10_spreadFrom 62 = .ok (.aload_n 0, 1) := by decide +kernel
theorem dX10_spreadFrom_63 : decode cX10_spreadFrom 63 = .ok (.getfield 15, 3) := by decide +kernel
theorem dX10_spreadFrom_66 : decode cX10_spreadFrom 66 = .ok (.iload_n 3, 1) := by decide +kernel
theorem dX10_spreadFrom_67 : decode cX10_spreadFrom 67 = .ok (.iaload, 1) := by decide +kernel
theorem dX10_spreadFrom_68 : decode cX10_spreadFrom 68 = .ok (.iadd, 1) := by decide +kernel
theorem dX10_spreadFrom_69 : decode cX10_spreadFrom 69 = .ok (.iastore, 1) := by decide +kernel
theorem dX10_spreadFrom_70 : decode cX10_spreadFrom 70 = .ok (.return_, 1) := by decide +kernel
theorem dX10_spreadFrom_71 : decode cX10_spreadFrom 71 = .ok (.iconst 0, 1) := by decide +kernel
theorem dX10_spreadFrom_72 : decode cX10_spreadFrom 72 = .ok (.istore 5, 2) := by decide +kernel
theorem dX10_spreadFrom_74 : decode cX10_spreadFrom 74 = .ok (.iload 5, 2) := by decide +kernel
theorem dX10_spreadFrom_76 : decode cX10_spreadFrom 76 = .ok (.aload_n 0, 1) := by decide +kernel
theorem dX10_spreadFrom_77 : decode cX10_spreadFrom 77 = .ok (.getfield 21, 3) := by decide +kernel
theorem dX10_spreadFrom_80 : decode cX10_spreadFrom 80 = .ok (.getfield 48, 3) := by decide +kernel
theorem dX10_spreadFrom_83 : decode cX10_spreadFrom 83 = .ok (.if_icmp .ge 59, 3) := by decide +kernel
theorem dX10_spreadFrom_86 : decode cX10_spreadFrom 86 = .ok (.aload_n 0, 1) := by decide +kernel
theorem dX10_spreadFrom_87 : decode cX10_spreadFrom 87 = .ok (.getfield 21, 3) := by decide +kernel
theorem dX10_spreadFrom_90 : decode cX10_spreadFrom 90 = .ok (.iload 5, 2) := by decide +kernel
theorem dX10_spreadFrom_92 : decode cX10_spreadFrom 92 = .ok (.iload_n 3, 1) := by decide +kernel
theorem dX10_spreadFrom_93 : decode cX10_spreadFrom 93 = .ok (.invokevirtual 65, 3) := by decide +kernel
theorem dX10_spreadFrom_96 : decode cX10_spreadFrom 96 = .ok (.ifCond .eq 40, 3) := by decide +kernel
theorem dX10_spreadFrom_99 : decode cX10_spreadFrom 99 = .ok (.aload_n 1, 1) := by decide +kernel
theorem dX10_spreadFrom_100 : decode cX10_spreadFrom 100 = .ok (.iload_n 2, 1) := by decide +kernel
theorem dX10_spreadFrom_101 : decode cX10_spreadFrom 101 = .ok (.iload 5, 2) := by decide +kernel
theorem dX10_spreadFrom_103 : decode cX10_spreadFrom 103 = .ok (.invokevirtual 51, 3) := by decide +kernel
theorem dX10_spreadFrom_106 : decode cX10_spreadFrom 106 = .ok (.ifCond .eq 30, 3) := by decide +kernel
theorem dX10_spreadFrom_109 : decode cX10_spreadFrom 109 = .ok (.aload_n 0, 1) := by decide +kernel
theorem dX10_spreadFrom_110 : decode cX10_spreadFrom 110 = .ok (.getfield 18, 3) := by decide +kernel
theorem dX10_spreadFrom_113 : decode cX10_spreadFrom 113 = .ok (.aload_n 0, 1) := by decide +kernel
theorem dX10_spreadFrom_114 : decode cX10_spreadFrom 114 = .ok (.getfield 21, 3) := by decide +kernel
theorem dX10_spreadFrom_117 : decode cX10_spreadFrom 117 = .ok (.iload 5, 2) := by decide +kernel
theorem dX10_spreadFrom_119 : decode cX10_spreadFrom 119 = .ok (.iload_n 3, 1) := by decide +kernel
theorem dX10_spreadFrom_120 : decode cX10_spreadFrom 120 = .ok (.invokevirtual 38, 3) := by decide +kernel
theorem dX10_spreadFrom_123 : decode cX10_spreadFrom 123 = .ok (.dup2, 1) := by decide +kernel
theorem dX10_spreadFrom_124 : decode cX10_spreadFrom 124 = .ok (.iaload, 1) := by decide +kernel
theorem dX10_spreadFrom_125 : decode cX10_spreadFrom 125 = .ok (.aload_n 0, 1) := by decide +kernel
theorem dX10_spreadFrom_126 : decode cX10_spreadFrom 126 = .ok (.getfield 15, 3) := by decide +kernel
theorem dX10_spreadFrom_129 : decode cX10_spreadFrom 129 = .ok (.iload_n 3, 1) := by decide +kernel
theorem dX10_spreadFrom_130 : decode cX10_spreadFrom 130 = .ok (.iaload, 1) := by decide +kernel
theorem dX10_spreadFrom_131 : decode cX10_spreadFrom 131 = .ok (.iload 4, 2) := by decide +kernel
theorem dX10_spreadFrom_133 : decode cX10_spreadFrom 133 = .ok (.idiv, 1) := by decide +kernel
theorem dX10_spreadFrom_134 : decode cX10_spreadFrom 134 = .ok (.iadd, 1) := by decide +kernel
theorem dX10_spreadFrom_135 : decode cX10_spreadFrom 135 = .ok (.iastore, 1) := by decide +kernel
theorem dX10_spreadFrom_136 : decode cX10_spreadFrom 136 = .ok (.iinc 5 1, 3) := by decide +kernel
theorem dX10_spreadFrom_139 : decode cX10_spreadFrom 139 = .ok (.goto (-65), 3) := by decide +kernel
theorem dX10_spreadFrom_142 : decode cX10_spreadFrom 142 = .ok (.return_, 1) := by decide +kernel
theorem dX10_spread_0 : decode cX10_spread 0 = .ok (.iconst 0, 1) := by decide +kernel
theorem dX10_spread_1 : decode cX10_spread 1 = .ok (.istore_n 3, 1) := by decide +kernel
theorem dX10_spread_2 : decode cX10_spread 2 = .ok (.iload_n 3, 1) := by decide +kernel
theorem dX10_spread_3 : decode cX10_spread 3 = .ok (.bipush 6, 2) := by decide +kernel
theorem dX10_spread_5 : decode cX10_spread 5 = .ok (.if_icmp .ge 16, 3) := by decide +kernel
theorem dX10_spread_8 : decode cX10_spread 8 = .ok (.aload_n 0, 1) := by decide +kernel
theorem dX10_spread_9 : decode cX10_spread 9 = .ok (.getfield 18, 3) := by decide +kernel
theorem dX10_spread_12 : decode cX10_spread 12 = .ok (.iload_n 3, 1) := by decide +kernel
theorem dX10_spread_13 : decode cX10_spread 13 = .ok (.iconst 0, 1) := by decide +kernel
theorem dX10_spread_14 : decode cX10_spread 14 = .ok (.iastore, 1) := by decide +kernel
theorem dX10_spread_15 : decode cX10_spread 15 = .ok (.iinc 3 1, 3) := by decide +kernel
theorem dX10_spread_18 : decode cX10_spread 18 = .ok (.goto (-16), 3) := by decide +kernel
theorem dX10_spread_21 : decode cX10_spread 21 = .ok (.iconst 0, 1) := by decide +kernel
theorem dX10_spread_22 : decode cX10_spread 22 = .ok (.istore_n 3, 1) := by decide +kernel
theorem dX10_spread_23 : decode cX10_spread 23 = .ok (.iload_n 3, 1) := by decide +kernel
theorem dX10_spread_24 : decode cX10_spread 24 = .ok (.aload_n 0, 1) := by decide +kernel
theorem dX10_spread_25 : decode cX10_spread 25 = .ok (.getfield 21, 3) := by decide +kernel
theorem dX10_spread_28 : decode cX10_spread 28 = .ok (.getfield 44, 3) := by decide +kernel
theorem dX10_spread_31 : decode cX10_spread 31 = .ok (.if_icmp .ge 25, 3) := by decide +kernel
theorem dX10_spread_34 : decode cX10_spread 34 = .ok (.aload_n 0, 1) := by decide +kernel
theorem dX10_spread_35 : decode cX10_spread 35 = .ok (.getfield 15, 3) := by decide +kernel
theorem dX10_spread_38 : decode cX10_spread 38 = .ok (.iload_n 3, 1) := by decide +kernel
theorem dX10_spread_39 : decode cX10_spread 39 = .ok (.iaload, 1) := by decide +kernel
theorem dX10_spread_40 : decode cX10_spread 40 = .ok (.ifCond .le 10, 3) := by decide +kernel
theorem dX10_spread_43 : decode cX10_spread 43 = .ok (.aload_n 0, 1) := by decide +kernel
theorem dX10_spread_44 : decode cX10_spread 44 = .ok (.aload_n 1, 1) := by decide +kernel
theorem dX10_spread_45 : decode cX10_spread 45 = .ok (.iload_n 2, 1) := by decide +kernel
theorem dX10_spread_46 : decode cX10_spread 46 = .ok (.iload_n 3, 1) := by decide +kernel
theorem dX10_spread_47 : decode cX10_spread 47 = .ok (.invokevirtual 73, 3) := by decide +kernel
theorem dX10_spread_50 : decode cX10_spread 50 = .ok (.iinc 3 1, 3) := by decide +kernel
theorem dX10_spread_53 : decode cX10_spread 53 = .ok (.goto (-30), 3) := by decide +kernel
theorem dX10_spread_56 : decode cX10_spread 56 = .ok (.iconst 0, 1) := by decide +kernel
theorem dX10_spread_57 : decode cX10_spread 57 = .ok (.istore_n 3, 1) := by decide +kernel
theorem dX10_spread_58 : decode cX10_spread 58 = .ok (.iload_n 3, 1) := by decide +kernel
theorem dX10_spread_59 : decode cX10_spread 59 = .ok (.bipush 6, 2) := by decide +kernel
theorem dX10_spread_61 : decode cX10_spread 61 = .ok (.if_icmp .ge 21, 3) := by decide +kernel
theorem dX10_spread_64 : decode cX10_spread 64 = .ok (.aload_n 0, 1) := by decide +kernel
theorem dX10_spread_65 : decode cX10_spread 65 = .ok (.getfield 15, 3) := by decide +kernel
theorem dX10_spread_68 : decode cX10_spread 68 = .ok (.iload_n 3, 1) := by decide +kernel
theorem dX10_spread_69 : decode cX10_spread 69 = .ok (.aload_n 0, 1) := by decide +kernel
theorem dX10_spread_70 : decode cX10_spread 70 = .ok (.getfield 18, 3) := by decide +kernel
theorem dX10_spread_73 : decode cX10_spread 73 = .ok (.iload_n 3, 1) := by decide +kernel
theorem dX10_spread_74 : decode cX10_spread 74 = .ok (.iaload, 1) := by decide +kernel
theorem dX10_spread_75 : decode cX10_spread 75 = .ok (.iastore, 1) := by decide +kernel
theorem dX10_spread_76 : decode cX10_spread 76 = .ok (.iinc 3 1, 3) := by decide +kernel
theorem dX10_spread_79 : decode cX10_spread 79 = .ok (.goto (-21), 3) := by decide +kernel
theorem dX10_spread_82 : decode cX10_spread 82 = .ok (.return_, 1) := by decide +kernel
theorem dX10_metParts_0 : decode cX10_metParts 0 = .ok (.aload_n 1, 1) := by decide +kernel
theorem dX10_metParts_1 : decode cX10_metParts 1 = .ok (.getfield 29, 3) := by decide +kernel
theorem dX10_metParts_4 : decode cX10_metParts 4 = .ok (.iload_n 2, 1) := by decide +kernel
theorem dX10_metParts_5 : decode cX10_metParts 5 = .ok (.iaload, 1) := by decide +kernel
theorem dX10_metParts_6 : decode cX10_metParts 6 = .ok (.istore 5, 2) := by decide +kernel
theorem dX10_metParts_8 : decode cX10_metParts 8 = .ok (.iload 5, 2) := by decide +kernel
theorem dX10_metParts_10 : decode cX10_metParts 10 = .ok (.iload_n 3, 1) := by decide +kernel
theorem dX10_metParts_11 : decode cX10_metParts 11 = .ok (.if_icmp .ne 6, 3) := by decide +kernel
theorem dX10_metParts_14 : decode cX10_metParts 14 = .ok (.ldc 68, 2) := by decide +kernel
theorem dX10_metParts_16 : decode cX10_metParts 16 = .ok (.ireturn, 1) := by decide +kernel
theorem dX10_metParts_17 : decode cX10_metParts 17 = .ok (.iconst 0, 1) := by decide +kernel
theorem dX10_metParts_18 : decode cX10_metParts 18 = .ok (.istore 6, 2) := by decide +kernel
theorem dX10_metParts_20 : decode cX10_metParts 20 = .ok (.iload 6, 2) := by decide +kernel
theorem dX10_metParts_22 : decode cX10_metParts 22 = .ok (.bipush 6, 2) := by decide +kernel
theorem dX10_metParts_24 : decode cX10_metParts 24 = .ok (.if_icmp .ge 17, 3) := by decide +kernel
theorem dX10_metParts_27 : decode cX10_metParts 27 = .ok (.aload_n 0, 1) := by decide +kernel
theorem dX10_metParts_28 : decode cX10_metParts 28 = .ok (.getfield 15, 3) := by decide +kernel
theorem dX10_metParts_31 : decode cX10_metParts 31 = .ok (.iload 6, 2) := by decide +kernel
theorem dX10_metParts_33 : decode cX10_metParts 33 = .ok (.iconst 0, 1) := by decide +kernel
theorem dX10_metParts_34 : decode cX10_metParts 34 = .ok (.iastore, 1) := by decide +kernel
theorem dX10_metParts_35 : decode cX10_metParts 35 = .ok (.iinc 6 1, 3) := by decide +kernel
theorem dX10_metParts_38 : decode cX10_metParts 38 = .ok (.goto (-18), 3) := by decide +kernel
theorem dX10_metParts_41 : decode cX10_metParts 41 = .ok (.aload_n 0, 1) := by decide +kernel
theorem dX10_metParts_42 : decode cX10_metParts 42 = .ok (.getfield 15, 3) := by decide +kernel
theorem dX10_metParts_45 : decode cX10_metParts 45 = .ok (.iload 5, 2) := by decide +kernel
theorem dX10_metParts_47 : decode cX10_metParts 47 = .ok (.ldc 68, 2) := by decide +kernel
theorem dX10_metParts_49 : decode cX10_metParts 49 = .ok (.iastore, 1) := by decide +kernel
theorem dX10_metParts_50 : decode cX10_metParts 50 = .ok (.iconst 0, 1) := by decide +kernel
theorem dX10_metParts_51 : decode cX10_metParts 51 = .ok (.istore 6, 2) := by decide +kernel
theorem dX10_metParts_53 : decode cX10_metParts 53 = .ok (.iconst 0, 1) := by decide +kernel
theorem dX10_metParts_54 : decode cX10_metParts 54 = .ok (.istore 7, 2) := by decide +kernel
theorem dX10_metParts_56 : decode cX10_metParts 56 = .ok (.iload 7, 2) := by decide +kernel
theorem dX10_metParts_58 : decode cX10_metParts 58 = .ok (.iload 4, 2) := by decide +kernel
theorem dX10_metParts_60 : decode cX10_metParts 60 = .ok (.if_icmp .ge 33, 3) := by decide +kernel
theorem dX10_metParts_63 : decode cX10_metParts 63 = .ok (.aload_n 0, 1) := by decide +kernel
theorem dX10_metParts_64 : decode cX10_metParts 64 = .ok (.aload_n 1, 1) := by decide +kernel
theorem dX10_metParts_65 : decode cX10_metParts 65 = .ok (.iload_n 2, 1) := by decide +kernel
theorem dX10_metParts_66 : decode cX10_metParts 66 = .ok (.invokevirtual 69, 3) := by decide +kernel
theorem dX10_metParts_69 : decode cX10_metParts 69 = .ok (.iload 6, 2) := by decide +kernel
theorem dX10_metParts_71 : decode cX10_metParts 71 = .ok (.aload_n 0, 1) := by decide +kernel
theorem dX10_metParts_72 : decode cX10_metParts 72 = .ok (.getfield 15, 3) := by decide +kernel
theorem dX10_metParts_75 : decode cX10_metParts 75 = .ok (.iload_n 3, 1) := by decide +kernel
theorem dX10_metParts_76 : decode cX10_metParts 76 = .ok (.iaload, 1) := by decide +kernel
theorem dX10_metParts_77 : decode cX10_metParts 77 = .ok (.iadd, 1) := by decide +kernel
theorem dX10_metParts_78 : decode cX10_metParts 78 = .ok (.istore 6, 2) := by decide +kernel
theorem dX10_metParts_80 : decode cX10_metParts 80 = .ok (.aload_n 0, 1) := by decide +kernel
theorem dX10_metParts_81 : decode cX10_metParts 81 = .ok (.getfield 15, 3) := by decide +kernel
theorem dX10_metParts_84 : decode cX10_metParts 84 = .ok (.iload_n 3, 1) := by decide +kernel
theorem dX10_metParts_85 : decode cX10_metParts 85 = .ok (.iconst 0, 1) := by decide +kernel
theorem dX10_metParts_86 : decode cX10_metParts 86 = .ok (.iastore, 1) := by decide +kernel
theorem dX10_metParts_87 : decode cX10_metParts 87 = .ok (.iinc 7 1, 3) := by decide +kernel
theorem dX10_metParts_90 : decode cX10_metParts 90 = .ok (.goto (-34), 3) := by decide +kernel
theorem dX10_metParts_93 : decode cX10_metParts 93 = .ok (.iload 6, 2) := by decide +kernel
theorem dX10_metParts_95 : decode cX10_metParts 95 = .ok (.ireturn, 1) := by decide +kernel
theorem dX11_commonDivisor_0 : decode cX11_commonDivisor 0 = .ok (.iload_n 1, 1) := by decide +kernel
theorem dX11_commonDivisor_1 : decode cX11_commonDivisor 1 = .ok (.istore_n 2, 1) := by decide +kernel
theorem dX11_commonDivisor_2 : decode cX11_commonDivisor 2 = .ok (.iload_n 0, 1) := by decide +kernel
theorem dX11_commonDivisor_3 : decode cX11_commonDivisor 3 = .ok (.istore_n 3, 1) := by decide +kernel
theorem dX11_commonDivisor_4 : decode cX11_commonDivisor 4 = .ok (.iconst 0, 1) := by decide +kernel
theorem dX11_commonDivisor_5 : decode cX11_commonDivisor 5 = .ok (.istore 4, 2) := by decide +kernel
theorem dX11_commonDivisor_7 : decode cX11_commonDivisor 7 = .ok (.iload 4, 2) := by decide +kernel
theorem dX11_commonDivisor_9 : decode cX11_commonDivisor 9 = .ok (.bipush 64, 2) := by decide +kernel
theorem dX11_commonDivisor_11 : decode cX11_commonDivisor 11 = .ok (.if_icmp .ge 23, 3) := by decide +kernel
theorem dX11_commonDivisor_14 : decode cX11_commonDivisor 14 = .ok (.iload_n 3, 1) := by decide +kernel
theorem dX11_commonDivisor_15 : decode cX11_commonDivisor 15 = .ok (.ifCond .le 19, 3) := by decide +kernel
theorem dX11_commonDivisor_18 : decode cX11_commonDivisor 18 = .ok (.iload_n 2, 1) := by decide +kernel
theorem dX11_commonDivisor_19 : decode cX11_commonDivisor 19 = .ok (.iload_n 3, 1) := by decide +kernel
theorem dX11_commonDivisor_20 : decode cX11_commonDivisor 20 = .ok (.irem, 1) := by decide +kernel
theorem dX11_commonDivisor_21 : decode cX11_commonDivisor 21 = .ok (.istore 5, 2) := by decide +kernel
theorem dX11_commonDivisor_23 : decode cX11_commonDivisor 23 = .ok (.iload_n 3, 1) := by decide +kernel
theorem dX11_commonDivisor_24 : decode cX11_commonDivisor 24 = .ok (.istore_n 2, 1) := by decide +kernel
theorem dX11_commonDivisor_25 : decode cX11_commonDivisor 25 = .ok (.iload 5, 2) := by decide +kernel
theorem dX11_commonDivisor_27 : decode cX11_commonDivisor 27 = .ok (.istore_n 3, 1) := by decide +kernel
theorem dX11_commonDivisor_28 : decode cX11_commonDivisor 28 = .ok (.iinc 4 1, 3) := by decide +kernel
theorem dX11_commonDivisor_31 : decode cX11_commonDivisor 31 = .ok (.goto (-24), 3) := by decide +kernel
theorem dX11_commonDivisor_34 : decode cX11_commonDivisor 34 = .ok (.iload_n 2, 1) := by decide +kernel
theorem dX11_commonDivisor_35 : decode cX11_commonDivisor 35 = .ok (.ifCond .le 7, 3) := by decide +kernel
theorem dX11_commonDivisor_38 : decode cX11_commonDivisor 38 = .ok (.iload_n 2, 1) := by decide +kernel
theorem dX11_commonDivisor_39 : decode cX11_commonDivisor 39 = .ok (.goto 4, 3) := by decide +kernel
theorem dX11_commonDivisor_42 : decode cX11_commonDivisor 42 = .ok (.iconst 1, 1) := by decide +kernel
theorem dX11_commonDivisor_43 : decode cX11_commonDivisor 43 = .ok (.ireturn, 1) := by decide +kernel
theorem dX11_met_0 : decode cX11_met 0 = .ok (.aload_n 0, 1) := by decide +kernel
theorem dX11_met_1 : decode cX11_met 1 = .ok (.iload_n 1, 1) := by decide +kernel
theorem dX11_met_2 : decode cX11_met 2 = .ok (.invokevirtual 93, 3) := by decide +kernel
theorem dX11_met_5 : decode cX11_met 5 = .ok (.ifCond .ne 16, 3) := by decide +kernel
theorem dX11_met_8 : decode cX11_met 8 = .ok (.aload_n 0, 1) := by decide +kernel
theorem dX11_met_9 : decode cX11_met 9 = .ok (.iload_n 2, 1) := by decide +kernel
theorem dX11_met_10 : decode cX11_met 10 = .ok (.invokevirtual 93, 3) := by decide +kernel
theorem dX11_met_13 : decode cX11_met 13 = .ok (.ifCond .ne 8, 3) := by decide +kernel
theorem dX11_met_16 : decode cX11_met 16 = .ok (.iload_n 1, 1) := by decide +kernel
theorem dX11_met_17 : decode cX11_met 17 = .ok (.iload_n 2, 1) := by decide +kernel
theorem dX11_met_18 : decode cX11_met 18 = .ok (.if_icmp .ne 6, 3) := by decide +kernel
theorem dX11_met_21 : decode cX11_met 21 = .ok (.bipush (-101), 2) := by decide +kernel
theorem dX11_met_23 : decode cX11_met 23 = .ok (.ireturn, 1) := by decide +kernel
theorem dX11_met_24 : decode cX11_met 24 = .ok (.iload_n 3, 1) := by decide +kernel
theorem dX11_met_25 : decode cX11_met 25 = .ok (.iconst 1, 1) := by decide +kernel
theorem dX11_met_26 : decode cX11_met 26 = .ok (.if_icmp .lt 19, 3) := by decide +kernel
theorem dX11_met_29 : decode cX11_met 29 = .ok (.iload_n 3, 1) := by decide +kernel
theorem dX11_met_30 : decode cX11_met 30 = .ok (.iconst 3, 1) := by decide +kernel
theorem dX11_met_31 : decode cX11_met 31 = .ok (.if_icmp .gt 14, 3) := by decide +kernel
theorem dX11_met_34 : decode cX11_met 34 = .ok (.iload 4, 2) := by decide +kernel
theorem dX11_met_36 : decode cX11_met 36 = .ok (.ifCond .lt 9, 3) := by decide +kernel
theorem dX11_met_39 : decode cX11_met 39 = .ok (.iload 4, 2) := by decide +kernel
theorem dX11_met_41 : decode cX11_met 41 = .ok (.iconst 1, 1) := by decide +kernel
theorem dX11_met_42 : decode cX11_met 42 = .ok (.if_icmp .le 6, 3) := by decide +kernel
theorem dX11_met_45 : decode cX11_met 45 = .ok (.bipush (-102), 2) := by decide +kernel
theorem dX11_met_47 : decode cX11_met 47 = .ok (.ireturn, 1) := by decide +kernel
theorem dX11_met_48 : decode cX11_met 48 = .ok (.aload_n 0, 1) := by decide +kernel
theorem dX11_met_49 : decode cX11_met 49 = .ok (.getfield 41, 3) := by decide +kernel
theorem dX11_met_52 : decode cX11_met 52 = .ok (.aload_n 0, 1) := by decide +kernel
theorem dX11_met_53 : decode cX11_met 53 = .ok (.getfield 28, 3) := by decide +kernel
theorem dX11_met_56 : decode cX11_met 56 = .ok (.iload_n 1, 1) := by decide +kernel
theorem dX11_met_57 : decode cX11_met 57 = .ok (.aload_n 0, 1) := by decide +kernel
theorem dX11_met_58 : decode cX11_met 58 = .ok (.getfield 28, 3) := by decide +kernel
theorem dX11_met_61 : decode cX11_met 61 = .ok (.getfield 110, 3) := by decide +kernel
theorem dX11_met_64 : decode cX11_met 64 = .ok (.iload_n 2, 1) := by decide +kernel
theorem dX11_met_65 : decode cX11_met 65 = .ok (.iaload, 1) := by decide +kernel
theorem dX11_met_66 : decode cX11_met 66 = .ok (.iload_n 3, 1) := by decide +kernel
theorem dX11_met_67 : decode cX11_met 67 = .ok (.invokevirtual 225, 3) := by decide +kernel
theorem dX11_met_70 : decode cX11_met 70 = .ok (.istore 5, 2) := by decide +kernel
theorem dX11_met_72 : decode cX11_met 72 = .ok (.iload 5, 2) := by decide +kernel
theorem dX11_met_74 : decode cX11_met 74 = .ok (.ldc 228, 2) := by decide +kernel
theorem dX11_met_76 : decode cX11_met 76 = .ok (.invokestatic 229, 3) := by decide +kernel
theorem dX11_met_79 : decode cX11_met 79 = .ok (.istore 6, 2) := by decide +kernel
theorem dX11_met_81 : decode cX11_met 81 = .ok (.iload 4, 2) := by decide +kernel
theorem dX11_met_83 : decode cX11_met 83 = .ok (.ifCond .ne 8, 3) := by decide +kernel
theorem dX11_met_86 : decode cX11_met 86 = .ok (.iload 5, 2) := by decide +kernel
theorem dX11_met_88 : decode cX11_met 88 = .ok (.goto 5, 3) := by decide +kernel
theorem dX11_met_91 : decode cX11_met 91 = .ok (.ldc 228, 2) := by decide +kernel
theorem dX11_met_93 : decode cX11_met 93 = .ok (.iload 6, 2) := by decide +kernel
theorem dX11_met_95 : decode cX11_met 95 = .ok (.idiv, 1) := by decide +kernel
theorem dX11_met_96 : decode cX11_met 96 = .ok (.ireturn, 1) := by decide +kernel
theorem dX11_see_0 : decode cX11_see 0 = .ok (.aload_n 0, 1) := by decide +kernel
theorem dX11_see_1 : decode cX11_see 1 = .ok (.iload_n 1, 1) := by decide +kernel
theorem dX11_see_2 : decode cX11_see 2 = .ok (.invokevirtual 148, 3) := by decide +kernel
theorem dX11_see_5 : decode cX11_see 5 = .ok (.ifCond .eq 6, 3) := by decide +kernel
theorem dX11_see_8 : decode cX11_see 8 = .ok (.bipush (-101), 2) := by decide +kernel
theorem dX11_see_10 : decode cX11_see 10 = .ok (.ireturn, 1) := by decide +kernel
theorem dX11_see_11 : decode cX11_see 11 = .ok (.aload_n 0, 1) := by decide +kernel
theorem dX11_see_12 : decode cX11_see 12 = .ok (.getfield 28, 3) := by decide +kernel
theorem dX11_see_15 : decode cX11_see 15 = .ok (.getfield 232, 3) := by decide +kernel
theorem dX11_see_18 : decode cX11_see 18 = .ok (.bipush 6, 2) := by decide +kernel
theorem dX11_see_20 : decode cX11_see 20 = .ok (.if_icmp .lt 6, 3) := by decide +kernel
theorem dX11_see_23 : decode cX11_see 23 = .ok (.bipush (-104), 2) := by decide +kernel
theorem dX11_see_25 : decode cX11_see 25 = .ok (.ireturn, 1) := by decide +kernel
theorem dX11_see_26 : decode cX11_see 26 = .ok (.aload_n 0, 1) := by decide +kernel
theorem dX11_see_27 : decode cX11_see 27 = .ok (.getfield 28, 3) := by decide +kernel
theorem dX11_see_30 : decode cX11_see 30 = .ok (.getfield 235, 3) := by decide +kernel
theorem dX11_see_33 : decode cX11_see 33 = .ok (.aload_n 0, 1) := by decide +kernel
theorem dX11_see_34 : decode cX11_see 34 = .ok (.getfield 28, 3) := by decide +kernel
theorem dX11_see_37 : decode cX11_see 37 = .ok (.getfield 232, 3) := by decide +kernel
theorem dX11_see_40 : decode cX11_see 40 = .ok (.iload_n 1, 1) := by decide +kernel
theorem dX11_see_41 : decode cX11_see 41 = .ok (.iastore, 1) := by decide +kernel
theorem dX11_see_42 : decode cX11_see 42 = .ok (.aload_n 0, 1) := by decide +kernel
theorem dX11_see_43 : decode cX11_see 43 = .ok (.getfield 28, 3) := by decide +kernel
theorem dX11_see_46 : decode cX11_see 46 = .ok (.getfield 238, 3) := by decide +kernel
theorem dX11_see_49 : decode cX11_see 49 = .ok (.aload_n 0, 1) := by decide +kernel
theorem dX11_see_50 : decode cX11_see 50 = .ok (.getfield 28, 3) := by decide +kernel
theorem dX11_see_53 : decode cX11_see 53 = .ok (.getfield 232, 3) := by decide +kernel
theorem dX11_see_56 : decode cX11_see 56 = .ok (.iload_n 2, 1) := by decide +kernel
theorem dX11_see_57 : decode cX11_see 57 = .ok (.bastore, 1) := by decide +kernel
theorem dX11_see_58 : decode cX11_see 58 = .ok (.aload_n 0, 1) := by decide +kernel
theorem dX11_see_59 : decode cX11_see 59 = .ok (.getfield 28, 3) := by decide +kernel
theorem dX11_see_62 : decode cX11_see 62 = .ok (.dup, 1) := by decide +kernel
theorem dX11_see_63 : decode cX11_see 63 = .ok (.getfield 232, 3) := by decide +kernel
theorem dX11_see_66 : decode cX11_see 66 = .ok (.iconst 1, 1) := by decide +kernel
theorem dX11_see_67 : decode cX11_see 67 = .ok (.iadd, 1) := by decide +kernel
theorem dX11_see_68 : decode cX11_see 68 = .ok (.putfield 232, 3) := by decide +kernel
theorem dX11_see_71 : decode cX11_see 71 = .ok (.aload_n 0, 1) := by decide +kernel
theorem dX11_see_72 : decode cX11_see 72 = .ok (.getfield 28, 3) := by decide +kernel
theorem dX11_see_75 : decode cX11_see 75 = .ok (.getfield 232, 3) := by decide +kernel
theorem dX11_see_78 : decode cX11_see 78 = .ok (.ireturn, 1) := by decide +kernel
theorem dX11_forget_0 : decode cX11_forget 0 = .ok (.aload_n 0, 1) := by decide +kernel
theorem dX11_forget_1 : decode cX11_forget 1 = .ok (.getfield 28, 3) := by decide +kernel
theorem dX11_forget_4 : decode cX11_forget 4 = .ok (.getfield 232, 3) := by decide +kernel
theorem dX11_forget_7 : decode cX11_forget 7 = .ok (.istore_n 1, 1) := by decide +kernel
theorem dX11_forget_8 : decode cX11_forget 8 = .ok (.aload_n 0, 1) := by decide +kernel
theorem dX11_forget_9 : decode cX11_forget 9 = .ok (.getfield 28, 3) := by decide +kernel
theorem dX11_forget_12 : decode cX11_forget 12 = .ok (.iconst 0, 1) := by decide +kernel
theorem dX11_forget_13 : decode cX11_forget 13 = .ok (.putfield 232, 3) := by decide +kernel
theorem dX11_forget_16 : decode cX11_forget 16 = .ok (.iload_n 1, 1) := by decide +kernel
theorem dX11_forget_17 : decode cX11_forget 17 = .ok (.ireturn, 1) := by decide +kernel
theorem dX11_nextSeed_0 : decode cX11_nextSeed 0 = .ok (.ldc2_w 307, 3) := by decide +kernel
theorem dX11_nextSeed_3 : decode cX11_nextSeed 3 = .ok (.iload_n 0, 1) := by decide +kernel
theorem dX11_nextSeed_4 : decode cX11_nextSeed 4 = .ok (.i2l, 1) := by decide +kernel
theorem dX11_nextSeed_5 : decode cX11_nextSeed 5 = .ok (.lmul, 1) := by decide +kernel
theorem dX11_nextSeed_6 : decode cX11_nextSeed 6 = .ok (.ldc2_w 309, 3) := by decide +kernel
theorem dX11_nextSeed_9 : decode cX11_nextSeed 9 = .ok (.ladd, 1) := by decide +kernel
theorem dX11_nextSeed_10 : decode cX11_nextSeed 10 = .ok (.ldc2_w 311, 3) := by decide +kernel
theorem dX11_nextSeed_13 : decode cX11_nextSeed 13 = .ok (.land, 1) := by decide +kernel
theorem dX11_nextSeed_14 : decode cX11_nextSeed 14 = .ok (.l2i, 1) := by decide +kernel
theorem dX11_nextSeed_15 : decode cX11_nextSeed 15 = .ok (.ireturn, 1) := by decide +kernel
theorem dX0_paidDebts_0 : decode cX0_paidDebts 0 = .ok (.iconst 0, 1) := by decide +kernel
theorem dX0_paidDebts_1 : decode cX0_paidDebts 1 = .ok (.istore_n 1, 1) := by decide +kernel
theorem dX0_paidDebts_2 : decode cX0_paidDebts 2 = .ok (.iconst 0, 1) := by decide +kernel
theorem dX0_paidDebts_3 : decode cX0_paidDebts 3 = .ok (.istore_n 2, 1) := by decide +kernel
theorem dX0_paidDebts_4 : decode cX0_paidDebts 4 = .ok (.iload_n 2, 1) := by decide +kernel
theorem dX0_paidDebts_5 : decode cX0_paidDebts 5 = .ok (.aload_n 0, 1) := by decide +kernel
theorem dX0_paidDebts_6 : decode cX0_paidDebts 6 = .ok (.getfield 34, 3) := by decide +kernel
theorem dX0_paidDebts_9 : decode cX0_paidDebts 9 = .ok (.getfield 95, 3) := by decide +kernel
theorem dX0_paidDebts_12 : decode cX0_paidDebts 12 = .ok (.if_icmp .ge 26, 3) := by decide +kernel
theorem dX0_paidDebts_15 : decode cX0_paidDebts 15 = .ok (.iload_n 1, 1) := by decide +kernel
theorem dX0_paidDebts_16 : decode cX0_paidDebts 16 = .ok (.aload_n 0, 1) := by decide +kernel
theorem dX0_paidDebts_17 : decode cX0_paidDebts 17 = .ok (.getfield 24, 3) := by decide +kernel
theorem dX0_paidDebts_20 : decode cX0_paidDebts 20 = .ok (.iload_n 2, 1) := by decide +kernel
theorem dX0_paidDebts_21 : decode cX0_paidDebts 21 = .ok (.baload, 1) := by decide +kernel
theorem dX0_paidDebts_22 : decode cX0_paidDebts 22 = .ok (.ifCond .eq 7, 3) := by decide +kernel
theorem dX0_paidDebts_25 : decode cX0_paidDebts 25 = .ok (.iconst 1, 1) := by decide +kernel
theorem dX0_paidDebts_26 : decode cX0_paidDebts 26 = .ok (.goto 4, 3) := by decide +kernel
theorem dX0_paidDebts_29 : decode cX0_paidDebts 29 = .ok (.iconst 0, 1) := by decide +kernel
theorem dX0_paidDebts_30 : decode cX0_paidDebts 30 = .ok (.iadd, 1) := by decide +kernel
theorem dX0_paidDebts_31 : decode cX0_paidDebts 31 = .ok (.istore_n 1, 1) := by decide +kernel
theorem dX0_paidDebts_32 : decode cX0_paidDebts 32 = .ok (.iinc 2 1, 3) := by decide +kernel
theorem dX0_paidDebts_35 : decode cX0_paidDebts 35 = .ok (.goto (-31), 3) := by decide +kernel
theorem dX0_paidDebts_38 : decode cX0_paidDebts 38 = .ok (.iload_n 1, 1) := by decide +kernel
theorem dX0_paidDebts_39 : decode cX0_paidDebts 39 = .ok (.ireturn, 1) := by decide +kernel
theorem dX11_winters_0 : decode cX11_winters 0 = .ok (.iload_n 1, 1) := by decide +kernel
theorem dX11_winters_1 : decode cX11_winters 1 = .ok (.iconst 1, 1) := by decide +kernel
theorem dX11_winters_2 : decode cX11_winters 2 = .ok (.if_icmp .lt 22, 3) := by decide +kernel
theorem dX11_winters_5 : decode cX11_winters 5 = .ok (.iload_n 1, 1) := by decide +kernel
theorem dX11_winters_6 : decode cX11_winters 6 = .ok (.bipush 60, 2) := by decide +kernel
theorem dX11_winters_8 : decode cX11_winters 8 = .ok (.if_icmp .gt 16, 3) := by decide +kernel
theorem dX11_winters_11 : decode cX11_winters 11 = .ok (.iload_n 2, 1) := by decide +kernel
theorem dX11_winters_12 : decode cX11_winters 12 = .ok (.ifCond .lt 12, 3) := by decide +kernel
theorem dX11_winters_15 : decode cX11_winters 15 = .ok (.iload_n 3, 1) := by decide +kernel
theorem dX11_winters_16 : decode cX11_winters 16 = .ok (.ifCond .lt 8, 3) := by decide +kernel
theorem dX11_winters_19 : decode cX11_winters 19 = .ok (.iload_n 3, 1) := by decide +kernel
theorem dX11_winters_20 : decode cX11_winters 20 = .ok (.iconst 2, 1) := by decide +kernel
theorem dX11_winters_21 : decode cX11_winters 21 = .ok (.if_icmp .le 6, 3) := by decide +kernel
theorem dX11_winters_24 : decode cX11_winters 24 = .ok (.bipush (-102), 2) := by decide +kernel
theorem dX11_winters_26 : decode cX11_winters 26 = .ok (.ireturn, 1) := by decide +kernel
theorem dX11_winters_27 : decode cX11_winters 27 = .ok (.aload_n 0, 1) := by decide +kernel
theorem dX11_winters_28 : decode cX11_winters 28 = .ok (.getfield 19, 3) := by decide +kernel
theorem dX11_winters_31 : decode cX11_winters 31 = .ok (.getfield 90, 3) := by decide +kernel
theorem dX11_winters_34 : decode cX11_winters 34 = .ok (.ifCond .eq 13, 3) := by decide +kernel
theorem dX11_winters_37 : decode cX11_winters 37 = .ok (.aload_n 0, 1) := by decide +kernel
theorem dX11_winters_38 : decode cX11_winters 38 = .ok (.getfield 19, 3) := by decide +kernel
theorem dX11_winters_41 : decode cX11_winters 41 = .ok (.getfield 241, 3) := by decide +kernel
theorem dX11_winters_44 : decode cX11_winters 44 = .ok (.ifCond .ne 6, 3) := by decide +kernel
theorem dX11_winters_47 : decode cX11_winters 47 = .ok (.bipush (-103), 2) := by decide +kernel
theorem dX11_winters_49 : decode cX11_winters 49 = .ok (.ireturn, 1) := by decide +kernel
theorem dX11_winters_50 : decode cX11_winters 50 = .ok (.aload_n 0, 1) := by decide +kernel
theorem dX11_winters_51 : decode cX11_winters 51 = .ok (.getfield 35, 3) := by decide +kernel
theorem dX11_winters_54 : decode cX11_winters 54 = .ok (.aload_n 0, 1) := by decide +kernel
theorem dX11_winters_55 : decode cX11_winters 55 = .ok (.getfield 28, 3) := by decide +kernel
theorem dX11_winters_58 : decode cX11_winters 58 = .ok (.invokevirtual 219, 3) := by decide +kernel
theorem dX11_winters_61 : decode cX11_winters 61 = .ok (.iload_n 2, 1) := by decide +kernel
theorem dX11_winters_62 : decode cX11_winters 62 = .ok (.istore 4, 2) := by decide +kernel
theorem dX11_winters_64 : decode cX11_winters 64 = .ok (.iconst 0, 1) := by decide +kernel
theorem dX11_winters_65 : decode cX11_winters 65 = .ok (.istore 5, 2) := by decide +kernel
theorem dX11_winters_67 : decode cX11_winters 67 = .ok (.iconst 0, 1) := by decide +kernel
theorem dX11_winters_68 : decode cX11_winters 68 = .ok (.istore 6, 2) := by decide +kernel
theorem dX11_winters_70 : decode cX11_winters 70 = .ok (.iload 6, 2) := by decide +kernel
theorem dX11_winters_72 : decode cX11_winters 72 = .ok (.iload_n 1, 1) := by decide +kernel
theorem dX11_winters_73 : decode cX11_winters 73 = .ok (.if_icmp .ge 93, 3) := by decide +kernel
theorem dX11_winters_76 : decode cX11_winters 76 = .ok (.iload 4, 2) := by decide +kernel
theorem dX11_winters_78 : decode cX11_winters 78 = .ok (.invokestatic 244, 3) := by decide +kernel
theorem dX11_winters_81 : decode cX11_winters 81 = .ok (.istore 4, 2) := by decide +kernel
theorem dX11_winters_83 : decode cX11_winters 83 = .ok (.iload 4, 2) := by decide +kernel
theorem dX11_winters_85 : decode cX11_winters 85 = .ok (.ldc 247, 2) := by decide +kernel
theorem dX11_winters_87 : decode cX11_winters 87 = .ok (.idiv, 1) := by decide +kernel
theorem dX11_winters_88 : decode cX11_winters 88 = .ok (.aload_n 0, 1) := by decide +kernel
theorem dX11_winters_89 : decode cX11_winters 89 = .ok (.getfield 19, 3) := by decide +kernel
theorem dX11_winters_92 : decode cX11_winters 92 = .ok (.getfield 90, 3) := by decide +kernel
theorem dX11_winters_95 : decode cX11_winters 95 = .ok (.irem, 1) := by decide +kernel
theorem dX11_winters_96 : decode cX11_winters 96 = .ok (.istore 7, 2) := by decide +kernel
theorem dX11_winters_98 : decode cX11_winters 98 = .ok (.iload 4, 2) := by decide +kernel
theorem dX11_winters_100 : decode cX11_winters 100 = .ok (.invokestatic 244, 3) := by decide +kernel
theorem dX11_winters_103 : decode cX11_winters 103 = .ok (.istore 4, 2) := by decide +kernel
theorem dX11_winters_105 : decode cX11_winters 105 = .ok (.iload 4, 2) := by decide +kernel
theorem dX11_winters_107 : decode cX11_winters 107 = .ok (.ldc 247, 2) := by decide +kernel
theorem dX11_winters_109 : decode cX11_winters 109 = .ok (.idiv, 1) := by decide +kernel
theorem dX11_winters_110 : decode cX11_winters 110 = .ok (.aload_n 0, 1) := by decide +kernel
theorem dX11_winters_111 : decode cX11_winters 111 = .ok (.getfield 19, 3) := by decide +kernel
theorem dX11_winters_114 : decode cX11_winters 114 = .ok (.getfield 241, 3) := by decide +kernel
theorem dX11_winters_117 : decode cX11_winters 117 = .ok (.irem, 1) := by decide +kernel
theorem dX11_winters_118 : decode cX11_winters 118 = .ok (.istore 8, 2) := by decide +kernel
theorem dX11_winters_120 : decode cX11_winters 120 = .ok (.aload_n 0, 1) := by decide +kernel
theorem dX11_winters_121 : decode cX11_winters 121 = .ok (.getfield 35, 3) := by decide +kernel
theorem dX11_winters_124 : decode cX11_winters 124 = .ok (.iload 7, 2) := by decide +kernel
theorem dX11_winters_126 : decode cX11_winters 126 = .ok (.iload 8, 2) := by decide +kernel
theorem dX11_winters_128 : decode cX11_winters 128 = .ok (.invokevirtual 170, 3) := by decide +kernel
theorem dX11_winters_131 : decode cX11_winters 131 = .ok (.ifCond .eq 14, 3) := by decide +kernel
theorem dX11_winters_134 : decode cX11_winters 134 = .ok (.aload_n 0, 1) := by decide +kernel
theorem dX11_winters_135 : decode cX11_winters 135 = .ok (.getfield 35, 3) := by decide +kernel
theorem dX11_winters_138 : decode cX11_winters 138 = .ok (.iload 7, 2) := by decide +kernel
theorem dX11_winters_140 : decode cX11_winters 140 = .ok (.iload 8, 2) := by decide +kernel
theorem dX11_winters_142 : decode cX11_winters 142 = .ok (.invokevirtual 176, 3) := by decide +kernel
theorem dX11_winters_145 : decode cX11_winters 145 = .ok (.iload 5, 2) := by decide +kernel
theorem dX11_winters_147 : decode cX11_winters 147 = .ok (.aload_n 0, 1) := by decide +kernel
theorem dX11_winters_148 : decode cX11_winters 148 = .ok (.getfield 35, 3) := by decide +kernel
theorem dX11_winters_151 : decode cX11_winters 151 = .ok (.iload 7, 2) := by decide +kernel
theorem dX11_winters_153 : decode cX11_winters 153 = .ok (.iconst 0, 1) := by decide +kernel
theorem dX11_winters_154 : decode cX11_winters 154 = .ok (.invokevirtual 248, 3) := by decide +kernel
theorem dX11_winters_157 : decode cX11_winters 157 = .ok (.iadd, 1) := by decide +kernel
theorem dX11_winters_158 : decode cX11_winters 158 = .ok (.istore 5, 2) := by decide +kernel
theorem dX11_winters_160 : decode cX11_winters 160 = .ok (.iinc 6 1, 3) := by decide +kernel
theorem dX11_winters_163 : decode cX11_winters 163 = .ok (.goto (-93), 3) := by decide +kernel
theorem dX11_winters_166 : decode cX11_winters 166 = .ok (.iload_n 3, 1) := by decide +kernel
theorem dX11_winters_167 : decode cX11_winters 167 = .ok (.ifCond .ne 6, 3) := by decide +kernel
theorem dX11_winters_170 : decode cX11_winters 170 = .ok (.iload 5, 2) := by decide +kernel
theorem dX11_winters_172 : decode cX11_winters 172 = .ok (.ireturn, 1) := by decide +kernel
theorem dX11_winters_173 : decode cX11_winters 173 = .ok (.iload_n 3, 1) := by decide +kernel
theorem dX11_winters_174 : decode cX11_winters 174 = .ok (.iconst 1, 1) := by decide +kernel
theorem dX11_winters_175 : decode cX11_winters 175 = .ok (.if_icmp .ne 13, 3) := by decide +kernel
theorem dX11_winters_178 : decode cX11_winters 178 = .ok (.aload_n 0, 1) := by decide +kernel
theorem dX11_winters_179 : decode cX11_winters 179 = .ok (.getfield 35, 3) := by decide +kernel
theorem dX11_winters_182 : decode cX11_winters 182 = .ok (.invokevirtual 252, 3) := by decide +kernel
theorem dX11_winters_185 : decode cX11_winters 185 = .ok (.goto 5, 3) := by decide +kernel
theorem dX11_winters_188 : decode cX11_winters 188 = .ok (.iload 4, 2) := by decide +kernel
theorem dX11_winters_190 : decode cX11_winters 190 = .ok (.ireturn, 1) := by decide +kernel
theorem dX11_image_0 : decode cX11_image 0 = .ok (.aload_n 0, 1) := by decide +kernel
theorem dX11_image_1 : decode cX11_image 1 = .ok (.getfield 19, 3) := by decide +kernel
theorem dX11_image_4 : decode cX11_image 4 = .ok (.getfield 90, 3) := by decide +kernel
theorem dX11_image_7 : decode cX11_image 7 = .ok (.ifCond .ne 6, 3) := by decide +kernel
theorem dX11_image_10 : decode cX11_image 10 = .ok (.bipush (-103), 2) := by decide +kernel
theorem dX11_image_12 : decode cX11_image 12 = .ok (.ireturn, 1) := by decide +kernel
theorem dX11_image_13 : decode cX11_image 13 = .ok (.aload_n 0, 1) := by decide +kernel
theorem dX11_image_14 : decode cX11_image 14 = .ok (.getfield 32, 3) := by decide +kernel
theorem dX11_image_17 : decode cX11_image 17 = .ok (.aload_n 0, 1) := by decide +kernel
theorem dX11_image_18 : decode cX11_image 18 = .ok (.getfield 28, 3) := by decide +kernel
theorem dX11_image_21 : decode cX11_image 21 = .ok (.invokevirtual 219, 3) := by decide +kernel
theorem dX11_image_24 : decode cX11_image 24 = .ok (.aload_n 0, 1) := by decide +kernel
theorem dX11_image_25 : decode cX11_image 25 = .ok (.iconst 1, 1) := by decide +kernel
theorem dX11_image_26 : decode cX11_image 26 = .ok (.putfield 59, 3) := by decide +kernel
theorem dX11_image_29 : decode cX11_image 29 = .ok (.aload_n 0, 1) := by decide +kernel
theorem dX11_image_30 : decode cX11_image 30 = .ok (.getfield 28, 3) := by decide +kernel
theorem dX11_image_33 : decode cX11_image 33 = .ok (.getfield 173, 3) := by decide +kernel
theorem dX11_image_36 : decode cX11_image 36 = .ok (.ireturn, 1) := by decide +kernel
theorem dX11_restore_0 : decode cX11_restore 0 = .ok (.aload_n 0, 1) := by decide +kernel
theorem dX11_restore_1 : decode cX11_restore 1 = .ok (.getfield 59, 3) := by decide +kernel
theorem dX11_restore_4 : decode cX11_restore 4 = .ok (.ifCond .ne 6, 3) := by decide +kernel
theorem dX11_restore_7 : decode cX11_restore 7 = .ok (.bipush (-103), 2) := by decide +kernel
theorem dX11_restore_9 : decode cX11_restore 9 = .ok (.ireturn, 1) := by decide +kernel
theorem dX11_restore_10 : decode cX11_restore 10 = .ok (.aload_n 0, 1) := by decide +kernel
theorem dX11_restore_11 : decode cX11_restore 11 = .ok (.getfield 28, 3) := by decide +kernel
theorem dX11_restore_14 : decode cX11_restore 14 = .ok (.aload_n 0, 1) := by decide +kernel
theorem dX11_restore_15 : decode cX11_restore 15 = .ok (.getfield 32, 3) := by decide +kernel
theorem dX11_restore_18 : decode cX11_restore 18 = .ok (.invokevirtual 219, 3) := by decide +kernel
theorem dX11_restore_21 : decode cX11_restore 21 = .ok (.aload_n 0, 1) := by decide +kernel
theorem dX11_restore_22 : decode cX11_restore 22 = .ok (.getfield 28, 3) := by decide +kernel
theorem dX11_restore_25 : decode cX11_restore 25 = .ok (.getfield 173, 3) := by decide +kernel
theorem dX11_restore_28 : decode cX11_restore 28 = .ok (.ireturn, 1) := by decide +kernel
theorem dX0_sumsNotPaid_0 : decode cX0_sumsNotPaid 0 = .ok (.iconst 0, 1) := by decide +kernel
theorem dX0_sumsNotPaid_1 : decode cX0_sumsNotPaid 1 = .ok (.istore_n 1, 1) := by decide +kernel
theorem dX0_sumsNotPaid_2 : decode cX0_sumsNotPaid 2 = .ok (.iconst 0, 1) := by decide +kernel
theorem dX0_sumsNotPaid_3 : decode cX0_sumsNotPaid 3 = .ok (.istore_n 2, 1) := by decide +kernel
theorem dX0_sumsNotPaid_4 : decode cX0_sumsNotPaid 4 = .ok (.iload_n 2, 1) := by decide +kernel
theorem dX0_sumsNotPaid_5 : decode cX0_sumsNotPaid 5 = .ok (.aload_n 0, 1) := by decide +kernel
theorem dX0_sumsNotPaid_6 : decode cX0_sumsNotPaid 6 = .ok (.getfield 34, 3) := by decide +kernel
theorem dX0_sumsNotPaid_9 : decode cX0_sumsNotPaid 9 = .ok (.getfield 95, 3) := by decide +kernel
theorem dX0_sumsNotPaid_12 : decode cX0_sumsNotPaid 12 = .ok (.if_icmp .ge 31, 3) := by decide +kernel
theorem dX0_sumsNotPaid_15 : decode cX0_sumsNotPaid 15 = .ok (.iload_n 1, 1) := by decide +kernel
theorem dX0_sumsNotPaid_16 : decode cX0_sumsNotPaid 16 = .ok (.aload_n 0, 1) := by decide +kernel
theorem dX0_sumsNotPaid_17 : decode cX0_sumsNotPaid 17 = .ok (.getfield 24, 3) := by decide +kernel
theorem dX0_sumsNotPaid_20 : decode cX0_sumsNotPaid 20 = .ok (.iload_n 2, 1) := by decide +kernel
theorem dX0_sumsNotPaid_21 : decode cX0_sumsNotPaid 21 = .ok (.baload, 1) := by decide +kernel
theorem dX0_sumsNotPaid_22 : decode cX0_sumsNotPaid 22 = .ok (.ifCond .eq 7, 3) := by decide +kernel
theorem dX0_sumsNotPaid_25 : decode cX0_sumsNotPaid 25 = .ok (.iconst 0, 1) := by decide +kernel
theorem dX0_sumsNotPaid_26 : decode cX0_sumsNotPaid 26 = .ok (.goto 9, 3) := by decide +kernel
theorem dX0_sumsNotPaid_29 : decode cX0_sumsNotPaid 29 = .ok (.aload_n 0, 1) := by decide +kernel
theorem dX0_sumsNotPaid_30 : decode cX0_sumsNotPaid 30 = .ok (.getfield 21, 3) := by decide +kernel
theorem dX0_sumsNotPaid_33 : decode cX0_sumsNotPaid 33 = .ok (.iload_n 2, 1) := by decide +kernel
theorem dX0_sumsNotPaid_34 : decode cX0_sumsNotPaid 34 = .ok (.iaload, 1) := by decide +kernel
theorem dX0_sumsNotPaid_35 : decode cX0_sumsNotPaid 35 = .ok (.iadd, 1) := by decide +kernel
theorem dX0_sumsNotPaid_36 : decode cX0_sumsNotPaid 36 = .ok (.istore_n 1, 1) := by decide +kernel
theorem dX0_sumsNotPaid_37 : decode cX0_sumsNotPaid 37 = .ok (.iinc 2 1, 3) := by decide +kernel
theorem dX0_sumsNotPaid_40 : decode cX0_sumsNotPaid 40 = .ok (.goto (-36), 3) := by decide +kernel
theorem dX0_sumsNotPaid_43 : decode cX0_sumsNotPaid 43 = .ok (.iload_n 1, 1) := by decide +kernel
theorem dX0_sumsNotPaid_44 : decode cX0_sumsNotPaid 44 = .ok (.ireturn, 1) := by decide +kernel
theorem dX0_allPurses_0 : decode cX0_allPurses 0 = .ok (.iconst 0, 1) := by decide +kernel
theorem dX0_allPurses_1 : decode cX0_allPurses 1 = .ok (.istore_n 1, 1) := by decide +kernel
theorem dX0_allPurses_2 : decode cX0_allPurses 2 = .ok (.iconst 0, 1) := by decide +kernel
theorem dX0_allPurses_3 : decode cX0_allPurses 3 = .ok (.istore_n 2, 1) := by decide +kernel
theorem dX0_allPurses_4 : decode cX0_allPurses 4 = .ok (.iload_n 2, 1) := by decide +kernel
theorem dX0_allPurses_5 : decode cX0_allPurses 5 = .ok (.aload_n 0, 1) := by decide +kernel
theorem dX0_allPurses_6 : decode cX0_allPurses 6 = .ok (.getfield 34, 3) := by decide +kernel
theorem dX0_allPurses_9 : decode cX0_allPurses 9 = .ok (.getfield 109, 3) := by decide +kernel
theorem dX0_allPurses_12 : decode cX0_allPurses 12 = .ok (.if_icmp .ge 18, 3) := by decide +kernel
theorem dX0_allPurses_15 : decode cX0_allPurses 15 = .ok (.iload_n 1, 1) := by decide +kernel
theorem dX0_allPurses_16 : decode cX0_allPurses 16 = .ok (.aload_n 0, 1) := by decide +kernel
theorem dX0_allPurses_17 : decode cX0_allPurses 17 = .ok (.getfield 9, 3) := by decide +kernel
theorem dX0_allPurses_20 : decode cX0_allPurses 20 = .ok (.iload_n 2, 1) := by decide +kernel
theorem dX0_allPurses_21 : decode cX0_allPurses 21 = .ok (.iaload, 1) := by decide +kernel
theorem dX0_allPurses_22 : decode cX0_allPurses 22 = .ok (.iadd, 1) := by decide +kernel
theorem dX0_allPurses_23 : decode cX0_allPurses 23 = .ok (.istore_n 1, 1) := by decide +kernel
theorem dX0_allPurses_24 : decode cX0_allPurses 24 = .ok (.iinc 2 1, 3) := by decide +kernel
theorem dX0_allPurses_27 : decode cX0_allPurses 27 = .ok (.goto (-23), 3) := by decide +kernel
theorem dX0_allPurses_30 : decode cX0_allPurses 30 = .ok (.iload_n 1, 1) := by decide +kernel
theorem dX0_allPurses_31 : decode cX0_allPurses 31 = .ok (.ireturn, 1) := by decide +kernel
theorem dX11_count_0 : decode cX11_count 0 = .ok (.iload_n 1, 1) := by decide +kernel
theorem dX11_count_1 : decode cX11_count 1 = .ok (.tableswitch 200 0 12 #[67, 75, 83, 91, 99, 107, 115, 123, 131, 155, 179, 187, 195], 67) := by decide +kernel
theorem dX11_count_68 : decode cX11_count 68 = .ok (.aload_n 0, 1) := by decide +kernel
theorem dX11_count_69 : decode cX11_count 69 = .ok (.getfield 19, 3) := by decide +kernel
theorem dX11_count_72 : decode cX11_count 72 = .ok (.getfield 255, 3) := by decide +kernel
theorem dX11_count_75 : decode cX11_count 75 = .ok (.ireturn, 1) := by decide +kernel
theorem dX11_count_76 : decode cX11_count 76 = .ok (.aload_n 0, 1) := by decide +kernel
theorem dX11_count_77 : decode cX11_count 77 = .ok (.getfield 19, 3) := by decide +kernel
theorem dX11_count_80 : decode cX11_count 80 = .ok (.getfield 241, 3) := by decide +kernel
theorem dX11_count_83 : decode cX11_count 83 = .ok (.ireturn, 1) := by decide +kernel
theorem dX11_count_84 : decode cX11_count 84 = .ok (.aload_n 0, 1) := by decide +kernel
theorem dX11_count_85 : decode cX11_count 85 = .ok (.getfield 19, 3) := by decide +kernel
theorem dX11_count_88 : decode cX11_count 88 = .ok (.getfield 90, 3) := by decide +kernel
theorem dX11_count_91 : decode cX11_count 91 = .ok (.ireturn, 1) := by decide +kernel
theorem dX11_count_92 : decode cX11_count 92 = .ok (.aload_n 0, 1) := by decide +kernel
theorem dX11_count_93 : decode cX11_count 93 = .ok (.getfield 19, 3) := by decide +kernel
theorem dX11_count_96 : decode cX11_count 96 = .ok (.getfield 258, 3) := by decide +kernel
theorem dX11_count_99 : decode cX11_count 99 = .ok (.ireturn, 1) := by decide +kernel
theorem dX11_count_100 : decode cX11_count 100 = .ok (.aload_n 0, 1) := by decide +kernel
theorem dX11_count_101 : decode cX11_count 101 = .ok (.getfield 28, 3) := by decide +kernel
theorem dX11_count_104 : decode cX11_count 104 = .ok (.invokevirtual 252, 3) := by decide +kernel
theorem dX11_count_107 : decode cX11_count 107 = .ok (.ireturn, 1) := by decide +kernel
theorem dX11_count_108 : decode cX11_count 108 = .ok (.aload_n 0, 1) := by decide +kernel
theorem dX11_count_109 : decode cX11_count 109 = .ok (.getfield 28, 3) := by decide +kernel
theorem dX11_count_112 : decode cX11_count 112 = .ok (.invokevirtual 261, 3) := by decide +kernel
theorem dX11_count_115 : decode cX11_count 115 = .ok (.ireturn, 1) := by decide +kernel
theorem dX11_count_116 : decode cX11_count 116 = .ok (.aload_n 0, 1) := by decide +kernel
theorem dX11_count_117 : decode cX11_count 117 = .ok (.getfield 28, 3) := by decide +kernel
theorem dX11_count_120 : decode cX11_count 120 = .ok (.invokevirtual 264, 3) := by decide +kernel
theorem dX11_count_123 : decode cX11_count 123 = .ok (.ireturn, 1) := by decide +kernel
theorem dX11_count_124 : decode cX11_count 124 = .ok (.aload_n 0, 1) := by decide +kernel
theorem dX11_count_125 : decode cX11_count 125 = .ok (.getfield 28, 3) := by decide +kernel
theorem dX11_count_128 : decode cX11_count 128 = .ok (.getfield 173, 3) := by decide +kernel
theorem dX11_count_131 : decode cX11_count 131 = .ok (.ireturn, 1) := by decide +kernel
theorem dX11_count_132 : decode cX11_count 132 = .ok (.aload_n 0, 1) := by decide +kernel
theorem dX11_count_133 : decode cX11_count 133 = .ok (.getfield 19, 3) := by decide +kernel
theorem dX11_count_136 : decode cX11_count 136 = .ok (.getfield 90, 3) := by decide +kernel
theorem dX11_count_139 : decode cX11_count 139 = .ok (.ifCond .ne 7, 3) := by decide +kernel
theorem dX11_count_142 : decode cX11_count 142 = .ok (.iconst (-1), 1) := by decide +kernel
theorem dX11_count_143 : decode cX11_count 143 = .ok (.goto 12, 3) := by decide +kernel
theorem dX11_count_146 : decode cX11_count 146 = .ok (.aload_n 0, 1) := by decide +kernel
theorem dX11_count_147 : decode cX11_count 147 = .ok (.getfield 28, 3) := by decide +kernel
theorem dX11_count_150 : decode cX11_count 150 = .ok (.getfield 180, 3) := by decide +kernel
theorem dX11_count_153 : decode cX11_count 153 = .ok (.iconst 0, 1) := by decide +kernel
theorem dX11_count_154 : decode cX11_count 154 = .ok (.iaload, 1) := by decide +kernel
theorem dX11_count_155 : decode cX11_count 155 = .ok (.ireturn, 1) := by decide +kernel
theorem dX11_count_156 : decode cX11_count 156 = .ok (.aload_n 0, 1) := by decide +kernel
theorem dX11_count_157 : decode cX11_count 157 = .ok (.getfield 19, 3) := by decide +kernel
theorem dX11_count_160 : decode cX11_count 160 = .ok (.getfield 90, 3) := by decide +kernel
theorem dX11_count_163 : decode cX11_count 163 = .ok (.ifCond .ne 7, 3) := by decide +kernel
theorem dX11_count_166 : decode cX11_count 166 = .ok (.iconst (-1), 1) := by decide +kernel
theorem dX11_count_167 : decode cX11_count 167 = .ok (.goto 12, 3) := by decide +kernel
theorem dX11_count_170 : decode cX11_count 170 = .ok (.aload_n 0, 1) := by decide +kernel
theorem dX11_count_171 : decode cX11_count 171 = .ok (.getfield 28, 3) := by decide +kernel
theorem dX11_count_174 : decode cX11_count 174 = .ok (.getfield 180, 3) := by decide +kernel
theorem dX11_count_177 : decode cX11_count 177 = .ok (.iconst 1, 1) := by decide +kernel
theorem dX11_count_178 : decode cX11_count 178 = .ok (.iaload, 1) := by decide +kernel
theorem dX11_count_179 : decode cX11_count 179 = .ok (.ireturn, 1) := by decide +kernel
theorem dX11_count_180 : decode cX11_count 180 = .ok (.aload_n 0, 1) := by decide +kernel
theorem dX11_count_181 : decode cX11_count 181 = .ok (.getfield 28, 3) := by decide +kernel
theorem dX11_count_184 : decode cX11_count 184 = .ok (.getfield 232, 3) := by decide +kernel
theorem dX11_count_187 : decode cX11_count 187 = .ok (.ireturn, 1) := by decide +kernel
theorem dX11_count_188 : decode cX11_count 188 = .ok (.aload_n 0, 1) := by decide +kernel
theorem dX11_count_189 : decode cX11_count 189 = .ok (.getfield 10, 3) := by decide +kernel
theorem dX11_count_192 : decode cX11_count 192 = .ok (.getfield 71, 3) := by decide +kernel
theorem dX11_count_195 : decode cX11_count 195 = .ok (.ireturn, 1) := by decide +kernel
theorem dX11_count_196 : decode cX11_count 196 = .ok (.aload_n 0, 1) := by decide +kernel
theorem dX11_count_197 : decode cX11_count 197 = .ok (.getfield 63, 3) := by decide +kernel
theorem dX11_count_200 : decode cX11_count 200 = .ok (.ireturn, 1) := by decide +kernel
theorem dX11_count_201 : decode cX11_count 201 = .ok (.bipush (-102), 2) := by decide +kernel
theorem dX11_count_203 : decode cX11_count 203 = .ok (.ireturn, 1) := by decide +kernel
theorem dX11_mix_0 : decode cX11_mix 0 = .ok (.ldc2_w 305, 3) := by decide +kernel
theorem dX11_mix_3 : decode cX11_mix 3 = .ok (.lload_n 0, 1) := by decide +kernel
theorem dX11_mix_4 : decode cX11_mix 4 = .ok (.lmul, 1) := by decide +kernel
theorem dX11_mix_5 : decode cX11_mix 5 = .ok (.iload_n 2, 1) := by decide +kernel
theorem dX11_mix_6 : decode cX11_mix 6 = .ok (.i2l, 1) := by decide +kernel
theorem dX11_mix_7 : decode cX11_mix 7 = .ok (.ladd, 1) := by decide +kernel
theorem dX11_mix_8 : decode cX11_mix 8 = .ok (.lreturn, 1) := by decide +kernel
theorem dX11_mixPerson_0 : decode cX11_mixPerson 0 = .ok (.lload_n 1, 1) := by decide +kernel
theorem dX11_mixPerson_1 : decode cX11_mixPerson 1 = .ok (.lstore 4, 2) := by decide +kernel
theorem dX11_mixPerson_3 : decode cX11_mixPerson 3 = .ok (.iconst 0, 1) := by decide +kernel
theorem dX11_mixPerson_4 : decode cX11_mixPerson 4 = .ok (.istore 6, 2) := by decide +kernel
theorem dX11_mixPerson_6 : decode cX11_mixPerson 6 = .ok (.iload 6, 2) := by decide +kernel
theorem dX11_mixPerson_8 : decode cX11_mixPerson 8 = .ok (.bipush 8, 2) := by decide +kernel
theorem dX11_mixPerson_10 : decode cX11_mixPerson 10 = .ok (.if_icmp .gt 23, 3) := by decide +kernel
theorem dX11_mixPerson_13 : decode cX11_mixPerson 13 = .ok (.lload 4, 2) := by decide +kernel
theorem dX11_mixPerson_15 : decode cX11_mixPerson 15 = .ok (.aload_n 0, 1) := by decide +kernel
theorem dX11_mixPerson_16 : decode cX11_mixPerson 16 = .ok (.iload_n 3, 1) := by decide +kernel
theorem dX11_mixPerson_17 : decode cX11_mixPerson 17 = .ok (.iload 6, 2) := by decide +kernel
theorem dX11_mixPerson_19 : decode cX11_mixPerson 19 = .ok (.invokevirtual 298, 3) := by decide +kernel
theorem dX11_mixPerson_22 : decode cX11_mixPerson 22 = .ok (.invokestatic 276, 3) := by decide +kernel
theorem dX11_mixPerson_25 : decode cX11_mixPerson 25 = .ok (.lstore 4, 2) := by decide +kernel
theorem dX11_mixPerson_27 : decode cX11_mixPerson 27 = .ok (.iinc 6 1, 3) := by decide +kernel
theorem dX11_mixPerson_30 : decode cX11_mixPerson 30 = .ok (.goto (-24), 3) := by decide +kernel
theorem dX11_mixPerson_33 : decode cX11_mixPerson 33 = .ok (.iconst 0, 1) := by decide +kernel
theorem dX11_mixPerson_34 : decode cX11_mixPerson 34 = .ok (.istore 6, 2) := by decide +kernel
theorem dX11_mixPerson_36 : decode cX11_mixPerson 36 = .ok (.iload 6, 2) := by decide +kernel
theorem dX11_mixPerson_38 : decode cX11_mixPerson 38 = .ok (.aload_n 0, 1) := by decide +kernel
theorem dX11_mixPerson_39 : decode cX11_mixPerson 39 = .ok (.getfield 19, 3) := by decide +kernel
theorem dX11_mixPerson_42 : decode cX11_mixPerson 42 = .ok (.getfield 255, 3) := by decide +kernel
theorem dX11_mixPerson_45 : decode cX11_mixPerson 45 = .ok (.if_icmp .ge 40, 3) := by decide +kernel
theorem dX11_mixPerson_48 : decode cX11_mixPerson 48 = .ok (.lload 4, 2) := by decide +kernel
theorem dX11_mixPerson_50 : decode cX11_mixPerson 50 = .ok (.aload_n 0, 1) := by decide +kernel
theorem dX11_mixPerson_51 : decode cX11_mixPerson 51 = .ok (.iload_n 3, 1) := by decide +kernel
theorem dX11_mixPerson_52 : decode cX11_mixPerson 52 = .ok (.iload 6, 2) := by decide +kernel
theorem dX11_mixPerson_54 : decode cX11_mixPerson 54 = .ok (.iconst 0, 1) := by decide +kernel
theorem dX11_mixPerson_55 : decode cX11_mixPerson 55 = .ok (.invokevirtual 301, 3) := by decide +kernel
theorem dX11_mixPerson_58 : decode cX11_mixPerson 58 = .ok (.invokestatic 276, 3) := by decide +kernel
theorem dX11_mixPerson_61 : decode cX11_mixPerson 61 = .ok (.lstore 4, 2) := by decide +kernel
theorem dX11_mixPerson_63 : decode cX11_mixPerson 63 = .ok (.lload 4, 2) := by decide +kernel
theorem dX11_mixPerson_65 : decode cX11_mixPerson 65 = .ok (.aload_n 0, 1) := by decide +kernel
theorem dX11_mixPerson_66 : decode cX11_mixPerson 66 = .ok (.iload_n 3, 1) := by decide +kernel
theorem dX11_mixPerson_67 : decode cX11_mixPerson 67 = .ok (.iload 6, 2) := by decide +kernel
theorem dX11_mixPerson_69 : decode cX11_mixPerson 69 = .ok (.bipush 10, 2) := by decide +kernel
theorem dX11_mixPerson_71 : decode cX11_mixPerson 71 = .ok (.invokevirtual 301, 3) := by decide +kernel
theorem dX11_mixPerson_74 : decode cX11_mixPerson 74 = .ok (.invokestatic 276, 3) := by decide +kernel
theorem dX11_mixPerson_77 : decode cX11_mixPerson 77 = .ok (.lstore 4, 2) := by decide +kernel
theorem dX11_mixPerson_79 : decode cX11_mixPerson 79 = .ok (.iinc 6 1, 3) := by decide +kernel
theorem dX11_mixPerson_82 : decode cX11_mixPerson 82 = .ok (.goto (-46), 3) := by decide +kernel
theorem dX11_mixPerson_85 : decode cX11_mixPerson 85 = .ok (.aload_n 0, 1) := by decide +kernel
theorem dX11_mixPerson_86 : decode cX11_mixPerson 86 = .ok (.getfield 48, 3) := by decide +kernel
theorem dX11_mixPerson_89 : decode cX11_mixPerson 89 = .ok (.aload_n 0, 1) := by decide +kernel
theorem dX11_mixPerson_90 : decode cX11_mixPerson 90 = .ok (.getfield 28, 3) := by decide +kernel
theorem dX11_mixPerson_93 : decode cX11_mixPerson 93 = .ok (.iload_n 3, 1) := by decide +kernel
theorem dX11_mixPerson_94 : decode cX11_mixPerson 94 = .ok (.iconst 2, 1) := by decide +kernel
theorem dX11_mixPerson_95 : decode cX11_mixPerson 95 = .ok (.invokevirtual 201, 3) := by decide +kernel
theorem dX11_mixPerson_98 : decode cX11_mixPerson 98 = .ok (.lload 4, 2) := by decide +kernel
theorem dX11_mixPerson_100 : decode cX11_mixPerson 100 = .ok (.aload_n 0, 1) := by decide +kernel
theorem dX11_mixPerson_101 : decode cX11_mixPerson 101 = .ok (.getfield 48, 3) := by decide +kernel
theorem dX11_mixPerson_104 : decode cX11_mixPerson 104 = .ok (.getfield 205, 3) := by decide +kernel
theorem dX11_mixPerson_107 : decode cX11_mixPerson 107 = .ok (.invokestatic 276, 3) := by decide +kernel
theorem dX11_mixPerson_110 : decode cX11_mixPerson 110 = .ok (.lstore 4, 2) := by decide +kernel
theorem dX11_mixPerson_112 : decode cX11_mixPerson 112 = .ok (.lload 4, 2) := by decide +kernel
theorem dX11_mixPerson_114 : decode cX11_mixPerson 114 = .ok (.aload_n 0, 1) := by decide +kernel
theorem dX11_mixPerson_115 : decode cX11_mixPerson 115 = .ok (.getfield 48, 3) := by decide +kernel
theorem dX11_mixPerson_118 : decode cX11_mixPerson 118 = .ok (.iconst 0, 1) := by decide +kernel
theorem dX11_mixPerson_119 : decode cX11_mixPerson 119 = .ok (.iconst 2, 1) := by decide +kernel
theorem dX11_mixPerson_120 : decode cX11_mixPerson 120 = .ok (.invokevirtual 208, 3) := by decide +kernel
theorem dX11_mixPerson_123 : decode cX11_mixPerson 123 = .ok (.invokestatic 276, 3) := by decide +kernel
theorem dX11_mixPerson_126 : decode cX11_mixPerson 126 = .ok (.lstore 4, 2) := by decide +kernel
theorem dX11_mixPerson_128 : decode cX11_mixPerson 128 = .ok (.lload 4, 2) := by decide +kernel
theorem dX11_mixPerson_130 : decode cX11_mixPerson 130 = .ok (.aload_n 0, 1) := by decide +kernel
theorem dX11_mixPerson_131 : decode cX11_mixPerson 131 = .ok (.getfield 48, 3) := by decide +kernel
theorem dX11_mixPerson_134 : decode cX11_mixPerson 134 = .ok (.iconst 1, 1) := by decide +kernel
theorem dX11_mixPerson_135 : decode cX11_mixPerson 135 = .ok (.iconst 2, 1) := by decide +kernel
theorem dX11_mixPerson_136 : decode cX11_mixPerson 136 = .ok (.invokevirtual 208, 3) := by decide +kernel
theorem dX11_mixPerson_139 : decode cX11_mixPerson 139 = .ok (.invokestatic 276, 3) := by decide +kernel
theorem dX11_mixPerson_142 : decode cX11_mixPerson 142 = .ok (.lreturn, 1) := by decide +kernel
theorem dX11_digest_0 : decode cX11_digest 0 = .ok (.ldc2_w 267, 3) := by decide +kernel
theorem dX11_digest_3 : decode cX11_digest 3 = .ok (.lstore_n 1, 1) := by decide +kernel
theorem dX11_digest_4 : decode cX11_digest 4 = .ok (.iconst 0, 1) := by decide +kernel
theorem dX11_digest_5 : decode cX11_digest 5 = .ok (.istore_n 3, 1) := by decide +kernel
theorem dX11_digest_6 : decode cX11_digest 6 = .ok (.iload_n 3, 1) := by decide +kernel
theorem dX11_digest_7 : decode cX11_digest 7 = .ok (.aload_n 0, 1) := by decide +kernel
theorem dX11_digest_8 : decode cX11_digest 8 = .ok (.getfield 19, 3) := by decide +kernel
theorem dX11_digest_11 : decode cX11_digest 11 = .ok (.getfield 90, 3) := by decide +kernel
theorem dX11_digest_14 : decode cX11_digest 14 = .ok (.if_icmp .ge 16, 3) := by decide +kernel
theorem dX11_digest_17 : decode cX11_digest 17 = .ok (.aload_n 0, 1) := by decide +kernel
theorem dX11_digest_18 : decode cX11_digest 18 = .ok (.lload_n 1, 1) := by decide +kernel
theorem dX11_digest_19 : decode cX11_digest 19 = .ok (.iload_n 3, 1) := by decide +kernel
theorem dX11_digest_20 : decode cX11_digest 20 = .ok (.invokevirtual 269, 3) := by decide +kernel
theorem dX11_digest_23 : decode cX11_digest 23 = .ok (.lstore_n 1, 1) := by decide +kernel
theorem dX11_digest_24 : decode cX11_digest 24 = .ok (.iinc 3 1, 3) := by decide +kernel
theorem dX11_digest_27 : decode cX11_digest 27 = .ok (.goto (-21), 3) := by decide +kernel
theorem dX11_digest_30 : decode cX11_digest 30 = .ok (.iconst 0, 1) := by decide +kernel
theorem dX11_digest_31 : decode cX11_digest 31 = .ok (.istore_n 3, 1) := by decide +kernel
theorem dX11_digest_32 : decode cX11_digest 32 = .ok (.iload_n 3, 1) := by decide +kernel
theorem dX11_digest_33 : decode cX11_digest 33 = .ok (.aload_n 0, 1) := by decide +kernel
theorem dX11_digest_34 : decode cX11_digest 34 = .ok (.getfield 19, 3) := by decide +kernel
theorem dX11_digest_37 : decode cX11_digest 37 = .ok (.getfield 241, 3) := by decide +kernel
theorem dX11_digest_40 : decode cX11_digest 40 = .ok (.if_icmp .ge 36, 3) := by decide +kernel
theorem dX11_digest_43 : decode cX11_digest 43 = .ok (.iconst 0, 1) := by decide +kernel
theorem dX11_digest_44 : decode cX11_digest 44 = .ok (.istore 4, 2) := by decide +kernel
theorem dX11_digest_46 : decode cX11_digest 46 = .ok (.iload 4, 2) := by decide +kernel
theorem dX11_digest_48 : decode cX11_digest 48 = .ok (.iconst 2, 1) := by decide +kernel
theorem dX11_digest_49 : decode cX11_digest 49 = .ok (.if_icmp .gt 21, 3) := by decide +kernel
theorem dX11_digest_52 : decode cX11_digest 52 = .ok (.lload_n 1, 1) := by decide +kernel
theorem dX11_digest_53 : decode cX11_digest 53 = .ok (.aload_n 0, 1) := by decide +kernel
theorem dX11_digest_54 : decode cX11_digest 54 = .ok (.iload_n 3, 1) := by decide +kernel
theorem dX11_digest_55 : decode cX11_digest 55 = .ok (.iload 4, 2) := by decide +kernel
theorem dX11_digest_57 : decode cX11_digest 57 = .ok (.invokevirtual 273, 3) := by decide +kernel
theorem dX11_digest_60 : decode cX11_digest 60 = .ok (.invokestatic 276, 3) := by decide +kernel
theorem dX11_digest_63 : decode cX11_digest 63 = .ok (.lstore_n 1, 1) := by decide +kernel
theorem dX11_digest_64 : decode cX11_digest 64 = .ok (.iinc 4 1, 3) := by decide +kernel
theorem dX11_digest_67 : decode cX11_digest 67 = .ok (.goto (-21), 3) := by decide +kernel
theorem dX11_digest_70 : decode cX11_digest 70 = .ok (.iinc 3 1, 3) := by decide +kernel
theorem dX11_digest_73 : decode cX11_digest 73 = .ok (.goto (-41), 3) := by decide +kernel
theorem dX11_digest_76 : decode cX11_digest 76 = .ok (.iconst 0, 1) := by decide +kernel
theorem dX11_digest_77 : decode cX11_digest 77 = .ok (.istore_n 3, 1) := by decide +kernel
theorem dX11_digest_78 : decode cX11_digest 78 = .ok (.iload_n 3, 1) := by decide +kernel
theorem dX11_digest_79 : decode cX11_digest 79 = .ok (.aload_n 0, 1) := by decide +kernel
theorem dX11_digest_80 : decode cX11_digest 80 = .ok (.getfield 19, 3) := by decide +kernel
theorem dX11_digest_83 : decode cX11_digest 83 = .ok (.getfield 258, 3) := by decide +kernel
theorem dX11_digest_86 : decode cX11_digest 86 = .ok (.if_icmp .ge 36, 3) := by decide +kernel
theorem dX11_digest_89 : decode cX11_digest 89 = .ok (.iconst 0, 1) := by decide +kernel
theorem dX11_digest_90 : decode cX11_digest 90 = .ok (.istore 4, 2) := by decide +kernel
theorem dX11_digest_92 : decode cX11_digest 92 = .ok (.iload 4, 2) := by decide +kernel
theorem dX11_digest_94 : decode cX11_digest 94 = .ok (.iconst 5, 1) := by decide +kernel
theorem dX11_digest_95 : decode cX11_digest 95 = .ok (.if_icmp .gt 21, 3) := by decide +kernel
theorem dX11_digest_98 : decode cX11_digest 98 = .ok (.lload_n 1, 1) := by decide +kernel
theorem dX11_digest_99 : decode cX11_digest 99 = .ok (.aload_n 0, 1) := by decide +kernel
theorem dX11_digest_100 : decode cX11_digest 100 = .ok (.iload_n 3, 1) := by decide +kernel
theorem dX11_digest_101 : decode cX11_digest 101 = .ok (.iload 4, 2) := by decide +kernel
theorem dX11_digest_103 : decode cX11_digest 103 = .ok (.invokevirtual 279, 3) := by decide +kernel
theorem dX11_digest_106 : decode cX11_digest 106 = .ok (.invokestatic 276, 3) := by decide +kernel
theorem dX11_digest_109 : decode cX11_digest 109 = .ok (.lstore_n 1, 1) := by decide +kernel
theorem dX11_digest_110 : decode cX11_digest 110 = .ok (.iinc 4 1, 3) := by decide +kernel
theorem dX11_digest_113 : decode cX11_digest 113 = .ok (.goto (-21), 3) := by decide +kernel
theorem dX11_digest_116 : decode cX11_digest 116 = .ok (.iinc 3 1, 3) := by decide +kernel
theorem dX11_digest_119 : decode cX11_digest 119 = .ok (.goto (-41), 3) := by decide +kernel
theorem dX11_digest_122 : decode cX11_digest 122 = .ok (.iconst 0, 1) := by decide +kernel
theorem dX11_digest_123 : decode cX11_digest 123 = .ok (.istore_n 3, 1) := by decide +kernel
theorem dX11_digest_124 : decode cX11_digest 124 = .ok (.iload_n 3, 1) := by decide +kernel
theorem dX11_digest_125 : decode cX11_digest 125 = .ok (.aload_n 0, 1) := by decide +kernel
theorem dX11_digest_126 : decode cX11_digest 126 = .ok (.getfield 19, 3) := by decide +kernel
theorem dX11_digest_129 : decode cX11_digest 129 = .ok (.getfield 255, 3) := by decide +kernel
theorem dX11_digest_132 : decode cX11_digest 132 = .ok (.if_icmp .ge 20, 3) := by decide +kernel
theorem dX11_digest_135 : decode cX11_digest 135 = .ok (.lload_n 1, 1) := by decide +kernel
theorem dX11_digest_136 : decode cX11_digest 136 = .ok (.aload_n 0, 1) := by decide +kernel
theorem dX11_digest_137 : decode cX11_digest 137 = .ok (.iload_n 3, 1) := by decide +kernel
theorem dX11_digest_138 : decode cX11_digest 138 = .ok (.iconst 0, 1) := by decide +kernel
theorem dX11_digest_139 : decode cX11_digest 139 = .ok (.invokevirtual 282, 3) := by decide +kernel
theorem dX11_digest_142 : decode cX11_digest 142 = .ok (.invokestatic 276, 3) := by decide +kernel
theorem dX11_digest_145 : decode cX11_digest 145 = .ok (.lstore_n 1, 1) := by decide +kernel
theorem dX11_digest_146 : decode cX11_digest 146 = .ok (.iinc 3 1, 3) := by decide +kernel
theorem dX11_digest_149 : decode cX11_digest 149 = .ok (.goto (-25), 3) := by decide +kernel
theorem dX11_digest_152 : decode cX11_digest 152 = .ok (.aload_n 0, 1) := by decide +kernel
theorem dX11_digest_153 : decode cX11_digest 153 = .ok (.getfield 19, 3) := by decide +kernel
theorem dX11_digest_156 : decode cX11_digest 156 = .ok (.getfield 90, 3) := by decide +kernel
theorem dX11_digest_159 : decode cX11_digest 159 = .ok (.ifCond .le 38, 3) := by decide +kernel
theorem dX11_digest_162 : decode cX11_digest 162 = .ok (.lload_n 1, 1) := by decide +kernel
theorem dX11_digest_163 : decode cX11_digest 163 = .ok (.aload_n 0, 1) := by decide +kernel
theorem dX11_digest_164 : decode cX11_digest 164 = .ok (.invokevirtual 285, 3) := by decide +kernel
theorem dX11_digest_167 : decode cX11_digest 167 = .ok (.invokestatic 276, 3) := by decide +kernel
theorem dX11_digest_170 : decode cX11_digest 170 = .ok (.lstore_n 1, 1) := by decide +kernel
theorem dX11_digest_171 : decode cX11_digest 171 = .ok (.lload_n 1, 1) := by decide +kernel
theorem dX11_digest_172 : decode cX11_digest 172 = .ok (.aload_n 0, 1) := by decide +kernel
theorem dX11_digest_173 : decode cX11_digest 173 = .ok (.iconst 0, 1) := by decide +kernel
theorem dX11_digest_174 : decode cX11_digest 174 = .ok (.iconst 1, 1) := by decide +kernel
theorem dX11_digest_175 : decode cX11_digest 175 = .ok (.iconst 2, 1) := by decide +kernel
theorem dX11_digest_176 : decode cX11_digest 176 = .ok (.iconst 0, 1) := by decide +kernel
theorem dX11_digest_177 : decode cX11_digest 177 = .ok (.invokevirtual 288, 3) := by decide +kernel
theorem dX11_digest_180 : decode cX11_digest 180 = .ok (.invokestatic 276, 3) := by decide +kernel
theorem dX11_digest_183 : decode cX11_digest 183 = .ok (.lstore_n 1, 1) := by decide +kernel
theorem dX11_digest_184 : decode cX11_digest 184 = .ok (.lload_n 1, 1) := by decide +kernel
theorem dX11_digest_185 : decode cX11_digest 185 = .ok (.aload_n 0, 1) := by decide +kernel
theorem dX11_digest_186 : decode cX11_digest 186 = .ok (.iconst 0, 1) := by decide +kernel
theorem dX11_digest_187 : decode cX11_digest 187 = .ok (.iconst 1, 1) := by decide +kernel
theorem dX11_digest_188 : decode cX11_digest 188 = .ok (.iconst 2, 1) := by decide +kernel
theorem dX11_digest_189 : decode cX11_digest 189 = .ok (.iconst 1, 1) := by decide +kernel
theorem dX11_digest_190 : decode cX11_digest 190 = .ok (.invokevirtual 288, 3) := by decide +kernel
theorem dX11_digest_193 : decode cX11_digest 193 = .ok (.invokestatic 276, 3) := by decide +kernel
theorem dX11_digest_196 : decode cX11_digest 196 = .ok (.lstore_n 1, 1) := by decide +kernel
theorem dX11_digest_197 : decode cX11_digest 197 = .ok (.iconst 0, 1) := by decide +kernel
theorem dX11_digest_198 : decode cX11_digest 198 = .ok (.istore_n 3, 1) := by decide +kernel
theorem dX11_digest_199 : decode cX11_digest 199 = .ok (.iload_n 3, 1) := by decide +kernel
theorem dX11_digest_200 : decode cX11_digest 200 = .ok (.aload_n 0, 1) := by decide +kernel
theorem dX11_digest_201 : decode cX11_digest 201 = .ok (.getfield 10, 3) := by decide +kernel
theorem dX11_digest_204 : decode cX11_digest 204 = .ok (.getfield 71, 3) := by decide +kernel
theorem dX11_digest_207 : decode cX11_digest 207 = .ok (.if_icmp .ge 23, 3) := by decide +kernel
theorem dX11_digest_210 : decode cX11_digest 210 = .ok (.lload_n 1, 1) := by decide +kernel
theorem dX11_digest_211 : decode cX11_digest 211 = .ok (.aload_n 0, 1) := by decide +kernel
theorem dX11_digest_212 : decode cX11_digest 212 = .ok (.getfield 10, 3) := by decide +kernel
theorem dX11_digest_215 : decode cX11_digest 215 = .ok (.getfield 292, 3) := by decide +kernel
theorem dX11_digest_218 : decode cX11_digest 218 = .ok (.iload_n 3, 1) := by decide +kernel
theorem dX11_digest_219 : decode cX11_digest 219 = .ok (.iaload, 1) := by decide +kernel
theorem dX11_digest_220 : decode cX11_digest 220 = .ok (.invokestatic 276, 3) := by decide +kernel
theorem dX11_digest_223 : decode cX11_digest 223 = .ok (.lstore_n 1, 1) := by decide +kernel
theorem dX11_digest_224 : decode cX11_digest 224 = .ok (.iinc 3 1, 3) := by decide +kernel
theorem dX11_digest_227 : decode cX11_digest 227 = .ok (.goto (-28), 3) := by decide +kernel
theorem dX11_digest_230 : decode cX11_digest 230 = .ok (.iconst 0, 1) := by decide +kernel
theorem dX11_digest_231 : decode cX11_digest 231 = .ok (.istore_n 3, 1) := by decide +kernel
theorem dX11_digest_232 : decode cX11_digest 232 = .ok (.iload_n 3, 1) := by decide +kernel
theorem dX11_digest_233 : decode cX11_digest 233 = .ok (.bipush 12, 2) := by decide +kernel
theorem dX11_digest_235 : decode cX11_digest 235 = .ok (.if_icmp .gt 19, 3) := by decide +kernel
theorem dX11_digest_238 : decode cX11_digest 238 = .ok (.lload_n 1, 1) := by decide +kernel
theorem dX11_digest_239 : decode cX11_digest 239 = .ok (.aload_n 0, 1) := by decide +kernel
theorem dX11_digest_240 : decode cX11_digest 240 = .ok (.iload_n 3, 1) := by decide +kernel
theorem dX11_digest_241 : decode cX11_digest 241 = .ok (.invokevirtual 295, 3) := by decide +kernel
theorem dX11_digest_244 : decode cX11_digest 244 = .ok (.invokestatic 276, 3) := by decide +kernel
theorem dX11_digest_247 : decode cX11_digest 247 = .ok (.lstore_n 1, 1) := by decide +kernel
theorem dX11_digest_248 : decode cX11_digest 248 = .ok (.iinc 3 1, 3) := by decide +kernel
theorem dX11_digest_251 : decode cX11_digest 251 = .ok (.goto (-19), 3) := by decide +kernel
theorem dX11_digest_254 : decode cX11_digest 254 = .ok (.lload_n 1, 1) := by decide +kernel
theorem dX11_digest_255 : decode cX11_digest 255 = .ok (.lreturn, 1) := by decide +kernel
theorem dX12_in_0 : decode cX12_in 0 = .ok (.lload_n 0, 1) := by decide +kernel
theorem dX12_in_1 : decode cX12_in 1 = .ok (.lload_n 2, 1) := by decide +kernel
theorem dX12_in_2 : decode cX12_in 2 = .ok (.lcmp, 1) := by decide +kernel
theorem dX12_in_3 : decode cX12_in 3 = .ok (.ifCond .lt 14, 3) := by decide +kernel
theorem dX12_in_6 : decode cX12_in 6 = .ok (.lload_n 0, 1) := by decide +kernel
theorem dX12_in_7 : decode cX12_in 7 = .ok (.lload 4, 2) := by decide +kernel
theorem dX12_in_9 : decode cX12_in 9 = .ok (.lcmp, 1) := by decide +kernel
theorem dX12_in_10 : decode cX12_in 10 = .ok (.ifCond .gt 7, 3) := by decide +kernel
theorem dX12_in_13 : decode cX12_in 13 = .ok (.iconst 1, 1) := by decide +kernel
theorem dX12_in_14 : decode cX12_in 14 = .ok (.goto 4, 3) := by decide +kernel
theorem dX12_in_17 : decode cX12_in 17 = .ok (.iconst 0, 1) := by decide +kernel
theorem dX12_in_18 : decode cX12_in 18 = .ok (.ireturn, 1) := by decide +kernel
theorem dX12_copy_0 : decode cX12_copy 0 = .ok (.iconst 0, 1) := by decide +kernel
theorem dX12_copy_1 : decode cX12_copy 1 = .ok (.istore_n 2, 1) := by decide +kernel
theorem dX12_copy_2 : decode cX12_copy 2 = .ok (.iload_n 2, 1) := by decide +kernel
theorem dX12_copy_3 : decode cX12_copy 3 = .ok (.aload_n 0, 1) := by decide +kernel
theorem dX12_copy_4 : decode cX12_copy 4 = .ok (.arraylength, 1) := by decide +kernel
theorem dX12_copy_5 : decode cX12_copy 5 = .ok (.if_icmp .ge 15, 3) := by decide +kernel
end
section
theorem dX12_copy_8 : decode cX12_copy 8 = .ok (.aload_n 1, 1) := by decide +kernel
theorem dX12_copy_9 : decode cX12_copy 9 = .ok (.iload_n 2, 1) := by decide +kernel
theorem dX12_copy_10 : decode cX12_copy 10 = .ok (.aload_n 0, 1) := by decide +kernel
theorem dX12_copy_11 : decode cX12_copy 11 = .ok (.iload_n 2, 1) := by decide +kernel
theorem dX12_copy_12 : decode cX12_copy 12 = .ok (.iaload, 1) := by decide +kernel
theorem dX12_copy_13 : decode cX12_copy 13 = .ok (.iastore, 1) := by decide +kernel
theorem dX12_copy_14 : decode cX12_copy 14 = .ok (.iinc 2 1, 3) := by decide +kernel
theorem dX12_copy_17 : decode cX12_copy 17 = .ok (.goto (-15), 3) := by decide +kernel
theorem dX12_copy_20 : decode cX12_copy 20 = .ok (.return_, 1) := by decide +kernel
theorem dX12_letter_0 : decode cX12_letter 0 = .ok (.iload_n 1, 1) := by decide +kernel
theorem dX12_letter_1 : decode cX12_letter 1 = .ok (.i2l, 1) := by decide +kernel
theorem dX12_letter_2 : decode cX12_letter 2 = .ok (.lconst 1, 1) := by decide +kernel
theorem dX12_letter_3 : decode cX12_letter 3 = .ok (.ldc2_w 101, 3) := by decide +kernel
theorem dX12_letter_6 : decode cX12_letter 6 = .ok (.invokestatic 103, 3) := by decide +kernel
theorem dX12_letter_9 : decode cX12_letter 9 = .ok (.ifCond .ne 6, 3) := by decide +kernel
theorem dX12_letter_12 : decode cX12_letter 12 = .ok (.bipush (-102), 2) := by decide +kernel
theorem dX12_letter_14 : decode cX12_letter 14 = .ok (.ireturn, 1) := by decide +kernel
theorem dX12_letter_15 : decode cX12_letter 15 = .ok (.aload_n 0, 1) := by decide +kernel
theorem dX12_letter_16 : decode cX12_letter 16 = .ok (.getfield 107, 3) := by decide +kernel
theorem dX12_letter_19 : decode cX12_letter 19 = .ok (.bipush 64, 2) := by decide +kernel
theorem dX12_letter_21 : decode cX12_letter 21 = .ok (.if_icmp .ne 6, 3) := by decide +kernel
theorem dX12_letter_24 : decode cX12_letter 24 = .ok (.bipush (-104), 2) := by decide +kernel
theorem dX12_letter_26 : decode cX12_letter 26 = .ok (.ireturn, 1) := by decide +kernel
theorem dX12_letter_27 : decode cX12_letter 27 = .ok (.aload_n 0, 1) := by decide +kernel
theorem dX12_letter_28 : decode cX12_letter 28 = .ok (.getfield 7, 3) := by decide +kernel
theorem dX12_letter_31 : decode cX12_letter 31 = .ok (.aload_n 0, 1) := by decide +kernel
theorem dX12_letter_32 : decode cX12_letter 32 = .ok (.getfield 107, 3) := by decide +kernel
theorem dX12_letter_35 : decode cX12_letter 35 = .ok (.iload_n 1, 1) := by decide +kernel
theorem dX12_letter_36 : decode cX12_letter 36 = .ok (.iastore, 1) := by decide +kernel
theorem dX12_letter_37 : decode cX12_letter 37 = .ok (.aload_n 0, 1) := by decide +kernel
theorem dX12_letter_38 : decode cX12_letter 38 = .ok (.dup, 1) := by decide +kernel
theorem dX12_letter_39 : decode cX12_letter 39 = .ok (.getfield 107, 3) := by decide +kernel
theorem dX12_letter_42 : decode cX12_letter 42 = .ok (.iconst 1, 1) := by decide +kernel
theorem dX12_letter_43 : decode cX12_letter 43 = .ok (.iadd, 1) := by decide +kernel
theorem dX12_letter_44 : decode cX12_letter 44 = .ok (.putfield 107, 3) := by decide +kernel
theorem dX12_letter_47 : decode cX12_letter 47 = .ok (.aload_n 0, 1) := by decide +kernel
theorem dX12_letter_48 : decode cX12_letter 48 = .ok (.getfield 107, 3) := by decide +kernel
theorem dX12_letter_51 : decode cX12_letter 51 = .ok (.ireturn, 1) := by decide +kernel
theorem dX12_blank_0 : decode cX12_blank 0 = .ok (.aload_n 0, 1) := by decide +kernel
theorem dX12_blank_1 : decode cX12_blank 1 = .ok (.getfield 107, 3) := by decide +kernel
theorem dX12_blank_4 : decode cX12_blank 4 = .ok (.istore_n 1, 1) := by decide +kernel
theorem dX12_blank_5 : decode cX12_blank 5 = .ok (.aload_n 0, 1) := by decide +kernel
theorem dX12_blank_6 : decode cX12_blank 6 = .ok (.iconst 0, 1) := by decide +kernel
theorem dX12_blank_7 : decode cX12_blank 7 = .ok (.putfield 107, 3) := by decide +kernel
theorem dX12_blank_10 : decode cX12_blank 10 = .ok (.iload_n 1, 1) := by decide +kernel
theorem dX12_blank_11 : decode cX12_blank 11 = .ok (.ireturn, 1) := by decide +kernel
theorem dX12_kindBy_0 : decode cX12_kindBy 0 = .ok (.iload_n 0, 1) := by decide +kernel
theorem dX12_kindBy_1 : decode cX12_kindBy 1 = .ok (.lookupswitch 61 #[(98, 55), (100, 59), (104, 57), (112, 51), (114, 53)], 51) := by decide +kernel
theorem dX12_kindBy_52 : decode cX12_kindBy 52 = .ok (.iconst 0, 1) := by decide +kernel
theorem dX12_kindBy_53 : decode cX12_kindBy 53 = .ok (.ireturn, 1) := by decide +kernel
theorem dX12_kindBy_54 : decode cX12_kindBy 54 = .ok (.iconst 1, 1) := by decide +kernel
theorem dX12_kindBy_55 : decode cX12_kindBy 55 = .ok (.ireturn, 1) := by decide +kernel
theorem dX12_kindBy_56 : decode cX12_kindBy 56 = .ok (.iconst 2, 1) := by decide +kernel
theorem dX12_kindBy_57 : decode cX12_kindBy 57 = .ok (.ireturn, 1) := by decide +kernel
theorem dX12_kindBy_58 : decode cX12_kindBy 58 = .ok (.iconst 3, 1) := by decide +kernel
theorem dX12_kindBy_59 : decode cX12_kindBy 59 = .ok (.ireturn, 1) := by decide +kernel
theorem dX12_kindBy_60 : decode cX12_kindBy 60 = .ok (.iconst 4, 1) := by decide +kernel
theorem dX12_kindBy_61 : decode cX12_kindBy 61 = .ok (.ireturn, 1) := by decide +kernel
theorem dX12_kindBy_62 : decode cX12_kindBy 62 = .ok (.iconst (-1), 1) := by decide +kernel
theorem dX12_kindBy_63 : decode cX12_kindBy 63 = .ok (.ireturn, 1) := by decide +kernel
theorem dX12_lockBy_0 : decode cX12_lockBy 0 = .ok (.iload_n 0, 1) := by decide +kernel
theorem dX12_lockBy_1 : decode cX12_lockBy 1 = .ok (.bipush 111, 2) := by decide +kernel
theorem dX12_lockBy_3 : decode cX12_lockBy 3 = .ok (.if_icmp .ne 7, 3) := by decide +kernel
theorem dX12_lockBy_6 : decode cX12_lockBy 6 = .ok (.iconst (-1), 1) := by decide +kernel
theorem dX12_lockBy_7 : decode cX12_lockBy 7 = .ok (.goto 7, 3) := by decide +kernel
theorem dX12_lockBy_10 : decode cX12_lockBy 10 = .ok (.iload_n 0, 1) := by decide +kernel
theorem dX12_lockBy_11 : decode cX12_lockBy 11 = .ok (.bipush 97, 2) := by decide +kernel
theorem dX12_lockBy_13 : decode cX12_lockBy 13 = .ok (.isub, 1) := by decide +kernel
theorem dX12_lockBy_14 : decode cX12_lockBy 14 = .ok (.ireturn, 1) := by decide +kernel
theorem dX12_isRoomLetter_0 : decode cX12_isRoomLetter 0 = .ok (.iload_n 1, 1) := by decide +kernel
theorem dX12_isRoomLetter_1 : decode cX12_isRoomLetter 1 = .ok (.i2l, 1) := by decide +kernel
theorem dX12_isRoomLetter_2 : decode cX12_isRoomLetter 2 = .ok (.ldc2_w 110, 3) := by decide +kernel
theorem dX12_isRoomLetter_5 : decode cX12_isRoomLetter 5 = .ok (.aload_n 0, 1) := by decide +kernel
theorem dX12_isRoomLetter_6 : decode cX12_isRoomLetter 6 = .ok (.getfield 7, 3) := by decide +kernel
theorem dX12_isRoomLetter_9 : decode cX12_isRoomLetter 9 = .ok (.iconst 0, 1) := by decide +kernel
theorem dX12_isRoomLetter_10 : decode cX12_isRoomLetter 10 = .ok (.iaload, 1) := by decide +kernel
theorem dX12_isRoomLetter_11 : decode cX12_isRoomLetter 11 = .ok (.iconst 1, 1) := by decide +kernel
theorem dX12_isRoomLetter_12 : decode cX12_isRoomLetter 12 = .ok (.isub, 1) := by decide +kernel
theorem dX12_isRoomLetter_13 : decode cX12_isRoomLetter 13 = .ok (.i2l, 1) := by decide +kernel
theorem dX12_isRoomLetter_14 : decode cX12_isRoomLetter 14 = .ok (.invokestatic 103, 3) := by decide +kernel
theorem dX12_isRoomLetter_17 : decode cX12_isRoomLetter 17 = .ok (.ireturn, 1) := by decide +kernel
theorem dX12_isDoorLetter_0 : decode cX12_isDoorLetter 0 = .ok (.aload_n 0, 1) := by decide +kernel
theorem dX12_isDoorLetter_1 : decode cX12_isDoorLetter 1 = .ok (.getfield 7, 3) := by decide +kernel
theorem dX12_isDoorLetter_4 : decode cX12_isDoorLetter 4 = .ok (.iload_n 1, 1) := by decide +kernel
theorem dX12_isDoorLetter_5 : decode cX12_isDoorLetter 5 = .ok (.iaload, 1) := by decide +kernel
theorem dX12_isDoorLetter_6 : decode cX12_isDoorLetter 6 = .ok (.istore_n 2, 1) := by decide +kernel
theorem dX12_isDoorLetter_7 : decode cX12_isDoorLetter 7 = .ok (.iload_n 1, 1) := by decide +kernel
theorem dX12_isDoorLetter_8 : decode cX12_isDoorLetter 8 = .ok (.iconst 2, 1) := by decide +kernel
theorem dX12_isDoorLetter_9 : decode cX12_isDoorLetter 9 = .ok (.isub, 1) := by decide +kernel
theorem dX12_isDoorLetter_10 : decode cX12_isDoorLetter 10 = .ok (.iconst 4, 1) := by decide +kernel
theorem dX12_isDoorLetter_11 : decode cX12_isDoorLetter 11 = .ok (.irem, 1) := by decide +kernel
theorem dX12_isDoorLetter_12 : decode cX12_isDoorLetter 12 = .ok (.tableswitch 84 0 2 #[28, 34, 60], 28) := by decide +kernel
theorem dX12_isDoorLetter_40 : decode cX12_isDoorLetter 40 = .ok (.aload_n 0, 1) := by decide +kernel
theorem dX12_isDoorLetter_41 : decode cX12_isDoorLetter 41 = .ok (.iload_n 2, 1) := by decide +kernel
theorem dX12_isDoorLetter_42 : decode cX12_isDoorLetter 42 = .ok (.invokevirtual 112, 3) := by decide +kernel
theorem dX12_isDoorLetter_45 : decode cX12_isDoorLetter 45 = .ok (.ireturn, 1) := by decide +kernel
theorem dX12_isDoorLetter_46 : decode cX12_isDoorLetter 46 = .ok (.aload_n 0, 1) := by decide +kernel
theorem dX12_isDoorLetter_47 : decode cX12_isDoorLetter 47 = .ok (.iload_n 2, 1) := by decide +kernel
theorem dX12_isDoorLetter_48 : decode cX12_isDoorLetter 48 = .ok (.invokevirtual 112, 3) := by decide +kernel
theorem dX12_isDoorLetter_51 : decode cX12_isDoorLetter 51 = .ok (.ifCond .eq 19, 3) := by decide +kernel
theorem dX12_isDoorLetter_54 : decode cX12_isDoorLetter 54 = .ok (.iload_n 2, 1) := by decide +kernel
theorem dX12_isDoorLetter_55 : decode cX12_isDoorLetter 55 = .ok (.aload_n 0, 1) := by decide +kernel
theorem dX12_isDoorLetter_56 : decode cX12_isDoorLetter 56 = .ok (.getfield 7, 3) := by decide +kernel
theorem dX12_isDoorLetter_59 : decode cX12_isDoorLetter 59 = .ok (.iload_n 1, 1) := by decide +kernel
theorem dX12_isDoorLetter_60 : decode cX12_isDoorLetter 60 = .ok (.iconst 1, 1) := by decide +kernel
theorem dX12_isDoorLetter_61 : decode cX12_isDoorLetter 61 = .ok (.isub, 1) := by decide +kernel
theorem dX12_isDoorLetter_62 : decode cX12_isDoorLetter 62 = .ok (.iaload, 1) := by decide +kernel
theorem dX12_isDoorLetter_63 : decode cX12_isDoorLetter 63 = .ok (.if_icmp .eq 7, 3) := by decide +kernel
theorem dX12_isDoorLetter_66 : decode cX12_isDoorLetter 66 = .ok (.iconst 1, 1) := by decide +kernel
theorem dX12_isDoorLetter_67 : decode cX12_isDoorLetter 67 = .ok (.goto 4, 3) := by decide +kernel
theorem dX12_isDoorLetter_70 : decode cX12_isDoorLetter 70 = .ok (.iconst 0, 1) := by decide +kernel
theorem dX12_isDoorLetter_71 : decode cX12_isDoorLetter 71 = .ok (.ireturn, 1) := by decide +kernel
theorem dX12_isDoorLetter_72 : decode cX12_isDoorLetter 72 = .ok (.iload_n 2, 1) := by decide +kernel
theorem dX12_isDoorLetter_73 : decode cX12_isDoorLetter 73 = .ok (.bipush 111, 2) := by decide +kernel
theorem dX12_isDoorLetter_75 : decode cX12_isDoorLetter 75 = .ok (.if_icmp .eq 15, 3) := by decide +kernel
theorem dX12_isDoorLetter_78 : decode cX12_isDoorLetter 78 = .ok (.iload_n 2, 1) := by decide +kernel
theorem dX12_isDoorLetter_79 : decode cX12_isDoorLetter 79 = .ok (.bipush 97, 2) := by decide +kernel
theorem dX12_isDoorLetter_81 : decode cX12_isDoorLetter 81 = .ok (.if_icmp .eq 9, 3) := by decide +kernel
theorem dX12_isDoorLetter_84 : decode cX12_isDoorLetter 84 = .ok (.iload_n 2, 1) := by decide +kernel
theorem dX12_isDoorLetter_85 : decode cX12_isDoorLetter 85 = .ok (.bipush 98, 2) := by decide +kernel
theorem dX12_isDoorLetter_87 : decode cX12_isDoorLetter 87 = .ok (.if_icmp .ne 7, 3) := by decide +kernel
theorem dX12_isDoorLetter_90 : decode cX12_isDoorLetter 90 = .ok (.iconst 1, 1) := by decide +kernel
theorem dX12_isDoorLetter_91 : decode cX12_isDoorLetter 91 = .ok (.goto 4, 3) := by decide +kernel
theorem dX12_isDoorLetter_94 : decode cX12_isDoorLetter 94 = .ok (.iconst 0, 1) := by decide +kernel
theorem dX12_isDoorLetter_95 : decode cX12_isDoorLetter 95 = .ok (.ireturn, 1) := by decide +kernel
theorem dX12_isDoorLetter_96 : decode cX12_isDoorLetter 96 = .ok (.iload_n 2, 1) := by decide +kernel
theorem dX12_isDoorLetter_97 : decode cX12_isDoorLetter 97 = .ok (.bipush 59, 2) := by decide +kernel
theorem dX12_isDoorLetter_99 : decode cX12_isDoorLetter 99 = .ok (.if_icmp .ne 10, 3) := by decide +kernel
theorem dX12_isDoorLetter_102 : decode cX12_isDoorLetter 102 = .ok (.aload_n 0, 1) := by decide +kernel
theorem dX12_isDoorLetter_103 : decode cX12_isDoorLetter 103 = .ok (.iload_n 1, 1) := by decide +kernel
theorem dX12_isDoorLetter_104 : decode cX12_isDoorLetter 104 = .ok (.putfield 116, 3) := by decide +kernel
theorem dX12_isDoorLetter_107 : decode cX12_isDoorLetter 107 = .ok (.iconst 1, 1) := by decide +kernel
theorem dX12_isDoorLetter_108 : decode cX12_isDoorLetter 108 = .ok (.ireturn, 1) := by decide +kernel
theorem dX12_isDoorLetter_109 : decode cX12_isDoorLetter 109 = .ok (.iload_n 2, 1) := by decide +kernel
theorem dX12_isDoorLetter_110 : decode cX12_isDoorLetter 110 = .ok (.bipush 44, 2) := by decide +kernel
theorem dX12_isDoorLetter_112 : decode cX12_isDoorLetter 112 = .ok (.if_icmp .ne 13, 3) := by decide +kernel
theorem dX12_isDoorLetter_115 : decode cX12_isDoorLetter 115 = .ok (.iload_n 1, 1) := by decide +kernel
theorem dX12_isDoorLetter_116 : decode cX12_isDoorLetter 116 = .ok (.bipush 25, 2) := by decide +kernel
theorem dX12_isDoorLetter_118 : decode cX12_isDoorLetter 118 = .ok (.if_icmp .ge 7, 3) := by decide +kernel
theorem dX12_isDoorLetter_121 : decode cX12_isDoorLetter 121 = .ok (.iconst 1, 1) := by decide +kernel
theorem dX12_isDoorLetter_122 : decode cX12_isDoorLetter 122 = .ok (.goto 4, 3) := by decide +kernel
theorem dX12_isDoorLetter_125 : decode cX12_isDoorLetter 125 = .ok (.iconst 0, 1) := by decide +kernel
theorem dX12_isDoorLetter_126 : decode cX12_isDoorLetter 126 = .ok (.ireturn, 1) := by decide +kernel
theorem dX12_isPersonLetter_0 : decode cX12_isPersonLetter 0 = .ok (.aload_n 0, 1) := by decide +kernel
theorem dX12_isPersonLetter_1 : decode cX12_isPersonLetter 1 = .ok (.getfield 7, 3) := by decide +kernel
theorem dX12_isPersonLetter_4 : decode cX12_isPersonLetter 4 = .ok (.iload_n 1, 1) := by decide +kernel
theorem dX12_isPersonLetter_5 : decode cX12_isPersonLetter 5 = .ok (.iaload, 1) := by decide +kernel
theorem dX12_isPersonLetter_6 : decode cX12_isPersonLetter 6 = .ok (.istore_n 2, 1) := by decide +kernel
theorem dX12_isPersonLetter_7 : decode cX12_isPersonLetter 7 = .ok (.iload_n 1, 1) := by decide +kernel
theorem dX12_isPersonLetter_8 : decode cX12_isPersonLetter 8 = .ok (.aload_n 0, 1) := by decide +kernel
theorem dX12_isPersonLetter_9 : decode cX12_isPersonLetter 9 = .ok (.getfield 116, 3) := by decide +kernel
theorem dX12_isPersonLetter_12 : decode cX12_isPersonLetter 12 = .ok (.isub, 1) := by decide +kernel
theorem dX12_isPersonLetter_13 : decode cX12_isPersonLetter 13 = .ok (.iconst 1, 1) := by decide +kernel
theorem dX12_isPersonLetter_14 : decode cX12_isPersonLetter 14 = .ok (.isub, 1) := by decide +kernel
theorem dX12_isPersonLetter_15 : decode cX12_isPersonLetter 15 = .ok (.istore_n 3, 1) := by decide +kernel
theorem dX12_isPersonLetter_16 : decode cX12_isPersonLetter 16 = .ok (.iload_n 3, 1) := by decide +kernel
theorem dX12_isPersonLetter_17 : decode cX12_isPersonLetter 17 = .ok (.iconst 4, 1) := by decide +kernel
theorem dX12_isPersonLetter_18 : decode cX12_isPersonLetter 18 = .ok (.irem, 1) := by decide +kernel
theorem dX12_isPersonLetter_19 : decode cX12_isPersonLetter 19 = .ok (.tableswitch 57 0 2 #[25, 39, 51], 25) := by decide +kernel
theorem dX12_isPersonLetter_44 : decode cX12_isPersonLetter 44 = .ok (.iload_n 2, 1) := by decide +kernel
theorem dX12_isPersonLetter_45 : decode cX12_isPersonLetter 45 = .ok (.invokestatic 119, 3) := by decide +kernel
theorem dX12_isPersonLetter_48 : decode cX12_isPersonLetter 48 = .ok (.iconst (-1), 1) := by decide +kernel
theorem dX12_isPersonLetter_49 : decode cX12_isPersonLetter 49 = .ok (.if_icmp .eq 7, 3) := by decide +kernel
theorem dX12_isPersonLetter_52 : decode cX12_isPersonLetter 52 = .ok (.iconst 1, 1) := by decide +kernel
theorem dX12_isPersonLetter_53 : decode cX12_isPersonLetter 53 = .ok (.goto 4, 3) := by decide +kernel
theorem dX12_isPersonLetter_56 : decode cX12_isPersonLetter 56 = .ok (.iconst 0, 1) := by decide +kernel
theorem dX12_isPersonLetter_57 : decode cX12_isPersonLetter 57 = .ok (.ireturn, 1) := by decide +kernel
theorem dX12_isPersonLetter_58 : decode cX12_isPersonLetter 58 = .ok (.iload_n 2, 1) := by decide +kernel
theorem dX12_isPersonLetter_59 : decode cX12_isPersonLetter 59 = .ok (.i2l, 1) := by decide +kernel
theorem dX12_isPersonLetter_60 : decode cX12_isPersonLetter 60 = .ok (.ldc2_w 110, 3) := by decide +kernel
theorem dX12_isPersonLetter_63 : decode cX12_isPersonLetter 63 = .ok (.ldc2_w 123, 3) := by decide +kernel
theorem dX12_isPersonLetter_66 : decode cX12_isPersonLetter 66 = .ok (.invokestatic 103, 3) := by decide +kernel
theorem dX12_isPersonLetter_69 : decode cX12_isPersonLetter 69 = .ok (.ireturn, 1) := by decide +kernel
theorem dX12_isPersonLetter_70 : decode cX12_isPersonLetter 70 = .ok (.aload_n 0, 1) := by decide +kernel
theorem dX12_isPersonLetter_71 : decode cX12_isPersonLetter 71 = .ok (.iload_n 2, 1) := by decide +kernel
theorem dX12_isPersonLetter_72 : decode cX12_isPersonLetter 72 = .ok (.invokevirtual 112, 3) := by decide +kernel
theorem dX12_isPersonLetter_75 : decode cX12_isPersonLetter 75 = .ok (.ireturn, 1) := by decide +kernel
theorem dX12_isPersonLetter_76 : decode cX12_isPersonLetter 76 = .ok (.iload_n 2, 1) := by decide +kernel
theorem dX12_isPersonLetter_77 : decode cX12_isPersonLetter 77 = .ok (.bipush 59, 2) := by decide +kernel
theorem dX12_isPersonLetter_79 : decode cX12_isPersonLetter 79 = .ok (.if_icmp .ne 15, 3) := by decide +kernel
theorem dX12_isPersonLetter_82 : decode cX12_isPersonLetter 82 = .ok (.iload_n 3, 1) := by decide +kernel
theorem dX12_isPersonLetter_83 : decode cX12_isPersonLetter 83 = .ok (.iconst 3, 1) := by decide +kernel
theorem dX12_isPersonLetter_84 : decode cX12_isPersonLetter 84 = .ok (.if_icmp .le 10, 3) := by decide +kernel
theorem dX12_isPersonLetter_87 : decode cX12_isPersonLetter 87 = .ok (.aload_n 0, 1) := by decide +kernel
theorem dX12_isPersonLetter_88 : decode cX12_isPersonLetter 88 = .ok (.iload_n 1, 1) := by decide +kernel
theorem dX12_isPersonLetter_89 : decode cX12_isPersonLetter 89 = .ok (.putfield 125, 3) := by decide +kernel
theorem dX12_isPersonLetter_92 : decode cX12_isPersonLetter 92 = .ok (.iconst 1, 1) := by decide +kernel
theorem dX12_isPersonLetter_93 : decode cX12_isPersonLetter 93 = .ok (.ireturn, 1) := by decide +kernel
theorem dX12_isPersonLetter_94 : decode cX12_isPersonLetter 94 = .ok (.iload_n 2, 1) := by decide +kernel
theorem dX12_isPersonLetter_95 : decode cX12_isPersonLetter 95 = .ok (.bipush 44, 2) := by decide +kernel
theorem dX12_isPersonLetter_97 : decode cX12_isPersonLetter 97 = .ok (.if_icmp .ne 13, 3) := by decide +kernel
theorem dX12_isPersonLetter_100 : decode cX12_isPersonLetter 100 = .ok (.iload_n 3, 1) := by decide +kernel
theorem dX12_isPersonLetter_101 : decode cX12_isPersonLetter 101 = .ok (.bipush 15, 2) := by decide +kernel
theorem dX12_isPersonLetter_103 : decode cX12_isPersonLetter 103 = .ok (.if_icmp .ge 7, 3) := by decide +kernel
theorem dX12_isPersonLetter_106 : decode cX12_isPersonLetter 106 = .ok (.iconst 1, 1) := by decide +kernel
theorem dX12_isPersonLetter_107 : decode cX12_isPersonLetter 107 = .ok (.goto 4, 3) := by decide +kernel
theorem dX12_isPersonLetter_110 : decode cX12_isPersonLetter 110 = .ok (.iconst 0, 1) := by decide +kernel
theorem dX12_isPersonLetter_111 : decode cX12_isPersonLetter 111 = .ok (.ireturn, 1) := by decide +kernel
theorem dX12_isPersonDigit_0 : decode cX12_isPersonDigit 0 = .ok (.iload_n 1, 1) := by decide +kernel
theorem dX12_isPersonDigit_1 : decode cX12_isPersonDigit 1 = .ok (.i2l, 1) := by decide +kernel
theorem dX12_isPersonDigit_2 : decode cX12_isPersonDigit 2 = .ok (.ldc2_w 110, 3) := by decide +kernel
theorem dX12_isPersonDigit_5 : decode cX12_isPersonDigit 5 = .ok (.bipush 48, 2) := by decide +kernel
theorem dX12_isPersonDigit_7 : decode cX12_isPersonDigit 7 = .ok (.aload_n 0, 1) := by decide +kernel
theorem dX12_isPersonDigit_8 : decode cX12_isPersonDigit 8 = .ok (.getfield 125, 3) := by decide +kernel
theorem dX12_isPersonDigit_11 : decode cX12_isPersonDigit 11 = .ok (.aload_n 0, 1) := by decide +kernel
theorem dX12_isPersonDigit_12 : decode cX12_isPersonDigit 12 = .ok (.getfield 116, 3) := by decide +kernel
theorem dX12_isPersonDigit_15 : decode cX12_isPersonDigit 15 = .ok (.isub, 1) := by decide +kernel
theorem dX12_isPersonDigit_16 : decode cX12_isPersonDigit 16 = .ok (.iconst 4, 1) := by decide +kernel
theorem dX12_isPersonDigit_17 : decode cX12_isPersonDigit 17 = .ok (.idiv, 1) := by decide +kernel
theorem dX12_isPersonDigit_18 : decode cX12_isPersonDigit 18 = .ok (.iadd, 1) := by decide +kernel
theorem dX12_isPersonDigit_19 : decode cX12_isPersonDigit 19 = .ok (.iconst 1, 1) := by decide +kernel
theorem dX12_isPersonDigit_20 : decode cX12_isPersonDigit 20 = .ok (.isub, 1) := by decide +kernel
theorem dX12_isPersonDigit_21 : decode cX12_isPersonDigit 21 = .ok (.i2l, 1) := by decide +kernel
theorem dX12_isPersonDigit_22 : decode cX12_isPersonDigit 22 = .ok (.invokestatic 103, 3) := by decide +kernel
theorem dX12_isPersonDigit_25 : decode cX12_isPersonDigit 25 = .ok (.ireturn, 1) := by decide +kernel
theorem dX12_isDebtLetter_0 : decode cX12_isDebtLetter 0 = .ok (.aload_n 0, 1) := by decide +kernel
theorem dX12_isDebtLetter_1 : decode cX12_isDebtLetter 1 = .ok (.getfield 7, 3) := by decide +kernel
theorem dX12_isDebtLetter_4 : decode cX12_isDebtLetter 4 = .ok (.iload_n 1, 1) := by decide +kernel
theorem dX12_isDebtLetter_5 : decode cX12_isDebtLetter 5 = .ok (.iaload, 1) := by decide +kernel
theorem dX12_isDebtLetter_6 : decode cX12_isDebtLetter 6 = .ok (.istore_n 2, 1) := by decide +kernel
theorem dX12_isDebtLetter_7 : decode cX12_isDebtLetter 7 = .ok (.iload_n 1, 1) := by decide +kernel
theorem dX12_isDebtLetter_8 : decode cX12_isDebtLetter 8 = .ok (.aload_n 0, 1) := by decide +kernel
theorem dX12_isDebtLetter_9 : decode cX12_isDebtLetter 9 = .ok (.getfield 125, 3) := by decide +kernel
theorem dX12_isDebtLetter_12 : decode cX12_isDebtLetter 12 = .ok (.isub, 1) := by decide +kernel
theorem dX12_isDebtLetter_13 : decode cX12_isDebtLetter 13 = .ok (.iconst 1, 1) := by decide +kernel
theorem dX12_isDebtLetter_14 : decode cX12_isDebtLetter 14 = .ok (.isub, 1) := by decide +kernel
theorem dX12_isDebtLetter_15 : decode cX12_isDebtLetter 15 = .ok (.istore_n 3, 1) := by decide +kernel
theorem dX12_isDebtLetter_16 : decode cX12_isDebtLetter 16 = .ok (.iload_n 3, 1) := by decide +kernel
theorem dX12_isDebtLetter_17 : decode cX12_isDebtLetter 17 = .ok (.iconst 5, 1) := by decide +kernel
theorem dX12_isDebtLetter_18 : decode cX12_isDebtLetter 18 = .ok (.irem, 1) := by decide +kernel
theorem dX12_isDebtLetter_19 : decode cX12_isDebtLetter 19 = .ok (.tableswitch 79 0 3 #[29, 35, 61, 67], 29) := by decide +kernel
theorem dX12_isDebtLetter_48 : decode cX12_isDebtLetter 48 = .ok (.aload_n 0, 1) := by decide +kernel
theorem dX12_isDebtLetter_49 : decode cX12_isDebtLetter 49 = .ok (.iload_n 2, 1) := by decide +kernel
theorem dX12_isDebtLetter_50 : decode cX12_isDebtLetter 50 = .ok (.invokevirtual 128, 3) := by decide +kernel
theorem dX12_isDebtLetter_53 : decode cX12_isDebtLetter 53 = .ok (.ireturn, 1) := by decide +kernel
theorem dX12_isDebtLetter_54 : decode cX12_isDebtLetter 54 = .ok (.aload_n 0, 1) := by decide +kernel
theorem dX12_isDebtLetter_55 : decode cX12_isDebtLetter 55 = .ok (.iload_n 2, 1) := by decide +kernel
theorem dX12_isDebtLetter_56 : decode cX12_isDebtLetter 56 = .ok (.invokevirtual 128, 3) := by decide +kernel
theorem dX12_isDebtLetter_59 : decode cX12_isDebtLetter 59 = .ok (.ifCond .eq 19, 3) := by decide +kernel
theorem dX12_isDebtLetter_62 : decode cX12_isDebtLetter 62 = .ok (.iload_n 2, 1) := by decide +kernel
theorem dX12_isDebtLetter_63 : decode cX12_isDebtLetter 63 = .ok (.aload_n 0, 1) := by decide +kernel
theorem dX12_isDebtLetter_64 : decode cX12_isDebtLetter 64 = .ok (.getfield 7, 3) := by decide +kernel
theorem dX12_isDebtLetter_67 : decode cX12_isDebtLetter 67 = .ok (.iload_n 1, 1) := by decide +kernel
theorem dX12_isDebtLetter_68 : decode cX12_isDebtLetter 68 = .ok (.iconst 1, 1) := by decide +kernel
theorem dX12_isDebtLetter_69 : decode cX12_isDebtLetter 69 = .ok (.isub, 1) := by decide +kernel
theorem dX12_isDebtLetter_70 : decode cX12_isDebtLetter 70 = .ok (.iaload, 1) := by decide +kernel
theorem dX12_isDebtLetter_71 : decode cX12_isDebtLetter 71 = .ok (.if_icmp .eq 7, 3) := by decide +kernel
theorem dX12_isDebtLetter_74 : decode cX12_isDebtLetter 74 = .ok (.iconst 1, 1) := by decide +kernel
theorem dX12_isDebtLetter_75 : decode cX12_isDebtLetter 75 = .ok (.goto 4, 3) := by decide +kernel
theorem dX12_isDebtLetter_78 : decode cX12_isDebtLetter 78 = .ok (.iconst 0, 1) := by decide +kernel
theorem dX12_isDebtLetter_79 : decode cX12_isDebtLetter 79 = .ok (.ireturn, 1) := by decide +kernel
theorem dX12_isDebtLetter_80 : decode cX12_isDebtLetter 80 = .ok (.aload_n 0, 1) := by decide +kernel
theorem dX12_isDebtLetter_81 : decode cX12_isDebtLetter 81 = .ok (.iload_n 2, 1) := by decide +kernel
theorem dX12_isDebtLetter_82 : decode cX12_isDebtLetter 82 = .ok (.invokevirtual 112, 3) := by decide +kernel
theorem dX12_isDebtLetter_85 : decode cX12_isDebtLetter 85 = .ok (.ireturn, 1) := by decide +kernel
theorem dX12_isDebtLetter_86 : decode cX12_isDebtLetter 86 = .ok (.iload_n 2, 1) := by decide +kernel
theorem dX12_isDebtLetter_87 : decode cX12_isDebtLetter 87 = .ok (.i2l, 1) := by decide +kernel
theorem dX12_isDebtLetter_88 : decode cX12_isDebtLetter 88 = .ok (.ldc2_w 131, 3) := by decide +kernel
theorem dX12_isDebtLetter_91 : decode cX12_isDebtLetter 91 = .ok (.ldc2_w 123, 3) := by decide +kernel
theorem dX12_isDebtLetter_94 : decode cX12_isDebtLetter 94 = .ok (.invokestatic 103, 3) := by decide +kernel
theorem dX12_isDebtLetter_97 : decode cX12_isDebtLetter 97 = .ok (.ireturn, 1) := by decide +kernel
theorem dX12_isDebtLetter_98 : decode cX12_isDebtLetter 98 = .ok (.iload_n 2, 1) := by decide +kernel
theorem dX12_isDebtLetter_99 : decode cX12_isDebtLetter 99 = .ok (.bipush 44, 2) := by decide +kernel
theorem dX12_isDebtLetter_101 : decode cX12_isDebtLetter 101 = .ok (.if_icmp .ne 13, 3) := by decide +kernel
theorem dX12_isDebtLetter_104 : decode cX12_isDebtLetter 104 = .ok (.iload_n 3, 1) := by decide +kernel
theorem dX12_isDebtLetter_105 : decode cX12_isDebtLetter 105 = .ok (.bipush 19, 2) := by decide +kernel
theorem dX12_isDebtLetter_107 : decode cX12_isDebtLetter 107 = .ok (.if_icmp .ge 7, 3) := by decide +kernel
theorem dX12_isDebtLetter_110 : decode cX12_isDebtLetter 110 = .ok (.iconst 1, 1) := by decide +kernel
theorem dX12_isDebtLetter_111 : decode cX12_isDebtLetter 111 = .ok (.goto 4, 3) := by decide +kernel
theorem dX12_isDebtLetter_114 : decode cX12_isDebtLetter 114 = .ok (.iconst 0, 1) := by decide +kernel
theorem dX12_isDebtLetter_115 : decode cX12_isDebtLetter 115 = .ok (.ireturn, 1) := by decide +kernel
theorem dX12_isGood_0 : decode cX12_isGood 0 = .ok (.iload_n 1, 1) := by decide +kernel
theorem dX12_isGood_1 : decode cX12_isGood 1 = .ok (.iconst 2, 1) := by decide +kernel
theorem dX12_isGood_2 : decode cX12_isGood 2 = .ok (.if_icmp .ge 43, 3) := by decide +kernel
theorem dX12_isGood_5 : decode cX12_isGood 5 = .ok (.iload_n 1, 1) := by decide +kernel
theorem dX12_isGood_6 : decode cX12_isGood 6 = .ok (.ifCond .ne 22, 3) := by decide +kernel
theorem dX12_isGood_9 : decode cX12_isGood 9 = .ok (.aload_n 0, 1) := by decide +kernel
theorem dX12_isGood_10 : decode cX12_isGood 10 = .ok (.getfield 7, 3) := by decide +kernel
theorem dX12_isGood_13 : decode cX12_isGood 13 = .ok (.iconst 0, 1) := by decide +kernel
theorem dX12_isGood_14 : decode cX12_isGood 14 = .ok (.iaload, 1) := by decide +kernel
theorem dX12_isGood_15 : decode cX12_isGood 15 = .ok (.i2l, 1) := by decide +kernel
theorem dX12_isGood_16 : decode cX12_isGood 16 = .ok (.ldc2_w 133, 3) := by decide +kernel
theorem dX12_isGood_19 : decode cX12_isGood 19 = .ok (.ldc2_w 135, 3) := by decide +kernel
theorem dX12_isGood_22 : decode cX12_isGood 22 = .ok (.invokestatic 103, 3) := by decide +kernel
theorem dX12_isGood_25 : decode cX12_isGood 25 = .ok (.goto 19, 3) := by decide +kernel
theorem dX12_isGood_28 : decode cX12_isGood 28 = .ok (.aload_n 0, 1) := by decide +kernel
theorem dX12_isGood_29 : decode cX12_isGood 29 = .ok (.getfield 7, 3) := by decide +kernel
theorem dX12_isGood_32 : decode cX12_isGood 32 = .ok (.iconst 1, 1) := by decide +kernel
theorem dX12_isGood_33 : decode cX12_isGood 33 = .ok (.iaload, 1) := by decide +kernel
theorem dX12_isGood_34 : decode cX12_isGood 34 = .ok (.bipush 59, 2) := by decide +kernel
theorem dX12_isGood_36 : decode cX12_isGood 36 = .ok (.if_icmp .ne 7, 3) := by decide +kernel
theorem dX12_isGood_39 : decode cX12_isGood 39 = .ok (.iconst 1, 1) := by decide +kernel
theorem dX12_isGood_40 : decode cX12_isGood 40 = .ok (.goto 4, 3) := by decide +kernel
theorem dX12_isGood_43 : decode cX12_isGood 43 = .ok (.iconst 0, 1) := by decide +kernel
theorem dX12_isGood_44 : decode cX12_isGood 44 = .ok (.ireturn, 1) := by decide +kernel
theorem dX12_isGood_45 : decode cX12_isGood 45 = .ok (.aload_n 0, 1) := by decide +kernel
theorem dX12_isGood_46 : decode cX12_isGood 46 = .ok (.getfield 116, 3) := by decide +kernel
theorem dX12_isGood_49 : decode cX12_isGood 49 = .ok (.ifCond .ne 9, 3) := by decide +kernel
theorem dX12_isGood_52 : decode cX12_isGood 52 = .ok (.aload_n 0, 1) := by decide +kernel
theorem dX12_isGood_53 : decode cX12_isGood 53 = .ok (.iload_n 1, 1) := by decide +kernel
theorem dX12_isGood_54 : decode cX12_isGood 54 = .ok (.invokevirtual 137, 3) := by decide +kernel
theorem dX12_isGood_57 : decode cX12_isGood 57 = .ok (.ireturn, 1) := by decide +kernel
theorem dX12_isGood_58 : decode cX12_isGood 58 = .ok (.aload_n 0, 1) := by decide +kernel
theorem dX12_isGood_59 : decode cX12_isGood 59 = .ok (.getfield 125, 3) := by decide +kernel
theorem dX12_isGood_62 : decode cX12_isGood 62 = .ok (.ifCond .ne 11, 3) := by decide +kernel
theorem dX12_isGood_65 : decode cX12_isGood 65 = .ok (.aload_n 0, 1) := by decide +kernel
theorem dX12_isGood_66 : decode cX12_isGood 66 = .ok (.iload_n 1, 1) := by decide +kernel
theorem dX12_isGood_67 : decode cX12_isGood 67 = .ok (.invokevirtual 140, 3) := by decide +kernel
theorem dX12_isGood_70 : decode cX12_isGood 70 = .ok (.goto 8, 3) := by decide +kernel
theorem dX12_isGood_73 : decode cX12_isGood 73 = .ok (.aload_n 0, 1) := by decide +kernel
theorem dX12_isGood_74 : decode cX12_isGood 74 = .ok (.iload_n 1, 1) := by decide +kernel
theorem dX12_isGood_75 : decode cX12_isGood 75 = .ok (.invokevirtual 143, 3) := by decide +kernel
theorem dX12_isGood_78 : decode cX12_isGood 78 = .ok (.ireturn, 1) := by decide +kernel
theorem dX12_faultOf_0 : decode cX12_faultOf 0 = .ok (.aload_n 0, 1) := by decide +kernel
theorem dX12_faultOf_1 : decode cX12_faultOf 1 = .ok (.iconst 0, 1) := by decide +kernel
theorem dX12_faultOf_2 : decode cX12_faultOf 2 = .ok (.putfield 116, 3) := by decide +kernel
theorem dX12_faultOf_5 : decode cX12_faultOf 5 = .ok (.aload_n 0, 1) := by decide +kernel
theorem dX12_faultOf_6 : decode cX12_faultOf 6 = .ok (.iconst 0, 1) := by decide +kernel
theorem dX12_faultOf_7 : decode cX12_faultOf 7 = .ok (.putfield 125, 3) := by decide +kernel
theorem dX12_faultOf_10 : decode cX12_faultOf 10 = .ok (.iconst 0, 1) := by decide +kernel
theorem dX12_faultOf_11 : decode cX12_faultOf 11 = .ok (.istore_n 1, 1) := by decide +kernel
theorem dX12_faultOf_12 : decode cX12_faultOf 12 = .ok (.iload_n 1, 1) := by decide +kernel
theorem dX12_faultOf_13 : decode cX12_faultOf 13 = .ok (.aload_n 0, 1) := by decide +kernel
theorem dX12_faultOf_14 : decode cX12_faultOf 14 = .ok (.getfield 107, 3) := by decide +kernel
theorem dX12_faultOf_17 : decode cX12_faultOf 17 = .ok (.if_icmp .ge 17, 3) := by decide +kernel
theorem dX12_faultOf_20 : decode cX12_faultOf 20 = .ok (.aload_n 0, 1) := by decide +kernel
theorem dX12_faultOf_21 : decode cX12_faultOf 21 = .ok (.iload_n 1, 1) := by decide +kernel
theorem dX12_faultOf_22 : decode cX12_faultOf 22 = .ok (.invokevirtual 146, 3) := by decide +kernel
theorem dX12_faultOf_25 : decode cX12_faultOf 25 = .ok (.ifCond .eq 9, 3) := by decide +kernel
theorem dX12_faultOf_28 : decode cX12_faultOf 28 = .ok (.iinc 1 1, 3) := by decide +kernel
theorem dX12_faultOf_31 : decode cX12_faultOf 31 = .ok (.goto (-19), 3) := by decide +kernel
theorem dX12_faultOf_34 : decode cX12_faultOf 34 = .ok (.iload_n 1, 1) := by decide +kernel
theorem dX12_faultOf_35 : decode cX12_faultOf 35 = .ok (.ireturn, 1) := by decide +kernel
theorem dX12_fault_0 : decode cX12_fault 0 = .ok (.aload_n 0, 1) := by decide +kernel
theorem dX12_fault_1 : decode cX12_fault 1 = .ok (.invokevirtual 149, 3) := by decide +kernel
theorem dX12_fault_4 : decode cX12_fault 4 = .ok (.ireturn, 1) := by decide +kernel
theorem dX12_house_0 : decode cX12_house 0 = .ok (.aload_n 0, 1) := by decide +kernel
theorem dX12_house_1 : decode cX12_house 1 = .ok (.invokevirtual 149, 3) := by decide +kernel
theorem dX12_house_4 : decode cX12_house 4 = .ok (.aload_n 0, 1) := by decide +kernel
theorem dX12_house_5 : decode cX12_house 5 = .ok (.getfield 107, 3) := by decide +kernel
theorem dX12_house_8 : decode cX12_house 8 = .ok (.if_icmp .lt 24, 3) := by decide +kernel
theorem dX12_house_11 : decode cX12_house 11 = .ok (.aload_n 0, 1) := by decide +kernel
theorem dX12_house_12 : decode cX12_house 12 = .ok (.getfield 125, 3) := by decide +kernel
theorem dX12_house_15 : decode cX12_house 15 = .ok (.ifCond .eq 17, 3) := by decide +kernel
theorem dX12_house_18 : decode cX12_house 18 = .ok (.aload_n 0, 1) := by decide +kernel
theorem dX12_house_19 : decode cX12_house 19 = .ok (.getfield 107, 3) := by decide +kernel
theorem dX12_house_22 : decode cX12_house 22 = .ok (.aload_n 0, 1) := by decide +kernel
theorem dX12_house_23 : decode cX12_house 23 = .ok (.getfield 125, 3) := by decide +kernel
theorem dX12_house_26 : decode cX12_house 26 = .ok (.isub, 1) := by decide +kernel
theorem dX12_house_27 : decode cX12_house 27 = .ok (.iconst 5, 1) := by decide +kernel
theorem dX12_house_28 : decode cX12_house 28 = .ok (.irem, 1) := by decide +kernel
theorem dX12_house_29 : decode cX12_house 29 = .ok (.ifCond .eq 6, 3) := by decide +kernel
theorem dX12_house_32 : decode cX12_house 32 = .ok (.bipush (-103), 2) := by decide +kernel
theorem dX12_house_34 : decode cX12_house 34 = .ok (.ireturn, 1) := by decide +kernel
theorem dX12_house_35 : decode cX12_house 35 = .ok (.aload_n 0, 1) := by decide +kernel
theorem dX12_house_36 : decode cX12_house 36 = .ok (.aload_n 0, 1) := by decide +kernel
theorem dX12_house_37 : decode cX12_house 37 = .ok (.getfield 7, 3) := by decide +kernel
theorem dX12_house_40 : decode cX12_house 40 = .ok (.iconst 0, 1) := by decide +kernel
theorem dX12_house_41 : decode cX12_house 41 = .ok (.iaload, 1) := by decide +kernel
theorem dX12_house_42 : decode cX12_house 42 = .ok (.bipush 48, 2) := by decide +kernel
theorem dX12_house_44 : decode cX12_house 44 = .ok (.isub, 1) := by decide +kernel
theorem dX12_house_45 : decode cX12_house 45 = .ok (.putfield 153, 3) := by decide +kernel
theorem dX12_house_48 : decode cX12_house 48 = .ok (.aload_n 0, 1) := by decide +kernel
theorem dX12_house_49 : decode cX12_house 49 = .ok (.aload_n 0, 1) := by decide +kernel
theorem dX12_house_50 : decode cX12_house 50 = .ok (.getfield 116, 3) := by decide +kernel
theorem dX12_house_53 : decode cX12_house 53 = .ok (.iconst 1, 1) := by decide +kernel
theorem dX12_house_54 : decode cX12_house 54 = .ok (.isub, 1) := by decide +kernel
theorem dX12_house_55 : decode cX12_house 55 = .ok (.iconst 4, 1) := by decide +kernel
theorem dX12_house_56 : decode cX12_house 56 = .ok (.idiv, 1) := by decide +kernel
theorem dX12_house_57 : decode cX12_house 57 = .ok (.putfield 156, 3) := by decide +kernel
theorem dX12_house_60 : decode cX12_house 60 = .ok (.aload_n 0, 1) := by decide +kernel
theorem dX12_house_61 : decode cX12_house 61 = .ok (.aload_n 0, 1) := by decide +kernel
theorem dX12_house_62 : decode cX12_house 62 = .ok (.getfield 125, 3) := by decide +kernel
theorem dX12_house_65 : decode cX12_house 65 = .ok (.aload_n 0, 1) := by decide +kernel
theorem dX12_house_66 : decode cX12_house 66 = .ok (.getfield 116, 3) := by decide +kernel
theorem dX12_house_69 : decode cX12_house 69 = .ok (.isub, 1) := by decide +kernel
theorem dX12_house_70 : decode cX12_house 70 = .ok (.iconst 4, 1) := by decide +kernel
theorem dX12_house_71 : decode cX12_house 71 = .ok (.idiv, 1) := by decide +kernel
theorem dX12_house_72 : decode cX12_house 72 = .ok (.putfield 159, 3) := by decide +kernel
theorem dX12_house_75 : decode cX12_house 75 = .ok (.aload_n 0, 1) := by decide +kernel
theorem dX12_house_76 : decode cX12_house 76 = .ok (.aload_n 0, 1) := by decide +kernel
theorem dX12_house_77 : decode cX12_house 77 = .ok (.getfield 107, 3) := by decide +kernel
theorem dX12_house_80 : decode cX12_house 80 = .ok (.aload_n 0, 1) := by decide +kernel
theorem dX12_house_81 : decode cX12_house 81 = .ok (.getfield 125, 3) := by decide +kernel
theorem dX12_house_84 : decode cX12_house 84 = .ok (.isub, 1) := by decide +kernel
theorem dX12_house_85 : decode cX12_house 85 = .ok (.iconst 5, 1) := by decide +kernel
theorem dX12_house_86 : decode cX12_house 86 = .ok (.idiv, 1) := by decide +kernel
theorem dX12_house_87 : decode cX12_house 87 = .ok (.putfield 162, 3) := by decide +kernel
theorem dX12_house_90 : decode cX12_house 90 = .ok (.iconst 0, 1) := by decide +kernel
theorem dX12_house_91 : decode cX12_house 91 = .ok (.istore_n 1, 1) := by decide +kernel
theorem dX12_house_92 : decode cX12_house 92 = .ok (.iload_n 1, 1) := by decide +kernel
theorem dX12_house_93 : decode cX12_house 93 = .ok (.aload_n 0, 1) := by decide +kernel
theorem dX12_house_94 : decode cX12_house 94 = .ok (.getfield 156, 3) := by decide +kernel
theorem dX12_house_97 : decode cX12_house 97 = .ok (.if_icmp .ge 66, 3) := by decide +kernel
theorem dX12_house_100 : decode cX12_house 100 = .ok (.aload_n 0, 1) := by decide +kernel
theorem dX12_house_101 : decode cX12_house 101 = .ok (.getfield 13, 3) := by decide +kernel
theorem dX12_house_104 : decode cX12_house 104 = .ok (.iload_n 1, 1) := by decide +kernel
theorem dX12_house_105 : decode cX12_house 105 = .ok (.aload_n 0, 1) := by decide +kernel
theorem dX12_house_106 : decode cX12_house 106 = .ok (.getfield 7, 3) := by decide +kernel
theorem dX12_house_109 : decode cX12_house 109 = .ok (.iconst 2, 1) := by decide +kernel
theorem dX12_house_110 : decode cX12_house 110 = .ok (.iconst 4, 1) := by decide +kernel
theorem dX12_house_111 : decode cX12_house 111 = .ok (.iload_n 1, 1) := by decide +kernel
theorem dX12_house_112 : decode cX12_house 112 = .ok (.imul, 1) := by decide +kernel
theorem dX12_house_113 : decode cX12_house 113 = .ok (.iadd, 1) := by decide +kernel
theorem dX12_house_114 : decode cX12_house 114 = .ok (.iaload, 1) := by decide +kernel
theorem dX12_house_115 : decode cX12_house 115 = .ok (.bipush 48, 2) := by decide +kernel
theorem dX12_house_117 : decode cX12_house 117 = .ok (.isub, 1) := by decide +kernel
theorem dX12_house_118 : decode cX12_house 118 = .ok (.iastore, 1) := by decide +kernel
theorem dX12_house_119 : decode cX12_house 119 = .ok (.aload_n 0, 1) := by decide +kernel
theorem dX12_house_120 : decode cX12_house 120 = .ok (.getfield 16, 3) := by decide +kernel
theorem dX12_house_123 : decode cX12_house 123 = .ok (.iload_n 1, 1) := by decide +kernel
theorem dX12_house_124 : decode cX12_house 124 = .ok (.aload_n 0, 1) := by decide +kernel
theorem dX12_house_125 : decode cX12_house 125 = .ok (.getfield 7, 3) := by decide +kernel
theorem dX12_house_128 : decode cX12_house 128 = .ok (.iconst 3, 1) := by decide +kernel
theorem dX12_house_129 : decode cX12_house 129 = .ok (.iconst 4, 1) := by decide +kernel
theorem dX12_house_130 : decode cX12_house 130 = .ok (.iload_n 1, 1) := by decide +kernel
theorem dX12_house_131 : decode cX12_house 131 = .ok (.imul, 1) := by decide +kernel
theorem dX12_house_132 : decode cX12_house 132 = .ok (.iadd, 1) := by decide +kernel
theorem dX12_house_133 : decode cX12_house 133 = .ok (.iaload, 1) := by decide +kernel
theorem dX12_house_134 : decode cX12_house 134 = .ok (.bipush 48, 2) := by decide +kernel
theorem dX12_house_136 : decode cX12_house 136 = .ok (.isub, 1) := by decide +kernel
theorem dX12_house_137 : decode cX12_house 137 = .ok (.iastore, 1) := by decide +kernel
theorem dX12_house_138 : decode cX12_house 138 = .ok (.aload_n 0, 1) := by decide +kernel
theorem dX12_house_139 : decode cX12_house 139 = .ok (.getfield 19, 3) := by decide +kernel
theorem dX12_house_142 : decode cX12_house 142 = .ok (.iload_n 1, 1) := by decide +kernel
theorem dX12_house_143 : decode cX12_house 143 = .ok (.aload_n 0, 1) := by decide +kernel
theorem dX12_house_144 : decode cX12_house 144 = .ok (.getfield 7, 3) := by decide +kernel
theorem dX12_house_147 : decode cX12_house 147 = .ok (.iconst 4, 1) := by decide +kernel
theorem dX12_house_148 : decode cX12_house 148 = .ok (.iconst 4, 1) := by decide +kernel
theorem dX12_house_149 : decode cX12_house 149 = .ok (.iload_n 1, 1) := by decide +kernel
theorem dX12_house_150 : decode cX12_house 150 = .ok (.imul, 1) := by decide +kernel
theorem dX12_house_151 : decode cX12_house 151 = .ok (.iadd, 1) := by decide +kernel
theorem dX12_house_152 : decode cX12_house 152 = .ok (.iaload, 1) := by decide +kernel
theorem dX12_house_153 : decode cX12_house 153 = .ok (.invokestatic 165, 3) := by decide +kernel
theorem dX12_house_156 : decode cX12_house 156 = .ok (.iastore, 1) := by decide +kernel
theorem dX12_house_157 : decode cX12_house 157 = .ok (.iinc 1 1, 3) := by decide +kernel
theorem dX12_house_160 : decode cX12_house 160 = .ok (.goto (-68), 3) := by decide +kernel
theorem dX12_house_163 : decode cX12_house 163 = .ok (.iconst 0, 1) := by decide +kernel
theorem dX12_house_164 : decode cX12_house 164 = .ok (.istore_n 1, 1) := by decide +kernel
theorem dX12_house_165 : decode cX12_house 165 = .ok (.iload_n 1, 1) := by decide +kernel
theorem dX12_house_166 : decode cX12_house 166 = .ok (.aload_n 0, 1) := by decide +kernel
theorem dX12_house_167 : decode cX12_house 167 = .ok (.getfield 159, 3) := by decide +kernel
theorem dX12_house_170 : decode cX12_house 170 = .ok (.if_icmp .ge 69, 3) := by decide +kernel
theorem dX12_house_173 : decode cX12_house 173 = .ok (.aload_n 0, 1) := by decide +kernel
theorem dX12_house_174 : decode cX12_house 174 = .ok (.getfield 116, 3) := by decide +kernel
theorem dX12_house_177 : decode cX12_house 177 = .ok (.iconst 1, 1) := by decide +kernel
theorem dX12_house_178 : decode cX12_house 178 = .ok (.iadd, 1) := by decide +kernel
theorem dX12_house_179 : decode cX12_house 179 = .ok (.iconst 4, 1) := by decide +kernel
theorem dX12_house_180 : decode cX12_house 180 = .ok (.iload_n 1, 1) := by decide +kernel
theorem dX12_house_181 : decode cX12_house 181 = .ok (.imul, 1) := by decide +kernel
theorem dX12_house_182 : decode cX12_house 182 = .ok (.iadd, 1) := by decide +kernel
theorem dX12_house_183 : decode cX12_house 183 = .ok (.istore_n 2, 1) := by decide +kernel
theorem dX12_house_184 : decode cX12_house 184 = .ok (.aload_n 0, 1) := by decide +kernel
theorem dX12_house_185 : decode cX12_house 185 = .ok (.getfield 22, 3) := by decide +kernel
theorem dX12_house_188 : decode cX12_house 188 = .ok (.iload_n 1, 1) := by decide +kernel
theorem dX12_house_189 : decode cX12_house 189 = .ok (.aload_n 0, 1) := by decide +kernel
theorem dX12_house_190 : decode cX12_house 190 = .ok (.getfield 7, 3) := by decide +kernel
theorem dX12_house_193 : decode cX12_house 193 = .ok (.iload_n 2, 1) := by decide +kernel
theorem dX12_house_194 : decode cX12_house 194 = .ok (.iaload, 1) := by decide +kernel
theorem dX12_house_195 : decode cX12_house 195 = .ok (.invokestatic 119, 3) := by decide +kernel
theorem dX12_house_198 : decode cX12_house 198 = .ok (.iastore, 1) := by decide +kernel
theorem dX12_house_199 : decode cX12_house 199 = .ok (.aload_n 0, 1) := by decide +kernel
theorem dX12_house_200 : decode cX12_house 200 = .ok (.getfield 25, 3) := by decide +kernel
theorem dX12_house_203 : decode cX12_house 203 = .ok (.iload_n 1, 1) := by decide +kernel
theorem dX12_house_204 : decode cX12_house 204 = .ok (.aload_n 0, 1) := by decide +kernel
theorem dX12_house_205 : decode cX12_house 205 = .ok (.getfield 7, 3) := by decide +kernel
theorem dX12_house_208 : decode cX12_house 208 = .ok (.iload_n 2, 1) := by decide +kernel
theorem dX12_house_209 : decode cX12_house 209 = .ok (.iconst 1, 1) := by decide +kernel
theorem dX12_house_210 : decode cX12_house 210 = .ok (.iadd, 1) := by decide +kernel
theorem dX12_house_211 : decode cX12_house 211 = .ok (.iaload, 1) := by decide +kernel
theorem dX12_house_212 : decode cX12_house 212 = .ok (.bipush 48, 2) := by decide +kernel
theorem dX12_house_214 : decode cX12_house 214 = .ok (.isub, 1) := by decide +kernel
theorem dX12_house_215 : decode cX12_house 215 = .ok (.iastore, 1) := by decide +kernel
theorem dX12_house_216 : decode cX12_house 216 = .ok (.aload_n 0, 1) := by decide +kernel
theorem dX12_house_217 : decode cX12_house 217 = .ok (.getfield 28, 3) := by decide +kernel
theorem dX12_house_220 : decode cX12_house 220 = .ok (.iload_n 1, 1) := by decide +kernel
theorem dX12_house_221 : decode cX12_house 221 = .ok (.aload_n 0, 1) := by decide +kernel
theorem dX12_house_222 : decode cX12_house 222 = .ok (.getfield 7, 3) := by decide +kernel
theorem dX12_house_225 : decode cX12_house 225 = .ok (.iload_n 2, 1) := by decide +kernel
theorem dX12_house_226 : decode cX12_house 226 = .ok (.iconst 2, 1) := by decide +kernel
theorem dX12_house_227 : decode cX12_house 227 = .ok (.iadd, 1) := by decide +kernel
theorem dX12_house_228 : decode cX12_house 228 = .ok (.iaload, 1) := by decide +kernel
theorem dX12_house_229 : decode cX12_house 229 = .ok (.bipush 48, 2) := by decide +kernel
theorem dX12_house_231 : decode cX12_house 231 = .ok (.isub, 1) := by decide +kernel
theorem dX12_house_232 : decode cX12_house 232 = .ok (.iastore, 1) := by decide +kernel
theorem dX12_house_233 : decode cX12_house 233 = .ok (.iinc 1 1, 3) := by decide +kernel
theorem dX12_house_236 : decode cX12_house 236 = .ok (.goto (-71), 3) := by decide +kernel
theorem dX12_house_239 : decode cX12_house 239 = .ok (.iconst 0, 1) := by decide +kernel
theorem dX12_house_240 : decode cX12_house 240 = .ok (.istore_n 1, 1) := by decide +kernel
theorem dX12_house_241 : decode cX12_house 241 = .ok (.iload_n 1, 1) := by decide +kernel
theorem dX12_house_242 : decode cX12_house 242 = .ok (.aload_n 0, 1) := by decide +kernel
theorem dX12_house_243 : decode cX12_house 243 = .ok (.getfield 162, 3) := by decide +kernel
theorem dX12_house_246 : decode cX12_house 246 = .ok (.if_icmp .ge 93, 3) := by decide +kernel
theorem dX12_house_249 : decode cX12_house 249 = .ok (.aload_n 0, 1) := by decide +kernel
theorem dX12_house_250 : decode cX12_house 250 = .ok (.getfield 125, 3) := by decide +kernel
theorem dX12_house_253 : decode cX12_house 253 = .ok (.iconst 1, 1) := by decide +kernel
theorem dX12_house_254 : decode cX12_house 254 = .ok (.iadd, 1) := by decide +kernel
theorem dX12_house_255 : decode cX12_house 255 = .ok (.iconst 5, 1) := by decide +kernel
theorem dX12_house_256 : decode cX12_house 256 = .ok (.iload_n 1, 1) := by decide +kernel
theorem dX12_house_257 : decode cX12_house 257 = .ok (.imul, 1) := by decide +kernel
theorem dX12_house_258 : decode cX12_house 258 = .ok (.iadd, 1) := by decide +kernel
theorem dX12_house_259 : decode cX12_house 259 = .ok (.istore_n 2, 1) := by decide +kernel
theorem dX12_house_260 : decode cX12_house 260 = .ok (.aload_n 0, 1) := by decide +kernel
theorem dX12_house_261 : decode cX12_house 261 = .ok (.getfield 34, 3) := by decide +kernel
theorem dX12_house_264 : decode cX12_house 264 = .ok (.iload_n 1, 1) := by decide +kernel
theorem dX12_house_265 : decode cX12_house 265 = .ok (.aload_n 0, 1) := by decide +kernel
theorem dX12_house_266 : decode cX12_house 266 = .ok (.getfield 7, 3) := by decide +kernel
theorem dX12_house_269 : decode cX12_house 269 = .ok (.iload_n 2, 1) := by decide +kernel
theorem dX12_house_270 : decode cX12_house 270 = .ok (.iaload, 1) := by decide +kernel
theorem dX12_house_271 : decode cX12_house 271 = .ok (.bipush 48, 2) := by decide +kernel
theorem dX12_house_273 : decode cX12_house 273 = .ok (.isub, 1) := by decide +kernel
theorem dX12_house_274 : decode cX12_house 274 = .ok (.iastore, 1) := by decide +kernel
theorem dX12_house_275 : decode cX12_house 275 = .ok (.aload_n 0, 1) := by decide +kernel
theorem dX12_house_276 : decode cX12_house 276 = .ok (.getfield 37, 3) := by decide +kernel
theorem dX12_house_279 : decode cX12_house 279 = .ok (.iload_n 1, 1) := by decide +kernel
theorem dX12_house_280 : decode cX12_house 280 = .ok (.aload_n 0, 1) := by decide +kernel
theorem dX12_house_281 : decode cX12_house 281 = .ok (.getfield 7, 3) := by decide +kernel
theorem dX12_house_284 : decode cX12_house 284 = .ok (.iload_n 2, 1) := by decide +kernel
theorem dX12_house_285 : decode cX12_house 285 = .ok (.iconst 1, 1) := by decide +kernel
theorem dX12_house_286 : decode cX12_house 286 = .ok (.iadd, 1) := by decide +kernel
theorem dX12_house_287 : decode cX12_house 287 = .ok (.iaload, 1) := by decide +kernel
theorem dX12_house_288 : decode cX12_house 288 = .ok (.bipush 48, 2) := by decide +kernel
theorem dX12_house_290 : decode cX12_house 290 = .ok (.isub, 1) := by decide +kernel
theorem dX12_house_291 : decode cX12_house 291 = .ok (.iastore, 1) := by decide +kernel
theorem dX12_house_292 : decode cX12_house 292 = .ok (.aload_n 0, 1) := by decide +kernel
theorem dX12_house_293 : decode cX12_house 293 = .ok (.getfield 40, 3) := by decide +kernel
theorem dX12_house_296 : decode cX12_house 296 = .ok (.iload_n 1, 1) := by decide +kernel
theorem dX12_house_297 : decode cX12_house 297 = .ok (.aload_n 0, 1) := by decide +kernel
theorem dX12_house_298 : decode cX12_house 298 = .ok (.getfield 7, 3) := by decide +kernel
theorem dX12_house_301 : decode cX12_house 301 = .ok (.iload_n 2, 1) := by decide +kernel
theorem dX12_house_302 : decode cX12_house 302 = .ok (.iconst 2, 1) := by decide +kernel
theorem dX12_house_303 : decode cX12_house 303 = .ok (.iadd, 1) := by decide +kernel
theorem dX12_house_304 : decode cX12_house 304 = .ok (.iaload, 1) := by decide +kernel
theorem dX12_house_305 : decode cX12_house 305 = .ok (.bipush 48, 2) := by decide +kernel
theorem dX12_house_307 : decode cX12_house 307 = .ok (.isub, 1) := by decide +kernel
theorem dX12_house_308 : decode cX12_house 308 = .ok (.iastore, 1) := by decide +kernel
theorem dX12_house_309 : decode cX12_house 309 = .ok (.aload_n 0, 1) := by decide +kernel
theorem dX12_house_310 : decode cX12_house 310 = .ok (.getfield 43, 3) := by decide +kernel
theorem dX12_house_313 : decode cX12_house 313 = .ok (.iload_n 1, 1) := by decide +kernel
theorem dX12_house_314 : decode cX12_house 314 = .ok (.aload_n 0, 1) := by decide +kernel
theorem dX12_house_315 : decode cX12_house 315 = .ok (.getfield 7, 3) := by decide +kernel
theorem dX12_house_318 : decode cX12_house 318 = .ok (.iload_n 2, 1) := by decide +kernel
theorem dX12_house_319 : decode cX12_house 319 = .ok (.iconst 3, 1) := by decide +kernel
theorem dX12_house_320 : decode cX12_house 320 = .ok (.iadd, 1) := by decide +kernel
theorem dX12_house_321 : decode cX12_house 321 = .ok (.iaload, 1) := by decide +kernel
theorem dX12_house_322 : decode cX12_house 322 = .ok (.bipush 48, 2) := by decide +kernel
theorem dX12_house_324 : decode cX12_house 324 = .ok (.isub, 1) := by decide +kernel
theorem dX12_house_325 : decode cX12_house 325 = .ok (.iastore, 1) := by decide +kernel
theorem dX12_house_326 : decode cX12_house 326 = .ok (.aload_n 0, 1) := by decide +kernel
theorem dX12_house_327 : decode cX12_house 327 = .ok (.getfield 46, 3) := by decide +kernel
theorem dX12_house_330 : decode cX12_house 330 = .ok (.iload_n 1, 1) := by decide +kernel
theorem dX12_house_331 : decode cX12_house 331 = .ok (.iconst 0, 1) := by decide +kernel
theorem dX12_house_332 : decode cX12_house 332 = .ok (.iastore, 1) := by decide +kernel
theorem dX12_house_333 : decode cX12_house 333 = .ok (.iinc 1 1, 3) := by decide +kernel
theorem dX12_house_336 : decode cX12_house 336 = .ok (.goto (-95), 3) := by decide +kernel
theorem dX12_house_339 : decode cX12_house 339 = .ok (.aload_n 0, 1) := by decide +kernel
theorem dX12_house_340 : decode cX12_house 340 = .ok (.getfield 31, 3) := by decide +kernel
theorem dX12_house_343 : decode cX12_house 343 = .ok (.iconst 0, 1) := by decide +kernel
theorem dX12_house_344 : decode cX12_house 344 = .ok (.iconst 0, 1) := by decide +kernel
theorem dX12_house_345 : decode cX12_house 345 = .ok (.iastore, 1) := by decide +kernel
theorem dX12_house_346 : decode cX12_house 346 = .ok (.aload_n 0, 1) := by decide +kernel
theorem dX12_house_347 : decode cX12_house 347 = .ok (.getfield 31, 3) := by decide +kernel
theorem dX12_house_350 : decode cX12_house 350 = .ok (.iconst 1, 1) := by decide +kernel
theorem dX12_house_351 : decode cX12_house 351 = .ok (.iconst 1, 1) := by decide +kernel
theorem dX12_house_352 : decode cX12_house 352 = .ok (.iastore, 1) := by decide +kernel
theorem dX12_house_353 : decode cX12_house 353 = .ok (.aload_n 0, 1) := by decide +kernel
theorem dX12_house_354 : decode cX12_house 354 = .ok (.iconst 0, 1) := by decide +kernel
theorem dX12_house_355 : decode cX12_house 355 = .ok (.putfield 168, 3) := by decide +kernel
theorem dX12_house_358 : decode cX12_house 358 = .ok (.aload_n 0, 1) := by decide +kernel
theorem dX12_house_359 : decode cX12_house 359 = .ok (.iconst 0, 1) := by decide +kernel
theorem dX12_house_360 : decode cX12_house 360 = .ok (.putfield 171, 3) := by decide +kernel
theorem dX12_house_363 : decode cX12_house 363 = .ok (.aload_n 0, 1) := by decide +kernel
theorem dX12_house_364 : decode cX12_house 364 = .ok (.dup, 1) := by decide +kernel
theorem dX12_house_365 : decode cX12_house 365 = .ok (.getfield 174, 3) := by decide +kernel
theorem dX12_house_368 : decode cX12_house 368 = .ok (.iconst 1, 1) := by decide +kernel
theorem dX12_house_369 : decode cX12_house 369 = .ok (.iadd, 1) := by decide +kernel
theorem dX12_house_370 : decode cX12_house 370 = .ok (.putfield 174, 3) := by decide +kernel
theorem dX12_house_373 : decode cX12_house 373 = .ok (.aload_n 0, 1) := by decide +kernel
theorem dX12_house_374 : decode cX12_house 374 = .ok (.iconst 0, 1) := by decide +kernel
theorem dX12_house_375 : decode cX12_house 375 = .ok (.putfield 107, 3) := by decide +kernel
theorem dX12_house_378 : decode cX12_house 378 = .ok (.aload_n 0, 1) := by decide +kernel
theorem dX12_house_379 : decode cX12_house 379 = .ok (.getfield 159, 3) := by decide +kernel
theorem dX12_house_382 : decode cX12_house 382 = .ok (.ireturn, 1) := by decide +kernel
theorem dX12_lacks_0 : decode cX12_lacks 0 = .ok (.aload_n 0, 1) := by decide +kernel
theorem dX12_lacks_1 : decode cX12_lacks 1 = .ok (.getfield 159, 3) := by decide +kernel
theorem dX12_lacks_4 : decode cX12_lacks 4 = .ok (.ifCond .ne 7, 3) := by decide +kernel
theorem dX12_lacks_7 : decode cX12_lacks 7 = .ok (.iconst 1, 1) := by decide +kernel
theorem dX12_lacks_8 : decode cX12_lacks 8 = .ok (.goto 4, 3) := by decide +kernel
theorem dX12_lacks_11 : decode cX12_lacks 11 = .ok (.iconst 0, 1) := by decide +kernel
theorem dX12_lacks_12 : decode cX12_lacks 12 = .ok (.ireturn, 1) := by decide +kernel
theorem dX12_isPerson_0 : decode cX12_isPerson 0 = .ok (.iload_n 1, 1) := by decide +kernel
theorem dX12_isPerson_1 : decode cX12_isPerson 1 = .ok (.i2l, 1) := by decide +kernel
theorem dX12_isPerson_2 : decode cX12_isPerson 2 = .ok (.lconst 0, 1) := by decide +kernel
theorem dX12_isPerson_3 : decode cX12_isPerson 3 = .ok (.aload_n 0, 1) := by decide +kernel
theorem dX12_isPerson_4 : decode cX12_isPerson 4 = .ok (.getfield 159, 3) := by decide +kernel
theorem dX12_isPerson_7 : decode cX12_isPerson 7 = .ok (.iconst 1, 1) := by decide +kernel
theorem dX12_isPerson_8 : decode cX12_isPerson 8 = .ok (.isub, 1) := by decide +kernel
theorem dX12_isPerson_9 : decode cX12_isPerson 9 = .ok (.i2l, 1) := by decide +kernel
theorem dX12_isPerson_10 : decode cX12_isPerson 10 = .ok (.invokestatic 103, 3) := by decide +kernel
theorem dX12_isPerson_13 : decode cX12_isPerson 13 = .ok (.ireturn, 1) := by decide +kernel
theorem dX12_isDoor_0 : decode cX12_isDoor 0 = .ok (.iload_n 1, 1) := by decide +kernel
theorem dX12_isDoor_1 : decode cX12_isDoor 1 = .ok (.i2l, 1) := by decide +kernel
theorem dX12_isDoor_2 : decode cX12_isDoor 2 = .ok (.lconst 0, 1) := by decide +kernel
theorem dX12_isDoor_3 : decode cX12_isDoor 3 = .ok (.aload_n 0, 1) := by decide +kernel
theorem dX12_isDoor_4 : decode cX12_isDoor 4 = .ok (.getfield 156, 3) := by decide +kernel
theorem dX12_isDoor_7 : decode cX12_isDoor 7 = .ok (.iconst 1, 1) := by decide +kernel
theorem dX12_isDoor_8 : decode cX12_isDoor 8 = .ok (.isub, 1) := by decide +kernel
theorem dX12_isDoor_9 : decode cX12_isDoor 9 = .ok (.i2l, 1) := by decide +kernel
theorem dX12_isDoor_10 : decode cX12_isDoor 10 = .ok (.invokestatic 103, 3) := by decide +kernel
theorem dX12_isDoor_13 : decode cX12_isDoor 13 = .ok (.ireturn, 1) := by decide +kernel
theorem dX12_isDebt_0 : decode cX12_isDebt 0 = .ok (.iload_n 1, 1) := by decide +kernel
theorem dX12_isDebt_1 : decode cX12_isDebt 1 = .ok (.i2l, 1) := by decide +kernel
theorem dX12_isDebt_2 : decode cX12_isDebt 2 = .ok (.lconst 0, 1) := by decide +kernel
theorem dX12_isDebt_3 : decode cX12_isDebt 3 = .ok (.aload_n 0, 1) := by decide +kernel
theorem dX12_isDebt_4 : decode cX12_isDebt 4 = .ok (.getfield 162, 3) := by decide +kernel
theorem dX12_isDebt_7 : decode cX12_isDebt 7 = .ok (.iconst 1, 1) := by decide +kernel
theorem dX12_isDebt_8 : decode cX12_isDebt 8 = .ok (.isub, 1) := by decide +kernel
theorem dX12_isDebt_9 : decode cX12_isDebt 9 = .ok (.i2l, 1) := by decide +kernel
theorem dX12_isDebt_10 : decode cX12_isDebt 10 = .ok (.invokestatic 103, 3) := by decide +kernel
theorem dX12_isDebt_13 : decode cX12_isDebt 13 = .ok (.ireturn, 1) := by decide +kernel
theorem dX12_isRoom_0 : decode cX12_isRoom 0 = .ok (.iload_n 1, 1) := by decide +kernel
theorem dX12_isRoom_1 : decode cX12_isRoom 1 = .ok (.i2l, 1) := by decide +kernel
theorem dX12_isRoom_2 : decode cX12_isRoom 2 = .ok (.lconst 0, 1) := by decide +kernel
theorem dX12_isRoom_3 : decode cX12_isRoom 3 = .ok (.aload_n 0, 1) := by decide +kernel
theorem dX12_isRoom_4 : decode cX12_isRoom 4 = .ok (.getfield 153, 3) := by decide +kernel
theorem dX12_isRoom_7 : decode cX12_isRoom 7 = .ok (.iconst 1, 1) := by decide +kernel
theorem dX12_isRoom_8 : decode cX12_isRoom 8 = .ok (.isub, 1) := by decide +kernel
theorem dX12_isRoom_9 : decode cX12_isRoom 9 = .ok (.i2l, 1) := by decide +kernel
theorem dX12_isRoom_10 : decode cX12_isRoom 10 = .ok (.invokestatic 103, 3) := by decide +kernel
theorem dX12_isRoom_13 : decode cX12_isRoom 13 = .ok (.ireturn, 1) := by decide +kernel
theorem dX12_isRich_0 : decode cX12_isRich 0 = .ok (.aload_n 0, 1) := by decide +kernel
theorem dX12_isRich_1 : decode cX12_isRich 1 = .ok (.getfield 22, 3) := by decide +kernel
theorem dX12_isRich_4 : decode cX12_isRich 4 = .ok (.iload_n 1, 1) := by decide +kernel
theorem dX12_isRich_5 : decode cX12_isRich 5 = .ok (.iaload, 1) := by decide +kernel
theorem dX12_isRich_6 : decode cX12_isRich 6 = .ok (.iconst 1, 1) := by decide +kernel
theorem dX12_isRich_7 : decode cX12_isRich 7 = .ok (.if_icmp .eq 13, 3) := by decide +kernel
theorem dX12_isRich_10 : decode cX12_isRich 10 = .ok (.aload_n 0, 1) := by decide +kernel
theorem dX12_isRich_11 : decode cX12_isRich 11 = .ok (.getfield 22, 3) := by decide +kernel
theorem dX12_isRich_14 : decode cX12_isRich 14 = .ok (.iload_n 1, 1) := by decide +kernel
theorem dX12_isRich_15 : decode cX12_isRich 15 = .ok (.iaload, 1) := by decide +kernel
theorem dX12_isRich_16 : decode cX12_isRich 16 = .ok (.iconst 4, 1) := by decide +kernel
theorem dX12_isRich_17 : decode cX12_isRich 17 = .ok (.if_icmp .ne 7, 3) := by decide +kernel
theorem dX12_isRich_20 : decode cX12_isRich 20 = .ok (.iconst 1, 1) := by decide +kernel
theorem dX12_isRich_21 : decode cX12_isRich 21 = .ok (.goto 4, 3) := by decide +kernel
theorem dX12_isRich_24 : decode cX12_isRich 24 = .ok (.iconst 0, 1) := by decide +kernel
theorem dX12_isRich_25 : decode cX12_isRich 25 = .ok (.ireturn, 1) := by decide +kernel
theorem dX12_costs_0 : decode cX12_costs 0 = .ok (.aload_n 0, 1) := by decide +kernel
theorem dX12_costs_1 : decode cX12_costs 1 = .ok (.getfield 43, 3) := by decide +kernel
theorem dX12_costs_4 : decode cX12_costs 4 = .ok (.iload_n 1, 1) := by decide +kernel
theorem dX12_costs_5 : decode cX12_costs 5 = .ok (.iaload, 1) := by decide +kernel
theorem dX12_costs_6 : decode cX12_costs 6 = .ok (.aload_n 0, 1) := by decide +kernel
theorem dX12_costs_7 : decode cX12_costs 7 = .ok (.getfield 22, 3) := by decide +kernel
theorem dX12_costs_10 : decode cX12_costs 10 = .ok (.aload_n 0, 1) := by decide +kernel
theorem dX12_costs_11 : decode cX12_costs 11 = .ok (.getfield 34, 3) := by decide +kernel
theorem dX12_costs_14 : decode cX12_costs 14 = .ok (.iload_n 1, 1) := by decide +kernel
theorem dX12_costs_15 : decode cX12_costs 15 = .ok (.iaload, 1) := by decide +kernel
theorem dX12_costs_16 : decode cX12_costs 16 = .ok (.iaload, 1) := by decide +kernel
theorem dX12_costs_17 : decode cX12_costs 17 = .ok (.iconst 1, 1) := by decide +kernel
theorem dX12_costs_18 : decode cX12_costs 18 = .ok (.if_icmp .ne 7, 3) := by decide +kernel
theorem dX12_costs_21 : decode cX12_costs 21 = .ok (.iconst 1, 1) := by decide +kernel
theorem dX12_costs_22 : decode cX12_costs 22 = .ok (.goto 4, 3) := by decide +kernel
theorem dX12_costs_25 : decode cX12_costs 25 = .ok (.iconst 0, 1) := by decide +kernel
theorem dX12_costs_26 : decode cX12_costs 26 = .ok (.iadd, 1) := by decide +kernel
theorem dX12_costs_27 : decode cX12_costs 27 = .ok (.ireturn, 1) := by decide +kernel
theorem dX12_begin_0 : decode cX12_begin 0 = .ok (.aload_n 0, 1) := by decide +kernel
theorem dX12_begin_1 : decode cX12_begin 1 = .ok (.getfield 25, 3) := by decide +kernel
theorem dX12_begin_4 : decode cX12_begin 4 = .ok (.aload_n 0, 1) := by decide +kernel
theorem dX12_begin_5 : decode cX12_begin 5 = .ok (.getfield 49, 3) := by decide +kernel
theorem dX12_begin_8 : decode cX12_begin 8 = .ok (.invokestatic 177, 3) := by decide +kernel
theorem dX12_begin_11 : decode cX12_begin 11 = .ok (.aload_n 0, 1) := by decide +kernel
theorem dX12_begin_12 : decode cX12_begin 12 = .ok (.getfield 28, 3) := by decide +kernel
theorem dX12_begin_15 : decode cX12_begin 15 = .ok (.aload_n 0, 1) := by decide +kernel
theorem dX12_begin_16 : decode cX12_begin 16 = .ok (.getfield 52, 3) := by decide +kernel
theorem dX12_begin_19 : decode cX12_begin 19 = .ok (.invokestatic 177, 3) := by decide +kernel
theorem dX12_begin_22 : decode cX12_begin 22 = .ok (.aload_n 0, 1) := by decide +kernel
theorem dX12_begin_23 : decode cX12_begin 23 = .ok (.getfield 46, 3) := by decide +kernel
theorem dX12_begin_26 : decode cX12_begin 26 = .ok (.aload_n 0, 1) := by decide +kernel
theorem dX12_begin_27 : decode cX12_begin 27 = .ok (.getfield 55, 3) := by decide +kernel
theorem dX12_begin_30 : decode cX12_begin 30 = .ok (.invokestatic 177, 3) := by decide +kernel
theorem dX12_begin_33 : decode cX12_begin 33 = .ok (.return_, 1) := by decide +kernel
theorem dX12_through_0 : decode cX12_through 0 = .ok (.aload_n 0, 1) := by decide +kernel
theorem dX12_through_1 : decode cX12_through 1 = .ok (.iload_n 1, 1) := by decide +kernel
theorem dX12_through_2 : decode cX12_through 2 = .ok (.invokevirtual 181, 3) := by decide +kernel
theorem dX12_through_5 : decode cX12_through 5 = .ok (.ifCond .ne 42, 3) := by decide +kernel
theorem dX12_through_8 : decode cX12_through 8 = .ok (.aload_n 0, 1) := by decide +kernel
theorem dX12_through_9 : decode cX12_through 9 = .ok (.getfield 19, 3) := by decide +kernel
theorem dX12_through_12 : decode cX12_through 12 = .ok (.iload_n 2, 1) := by decide +kernel
theorem dX12_through_13 : decode cX12_through 13 = .ok (.iaload, 1) := by decide +kernel
theorem dX12_through_14 : decode cX12_through 14 = .ok (.iconst (-1), 1) := by decide +kernel
theorem dX12_through_15 : decode cX12_through 15 = .ok (.if_icmp .eq 28, 3) := by decide +kernel
theorem dX12_through_18 : decode cX12_through 18 = .ok (.aload_n 0, 1) := by decide +kernel
theorem dX12_through_19 : decode cX12_through 19 = .ok (.getfield 22, 3) := by decide +kernel
theorem dX12_through_22 : decode cX12_through 22 = .ok (.iload_n 1, 1) := by decide +kernel
theorem dX12_through_23 : decode cX12_through 23 = .ok (.iaload, 1) := by decide +kernel
theorem dX12_through_24 : decode cX12_through 24 = .ok (.iconst 2, 1) := by decide +kernel
theorem dX12_through_25 : decode cX12_through 25 = .ok (.if_icmp .eq 18, 3) := by decide +kernel
theorem dX12_through_28 : decode cX12_through 28 = .ok (.aload_n 0, 1) := by decide +kernel
theorem dX12_through_29 : decode cX12_through 29 = .ok (.getfield 31, 3) := by decide +kernel
theorem dX12_through_32 : decode cX12_through 32 = .ok (.aload_n 0, 1) := by decide +kernel
theorem dX12_through_33 : decode cX12_through 33 = .ok (.getfield 19, 3) := by decide +kernel
theorem dX12_through_36 : decode cX12_through 36 = .ok (.iload_n 2, 1) := by decide +kernel
theorem dX12_through_37 : decode cX12_through 37 = .ok (.iaload, 1) := by decide +kernel
theorem dX12_through_38 : decode cX12_through 38 = .ok (.iaload, 1) := by decide +kernel
theorem dX12_through_39 : decode cX12_through 39 = .ok (.iload_n 1, 1) := by decide +kernel
theorem dX12_through_40 : decode cX12_through 40 = .ok (.if_icmp .ne 7, 3) := by decide +kernel
theorem dX12_through_43 : decode cX12_through 43 = .ok (.iconst 1, 1) := by decide +kernel
theorem dX12_through_44 : decode cX12_through 44 = .ok (.goto 4, 3) := by decide +kernel
theorem dX12_through_47 : decode cX12_through 47 = .ok (.iconst 0, 1) := by decide +kernel
theorem dX12_through_48 : decode cX12_through 48 = .ok (.istore 4, 2) := by decide +kernel
theorem dX12_through_50 : decode cX12_through 50 = .ok (.aload_n 0, 1) := by decide +kernel
theorem dX12_through_51 : decode cX12_through 51 = .ok (.getfield 13, 3) := by decide +kernel
theorem dX12_through_54 : decode cX12_through 54 = .ok (.iload_n 2, 1) := by decide +kernel
theorem dX12_through_55 : decode cX12_through 55 = .ok (.iaload, 1) := by decide +kernel
theorem dX12_through_56 : decode cX12_through 56 = .ok (.iload_n 3, 1) := by decide +kernel
theorem dX12_through_57 : decode cX12_through 57 = .ok (.if_icmp .ne 12, 3) := by decide +kernel
theorem dX12_through_60 : decode cX12_through 60 = .ok (.aload_n 0, 1) := by decide +kernel
theorem dX12_through_61 : decode cX12_through 61 = .ok (.getfield 16, 3) := by decide +kernel
theorem dX12_through_64 : decode cX12_through 64 = .ok (.iload_n 2, 1) := by decide +kernel
theorem dX12_through_65 : decode cX12_through 65 = .ok (.iaload, 1) := by decide +kernel
theorem dX12_through_66 : decode cX12_through 66 = .ok (.goto 23, 3) := by decide +kernel
theorem dX12_through_69 : decode cX12_through 69 = .ok (.aload_n 0, 1) := by decide +kernel
theorem dX12_through_70 : decode cX12_through 70 = .ok (.getfield 16, 3) := by decide +kernel
theorem dX12_through_73 : decode cX12_through 73 = .ok (.iload_n 2, 1) := by decide +kernel
theorem dX12_through_74 : decode cX12_through 74 = .ok (.iaload, 1) := by decide +kernel
theorem dX12_through_75 : decode cX12_through 75 = .ok (.iload_n 3, 1) := by decide +kernel
theorem dX12_through_76 : decode cX12_through 76 = .ok (.if_icmp .ne 12, 3) := by decide +kernel
theorem dX12_through_79 : decode cX12_through 79 = .ok (.aload_n 0, 1) := by decide +kernel
theorem dX12_through_80 : decode cX12_through 80 = .ok (.getfield 13, 3) := by decide +kernel
theorem dX12_through_83 : decode cX12_through 83 = .ok (.iload_n 2, 1) := by decide +kernel
theorem dX12_through_84 : decode cX12_through 84 = .ok (.iaload, 1) := by decide +kernel
theorem dX12_through_85 : decode cX12_through 85 = .ok (.goto 4, 3) := by decide +kernel
theorem dX12_through_88 : decode cX12_through 88 = .ok (.iconst (-1), 1) := by decide +kernel
theorem dX12_through_89 : decode cX12_through 89 = .ok (.istore 5, 2) := by decide +kernel
theorem dX12_through_91 : decode cX12_through 91 = .ok (.iload 4, 2) := by decide +kernel
theorem dX12_through_93 : decode cX12_through 93 = .ok (.ifCond .eq 8, 3) := by decide +kernel
theorem dX12_through_96 : decode cX12_through 96 = .ok (.iload 5, 2) := by decide +kernel
theorem dX12_through_98 : decode cX12_through 98 = .ok (.goto 4, 3) := by decide +kernel
theorem dX12_through_101 : decode cX12_through 101 = .ok (.iconst (-1), 1) := by decide +kernel
theorem dX12_through_102 : decode cX12_through 102 = .ok (.ireturn, 1) := by decide +kernel
theorem dX12_mayThen_0 : decode cX12_mayThen 0 = .ok (.aload_n 0, 1) := by decide +kernel
theorem dX12_mayThen_1 : decode cX12_mayThen 1 = .ok (.getfield 34, 3) := by decide +kernel
theorem dX12_mayThen_4 : decode cX12_mayThen 4 = .ok (.iload_n 1, 1) := by decide +kernel
theorem dX12_mayThen_5 : decode cX12_mayThen 5 = .ok (.iaload, 1) := by decide +kernel
theorem dX12_mayThen_6 : decode cX12_mayThen 6 = .ok (.istore_n 2, 1) := by decide +kernel
theorem dX12_mayThen_7 : decode cX12_mayThen 7 = .ok (.aload_n 0, 1) := by decide +kernel
theorem dX12_mayThen_8 : decode cX12_mayThen 8 = .ok (.iload_n 2, 1) := by decide +kernel
theorem dX12_mayThen_9 : decode cX12_mayThen 9 = .ok (.invokevirtual 181, 3) := by decide +kernel
theorem dX12_mayThen_12 : decode cX12_mayThen 12 = .ok (.ifCond .ne 48, 3) := by decide +kernel
theorem dX12_mayThen_15 : decode cX12_mayThen 15 = .ok (.aload_n 0, 1) := by decide +kernel
theorem dX12_mayThen_16 : decode cX12_mayThen 16 = .ok (.getfield 52, 3) := by decide +kernel
theorem dX12_mayThen_19 : decode cX12_mayThen 19 = .ok (.iload_n 2, 1) := by decide +kernel
theorem dX12_mayThen_20 : decode cX12_mayThen 20 = .ok (.iaload, 1) := by decide +kernel
theorem dX12_mayThen_21 : decode cX12_mayThen 21 = .ok (.aload_n 0, 1) := by decide +kernel
theorem dX12_mayThen_22 : decode cX12_mayThen 22 = .ok (.getfield 40, 3) := by decide +kernel
theorem dX12_mayThen_25 : decode cX12_mayThen 25 = .ok (.iload_n 1, 1) := by decide +kernel
theorem dX12_mayThen_26 : decode cX12_mayThen 26 = .ok (.iaload, 1) := by decide +kernel
theorem dX12_mayThen_27 : decode cX12_mayThen 27 = .ok (.if_icmp .ne 37, 3) := by decide +kernel
theorem dX12_mayThen_30 : decode cX12_mayThen 30 = .ok (.aload_n 0, 1) := by decide +kernel
theorem dX12_mayThen_31 : decode cX12_mayThen 31 = .ok (.getfield 22, 3) := by decide +kernel
theorem dX12_mayThen_34 : decode cX12_mayThen 34 = .ok (.iload_n 2, 1) := by decide +kernel
theorem dX12_mayThen_35 : decode cX12_mayThen 35 = .ok (.iaload, 1) := by decide +kernel
theorem dX12_mayThen_36 : decode cX12_mayThen 36 = .ok (.iconst 3, 1) := by decide +kernel
theorem dX12_mayThen_37 : decode cX12_mayThen 37 = .ok (.if_icmp .eq 23, 3) := by decide +kernel
theorem dX12_mayThen_40 : decode cX12_mayThen 40 = .ok (.aload_n 0, 1) := by decide +kernel
theorem dX12_mayThen_41 : decode cX12_mayThen 41 = .ok (.getfield 52, 3) := by decide +kernel
theorem dX12_mayThen_44 : decode cX12_mayThen 44 = .ok (.aload_n 0, 1) := by decide +kernel
theorem dX12_mayThen_45 : decode cX12_mayThen 45 = .ok (.getfield 37, 3) := by decide +kernel
theorem dX12_mayThen_48 : decode cX12_mayThen 48 = .ok (.iload_n 1, 1) := by decide +kernel
theorem dX12_mayThen_49 : decode cX12_mayThen 49 = .ok (.iaload, 1) := by decide +kernel
theorem dX12_mayThen_50 : decode cX12_mayThen 50 = .ok (.iaload, 1) := by decide +kernel
theorem dX12_mayThen_51 : decode cX12_mayThen 51 = .ok (.aload_n 0, 1) := by decide +kernel
theorem dX12_mayThen_52 : decode cX12_mayThen 52 = .ok (.getfield 40, 3) := by decide +kernel
theorem dX12_mayThen_55 : decode cX12_mayThen 55 = .ok (.iload_n 1, 1) := by decide +kernel
theorem dX12_mayThen_56 : decode cX12_mayThen 56 = .ok (.iaload, 1) := by decide +kernel
theorem dX12_mayThen_57 : decode cX12_mayThen 57 = .ok (.if_icmp .ne 7, 3) := by decide +kernel
theorem dX12_mayThen_60 : decode cX12_mayThen 60 = .ok (.iconst 1, 1) := by decide +kernel
theorem dX12_mayThen_61 : decode cX12_mayThen 61 = .ok (.goto 4, 3) := by decide +kernel
theorem dX12_mayThen_64 : decode cX12_mayThen 64 = .ok (.iconst 0, 1) := by decide +kernel
theorem dX12_mayThen_65 : decode cX12_mayThen 65 = .ok (.istore_n 3, 1) := by decide +kernel
theorem dX12_mayThen_66 : decode cX12_mayThen 66 = .ok (.aload_n 0, 1) := by decide +kernel
theorem dX12_mayThen_67 : decode cX12_mayThen 67 = .ok (.getfield 55, 3) := by decide +kernel
theorem dX12_mayThen_70 : decode cX12_mayThen 70 = .ok (.iload_n 1, 1) := by decide +kernel
theorem dX12_mayThen_71 : decode cX12_mayThen 71 = .ok (.iaload, 1) := by decide +kernel
theorem dX12_mayThen_72 : decode cX12_mayThen 72 = .ok (.ifCond .ne 25, 3) := by decide +kernel
theorem dX12_mayThen_75 : decode cX12_mayThen 75 = .ok (.aload_n 0, 1) := by decide +kernel
theorem dX12_mayThen_76 : decode cX12_mayThen 76 = .ok (.getfield 49, 3) := by decide +kernel
theorem dX12_mayThen_79 : decode cX12_mayThen 79 = .ok (.iload_n 2, 1) := by decide +kernel
theorem dX12_mayThen_80 : decode cX12_mayThen 80 = .ok (.iaload, 1) := by decide +kernel
theorem dX12_mayThen_81 : decode cX12_mayThen 81 = .ok (.aload_n 0, 1) := by decide +kernel
theorem dX12_mayThen_82 : decode cX12_mayThen 82 = .ok (.iload_n 1, 1) := by decide +kernel
theorem dX12_mayThen_83 : decode cX12_mayThen 83 = .ok (.invokevirtual 184, 3) := by decide +kernel
theorem dX12_mayThen_86 : decode cX12_mayThen 86 = .ok (.if_icmp .lt 11, 3) := by decide +kernel
theorem dX12_mayThen_89 : decode cX12_mayThen 89 = .ok (.iload_n 3, 1) := by decide +kernel
theorem dX12_mayThen_90 : decode cX12_mayThen 90 = .ok (.ifCond .eq 7, 3) := by decide +kernel
theorem dX12_mayThen_93 : decode cX12_mayThen 93 = .ok (.iconst 1, 1) := by decide +kernel
theorem dX12_mayThen_94 : decode cX12_mayThen 94 = .ok (.goto 4, 3) := by decide +kernel
theorem dX12_mayThen_97 : decode cX12_mayThen 97 = .ok (.iconst 0, 1) := by decide +kernel
theorem dX12_mayThen_98 : decode cX12_mayThen 98 = .ok (.ireturn, 1) := by decide +kernel
theorem dX12_payThen_0 : decode cX12_payThen 0 = .ok (.aload_n 0, 1) := by decide +kernel
theorem dX12_payThen_1 : decode cX12_payThen 1 = .ok (.getfield 49, 3) := by decide +kernel
theorem dX12_payThen_4 : decode cX12_payThen 4 = .ok (.aload_n 0, 1) := by decide +kernel
theorem dX12_payThen_5 : decode cX12_payThen 5 = .ok (.getfield 34, 3) := by decide +kernel
theorem dX12_payThen_8 : decode cX12_payThen 8 = .ok (.iload_n 1, 1) := by decide +kernel
theorem dX12_payThen_9 : decode cX12_payThen 9 = .ok (.iaload, 1) := by decide +kernel
theorem dX12_payThen_10 : decode cX12_payThen 10 = .ok (.dup2, 1) := by decide +kernel
theorem dX12_payThen_11 : decode cX12_payThen 11 = .ok (.iaload, 1) := by decide +kernel
theorem dX12_payThen_12 : decode cX12_payThen 12 = .ok (.aload_n 0, 1) := by decide +kernel
theorem dX12_payThen_13 : decode cX12_payThen 13 = .ok (.iload_n 1, 1) := by decide +kernel
theorem dX12_payThen_14 : decode cX12_payThen 14 = .ok (.invokevirtual 184, 3) := by decide +kernel
theorem dX12_payThen_17 : decode cX12_payThen 17 = .ok (.isub, 1) := by decide +kernel
theorem dX12_payThen_18 : decode cX12_payThen 18 = .ok (.iastore, 1) := by decide +kernel
theorem dX12_payThen_19 : decode cX12_payThen 19 = .ok (.aload_n 0, 1) := by decide +kernel
theorem dX12_payThen_20 : decode cX12_payThen 20 = .ok (.getfield 49, 3) := by decide +kernel
theorem dX12_payThen_23 : decode cX12_payThen 23 = .ok (.aload_n 0, 1) := by decide +kernel
theorem dX12_payThen_24 : decode cX12_payThen 24 = .ok (.getfield 37, 3) := by decide +kernel
theorem dX12_payThen_27 : decode cX12_payThen 27 = .ok (.iload_n 1, 1) := by decide +kernel
theorem dX12_payThen_28 : decode cX12_payThen 28 = .ok (.iaload, 1) := by decide +kernel
theorem dX12_payThen_29 : decode cX12_payThen 29 = .ok (.iaload, 1) := by decide +kernel
theorem dX12_payThen_30 : decode cX12_payThen 30 = .ok (.aload_n 0, 1) := by decide +kernel
theorem dX12_payThen_31 : decode cX12_payThen 31 = .ok (.getfield 43, 3) := by decide +kernel
theorem dX12_payThen_34 : decode cX12_payThen 34 = .ok (.iload_n 1, 1) := by decide +kernel
theorem dX12_payThen_35 : decode cX12_payThen 35 = .ok (.iaload, 1) := by decide +kernel
theorem dX12_payThen_36 : decode cX12_payThen 36 = .ok (.iadd, 1) := by decide +kernel
theorem dX12_payThen_37 : decode cX12_payThen 37 = .ok (.istore_n 2, 1) := by decide +kernel
theorem dX12_payThen_38 : decode cX12_payThen 38 = .ok (.aload_n 0, 1) := by decide +kernel
theorem dX12_payThen_39 : decode cX12_payThen 39 = .ok (.getfield 49, 3) := by decide +kernel
theorem dX12_payThen_42 : decode cX12_payThen 42 = .ok (.aload_n 0, 1) := by decide +kernel
theorem dX12_payThen_43 : decode cX12_payThen 43 = .ok (.getfield 37, 3) := by decide +kernel
theorem dX12_payThen_46 : decode cX12_payThen 46 = .ok (.iload_n 1, 1) := by decide +kernel
theorem dX12_payThen_47 : decode cX12_payThen 47 = .ok (.iaload, 1) := by decide +kernel
theorem dX12_payThen_48 : decode cX12_payThen 48 = .ok (.iload_n 2, 1) := by decide +kernel
theorem dX12_payThen_49 : decode cX12_payThen 49 = .ok (.bipush 99, 2) := by decide +kernel
theorem dX12_payThen_51 : decode cX12_payThen 51 = .ok (.if_icmp .le 8, 3) := by decide +kernel
theorem dX12_payThen_54 : decode cX12_payThen 54 = .ok (.bipush 99, 2) := by decide +kernel
theorem dX12_payThen_56 : decode cX12_payThen 56 = .ok (.goto 4, 3) := by decide +kernel
theorem dX12_payThen_59 : decode cX12_payThen 59 = .ok (.iload_n 2, 1) := by decide +kernel
theorem dX12_payThen_60 : decode cX12_payThen 60 = .ok (.iastore, 1) := by decide +kernel
theorem dX12_payThen_61 : decode cX12_payThen 61 = .ok (.aload_n 0, 1) := by decide +kernel
theorem dX12_payThen_62 : decode cX12_payThen 62 = .ok (.getfield 55, 3) := by decide +kernel
theorem dX12_payThen_65 : decode cX12_payThen 65 = .ok (.iload_n 1, 1) := by decide +kernel
theorem dX12_payThen_66 : decode cX12_payThen 66 = .ok (.iconst 1, 1) := by decide +kernel
theorem dX12_payThen_67 : decode cX12_payThen 67 = .ok (.iastore, 1) := by decide +kernel
theorem dX12_payThen_68 : decode cX12_payThen 68 = .ok (.return_, 1) := by decide +kernel
theorem dX12_keysOf_0 : decode cX12_keysOf 0 = .ok (.aload_n 0, 1) := by decide +kernel
theorem dX12_keysOf_1 : decode cX12_keysOf 1 = .ok (.getfield 31, 3) := by decide +kernel
theorem dX12_keysOf_4 : decode cX12_keysOf 4 = .ok (.iconst 0, 1) := by decide +kernel
theorem dX12_keysOf_5 : decode cX12_keysOf 5 = .ok (.iaload, 1) := by decide +kernel
theorem dX12_keysOf_6 : decode cX12_keysOf 6 = .ok (.iload_n 1, 1) := by decide +kernel
theorem dX12_keysOf_7 : decode cX12_keysOf 7 = .ok (.if_icmp .ne 7, 3) := by decide +kernel
theorem dX12_keysOf_10 : decode cX12_keysOf 10 = .ok (.iconst 1, 1) := by decide +kernel
theorem dX12_keysOf_11 : decode cX12_keysOf 11 = .ok (.goto 4, 3) := by decide +kernel
theorem dX12_keysOf_14 : decode cX12_keysOf 14 = .ok (.iconst 0, 1) := by decide +kernel
theorem dX12_keysOf_15 : decode cX12_keysOf 15 = .ok (.aload_n 0, 1) := by decide +kernel
theorem dX12_keysOf_16 : decode cX12_keysOf 16 = .ok (.getfield 31, 3) := by decide +kernel
theorem dX12_keysOf_19 : decode cX12_keysOf 19 = .ok (.iconst 1, 1) := by decide +kernel
theorem dX12_keysOf_20 : decode cX12_keysOf 20 = .ok (.iaload, 1) := by decide +kernel
theorem dX12_keysOf_21 : decode cX12_keysOf 21 = .ok (.iload_n 1, 1) := by decide +kernel
theorem dX12_keysOf_22 : decode cX12_keysOf 22 = .ok (.if_icmp .ne 7, 3) := by decide +kernel
theorem dX12_keysOf_25 : decode cX12_keysOf 25 = .ok (.iconst 2, 1) := by decide +kernel
theorem dX12_keysOf_26 : decode cX12_keysOf 26 = .ok (.goto 4, 3) := by decide +kernel
theorem dX12_keysOf_29 : decode cX12_keysOf 29 = .ok (.iconst 0, 1) := by decide +kernel
theorem dX12_keysOf_30 : decode cX12_keysOf 30 = .ok (.iadd, 1) := by decide +kernel
theorem dX12_keysOf_31 : decode cX12_keysOf 31 = .ok (.ireturn, 1) := by decide +kernel
theorem dX12_doorsOf_0 : decode cX12_doorsOf 0 = .ok (.iconst 0, 1) := by decide +kernel
theorem dX12_doorsOf_1 : decode cX12_doorsOf 1 = .ok (.istore_n 2, 1) := by decide +kernel
theorem dX12_doorsOf_2 : decode cX12_doorsOf 2 = .ok (.iconst 0, 1) := by decide +kernel
theorem dX12_doorsOf_3 : decode cX12_doorsOf 3 = .ok (.istore_n 3, 1) := by decide +kernel
theorem dX12_doorsOf_4 : decode cX12_doorsOf 4 = .ok (.iload_n 3, 1) := by decide +kernel
theorem dX12_doorsOf_5 : decode cX12_doorsOf 5 = .ok (.aload_n 0, 1) := by decide +kernel
theorem dX12_doorsOf_6 : decode cX12_doorsOf 6 = .ok (.getfield 156, 3) := by decide +kernel
theorem dX12_doorsOf_9 : decode cX12_doorsOf 9 = .ok (.if_icmp .ge 35, 3) := by decide +kernel
theorem dX12_doorsOf_12 : decode cX12_doorsOf 12 = .ok (.iload_n 2, 1) := by decide +kernel
theorem dX12_doorsOf_13 : decode cX12_doorsOf 13 = .ok (.aload_n 0, 1) := by decide +kernel
theorem dX12_doorsOf_14 : decode cX12_doorsOf 14 = .ok (.iload_n 1, 1) := by decide +kernel
theorem dX12_doorsOf_15 : decode cX12_doorsOf 15 = .ok (.iload_n 3, 1) := by decide +kernel
theorem dX12_doorsOf_16 : decode cX12_doorsOf 16 = .ok (.aload_n 0, 1) := by decide +kernel
theorem dX12_doorsOf_17 : decode cX12_doorsOf 17 = .ok (.getfield 28, 3) := by decide +kernel
theorem dX12_doorsOf_20 : decode cX12_doorsOf 20 = .ok (.iload_n 1, 1) := by decide +kernel
theorem dX12_doorsOf_21 : decode cX12_doorsOf 21 = .ok (.iaload, 1) := by decide +kernel
theorem dX12_doorsOf_22 : decode cX12_doorsOf 22 = .ok (.invokevirtual 187, 3) := by decide +kernel
theorem dX12_doorsOf_25 : decode cX12_doorsOf 25 = .ok (.iconst (-1), 1) := by decide +kernel
theorem dX12_doorsOf_26 : decode cX12_doorsOf 26 = .ok (.if_icmp .eq 9, 3) := by decide +kernel
theorem dX12_doorsOf_29 : decode cX12_doorsOf 29 = .ok (.iconst 1, 1) := by decide +kernel
theorem dX12_doorsOf_30 : decode cX12_doorsOf 30 = .ok (.iload_n 3, 1) := by decide +kernel
theorem dX12_doorsOf_31 : decode cX12_doorsOf 31 = .ok (.ishl, 1) := by decide +kernel
theorem dX12_doorsOf_32 : decode cX12_doorsOf 32 = .ok (.goto 4, 3) := by decide +kernel
theorem dX12_doorsOf_35 : decode cX12_doorsOf 35 = .ok (.iconst 0, 1) := by decide +kernel
theorem dX12_doorsOf_36 : decode cX12_doorsOf 36 = .ok (.ior, 1) := by decide +kernel
theorem dX12_doorsOf_37 : decode cX12_doorsOf 37 = .ok (.istore_n 2, 1) := by decide +kernel
theorem dX12_doorsOf_38 : decode cX12_doorsOf 38 = .ok (.iinc 3 1, 3) := by decide +kernel
theorem dX12_doorsOf_41 : decode cX12_doorsOf 41 = .ok (.goto (-37), 3) := by decide +kernel
theorem dX12_doorsOf_44 : decode cX12_doorsOf 44 = .ok (.iload_n 2, 1) := by decide +kernel
theorem dX12_doorsOf_45 : decode cX12_doorsOf 45 = .ok (.ireturn, 1) := by decide +kernel
theorem dX12_mayPay_0 : decode cX12_mayPay 0 = .ok (.aload_n 0, 1) := by decide +kernel
theorem dX12_mayPay_1 : decode cX12_mayPay 1 = .ok (.invokevirtual 191, 3) := by decide +kernel
theorem dX12_mayPay_4 : decode cX12_mayPay 4 = .ok (.iconst 0, 1) := by decide +kernel
theorem dX12_mayPay_5 : decode cX12_mayPay 5 = .ok (.istore_n 2, 1) := by decide +kernel
theorem dX12_mayPay_6 : decode cX12_mayPay 6 = .ok (.iconst 0, 1) := by decide +kernel
theorem dX12_mayPay_7 : decode cX12_mayPay 7 = .ok (.istore_n 3, 1) := by decide +kernel
theorem dX12_mayPay_8 : decode cX12_mayPay 8 = .ok (.iload_n 3, 1) := by decide +kernel
theorem dX12_mayPay_9 : decode cX12_mayPay 9 = .ok (.aload_n 0, 1) := by decide +kernel
theorem dX12_mayPay_10 : decode cX12_mayPay 10 = .ok (.getfield 162, 3) := by decide +kernel
theorem dX12_mayPay_13 : decode cX12_mayPay 13 = .ok (.if_icmp .ge 37, 3) := by decide +kernel
theorem dX12_mayPay_16 : decode cX12_mayPay 16 = .ok (.iload_n 2, 1) := by decide +kernel
theorem dX12_mayPay_17 : decode cX12_mayPay 17 = .ok (.aload_n 0, 1) := by decide +kernel
theorem dX12_mayPay_18 : decode cX12_mayPay 18 = .ok (.getfield 34, 3) := by decide +kernel
theorem dX12_mayPay_21 : decode cX12_mayPay 21 = .ok (.iload_n 3, 1) := by decide +kernel
theorem dX12_mayPay_22 : decode cX12_mayPay 22 = .ok (.iaload, 1) := by decide +kernel
theorem dX12_mayPay_23 : decode cX12_mayPay 23 = .ok (.iload_n 1, 1) := by decide +kernel
theorem dX12_mayPay_24 : decode cX12_mayPay 24 = .ok (.if_icmp .ne 17, 3) := by decide +kernel
theorem dX12_mayPay_27 : decode cX12_mayPay 27 = .ok (.aload_n 0, 1) := by decide +kernel
theorem dX12_mayPay_28 : decode cX12_mayPay 28 = .ok (.iload_n 3, 1) := by decide +kernel
theorem dX12_mayPay_29 : decode cX12_mayPay 29 = .ok (.invokevirtual 194, 3) := by decide +kernel
theorem dX12_mayPay_32 : decode cX12_mayPay 32 = .ok (.ifCond .eq 9, 3) := by decide +kernel
theorem dX12_mayPay_35 : decode cX12_mayPay 35 = .ok (.iconst 1, 1) := by decide +kernel
theorem dX12_mayPay_36 : decode cX12_mayPay 36 = .ok (.iload_n 3, 1) := by decide +kernel
theorem dX12_mayPay_37 : decode cX12_mayPay 37 = .ok (.ishl, 1) := by decide +kernel
theorem dX12_mayPay_38 : decode cX12_mayPay 38 = .ok (.goto 4, 3) := by decide +kernel
theorem dX12_mayPay_41 : decode cX12_mayPay 41 = .ok (.iconst 0, 1) := by decide +kernel
theorem dX12_mayPay_42 : decode cX12_mayPay 42 = .ok (.ior, 1) := by decide +kernel
theorem dX12_mayPay_43 : decode cX12_mayPay 43 = .ok (.istore_n 2, 1) := by decide +kernel
theorem dX12_mayPay_44 : decode cX12_mayPay 44 = .ok (.iinc 3 1, 3) := by decide +kernel
theorem dX12_mayPay_47 : decode cX12_mayPay 47 = .ok (.goto (-39), 3) := by decide +kernel
theorem dX12_mayPay_50 : decode cX12_mayPay 50 = .ok (.iload_n 2, 1) := by decide +kernel
theorem dX12_mayPay_51 : decode cX12_mayPay 51 = .ok (.ireturn, 1) := by decide +kernel
theorem dX12_standing_0 : decode cX12_standing 0 = .ok (.bipush 100, 2) := by decide +kernel
theorem dX12_standing_2 : decode cX12_standing 2 = .ok (.aload_n 0, 1) := by decide +kernel
theorem dX12_standing_3 : decode cX12_standing 3 = .ok (.getfield 25, 3) := by decide +kernel
theorem dX12_standing_6 : decode cX12_standing 6 = .ok (.iload_n 1, 1) := by decide +kernel
theorem dX12_standing_7 : decode cX12_standing 7 = .ok (.iaload, 1) := by decide +kernel
theorem dX12_standing_8 : decode cX12_standing 8 = .ok (.iadd, 1) := by decide +kernel
theorem dX12_standing_9 : decode cX12_standing 9 = .ok (.istore_n 2, 1) := by decide +kernel
theorem dX12_standing_10 : decode cX12_standing 10 = .ok (.iconst 0, 1) := by decide +kernel
theorem dX12_standing_11 : decode cX12_standing 11 = .ok (.istore_n 3, 1) := by decide +kernel
theorem dX12_standing_12 : decode cX12_standing 12 = .ok (.iload_n 3, 1) := by decide +kernel
theorem dX12_standing_13 : decode cX12_standing 13 = .ok (.aload_n 0, 1) := by decide +kernel
theorem dX12_standing_14 : decode cX12_standing 14 = .ok (.getfield 162, 3) := by decide +kernel
theorem dX12_standing_17 : decode cX12_standing 17 = .ok (.if_icmp .ge 64, 3) := by decide +kernel
theorem dX12_standing_20 : decode cX12_standing 20 = .ok (.aload_n 0, 1) := by decide +kernel
theorem dX12_standing_21 : decode cX12_standing 21 = .ok (.getfield 46, 3) := by decide +kernel
theorem dX12_standing_24 : decode cX12_standing 24 = .ok (.iload_n 3, 1) := by decide +kernel
theorem dX12_standing_25 : decode cX12_standing 25 = .ok (.iaload, 1) := by decide +kernel
theorem dX12_standing_26 : decode cX12_standing 26 = .ok (.ifCond .ne 49, 3) := by decide +kernel
theorem dX12_standing_29 : decode cX12_standing 29 = .ok (.iload_n 2, 1) := by decide +kernel
theorem dX12_standing_30 : decode cX12_standing 30 = .ok (.aload_n 0, 1) := by decide +kernel
theorem dX12_standing_31 : decode cX12_standing 31 = .ok (.getfield 37, 3) := by decide +kernel
theorem dX12_standing_34 : decode cX12_standing 34 = .ok (.iload_n 3, 1) := by decide +kernel
theorem dX12_standing_35 : decode cX12_standing 35 = .ok (.iaload, 1) := by decide +kernel
theorem dX12_standing_36 : decode cX12_standing 36 = .ok (.iload_n 1, 1) := by decide +kernel
theorem dX12_standing_37 : decode cX12_standing 37 = .ok (.if_icmp .ne 12, 3) := by decide +kernel
theorem dX12_standing_40 : decode cX12_standing 40 = .ok (.aload_n 0, 1) := by decide +kernel
theorem dX12_standing_41 : decode cX12_standing 41 = .ok (.getfield 43, 3) := by decide +kernel
theorem dX12_standing_44 : decode cX12_standing 44 = .ok (.iload_n 3, 1) := by decide +kernel
theorem dX12_standing_45 : decode cX12_standing 45 = .ok (.iaload, 1) := by decide +kernel
theorem dX12_standing_46 : decode cX12_standing 46 = .ok (.goto 4, 3) := by decide +kernel
theorem dX12_standing_49 : decode cX12_standing 49 = .ok (.iconst 0, 1) := by decide +kernel
theorem dX12_standing_50 : decode cX12_standing 50 = .ok (.iadd, 1) := by decide +kernel
theorem dX12_standing_51 : decode cX12_standing 51 = .ok (.istore_n 2, 1) := by decide +kernel
theorem dX12_standing_52 : decode cX12_standing 52 = .ok (.iload_n 2, 1) := by decide +kernel
theorem dX12_standing_53 : decode cX12_standing 53 = .ok (.aload_n 0, 1) := by decide +kernel
theorem dX12_standing_54 : decode cX12_standing 54 = .ok (.getfield 34, 3) := by decide +kernel
theorem dX12_standing_57 : decode cX12_standing 57 = .ok (.iload_n 3, 1) := by decide +kernel
theorem dX12_standing_58 : decode cX12_standing 58 = .ok (.iaload, 1) := by decide +kernel
theorem dX12_standing_59 : decode cX12_standing 59 = .ok (.iload_n 1, 1) := by decide +kernel
theorem dX12_standing_60 : decode cX12_standing 60 = .ok (.if_icmp .ne 12, 3) := by decide +kernel
theorem dX12_standing_63 : decode cX12_standing 63 = .ok (.aload_n 0, 1) := by decide +kernel
theorem dX12_standing_64 : decode cX12_standing 64 = .ok (.getfield 43, 3) := by decide +kernel
theorem dX12_standing_67 : decode cX12_standing 67 = .ok (.iload_n 3, 1) := by decide +kernel
theorem dX12_standing_68 : decode cX12_standing 68 = .ok (.iaload, 1) := by decide +kernel
theorem dX12_standing_69 : decode cX12_standing 69 = .ok (.goto 4, 3) := by decide +kernel
theorem dX12_standing_72 : decode cX12_standing 72 = .ok (.iconst 0, 1) := by decide +kernel
theorem dX12_standing_73 : decode cX12_standing 73 = .ok (.isub, 1) := by decide +kernel
theorem dX12_standing_74 : decode cX12_standing 74 = .ok (.istore_n 2, 1) := by decide +kernel
theorem dX12_standing_75 : decode cX12_standing 75 = .ok (.iinc 3 1, 3) := by decide +kernel
theorem dX12_standing_78 : decode cX12_standing 78 = .ok (.goto (-66), 3) := by decide +kernel
theorem dX12_standing_81 : decode cX12_standing 81 = .ok (.iload_n 2, 1) := by decide +kernel
theorem dX12_standing_82 : decode cX12_standing 82 = .ok (.ireturn, 1) := by decide +kernel
theorem dX12_pursesOf_0 : decode cX12_pursesOf 0 = .ok (.iconst 0, 1) := by decide +kernel
theorem dX12_pursesOf_1 : decode cX12_pursesOf 1 = .ok (.istore_n 2, 1) := by decide +kernel
theorem dX12_pursesOf_2 : decode cX12_pursesOf 2 = .ok (.iconst 0, 1) := by decide +kernel
theorem dX12_pursesOf_3 : decode cX12_pursesOf 3 = .ok (.istore_n 3, 1) := by decide +kernel
theorem dX12_pursesOf_4 : decode cX12_pursesOf 4 = .ok (.iload_n 3, 1) := by decide +kernel
theorem dX12_pursesOf_5 : decode cX12_pursesOf 5 = .ok (.bipush 10, 2) := by decide +kernel
theorem dX12_pursesOf_7 : decode cX12_pursesOf 7 = .ok (.if_icmp .ge 107, 3) := by decide +kernel
theorem dX12_pursesOf_10 : decode cX12_pursesOf 10 = .ok (.iconst 1, 1) := by decide +kernel
theorem dX12_pursesOf_11 : decode cX12_pursesOf 11 = .ok (.istore 4, 2) := by decide +kernel
theorem dX12_pursesOf_13 : decode cX12_pursesOf 13 = .ok (.iconst 0, 1) := by decide +kernel
theorem dX12_pursesOf_14 : decode cX12_pursesOf 14 = .ok (.istore 5, 2) := by decide +kernel
theorem dX12_pursesOf_16 : decode cX12_pursesOf 16 = .ok (.iload 5, 2) := by decide +kernel
theorem dX12_pursesOf_18 : decode cX12_pursesOf 18 = .ok (.iconst 2, 1) := by decide +kernel
theorem dX12_pursesOf_19 : decode cX12_pursesOf 19 = .ok (.aload_n 0, 1) := by decide +kernel
theorem dX12_pursesOf_20 : decode cX12_pursesOf 20 = .ok (.getfield 171, 3) := by decide +kernel
theorem dX12_pursesOf_23 : decode cX12_pursesOf 23 = .ok (.imul, 1) := by decide +kernel
theorem dX12_pursesOf_24 : decode cX12_pursesOf 24 = .ok (.if_icmp .ge 69, 3) := by decide +kernel
theorem dX12_pursesOf_27 : decode cX12_pursesOf 27 = .ok (.aload_n 0, 1) := by decide +kernel
theorem dX12_pursesOf_28 : decode cX12_pursesOf 28 = .ok (.getfield 34, 3) := by decide +kernel
theorem dX12_pursesOf_31 : decode cX12_pursesOf 31 = .ok (.aload_n 0, 1) := by decide +kernel
theorem dX12_pursesOf_32 : decode cX12_pursesOf 32 = .ok (.getfield 76, 3) := by decide +kernel
theorem dX12_pursesOf_35 : decode cX12_pursesOf 35 = .ok (.iload 5, 2) := by decide +kernel
theorem dX12_pursesOf_37 : decode cX12_pursesOf 37 = .ok (.iaload, 1) := by decide +kernel
theorem dX12_pursesOf_38 : decode cX12_pursesOf 38 = .ok (.iaload, 1) := by decide +kernel
theorem dX12_pursesOf_39 : decode cX12_pursesOf 39 = .ok (.iload_n 1, 1) := by decide +kernel
theorem dX12_pursesOf_40 : decode cX12_pursesOf 40 = .ok (.if_icmp .ne 47, 3) := by decide +kernel
theorem dX12_pursesOf_43 : decode cX12_pursesOf 43 = .ok (.iload 4, 2) := by decide +kernel
theorem dX12_pursesOf_45 : decode cX12_pursesOf 45 = .ok (.ifCond .eq 39, 3) := by decide +kernel
theorem dX12_pursesOf_48 : decode cX12_pursesOf 48 = .ok (.iload_n 3, 1) := by decide +kernel
theorem dX12_pursesOf_49 : decode cX12_pursesOf 49 = .ok (.aload_n 0, 1) := by decide +kernel
theorem dX12_pursesOf_50 : decode cX12_pursesOf 50 = .ok (.aload_n 0, 1) := by decide +kernel
theorem dX12_pursesOf_51 : decode cX12_pursesOf 51 = .ok (.getfield 76, 3) := by decide +kernel
theorem dX12_pursesOf_54 : decode cX12_pursesOf 54 = .ok (.iload 5, 2) := by decide +kernel
theorem dX12_pursesOf_56 : decode cX12_pursesOf 56 = .ok (.iaload, 1) := by decide +kernel
theorem dX12_pursesOf_57 : decode cX12_pursesOf 57 = .ok (.invokevirtual 184, 3) := by decide +kernel
theorem dX12_pursesOf_60 : decode cX12_pursesOf 60 = .ok (.if_icmp .lt 7, 3) := by decide +kernel
theorem dX12_pursesOf_63 : decode cX12_pursesOf 63 = .ok (.iconst 1, 1) := by decide +kernel
theorem dX12_pursesOf_64 : decode cX12_pursesOf 64 = .ok (.goto 4, 3) := by decide +kernel
theorem dX12_pursesOf_67 : decode cX12_pursesOf 67 = .ok (.iconst 0, 1) := by decide +kernel
theorem dX12_pursesOf_68 : decode cX12_pursesOf 68 = .ok (.aload_n 0, 1) := by decide +kernel
theorem dX12_pursesOf_69 : decode cX12_pursesOf 69 = .ok (.getfield 76, 3) := by decide +kernel
theorem dX12_pursesOf_72 : decode cX12_pursesOf 72 = .ok (.iload 5, 2) := by decide +kernel
theorem dX12_pursesOf_74 : decode cX12_pursesOf 74 = .ok (.iconst 1, 1) := by decide +kernel
theorem dX12_pursesOf_75 : decode cX12_pursesOf 75 = .ok (.iadd, 1) := by decide +kernel
theorem dX12_pursesOf_76 : decode cX12_pursesOf 76 = .ok (.iaload, 1) := by decide +kernel
theorem dX12_pursesOf_77 : decode cX12_pursesOf 77 = .ok (.if_icmp .ne 7, 3) := by decide +kernel
theorem dX12_pursesOf_80 : decode cX12_pursesOf 80 = .ok (.iconst 1, 1) := by decide +kernel
theorem dX12_pursesOf_81 : decode cX12_pursesOf 81 = .ok (.goto 4, 3) := by decide +kernel
theorem dX12_pursesOf_84 : decode cX12_pursesOf 84 = .ok (.iconst 0, 1) := by decide +kernel
theorem dX12_pursesOf_85 : decode cX12_pursesOf 85 = .ok (.istore 4, 2) := by decide +kernel
theorem dX12_pursesOf_87 : decode cX12_pursesOf 87 = .ok (.iinc 5 2, 3) := by decide +kernel
theorem dX12_pursesOf_90 : decode cX12_pursesOf 90 = .ok (.goto (-74), 3) := by decide +kernel
theorem dX12_pursesOf_93 : decode cX12_pursesOf 93 = .ok (.iload_n 2, 1) := by decide +kernel
theorem dX12_pursesOf_94 : decode cX12_pursesOf 94 = .ok (.iload 4, 2) := by decide +kernel
theorem dX12_pursesOf_96 : decode cX12_pursesOf 96 = .ok (.ifCond .eq 9, 3) := by decide +kernel
theorem dX12_pursesOf_99 : decode cX12_pursesOf 99 = .ok (.iconst 1, 1) := by decide +kernel
theorem dX12_pursesOf_100 : decode cX12_pursesOf 100 = .ok (.iload_n 3, 1) := by decide +kernel
theorem dX12_pursesOf_101 : decode cX12_pursesOf 101 = .ok (.ishl, 1) := by decide +kernel
theorem dX12_pursesOf_102 : decode cX12_pursesOf 102 = .ok (.goto 4, 3) := by decide +kernel
theorem dX12_pursesOf_105 : decode cX12_pursesOf 105 = .ok (.iconst 0, 1) := by decide +kernel
theorem dX12_pursesOf_106 : decode cX12_pursesOf 106 = .ok (.ior, 1) := by decide +kernel
theorem dX12_pursesOf_107 : decode cX12_pursesOf 107 = .ok (.istore_n 2, 1) := by decide +kernel
theorem dX12_pursesOf_108 : decode cX12_pursesOf 108 = .ok (.iinc 3 1, 3) := by decide +kernel
theorem dX12_pursesOf_111 : decode cX12_pursesOf 111 = .ok (.goto (-107), 3) := by decide +kernel
theorem dX12_pursesOf_114 : decode cX12_pursesOf 114 = .ok (.iload_n 2, 1) := by decide +kernel
theorem dX12_pursesOf_115 : decode cX12_pursesOf 115 = .ok (.ireturn, 1) := by decide +kernel
theorem dX12_pressOf_0 : decode cX12_pressOf 0 = .ok (.aload_n 0, 1) := by decide +kernel
theorem dX12_pressOf_1 : decode cX12_pressOf 1 = .ok (.iload_n 1, 1) := by decide +kernel
theorem dX12_pressOf_2 : decode cX12_pressOf 2 = .ok (.invokevirtual 209, 3) := by decide +kernel
theorem dX12_pressOf_5 : decode cX12_pressOf 5 = .ok (.istore_n 2, 1) := by decide +kernel
theorem dX12_pressOf_6 : decode cX12_pressOf 6 = .ok (.iconst (-1), 1) := by decide +kernel
theorem dX12_pressOf_7 : decode cX12_pressOf 7 = .ok (.istore_n 3, 1) := by decide +kernel
theorem dX12_pressOf_8 : decode cX12_pressOf 8 = .ok (.bipush 11, 2) := by decide +kernel
theorem dX12_pressOf_10 : decode cX12_pressOf 10 = .ok (.istore 4, 2) := by decide +kernel
theorem dX12_pressOf_12 : decode cX12_pressOf 12 = .ok (.iconst 0, 1) := by decide +kernel
theorem dX12_pressOf_13 : decode cX12_pressOf 13 = .ok (.istore 5, 2) := by decide +kernel
theorem dX12_pressOf_15 : decode cX12_pressOf 15 = .ok (.iload 5, 2) := by decide +kernel
theorem dX12_pressOf_17 : decode cX12_pressOf 17 = .ok (.aload_n 0, 1) := by decide +kernel
theorem dX12_pressOf_18 : decode cX12_pressOf 18 = .ok (.getfield 162, 3) := by decide +kernel
theorem dX12_pressOf_21 : decode cX12_pressOf 21 = .ok (.if_icmp .ge 128, 3) := by decide +kernel
theorem dX12_pressOf_24 : decode cX12_pressOf 24 = .ok (.iload_n 2, 1) := by decide +kernel
theorem dX12_pressOf_25 : decode cX12_pressOf 25 = .ok (.ifCond .eq 124, 3) := by decide +kernel
theorem dX12_pressOf_28 : decode cX12_pressOf 28 = .ok (.iconst 0, 1) := by decide +kernel
theorem dX12_pressOf_29 : decode cX12_pressOf 29 = .ok (.istore 6, 2) := by decide +kernel
theorem dX12_pressOf_31 : decode cX12_pressOf 31 = .ok (.iconst 0, 1) := by decide +kernel
theorem dX12_pressOf_32 : decode cX12_pressOf 32 = .ok (.istore 7, 2) := by decide +kernel
theorem dX12_pressOf_34 : decode cX12_pressOf 34 = .ok (.iconst 0, 1) := by decide +kernel
theorem dX12_pressOf_35 : decode cX12_pressOf 35 = .ok (.istore 8, 2) := by decide +kernel
theorem dX12_pressOf_37 : decode cX12_pressOf 37 = .ok (.iload 8, 2) := by decide +kernel
theorem dX12_pressOf_39 : decode cX12_pressOf 39 = .ok (.bipush 10, 2) := by decide +kernel
theorem dX12_pressOf_41 : decode cX12_pressOf 41 = .ok (.if_icmp .ge 61, 3) := by decide +kernel
theorem dX12_pressOf_44 : decode cX12_pressOf 44 = .ok (.iload 6, 2) := by decide +kernel
theorem dX12_pressOf_46 : decode cX12_pressOf 46 = .ok (.iload 8, 2) := by decide +kernel
theorem dX12_pressOf_48 : decode cX12_pressOf 48 = .ok (.aload_n 0, 1) := by decide +kernel
theorem dX12_pressOf_49 : decode cX12_pressOf 49 = .ok (.iload 5, 2) := by decide +kernel
theorem dX12_pressOf_51 : decode cX12_pressOf 51 = .ok (.invokevirtual 184, 3) := by decide +kernel
theorem dX12_pressOf_54 : decode cX12_pressOf 54 = .ok (.if_icmp .lt 12, 3) := by decide +kernel
theorem dX12_pressOf_57 : decode cX12_pressOf 57 = .ok (.iload_n 2, 1) := by decide +kernel
theorem dX12_pressOf_58 : decode cX12_pressOf 58 = .ok (.iload 8, 2) := by decide +kernel
theorem dX12_pressOf_60 : decode cX12_pressOf 60 = .ok (.ishr, 1) := by decide +kernel
theorem dX12_pressOf_61 : decode cX12_pressOf 61 = .ok (.iconst 1, 1) := by decide +kernel
theorem dX12_pressOf_62 : decode cX12_pressOf 62 = .ok (.iand, 1) := by decide +kernel
theorem dX12_pressOf_63 : decode cX12_pressOf 63 = .ok (.goto 4, 3) := by decide +kernel
theorem dX12_pressOf_66 : decode cX12_pressOf 66 = .ok (.iconst 0, 1) := by decide +kernel
theorem dX12_pressOf_67 : decode cX12_pressOf 67 = .ok (.iadd, 1) := by decide +kernel
theorem dX12_pressOf_68 : decode cX12_pressOf 68 = .ok (.istore 6, 2) := by decide +kernel
theorem dX12_pressOf_70 : decode cX12_pressOf 70 = .ok (.iload 7, 2) := by decide +kernel
theorem dX12_pressOf_72 : decode cX12_pressOf 72 = .ok (.iload 8, 2) := by decide +kernel
theorem dX12_pressOf_74 : decode cX12_pressOf 74 = .ok (.aload_n 0, 1) := by decide +kernel
theorem dX12_pressOf_75 : decode cX12_pressOf 75 = .ok (.iload 5, 2) := by decide +kernel
theorem dX12_pressOf_77 : decode cX12_pressOf 77 = .ok (.invokevirtual 184, 3) := by decide +kernel
theorem dX12_pressOf_80 : decode cX12_pressOf 80 = .ok (.if_icmp .ge 12, 3) := by decide +kernel
theorem dX12_pressOf_83 : decode cX12_pressOf 83 = .ok (.iload_n 2, 1) := by decide +kernel
theorem dX12_pressOf_84 : decode cX12_pressOf 84 = .ok (.iload 8, 2) := by decide +kernel
theorem dX12_pressOf_86 : decode cX12_pressOf 86 = .ok (.ishr, 1) := by decide +kernel
theorem dX12_pressOf_87 : decode cX12_pressOf 87 = .ok (.iconst 1, 1) := by decide +kernel
theorem dX12_pressOf_88 : decode cX12_pressOf 88 = .ok (.iand, 1) := by decide +kernel
theorem dX12_pressOf_89 : decode cX12_pressOf 89 = .ok (.goto 4, 3) := by decide +kernel
theorem dX12_pressOf_92 : decode cX12_pressOf 92 = .ok (.iconst 0, 1) := by decide +kernel
theorem dX12_pressOf_93 : decode cX12_pressOf 93 = .ok (.iadd, 1) := by decide +kernel
theorem dX12_pressOf_94 : decode cX12_pressOf 94 = .ok (.istore 7, 2) := by decide +kernel
theorem dX12_pressOf_96 : decode cX12_pressOf 96 = .ok (.iinc 8 1, 3) := by decide +kernel
theorem dX12_pressOf_99 : decode cX12_pressOf 99 = .ok (.goto (-62), 3) := by decide +kernel
theorem dX12_pressOf_102 : decode cX12_pressOf 102 = .ok (.iload 6, 2) := by decide +kernel
theorem dX12_pressOf_104 : decode cX12_pressOf 104 = .ok (.iload 7, 2) := by decide +kernel
theorem dX12_pressOf_106 : decode cX12_pressOf 106 = .ok (.if_icmp .le 8, 3) := by decide +kernel
theorem dX12_pressOf_109 : decode cX12_pressOf 109 = .ok (.iload 6, 2) := by decide +kernel
theorem dX12_pressOf_111 : decode cX12_pressOf 111 = .ok (.goto 5, 3) := by decide +kernel
theorem dX12_pressOf_114 : decode cX12_pressOf 114 = .ok (.iload 7, 2) := by decide +kernel
theorem dX12_pressOf_116 : decode cX12_pressOf 116 = .ok (.istore 8, 2) := by decide +kernel
theorem dX12_pressOf_118 : decode cX12_pressOf 118 = .ok (.aload_n 0, 1) := by decide +kernel
theorem dX12_pressOf_119 : decode cX12_pressOf 119 = .ok (.getfield 34, 3) := by decide +kernel
theorem dX12_pressOf_122 : decode cX12_pressOf 122 = .ok (.iload 5, 2) := by decide +kernel
theorem dX12_pressOf_124 : decode cX12_pressOf 124 = .ok (.iaload, 1) := by decide +kernel
theorem dX12_pressOf_125 : decode cX12_pressOf 125 = .ok (.iload_n 1, 1) := by decide +kernel
theorem dX12_pressOf_126 : decode cX12_pressOf 126 = .ok (.if_icmp .ne 17, 3) := by decide +kernel
theorem dX12_pressOf_129 : decode cX12_pressOf 129 = .ok (.iload 8, 2) := by decide +kernel
theorem dX12_pressOf_131 : decode cX12_pressOf 131 = .ok (.iload 4, 2) := by decide +kernel
theorem dX12_pressOf_133 : decode cX12_pressOf 133 = .ok (.if_icmp .ge 10, 3) := by decide +kernel
theorem dX12_pressOf_136 : decode cX12_pressOf 136 = .ok (.iload 5, 2) := by decide +kernel
theorem dX12_pressOf_138 : decode cX12_pressOf 138 = .ok (.istore_n 3, 1) := by decide +kernel
theorem dX12_pressOf_139 : decode cX12_pressOf 139 = .ok (.iload 8, 2) := by decide +kernel
theorem dX12_pressOf_141 : decode cX12_pressOf 141 = .ok (.istore 4, 2) := by decide +kernel
theorem dX12_pressOf_143 : decode cX12_pressOf 143 = .ok (.iinc 5 1, 3) := by decide +kernel
theorem dX12_pressOf_146 : decode cX12_pressOf 146 = .ok (.goto (-131), 3) := by decide +kernel
theorem dX12_pressOf_149 : decode cX12_pressOf 149 = .ok (.iload_n 3, 1) := by decide +kernel
theorem dX12_pressOf_150 : decode cX12_pressOf 150 = .ok (.ireturn, 1) := by decide +kernel
theorem dX12_tellPerson_0 : decode cX12_tellPerson 0 = .ok (.iload_n 2, 1) := by decide +kernel
theorem dX12_tellPerson_1 : decode cX12_tellPerson 1 = .ok (.tableswitch 108 0 8 #[51, 58, 65, 72, 78, 84, 90, 96, 102], 51) := by decide +kernel
theorem dX12_tellPerson_52 : decode cX12_tellPerson 52 = .ok (.aload_n 0, 1) := by decide +kernel
theorem dX12_tellPerson_53 : decode cX12_tellPerson 53 = .ok (.getfield 22, 3) := by decide +kernel
theorem dX12_tellPerson_56 : decode cX12_tellPerson 56 = .ok (.iload_n 1, 1) := by decide +kernel
theorem dX12_tellPerson_57 : decode cX12_tellPerson 57 = .ok (.iaload, 1) := by decide +kernel
theorem dX12_tellPerson_58 : decode cX12_tellPerson 58 = .ok (.ireturn, 1) := by decide +kernel
theorem dX12_tellPerson_59 : decode cX12_tellPerson 59 = .ok (.aload_n 0, 1) := by decide +kernel
theorem dX12_tellPerson_60 : decode cX12_tellPerson 60 = .ok (.getfield 25, 3) := by decide +kernel
theorem dX12_tellPerson_63 : decode cX12_tellPerson 63 = .ok (.iload_n 1, 1) := by decide +kernel
theorem dX12_tellPerson_64 : decode cX12_tellPerson 64 = .ok (.iaload, 1) := by decide +kernel
theorem dX12_tellPerson_65 : decode cX12_tellPerson 65 = .ok (.ireturn, 1) := by decide +kernel
theorem dX12_tellPerson_66 : decode cX12_tellPerson 66 = .ok (.aload_n 0, 1) := by decide +kernel
theorem dX12_tellPerson_67 : decode cX12_tellPerson 67 = .ok (.getfield 28, 3) := by decide +kernel
theorem dX12_tellPerson_70 : decode cX12_tellPerson 70 = .ok (.iload_n 1, 1) := by decide +kernel
theorem dX12_tellPerson_71 : decode cX12_tellPerson 71 = .ok (.iaload, 1) := by decide +kernel
theorem dX12_tellPerson_72 : decode cX12_tellPerson 72 = .ok (.ireturn, 1) := by decide +kernel
theorem dX12_tellPerson_73 : decode cX12_tellPerson 73 = .ok (.aload_n 0, 1) := by decide +kernel
theorem dX12_tellPerson_74 : decode cX12_tellPerson 74 = .ok (.iload_n 1, 1) := by decide +kernel
theorem dX12_tellPerson_75 : decode cX12_tellPerson 75 = .ok (.invokevirtual 197, 3) := by decide +kernel
theorem dX12_tellPerson_78 : decode cX12_tellPerson 78 = .ok (.ireturn, 1) := by decide +kernel
theorem dX12_tellPerson_79 : decode cX12_tellPerson 79 = .ok (.aload_n 0, 1) := by decide +kernel
theorem dX12_tellPerson_80 : decode cX12_tellPerson 80 = .ok (.iload_n 1, 1) := by decide +kernel
theorem dX12_tellPerson_81 : decode cX12_tellPerson 81 = .ok (.invokevirtual 200, 3) := by decide +kernel
theorem dX12_tellPerson_84 : decode cX12_tellPerson 84 = .ok (.ireturn, 1) := by decide +kernel
theorem dX12_tellPerson_85 : decode cX12_tellPerson 85 = .ok (.aload_n 0, 1) := by decide +kernel
theorem dX12_tellPerson_86 : decode cX12_tellPerson 86 = .ok (.iload_n 1, 1) := by decide +kernel
theorem dX12_tellPerson_87 : decode cX12_tellPerson 87 = .ok (.invokevirtual 203, 3) := by decide +kernel
theorem dX12_tellPerson_90 : decode cX12_tellPerson 90 = .ok (.ireturn, 1) := by decide +kernel
theorem dX12_tellPerson_91 : decode cX12_tellPerson 91 = .ok (.aload_n 0, 1) := by decide +kernel
theorem dX12_tellPerson_92 : decode cX12_tellPerson 92 = .ok (.iload_n 1, 1) := by decide +kernel
theorem dX12_tellPerson_93 : decode cX12_tellPerson 93 = .ok (.invokevirtual 206, 3) := by decide +kernel
theorem dX12_tellPerson_96 : decode cX12_tellPerson 96 = .ok (.ireturn, 1) := by decide +kernel
theorem dX12_tellPerson_97 : decode cX12_tellPerson 97 = .ok (.aload_n 0, 1) := by decide +kernel
theorem dX12_tellPerson_98 : decode cX12_tellPerson 98 = .ok (.iload_n 1, 1) := by decide +kernel
theorem dX12_tellPerson_99 : decode cX12_tellPerson 99 = .ok (.invokevirtual 209, 3) := by decide +kernel
theorem dX12_tellPerson_102 : decode cX12_tellPerson 102 = .ok (.ireturn, 1) := by decide +kernel
theorem dX12_tellPerson_103 : decode cX12_tellPerson 103 = .ok (.aload_n 0, 1) := by decide +kernel
theorem dX12_tellPerson_104 : decode cX12_tellPerson 104 = .ok (.iload_n 1, 1) := by decide +kernel
theorem dX12_tellPerson_105 : decode cX12_tellPerson 105 = .ok (.invokevirtual 212, 3) := by decide +kernel
theorem dX12_tellPerson_108 : decode cX12_tellPerson 108 = .ok (.ireturn, 1) := by decide +kernel
theorem dX12_tellPerson_109 : decode cX12_tellPerson 109 = .ok (.bipush (-102), 2) := by decide +kernel
theorem dX12_tellPerson_111 : decode cX12_tellPerson 111 = .ok (.ireturn, 1) := by decide +kernel
theorem dX12_person_0 : decode cX12_person 0 = .ok (.aload_n 0, 1) := by decide +kernel
theorem dX12_person_1 : decode cX12_person 1 = .ok (.iload_n 1, 1) := by decide +kernel
theorem dX12_person_2 : decode cX12_person 2 = .ok (.invokevirtual 215, 3) := by decide +kernel
theorem dX12_person_5 : decode cX12_person 5 = .ok (.ifCond .eq 12, 3) := by decide +kernel
theorem dX12_person_8 : decode cX12_person 8 = .ok (.aload_n 0, 1) := by decide +kernel
theorem dX12_person_9 : decode cX12_person 9 = .ok (.iload_n 1, 1) := by decide +kernel
theorem dX12_person_10 : decode cX12_person 10 = .ok (.iload_n 2, 1) := by decide +kernel
theorem dX12_person_11 : decode cX12_person 11 = .ok (.invokevirtual 218, 3) := by decide +kernel
theorem dX12_person_14 : decode cX12_person 14 = .ok (.goto 5, 3) := by decide +kernel
theorem dX12_person_17 : decode cX12_person 17 = .ok (.bipush (-101), 2) := by decide +kernel
theorem dX12_person_19 : decode cX12_person 19 = .ok (.ireturn, 1) := by decide +kernel
theorem dX12_as_0 : decode cX12_as 0 = .ok (.aload_n 0, 1) := by decide +kernel
theorem dX12_as_1 : decode cX12_as 1 = .ok (.iload_n 1, 1) := by decide +kernel
theorem dX12_as_2 : decode cX12_as 2 = .ok (.invokevirtual 215, 3) := by decide +kernel
theorem dX12_as_5 : decode cX12_as 5 = .ok (.ifCond .ne 6, 3) := by decide +kernel
theorem dX12_as_8 : decode cX12_as 8 = .ok (.bipush (-101), 2) := by decide +kernel
theorem dX12_as_10 : decode cX12_as 10 = .ok (.ireturn, 1) := by decide +kernel
theorem dX12_as_11 : decode cX12_as 11 = .ok (.iload_n 2, 1) := by decide +kernel
theorem dX12_as_12 : decode cX12_as 12 = .ok (.i2l, 1) := by decide +kernel
theorem dX12_as_13 : decode cX12_as 13 = .ok (.lconst 0, 1) := by decide +kernel
theorem dX12_as_14 : decode cX12_as 14 = .ok (.ldc2_w 222, 3) := by decide +kernel
theorem dX12_as_17 : decode cX12_as 17 = .ok (.invokestatic 103, 3) := by decide +kernel
theorem dX12_as_20 : decode cX12_as 20 = .ok (.ifCond .ne 6, 3) := by decide +kernel
theorem dX12_as_23 : decode cX12_as 23 = .ok (.bipush (-102), 2) := by decide +kernel
theorem dX12_as_25 : decode cX12_as 25 = .ok (.ireturn, 1) := by decide +kernel
theorem dX12_as_26 : decode cX12_as 26 = .ok (.iload_n 2, 1) := by decide +kernel
theorem dX12_as_27 : decode cX12_as 27 = .ok (.ifCond .eq 28, 3) := by decide +kernel
theorem dX12_as_30 : decode cX12_as 30 = .ok (.iload_n 2, 1) := by decide +kernel
theorem dX12_as_31 : decode cX12_as 31 = .ok (.aload_n 0, 1) := by decide +kernel
theorem dX12_as_32 : decode cX12_as 32 = .ok (.getfield 22, 3) := by decide +kernel
theorem dX12_as_35 : decode cX12_as 35 = .ok (.iload_n 1, 1) := by decide +kernel
theorem dX12_as_36 : decode cX12_as 36 = .ok (.iaload, 1) := by decide +kernel
theorem dX12_as_37 : decode cX12_as 37 = .ok (.if_icmp .eq 18, 3) := by decide +kernel
theorem dX12_as_40 : decode cX12_as 40 = .ok (.iload_n 2, 1) := by decide +kernel
theorem dX12_as_41 : decode cX12_as 41 = .ok (.iconst 1, 1) := by decide +kernel
theorem dX12_as_42 : decode cX12_as 42 = .ok (.if_icmp .ne 17, 3) := by decide +kernel
theorem dX12_as_45 : decode cX12_as 45 = .ok (.aload_n 0, 1) := by decide +kernel
theorem dX12_as_46 : decode cX12_as 46 = .ok (.getfield 22, 3) := by decide +kernel
theorem dX12_as_49 : decode cX12_as 49 = .ok (.iload_n 1, 1) := by decide +kernel
theorem dX12_as_50 : decode cX12_as 50 = .ok (.iaload, 1) := by decide +kernel
theorem dX12_as_51 : decode cX12_as 51 = .ok (.iconst 4, 1) := by decide +kernel
theorem dX12_as_52 : decode cX12_as 52 = .ok (.if_icmp .ne 7, 3) := by decide +kernel
theorem dX12_as_55 : decode cX12_as 55 = .ok (.iconst 1, 1) := by decide +kernel
theorem dX12_as_56 : decode cX12_as 56 = .ok (.goto 4, 3) := by decide +kernel
theorem dX12_as_59 : decode cX12_as 59 = .ok (.iconst 0, 1) := by decide +kernel
theorem dX12_as_60 : decode cX12_as 60 = .ok (.istore_n 3, 1) := by decide +kernel
theorem dX12_as_61 : decode cX12_as 61 = .ok (.iload_n 3, 1) := by decide +kernel
theorem dX12_as_62 : decode cX12_as 62 = .ok (.ifCond .eq 7, 3) := by decide +kernel
theorem dX12_as_65 : decode cX12_as 65 = .ok (.iload_n 1, 1) := by decide +kernel
theorem dX12_as_66 : decode cX12_as 66 = .ok (.goto 4, 3) := by decide +kernel
theorem dX12_as_69 : decode cX12_as 69 = .ok (.iconst (-1), 1) := by decide +kernel
theorem dX12_as_70 : decode cX12_as 70 = .ok (.ireturn, 1) := by decide +kernel
theorem dX12_tellDoor_0 : decode cX12_tellDoor 0 = .ok (.iload_n 2, 1) := by decide +kernel
theorem dX12_tellDoor_1 : decode cX12_tellDoor 1 = .ok (.tableswitch 48 0 2 #[27, 34, 41], 27) := by decide +kernel
theorem dX12_tellDoor_28 : decode cX12_tellDoor 28 = .ok (.aload_n 0, 1) := by decide +kernel
theorem dX12_tellDoor_29 : decode cX12_tellDoor 29 = .ok (.getfield 13, 3) := by decide +kernel
theorem dX12_tellDoor_32 : decode cX12_tellDoor 32 = .ok (.iload_n 1, 1) := by decide +kernel
theorem dX12_tellDoor_33 : decode cX12_tellDoor 33 = .ok (.iaload, 1) := by decide +kernel
theorem dX12_tellDoor_34 : decode cX12_tellDoor 34 = .ok (.ireturn, 1) := by decide +kernel
theorem dX12_tellDoor_35 : decode cX12_tellDoor 35 = .ok (.aload_n 0, 1) := by decide +kernel
theorem dX12_tellDoor_36 : decode cX12_tellDoor 36 = .ok (.getfield 16, 3) := by decide +kernel
theorem dX12_tellDoor_39 : decode cX12_tellDoor 39 = .ok (.iload_n 1, 1) := by decide +kernel
theorem dX12_tellDoor_40 : decode cX12_tellDoor 40 = .ok (.iaload, 1) := by decide +kernel
theorem dX12_tellDoor_41 : decode cX12_tellDoor 41 = .ok (.ireturn, 1) := by decide +kernel
theorem dX12_tellDoor_42 : decode cX12_tellDoor 42 = .ok (.aload_n 0, 1) := by decide +kernel
theorem dX12_tellDoor_43 : decode cX12_tellDoor 43 = .ok (.getfield 19, 3) := by decide +kernel
theorem dX12_tellDoor_46 : decode cX12_tellDoor 46 = .ok (.iload_n 1, 1) := by decide +kernel
theorem dX12_tellDoor_47 : decode cX12_tellDoor 47 = .ok (.iaload, 1) := by decide +kernel
theorem dX12_tellDoor_48 : decode cX12_tellDoor 48 = .ok (.ireturn, 1) := by decide +kernel
theorem dX12_tellDoor_49 : decode cX12_tellDoor 49 = .ok (.bipush (-102), 2) := by decide +kernel
theorem dX12_tellDoor_51 : decode cX12_tellDoor 51 = .ok (.ireturn, 1) := by decide +kernel
theorem dX12_door_0 : decode cX12_door 0 = .ok (.aload_n 0, 1) := by decide +kernel
theorem dX12_door_1 : decode cX12_door 1 = .ok (.iload_n 1, 1) := by decide +kernel
theorem dX12_door_2 : decode cX12_door 2 = .ok (.invokevirtual 224, 3) := by decide +kernel
theorem dX12_door_5 : decode cX12_door 5 = .ok (.ifCond .eq 12, 3) := by decide +kernel
theorem dX12_door_8 : decode cX12_door 8 = .ok (.aload_n 0, 1) := by decide +kernel
theorem dX12_door_9 : decode cX12_door 9 = .ok (.iload_n 1, 1) := by decide +kernel
theorem dX12_door_10 : decode cX12_door 10 = .ok (.iload_n 2, 1) := by decide +kernel
theorem dX12_door_11 : decode cX12_door 11 = .ok (.invokevirtual 227, 3) := by decide +kernel
theorem dX12_door_14 : decode cX12_door 14 = .ok (.goto 5, 3) := by decide +kernel
theorem dX12_door_17 : decode cX12_door 17 = .ok (.bipush (-101), 2) := by decide +kernel
theorem dX12_door_19 : decode cX12_door 19 = .ok (.ireturn, 1) := by decide +kernel
theorem dX12_tellDebt_0 : decode cX12_tellDebt 0 = .ok (.iload_n 2, 1) := by decide +kernel
theorem dX12_tellDebt_1 : decode cX12_tellDebt 1 = .ok (.tableswitch 80 0 5 #[39, 46, 53, 60, 67, 73], 39) := by decide +kernel
theorem dX12_tellDebt_40 : decode cX12_tellDebt 40 = .ok (.aload_n 0, 1) := by decide +kernel
theorem dX12_tellDebt_41 : decode cX12_tellDebt 41 = .ok (.getfield 34, 3) := by decide +kernel
theorem dX12_tellDebt_44 : decode cX12_tellDebt 44 = .ok (.iload_n 1, 1) := by decide +kernel
theorem dX12_tellDebt_45 : decode cX12_tellDebt 45 = .ok (.iaload, 1) := by decide +kernel
theorem dX12_tellDebt_46 : decode cX12_tellDebt 46 = .ok (.ireturn, 1) := by decide +kernel
theorem dX12_tellDebt_47 : decode cX12_tellDebt 47 = .ok (.aload_n 0, 1) := by decide +kernel
theorem dX12_tellDebt_48 : decode cX12_tellDebt 48 = .ok (.getfield 37, 3) := by decide +kernel
theorem dX12_tellDebt_51 : decode cX12_tellDebt 51 = .ok (.iload_n 1, 1) := by decide +kernel
theorem dX12_tellDebt_52 : decode cX12_tellDebt 52 = .ok (.iaload, 1) := by decide +kernel
theorem dX12_tellDebt_53 : decode cX12_tellDebt 53 = .ok (.ireturn, 1) := by decide +kernel
theorem dX12_tellDebt_54 : decode cX12_tellDebt 54 = .ok (.aload_n 0, 1) := by decide +kernel
theorem dX12_tellDebt_55 : decode cX12_tellDebt 55 = .ok (.getfield 40, 3) := by decide +kernel
theorem dX12_tellDebt_58 : decode cX12_tellDebt 58 = .ok (.iload_n 1, 1) := by decide +kernel
theorem dX12_tellDebt_59 : decode cX12_tellDebt 59 = .ok (.iaload, 1) := by decide +kernel
theorem dX12_tellDebt_60 : decode cX12_tellDebt 60 = .ok (.ireturn, 1) := by decide +kernel
theorem dX12_tellDebt_61 : decode cX12_tellDebt 61 = .ok (.aload_n 0, 1) := by decide +kernel
theorem dX12_tellDebt_62 : decode cX12_tellDebt 62 = .ok (.getfield 43, 3) := by decide +kernel
theorem dX12_tellDebt_65 : decode cX12_tellDebt 65 = .ok (.iload_n 1, 1) := by decide +kernel
theorem dX12_tellDebt_66 : decode cX12_tellDebt 66 = .ok (.iaload, 1) := by decide +kernel
theorem dX12_tellDebt_67 : decode cX12_tellDebt 67 = .ok (.ireturn, 1) := by decide +kernel
theorem dX12_tellDebt_68 : decode cX12_tellDebt 68 = .ok (.aload_n 0, 1) := by decide +kernel
theorem dX12_tellDebt_69 : decode cX12_tellDebt 69 = .ok (.iload_n 1, 1) := by decide +kernel
theorem dX12_tellDebt_70 : decode cX12_tellDebt 70 = .ok (.invokevirtual 184, 3) := by decide +kernel
theorem dX12_tellDebt_73 : decode cX12_tellDebt 73 = .ok (.ireturn, 1) := by decide +kernel
theorem dX12_tellDebt_74 : decode cX12_tellDebt 74 = .ok (.aload_n 0, 1) := by decide +kernel
theorem dX12_tellDebt_75 : decode cX12_tellDebt 75 = .ok (.getfield 46, 3) := by decide +kernel
theorem dX12_tellDebt_78 : decode cX12_tellDebt 78 = .ok (.iload_n 1, 1) := by decide +kernel
theorem dX12_tellDebt_79 : decode cX12_tellDebt 79 = .ok (.iaload, 1) := by decide +kernel
theorem dX12_tellDebt_80 : decode cX12_tellDebt 80 = .ok (.ireturn, 1) := by decide +kernel
theorem dX12_tellDebt_81 : decode cX12_tellDebt 81 = .ok (.bipush (-102), 2) := by decide +kernel
theorem dX12_tellDebt_83 : decode cX12_tellDebt 83 = .ok (.ireturn, 1) := by decide +kernel
theorem dX12_debt_0 : decode cX12_debt 0 = .ok (.aload_n 0, 1) := by decide +kernel
theorem dX12_debt_1 : decode cX12_debt 1 = .ok (.iload_n 1, 1) := by decide +kernel
theorem dX12_debt_2 : decode cX12_debt 2 = .ok (.invokevirtual 230, 3) := by decide +kernel
theorem dX12_debt_5 : decode cX12_debt 5 = .ok (.ifCond .eq 12, 3) := by decide +kernel
theorem dX12_debt_8 : decode cX12_debt 8 = .ok (.aload_n 0, 1) := by decide +kernel
theorem dX12_debt_9 : decode cX12_debt 9 = .ok (.iload_n 1, 1) := by decide +kernel
theorem dX12_debt_10 : decode cX12_debt 10 = .ok (.iload_n 2, 1) := by decide +kernel
theorem dX12_debt_11 : decode cX12_debt 11 = .ok (.invokevirtual 233, 3) := by decide +kernel
theorem dX12_debt_14 : decode cX12_debt 14 = .ok (.goto 5, 3) := by decide +kernel
theorem dX12_debt_17 : decode cX12_debt 17 = .ok (.bipush (-101), 2) := by decide +kernel
theorem dX12_debt_19 : decode cX12_debt 19 = .ok (.ireturn, 1) := by decide +kernel
theorem dX12_go_0 : decode cX12_go 0 = .ok (.aload_n 0, 1) := by decide +kernel
theorem dX12_go_1 : decode cX12_go 1 = .ok (.iload_n 1, 1) := by decide +kernel
theorem dX12_go_2 : decode cX12_go 2 = .ok (.invokevirtual 215, 3) := by decide +kernel
theorem dX12_go_5 : decode cX12_go 5 = .ok (.ifCond .eq 11, 3) := by decide +kernel
theorem dX12_go_8 : decode cX12_go 8 = .ok (.aload_n 0, 1) := by decide +kernel
theorem dX12_go_9 : decode cX12_go 9 = .ok (.iload_n 2, 1) := by decide +kernel
theorem dX12_go_10 : decode cX12_go 10 = .ok (.invokevirtual 224, 3) := by decide +kernel
theorem dX12_go_13 : decode cX12_go 13 = .ok (.ifCond .ne 6, 3) := by decide +kernel
theorem dX12_go_16 : decode cX12_go 16 = .ok (.bipush (-101), 2) := by decide +kernel
theorem dX12_go_18 : decode cX12_go 18 = .ok (.ireturn, 1) := by decide +kernel
theorem dX12_go_19 : decode cX12_go 19 = .ok (.aload_n 0, 1) := by decide +kernel
theorem dX12_go_20 : decode cX12_go 20 = .ok (.iload_n 1, 1) := by decide +kernel
theorem dX12_go_21 : decode cX12_go 21 = .ok (.iload_n 2, 1) := by decide +kernel
theorem dX12_go_22 : decode cX12_go 22 = .ok (.aload_n 0, 1) := by decide +kernel
theorem dX12_go_23 : decode cX12_go 23 = .ok (.getfield 28, 3) := by decide +kernel
theorem dX12_go_26 : decode cX12_go 26 = .ok (.iload_n 1, 1) := by decide +kernel
theorem dX12_go_27 : decode cX12_go 27 = .ok (.iaload, 1) := by decide +kernel
theorem dX12_go_28 : decode cX12_go 28 = .ok (.invokevirtual 187, 3) := by decide +kernel
theorem dX12_go_31 : decode cX12_go 31 = .ok (.istore_n 3, 1) := by decide +kernel
theorem dX12_go_32 : decode cX12_go 32 = .ok (.iload_n 3, 1) := by decide +kernel
theorem dX12_go_33 : decode cX12_go 33 = .ok (.iconst (-1), 1) := by decide +kernel
theorem dX12_go_34 : decode cX12_go 34 = .ok (.if_icmp .ne 6, 3) := by decide +kernel
theorem dX12_go_37 : decode cX12_go 37 = .ok (.bipush (-103), 2) := by decide +kernel
theorem dX12_go_39 : decode cX12_go 39 = .ok (.ireturn, 1) := by decide +kernel
theorem dX12_go_40 : decode cX12_go 40 = .ok (.aload_n 0, 1) := by decide +kernel
theorem dX12_go_41 : decode cX12_go 41 = .ok (.getfield 168, 3) := by decide +kernel
theorem dX12_go_44 : decode cX12_go 44 = .ok (.sipush 999, 3) := by decide +kernel
theorem dX12_go_47 : decode cX12_go 47 = .ok (.if_icmp .ne 6, 3) := by decide +kernel
theorem dX12_go_50 : decode cX12_go 50 = .ok (.bipush (-104), 2) := by decide +kernel
theorem dX12_go_52 : decode cX12_go 52 = .ok (.ireturn, 1) := by decide +kernel
theorem dX12_go_53 : decode cX12_go 53 = .ok (.aload_n 0, 1) := by decide +kernel
theorem dX12_go_54 : decode cX12_go 54 = .ok (.getfield 28, 3) := by decide +kernel
theorem dX12_go_57 : decode cX12_go 57 = .ok (.iload_n 1, 1) := by decide +kernel
theorem dX12_go_58 : decode cX12_go 58 = .ok (.iload_n 3, 1) := by decide +kernel
theorem dX12_go_59 : decode cX12_go 59 = .ok (.iastore, 1) := by decide +kernel
theorem dX12_go_60 : decode cX12_go 60 = .ok (.aload_n 0, 1) := by decide +kernel
theorem dX12_go_61 : decode cX12_go 61 = .ok (.dup, 1) := by decide +kernel
theorem dX12_go_62 : decode cX12_go 62 = .ok (.getfield 168, 3) := by decide +kernel
theorem dX12_go_65 : decode cX12_go 65 = .ok (.iconst 1, 1) := by decide +kernel
theorem dX12_go_66 : decode cX12_go 66 = .ok (.iadd, 1) := by decide +kernel
theorem dX12_go_67 : decode cX12_go 67 = .ok (.putfield 168, 3) := by decide +kernel
theorem dX12_go_70 : decode cX12_go 70 = .ok (.iload_n 3, 1) := by decide +kernel
theorem dX12_go_71 : decode cX12_go 71 = .ok (.ireturn, 1) := by decide +kernel
theorem dX12_give_0 : decode cX12_give 0 = .ok (.iload_n 1, 1) := by decide +kernel
theorem dX12_give_1 : decode cX12_give 1 = .ok (.i2l, 1) := by decide +kernel
theorem dX12_give_2 : decode cX12_give 2 = .ok (.lconst 0, 1) := by decide +kernel
theorem dX12_give_3 : decode cX12_give 3 = .ok (.lconst 1, 1) := by decide +kernel
theorem dX12_give_4 : decode cX12_give 4 = .ok (.invokestatic 103, 3) := by decide +kernel
theorem dX12_give_7 : decode cX12_give 7 = .ok (.ifCond .eq 11, 3) := by decide +kernel
theorem dX12_give_10 : decode cX12_give 10 = .ok (.aload_n 0, 1) := by decide +kernel
theorem dX12_give_11 : decode cX12_give 11 = .ok (.iload_n 2, 1) := by decide +kernel
theorem dX12_give_12 : decode cX12_give 12 = .ok (.invokevirtual 215, 3) := by decide +kernel
theorem dX12_give_15 : decode cX12_give 15 = .ok (.ifCond .ne 6, 3) := by decide +kernel
theorem dX12_give_18 : decode cX12_give 18 = .ok (.bipush (-101), 2) := by decide +kernel
theorem dX12_give_20 : decode cX12_give 20 = .ok (.ireturn, 1) := by decide +kernel
theorem dX12_give_21 : decode cX12_give 21 = .ok (.aload_n 0, 1) := by decide +kernel
theorem dX12_give_22 : decode cX12_give 22 = .ok (.getfield 31, 3) := by decide +kernel
theorem dX12_give_25 : decode cX12_give 25 = .ok (.iload_n 1, 1) := by decide +kernel
theorem dX12_give_26 : decode cX12_give 26 = .ok (.iaload, 1) := by decide +kernel
theorem dX12_give_27 : decode cX12_give 27 = .ok (.istore_n 3, 1) := by decide +kernel
theorem dX12_give_28 : decode cX12_give 28 = .ok (.iload_n 3, 1) := by decide +kernel
theorem dX12_give_29 : decode cX12_give 29 = .ok (.iload_n 2, 1) := by decide +kernel
theorem dX12_give_30 : decode cX12_give 30 = .ok (.if_icmp .eq 18, 3) := by decide +kernel
theorem dX12_give_33 : decode cX12_give 33 = .ok (.aload_n 0, 1) := by decide +kernel
theorem dX12_give_34 : decode cX12_give 34 = .ok (.getfield 28, 3) := by decide +kernel
theorem dX12_give_37 : decode cX12_give 37 = .ok (.iload_n 3, 1) := by decide +kernel
theorem dX12_give_38 : decode cX12_give 38 = .ok (.iaload, 1) := by decide +kernel
theorem dX12_give_39 : decode cX12_give 39 = .ok (.aload_n 0, 1) := by decide +kernel
theorem dX12_give_40 : decode cX12_give 40 = .ok (.getfield 28, 3) := by decide +kernel
theorem dX12_give_43 : decode cX12_give 43 = .ok (.iload_n 2, 1) := by decide +kernel
theorem dX12_give_44 : decode cX12_give 44 = .ok (.iaload, 1) := by decide +kernel
theorem dX12_give_45 : decode cX12_give 45 = .ok (.if_icmp .eq 6, 3) := by decide +kernel
theorem dX12_give_48 : decode cX12_give 48 = .ok (.bipush (-103), 2) := by decide +kernel
theorem dX12_give_50 : decode cX12_give 50 = .ok (.ireturn, 1) := by decide +kernel
theorem dX12_give_51 : decode cX12_give 51 = .ok (.aload_n 0, 1) := by decide +kernel
theorem dX12_give_52 : decode cX12_give 52 = .ok (.getfield 31, 3) := by decide +kernel
theorem dX12_give_55 : decode cX12_give 55 = .ok (.iload_n 1, 1) := by decide +kernel
theorem dX12_give_56 : decode cX12_give 56 = .ok (.iload_n 2, 1) := by decide +kernel
theorem dX12_give_57 : decode cX12_give 57 = .ok (.iastore, 1) := by decide +kernel
theorem dX12_give_58 : decode cX12_give 58 = .ok (.iload_n 3, 1) := by decide +kernel
theorem dX12_give_59 : decode cX12_give 59 = .ok (.ireturn, 1) := by decide +kernel
theorem dX12_pay_0 : decode cX12_pay 0 = .ok (.aload_n 0, 1) := by decide +kernel
theorem dX12_pay_1 : decode cX12_pay 1 = .ok (.iload_n 1, 1) := by decide +kernel
theorem dX12_pay_2 : decode cX12_pay 2 = .ok (.invokevirtual 230, 3) := by decide +kernel
theorem dX12_pay_5 : decode cX12_pay 5 = .ok (.ifCond .ne 6, 3) := by decide +kernel
theorem dX12_pay_8 : decode cX12_pay 8 = .ok (.bipush (-101), 2) := by decide +kernel
theorem dX12_pay_10 : decode cX12_pay 10 = .ok (.ireturn, 1) := by decide +kernel
theorem dX12_pay_11 : decode cX12_pay 11 = .ok (.aload_n 0, 1) := by decide +kernel
theorem dX12_pay_12 : decode cX12_pay 12 = .ok (.invokevirtual 191, 3) := by decide +kernel
theorem dX12_pay_15 : decode cX12_pay 15 = .ok (.aload_n 0, 1) := by decide +kernel
theorem dX12_pay_16 : decode cX12_pay 16 = .ok (.iload_n 1, 1) := by decide +kernel
theorem dX12_pay_17 : decode cX12_pay 17 = .ok (.invokevirtual 194, 3) := by decide +kernel
theorem dX12_pay_20 : decode cX12_pay 20 = .ok (.ifCond .ne 6, 3) := by decide +kernel
theorem dX12_pay_23 : decode cX12_pay 23 = .ok (.bipush (-103), 2) := by decide +kernel
theorem dX12_pay_25 : decode cX12_pay 25 = .ok (.ireturn, 1) := by decide +kernel
theorem dX12_pay_26 : decode cX12_pay 26 = .ok (.aload_n 0, 1) := by decide +kernel
theorem dX12_pay_27 : decode cX12_pay 27 = .ok (.iload_n 1, 1) := by decide +kernel
theorem dX12_pay_28 : decode cX12_pay 28 = .ok (.invokevirtual 236, 3) := by decide +kernel
theorem dX12_pay_31 : decode cX12_pay 31 = .ok (.aload_n 0, 1) := by decide +kernel
theorem dX12_pay_32 : decode cX12_pay 32 = .ok (.getfield 49, 3) := by decide +kernel
theorem dX12_pay_35 : decode cX12_pay 35 = .ok (.aload_n 0, 1) := by decide +kernel
theorem dX12_pay_36 : decode cX12_pay 36 = .ok (.getfield 25, 3) := by decide +kernel
theorem dX12_pay_39 : decode cX12_pay 39 = .ok (.invokestatic 177, 3) := by decide +kernel
theorem dX12_pay_42 : decode cX12_pay 42 = .ok (.aload_n 0, 1) := by decide +kernel
theorem dX12_pay_43 : decode cX12_pay 43 = .ok (.getfield 55, 3) := by decide +kernel
theorem dX12_pay_46 : decode cX12_pay 46 = .ok (.aload_n 0, 1) := by decide +kernel
theorem dX12_pay_47 : decode cX12_pay 47 = .ok (.getfield 46, 3) := by decide +kernel
theorem dX12_pay_50 : decode cX12_pay 50 = .ok (.invokestatic 177, 3) := by decide +kernel
theorem dX12_pay_53 : decode cX12_pay 53 = .ok (.aload_n 0, 1) := by decide +kernel
theorem dX12_pay_54 : decode cX12_pay 54 = .ok (.getfield 25, 3) := by decide +kernel
theorem dX12_pay_57 : decode cX12_pay 57 = .ok (.aload_n 0, 1) := by decide +kernel
theorem dX12_pay_58 : decode cX12_pay 58 = .ok (.getfield 34, 3) := by decide +kernel
theorem dX12_pay_61 : decode cX12_pay 61 = .ok (.iload_n 1, 1) := by decide +kernel
theorem dX12_pay_62 : decode cX12_pay 62 = .ok (.iaload, 1) := by decide +kernel
theorem dX12_pay_63 : decode cX12_pay 63 = .ok (.iaload, 1) := by decide +kernel
theorem dX12_pay_64 : decode cX12_pay 64 = .ok (.ireturn, 1) := by decide +kernel
theorem dX12_earn_0 : decode cX12_earn 0 = .ok (.aload_n 0, 1) := by decide +kernel
theorem dX12_earn_1 : decode cX12_earn 1 = .ok (.iload_n 1, 1) := by decide +kernel
theorem dX12_earn_2 : decode cX12_earn 2 = .ok (.invokevirtual 215, 3) := by decide +kernel
theorem dX12_earn_5 : decode cX12_earn 5 = .ok (.ifCond .ne 6, 3) := by decide +kernel
theorem dX12_earn_8 : decode cX12_earn 8 = .ok (.bipush (-101), 2) := by decide +kernel
theorem dX12_earn_10 : decode cX12_earn 10 = .ok (.ireturn, 1) := by decide +kernel
theorem dX12_earn_11 : decode cX12_earn 11 = .ok (.iload_n 2, 1) := by decide +kernel
theorem dX12_earn_12 : decode cX12_earn 12 = .ok (.i2l, 1) := by decide +kernel
theorem dX12_earn_13 : decode cX12_earn 13 = .ok (.lconst 1, 1) := by decide +kernel
theorem dX12_earn_14 : decode cX12_earn 14 = .ok (.ldc2_w 240, 3) := by decide +kernel
theorem dX12_earn_17 : decode cX12_earn 17 = .ok (.invokestatic 103, 3) := by decide +kernel
theorem dX12_earn_20 : decode cX12_earn 20 = .ok (.ifCond .ne 6, 3) := by decide +kernel
theorem dX12_earn_23 : decode cX12_earn 23 = .ok (.bipush (-102), 2) := by decide +kernel
theorem dX12_earn_25 : decode cX12_earn 25 = .ok (.ireturn, 1) := by decide +kernel
theorem dX12_earn_26 : decode cX12_earn 26 = .ok (.aload_n 0, 1) := by decide +kernel
theorem dX12_earn_27 : decode cX12_earn 27 = .ok (.getfield 25, 3) := by decide +kernel
theorem dX12_earn_30 : decode cX12_earn 30 = .ok (.iload_n 1, 1) := by decide +kernel
theorem dX12_earn_31 : decode cX12_earn 31 = .ok (.iaload, 1) := by decide +kernel
theorem dX12_earn_32 : decode cX12_earn 32 = .ok (.iload_n 2, 1) := by decide +kernel
theorem dX12_earn_33 : decode cX12_earn 33 = .ok (.iadd, 1) := by decide +kernel
theorem dX12_earn_34 : decode cX12_earn 34 = .ok (.bipush 99, 2) := by decide +kernel
theorem dX12_earn_36 : decode cX12_earn 36 = .ok (.if_icmp .le 6, 3) := by decide +kernel
theorem dX12_earn_39 : decode cX12_earn 39 = .ok (.bipush (-104), 2) := by decide +kernel
theorem dX12_earn_41 : decode cX12_earn 41 = .ok (.ireturn, 1) := by decide +kernel
theorem dX12_earn_42 : decode cX12_earn 42 = .ok (.aload_n 0, 1) := by decide +kernel
theorem dX12_earn_43 : decode cX12_earn 43 = .ok (.getfield 25, 3) := by decide +kernel
theorem dX12_earn_46 : decode cX12_earn 46 = .ok (.iload_n 1, 1) := by decide +kernel
theorem dX12_earn_47 : decode cX12_earn 47 = .ok (.dup2, 1) := by decide +kernel
theorem dX12_earn_48 : decode cX12_earn 48 = .ok (.iaload, 1) := by decide +kernel
theorem dX12_earn_49 : decode cX12_earn 49 = .ok (.iload_n 2, 1) := by decide +kernel
theorem dX12_earn_50 : decode cX12_earn 50 = .ok (.iadd, 1) := by decide +kernel
theorem dX12_earn_51 : decode cX12_earn 51 = .ok (.iastore, 1) := by decide +kernel
theorem dX12_earn_52 : decode cX12_earn 52 = .ok (.aload_n 0, 1) := by decide +kernel
theorem dX12_earn_53 : decode cX12_earn 53 = .ok (.getfield 25, 3) := by decide +kernel
theorem dX12_earn_56 : decode cX12_earn 56 = .ok (.iload_n 1, 1) := by decide +kernel
theorem dX12_earn_57 : decode cX12_earn 57 = .ok (.iaload, 1) := by decide +kernel
theorem dX12_earn_58 : decode cX12_earn 58 = .ok (.ireturn, 1) := by decide +kernel
theorem dX12_owe_0 : decode cX12_owe 0 = .ok (.aload_n 0, 1) := by decide +kernel
theorem dX12_owe_1 : decode cX12_owe 1 = .ok (.iload_n 1, 1) := by decide +kernel
theorem dX12_owe_2 : decode cX12_owe 2 = .ok (.invokevirtual 230, 3) := by decide +kernel
theorem dX12_owe_5 : decode cX12_owe 5 = .ok (.ifCond .ne 6, 3) := by decide +kernel
theorem dX12_owe_8 : decode cX12_owe 8 = .ok (.bipush (-101), 2) := by decide +kernel
theorem dX12_owe_10 : decode cX12_owe 10 = .ok (.ireturn, 1) := by decide +kernel
theorem dX12_owe_11 : decode cX12_owe 11 = .ok (.iload_n 2, 1) := by decide +kernel
theorem dX12_owe_12 : decode cX12_owe 12 = .ok (.i2l, 1) := by decide +kernel
theorem dX12_owe_13 : decode cX12_owe 13 = .ok (.lconst 1, 1) := by decide +kernel
theorem dX12_owe_14 : decode cX12_owe 14 = .ok (.ldc2_w 240, 3) := by decide +kernel
theorem dX12_owe_17 : decode cX12_owe 17 = .ok (.invokestatic 103, 3) := by decide +kernel
theorem dX12_owe_20 : decode cX12_owe 20 = .ok (.ifCond .ne 6, 3) := by decide +kernel
theorem dX12_owe_23 : decode cX12_owe 23 = .ok (.bipush (-102), 2) := by decide +kernel
theorem dX12_owe_25 : decode cX12_owe 25 = .ok (.ireturn, 1) := by decide +kernel
theorem dX12_owe_26 : decode cX12_owe 26 = .ok (.aload_n 0, 1) := by decide +kernel
theorem dX12_owe_27 : decode cX12_owe 27 = .ok (.getfield 43, 3) := by decide +kernel
theorem dX12_owe_30 : decode cX12_owe 30 = .ok (.iload_n 1, 1) := by decide +kernel
theorem dX12_owe_31 : decode cX12_owe 31 = .ok (.iaload, 1) := by decide +kernel
theorem dX12_owe_32 : decode cX12_owe 32 = .ok (.istore_n 3, 1) := by decide +kernel
theorem dX12_owe_33 : decode cX12_owe 33 = .ok (.aload_n 0, 1) := by decide +kernel
theorem dX12_owe_34 : decode cX12_owe 34 = .ok (.getfield 43, 3) := by decide +kernel
theorem dX12_owe_37 : decode cX12_owe 37 = .ok (.iload_n 1, 1) := by decide +kernel
theorem dX12_owe_38 : decode cX12_owe 38 = .ok (.iload_n 2, 1) := by decide +kernel
theorem dX12_owe_39 : decode cX12_owe 39 = .ok (.iastore, 1) := by decide +kernel
theorem dX12_owe_40 : decode cX12_owe 40 = .ok (.aload_n 0, 1) := by decide +kernel
theorem dX12_owe_41 : decode cX12_owe 41 = .ok (.getfield 46, 3) := by decide +kernel
theorem dX12_owe_44 : decode cX12_owe 44 = .ok (.iload_n 1, 1) := by decide +kernel
theorem dX12_owe_45 : decode cX12_owe 45 = .ok (.iconst 0, 1) := by decide +kernel
theorem dX12_owe_46 : decode cX12_owe 46 = .ok (.iastore, 1) := by decide +kernel
theorem dX12_owe_47 : decode cX12_owe 47 = .ok (.iload_n 3, 1) := by decide +kernel
theorem dX12_owe_48 : decode cX12_owe 48 = .ok (.ireturn, 1) := by decide +kernel
theorem dX12_layFar_0 : decode cX12_layFar 0 = .ok (.iconst 0, 1) := by decide +kernel
theorem dX12_layFar_1 : decode cX12_layFar 1 = .ok (.istore_n 3, 1) := by decide +kernel
theorem dX12_layFar_2 : decode cX12_layFar 2 = .ok (.iload_n 3, 1) := by decide +kernel
theorem dX12_layFar_3 : decode cX12_layFar 3 = .ok (.bipush 6, 2) := by decide +kernel
theorem dX12_layFar_5 : decode cX12_layFar 5 = .ok (.if_icmp .ge 26, 3) := by decide +kernel
theorem dX12_layFar_8 : decode cX12_layFar 8 = .ok (.aload_n 0, 1) := by decide +kernel
theorem dX12_layFar_9 : decode cX12_layFar 9 = .ok (.getfield 58, 3) := by decide +kernel
theorem dX12_layFar_12 : decode cX12_layFar 12 = .ok (.iload_n 3, 1) := by decide +kernel
theorem dX12_layFar_13 : decode cX12_layFar 13 = .ok (.iload_n 3, 1) := by decide +kernel
theorem dX12_layFar_14 : decode cX12_layFar 14 = .ok (.iload_n 2, 1) := by decide +kernel
theorem dX12_layFar_15 : decode cX12_layFar 15 = .ok (.if_icmp .ne 7, 3) := by decide +kernel
theorem dX12_layFar_18 : decode cX12_layFar 18 = .ok (.iconst 0, 1) := by decide +kernel
theorem dX12_layFar_19 : decode cX12_layFar 19 = .ok (.goto 5, 3) := by decide +kernel
theorem dX12_layFar_22 : decode cX12_layFar 22 = .ok (.bipush 99, 2) := by decide +kernel
theorem dX12_layFar_24 : decode cX12_layFar 24 = .ok (.iastore, 1) := by decide +kernel
theorem dX12_layFar_25 : decode cX12_layFar 25 = .ok (.iinc 3 1, 3) := by decide +kernel
theorem dX12_layFar_28 : decode cX12_layFar 28 = .ok (.goto (-26), 3) := by decide +kernel
theorem dX12_layFar_31 : decode cX12_layFar 31 = .ok (.iconst 0, 1) := by decide +kernel
theorem dX12_layFar_32 : decode cX12_layFar 32 = .ok (.istore_n 3, 1) := by decide +kernel
theorem dX12_layFar_33 : decode cX12_layFar 33 = .ok (.iload_n 3, 1) := by decide +kernel
theorem dX12_layFar_34 : decode cX12_layFar 34 = .ok (.aload_n 0, 1) := by decide +kernel
theorem dX12_layFar_35 : decode cX12_layFar 35 = .ok (.getfield 153, 3) := by decide +kernel
theorem dX12_layFar_38 : decode cX12_layFar 38 = .ok (.if_icmp .ge 107, 3) := by decide +kernel
end
section
theorem dX12_layFar_41 : decode cX12_layFar 41 = .ok (.iconst 0, 1) := by decide +kernel
theorem dX12_layFar_42 : decode cX12_layFar 42 = .ok (.istore 4, 2) := by decide +kernel
theorem dX12_layFar_44 : decode cX12_layFar 44 = .ok (.iload 4, 2) := by decide +kernel
theorem dX12_layFar_46 : decode cX12_layFar 46 = .ok (.aload_n 0, 1) := by decide +kernel
theorem dX12_layFar_47 : decode cX12_layFar 47 = .ok (.getfield 153, 3) := by decide +kernel
theorem dX12_layFar_50 : decode cX12_layFar 50 = .ok (.if_icmp .ge 89, 3) := by decide +kernel
theorem dX12_layFar_53 : decode cX12_layFar 53 = .ok (.iconst 0, 1) := by decide +kernel
theorem dX12_layFar_54 : decode cX12_layFar 54 = .ok (.istore 5, 2) := by decide +kernel
theorem dX12_layFar_56 : decode cX12_layFar 56 = .ok (.iload 5, 2) := by decide +kernel
theorem dX12_layFar_58 : decode cX12_layFar 58 = .ok (.aload_n 0, 1) := by decide +kernel
theorem dX12_layFar_59 : decode cX12_layFar 59 = .ok (.getfield 156, 3) := by decide +kernel
theorem dX12_layFar_62 : decode cX12_layFar 62 = .ok (.if_icmp .ge 71, 3) := by decide +kernel
theorem dX12_layFar_65 : decode cX12_layFar 65 = .ok (.aload_n 0, 1) := by decide +kernel
theorem dX12_layFar_66 : decode cX12_layFar 66 = .ok (.iload_n 1, 1) := by decide +kernel
theorem dX12_layFar_67 : decode cX12_layFar 67 = .ok (.iload 5, 2) := by decide +kernel
theorem dX12_layFar_69 : decode cX12_layFar 69 = .ok (.iload 4, 2) := by decide +kernel
theorem dX12_layFar_71 : decode cX12_layFar 71 = .ok (.invokevirtual 187, 3) := by decide +kernel
theorem dX12_layFar_74 : decode cX12_layFar 74 = .ok (.istore 6, 2) := by decide +kernel
theorem dX12_layFar_76 : decode cX12_layFar 76 = .ok (.aload_n 0, 1) := by decide +kernel
theorem dX12_layFar_77 : decode cX12_layFar 77 = .ok (.getfield 58, 3) := by decide +kernel
theorem dX12_layFar_80 : decode cX12_layFar 80 = .ok (.iload 4, 2) := by decide +kernel
theorem dX12_layFar_82 : decode cX12_layFar 82 = .ok (.iload 6, 2) := by decide +kernel
theorem dX12_layFar_84 : decode cX12_layFar 84 = .ok (.iconst (-1), 1) := by decide +kernel
theorem dX12_layFar_85 : decode cX12_layFar 85 = .ok (.if_icmp .eq 34, 3) := by decide +kernel
theorem dX12_layFar_88 : decode cX12_layFar 88 = .ok (.aload_n 0, 1) := by decide +kernel
theorem dX12_layFar_89 : decode cX12_layFar 89 = .ok (.getfield 58, 3) := by decide +kernel
theorem dX12_layFar_92 : decode cX12_layFar 92 = .ok (.iload 6, 2) := by decide +kernel
theorem dX12_layFar_94 : decode cX12_layFar 94 = .ok (.iaload, 1) := by decide +kernel
theorem dX12_layFar_95 : decode cX12_layFar 95 = .ok (.iconst 1, 1) := by decide +kernel
theorem dX12_layFar_96 : decode cX12_layFar 96 = .ok (.iadd, 1) := by decide +kernel
theorem dX12_layFar_97 : decode cX12_layFar 97 = .ok (.aload_n 0, 1) := by decide +kernel
theorem dX12_layFar_98 : decode cX12_layFar 98 = .ok (.getfield 58, 3) := by decide +kernel
theorem dX12_layFar_101 : decode cX12_layFar 101 = .ok (.iload 4, 2) := by decide +kernel
theorem dX12_layFar_103 : decode cX12_layFar 103 = .ok (.iaload, 1) := by decide +kernel
theorem dX12_layFar_104 : decode cX12_layFar 104 = .ok (.if_icmp .ge 15, 3) := by decide +kernel
theorem dX12_layFar_107 : decode cX12_layFar 107 = .ok (.aload_n 0, 1) := by decide +kernel
theorem dX12_layFar_108 : decode cX12_layFar 108 = .ok (.getfield 58, 3) := by decide +kernel
theorem dX12_layFar_111 : decode cX12_layFar 111 = .ok (.iload 6, 2) := by decide +kernel
theorem dX12_layFar_113 : decode cX12_layFar 113 = .ok (.iaload, 1) := by decide +kernel
theorem dX12_layFar_114 : decode cX12_layFar 114 = .ok (.iconst 1, 1) := by decide +kernel
theorem dX12_layFar_115 : decode cX12_layFar 115 = .ok (.iadd, 1) := by decide +kernel
theorem dX12_layFar_116 : decode cX12_layFar 116 = .ok (.goto 10, 3) := by decide +kernel
theorem dX12_layFar_119 : decode cX12_layFar 119 = .ok (.aload_n 0, 1) := by decide +kernel
theorem dX12_layFar_120 : decode cX12_layFar 120 = .ok (.getfield 58, 3) := by decide +kernel
theorem dX12_layFar_123 : decode cX12_layFar 123 = .ok (.iload 4, 2) := by decide +kernel
theorem dX12_layFar_125 : decode cX12_layFar 125 = .ok (.iaload, 1) := by decide +kernel
theorem dX12_layFar_126 : decode cX12_layFar 126 = .ok (.iastore, 1) := by decide +kernel
theorem dX12_layFar_127 : decode cX12_layFar 127 = .ok (.iinc 5 1, 3) := by decide +kernel
theorem dX12_layFar_130 : decode cX12_layFar 130 = .ok (.goto (-74), 3) := by decide +kernel
theorem dX12_layFar_133 : decode cX12_layFar 133 = .ok (.iinc 4 1, 3) := by decide +kernel
theorem dX12_layFar_136 : decode cX12_layFar 136 = .ok (.goto (-92), 3) := by decide +kernel
theorem dX12_layFar_139 : decode cX12_layFar 139 = .ok (.iinc 3 1, 3) := by decide +kernel
theorem dX12_layFar_142 : decode cX12_layFar 142 = .ok (.goto (-109), 3) := by decide +kernel
theorem dX12_layFar_145 : decode cX12_layFar 145 = .ok (.return_, 1) := by decide +kernel
theorem dX12_wayOf_0 : decode cX12_wayOf 0 = .ok (.aload_n 0, 1) := by decide +kernel
theorem dX12_wayOf_1 : decode cX12_wayOf 1 = .ok (.iload_n 1, 1) := by decide +kernel
theorem dX12_wayOf_2 : decode cX12_wayOf 2 = .ok (.iload_n 2, 1) := by decide +kernel
theorem dX12_wayOf_3 : decode cX12_wayOf 3 = .ok (.invokevirtual 242, 3) := by decide +kernel
theorem dX12_wayOf_6 : decode cX12_wayOf 6 = .ok (.aload_n 0, 1) := by decide +kernel
theorem dX12_wayOf_7 : decode cX12_wayOf 7 = .ok (.getfield 28, 3) := by decide +kernel
theorem dX12_wayOf_10 : decode cX12_wayOf 10 = .ok (.iload_n 1, 1) := by decide +kernel
theorem dX12_wayOf_11 : decode cX12_wayOf 11 = .ok (.iaload, 1) := by decide +kernel
theorem dX12_wayOf_12 : decode cX12_wayOf 12 = .ok (.istore 4, 2) := by decide +kernel
theorem dX12_wayOf_14 : decode cX12_wayOf 14 = .ok (.aload_n 0, 1) := by decide +kernel
theorem dX12_wayOf_15 : decode cX12_wayOf 15 = .ok (.getfield 58, 3) := by decide +kernel
theorem dX12_wayOf_18 : decode cX12_wayOf 18 = .ok (.iload 4, 2) := by decide +kernel
theorem dX12_wayOf_20 : decode cX12_wayOf 20 = .ok (.iaload, 1) := by decide +kernel
theorem dX12_wayOf_21 : decode cX12_wayOf 21 = .ok (.bipush 99, 2) := by decide +kernel
theorem dX12_wayOf_23 : decode cX12_wayOf 23 = .ok (.if_icmp .ne 5, 3) := by decide +kernel
theorem dX12_wayOf_26 : decode cX12_wayOf 26 = .ok (.iconst (-1), 1) := by decide +kernel
theorem dX12_wayOf_27 : decode cX12_wayOf 27 = .ok (.ireturn, 1) := by decide +kernel
theorem dX12_wayOf_28 : decode cX12_wayOf 28 = .ok (.iload_n 3, 1) := by decide +kernel
theorem dX12_wayOf_29 : decode cX12_wayOf 29 = .ok (.ifCond .ne 11, 3) := by decide +kernel
theorem dX12_wayOf_32 : decode cX12_wayOf 32 = .ok (.aload_n 0, 1) := by decide +kernel
theorem dX12_wayOf_33 : decode cX12_wayOf 33 = .ok (.getfield 58, 3) := by decide +kernel
theorem dX12_wayOf_36 : decode cX12_wayOf 36 = .ok (.iload 4, 2) := by decide +kernel
theorem dX12_wayOf_38 : decode cX12_wayOf 38 = .ok (.iaload, 1) := by decide +kernel
theorem dX12_wayOf_39 : decode cX12_wayOf 39 = .ok (.ireturn, 1) := by decide +kernel
theorem dX12_wayOf_40 : decode cX12_wayOf 40 = .ok (.iconst (-1), 1) := by decide +kernel
theorem dX12_wayOf_41 : decode cX12_wayOf 41 = .ok (.istore 5, 2) := by decide +kernel
theorem dX12_wayOf_43 : decode cX12_wayOf 43 = .ok (.bipush 10, 2) := by decide +kernel
theorem dX12_wayOf_45 : decode cX12_wayOf 45 = .ok (.istore 6, 2) := by decide +kernel
theorem dX12_wayOf_47 : decode cX12_wayOf 47 = .ok (.iload 6, 2) := by decide +kernel
theorem dX12_wayOf_49 : decode cX12_wayOf 49 = .ok (.iload_n 3, 1) := by decide +kernel
theorem dX12_wayOf_50 : decode cX12_wayOf 50 = .ok (.if_icmp .gt 83, 3) := by decide +kernel
theorem dX12_wayOf_53 : decode cX12_wayOf 53 = .ok (.iconst (-1), 1) := by decide +kernel
theorem dX12_wayOf_54 : decode cX12_wayOf 54 = .ok (.istore 5, 2) := by decide +kernel
theorem dX12_wayOf_56 : decode cX12_wayOf 56 = .ok (.iload 4, 2) := by decide +kernel
theorem dX12_wayOf_58 : decode cX12_wayOf 58 = .ok (.istore 7, 2) := by decide +kernel
theorem dX12_wayOf_60 : decode cX12_wayOf 60 = .ok (.aload_n 0, 1) := by decide +kernel
theorem dX12_wayOf_61 : decode cX12_wayOf 61 = .ok (.getfield 156, 3) := by decide +kernel
theorem dX12_wayOf_64 : decode cX12_wayOf 64 = .ok (.iconst 1, 1) := by decide +kernel
theorem dX12_wayOf_65 : decode cX12_wayOf 65 = .ok (.isub, 1) := by decide +kernel
theorem dX12_wayOf_66 : decode cX12_wayOf 66 = .ok (.istore 8, 2) := by decide +kernel
theorem dX12_wayOf_68 : decode cX12_wayOf 68 = .ok (.iload 8, 2) := by decide +kernel
theorem dX12_wayOf_70 : decode cX12_wayOf 70 = .ok (.ifCond .lt 53, 3) := by decide +kernel
theorem dX12_wayOf_73 : decode cX12_wayOf 73 = .ok (.aload_n 0, 1) := by decide +kernel
theorem dX12_wayOf_74 : decode cX12_wayOf 74 = .ok (.iload_n 1, 1) := by decide +kernel
theorem dX12_wayOf_75 : decode cX12_wayOf 75 = .ok (.iload 8, 2) := by decide +kernel
theorem dX12_wayOf_77 : decode cX12_wayOf 77 = .ok (.iload 4, 2) := by decide +kernel
theorem dX12_wayOf_79 : decode cX12_wayOf 79 = .ok (.invokevirtual 187, 3) := by decide +kernel
theorem dX12_wayOf_82 : decode cX12_wayOf 82 = .ok (.istore 9, 2) := by decide +kernel
theorem dX12_wayOf_84 : decode cX12_wayOf 84 = .ok (.iload 9, 2) := by decide +kernel
theorem dX12_wayOf_86 : decode cX12_wayOf 86 = .ok (.iconst (-1), 1) := by decide +kernel
theorem dX12_wayOf_87 : decode cX12_wayOf 87 = .ok (.if_icmp .eq 30, 3) := by decide +kernel
theorem dX12_wayOf_90 : decode cX12_wayOf 90 = .ok (.aload_n 0, 1) := by decide +kernel
theorem dX12_wayOf_91 : decode cX12_wayOf 91 = .ok (.getfield 58, 3) := by decide +kernel
theorem dX12_wayOf_94 : decode cX12_wayOf 94 = .ok (.iload 9, 2) := by decide +kernel
theorem dX12_wayOf_96 : decode cX12_wayOf 96 = .ok (.iaload, 1) := by decide +kernel
theorem dX12_wayOf_97 : decode cX12_wayOf 97 = .ok (.aload_n 0, 1) := by decide +kernel
theorem dX12_wayOf_98 : decode cX12_wayOf 98 = .ok (.getfield 58, 3) := by decide +kernel
theorem dX12_wayOf_101 : decode cX12_wayOf 101 = .ok (.iload 4, 2) := by decide +kernel
theorem dX12_wayOf_103 : decode cX12_wayOf 103 = .ok (.iaload, 1) := by decide +kernel
theorem dX12_wayOf_104 : decode cX12_wayOf 104 = .ok (.iconst 1, 1) := by decide +kernel
theorem dX12_wayOf_105 : decode cX12_wayOf 105 = .ok (.isub, 1) := by decide +kernel
theorem dX12_wayOf_106 : decode cX12_wayOf 106 = .ok (.if_icmp .ne 11, 3) := by decide +kernel
theorem dX12_wayOf_109 : decode cX12_wayOf 109 = .ok (.iload 8, 2) := by decide +kernel
theorem dX12_wayOf_111 : decode cX12_wayOf 111 = .ok (.istore 5, 2) := by decide +kernel
theorem dX12_wayOf_113 : decode cX12_wayOf 113 = .ok (.iload 9, 2) := by decide +kernel
theorem dX12_wayOf_115 : decode cX12_wayOf 115 = .ok (.istore 7, 2) := by decide +kernel
theorem dX12_wayOf_117 : decode cX12_wayOf 117 = .ok (.iinc 8 (-1), 3) := by decide +kernel
theorem dX12_wayOf_120 : decode cX12_wayOf 120 = .ok (.goto (-52), 3) := by decide +kernel
theorem dX12_wayOf_123 : decode cX12_wayOf 123 = .ok (.iload 7, 2) := by decide +kernel
theorem dX12_wayOf_125 : decode cX12_wayOf 125 = .ok (.istore 4, 2) := by decide +kernel
theorem dX12_wayOf_127 : decode cX12_wayOf 127 = .ok (.iinc 6 1, 3) := by decide +kernel
theorem dX12_wayOf_130 : decode cX12_wayOf 130 = .ok (.goto (-83), 3) := by decide +kernel
theorem dX12_wayOf_133 : decode cX12_wayOf 133 = .ok (.iload 5, 2) := by decide +kernel
theorem dX12_wayOf_135 : decode cX12_wayOf 135 = .ok (.ireturn, 1) := by decide +kernel
theorem dX12_way_0 : decode cX12_way 0 = .ok (.aload_n 0, 1) := by decide +kernel
theorem dX12_way_1 : decode cX12_way 1 = .ok (.iload_n 1, 1) := by decide +kernel
theorem dX12_way_2 : decode cX12_way 2 = .ok (.invokevirtual 215, 3) := by decide +kernel
theorem dX12_way_5 : decode cX12_way 5 = .ok (.ifCond .eq 11, 3) := by decide +kernel
theorem dX12_way_8 : decode cX12_way 8 = .ok (.aload_n 0, 1) := by decide +kernel
theorem dX12_way_9 : decode cX12_way 9 = .ok (.iload_n 2, 1) := by decide +kernel
theorem dX12_way_10 : decode cX12_way 10 = .ok (.invokevirtual 246, 3) := by decide +kernel
theorem dX12_way_13 : decode cX12_way 13 = .ok (.ifCond .ne 6, 3) := by decide +kernel
theorem dX12_way_16 : decode cX12_way 16 = .ok (.bipush (-101), 2) := by decide +kernel
theorem dX12_way_18 : decode cX12_way 18 = .ok (.ireturn, 1) := by decide +kernel
theorem dX12_way_19 : decode cX12_way 19 = .ok (.iload_n 3, 1) := by decide +kernel
theorem dX12_way_20 : decode cX12_way 20 = .ok (.ifCond .eq 17, 3) := by decide +kernel
theorem dX12_way_23 : decode cX12_way 23 = .ok (.iload_n 3, 1) := by decide +kernel
theorem dX12_way_24 : decode cX12_way 24 = .ok (.i2l, 1) := by decide +kernel
theorem dX12_way_25 : decode cX12_way 25 = .ok (.ldc2_w 249, 3) := by decide +kernel
theorem dX12_way_28 : decode cX12_way 28 = .ok (.ldc2_w 251, 3) := by decide +kernel
theorem dX12_way_31 : decode cX12_way 31 = .ok (.invokestatic 103, 3) := by decide +kernel
theorem dX12_way_34 : decode cX12_way 34 = .ok (.ifCond .eq 13, 3) := by decide +kernel
theorem dX12_way_37 : decode cX12_way 37 = .ok (.aload_n 0, 1) := by decide +kernel
theorem dX12_way_38 : decode cX12_way 38 = .ok (.iload_n 1, 1) := by decide +kernel
theorem dX12_way_39 : decode cX12_way 39 = .ok (.iload_n 2, 1) := by decide +kernel
theorem dX12_way_40 : decode cX12_way 40 = .ok (.iload_n 3, 1) := by decide +kernel
theorem dX12_way_41 : decode cX12_way 41 = .ok (.invokevirtual 253, 3) := by decide +kernel
theorem dX12_way_44 : decode cX12_way 44 = .ok (.goto 5, 3) := by decide +kernel
theorem dX12_way_47 : decode cX12_way 47 = .ok (.bipush (-102), 2) := by decide +kernel
theorem dX12_way_49 : decode cX12_way 49 = .ok (.ireturn, 1) := by decide +kernel
theorem dX12_payHere_0 : decode cX12_payHere 0 = .ok (.iconst 0, 1) := by decide +kernel
theorem dX12_payHere_1 : decode cX12_payHere 1 = .ok (.istore_n 2, 1) := by decide +kernel
theorem dX12_payHere_2 : decode cX12_payHere 2 = .ok (.iconst 0, 1) := by decide +kernel
theorem dX12_payHere_3 : decode cX12_payHere 3 = .ok (.istore_n 3, 1) := by decide +kernel
theorem dX12_payHere_4 : decode cX12_payHere 4 = .ok (.iload_n 3, 1) := by decide +kernel
theorem dX12_payHere_5 : decode cX12_payHere 5 = .ok (.aload_n 0, 1) := by decide +kernel
theorem dX12_payHere_6 : decode cX12_payHere 6 = .ok (.getfield 162, 3) := by decide +kernel
theorem dX12_payHere_9 : decode cX12_payHere 9 = .ok (.if_icmp .ge 56, 3) := by decide +kernel
theorem dX12_payHere_12 : decode cX12_payHere 12 = .ok (.aload_n 0, 1) := by decide +kernel
theorem dX12_payHere_13 : decode cX12_payHere 13 = .ok (.getfield 34, 3) := by decide +kernel
theorem dX12_payHere_16 : decode cX12_payHere 16 = .ok (.iload_n 3, 1) := by decide +kernel
theorem dX12_payHere_17 : decode cX12_payHere 17 = .ok (.iaload, 1) := by decide +kernel
theorem dX12_payHere_18 : decode cX12_payHere 18 = .ok (.iload_n 1, 1) := by decide +kernel
theorem dX12_payHere_19 : decode cX12_payHere 19 = .ok (.if_icmp .ne 40, 3) := by decide +kernel
theorem dX12_payHere_22 : decode cX12_payHere 22 = .ok (.aload_n 0, 1) := by decide +kernel
theorem dX12_payHere_23 : decode cX12_payHere 23 = .ok (.getfield 40, 3) := by decide +kernel
theorem dX12_payHere_26 : decode cX12_payHere 26 = .ok (.iload_n 3, 1) := by decide +kernel
theorem dX12_payHere_27 : decode cX12_payHere 27 = .ok (.iaload, 1) := by decide +kernel
theorem dX12_payHere_28 : decode cX12_payHere 28 = .ok (.aload_n 0, 1) := by decide +kernel
theorem dX12_payHere_29 : decode cX12_payHere 29 = .ok (.getfield 52, 3) := by decide +kernel
theorem dX12_payHere_32 : decode cX12_payHere 32 = .ok (.iload_n 1, 1) := by decide +kernel
theorem dX12_payHere_33 : decode cX12_payHere 33 = .ok (.iaload, 1) := by decide +kernel
theorem dX12_payHere_34 : decode cX12_payHere 34 = .ok (.if_icmp .ne 25, 3) := by decide +kernel
theorem dX12_payHere_37 : decode cX12_payHere 37 = .ok (.aload_n 0, 1) := by decide +kernel
theorem dX12_payHere_38 : decode cX12_payHere 38 = .ok (.iload_n 3, 1) := by decide +kernel
theorem dX12_payHere_39 : decode cX12_payHere 39 = .ok (.invokevirtual 194, 3) := by decide +kernel
theorem dX12_payHere_42 : decode cX12_payHere 42 = .ok (.ifCond .eq 17, 3) := by decide +kernel
theorem dX12_payHere_45 : decode cX12_payHere 45 = .ok (.aload_n 0, 1) := by decide +kernel
theorem dX12_payHere_46 : decode cX12_payHere 46 = .ok (.iload_n 3, 1) := by decide +kernel
theorem dX12_payHere_47 : decode cX12_payHere 47 = .ok (.invokevirtual 236, 3) := by decide +kernel
theorem dX12_payHere_50 : decode cX12_payHere 50 = .ok (.iload_n 2, 1) := by decide +kernel
theorem dX12_payHere_51 : decode cX12_payHere 51 = .ok (.aload_n 0, 1) := by decide +kernel
theorem dX12_payHere_52 : decode cX12_payHere 52 = .ok (.getfield 43, 3) := by decide +kernel
theorem dX12_payHere_55 : decode cX12_payHere 55 = .ok (.iload_n 3, 1) := by decide +kernel
theorem dX12_payHere_56 : decode cX12_payHere 56 = .ok (.iaload, 1) := by decide +kernel
theorem dX12_payHere_57 : decode cX12_payHere 57 = .ok (.iadd, 1) := by decide +kernel
theorem dX12_payHere_58 : decode cX12_payHere 58 = .ok (.istore_n 2, 1) := by decide +kernel
theorem dX12_payHere_59 : decode cX12_payHere 59 = .ok (.iinc 3 1, 3) := by decide +kernel
theorem dX12_payHere_62 : decode cX12_payHere 62 = .ok (.goto (-58), 3) := by decide +kernel
theorem dX12_payHere_65 : decode cX12_payHere 65 = .ok (.iload_n 2, 1) := by decide +kernel
theorem dX12_payHere_66 : decode cX12_payHere 66 = .ok (.ireturn, 1) := by decide +kernel
theorem dX12_paysBy_0 : decode cX12_paysBy 0 = .ok (.aload_n 0, 1) := by decide +kernel
theorem dX12_paysBy_1 : decode cX12_paysBy 1 = .ok (.invokevirtual 191, 3) := by decide +kernel
theorem dX12_paysBy_4 : decode cX12_paysBy 4 = .ok (.iconst 1, 1) := by decide +kernel
theorem dX12_paysBy_5 : decode cX12_paysBy 5 = .ok (.istore 4, 2) := by decide +kernel
theorem dX12_paysBy_7 : decode cX12_paysBy 7 = .ok (.iconst 1, 1) := by decide +kernel
theorem dX12_paysBy_8 : decode cX12_paysBy 8 = .ok (.istore 5, 2) := by decide +kernel
theorem dX12_paysBy_10 : decode cX12_paysBy 10 = .ok (.iload 5, 2) := by decide +kernel
theorem dX12_paysBy_12 : decode cX12_paysBy 12 = .ok (.iload_n 3, 1) := by decide +kernel
theorem dX12_paysBy_13 : decode cX12_paysBy 13 = .ok (.if_icmp .ge 16, 3) := by decide +kernel
theorem dX12_paysBy_16 : decode cX12_paysBy 16 = .ok (.iload 4, 2) := by decide +kernel
theorem dX12_paysBy_18 : decode cX12_paysBy 18 = .ok (.bipush 6, 2) := by decide +kernel
theorem dX12_paysBy_20 : decode cX12_paysBy 20 = .ok (.imul, 1) := by decide +kernel
theorem dX12_paysBy_21 : decode cX12_paysBy 21 = .ok (.istore 4, 2) := by decide +kernel
theorem dX12_paysBy_23 : decode cX12_paysBy 23 = .ok (.iinc 5 1, 3) := by decide +kernel
theorem dX12_paysBy_26 : decode cX12_paysBy 26 = .ok (.goto (-16), 3) := by decide +kernel
theorem dX12_paysBy_29 : decode cX12_paysBy 29 = .ok (.aload_n 0, 1) := by decide +kernel
theorem dX12_paysBy_30 : decode cX12_paysBy 30 = .ok (.iload_n 1, 1) := by decide +kernel
theorem dX12_paysBy_31 : decode cX12_paysBy 31 = .ok (.invokevirtual 256, 3) := by decide +kernel
theorem dX12_paysBy_34 : decode cX12_paysBy 34 = .ok (.istore 5, 2) := by decide +kernel
theorem dX12_paysBy_36 : decode cX12_paysBy 36 = .ok (.iconst 0, 1) := by decide +kernel
theorem dX12_paysBy_37 : decode cX12_paysBy 37 = .ok (.istore 6, 2) := by decide +kernel
theorem dX12_paysBy_39 : decode cX12_paysBy 39 = .ok (.iload 6, 2) := by decide +kernel
theorem dX12_paysBy_41 : decode cX12_paysBy 41 = .ok (.iload_n 3, 1) := by decide +kernel
theorem dX12_paysBy_42 : decode cX12_paysBy 42 = .ok (.if_icmp .ge 89, 3) := by decide +kernel
theorem dX12_paysBy_45 : decode cX12_paysBy 45 = .ok (.iload_n 2, 1) := by decide +kernel
theorem dX12_paysBy_46 : decode cX12_paysBy 46 = .ok (.iload 4, 2) := by decide +kernel
theorem dX12_paysBy_48 : decode cX12_paysBy 48 = .ok (.idiv, 1) := by decide +kernel
theorem dX12_paysBy_49 : decode cX12_paysBy 49 = .ok (.bipush 6, 2) := by decide +kernel
theorem dX12_paysBy_51 : decode cX12_paysBy 51 = .ok (.irem, 1) := by decide +kernel
theorem dX12_paysBy_52 : decode cX12_paysBy 52 = .ok (.istore 7, 2) := by decide +kernel
theorem dX12_paysBy_54 : decode cX12_paysBy 54 = .ok (.iload 4, 2) := by decide +kernel
theorem dX12_paysBy_56 : decode cX12_paysBy 56 = .ok (.iconst 1, 1) := by decide +kernel
theorem dX12_paysBy_57 : decode cX12_paysBy 57 = .ok (.if_icmp .le 11, 3) := by decide +kernel
theorem dX12_paysBy_60 : decode cX12_paysBy 60 = .ok (.iload 4, 2) := by decide +kernel
theorem dX12_paysBy_62 : decode cX12_paysBy 62 = .ok (.bipush 6, 2) := by decide +kernel
theorem dX12_paysBy_64 : decode cX12_paysBy 64 = .ok (.idiv, 1) := by decide +kernel
theorem dX12_paysBy_65 : decode cX12_paysBy 65 = .ok (.goto 4, 3) := by decide +kernel
theorem dX12_paysBy_68 : decode cX12_paysBy 68 = .ok (.iconst 1, 1) := by decide +kernel
theorem dX12_paysBy_69 : decode cX12_paysBy 69 = .ok (.istore 4, 2) := by decide +kernel
theorem dX12_paysBy_71 : decode cX12_paysBy 71 = .ok (.iload 7, 2) := by decide +kernel
theorem dX12_paysBy_73 : decode cX12_paysBy 73 = .ok (.aload_n 0, 1) := by decide +kernel
theorem dX12_paysBy_74 : decode cX12_paysBy 74 = .ok (.getfield 156, 3) := by decide +kernel
theorem dX12_paysBy_77 : decode cX12_paysBy 77 = .ok (.if_icmp .ge 19, 3) := by decide +kernel
theorem dX12_paysBy_80 : decode cX12_paysBy 80 = .ok (.aload_n 0, 1) := by decide +kernel
theorem dX12_paysBy_81 : decode cX12_paysBy 81 = .ok (.iload_n 1, 1) := by decide +kernel
theorem dX12_paysBy_82 : decode cX12_paysBy 82 = .ok (.iload 7, 2) := by decide +kernel
theorem dX12_paysBy_84 : decode cX12_paysBy 84 = .ok (.aload_n 0, 1) := by decide +kernel
theorem dX12_paysBy_85 : decode cX12_paysBy 85 = .ok (.getfield 52, 3) := by decide +kernel
theorem dX12_paysBy_88 : decode cX12_paysBy 88 = .ok (.iload_n 1, 1) := by decide +kernel
theorem dX12_paysBy_89 : decode cX12_paysBy 89 = .ok (.iaload, 1) := by decide +kernel
theorem dX12_paysBy_90 : decode cX12_paysBy 90 = .ok (.invokevirtual 187, 3) := by decide +kernel
theorem dX12_paysBy_93 : decode cX12_paysBy 93 = .ok (.goto 4, 3) := by decide +kernel
theorem dX12_paysBy_96 : decode cX12_paysBy 96 = .ok (.iconst (-1), 1) := by decide +kernel
theorem dX12_paysBy_97 : decode cX12_paysBy 97 = .ok (.istore 8, 2) := by decide +kernel
theorem dX12_paysBy_99 : decode cX12_paysBy 99 = .ok (.iload 8, 2) := by decide +kernel
theorem dX12_paysBy_101 : decode cX12_paysBy 101 = .ok (.iconst (-1), 1) := by decide +kernel
theorem dX12_paysBy_102 : decode cX12_paysBy 102 = .ok (.if_icmp .ne 5, 3) := by decide +kernel
theorem dX12_paysBy_105 : decode cX12_paysBy 105 = .ok (.iconst (-1), 1) := by decide +kernel
theorem dX12_paysBy_106 : decode cX12_paysBy 106 = .ok (.ireturn, 1) := by decide +kernel
theorem dX12_paysBy_107 : decode cX12_paysBy 107 = .ok (.aload_n 0, 1) := by decide +kernel
theorem dX12_paysBy_108 : decode cX12_paysBy 108 = .ok (.getfield 52, 3) := by decide +kernel
theorem dX12_paysBy_111 : decode cX12_paysBy 111 = .ok (.iload_n 1, 1) := by decide +kernel
theorem dX12_paysBy_112 : decode cX12_paysBy 112 = .ok (.iload 8, 2) := by decide +kernel
theorem dX12_paysBy_114 : decode cX12_paysBy 114 = .ok (.iastore, 1) := by decide +kernel
theorem dX12_paysBy_115 : decode cX12_paysBy 115 = .ok (.iload 5, 2) := by decide +kernel
theorem dX12_paysBy_117 : decode cX12_paysBy 117 = .ok (.aload_n 0, 1) := by decide +kernel
theorem dX12_paysBy_118 : decode cX12_paysBy 118 = .ok (.iload_n 1, 1) := by decide +kernel
theorem dX12_paysBy_119 : decode cX12_paysBy 119 = .ok (.invokevirtual 256, 3) := by decide +kernel
theorem dX12_paysBy_122 : decode cX12_paysBy 122 = .ok (.iadd, 1) := by decide +kernel
theorem dX12_paysBy_123 : decode cX12_paysBy 123 = .ok (.istore 5, 2) := by decide +kernel
theorem dX12_paysBy_125 : decode cX12_paysBy 125 = .ok (.iinc 6 1, 3) := by decide +kernel
theorem dX12_paysBy_128 : decode cX12_paysBy 128 = .ok (.goto (-89), 3) := by decide +kernel
theorem dX12_paysBy_131 : decode cX12_paysBy 131 = .ok (.iload 5, 2) := by decide +kernel
theorem dX12_paysBy_133 : decode cX12_paysBy 133 = .ok (.ireturn, 1) := by decide +kernel
theorem dX12_nightOf_0 : decode cX12_nightOf 0 = .ok (.iconst 1, 1) := by decide +kernel
theorem dX12_nightOf_1 : decode cX12_nightOf 1 = .ok (.istore 4, 2) := by decide +kernel
theorem dX12_nightOf_3 : decode cX12_nightOf 3 = .ok (.iconst 0, 1) := by decide +kernel
theorem dX12_nightOf_4 : decode cX12_nightOf 4 = .ok (.istore 5, 2) := by decide +kernel
theorem dX12_nightOf_6 : decode cX12_nightOf 6 = .ok (.iload 5, 2) := by decide +kernel
theorem dX12_nightOf_8 : decode cX12_nightOf 8 = .ok (.iload_n 2, 1) := by decide +kernel
theorem dX12_nightOf_9 : decode cX12_nightOf 9 = .ok (.if_icmp .ge 16, 3) := by decide +kernel
theorem dX12_nightOf_12 : decode cX12_nightOf 12 = .ok (.iload 4, 2) := by decide +kernel
theorem dX12_nightOf_14 : decode cX12_nightOf 14 = .ok (.bipush 6, 2) := by decide +kernel
theorem dX12_nightOf_16 : decode cX12_nightOf 16 = .ok (.imul, 1) := by decide +kernel
theorem dX12_nightOf_17 : decode cX12_nightOf 17 = .ok (.istore 4, 2) := by decide +kernel
theorem dX12_nightOf_19 : decode cX12_nightOf 19 = .ok (.iinc 5 1, 3) := by decide +kernel
theorem dX12_nightOf_22 : decode cX12_nightOf 22 = .ok (.goto (-16), 3) := by decide +kernel
theorem dX12_nightOf_25 : decode cX12_nightOf 25 = .ok (.iconst (-1), 1) := by decide +kernel
theorem dX12_nightOf_26 : decode cX12_nightOf 26 = .ok (.istore 5, 2) := by decide +kernel
theorem dX12_nightOf_28 : decode cX12_nightOf 28 = .ok (.iconst (-1), 1) := by decide +kernel
theorem dX12_nightOf_29 : decode cX12_nightOf 29 = .ok (.istore 6, 2) := by decide +kernel
theorem dX12_nightOf_31 : decode cX12_nightOf 31 = .ok (.iconst 0, 1) := by decide +kernel
theorem dX12_nightOf_32 : decode cX12_nightOf 32 = .ok (.istore 7, 2) := by decide +kernel
theorem dX12_nightOf_34 : decode cX12_nightOf 34 = .ok (.iload 7, 2) := by decide +kernel
theorem dX12_nightOf_36 : decode cX12_nightOf 36 = .ok (.iload 4, 2) := by decide +kernel
theorem dX12_nightOf_38 : decode cX12_nightOf 38 = .ok (.if_icmp .ge 51, 3) := by decide +kernel
theorem dX12_nightOf_41 : decode cX12_nightOf 41 = .ok (.aload_n 0, 1) := by decide +kernel
theorem dX12_nightOf_42 : decode cX12_nightOf 42 = .ok (.iload_n 1, 1) := by decide +kernel
theorem dX12_nightOf_43 : decode cX12_nightOf 43 = .ok (.iload 7, 2) := by decide +kernel
theorem dX12_nightOf_45 : decode cX12_nightOf 45 = .ok (.iload_n 2, 1) := by decide +kernel
theorem dX12_nightOf_46 : decode cX12_nightOf 46 = .ok (.invokevirtual 259, 3) := by decide +kernel
theorem dX12_nightOf_49 : decode cX12_nightOf 49 = .ok (.istore 8, 2) := by decide +kernel
theorem dX12_nightOf_51 : decode cX12_nightOf 51 = .ok (.iload 8, 2) := by decide +kernel
theorem dX12_nightOf_53 : decode cX12_nightOf 53 = .ok (.iload 6, 2) := by decide +kernel
theorem dX12_nightOf_55 : decode cX12_nightOf 55 = .ok (.if_icmp .le 8, 3) := by decide +kernel
theorem dX12_nightOf_58 : decode cX12_nightOf 58 = .ok (.iload 7, 2) := by decide +kernel
theorem dX12_nightOf_60 : decode cX12_nightOf 60 = .ok (.goto 5, 3) := by decide +kernel
theorem dX12_nightOf_63 : decode cX12_nightOf 63 = .ok (.iload 5, 2) := by decide +kernel
theorem dX12_nightOf_65 : decode cX12_nightOf 65 = .ok (.istore 5, 2) := by decide +kernel
theorem dX12_nightOf_67 : decode cX12_nightOf 67 = .ok (.iload 8, 2) := by decide +kernel
theorem dX12_nightOf_69 : decode cX12_nightOf 69 = .ok (.iload 6, 2) := by decide +kernel
theorem dX12_nightOf_71 : decode cX12_nightOf 71 = .ok (.if_icmp .le 8, 3) := by decide +kernel
theorem dX12_nightOf_74 : decode cX12_nightOf 74 = .ok (.iload 8, 2) := by decide +kernel
theorem dX12_nightOf_76 : decode cX12_nightOf 76 = .ok (.goto 5, 3) := by decide +kernel
theorem dX12_nightOf_79 : decode cX12_nightOf 79 = .ok (.iload 6, 2) := by decide +kernel
theorem dX12_nightOf_81 : decode cX12_nightOf 81 = .ok (.istore 6, 2) := by decide +kernel
theorem dX12_nightOf_83 : decode cX12_nightOf 83 = .ok (.iinc 7 1, 3) := by decide +kernel
theorem dX12_nightOf_86 : decode cX12_nightOf 86 = .ok (.goto (-52), 3) := by decide +kernel
theorem dX12_nightOf_89 : decode cX12_nightOf 89 = .ok (.iload_n 3, 1) := by decide +kernel
theorem dX12_nightOf_90 : decode cX12_nightOf 90 = .ok (.ifCond .eq 9, 3) := by decide +kernel
theorem dX12_nightOf_93 : decode cX12_nightOf 93 = .ok (.iload 6, 2) := by decide +kernel
theorem dX12_nightOf_95 : decode cX12_nightOf 95 = .ok (.iconst (-1), 1) := by decide +kernel
theorem dX12_nightOf_96 : decode cX12_nightOf 96 = .ok (.if_icmp .ne 6, 3) := by decide +kernel
theorem dX12_nightOf_99 : decode cX12_nightOf 99 = .ok (.iload 6, 2) := by decide +kernel
theorem dX12_nightOf_101 : decode cX12_nightOf 101 = .ok (.ireturn, 1) := by decide +kernel
theorem dX12_nightOf_102 : decode cX12_nightOf 102 = .ok (.iload_n 3, 1) := by decide +kernel
theorem dX12_nightOf_103 : decode cX12_nightOf 103 = .ok (.bipush 10, 2) := by decide +kernel
theorem dX12_nightOf_105 : decode cX12_nightOf 105 = .ok (.isub, 1) := by decide +kernel
theorem dX12_nightOf_106 : decode cX12_nightOf 106 = .ok (.istore 7, 2) := by decide +kernel
theorem dX12_nightOf_108 : decode cX12_nightOf 108 = .ok (.iload 7, 2) := by decide +kernel
theorem dX12_nightOf_110 : decode cX12_nightOf 110 = .ok (.iconst 1, 1) := by decide +kernel
theorem dX12_nightOf_111 : decode cX12_nightOf 111 = .ok (.iadd, 1) := by decide +kernel
theorem dX12_nightOf_112 : decode cX12_nightOf 112 = .ok (.istore 8, 2) := by decide +kernel
theorem dX12_nightOf_114 : decode cX12_nightOf 114 = .ok (.iload 8, 2) := by decide +kernel
theorem dX12_nightOf_116 : decode cX12_nightOf 116 = .ok (.iload_n 2, 1) := by decide +kernel
theorem dX12_nightOf_117 : decode cX12_nightOf 117 = .ok (.if_icmp .ge 16, 3) := by decide +kernel
theorem dX12_nightOf_120 : decode cX12_nightOf 120 = .ok (.iload 5, 2) := by decide +kernel
theorem dX12_nightOf_122 : decode cX12_nightOf 122 = .ok (.bipush 6, 2) := by decide +kernel
theorem dX12_nightOf_124 : decode cX12_nightOf 124 = .ok (.idiv, 1) := by decide +kernel
theorem dX12_nightOf_125 : decode cX12_nightOf 125 = .ok (.istore 5, 2) := by decide +kernel
theorem dX12_nightOf_127 : decode cX12_nightOf 127 = .ok (.iinc 8 1, 3) := by decide +kernel
theorem dX12_nightOf_130 : decode cX12_nightOf 130 = .ok (.goto (-16), 3) := by decide +kernel
theorem dX12_nightOf_133 : decode cX12_nightOf 133 = .ok (.iload 7, 2) := by decide +kernel
theorem dX12_nightOf_135 : decode cX12_nightOf 135 = .ok (.iload_n 2, 1) := by decide +kernel
theorem dX12_nightOf_136 : decode cX12_nightOf 136 = .ok (.if_icmp .ge 11, 3) := by decide +kernel
theorem dX12_nightOf_139 : decode cX12_nightOf 139 = .ok (.iload 5, 2) := by decide +kernel
theorem dX12_nightOf_141 : decode cX12_nightOf 141 = .ok (.bipush 6, 2) := by decide +kernel
theorem dX12_nightOf_143 : decode cX12_nightOf 143 = .ok (.irem, 1) := by decide +kernel
theorem dX12_nightOf_144 : decode cX12_nightOf 144 = .ok (.goto 4, 3) := by decide +kernel
theorem dX12_nightOf_147 : decode cX12_nightOf 147 = .ok (.iconst (-1), 1) := by decide +kernel
theorem dX12_nightOf_148 : decode cX12_nightOf 148 = .ok (.ireturn, 1) := by decide +kernel
theorem dX12_night_0 : decode cX12_night 0 = .ok (.aload_n 0, 1) := by decide +kernel
theorem dX12_night_1 : decode cX12_night 1 = .ok (.iload_n 1, 1) := by decide +kernel
theorem dX12_night_2 : decode cX12_night 2 = .ok (.invokevirtual 215, 3) := by decide +kernel
theorem dX12_night_5 : decode cX12_night 5 = .ok (.ifCond .ne 6, 3) := by decide +kernel
theorem dX12_night_8 : decode cX12_night 8 = .ok (.bipush (-101), 2) := by decide +kernel
theorem dX12_night_10 : decode cX12_night 10 = .ok (.ireturn, 1) := by decide +kernel
theorem dX12_night_11 : decode cX12_night 11 = .ok (.iload_n 2, 1) := by decide +kernel
theorem dX12_night_12 : decode cX12_night 12 = .ok (.i2l, 1) := by decide +kernel
theorem dX12_night_13 : decode cX12_night 13 = .ok (.lconst 0, 1) := by decide +kernel
theorem dX12_night_14 : decode cX12_night 14 = .ok (.ldc2_w 222, 3) := by decide +kernel
theorem dX12_night_17 : decode cX12_night 17 = .ok (.invokestatic 103, 3) := by decide +kernel
theorem dX12_night_20 : decode cX12_night 20 = .ok (.ifCond .eq 31, 3) := by decide +kernel
theorem dX12_night_23 : decode cX12_night 23 = .ok (.iload_n 3, 1) := by decide +kernel
theorem dX12_night_24 : decode cX12_night 24 = .ok (.ifCond .eq 17, 3) := by decide +kernel
theorem dX12_night_27 : decode cX12_night 27 = .ok (.iload_n 3, 1) := by decide +kernel
theorem dX12_night_28 : decode cX12_night 28 = .ok (.i2l, 1) := by decide +kernel
theorem dX12_night_29 : decode cX12_night 29 = .ok (.ldc2_w 249, 3) := by decide +kernel
theorem dX12_night_32 : decode cX12_night 32 = .ok (.ldc2_w 262, 3) := by decide +kernel
theorem dX12_night_35 : decode cX12_night 35 = .ok (.invokestatic 103, 3) := by decide +kernel
theorem dX12_night_38 : decode cX12_night 38 = .ok (.ifCond .eq 13, 3) := by decide +kernel
theorem dX12_night_41 : decode cX12_night 41 = .ok (.aload_n 0, 1) := by decide +kernel
theorem dX12_night_42 : decode cX12_night 42 = .ok (.iload_n 1, 1) := by decide +kernel
theorem dX12_night_43 : decode cX12_night 43 = .ok (.iload_n 2, 1) := by decide +kernel
theorem dX12_night_44 : decode cX12_night 44 = .ok (.iload_n 3, 1) := by decide +kernel
theorem dX12_night_45 : decode cX12_night 45 = .ok (.invokevirtual 264, 3) := by decide +kernel
theorem dX12_night_48 : decode cX12_night 48 = .ok (.goto 5, 3) := by decide +kernel
theorem dX12_night_51 : decode cX12_night 51 = .ok (.bipush (-102), 2) := by decide +kernel
theorem dX12_night_53 : decode cX12_night 53 = .ok (.ireturn, 1) := by decide +kernel
theorem dX12_isOf_0 : decode cX12_isOf 0 = .ok (.iload_n 1, 1) := by decide +kernel
theorem dX12_isOf_1 : decode cX12_isOf 1 = .ok (.aload_n 0, 1) := by decide +kernel
theorem dX12_isOf_2 : decode cX12_isOf 2 = .ok (.getfield 162, 3) := by decide +kernel
theorem dX12_isOf_5 : decode cX12_isOf 5 = .ok (.if_icmp .ge 26, 3) := by decide +kernel
theorem dX12_isOf_8 : decode cX12_isOf 8 = .ok (.aload_n 0, 1) := by decide +kernel
theorem dX12_isOf_9 : decode cX12_isOf 9 = .ok (.getfield 46, 3) := by decide +kernel
theorem dX12_isOf_12 : decode cX12_isOf 12 = .ok (.iload_n 1, 1) := by decide +kernel
theorem dX12_isOf_13 : decode cX12_isOf 13 = .ok (.iaload, 1) := by decide +kernel
theorem dX12_isOf_14 : decode cX12_isOf 14 = .ok (.ifCond .ne 17, 3) := by decide +kernel
theorem dX12_isOf_17 : decode cX12_isOf 17 = .ok (.aload_n 0, 1) := by decide +kernel
theorem dX12_isOf_18 : decode cX12_isOf 18 = .ok (.getfield 40, 3) := by decide +kernel
theorem dX12_isOf_21 : decode cX12_isOf 21 = .ok (.iload_n 1, 1) := by decide +kernel
theorem dX12_isOf_22 : decode cX12_isOf 22 = .ok (.iaload, 1) := by decide +kernel
theorem dX12_isOf_23 : decode cX12_isOf 23 = .ok (.iload_n 2, 1) := by decide +kernel
theorem dX12_isOf_24 : decode cX12_isOf 24 = .ok (.if_icmp .ne 7, 3) := by decide +kernel
theorem dX12_isOf_27 : decode cX12_isOf 27 = .ok (.iconst 1, 1) := by decide +kernel
theorem dX12_isOf_28 : decode cX12_isOf 28 = .ok (.goto 4, 3) := by decide +kernel
theorem dX12_isOf_31 : decode cX12_isOf 31 = .ok (.iconst 0, 1) := by decide +kernel
theorem dX12_isOf_32 : decode cX12_isOf 32 = .ok (.ireturn, 1) := by decide +kernel
theorem dX12_topOf_0 : decode cX12_topOf 0 = .ok (.aload_n 0, 1) := by decide +kernel
theorem dX12_topOf_1 : decode cX12_topOf 1 = .ok (.iload_n 1, 1) := by decide +kernel
theorem dX12_topOf_2 : decode cX12_topOf 2 = .ok (.iload_n 2, 1) := by decide +kernel
theorem dX12_topOf_3 : decode cX12_topOf 3 = .ok (.invokevirtual 267, 3) := by decide +kernel
theorem dX12_topOf_6 : decode cX12_topOf 6 = .ok (.ifCond .eq 12, 3) := by decide +kernel
theorem dX12_topOf_9 : decode cX12_topOf 9 = .ok (.aload_n 0, 1) := by decide +kernel
theorem dX12_topOf_10 : decode cX12_topOf 10 = .ok (.getfield 43, 3) := by decide +kernel
theorem dX12_topOf_13 : decode cX12_topOf 13 = .ok (.iload_n 1, 1) := by decide +kernel
theorem dX12_topOf_14 : decode cX12_topOf 14 = .ok (.iaload, 1) := by decide +kernel
theorem dX12_topOf_15 : decode cX12_topOf 15 = .ok (.goto 4, 3) := by decide +kernel
theorem dX12_topOf_18 : decode cX12_topOf 18 = .ok (.iconst 0, 1) := by decide +kernel
theorem dX12_topOf_19 : decode cX12_topOf 19 = .ok (.ireturn, 1) := by decide +kernel
theorem dX12_lessBy_0 : decode cX12_lessBy 0 = .ok (.iconst 0, 1) := by decide +kernel
theorem dX12_lessBy_1 : decode cX12_lessBy 1 = .ok (.istore_n 1, 1) := by decide +kernel
theorem dX12_lessBy_2 : decode cX12_lessBy 2 = .ok (.iconst 0, 1) := by decide +kernel
theorem dX12_lessBy_3 : decode cX12_lessBy 3 = .ok (.istore_n 2, 1) := by decide +kernel
theorem dX12_lessBy_4 : decode cX12_lessBy 4 = .ok (.iload_n 2, 1) := by decide +kernel
theorem dX12_lessBy_5 : decode cX12_lessBy 5 = .ok (.iconst 4, 1) := by decide +kernel
theorem dX12_lessBy_6 : decode cX12_lessBy 6 = .ok (.if_icmp .ge 16, 3) := by decide +kernel
theorem dX12_lessBy_9 : decode cX12_lessBy 9 = .ok (.aload_n 0, 1) := by decide +kernel
theorem dX12_lessBy_10 : decode cX12_lessBy 10 = .ok (.getfield 64, 3) := by decide +kernel
theorem dX12_lessBy_13 : decode cX12_lessBy 13 = .ok (.iload_n 2, 1) := by decide +kernel
theorem dX12_lessBy_14 : decode cX12_lessBy 14 = .ok (.iconst 0, 1) := by decide +kernel
theorem dX12_lessBy_15 : decode cX12_lessBy 15 = .ok (.iastore, 1) := by decide +kernel
theorem dX12_lessBy_16 : decode cX12_lessBy 16 = .ok (.iinc 2 1, 3) := by decide +kernel
theorem dX12_lessBy_19 : decode cX12_lessBy 19 = .ok (.goto (-15), 3) := by decide +kernel
theorem dX12_lessBy_22 : decode cX12_lessBy 22 = .ok (.iconst 0, 1) := by decide +kernel
theorem dX12_lessBy_23 : decode cX12_lessBy 23 = .ok (.istore_n 2, 1) := by decide +kernel
theorem dX12_lessBy_24 : decode cX12_lessBy 24 = .ok (.iload_n 2, 1) := by decide +kernel
theorem dX12_lessBy_25 : decode cX12_lessBy 25 = .ok (.aload_n 0, 1) := by decide +kernel
theorem dX12_lessBy_26 : decode cX12_lessBy 26 = .ok (.getfield 162, 3) := by decide +kernel
theorem dX12_lessBy_29 : decode cX12_lessBy 29 = .ok (.if_icmp .ge 58, 3) := by decide +kernel
theorem dX12_lessBy_32 : decode cX12_lessBy 32 = .ok (.aload_n 0, 1) := by decide +kernel
theorem dX12_lessBy_33 : decode cX12_lessBy 33 = .ok (.getfield 64, 3) := by decide +kernel
theorem dX12_lessBy_36 : decode cX12_lessBy 36 = .ok (.aload_n 0, 1) := by decide +kernel
theorem dX12_lessBy_37 : decode cX12_lessBy 37 = .ok (.getfield 34, 3) := by decide +kernel
theorem dX12_lessBy_40 : decode cX12_lessBy 40 = .ok (.iload_n 2, 1) := by decide +kernel
theorem dX12_lessBy_41 : decode cX12_lessBy 41 = .ok (.iaload, 1) := by decide +kernel
theorem dX12_lessBy_42 : decode cX12_lessBy 42 = .ok (.dup2, 1) := by decide +kernel
theorem dX12_lessBy_43 : decode cX12_lessBy 43 = .ok (.iaload, 1) := by decide +kernel
theorem dX12_lessBy_44 : decode cX12_lessBy 44 = .ok (.aload_n 0, 1) := by decide +kernel
theorem dX12_lessBy_45 : decode cX12_lessBy 45 = .ok (.getfield 61, 3) := by decide +kernel
theorem dX12_lessBy_48 : decode cX12_lessBy 48 = .ok (.iload_n 2, 1) := by decide +kernel
theorem dX12_lessBy_49 : decode cX12_lessBy 49 = .ok (.iaload, 1) := by decide +kernel
theorem dX12_lessBy_50 : decode cX12_lessBy 50 = .ok (.isub, 1) := by decide +kernel
theorem dX12_lessBy_51 : decode cX12_lessBy 51 = .ok (.iastore, 1) := by decide +kernel
theorem dX12_lessBy_52 : decode cX12_lessBy 52 = .ok (.aload_n 0, 1) := by decide +kernel
theorem dX12_lessBy_53 : decode cX12_lessBy 53 = .ok (.getfield 64, 3) := by decide +kernel
theorem dX12_lessBy_56 : decode cX12_lessBy 56 = .ok (.aload_n 0, 1) := by decide +kernel
theorem dX12_lessBy_57 : decode cX12_lessBy 57 = .ok (.getfield 37, 3) := by decide +kernel
theorem dX12_lessBy_60 : decode cX12_lessBy 60 = .ok (.iload_n 2, 1) := by decide +kernel
theorem dX12_lessBy_61 : decode cX12_lessBy 61 = .ok (.iaload, 1) := by decide +kernel
theorem dX12_lessBy_62 : decode cX12_lessBy 62 = .ok (.dup2, 1) := by decide +kernel
theorem dX12_lessBy_63 : decode cX12_lessBy 63 = .ok (.iaload, 1) := by decide +kernel
theorem dX12_lessBy_64 : decode cX12_lessBy 64 = .ok (.aload_n 0, 1) := by decide +kernel
theorem dX12_lessBy_65 : decode cX12_lessBy 65 = .ok (.getfield 61, 3) := by decide +kernel
theorem dX12_lessBy_68 : decode cX12_lessBy 68 = .ok (.iload_n 2, 1) := by decide +kernel
theorem dX12_lessBy_69 : decode cX12_lessBy 69 = .ok (.iaload, 1) := by decide +kernel
theorem dX12_lessBy_70 : decode cX12_lessBy 70 = .ok (.iadd, 1) := by decide +kernel
theorem dX12_lessBy_71 : decode cX12_lessBy 71 = .ok (.iastore, 1) := by decide +kernel
theorem dX12_lessBy_72 : decode cX12_lessBy 72 = .ok (.iload_n 1, 1) := by decide +kernel
theorem dX12_lessBy_73 : decode cX12_lessBy 73 = .ok (.aload_n 0, 1) := by decide +kernel
theorem dX12_lessBy_74 : decode cX12_lessBy 74 = .ok (.getfield 61, 3) := by decide +kernel
theorem dX12_lessBy_77 : decode cX12_lessBy 77 = .ok (.iload_n 2, 1) := by decide +kernel
theorem dX12_lessBy_78 : decode cX12_lessBy 78 = .ok (.iaload, 1) := by decide +kernel
theorem dX12_lessBy_79 : decode cX12_lessBy 79 = .ok (.iadd, 1) := by decide +kernel
theorem dX12_lessBy_80 : decode cX12_lessBy 80 = .ok (.istore_n 1, 1) := by decide +kernel
theorem dX12_lessBy_81 : decode cX12_lessBy 81 = .ok (.iinc 2 1, 3) := by decide +kernel
theorem dX12_lessBy_84 : decode cX12_lessBy 84 = .ok (.goto (-60), 3) := by decide +kernel
theorem dX12_lessBy_87 : decode cX12_lessBy 87 = .ok (.iconst 0, 1) := by decide +kernel
theorem dX12_lessBy_88 : decode cX12_lessBy 88 = .ok (.istore_n 2, 1) := by decide +kernel
theorem dX12_lessBy_89 : decode cX12_lessBy 89 = .ok (.iload_n 2, 1) := by decide +kernel
theorem dX12_lessBy_90 : decode cX12_lessBy 90 = .ok (.iconst 4, 1) := by decide +kernel
theorem dX12_lessBy_91 : decode cX12_lessBy 91 = .ok (.if_icmp .ge 24, 3) := by decide +kernel
theorem dX12_lessBy_94 : decode cX12_lessBy 94 = .ok (.aload_n 0, 1) := by decide +kernel
theorem dX12_lessBy_95 : decode cX12_lessBy 95 = .ok (.getfield 64, 3) := by decide +kernel
theorem dX12_lessBy_98 : decode cX12_lessBy 98 = .ok (.iload_n 2, 1) := by decide +kernel
theorem dX12_lessBy_99 : decode cX12_lessBy 99 = .ok (.iaload, 1) := by decide +kernel
theorem dX12_lessBy_100 : decode cX12_lessBy 100 = .ok (.ifCond .ne 7, 3) := by decide +kernel
theorem dX12_lessBy_103 : decode cX12_lessBy 103 = .ok (.iload_n 1, 1) := by decide +kernel
theorem dX12_lessBy_104 : decode cX12_lessBy 104 = .ok (.goto 4, 3) := by decide +kernel
theorem dX12_lessBy_107 : decode cX12_lessBy 107 = .ok (.iconst (-1), 1) := by decide +kernel
theorem dX12_lessBy_108 : decode cX12_lessBy 108 = .ok (.istore_n 1, 1) := by decide +kernel
theorem dX12_lessBy_109 : decode cX12_lessBy 109 = .ok (.iinc 2 1, 3) := by decide +kernel
theorem dX12_lessBy_112 : decode cX12_lessBy 112 = .ok (.goto (-23), 3) := by decide +kernel
theorem dX12_lessBy_115 : decode cX12_lessBy 115 = .ok (.iload_n 1, 1) := by decide +kernel
theorem dX12_lessBy_116 : decode cX12_lessBy 116 = .ok (.ireturn, 1) := by decide +kernel
theorem dX12_layCancel_0 : decode cX12_layCancel 0 = .ok (.iconst (-1), 1) := by decide +kernel
theorem dX12_layCancel_1 : decode cX12_layCancel 1 = .ok (.istore_n 2, 1) := by decide +kernel
theorem dX12_layCancel_2 : decode cX12_layCancel 2 = .ok (.aload_n 0, 1) := by decide +kernel
theorem dX12_layCancel_3 : decode cX12_layCancel 3 = .ok (.getfield 61, 3) := by decide +kernel
theorem dX12_layCancel_6 : decode cX12_layCancel 6 = .ok (.iconst 0, 1) := by decide +kernel
theorem dX12_layCancel_7 : decode cX12_layCancel 7 = .ok (.iconst 0, 1) := by decide +kernel
theorem dX12_layCancel_8 : decode cX12_layCancel 8 = .ok (.iastore, 1) := by decide +kernel
theorem dX12_layCancel_9 : decode cX12_layCancel 9 = .ok (.aload_n 0, 1) := by decide +kernel
theorem dX12_layCancel_10 : decode cX12_layCancel 10 = .ok (.getfield 61, 3) := by decide +kernel
theorem dX12_layCancel_13 : decode cX12_layCancel 13 = .ok (.iconst 0, 1) := by decide +kernel
theorem dX12_layCancel_14 : decode cX12_layCancel 14 = .ok (.iaload, 1) := by decide +kernel
theorem dX12_layCancel_15 : decode cX12_layCancel 15 = .ok (.aload_n 0, 1) := by decide +kernel
theorem dX12_layCancel_16 : decode cX12_layCancel 16 = .ok (.iconst 0, 1) := by decide +kernel
theorem dX12_layCancel_17 : decode cX12_layCancel 17 = .ok (.iload_n 1, 1) := by decide +kernel
theorem dX12_layCancel_18 : decode cX12_layCancel 18 = .ok (.invokevirtual 271, 3) := by decide +kernel
theorem dX12_layCancel_21 : decode cX12_layCancel 21 = .ok (.if_icmp .gt 144, 3) := by decide +kernel
theorem dX12_layCancel_24 : decode cX12_layCancel 24 = .ok (.aload_n 0, 1) := by decide +kernel
theorem dX12_layCancel_25 : decode cX12_layCancel 25 = .ok (.getfield 61, 3) := by decide +kernel
theorem dX12_layCancel_28 : decode cX12_layCancel 28 = .ok (.iconst 1, 1) := by decide +kernel
theorem dX12_layCancel_29 : decode cX12_layCancel 29 = .ok (.iconst 0, 1) := by decide +kernel
theorem dX12_layCancel_30 : decode cX12_layCancel 30 = .ok (.iastore, 1) := by decide +kernel
theorem dX12_layCancel_31 : decode cX12_layCancel 31 = .ok (.aload_n 0, 1) := by decide +kernel
theorem dX12_layCancel_32 : decode cX12_layCancel 32 = .ok (.getfield 61, 3) := by decide +kernel
theorem dX12_layCancel_35 : decode cX12_layCancel 35 = .ok (.iconst 1, 1) := by decide +kernel
theorem dX12_layCancel_36 : decode cX12_layCancel 36 = .ok (.iaload, 1) := by decide +kernel
theorem dX12_layCancel_37 : decode cX12_layCancel 37 = .ok (.aload_n 0, 1) := by decide +kernel
theorem dX12_layCancel_38 : decode cX12_layCancel 38 = .ok (.iconst 1, 1) := by decide +kernel
theorem dX12_layCancel_39 : decode cX12_layCancel 39 = .ok (.iload_n 1, 1) := by decide +kernel
theorem dX12_layCancel_40 : decode cX12_layCancel 40 = .ok (.invokevirtual 271, 3) := by decide +kernel
theorem dX12_layCancel_43 : decode cX12_layCancel 43 = .ok (.if_icmp .gt 109, 3) := by decide +kernel
theorem dX12_layCancel_46 : decode cX12_layCancel 46 = .ok (.aload_n 0, 1) := by decide +kernel
theorem dX12_layCancel_47 : decode cX12_layCancel 47 = .ok (.getfield 61, 3) := by decide +kernel
theorem dX12_layCancel_50 : decode cX12_layCancel 50 = .ok (.iconst 2, 1) := by decide +kernel
theorem dX12_layCancel_51 : decode cX12_layCancel 51 = .ok (.iconst 0, 1) := by decide +kernel
theorem dX12_layCancel_52 : decode cX12_layCancel 52 = .ok (.iastore, 1) := by decide +kernel
theorem dX12_layCancel_53 : decode cX12_layCancel 53 = .ok (.aload_n 0, 1) := by decide +kernel
theorem dX12_layCancel_54 : decode cX12_layCancel 54 = .ok (.getfield 61, 3) := by decide +kernel
theorem dX12_layCancel_57 : decode cX12_layCancel 57 = .ok (.iconst 2, 1) := by decide +kernel
theorem dX12_layCancel_58 : decode cX12_layCancel 58 = .ok (.iaload, 1) := by decide +kernel
theorem dX12_layCancel_59 : decode cX12_layCancel 59 = .ok (.aload_n 0, 1) := by decide +kernel
theorem dX12_layCancel_60 : decode cX12_layCancel 60 = .ok (.iconst 2, 1) := by decide +kernel
theorem dX12_layCancel_61 : decode cX12_layCancel 61 = .ok (.iload_n 1, 1) := by decide +kernel
theorem dX12_layCancel_62 : decode cX12_layCancel 62 = .ok (.invokevirtual 271, 3) := by decide +kernel
theorem dX12_layCancel_65 : decode cX12_layCancel 65 = .ok (.if_icmp .gt 74, 3) := by decide +kernel
theorem dX12_layCancel_68 : decode cX12_layCancel 68 = .ok (.aload_n 0, 1) := by decide +kernel
theorem dX12_layCancel_69 : decode cX12_layCancel 69 = .ok (.getfield 61, 3) := by decide +kernel
theorem dX12_layCancel_72 : decode cX12_layCancel 72 = .ok (.iconst 3, 1) := by decide +kernel
theorem dX12_layCancel_73 : decode cX12_layCancel 73 = .ok (.iconst 0, 1) := by decide +kernel
theorem dX12_layCancel_74 : decode cX12_layCancel 74 = .ok (.iastore, 1) := by decide +kernel
theorem dX12_layCancel_75 : decode cX12_layCancel 75 = .ok (.aload_n 0, 1) := by decide +kernel
theorem dX12_layCancel_76 : decode cX12_layCancel 76 = .ok (.getfield 61, 3) := by decide +kernel
theorem dX12_layCancel_79 : decode cX12_layCancel 79 = .ok (.iconst 3, 1) := by decide +kernel
theorem dX12_layCancel_80 : decode cX12_layCancel 80 = .ok (.iaload, 1) := by decide +kernel
theorem dX12_layCancel_81 : decode cX12_layCancel 81 = .ok (.aload_n 0, 1) := by decide +kernel
theorem dX12_layCancel_82 : decode cX12_layCancel 82 = .ok (.iconst 3, 1) := by decide +kernel
theorem dX12_layCancel_83 : decode cX12_layCancel 83 = .ok (.iload_n 1, 1) := by decide +kernel
theorem dX12_layCancel_84 : decode cX12_layCancel 84 = .ok (.invokevirtual 271, 3) := by decide +kernel
theorem dX12_layCancel_87 : decode cX12_layCancel 87 = .ok (.if_icmp .gt 39, 3) := by decide +kernel
theorem dX12_layCancel_90 : decode cX12_layCancel 90 = .ok (.aload_n 0, 1) := by decide +kernel
theorem dX12_layCancel_91 : decode cX12_layCancel 91 = .ok (.invokevirtual 274, 3) := by decide +kernel
theorem dX12_layCancel_94 : decode cX12_layCancel 94 = .ok (.istore_n 3, 1) := by decide +kernel
theorem dX12_layCancel_95 : decode cX12_layCancel 95 = .ok (.iload_n 3, 1) := by decide +kernel
theorem dX12_layCancel_96 : decode cX12_layCancel 96 = .ok (.iload_n 2, 1) := by decide +kernel
theorem dX12_layCancel_97 : decode cX12_layCancel 97 = .ok (.if_icmp .le 16, 3) := by decide +kernel
theorem dX12_layCancel_100 : decode cX12_layCancel 100 = .ok (.iload_n 3, 1) := by decide +kernel
theorem dX12_layCancel_101 : decode cX12_layCancel 101 = .ok (.istore_n 2, 1) := by decide +kernel
theorem dX12_layCancel_102 : decode cX12_layCancel 102 = .ok (.aload_n 0, 1) := by decide +kernel
theorem dX12_layCancel_103 : decode cX12_layCancel 103 = .ok (.getfield 61, 3) := by decide +kernel
theorem dX12_layCancel_106 : decode cX12_layCancel 106 = .ok (.aload_n 0, 1) := by decide +kernel
theorem dX12_layCancel_107 : decode cX12_layCancel 107 = .ok (.getfield 67, 3) := by decide +kernel
theorem dX12_layCancel_110 : decode cX12_layCancel 110 = .ok (.invokestatic 177, 3) := by decide +kernel
theorem dX12_layCancel_113 : decode cX12_layCancel 113 = .ok (.aload_n 0, 1) := by decide +kernel
theorem dX12_layCancel_114 : decode cX12_layCancel 114 = .ok (.getfield 61, 3) := by decide +kernel
theorem dX12_layCancel_117 : decode cX12_layCancel 117 = .ok (.iconst 3, 1) := by decide +kernel
theorem dX12_layCancel_118 : decode cX12_layCancel 118 = .ok (.dup2, 1) := by decide +kernel
theorem dX12_layCancel_119 : decode cX12_layCancel 119 = .ok (.iaload, 1) := by decide +kernel
theorem dX12_layCancel_120 : decode cX12_layCancel 120 = .ok (.iconst 1, 1) := by decide +kernel
theorem dX12_layCancel_121 : decode cX12_layCancel 121 = .ok (.iadd, 1) := by decide +kernel
theorem dX12_layCancel_122 : decode cX12_layCancel 122 = .ok (.iastore, 1) := by decide +kernel
theorem dX12_layCancel_123 : decode cX12_layCancel 123 = .ok (.goto (-48), 3) := by decide +kernel
theorem dX12_layCancel_126 : decode cX12_layCancel 126 = .ok (.aload_n 0, 1) := by decide +kernel
theorem dX12_layCancel_127 : decode cX12_layCancel 127 = .ok (.getfield 61, 3) := by decide +kernel
theorem dX12_layCancel_130 : decode cX12_layCancel 130 = .ok (.iconst 2, 1) := by decide +kernel
theorem dX12_layCancel_131 : decode cX12_layCancel 131 = .ok (.dup2, 1) := by decide +kernel
theorem dX12_layCancel_132 : decode cX12_layCancel 132 = .ok (.iaload, 1) := by decide +kernel
theorem dX12_layCancel_133 : decode cX12_layCancel 133 = .ok (.iconst 1, 1) := by decide +kernel
theorem dX12_layCancel_134 : decode cX12_layCancel 134 = .ok (.iadd, 1) := by decide +kernel
theorem dX12_layCancel_135 : decode cX12_layCancel 135 = .ok (.iastore, 1) := by decide +kernel
theorem dX12_layCancel_136 : decode cX12_layCancel 136 = .ok (.goto (-83), 3) := by decide +kernel
theorem dX12_layCancel_139 : decode cX12_layCancel 139 = .ok (.aload_n 0, 1) := by decide +kernel
theorem dX12_layCancel_140 : decode cX12_layCancel 140 = .ok (.getfield 61, 3) := by decide +kernel
theorem dX12_layCancel_143 : decode cX12_layCancel 143 = .ok (.iconst 1, 1) := by decide +kernel
theorem dX12_layCancel_144 : decode cX12_layCancel 144 = .ok (.dup2, 1) := by decide +kernel
theorem dX12_layCancel_145 : decode cX12_layCancel 145 = .ok (.iaload, 1) := by decide +kernel
theorem dX12_layCancel_146 : decode cX12_layCancel 146 = .ok (.iconst 1, 1) := by decide +kernel
theorem dX12_layCancel_147 : decode cX12_layCancel 147 = .ok (.iadd, 1) := by decide +kernel
theorem dX12_layCancel_148 : decode cX12_layCancel 148 = .ok (.iastore, 1) := by decide +kernel
theorem dX12_layCancel_149 : decode cX12_layCancel 149 = .ok (.goto (-118), 3) := by decide +kernel
theorem dX12_layCancel_152 : decode cX12_layCancel 152 = .ok (.aload_n 0, 1) := by decide +kernel
theorem dX12_layCancel_153 : decode cX12_layCancel 153 = .ok (.getfield 61, 3) := by decide +kernel
theorem dX12_layCancel_156 : decode cX12_layCancel 156 = .ok (.iconst 0, 1) := by decide +kernel
theorem dX12_layCancel_157 : decode cX12_layCancel 157 = .ok (.dup2, 1) := by decide +kernel
theorem dX12_layCancel_158 : decode cX12_layCancel 158 = .ok (.iaload, 1) := by decide +kernel
theorem dX12_layCancel_159 : decode cX12_layCancel 159 = .ok (.iconst 1, 1) := by decide +kernel
theorem dX12_layCancel_160 : decode cX12_layCancel 160 = .ok (.iadd, 1) := by decide +kernel
theorem dX12_layCancel_161 : decode cX12_layCancel 161 = .ok (.iastore, 1) := by decide +kernel
theorem dX12_layCancel_162 : decode cX12_layCancel 162 = .ok (.goto (-153), 3) := by decide +kernel
theorem dX12_layCancel_165 : decode cX12_layCancel 165 = .ok (.iload_n 2, 1) := by decide +kernel
theorem dX12_layCancel_166 : decode cX12_layCancel 166 = .ok (.ireturn, 1) := by decide +kernel
theorem dX12_cancelOf_0 : decode cX12_cancelOf 0 = .ok (.aload_n 0, 1) := by decide +kernel
theorem dX12_cancelOf_1 : decode cX12_cancelOf 1 = .ok (.iload_n 1, 1) := by decide +kernel
theorem dX12_cancelOf_2 : decode cX12_cancelOf 2 = .ok (.invokevirtual 277, 3) := by decide +kernel
theorem dX12_cancelOf_5 : decode cX12_cancelOf 5 = .ok (.istore_n 3, 1) := by decide +kernel
theorem dX12_cancelOf_6 : decode cX12_cancelOf 6 = .ok (.iload_n 2, 1) := by decide +kernel
theorem dX12_cancelOf_7 : decode cX12_cancelOf 7 = .ok (.ifCond .ne 5, 3) := by decide +kernel
theorem dX12_cancelOf_10 : decode cX12_cancelOf 10 = .ok (.iload_n 3, 1) := by decide +kernel
theorem dX12_cancelOf_11 : decode cX12_cancelOf 11 = .ok (.ireturn, 1) := by decide +kernel
theorem dX12_cancelOf_12 : decode cX12_cancelOf 12 = .ok (.aload_n 0, 1) := by decide +kernel
theorem dX12_cancelOf_13 : decode cX12_cancelOf 13 = .ok (.iload_n 2, 1) := by decide +kernel
theorem dX12_cancelOf_14 : decode cX12_cancelOf 14 = .ok (.bipush 10, 2) := by decide +kernel
theorem dX12_cancelOf_16 : decode cX12_cancelOf 16 = .ok (.isub, 1) := by decide +kernel
theorem dX12_cancelOf_17 : decode cX12_cancelOf 17 = .ok (.iload_n 1, 1) := by decide +kernel
theorem dX12_cancelOf_18 : decode cX12_cancelOf 18 = .ok (.invokevirtual 267, 3) := by decide +kernel
theorem dX12_cancelOf_21 : decode cX12_cancelOf 21 = .ok (.ifCond .eq 15, 3) := by decide +kernel
theorem dX12_cancelOf_24 : decode cX12_cancelOf 24 = .ok (.aload_n 0, 1) := by decide +kernel
theorem dX12_cancelOf_25 : decode cX12_cancelOf 25 = .ok (.getfield 67, 3) := by decide +kernel
theorem dX12_cancelOf_28 : decode cX12_cancelOf 28 = .ok (.iload_n 2, 1) := by decide +kernel
theorem dX12_cancelOf_29 : decode cX12_cancelOf 29 = .ok (.bipush 10, 2) := by decide +kernel
theorem dX12_cancelOf_31 : decode cX12_cancelOf 31 = .ok (.isub, 1) := by decide +kernel
theorem dX12_cancelOf_32 : decode cX12_cancelOf 32 = .ok (.iaload, 1) := by decide +kernel
theorem dX12_cancelOf_33 : decode cX12_cancelOf 33 = .ok (.goto 4, 3) := by decide +kernel
theorem dX12_cancelOf_36 : decode cX12_cancelOf 36 = .ok (.iconst (-1), 1) := by decide +kernel
theorem dX12_cancelOf_37 : decode cX12_cancelOf 37 = .ok (.ireturn, 1) := by decide +kernel
theorem dX12_cancel_0 : decode cX12_cancel 0 = .ok (.aload_n 0, 1) := by decide +kernel
theorem dX12_cancel_1 : decode cX12_cancel 1 = .ok (.iload_n 1, 1) := by decide +kernel
theorem dX12_cancel_2 : decode cX12_cancel 2 = .ok (.invokevirtual 246, 3) := by decide +kernel
theorem dX12_cancel_5 : decode cX12_cancel 5 = .ok (.ifCond .ne 6, 3) := by decide +kernel
theorem dX12_cancel_8 : decode cX12_cancel 8 = .ok (.bipush (-101), 2) := by decide +kernel
theorem dX12_cancel_10 : decode cX12_cancel 10 = .ok (.ireturn, 1) := by decide +kernel
theorem dX12_cancel_11 : decode cX12_cancel 11 = .ok (.iload_n 2, 1) := by decide +kernel
theorem dX12_cancel_12 : decode cX12_cancel 12 = .ok (.ifCond .eq 17, 3) := by decide +kernel
theorem dX12_cancel_15 : decode cX12_cancel 15 = .ok (.iload_n 2, 1) := by decide +kernel
theorem dX12_cancel_16 : decode cX12_cancel 16 = .ok (.i2l, 1) := by decide +kernel
theorem dX12_cancel_17 : decode cX12_cancel 17 = .ok (.ldc2_w 249, 3) := by decide +kernel
theorem dX12_cancel_20 : decode cX12_cancel 20 = .ok (.ldc2_w 262, 3) := by decide +kernel
theorem dX12_cancel_23 : decode cX12_cancel 23 = .ok (.invokestatic 103, 3) := by decide +kernel
theorem dX12_cancel_26 : decode cX12_cancel 26 = .ok (.ifCond .eq 12, 3) := by decide +kernel
theorem dX12_cancel_29 : decode cX12_cancel 29 = .ok (.aload_n 0, 1) := by decide +kernel
theorem dX12_cancel_30 : decode cX12_cancel 30 = .ok (.iload_n 1, 1) := by decide +kernel
theorem dX12_cancel_31 : decode cX12_cancel 31 = .ok (.iload_n 2, 1) := by decide +kernel
theorem dX12_cancel_32 : decode cX12_cancel 32 = .ok (.invokevirtual 280, 3) := by decide +kernel
theorem dX12_cancel_35 : decode cX12_cancel 35 = .ok (.goto 5, 3) := by decide +kernel
theorem dX12_cancel_38 : decode cX12_cancel 38 = .ok (.bipush (-102), 2) := by decide +kernel
theorem dX12_cancel_40 : decode cX12_cancel 40 = .ok (.ireturn, 1) := by decide +kernel
theorem dX12_owesThen_0 : decode cX12_owesThen 0 = .ok (.iconst 0, 1) := by decide +kernel
theorem dX12_owesThen_1 : decode cX12_owesThen 1 = .ok (.istore_n 2, 1) := by decide +kernel
theorem dX12_owesThen_2 : decode cX12_owesThen 2 = .ok (.iconst 0, 1) := by decide +kernel
theorem dX12_owesThen_3 : decode cX12_owesThen 3 = .ok (.istore_n 3, 1) := by decide +kernel
theorem dX12_owesThen_4 : decode cX12_owesThen 4 = .ok (.iload_n 3, 1) := by decide +kernel
theorem dX12_owesThen_5 : decode cX12_owesThen 5 = .ok (.aload_n 0, 1) := by decide +kernel
theorem dX12_owesThen_6 : decode cX12_owesThen 6 = .ok (.getfield 162, 3) := by decide +kernel
theorem dX12_owesThen_9 : decode cX12_owesThen 9 = .ok (.if_icmp .ge 40, 3) := by decide +kernel
theorem dX12_owesThen_12 : decode cX12_owesThen 12 = .ok (.iload_n 2, 1) := by decide +kernel
theorem dX12_owesThen_13 : decode cX12_owesThen 13 = .ok (.aload_n 0, 1) := by decide +kernel
theorem dX12_owesThen_14 : decode cX12_owesThen 14 = .ok (.getfield 34, 3) := by decide +kernel
theorem dX12_owesThen_17 : decode cX12_owesThen 17 = .ok (.iload_n 3, 1) := by decide +kernel
theorem dX12_owesThen_18 : decode cX12_owesThen 18 = .ok (.iaload, 1) := by decide +kernel
theorem dX12_owesThen_19 : decode cX12_owesThen 19 = .ok (.iload_n 1, 1) := by decide +kernel
theorem dX12_owesThen_20 : decode cX12_owesThen 20 = .ok (.if_icmp .ne 20, 3) := by decide +kernel
theorem dX12_owesThen_23 : decode cX12_owesThen 23 = .ok (.aload_n 0, 1) := by decide +kernel
theorem dX12_owesThen_24 : decode cX12_owesThen 24 = .ok (.getfield 55, 3) := by decide +kernel
theorem dX12_owesThen_27 : decode cX12_owesThen 27 = .ok (.iload_n 3, 1) := by decide +kernel
theorem dX12_owesThen_28 : decode cX12_owesThen 28 = .ok (.iaload, 1) := by decide +kernel
theorem dX12_owesThen_29 : decode cX12_owesThen 29 = .ok (.ifCond .ne 11, 3) := by decide +kernel
theorem dX12_owesThen_32 : decode cX12_owesThen 32 = .ok (.aload_n 0, 1) := by decide +kernel
theorem dX12_owesThen_33 : decode cX12_owesThen 33 = .ok (.iload_n 3, 1) := by decide +kernel
theorem dX12_owesThen_34 : decode cX12_owesThen 34 = .ok (.invokevirtual 184, 3) := by decide +kernel
theorem dX12_owesThen_37 : decode cX12_owesThen 37 = .ok (.goto 4, 3) := by decide +kernel
theorem dX12_owesThen_40 : decode cX12_owesThen 40 = .ok (.iconst 0, 1) := by decide +kernel
theorem dX12_owesThen_41 : decode cX12_owesThen 41 = .ok (.iadd, 1) := by decide +kernel
theorem dX12_owesThen_42 : decode cX12_owesThen 42 = .ok (.istore_n 2, 1) := by decide +kernel
theorem dX12_owesThen_43 : decode cX12_owesThen 43 = .ok (.iinc 3 1, 3) := by decide +kernel
theorem dX12_owesThen_46 : decode cX12_owesThen 46 = .ok (.goto (-42), 3) := by decide +kernel
theorem dX12_owesThen_49 : decode cX12_owesThen 49 = .ok (.iload_n 2, 1) := by decide +kernel
theorem dX12_owesThen_50 : decode cX12_owesThen 50 = .ok (.ireturn, 1) := by decide +kernel
theorem dX12_soundOf_0 : decode cX12_soundOf 0 = .ok (.aload_n 0, 1) := by decide +kernel
theorem dX12_soundOf_1 : decode cX12_soundOf 1 = .ok (.invokevirtual 191, 3) := by decide +kernel
theorem dX12_soundOf_4 : decode cX12_soundOf 4 = .ok (.iconst 0, 1) := by decide +kernel
theorem dX12_soundOf_5 : decode cX12_soundOf 5 = .ok (.istore_n 1, 1) := by decide +kernel
theorem dX12_soundOf_6 : decode cX12_soundOf 6 = .ok (.iload_n 1, 1) := by decide +kernel
theorem dX12_soundOf_7 : decode cX12_soundOf 7 = .ok (.iconst 4, 1) := by decide +kernel
theorem dX12_soundOf_8 : decode cX12_soundOf 8 = .ok (.if_icmp .ge 94, 3) := by decide +kernel
theorem dX12_soundOf_11 : decode cX12_soundOf 11 = .ok (.iconst 0, 1) := by decide +kernel
theorem dX12_soundOf_12 : decode cX12_soundOf 12 = .ok (.istore_n 2, 1) := by decide +kernel
theorem dX12_soundOf_13 : decode cX12_soundOf 13 = .ok (.iload_n 2, 1) := by decide +kernel
theorem dX12_soundOf_14 : decode cX12_soundOf 14 = .ok (.aload_n 0, 1) := by decide +kernel
theorem dX12_soundOf_15 : decode cX12_soundOf 15 = .ok (.getfield 159, 3) := by decide +kernel
theorem dX12_soundOf_18 : decode cX12_soundOf 18 = .ok (.if_icmp .ge 78, 3) := by decide +kernel
theorem dX12_soundOf_21 : decode cX12_soundOf 21 = .ok (.aload_n 0, 1) := by decide +kernel
theorem dX12_soundOf_22 : decode cX12_soundOf 22 = .ok (.getfield 49, 3) := by decide +kernel
theorem dX12_soundOf_25 : decode cX12_soundOf 25 = .ok (.iload_n 2, 1) := by decide +kernel
theorem dX12_soundOf_26 : decode cX12_soundOf 26 = .ok (.iaload, 1) := by decide +kernel
theorem dX12_soundOf_27 : decode cX12_soundOf 27 = .ok (.aload_n 0, 1) := by decide +kernel
theorem dX12_soundOf_28 : decode cX12_soundOf 28 = .ok (.iload_n 2, 1) := by decide +kernel
theorem dX12_soundOf_29 : decode cX12_soundOf 29 = .ok (.invokevirtual 283, 3) := by decide +kernel
theorem dX12_soundOf_32 : decode cX12_soundOf 32 = .ok (.if_icmp .lt 7, 3) := by decide +kernel
theorem dX12_soundOf_35 : decode cX12_soundOf 35 = .ok (.iconst 1, 1) := by decide +kernel
theorem dX12_soundOf_36 : decode cX12_soundOf 36 = .ok (.goto 4, 3) := by decide +kernel
theorem dX12_soundOf_39 : decode cX12_soundOf 39 = .ok (.iconst 0, 1) := by decide +kernel
theorem dX12_soundOf_40 : decode cX12_soundOf 40 = .ok (.istore_n 3, 1) := by decide +kernel
theorem dX12_soundOf_41 : decode cX12_soundOf 41 = .ok (.iconst 0, 1) := by decide +kernel
theorem dX12_soundOf_42 : decode cX12_soundOf 42 = .ok (.istore 4, 2) := by decide +kernel
theorem dX12_soundOf_44 : decode cX12_soundOf 44 = .ok (.iload 4, 2) := by decide +kernel
theorem dX12_soundOf_46 : decode cX12_soundOf 46 = .ok (.aload_n 0, 1) := by decide +kernel
theorem dX12_soundOf_47 : decode cX12_soundOf 47 = .ok (.getfield 162, 3) := by decide +kernel
theorem dX12_soundOf_50 : decode cX12_soundOf 50 = .ok (.if_icmp .ge 40, 3) := by decide +kernel
theorem dX12_soundOf_53 : decode cX12_soundOf 53 = .ok (.iload_n 3, 1) := by decide +kernel
theorem dX12_soundOf_54 : decode cX12_soundOf 54 = .ok (.ifCond .eq 36, 3) := by decide +kernel
theorem dX12_soundOf_57 : decode cX12_soundOf 57 = .ok (.aload_n 0, 1) := by decide +kernel
theorem dX12_soundOf_58 : decode cX12_soundOf 58 = .ok (.getfield 34, 3) := by decide +kernel
theorem dX12_soundOf_61 : decode cX12_soundOf 61 = .ok (.iload 4, 2) := by decide +kernel
theorem dX12_soundOf_63 : decode cX12_soundOf 63 = .ok (.iaload, 1) := by decide +kernel
theorem dX12_soundOf_64 : decode cX12_soundOf 64 = .ok (.iload_n 2, 1) := by decide +kernel
theorem dX12_soundOf_65 : decode cX12_soundOf 65 = .ok (.if_icmp .ne 19, 3) := by decide +kernel
theorem dX12_soundOf_68 : decode cX12_soundOf 68 = .ok (.aload_n 0, 1) := by decide +kernel
theorem dX12_soundOf_69 : decode cX12_soundOf 69 = .ok (.getfield 55, 3) := by decide +kernel
theorem dX12_soundOf_72 : decode cX12_soundOf 72 = .ok (.iload 4, 2) := by decide +kernel
theorem dX12_soundOf_74 : decode cX12_soundOf 74 = .ok (.iaload, 1) := by decide +kernel
theorem dX12_soundOf_75 : decode cX12_soundOf 75 = .ok (.ifCond .ne 9, 3) := by decide +kernel
theorem dX12_soundOf_78 : decode cX12_soundOf 78 = .ok (.aload_n 0, 1) := by decide +kernel
theorem dX12_soundOf_79 : decode cX12_soundOf 79 = .ok (.iload 4, 2) := by decide +kernel
theorem dX12_soundOf_81 : decode cX12_soundOf 81 = .ok (.invokevirtual 236, 3) := by decide +kernel
theorem dX12_soundOf_84 : decode cX12_soundOf 84 = .ok (.iinc 4 1, 3) := by decide +kernel
theorem dX12_soundOf_87 : decode cX12_soundOf 87 = .ok (.goto (-43), 3) := by decide +kernel
theorem dX12_soundOf_90 : decode cX12_soundOf 90 = .ok (.iinc 2 1, 3) := by decide +kernel
theorem dX12_soundOf_93 : decode cX12_soundOf 93 = .ok (.goto (-80), 3) := by decide +kernel
theorem dX12_soundOf_96 : decode cX12_soundOf 96 = .ok (.iinc 1 1, 3) := by decide +kernel
theorem dX12_soundOf_99 : decode cX12_soundOf 99 = .ok (.goto (-93), 3) := by decide +kernel
theorem dX12_soundOf_102 : decode cX12_soundOf 102 = .ok (.iconst 0, 1) := by decide +kernel
theorem dX12_soundOf_103 : decode cX12_soundOf 103 = .ok (.istore_n 1, 1) := by decide +kernel
theorem dX12_soundOf_104 : decode cX12_soundOf 104 = .ok (.iconst 0, 1) := by decide +kernel
theorem dX12_soundOf_105 : decode cX12_soundOf 105 = .ok (.istore_n 2, 1) := by decide +kernel
theorem dX12_soundOf_106 : decode cX12_soundOf 106 = .ok (.iload_n 2, 1) := by decide +kernel
theorem dX12_soundOf_107 : decode cX12_soundOf 107 = .ok (.aload_n 0, 1) := by decide +kernel
theorem dX12_soundOf_108 : decode cX12_soundOf 108 = .ok (.getfield 159, 3) := by decide +kernel
theorem dX12_soundOf_111 : decode cX12_soundOf 111 = .ok (.if_icmp .ge 27, 3) := by decide +kernel
theorem dX12_soundOf_114 : decode cX12_soundOf 114 = .ok (.iload_n 1, 1) := by decide +kernel
theorem dX12_soundOf_115 : decode cX12_soundOf 115 = .ok (.aload_n 0, 1) := by decide +kernel
theorem dX12_soundOf_116 : decode cX12_soundOf 116 = .ok (.iload_n 2, 1) := by decide +kernel
theorem dX12_soundOf_117 : decode cX12_soundOf 117 = .ok (.invokevirtual 283, 3) := by decide +kernel
theorem dX12_soundOf_120 : decode cX12_soundOf 120 = .ok (.ifCond .ne 9, 3) := by decide +kernel
theorem dX12_soundOf_123 : decode cX12_soundOf 123 = .ok (.iconst 1, 1) := by decide +kernel
theorem dX12_soundOf_124 : decode cX12_soundOf 124 = .ok (.iload_n 2, 1) := by decide +kernel
theorem dX12_soundOf_125 : decode cX12_soundOf 125 = .ok (.ishl, 1) := by decide +kernel
theorem dX12_soundOf_126 : decode cX12_soundOf 126 = .ok (.goto 4, 3) := by decide +kernel
theorem dX12_soundOf_129 : decode cX12_soundOf 129 = .ok (.iconst 0, 1) := by decide +kernel
theorem dX12_soundOf_130 : decode cX12_soundOf 130 = .ok (.ior, 1) := by decide +kernel
theorem dX12_soundOf_131 : decode cX12_soundOf 131 = .ok (.istore_n 1, 1) := by decide +kernel
theorem dX12_soundOf_132 : decode cX12_soundOf 132 = .ok (.iinc 2 1, 3) := by decide +kernel
theorem dX12_soundOf_135 : decode cX12_soundOf 135 = .ok (.goto (-29), 3) := by decide +kernel
theorem dX12_soundOf_138 : decode cX12_soundOf 138 = .ok (.iload_n 1, 1) := by decide +kernel
theorem dX12_soundOf_139 : decode cX12_soundOf 139 = .ok (.ireturn, 1) := by decide +kernel
theorem dX12_sound_0 : decode cX12_sound 0 = .ok (.aload_n 0, 1) := by decide +kernel
theorem dX12_sound_1 : decode cX12_sound 1 = .ok (.invokevirtual 286, 3) := by decide +kernel
theorem dX12_sound_4 : decode cX12_sound 4 = .ok (.ifCond .eq 8, 3) := by decide +kernel
theorem dX12_sound_7 : decode cX12_sound 7 = .ok (.bipush (-103), 2) := by decide +kernel
theorem dX12_sound_9 : decode cX12_sound 9 = .ok (.goto 7, 3) := by decide +kernel
theorem dX12_sound_12 : decode cX12_sound 12 = .ok (.aload_n 0, 1) := by decide +kernel
theorem dX12_sound_13 : decode cX12_sound 13 = .ok (.invokevirtual 290, 3) := by decide +kernel
theorem dX12_sound_16 : decode cX12_sound 16 = .ok (.ireturn, 1) := by decide +kernel
theorem dX12_goAll_0 : decode cX12_goAll 0 = .ok (.iconst 0, 1) := by decide +kernel
theorem dX12_goAll_1 : decode cX12_goAll 1 = .ok (.istore_n 3, 1) := by decide +kernel
theorem dX12_goAll_2 : decode cX12_goAll 2 = .ok (.iconst 0, 1) := by decide +kernel
theorem dX12_goAll_3 : decode cX12_goAll 3 = .ok (.istore 4, 2) := by decide +kernel
theorem dX12_goAll_5 : decode cX12_goAll 5 = .ok (.iload 4, 2) := by decide +kernel
theorem dX12_goAll_7 : decode cX12_goAll 7 = .ok (.aload_n 0, 1) := by decide +kernel
theorem dX12_goAll_8 : decode cX12_goAll 8 = .ok (.getfield 156, 3) := by decide +kernel
theorem dX12_goAll_11 : decode cX12_goAll 11 = .ok (.if_icmp .ge 29, 3) := by decide +kernel
theorem dX12_goAll_14 : decode cX12_goAll 14 = .ok (.iload_n 3, 1) := by decide +kernel
theorem dX12_goAll_15 : decode cX12_goAll 15 = .ok (.aload_n 0, 1) := by decide +kernel
theorem dX12_goAll_16 : decode cX12_goAll 16 = .ok (.iload_n 1, 1) := by decide +kernel
theorem dX12_goAll_17 : decode cX12_goAll 17 = .ok (.iload 4, 2) := by decide +kernel
theorem dX12_goAll_19 : decode cX12_goAll 19 = .ok (.iload_n 2, 1) := by decide +kernel
theorem dX12_goAll_20 : decode cX12_goAll 20 = .ok (.invokevirtual 187, 3) := by decide +kernel
theorem dX12_goAll_23 : decode cX12_goAll 23 = .ok (.iconst (-1), 1) := by decide +kernel
theorem dX12_goAll_24 : decode cX12_goAll 24 = .ok (.if_icmp .eq 7, 3) := by decide +kernel
theorem dX12_goAll_27 : decode cX12_goAll 27 = .ok (.iconst 1, 1) := by decide +kernel
theorem dX12_goAll_28 : decode cX12_goAll 28 = .ok (.goto 4, 3) := by decide +kernel
theorem dX12_goAll_31 : decode cX12_goAll 31 = .ok (.iconst 0, 1) := by decide +kernel
theorem dX12_goAll_32 : decode cX12_goAll 32 = .ok (.iadd, 1) := by decide +kernel
theorem dX12_goAll_33 : decode cX12_goAll 33 = .ok (.istore_n 3, 1) := by decide +kernel
theorem dX12_goAll_34 : decode cX12_goAll 34 = .ok (.iinc 4 1, 3) := by decide +kernel
theorem dX12_goAll_37 : decode cX12_goAll 37 = .ok (.goto (-32), 3) := by decide +kernel
theorem dX12_goAll_40 : decode cX12_goAll 40 = .ok (.aload_n 0, 1) := by decide +kernel
theorem dX12_goAll_41 : decode cX12_goAll 41 = .ok (.getfield 73, 3) := by decide +kernel
theorem dX12_goAll_44 : decode cX12_goAll 44 = .ok (.iload_n 2, 1) := by decide +kernel
theorem dX12_goAll_45 : decode cX12_goAll 45 = .ok (.dup2, 1) := by decide +kernel
theorem dX12_goAll_46 : decode cX12_goAll 46 = .ok (.iaload, 1) := by decide +kernel
theorem dX12_goAll_47 : decode cX12_goAll 47 = .ok (.iload_n 3, 1) := by decide +kernel
theorem dX12_goAll_48 : decode cX12_goAll 48 = .ok (.ifCond .ne 15, 3) := by decide +kernel
theorem dX12_goAll_51 : decode cX12_goAll 51 = .ok (.bipush 60, 2) := by decide +kernel
theorem dX12_goAll_53 : decode cX12_goAll 53 = .ok (.aload_n 0, 1) := by decide +kernel
theorem dX12_goAll_54 : decode cX12_goAll 54 = .ok (.getfield 70, 3) := by decide +kernel
theorem dX12_goAll_57 : decode cX12_goAll 57 = .ok (.iload_n 2, 1) := by decide +kernel
theorem dX12_goAll_58 : decode cX12_goAll 58 = .ok (.iaload, 1) := by decide +kernel
theorem dX12_goAll_59 : decode cX12_goAll 59 = .ok (.imul, 1) := by decide +kernel
theorem dX12_goAll_60 : decode cX12_goAll 60 = .ok (.goto 4, 3) := by decide +kernel
theorem dX12_goAll_63 : decode cX12_goAll 63 = .ok (.iconst 0, 1) := by decide +kernel
theorem dX12_goAll_64 : decode cX12_goAll 64 = .ok (.iadd, 1) := by decide +kernel
theorem dX12_goAll_65 : decode cX12_goAll 65 = .ok (.iastore, 1) := by decide +kernel
theorem dX12_goAll_66 : decode cX12_goAll 66 = .ok (.iconst 0, 1) := by decide +kernel
theorem dX12_goAll_67 : decode cX12_goAll 67 = .ok (.istore 4, 2) := by decide +kernel
theorem dX12_goAll_69 : decode cX12_goAll 69 = .ok (.iload 4, 2) := by decide +kernel
theorem dX12_goAll_71 : decode cX12_goAll 71 = .ok (.aload_n 0, 1) := by decide +kernel
theorem dX12_goAll_72 : decode cX12_goAll 72 = .ok (.getfield 156, 3) := by decide +kernel
theorem dX12_goAll_75 : decode cX12_goAll 75 = .ok (.if_icmp .ge 46, 3) := by decide +kernel
theorem dX12_goAll_78 : decode cX12_goAll 78 = .ok (.aload_n 0, 1) := by decide +kernel
theorem dX12_goAll_79 : decode cX12_goAll 79 = .ok (.iload_n 1, 1) := by decide +kernel
theorem dX12_goAll_80 : decode cX12_goAll 80 = .ok (.iload 4, 2) := by decide +kernel
theorem dX12_goAll_82 : decode cX12_goAll 82 = .ok (.iload_n 2, 1) := by decide +kernel
theorem dX12_goAll_83 : decode cX12_goAll 83 = .ok (.invokevirtual 187, 3) := by decide +kernel
theorem dX12_goAll_86 : decode cX12_goAll 86 = .ok (.istore 5, 2) := by decide +kernel
theorem dX12_goAll_88 : decode cX12_goAll 88 = .ok (.iload 5, 2) := by decide +kernel
theorem dX12_goAll_90 : decode cX12_goAll 90 = .ok (.iconst (-1), 1) := by decide +kernel
theorem dX12_goAll_91 : decode cX12_goAll 91 = .ok (.if_icmp .eq 24, 3) := by decide +kernel
theorem dX12_goAll_94 : decode cX12_goAll 94 = .ok (.aload_n 0, 1) := by decide +kernel
theorem dX12_goAll_95 : decode cX12_goAll 95 = .ok (.getfield 73, 3) := by decide +kernel
theorem dX12_goAll_98 : decode cX12_goAll 98 = .ok (.iload 5, 2) := by decide +kernel
theorem dX12_goAll_100 : decode cX12_goAll 100 = .ok (.dup2, 1) := by decide +kernel
theorem dX12_goAll_101 : decode cX12_goAll 101 = .ok (.iaload, 1) := by decide +kernel
theorem dX12_goAll_102 : decode cX12_goAll 102 = .ok (.bipush 60, 2) := by decide +kernel
theorem dX12_goAll_104 : decode cX12_goAll 104 = .ok (.iload_n 3, 1) := by decide +kernel
theorem dX12_goAll_105 : decode cX12_goAll 105 = .ok (.idiv, 1) := by decide +kernel
theorem dX12_goAll_106 : decode cX12_goAll 106 = .ok (.aload_n 0, 1) := by decide +kernel
theorem dX12_goAll_107 : decode cX12_goAll 107 = .ok (.getfield 70, 3) := by decide +kernel
theorem dX12_goAll_110 : decode cX12_goAll 110 = .ok (.iload_n 2, 1) := by decide +kernel
theorem dX12_goAll_111 : decode cX12_goAll 111 = .ok (.iaload, 1) := by decide +kernel
theorem dX12_goAll_112 : decode cX12_goAll 112 = .ok (.imul, 1) := by decide +kernel
theorem dX12_goAll_113 : decode cX12_goAll 113 = .ok (.iadd, 1) := by decide +kernel
theorem dX12_goAll_114 : decode cX12_goAll 114 = .ok (.iastore, 1) := by decide +kernel
theorem dX12_goAll_115 : decode cX12_goAll 115 = .ok (.iinc 4 1, 3) := by decide +kernel
theorem dX12_goAll_118 : decode cX12_goAll 118 = .ok (.goto (-49), 3) := by decide +kernel
theorem dX12_goAll_121 : decode cX12_goAll 121 = .ok (.return_, 1) := by decide +kernel
theorem dX12_metOf_0 : decode cX12_metOf 0 = .ok (.iconst 1, 1) := by decide +kernel
theorem dX12_metOf_1 : decode cX12_metOf 1 = .ok (.istore 5, 2) := by decide +kernel
theorem dX12_metOf_3 : decode cX12_metOf 3 = .ok (.iconst 0, 1) := by decide +kernel
theorem dX12_metOf_4 : decode cX12_metOf 4 = .ok (.istore 6, 2) := by decide +kernel
theorem dX12_metOf_6 : decode cX12_metOf 6 = .ok (.iload 6, 2) := by decide +kernel
theorem dX12_metOf_8 : decode cX12_metOf 8 = .ok (.bipush 6, 2) := by decide +kernel
theorem dX12_metOf_10 : decode cX12_metOf 10 = .ok (.if_icmp .ge 43, 3) := by decide +kernel
theorem dX12_metOf_13 : decode cX12_metOf 13 = .ok (.aload_n 0, 1) := by decide +kernel
theorem dX12_metOf_14 : decode cX12_metOf 14 = .ok (.getfield 70, 3) := by decide +kernel
theorem dX12_metOf_17 : decode cX12_metOf 17 = .ok (.iload 6, 2) := by decide +kernel
theorem dX12_metOf_19 : decode cX12_metOf 19 = .ok (.iload 6, 2) := by decide +kernel
theorem dX12_metOf_21 : decode cX12_metOf 21 = .ok (.aload_n 0, 1) := by decide +kernel
theorem dX12_metOf_22 : decode cX12_metOf 22 = .ok (.getfield 28, 3) := by decide +kernel
theorem dX12_metOf_25 : decode cX12_metOf 25 = .ok (.iload_n 1, 1) := by decide +kernel
theorem dX12_metOf_26 : decode cX12_metOf 26 = .ok (.iaload, 1) := by decide +kernel
theorem dX12_metOf_27 : decode cX12_metOf 27 = .ok (.if_icmp .ne 18, 3) := by decide +kernel
theorem dX12_metOf_30 : decode cX12_metOf 30 = .ok (.iload 6, 2) := by decide +kernel
theorem dX12_metOf_32 : decode cX12_metOf 32 = .ok (.aload_n 0, 1) := by decide +kernel
theorem dX12_metOf_33 : decode cX12_metOf 33 = .ok (.getfield 28, 3) := by decide +kernel
theorem dX12_metOf_36 : decode cX12_metOf 36 = .ok (.iload_n 2, 1) := by decide +kernel
theorem dX12_metOf_37 : decode cX12_metOf 37 = .ok (.iaload, 1) := by decide +kernel
theorem dX12_metOf_38 : decode cX12_metOf 38 = .ok (.if_icmp .eq 7, 3) := by decide +kernel
theorem dX12_metOf_41 : decode cX12_metOf 41 = .ok (.iconst 1, 1) := by decide +kernel
theorem dX12_metOf_42 : decode cX12_metOf 42 = .ok (.goto 4, 3) := by decide +kernel
theorem dX12_metOf_45 : decode cX12_metOf 45 = .ok (.iconst 0, 1) := by decide +kernel
theorem dX12_metOf_46 : decode cX12_metOf 46 = .ok (.iastore, 1) := by decide +kernel
theorem dX12_metOf_47 : decode cX12_metOf 47 = .ok (.iinc 6 1, 3) := by decide +kernel
theorem dX12_metOf_50 : decode cX12_metOf 50 = .ok (.goto (-44), 3) := by decide +kernel
theorem dX12_metOf_53 : decode cX12_metOf 53 = .ok (.iconst 0, 1) := by decide +kernel
theorem dX12_metOf_54 : decode cX12_metOf 54 = .ok (.istore 6, 2) := by decide +kernel
theorem dX12_metOf_56 : decode cX12_metOf 56 = .ok (.iload 6, 2) := by decide +kernel
theorem dX12_metOf_58 : decode cX12_metOf 58 = .ok (.iload_n 3, 1) := by decide +kernel
theorem dX12_metOf_59 : decode cX12_metOf 59 = .ok (.if_icmp .ge 88, 3) := by decide +kernel
theorem dX12_metOf_62 : decode cX12_metOf 62 = .ok (.iload 5, 2) := by decide +kernel
theorem dX12_metOf_64 : decode cX12_metOf 64 = .ok (.bipush 60, 2) := by decide +kernel
theorem dX12_metOf_66 : decode cX12_metOf 66 = .ok (.imul, 1) := by decide +kernel
theorem dX12_metOf_67 : decode cX12_metOf 67 = .ok (.istore 5, 2) := by decide +kernel
theorem dX12_metOf_69 : decode cX12_metOf 69 = .ok (.iconst 0, 1) := by decide +kernel
theorem dX12_metOf_70 : decode cX12_metOf 70 = .ok (.istore 7, 2) := by decide +kernel
theorem dX12_metOf_72 : decode cX12_metOf 72 = .ok (.iload 7, 2) := by decide +kernel
theorem dX12_metOf_74 : decode cX12_metOf 74 = .ok (.bipush 6, 2) := by decide +kernel
theorem dX12_metOf_76 : decode cX12_metOf 76 = .ok (.if_icmp .ge 17, 3) := by decide +kernel
theorem dX12_metOf_79 : decode cX12_metOf 79 = .ok (.aload_n 0, 1) := by decide +kernel
theorem dX12_metOf_80 : decode cX12_metOf 80 = .ok (.getfield 73, 3) := by decide +kernel
theorem dX12_metOf_83 : decode cX12_metOf 83 = .ok (.iload 7, 2) := by decide +kernel
theorem dX12_metOf_85 : decode cX12_metOf 85 = .ok (.iconst 0, 1) := by decide +kernel
theorem dX12_metOf_86 : decode cX12_metOf 86 = .ok (.iastore, 1) := by decide +kernel
theorem dX12_metOf_87 : decode cX12_metOf 87 = .ok (.iinc 7 1, 3) := by decide +kernel
theorem dX12_metOf_90 : decode cX12_metOf 90 = .ok (.goto (-18), 3) := by decide +kernel
theorem dX12_metOf_93 : decode cX12_metOf 93 = .ok (.iconst 0, 1) := by decide +kernel
theorem dX12_metOf_94 : decode cX12_metOf 94 = .ok (.istore 7, 2) := by decide +kernel
theorem dX12_metOf_96 : decode cX12_metOf 96 = .ok (.iload 7, 2) := by decide +kernel
theorem dX12_metOf_98 : decode cX12_metOf 98 = .ok (.aload_n 0, 1) := by decide +kernel
theorem dX12_metOf_99 : decode cX12_metOf 99 = .ok (.getfield 153, 3) := by decide +kernel
theorem dX12_metOf_102 : decode cX12_metOf 102 = .ok (.if_icmp .ge 16, 3) := by decide +kernel
theorem dX12_metOf_105 : decode cX12_metOf 105 = .ok (.aload_n 0, 1) := by decide +kernel
theorem dX12_metOf_106 : decode cX12_metOf 106 = .ok (.iload_n 1, 1) := by decide +kernel
theorem dX12_metOf_107 : decode cX12_metOf 107 = .ok (.iload 7, 2) := by decide +kernel
theorem dX12_metOf_109 : decode cX12_metOf 109 = .ok (.invokevirtual 293, 3) := by decide +kernel
theorem dX12_metOf_112 : decode cX12_metOf 112 = .ok (.iinc 7 1, 3) := by decide +kernel
theorem dX12_metOf_115 : decode cX12_metOf 115 = .ok (.goto (-19), 3) := by decide +kernel
theorem dX12_metOf_118 : decode cX12_metOf 118 = .ok (.aload_n 0, 1) := by decide +kernel
theorem dX12_metOf_119 : decode cX12_metOf 119 = .ok (.getfield 73, 3) := by decide +kernel
theorem dX12_metOf_122 : decode cX12_metOf 122 = .ok (.aload_n 0, 1) := by decide +kernel
theorem dX12_metOf_123 : decode cX12_metOf 123 = .ok (.getfield 70, 3) := by decide +kernel
theorem dX12_metOf_126 : decode cX12_metOf 126 = .ok (.invokestatic 177, 3) := by decide +kernel
theorem dX12_metOf_129 : decode cX12_metOf 129 = .ok (.aload_n 0, 1) := by decide +kernel
theorem dX12_metOf_130 : decode cX12_metOf 130 = .ok (.getfield 70, 3) := by decide +kernel
theorem dX12_metOf_133 : decode cX12_metOf 133 = .ok (.aload_n 0, 1) := by decide +kernel
theorem dX12_metOf_134 : decode cX12_metOf 134 = .ok (.getfield 28, 3) := by decide +kernel
theorem dX12_metOf_137 : decode cX12_metOf 137 = .ok (.iload_n 2, 1) := by decide +kernel
theorem dX12_metOf_138 : decode cX12_metOf 138 = .ok (.iaload, 1) := by decide +kernel
theorem dX12_metOf_139 : decode cX12_metOf 139 = .ok (.iconst 0, 1) := by decide +kernel
theorem dX12_metOf_140 : decode cX12_metOf 140 = .ok (.iastore, 1) := by decide +kernel
theorem dX12_metOf_141 : decode cX12_metOf 141 = .ok (.iinc 6 1, 3) := by decide +kernel
theorem dX12_metOf_144 : decode cX12_metOf 144 = .ok (.goto (-88), 3) := by decide +kernel
theorem dX12_metOf_147 : decode cX12_metOf 147 = .ok (.iload 5, 2) := by decide +kernel
theorem dX12_metOf_149 : decode cX12_metOf 149 = .ok (.istore 6, 2) := by decide +kernel
theorem dX12_metOf_151 : decode cX12_metOf 151 = .ok (.iconst 0, 1) := by decide +kernel
theorem dX12_metOf_152 : decode cX12_metOf 152 = .ok (.istore 7, 2) := by decide +kernel
theorem dX12_metOf_154 : decode cX12_metOf 154 = .ok (.iload 7, 2) := by decide +kernel
theorem dX12_metOf_156 : decode cX12_metOf 156 = .ok (.bipush 6, 2) := by decide +kernel
theorem dX12_metOf_158 : decode cX12_metOf 158 = .ok (.if_icmp .ge 21, 3) := by decide +kernel
theorem dX12_metOf_161 : decode cX12_metOf 161 = .ok (.iload 6, 2) := by decide +kernel
theorem dX12_metOf_163 : decode cX12_metOf 163 = .ok (.aload_n 0, 1) := by decide +kernel
theorem dX12_metOf_164 : decode cX12_metOf 164 = .ok (.getfield 70, 3) := by decide +kernel
theorem dX12_metOf_167 : decode cX12_metOf 167 = .ok (.iload 7, 2) := by decide +kernel
theorem dX12_metOf_169 : decode cX12_metOf 169 = .ok (.iaload, 1) := by decide +kernel
theorem dX12_metOf_170 : decode cX12_metOf 170 = .ok (.isub, 1) := by decide +kernel
theorem dX12_metOf_171 : decode cX12_metOf 171 = .ok (.istore 6, 2) := by decide +kernel
theorem dX12_metOf_173 : decode cX12_metOf 173 = .ok (.iinc 7 1, 3) := by decide +kernel
theorem dX12_metOf_176 : decode cX12_metOf 176 = .ok (.goto (-22), 3) := by decide +kernel
theorem dX12_metOf_179 : decode cX12_metOf 179 = .ok (.iload 5, 2) := by decide +kernel
theorem dX12_metOf_181 : decode cX12_metOf 181 = .ok (.istore 7, 2) := by decide +kernel
theorem dX12_metOf_183 : decode cX12_metOf 183 = .ok (.iload 6, 2) := by decide +kernel
theorem dX12_metOf_185 : decode cX12_metOf 185 = .ok (.istore 8, 2) := by decide +kernel
theorem dX12_metOf_187 : decode cX12_metOf 187 = .ok (.iload 8, 2) := by decide +kernel
theorem dX12_metOf_189 : decode cX12_metOf 189 = .ok (.ifCond .le 21, 3) := by decide +kernel
theorem dX12_metOf_192 : decode cX12_metOf 192 = .ok (.iload 7, 2) := by decide +kernel
theorem dX12_metOf_194 : decode cX12_metOf 194 = .ok (.iload 8, 2) := by decide +kernel
theorem dX12_metOf_196 : decode cX12_metOf 196 = .ok (.irem, 1) := by decide +kernel
theorem dX12_metOf_197 : decode cX12_metOf 197 = .ok (.istore 9, 2) := by decide +kernel
theorem dX12_metOf_199 : decode cX12_metOf 199 = .ok (.iload 8, 2) := by decide +kernel
theorem dX12_metOf_201 : decode cX12_metOf 201 = .ok (.istore 7, 2) := by decide +kernel
theorem dX12_metOf_203 : decode cX12_metOf 203 = .ok (.iload 9, 2) := by decide +kernel
theorem dX12_metOf_205 : decode cX12_metOf 205 = .ok (.istore 8, 2) := by decide +kernel
theorem dX12_metOf_207 : decode cX12_metOf 207 = .ok (.goto (-20), 3) := by decide +kernel
theorem dX12_metOf_210 : decode cX12_metOf 210 = .ok (.iload 4, 2) := by decide +kernel
theorem dX12_metOf_212 : decode cX12_metOf 212 = .ok (.ifCond .ne 11, 3) := by decide +kernel
theorem dX12_metOf_215 : decode cX12_metOf 215 = .ok (.iload 6, 2) := by decide +kernel
theorem dX12_metOf_217 : decode cX12_metOf 217 = .ok (.iload 7, 2) := by decide +kernel
theorem dX12_metOf_219 : decode cX12_metOf 219 = .ok (.idiv, 1) := by decide +kernel
theorem dX12_metOf_220 : decode cX12_metOf 220 = .ok (.goto 8, 3) := by decide +kernel
theorem dX12_metOf_223 : decode cX12_metOf 223 = .ok (.iload 5, 2) := by decide +kernel
theorem dX12_metOf_225 : decode cX12_metOf 225 = .ok (.iload 7, 2) := by decide +kernel
theorem dX12_metOf_227 : decode cX12_metOf 227 = .ok (.idiv, 1) := by decide +kernel
theorem dX12_metOf_228 : decode cX12_metOf 228 = .ok (.ireturn, 1) := by decide +kernel
theorem dX12_met_0 : decode cX12_met 0 = .ok (.aload_n 0, 1) := by decide +kernel
theorem dX12_met_1 : decode cX12_met 1 = .ok (.iload_n 1, 1) := by decide +kernel
theorem dX12_met_2 : decode cX12_met 2 = .ok (.invokevirtual 215, 3) := by decide +kernel
theorem dX12_met_5 : decode cX12_met 5 = .ok (.ifCond .eq 16, 3) := by decide +kernel
theorem dX12_met_8 : decode cX12_met 8 = .ok (.aload_n 0, 1) := by decide +kernel
theorem dX12_met_9 : decode cX12_met 9 = .ok (.iload_n 2, 1) := by decide +kernel
theorem dX12_met_10 : decode cX12_met 10 = .ok (.invokevirtual 215, 3) := by decide +kernel
theorem dX12_met_13 : decode cX12_met 13 = .ok (.ifCond .eq 8, 3) := by decide +kernel
theorem dX12_met_16 : decode cX12_met 16 = .ok (.iload_n 1, 1) := by decide +kernel
theorem dX12_met_17 : decode cX12_met 17 = .ok (.iload_n 2, 1) := by decide +kernel
theorem dX12_met_18 : decode cX12_met 18 = .ok (.if_icmp .ne 6, 3) := by decide +kernel
theorem dX12_met_21 : decode cX12_met 21 = .ok (.bipush (-101), 2) := by decide +kernel
theorem dX12_met_23 : decode cX12_met 23 = .ok (.ireturn, 1) := by decide +kernel
theorem dX12_met_24 : decode cX12_met 24 = .ok (.iload_n 3, 1) := by decide +kernel
theorem dX12_met_25 : decode cX12_met 25 = .ok (.i2l, 1) := by decide +kernel
theorem dX12_met_26 : decode cX12_met 26 = .ok (.lconst 1, 1) := by decide +kernel
theorem dX12_met_27 : decode cX12_met 27 = .ok (.ldc2_w 296, 3) := by decide +kernel
theorem dX12_met_30 : decode cX12_met 30 = .ok (.invokestatic 103, 3) := by decide +kernel
theorem dX12_met_33 : decode cX12_met 33 = .ok (.ifCond .eq 26, 3) := by decide +kernel
theorem dX12_met_36 : decode cX12_met 36 = .ok (.iload 4, 2) := by decide +kernel
theorem dX12_met_38 : decode cX12_met 38 = .ok (.i2l, 1) := by decide +kernel
theorem dX12_met_39 : decode cX12_met 39 = .ok (.lconst 0, 1) := by decide +kernel
theorem dX12_met_40 : decode cX12_met 40 = .ok (.lconst 1, 1) := by decide +kernel
theorem dX12_met_41 : decode cX12_met 41 = .ok (.invokestatic 103, 3) := by decide +kernel
theorem dX12_met_44 : decode cX12_met 44 = .ok (.ifCond .eq 15, 3) := by decide +kernel
theorem dX12_met_47 : decode cX12_met 47 = .ok (.aload_n 0, 1) := by decide +kernel
theorem dX12_met_48 : decode cX12_met 48 = .ok (.iload_n 1, 1) := by decide +kernel
theorem dX12_met_49 : decode cX12_met 49 = .ok (.iload_n 2, 1) := by decide +kernel
theorem dX12_met_50 : decode cX12_met 50 = .ok (.iload_n 3, 1) := by decide +kernel
theorem dX12_met_51 : decode cX12_met 51 = .ok (.iload 4, 2) := by decide +kernel
theorem dX12_met_53 : decode cX12_met 53 = .ok (.invokevirtual 298, 3) := by decide +kernel
theorem dX12_met_56 : decode cX12_met 56 = .ok (.goto 5, 3) := by decide +kernel
theorem dX12_met_59 : decode cX12_met 59 = .ok (.bipush (-102), 2) := by decide +kernel
theorem dX12_met_61 : decode cX12_met 61 = .ok (.ireturn, 1) := by decide +kernel
theorem dX12_see_0 : decode cX12_see 0 = .ok (.aload_n 0, 1) := by decide +kernel
theorem dX12_see_1 : decode cX12_see 1 = .ok (.iload_n 1, 1) := by decide +kernel
theorem dX12_see_2 : decode cX12_see 2 = .ok (.invokevirtual 230, 3) := by decide +kernel
theorem dX12_see_5 : decode cX12_see 5 = .ok (.ifCond .ne 6, 3) := by decide +kernel
theorem dX12_see_8 : decode cX12_see 8 = .ok (.bipush (-101), 2) := by decide +kernel
theorem dX12_see_10 : decode cX12_see 10 = .ok (.ireturn, 1) := by decide +kernel
theorem dX12_see_11 : decode cX12_see 11 = .ok (.aload_n 0, 1) := by decide +kernel
theorem dX12_see_12 : decode cX12_see 12 = .ok (.getfield 171, 3) := by decide +kernel
theorem dX12_see_15 : decode cX12_see 15 = .ok (.bipush 6, 2) := by decide +kernel
theorem dX12_see_17 : decode cX12_see 17 = .ok (.if_icmp .ne 6, 3) := by decide +kernel
theorem dX12_see_20 : decode cX12_see 20 = .ok (.bipush (-104), 2) := by decide +kernel
theorem dX12_see_22 : decode cX12_see 22 = .ok (.ireturn, 1) := by decide +kernel
theorem dX12_see_23 : decode cX12_see 23 = .ok (.aload_n 0, 1) := by decide +kernel
theorem dX12_see_24 : decode cX12_see 24 = .ok (.getfield 76, 3) := by decide +kernel
theorem dX12_see_27 : decode cX12_see 27 = .ok (.iconst 2, 1) := by decide +kernel
theorem dX12_see_28 : decode cX12_see 28 = .ok (.aload_n 0, 1) := by decide +kernel
theorem dX12_see_29 : decode cX12_see 29 = .ok (.getfield 171, 3) := by decide +kernel
theorem dX12_see_32 : decode cX12_see 32 = .ok (.imul, 1) := by decide +kernel
theorem dX12_see_33 : decode cX12_see 33 = .ok (.iload_n 1, 1) := by decide +kernel
theorem dX12_see_34 : decode cX12_see 34 = .ok (.iastore, 1) := by decide +kernel
theorem dX12_see_35 : decode cX12_see 35 = .ok (.aload_n 0, 1) := by decide +kernel
theorem dX12_see_36 : decode cX12_see 36 = .ok (.getfield 76, 3) := by decide +kernel
theorem dX12_see_39 : decode cX12_see 39 = .ok (.iconst 2, 1) := by decide +kernel
theorem dX12_see_40 : decode cX12_see 40 = .ok (.aload_n 0, 1) := by decide +kernel
theorem dX12_see_41 : decode cX12_see 41 = .ok (.getfield 171, 3) := by decide +kernel
theorem dX12_see_44 : decode cX12_see 44 = .ok (.imul, 1) := by decide +kernel
theorem dX12_see_45 : decode cX12_see 45 = .ok (.iconst 1, 1) := by decide +kernel
theorem dX12_see_46 : decode cX12_see 46 = .ok (.iadd, 1) := by decide +kernel
theorem dX12_see_47 : decode cX12_see 47 = .ok (.iload_n 2, 1) := by decide +kernel
theorem dX12_see_48 : decode cX12_see 48 = .ok (.ifCond .eq 7, 3) := by decide +kernel
theorem dX12_see_51 : decode cX12_see 51 = .ok (.iconst 1, 1) := by decide +kernel
theorem dX12_see_52 : decode cX12_see 52 = .ok (.goto 4, 3) := by decide +kernel
theorem dX12_see_55 : decode cX12_see 55 = .ok (.iconst 0, 1) := by decide +kernel
theorem dX12_see_56 : decode cX12_see 56 = .ok (.iastore, 1) := by decide +kernel
theorem dX12_see_57 : decode cX12_see 57 = .ok (.aload_n 0, 1) := by decide +kernel
theorem dX12_see_58 : decode cX12_see 58 = .ok (.dup, 1) := by decide +kernel
theorem dX12_see_59 : decode cX12_see 59 = .ok (.getfield 171, 3) := by decide +kernel
theorem dX12_see_62 : decode cX12_see 62 = .ok (.iconst 1, 1) := by decide +kernel
theorem dX12_see_63 : decode cX12_see 63 = .ok (.iadd, 1) := by decide +kernel
theorem dX12_see_64 : decode cX12_see 64 = .ok (.putfield 171, 3) := by decide +kernel
theorem dX12_see_67 : decode cX12_see 67 = .ok (.aload_n 0, 1) := by decide +kernel
theorem dX12_see_68 : decode cX12_see 68 = .ok (.getfield 171, 3) := by decide +kernel
theorem dX12_see_71 : decode cX12_see 71 = .ok (.ireturn, 1) := by decide +kernel
theorem dX12_forget_0 : decode cX12_forget 0 = .ok (.aload_n 0, 1) := by decide +kernel
theorem dX12_forget_1 : decode cX12_forget 1 = .ok (.getfield 171, 3) := by decide +kernel
theorem dX12_forget_4 : decode cX12_forget 4 = .ok (.istore_n 1, 1) := by decide +kernel
theorem dX12_forget_5 : decode cX12_forget 5 = .ok (.aload_n 0, 1) := by decide +kernel
theorem dX12_forget_6 : decode cX12_forget 6 = .ok (.iconst 0, 1) := by decide +kernel
theorem dX12_forget_7 : decode cX12_forget 7 = .ok (.putfield 171, 3) := by decide +kernel
theorem dX12_forget_10 : decode cX12_forget 10 = .ok (.iload_n 1, 1) := by decide +kernel
theorem dX12_forget_11 : decode cX12_forget 11 = .ok (.ireturn, 1) := by decide +kernel
theorem dX12_draw_0 : decode cX12_draw 0 = .ok (.aload_n 0, 1) := by decide +kernel
theorem dX12_draw_1 : decode cX12_draw 1 = .ok (.ldc2_w 302, 3) := by decide +kernel
theorem dX12_draw_4 : decode cX12_draw 4 = .ok (.aload_n 0, 1) := by decide +kernel
theorem dX12_draw_5 : decode cX12_draw 5 = .ok (.getfield 304, 3) := by decide +kernel
theorem dX12_draw_8 : decode cX12_draw 8 = .ok (.i2l, 1) := by decide +kernel
theorem dX12_draw_9 : decode cX12_draw 9 = .ok (.lmul, 1) := by decide +kernel
theorem dX12_draw_10 : decode cX12_draw 10 = .ok (.ldc2_w 307, 3) := by decide +kernel
theorem dX12_draw_13 : decode cX12_draw 13 = .ok (.ladd, 1) := by decide +kernel
theorem dX12_draw_14 : decode cX12_draw 14 = .ok (.ldc2_w 309, 3) := by decide +kernel
theorem dX12_draw_17 : decode cX12_draw 17 = .ok (.land, 1) := by decide +kernel
theorem dX12_draw_18 : decode cX12_draw 18 = .ok (.l2i, 1) := by decide +kernel
theorem dX12_draw_19 : decode cX12_draw 19 = .ok (.putfield 304, 3) := by decide +kernel
theorem dX12_draw_22 : decode cX12_draw 22 = .ok (.aload_n 0, 1) := by decide +kernel
theorem dX12_draw_23 : decode cX12_draw 23 = .ok (.getfield 304, 3) := by decide +kernel
theorem dX12_draw_26 : decode cX12_draw 26 = .ok (.ldc_w 311, 3) := by decide +kernel
theorem dX12_draw_29 : decode cX12_draw 29 = .ok (.idiv, 1) := by decide +kernel
theorem dX12_draw_30 : decode cX12_draw 30 = .ok (.iload_n 1, 1) := by decide +kernel
theorem dX12_draw_31 : decode cX12_draw 31 = .ok (.irem, 1) := by decide +kernel
theorem dX12_draw_32 : decode cX12_draw 32 = .ok (.ireturn, 1) := by decide +kernel
theorem dX12_payAll_0 : decode cX12_payAll 0 = .ok (.iconst 0, 1) := by decide +kernel
theorem dX12_payAll_1 : decode cX12_payAll 1 = .ok (.istore_n 2, 1) := by decide +kernel
theorem dX12_payAll_2 : decode cX12_payAll 2 = .ok (.iconst 0, 1) := by decide +kernel
theorem dX12_payAll_3 : decode cX12_payAll 3 = .ok (.istore_n 3, 1) := by decide +kernel
theorem dX12_payAll_4 : decode cX12_payAll 4 = .ok (.iload_n 3, 1) := by decide +kernel
theorem dX12_payAll_5 : decode cX12_payAll 5 = .ok (.aload_n 0, 1) := by decide +kernel
theorem dX12_payAll_6 : decode cX12_payAll 6 = .ok (.getfield 162, 3) := by decide +kernel
theorem dX12_payAll_9 : decode cX12_payAll 9 = .ok (.if_icmp .ge 41, 3) := by decide +kernel
theorem dX12_payAll_12 : decode cX12_payAll 12 = .ok (.aload_n 0, 1) := by decide +kernel
theorem dX12_payAll_13 : decode cX12_payAll 13 = .ok (.getfield 34, 3) := by decide +kernel
theorem dX12_payAll_16 : decode cX12_payAll 16 = .ok (.iload_n 3, 1) := by decide +kernel
theorem dX12_payAll_17 : decode cX12_payAll 17 = .ok (.iaload, 1) := by decide +kernel
theorem dX12_payAll_18 : decode cX12_payAll 18 = .ok (.iload_n 1, 1) := by decide +kernel
theorem dX12_payAll_19 : decode cX12_payAll 19 = .ok (.if_icmp .ne 25, 3) := by decide +kernel
theorem dX12_payAll_22 : decode cX12_payAll 22 = .ok (.aload_n 0, 1) := by decide +kernel
theorem dX12_payAll_23 : decode cX12_payAll 23 = .ok (.iload_n 3, 1) := by decide +kernel
theorem dX12_payAll_24 : decode cX12_payAll 24 = .ok (.invokevirtual 194, 3) := by decide +kernel
theorem dX12_payAll_27 : decode cX12_payAll 27 = .ok (.ifCond .eq 17, 3) := by decide +kernel
theorem dX12_payAll_30 : decode cX12_payAll 30 = .ok (.aload_n 0, 1) := by decide +kernel
theorem dX12_payAll_31 : decode cX12_payAll 31 = .ok (.iload_n 3, 1) := by decide +kernel
theorem dX12_payAll_32 : decode cX12_payAll 32 = .ok (.invokevirtual 236, 3) := by decide +kernel
theorem dX12_payAll_35 : decode cX12_payAll 35 = .ok (.iload_n 2, 1) := by decide +kernel
theorem dX12_payAll_36 : decode cX12_payAll 36 = .ok (.aload_n 0, 1) := by decide +kernel
theorem dX12_payAll_37 : decode cX12_payAll 37 = .ok (.getfield 43, 3) := by decide +kernel
theorem dX12_payAll_40 : decode cX12_payAll 40 = .ok (.iload_n 3, 1) := by decide +kernel
theorem dX12_payAll_41 : decode cX12_payAll 41 = .ok (.iaload, 1) := by decide +kernel
theorem dX12_payAll_42 : decode cX12_payAll 42 = .ok (.iadd, 1) := by decide +kernel
theorem dX12_payAll_43 : decode cX12_payAll 43 = .ok (.istore_n 2, 1) := by decide +kernel
theorem dX12_payAll_44 : decode cX12_payAll 44 = .ok (.iinc 3 1, 3) := by decide +kernel
theorem dX12_payAll_47 : decode cX12_payAll 47 = .ok (.goto (-43), 3) := by decide +kernel
theorem dX12_payAll_50 : decode cX12_payAll 50 = .ok (.iload_n 2, 1) := by decide +kernel
theorem dX12_payAll_51 : decode cX12_payAll 51 = .ok (.ireturn, 1) := by decide +kernel
theorem dX12_paidMany_0 : decode cX12_paidMany 0 = .ok (.iconst 0, 1) := by decide +kernel
theorem dX12_paidMany_1 : decode cX12_paidMany 1 = .ok (.istore_n 2, 1) := by decide +kernel
theorem dX12_paidMany_2 : decode cX12_paidMany 2 = .ok (.iconst 0, 1) := by decide +kernel
theorem dX12_paidMany_3 : decode cX12_paidMany 3 = .ok (.istore_n 3, 1) := by decide +kernel
theorem dX12_paidMany_4 : decode cX12_paidMany 4 = .ok (.iload_n 3, 1) := by decide +kernel
theorem dX12_paidMany_5 : decode cX12_paidMany 5 = .ok (.aload_n 0, 1) := by decide +kernel
theorem dX12_paidMany_6 : decode cX12_paidMany 6 = .ok (.getfield 162, 3) := by decide +kernel
theorem dX12_paidMany_9 : decode cX12_paidMany 9 = .ok (.if_icmp .ge 15, 3) := by decide +kernel
theorem dX12_paidMany_12 : decode cX12_paidMany 12 = .ok (.iload_n 2, 1) := by decide +kernel
theorem dX12_paidMany_13 : decode cX12_paidMany 13 = .ok (.aload_n 1, 1) := by decide +kernel
theorem dX12_paidMany_14 : decode cX12_paidMany 14 = .ok (.iload_n 3, 1) := by decide +kernel
theorem dX12_paidMany_15 : decode cX12_paidMany 15 = .ok (.iaload, 1) := by decide +kernel
theorem dX12_paidMany_16 : decode cX12_paidMany 16 = .ok (.iadd, 1) := by decide +kernel
theorem dX12_paidMany_17 : decode cX12_paidMany 17 = .ok (.istore_n 2, 1) := by decide +kernel
theorem dX12_paidMany_18 : decode cX12_paidMany 18 = .ok (.iinc 3 1, 3) := by decide +kernel
theorem dX12_paidMany_21 : decode cX12_paidMany 21 = .ok (.goto (-17), 3) := by decide +kernel
theorem dX12_paidMany_24 : decode cX12_paidMany 24 = .ok (.iload_n 2, 1) := by decide +kernel
theorem dX12_paidMany_25 : decode cX12_paidMany 25 = .ok (.ireturn, 1) := by decide +kernel
theorem dX12_winters_0 : decode cX12_winters 0 = .ok (.iload_n 1, 1) := by decide +kernel
theorem dX12_winters_1 : decode cX12_winters 1 = .ok (.i2l, 1) := by decide +kernel
theorem dX12_winters_2 : decode cX12_winters 2 = .ok (.lconst 1, 1) := by decide +kernel
theorem dX12_winters_3 : decode cX12_winters 3 = .ok (.ldc2_w 312, 3) := by decide +kernel
theorem dX12_winters_6 : decode cX12_winters 6 = .ok (.invokestatic 103, 3) := by decide +kernel
theorem dX12_winters_9 : decode cX12_winters 9 = .ok (.ifCond .eq 19, 3) := by decide +kernel
theorem dX12_winters_12 : decode cX12_winters 12 = .ok (.iload_n 2, 1) := by decide +kernel
theorem dX12_winters_13 : decode cX12_winters 13 = .ok (.ifCond .lt 15, 3) := by decide +kernel
theorem dX12_winters_16 : decode cX12_winters 16 = .ok (.iload_n 3, 1) := by decide +kernel
theorem dX12_winters_17 : decode cX12_winters 17 = .ok (.i2l, 1) := by decide +kernel
theorem dX12_winters_18 : decode cX12_winters 18 = .ok (.lconst 0, 1) := by decide +kernel
theorem dX12_winters_19 : decode cX12_winters 19 = .ok (.ldc2_w 314, 3) := by decide +kernel
theorem dX12_winters_22 : decode cX12_winters 22 = .ok (.invokestatic 103, 3) := by decide +kernel
theorem dX12_winters_25 : decode cX12_winters 25 = .ok (.ifCond .ne 6, 3) := by decide +kernel
theorem dX12_winters_28 : decode cX12_winters 28 = .ok (.bipush (-102), 2) := by decide +kernel
theorem dX12_winters_30 : decode cX12_winters 30 = .ok (.ireturn, 1) := by decide +kernel
theorem dX12_winters_31 : decode cX12_winters 31 = .ok (.aload_n 0, 1) := by decide +kernel
theorem dX12_winters_32 : decode cX12_winters 32 = .ok (.invokevirtual 286, 3) := by decide +kernel
theorem dX12_winters_35 : decode cX12_winters 35 = .ok (.ifCond .eq 6, 3) := by decide +kernel
theorem dX12_winters_38 : decode cX12_winters 38 = .ok (.bipush (-103), 2) := by decide +kernel
theorem dX12_winters_40 : decode cX12_winters 40 = .ok (.ireturn, 1) := by decide +kernel
theorem dX12_winters_41 : decode cX12_winters 41 = .ok (.aload_n 0, 1) := by decide +kernel
theorem dX12_winters_42 : decode cX12_winters 42 = .ok (.iload_n 2, 1) := by decide +kernel
theorem dX12_winters_43 : decode cX12_winters 43 = .ok (.putfield 304, 3) := by decide +kernel
theorem dX12_winters_46 : decode cX12_winters 46 = .ok (.aload_n 0, 1) := by decide +kernel
theorem dX12_winters_47 : decode cX12_winters 47 = .ok (.invokevirtual 191, 3) := by decide +kernel
theorem dX12_winters_50 : decode cX12_winters 50 = .ok (.iconst 0, 1) := by decide +kernel
theorem dX12_winters_51 : decode cX12_winters 51 = .ok (.istore 4, 2) := by decide +kernel
theorem dX12_winters_53 : decode cX12_winters 53 = .ok (.iconst 0, 1) := by decide +kernel
theorem dX12_winters_54 : decode cX12_winters 54 = .ok (.istore 5, 2) := by decide +kernel
theorem dX12_winters_56 : decode cX12_winters 56 = .ok (.iload 5, 2) := by decide +kernel
theorem dX12_winters_58 : decode cX12_winters 58 = .ok (.iload_n 1, 1) := by decide +kernel
theorem dX12_winters_59 : decode cX12_winters 59 = .ok (.if_icmp .ge 78, 3) := by decide +kernel
theorem dX12_winters_62 : decode cX12_winters 62 = .ok (.aload_n 0, 1) := by decide +kernel
theorem dX12_winters_63 : decode cX12_winters 63 = .ok (.aload_n 0, 1) := by decide +kernel
theorem dX12_winters_64 : decode cX12_winters 64 = .ok (.getfield 159, 3) := by decide +kernel
theorem dX12_winters_67 : decode cX12_winters 67 = .ok (.invokevirtual 316, 3) := by decide +kernel
theorem dX12_winters_70 : decode cX12_winters 70 = .ok (.istore 6, 2) := by decide +kernel
theorem dX12_winters_72 : decode cX12_winters 72 = .ok (.aload_n 0, 1) := by decide +kernel
theorem dX12_winters_73 : decode cX12_winters 73 = .ok (.iload 6, 2) := by decide +kernel
theorem dX12_winters_75 : decode cX12_winters 75 = .ok (.aload_n 0, 1) := by decide +kernel
theorem dX12_winters_76 : decode cX12_winters 76 = .ok (.aload_n 0, 1) := by decide +kernel
theorem dX12_winters_77 : decode cX12_winters 77 = .ok (.getfield 156, 3) := by decide +kernel
theorem dX12_winters_80 : decode cX12_winters 80 = .ok (.invokevirtual 316, 3) := by decide +kernel
theorem dX12_winters_83 : decode cX12_winters 83 = .ok (.aload_n 0, 1) := by decide +kernel
theorem dX12_winters_84 : decode cX12_winters 84 = .ok (.getfield 52, 3) := by decide +kernel
theorem dX12_winters_87 : decode cX12_winters 87 = .ok (.iload 6, 2) := by decide +kernel
theorem dX12_winters_89 : decode cX12_winters 89 = .ok (.iaload, 1) := by decide +kernel
theorem dX12_winters_90 : decode cX12_winters 90 = .ok (.invokevirtual 187, 3) := by decide +kernel
theorem dX12_winters_93 : decode cX12_winters 93 = .ok (.istore 7, 2) := by decide +kernel
theorem dX12_winters_95 : decode cX12_winters 95 = .ok (.aload_n 0, 1) := by decide +kernel
theorem dX12_winters_96 : decode cX12_winters 96 = .ok (.getfield 52, 3) := by decide +kernel
theorem dX12_winters_99 : decode cX12_winters 99 = .ok (.iload 6, 2) := by decide +kernel
theorem dX12_winters_101 : decode cX12_winters 101 = .ok (.iload 7, 2) := by decide +kernel
theorem dX12_winters_103 : decode cX12_winters 103 = .ok (.iconst (-1), 1) := by decide +kernel
theorem dX12_winters_104 : decode cX12_winters 104 = .ok (.if_icmp .ne 13, 3) := by decide +kernel
theorem dX12_winters_107 : decode cX12_winters 107 = .ok (.aload_n 0, 1) := by decide +kernel
theorem dX12_winters_108 : decode cX12_winters 108 = .ok (.getfield 52, 3) := by decide +kernel
theorem dX12_winters_111 : decode cX12_winters 111 = .ok (.iload 6, 2) := by decide +kernel
theorem dX12_winters_113 : decode cX12_winters 113 = .ok (.iaload, 1) := by decide +kernel
theorem dX12_winters_114 : decode cX12_winters 114 = .ok (.goto 5, 3) := by decide +kernel
theorem dX12_winters_117 : decode cX12_winters 117 = .ok (.iload 7, 2) := by decide +kernel
theorem dX12_winters_119 : decode cX12_winters 119 = .ok (.iastore, 1) := by decide +kernel
theorem dX12_winters_120 : decode cX12_winters 120 = .ok (.iload 4, 2) := by decide +kernel
theorem dX12_winters_122 : decode cX12_winters 122 = .ok (.aload_n 0, 1) := by decide +kernel
theorem dX12_winters_123 : decode cX12_winters 123 = .ok (.iload 6, 2) := by decide +kernel
theorem dX12_winters_125 : decode cX12_winters 125 = .ok (.invokevirtual 319, 3) := by decide +kernel
theorem dX12_winters_128 : decode cX12_winters 128 = .ok (.iadd, 1) := by decide +kernel
theorem dX12_winters_129 : decode cX12_winters 129 = .ok (.istore 4, 2) := by decide +kernel
theorem dX12_winters_131 : decode cX12_winters 131 = .ok (.iinc 5 1, 3) := by decide +kernel
theorem dX12_winters_134 : decode cX12_winters 134 = .ok (.goto (-78), 3) := by decide +kernel
theorem dX12_winters_137 : decode cX12_winters 137 = .ok (.iload_n 3, 1) := by decide +kernel
theorem dX12_winters_138 : decode cX12_winters 138 = .ok (.ifCond .ne 8, 3) := by decide +kernel
theorem dX12_winters_141 : decode cX12_winters 141 = .ok (.iload 4, 2) := by decide +kernel
theorem dX12_winters_143 : decode cX12_winters 143 = .ok (.goto 23, 3) := by decide +kernel
theorem dX12_winters_146 : decode cX12_winters 146 = .ok (.iload_n 3, 1) := by decide +kernel
theorem dX12_winters_147 : decode cX12_winters 147 = .ok (.iconst 1, 1) := by decide +kernel
theorem dX12_winters_148 : decode cX12_winters 148 = .ok (.if_icmp .ne 14, 3) := by decide +kernel
theorem dX12_winters_151 : decode cX12_winters 151 = .ok (.aload_n 0, 1) := by decide +kernel
theorem dX12_winters_152 : decode cX12_winters 152 = .ok (.aload_n 0, 1) := by decide +kernel
theorem dX12_winters_153 : decode cX12_winters 153 = .ok (.getfield 55, 3) := by decide +kernel
theorem dX12_winters_156 : decode cX12_winters 156 = .ok (.invokevirtual 322, 3) := by decide +kernel
theorem dX12_winters_159 : decode cX12_winters 159 = .ok (.goto 7, 3) := by decide +kernel
theorem dX12_winters_162 : decode cX12_winters 162 = .ok (.aload_n 0, 1) := by decide +kernel
theorem dX12_winters_163 : decode cX12_winters 163 = .ok (.getfield 304, 3) := by decide +kernel
theorem dX12_winters_166 : decode cX12_winters 166 = .ok (.ireturn, 1) := by decide +kernel
theorem dX12_image_0 : decode cX12_image 0 = .ok (.aload_n 0, 1) := by decide +kernel
theorem dX12_image_1 : decode cX12_image 1 = .ok (.invokevirtual 286, 3) := by decide +kernel
theorem dX12_image_4 : decode cX12_image 4 = .ok (.ifCond .eq 6, 3) := by decide +kernel
theorem dX12_image_7 : decode cX12_image 7 = .ok (.bipush (-103), 2) := by decide +kernel
theorem dX12_image_9 : decode cX12_image 9 = .ok (.ireturn, 1) := by decide +kernel
theorem dX12_image_10 : decode cX12_image 10 = .ok (.aload_n 0, 1) := by decide +kernel
theorem dX12_image_11 : decode cX12_image 11 = .ok (.getfield 25, 3) := by decide +kernel
theorem dX12_image_14 : decode cX12_image 14 = .ok (.aload_n 0, 1) := by decide +kernel
theorem dX12_image_15 : decode cX12_image 15 = .ok (.getfield 79, 3) := by decide +kernel
theorem dX12_image_18 : decode cX12_image 18 = .ok (.invokestatic 177, 3) := by decide +kernel
theorem dX12_image_21 : decode cX12_image 21 = .ok (.aload_n 0, 1) := by decide +kernel
theorem dX12_image_22 : decode cX12_image 22 = .ok (.getfield 28, 3) := by decide +kernel
theorem dX12_image_25 : decode cX12_image 25 = .ok (.aload_n 0, 1) := by decide +kernel
theorem dX12_image_26 : decode cX12_image 26 = .ok (.getfield 82, 3) := by decide +kernel
theorem dX12_image_29 : decode cX12_image 29 = .ok (.invokestatic 177, 3) := by decide +kernel
theorem dX12_image_32 : decode cX12_image 32 = .ok (.aload_n 0, 1) := by decide +kernel
theorem dX12_image_33 : decode cX12_image 33 = .ok (.getfield 31, 3) := by decide +kernel
theorem dX12_image_36 : decode cX12_image 36 = .ok (.aload_n 0, 1) := by decide +kernel
theorem dX12_image_37 : decode cX12_image 37 = .ok (.getfield 85, 3) := by decide +kernel
theorem dX12_image_40 : decode cX12_image 40 = .ok (.invokestatic 177, 3) := by decide +kernel
theorem dX12_image_43 : decode cX12_image 43 = .ok (.aload_n 0, 1) := by decide +kernel
theorem dX12_image_44 : decode cX12_image 44 = .ok (.getfield 43, 3) := by decide +kernel
theorem dX12_image_47 : decode cX12_image 47 = .ok (.aload_n 0, 1) := by decide +kernel
theorem dX12_image_48 : decode cX12_image 48 = .ok (.getfield 88, 3) := by decide +kernel
theorem dX12_image_51 : decode cX12_image 51 = .ok (.invokestatic 177, 3) := by decide +kernel
theorem dX12_image_54 : decode cX12_image 54 = .ok (.aload_n 0, 1) := by decide +kernel
theorem dX12_image_55 : decode cX12_image 55 = .ok (.getfield 46, 3) := by decide +kernel
theorem dX12_image_58 : decode cX12_image 58 = .ok (.aload_n 0, 1) := by decide +kernel
theorem dX12_image_59 : decode cX12_image 59 = .ok (.getfield 91, 3) := by decide +kernel
theorem dX12_image_62 : decode cX12_image 62 = .ok (.invokestatic 177, 3) := by decide +kernel
theorem dX12_image_65 : decode cX12_image 65 = .ok (.aload_n 0, 1) := by decide +kernel
theorem dX12_image_66 : decode cX12_image 66 = .ok (.getfield 76, 3) := by decide +kernel
theorem dX12_image_69 : decode cX12_image 69 = .ok (.aload_n 0, 1) := by decide +kernel
theorem dX12_image_70 : decode cX12_image 70 = .ok (.getfield 94, 3) := by decide +kernel
theorem dX12_image_73 : decode cX12_image 73 = .ok (.invokestatic 177, 3) := by decide +kernel
theorem dX12_image_76 : decode cX12_image 76 = .ok (.aload_n 0, 1) := by decide +kernel
theorem dX12_image_77 : decode cX12_image 77 = .ok (.aload_n 0, 1) := by decide +kernel
theorem dX12_image_78 : decode cX12_image 78 = .ok (.getfield 168, 3) := by decide +kernel
theorem dX12_image_81 : decode cX12_image 81 = .ok (.putfield 326, 3) := by decide +kernel
theorem dX12_image_84 : decode cX12_image 84 = .ok (.aload_n 0, 1) := by decide +kernel
theorem dX12_image_85 : decode cX12_image 85 = .ok (.aload_n 0, 1) := by decide +kernel
theorem dX12_image_86 : decode cX12_image 86 = .ok (.getfield 171, 3) := by decide +kernel
theorem dX12_image_89 : decode cX12_image 89 = .ok (.putfield 329, 3) := by decide +kernel
theorem dX12_image_92 : decode cX12_image 92 = .ok (.aload_n 0, 1) := by decide +kernel
theorem dX12_image_93 : decode cX12_image 93 = .ok (.aload_n 0, 1) := by decide +kernel
theorem dX12_image_94 : decode cX12_image 94 = .ok (.getfield 174, 3) := by decide +kernel
theorem dX12_image_97 : decode cX12_image 97 = .ok (.putfield 97, 3) := by decide +kernel
theorem dX12_image_100 : decode cX12_image 100 = .ok (.aload_n 0, 1) := by decide +kernel
theorem dX12_image_101 : decode cX12_image 101 = .ok (.getfield 168, 3) := by decide +kernel
theorem dX12_image_104 : decode cX12_image 104 = .ok (.ireturn, 1) := by decide +kernel
theorem dX12_restore_0 : decode cX12_restore 0 = .ok (.aload_n 0, 1) := by decide +kernel
theorem dX12_restore_1 : decode cX12_restore 1 = .ok (.getfield 97, 3) := by decide +kernel
theorem dX12_restore_4 : decode cX12_restore 4 = .ok (.aload_n 0, 1) := by decide +kernel
theorem dX12_restore_5 : decode cX12_restore 5 = .ok (.getfield 174, 3) := by decide +kernel
theorem dX12_restore_8 : decode cX12_restore 8 = .ok (.if_icmp .eq 6, 3) := by decide +kernel
theorem dX12_restore_11 : decode cX12_restore 11 = .ok (.bipush (-103), 2) := by decide +kernel
theorem dX12_restore_13 : decode cX12_restore 13 = .ok (.ireturn, 1) := by decide +kernel
theorem dX12_restore_14 : decode cX12_restore 14 = .ok (.aload_n 0, 1) := by decide +kernel
theorem dX12_restore_15 : decode cX12_restore 15 = .ok (.getfield 79, 3) := by decide +kernel
theorem dX12_restore_18 : decode cX12_restore 18 = .ok (.aload_n 0, 1) := by decide +kernel
theorem dX12_restore_19 : decode cX12_restore 19 = .ok (.getfield 25, 3) := by decide +kernel
theorem dX12_restore_22 : decode cX12_restore 22 = .ok (.invokestatic 177, 3) := by decide +kernel
theorem dX12_restore_25 : decode cX12_restore 25 = .ok (.aload_n 0, 1) := by decide +kernel
theorem dX12_restore_26 : decode cX12_restore 26 = .ok (.getfield 82, 3) := by decide +kernel
theorem dX12_restore_29 : decode cX12_restore 29 = .ok (.aload_n 0, 1) := by decide +kernel
theorem dX12_restore_30 : decode cX12_restore 30 = .ok (.getfield 28, 3) := by decide +kernel
theorem dX12_restore_33 : decode cX12_restore 33 = .ok (.invokestatic 177, 3) := by decide +kernel
theorem dX12_restore_36 : decode cX12_restore 36 = .ok (.aload_n 0, 1) := by decide +kernel
theorem dX12_restore_37 : decode cX12_restore 37 = .ok (.getfield 85, 3) := by decide +kernel
theorem dX12_restore_40 : decode cX12_restore 40 = .ok (.aload_n 0, 1) := by decide +kernel
theorem dX12_restore_41 : decode cX12_restore 41 = .ok (.getfield 31, 3) := by decide +kernel
theorem dX12_restore_44 : decode cX12_restore 44 = .ok (.invokestatic 177, 3) := by decide +kernel
theorem dX12_restore_47 : decode cX12_restore 47 = .ok (.aload_n 0, 1) := by decide +kernel
theorem dX12_restore_48 : decode cX12_restore 48 = .ok (.getfield 88, 3) := by decide +kernel
theorem dX12_restore_51 : decode cX12_restore 51 = .ok (.aload_n 0, 1) := by decide +kernel
theorem dX12_restore_52 : decode cX12_restore 52 = .ok (.getfield 43, 3) := by decide +kernel
theorem dX12_restore_55 : decode cX12_restore 55 = .ok (.invokestatic 177, 3) := by decide +kernel
theorem dX12_restore_58 : decode cX12_restore 58 = .ok (.aload_n 0, 1) := by decide +kernel
theorem dX12_restore_59 : decode cX12_restore 59 = .ok (.getfield 91, 3) := by decide +kernel
theorem dX12_restore_62 : decode cX12_restore 62 = .ok (.aload_n 0, 1) := by decide +kernel
theorem dX12_restore_63 : decode cX12_restore 63 = .ok (.getfield 46, 3) := by decide +kernel
theorem dX12_restore_66 : decode cX12_restore 66 = .ok (.invokestatic 177, 3) := by decide +kernel
theorem dX12_restore_69 : decode cX12_restore 69 = .ok (.aload_n 0, 1) := by decide +kernel
theorem dX12_restore_70 : decode cX12_restore 70 = .ok (.getfield 94, 3) := by decide +kernel
theorem dX12_restore_73 : decode cX12_restore 73 = .ok (.aload_n 0, 1) := by decide +kernel
theorem dX12_restore_74 : decode cX12_restore 74 = .ok (.getfield 76, 3) := by decide +kernel
theorem dX12_restore_77 : decode cX12_restore 77 = .ok (.invokestatic 177, 3) := by decide +kernel
theorem dX12_restore_80 : decode cX12_restore 80 = .ok (.aload_n 0, 1) := by decide +kernel
theorem dX12_restore_81 : decode cX12_restore 81 = .ok (.aload_n 0, 1) := by decide +kernel
theorem dX12_restore_82 : decode cX12_restore 82 = .ok (.getfield 326, 3) := by decide +kernel
theorem dX12_restore_85 : decode cX12_restore 85 = .ok (.putfield 168, 3) := by decide +kernel
theorem dX12_restore_88 : decode cX12_restore 88 = .ok (.aload_n 0, 1) := by decide +kernel
theorem dX12_restore_89 : decode cX12_restore 89 = .ok (.aload_n 0, 1) := by decide +kernel
theorem dX12_restore_90 : decode cX12_restore 90 = .ok (.getfield 329, 3) := by decide +kernel
theorem dX12_restore_93 : decode cX12_restore 93 = .ok (.putfield 171, 3) := by decide +kernel
theorem dX12_restore_96 : decode cX12_restore 96 = .ok (.aload_n 0, 1) := by decide +kernel
theorem dX12_restore_97 : decode cX12_restore 97 = .ok (.getfield 168, 3) := by decide +kernel
theorem dX12_restore_100 : decode cX12_restore 100 = .ok (.ireturn, 1) := by decide +kernel
theorem dX12_owedAll_0 : decode cX12_owedAll 0 = .ok (.iconst 0, 1) := by decide +kernel
theorem dX12_owedAll_1 : decode cX12_owedAll 1 = .ok (.istore_n 1, 1) := by decide +kernel
theorem dX12_owedAll_2 : decode cX12_owedAll 2 = .ok (.iconst 0, 1) := by decide +kernel
theorem dX12_owedAll_3 : decode cX12_owedAll 3 = .ok (.istore_n 2, 1) := by decide +kernel
theorem dX12_owedAll_4 : decode cX12_owedAll 4 = .ok (.iload_n 2, 1) := by decide +kernel
theorem dX12_owedAll_5 : decode cX12_owedAll 5 = .ok (.aload_n 0, 1) := by decide +kernel
theorem dX12_owedAll_6 : decode cX12_owedAll 6 = .ok (.getfield 162, 3) := by decide +kernel
theorem dX12_owedAll_9 : decode cX12_owedAll 9 = .ok (.if_icmp .ge 31, 3) := by decide +kernel
theorem dX12_owedAll_12 : decode cX12_owedAll 12 = .ok (.iload_n 1, 1) := by decide +kernel
theorem dX12_owedAll_13 : decode cX12_owedAll 13 = .ok (.aload_n 0, 1) := by decide +kernel
theorem dX12_owedAll_14 : decode cX12_owedAll 14 = .ok (.getfield 46, 3) := by decide +kernel
theorem dX12_owedAll_17 : decode cX12_owedAll 17 = .ok (.iload_n 2, 1) := by decide +kernel
theorem dX12_owedAll_18 : decode cX12_owedAll 18 = .ok (.iaload, 1) := by decide +kernel
theorem dX12_owedAll_19 : decode cX12_owedAll 19 = .ok (.ifCond .ne 12, 3) := by decide +kernel
theorem dX12_owedAll_22 : decode cX12_owedAll 22 = .ok (.aload_n 0, 1) := by decide +kernel
theorem dX12_owedAll_23 : decode cX12_owedAll 23 = .ok (.getfield 43, 3) := by decide +kernel
theorem dX12_owedAll_26 : decode cX12_owedAll 26 = .ok (.iload_n 2, 1) := by decide +kernel
theorem dX12_owedAll_27 : decode cX12_owedAll 27 = .ok (.iaload, 1) := by decide +kernel
theorem dX12_owedAll_28 : decode cX12_owedAll 28 = .ok (.goto 4, 3) := by decide +kernel
theorem dX12_owedAll_31 : decode cX12_owedAll 31 = .ok (.iconst 0, 1) := by decide +kernel
theorem dX12_owedAll_32 : decode cX12_owedAll 32 = .ok (.iadd, 1) := by decide +kernel
theorem dX12_owedAll_33 : decode cX12_owedAll 33 = .ok (.istore_n 1, 1) := by decide +kernel
theorem dX12_owedAll_34 : decode cX12_owedAll 34 = .ok (.iinc 2 1, 3) := by decide +kernel
theorem dX12_owedAll_37 : decode cX12_owedAll 37 = .ok (.goto (-33), 3) := by decide +kernel
theorem dX12_owedAll_40 : decode cX12_owedAll 40 = .ok (.iload_n 1, 1) := by decide +kernel
theorem dX12_owedAll_41 : decode cX12_owedAll 41 = .ok (.ireturn, 1) := by decide +kernel
theorem dX12_pursesAll_0 : decode cX12_pursesAll 0 = .ok (.iconst 0, 1) := by decide +kernel
theorem dX12_pursesAll_1 : decode cX12_pursesAll 1 = .ok (.istore_n 1, 1) := by decide +kernel
theorem dX12_pursesAll_2 : decode cX12_pursesAll 2 = .ok (.iconst 0, 1) := by decide +kernel
theorem dX12_pursesAll_3 : decode cX12_pursesAll 3 = .ok (.istore_n 2, 1) := by decide +kernel
theorem dX12_pursesAll_4 : decode cX12_pursesAll 4 = .ok (.iload_n 2, 1) := by decide +kernel
theorem dX12_pursesAll_5 : decode cX12_pursesAll 5 = .ok (.aload_n 0, 1) := by decide +kernel
theorem dX12_pursesAll_6 : decode cX12_pursesAll 6 = .ok (.getfield 159, 3) := by decide +kernel
theorem dX12_pursesAll_9 : decode cX12_pursesAll 9 = .ok (.if_icmp .ge 18, 3) := by decide +kernel
theorem dX12_pursesAll_12 : decode cX12_pursesAll 12 = .ok (.iload_n 1, 1) := by decide +kernel
theorem dX12_pursesAll_13 : decode cX12_pursesAll 13 = .ok (.aload_n 0, 1) := by decide +kernel
theorem dX12_pursesAll_14 : decode cX12_pursesAll 14 = .ok (.getfield 25, 3) := by decide +kernel
theorem dX12_pursesAll_17 : decode cX12_pursesAll 17 = .ok (.iload_n 2, 1) := by decide +kernel
theorem dX12_pursesAll_18 : decode cX12_pursesAll 18 = .ok (.iaload, 1) := by decide +kernel
theorem dX12_pursesAll_19 : decode cX12_pursesAll 19 = .ok (.iadd, 1) := by decide +kernel
theorem dX12_pursesAll_20 : decode cX12_pursesAll 20 = .ok (.istore_n 1, 1) := by decide +kernel
theorem dX12_pursesAll_21 : decode cX12_pursesAll 21 = .ok (.iinc 2 1, 3) := by decide +kernel
theorem dX12_pursesAll_24 : decode cX12_pursesAll 24 = .ok (.goto (-20), 3) := by decide +kernel
theorem dX12_pursesAll_27 : decode cX12_pursesAll 27 = .ok (.iload_n 1, 1) := by decide +kernel
theorem dX12_pursesAll_28 : decode cX12_pursesAll 28 = .ok (.ireturn, 1) := by decide +kernel
theorem dX12_countOf_0 : decode cX12_countOf 0 = .ok (.iload_n 1, 1) := by decide +kernel
theorem dX12_countOf_1 : decode cX12_countOf 1 = .ok (.tableswitch 147 0 12 #[67, 72, 77, 82, 87, 96, 101, 106, 111, 111, 132, 137, 142], 67) := by decide +kernel
theorem dX12_countOf_68 : decode cX12_countOf 68 = .ok (.aload_n 0, 1) := by decide +kernel
theorem dX12_countOf_69 : decode cX12_countOf 69 = .ok (.getfield 153, 3) := by decide +kernel
theorem dX12_countOf_72 : decode cX12_countOf 72 = .ok (.ireturn, 1) := by decide +kernel
theorem dX12_countOf_73 : decode cX12_countOf 73 = .ok (.aload_n 0, 1) := by decide +kernel
theorem dX12_countOf_74 : decode cX12_countOf 74 = .ok (.getfield 156, 3) := by decide +kernel
theorem dX12_countOf_77 : decode cX12_countOf 77 = .ok (.ireturn, 1) := by decide +kernel
theorem dX12_countOf_78 : decode cX12_countOf 78 = .ok (.aload_n 0, 1) := by decide +kernel
theorem dX12_countOf_79 : decode cX12_countOf 79 = .ok (.getfield 159, 3) := by decide +kernel
theorem dX12_countOf_82 : decode cX12_countOf 82 = .ok (.ireturn, 1) := by decide +kernel
theorem dX12_countOf_83 : decode cX12_countOf 83 = .ok (.aload_n 0, 1) := by decide +kernel
theorem dX12_countOf_84 : decode cX12_countOf 84 = .ok (.getfield 162, 3) := by decide +kernel
theorem dX12_countOf_87 : decode cX12_countOf 87 = .ok (.ireturn, 1) := by decide +kernel
theorem dX12_countOf_88 : decode cX12_countOf 88 = .ok (.aload_n 0, 1) := by decide +kernel
theorem dX12_countOf_89 : decode cX12_countOf 89 = .ok (.aload_n 0, 1) := by decide +kernel
theorem dX12_countOf_90 : decode cX12_countOf 90 = .ok (.getfield 46, 3) := by decide +kernel
theorem dX12_countOf_93 : decode cX12_countOf 93 = .ok (.invokevirtual 322, 3) := by decide +kernel
theorem dX12_countOf_96 : decode cX12_countOf 96 = .ok (.ireturn, 1) := by decide +kernel
theorem dX12_countOf_97 : decode cX12_countOf 97 = .ok (.aload_n 0, 1) := by decide +kernel
theorem dX12_countOf_98 : decode cX12_countOf 98 = .ok (.invokevirtual 332, 3) := by decide +kernel
theorem dX12_countOf_101 : decode cX12_countOf 101 = .ok (.ireturn, 1) := by decide +kernel
theorem dX12_countOf_102 : decode cX12_countOf 102 = .ok (.aload_n 0, 1) := by decide +kernel
theorem dX12_countOf_103 : decode cX12_countOf 103 = .ok (.invokevirtual 335, 3) := by decide +kernel
theorem dX12_countOf_106 : decode cX12_countOf 106 = .ok (.ireturn, 1) := by decide +kernel
theorem dX12_countOf_107 : decode cX12_countOf 107 = .ok (.aload_n 0, 1) := by decide +kernel
theorem dX12_countOf_108 : decode cX12_countOf 108 = .ok (.getfield 168, 3) := by decide +kernel
theorem dX12_countOf_111 : decode cX12_countOf 111 = .ok (.ireturn, 1) := by decide +kernel
theorem dX12_countOf_112 : decode cX12_countOf 112 = .ok (.aload_n 0, 1) := by decide +kernel
theorem dX12_countOf_113 : decode cX12_countOf 113 = .ok (.invokevirtual 286, 3) := by decide +kernel
theorem dX12_countOf_116 : decode cX12_countOf 116 = .ok (.ifCond .eq 7, 3) := by decide +kernel
theorem dX12_countOf_119 : decode cX12_countOf 119 = .ok (.iconst (-1), 1) := by decide +kernel
theorem dX12_countOf_120 : decode cX12_countOf 120 = .ok (.goto 12, 3) := by decide +kernel
theorem dX12_countOf_123 : decode cX12_countOf 123 = .ok (.aload_n 0, 1) := by decide +kernel
theorem dX12_countOf_124 : decode cX12_countOf 124 = .ok (.getfield 31, 3) := by decide +kernel
theorem dX12_countOf_127 : decode cX12_countOf 127 = .ok (.iload_n 1, 1) := by decide +kernel
theorem dX12_countOf_128 : decode cX12_countOf 128 = .ok (.bipush 8, 2) := by decide +kernel
theorem dX12_countOf_130 : decode cX12_countOf 130 = .ok (.isub, 1) := by decide +kernel
theorem dX12_countOf_131 : decode cX12_countOf 131 = .ok (.iaload, 1) := by decide +kernel
theorem dX12_countOf_132 : decode cX12_countOf 132 = .ok (.ireturn, 1) := by decide +kernel
theorem dX12_countOf_133 : decode cX12_countOf 133 = .ok (.aload_n 0, 1) := by decide +kernel
theorem dX12_countOf_134 : decode cX12_countOf 134 = .ok (.getfield 171, 3) := by decide +kernel
theorem dX12_countOf_137 : decode cX12_countOf 137 = .ok (.ireturn, 1) := by decide +kernel
theorem dX12_countOf_138 : decode cX12_countOf 138 = .ok (.aload_n 0, 1) := by decide +kernel
theorem dX12_countOf_139 : decode cX12_countOf 139 = .ok (.getfield 107, 3) := by decide +kernel
theorem dX12_countOf_142 : decode cX12_countOf 142 = .ok (.ireturn, 1) := by decide +kernel
theorem dX12_countOf_143 : decode cX12_countOf 143 = .ok (.aload_n 0, 1) := by decide +kernel
theorem dX12_countOf_144 : decode cX12_countOf 144 = .ok (.getfield 174, 3) := by decide +kernel
theorem dX12_countOf_147 : decode cX12_countOf 147 = .ok (.ireturn, 1) := by decide +kernel
theorem dX12_countOf_148 : decode cX12_countOf 148 = .ok (.bipush (-102), 2) := by decide +kernel
theorem dX12_countOf_150 : decode cX12_countOf 150 = .ok (.ireturn, 1) := by decide +kernel
theorem dX12_count_0 : decode cX12_count 0 = .ok (.aload_n 0, 1) := by decide +kernel
theorem dX12_count_1 : decode cX12_count 1 = .ok (.iload_n 1, 1) := by decide +kernel
theorem dX12_count_2 : decode cX12_count 2 = .ok (.invokevirtual 338, 3) := by decide +kernel
theorem dX12_count_5 : decode cX12_count 5 = .ok (.ireturn, 1) := by decide +kernel
theorem dX12_say_0 : decode cX12_say 0 = .ok (.aload_n 0, 1) := by decide +kernel
theorem dX12_say_1 : decode cX12_say 1 = .ok (.ldc2_w 341, 3) := by decide +kernel
theorem dX12_say_4 : decode cX12_say 4 = .ok (.aload_n 0, 1) := by decide +kernel
theorem dX12_say_5 : decode cX12_say 5 = .ok (.getfield 343, 3) := by decide +kernel
theorem dX12_say_8 : decode cX12_say 8 = .ok (.lmul, 1) := by decide +kernel
theorem dX12_say_9 : decode cX12_say 9 = .ok (.lload_n 1, 1) := by decide +kernel
theorem dX12_say_10 : decode cX12_say 10 = .ok (.ladd, 1) := by decide +kernel
theorem dX12_say_11 : decode cX12_say 11 = .ok (.putfield 343, 3) := by decide +kernel
theorem dX12_say_14 : decode cX12_say 14 = .ok (.return_, 1) := by decide +kernel
theorem dX12_sayPerson_0 : decode cX12_sayPerson 0 = .ok (.iconst 0, 1) := by decide +kernel
theorem dX12_sayPerson_1 : decode cX12_sayPerson 1 = .ok (.istore_n 2, 1) := by decide +kernel
theorem dX12_sayPerson_2 : decode cX12_sayPerson 2 = .ok (.iload_n 2, 1) := by decide +kernel
theorem dX12_sayPerson_3 : decode cX12_sayPerson 3 = .ok (.bipush 9, 2) := by decide +kernel
theorem dX12_sayPerson_5 : decode cX12_sayPerson 5 = .ok (.if_icmp .ge 20, 3) := by decide +kernel
theorem dX12_sayPerson_8 : decode cX12_sayPerson 8 = .ok (.aload_n 0, 1) := by decide +kernel
theorem dX12_sayPerson_9 : decode cX12_sayPerson 9 = .ok (.aload_n 0, 1) := by decide +kernel
theorem dX12_sayPerson_10 : decode cX12_sayPerson 10 = .ok (.iload_n 1, 1) := by decide +kernel
theorem dX12_sayPerson_11 : decode cX12_sayPerson 11 = .ok (.iload_n 2, 1) := by decide +kernel
theorem dX12_sayPerson_12 : decode cX12_sayPerson 12 = .ok (.invokevirtual 218, 3) := by decide +kernel
theorem dX12_sayPerson_15 : decode cX12_sayPerson 15 = .ok (.i2l, 1) := by decide +kernel
theorem dX12_sayPerson_16 : decode cX12_sayPerson 16 = .ok (.invokevirtual 347, 3) := by decide +kernel
theorem dX12_sayPerson_19 : decode cX12_sayPerson 19 = .ok (.iinc 2 1, 3) := by decide +kernel
theorem dX12_sayPerson_22 : decode cX12_sayPerson 22 = .ok (.goto (-20), 3) := by decide +kernel
theorem dX12_sayPerson_25 : decode cX12_sayPerson 25 = .ok (.iconst 0, 1) := by decide +kernel
theorem dX12_sayPerson_26 : decode cX12_sayPerson 26 = .ok (.istore_n 2, 1) := by decide +kernel
theorem dX12_sayPerson_27 : decode cX12_sayPerson 27 = .ok (.iload_n 2, 1) := by decide +kernel
theorem dX12_sayPerson_28 : decode cX12_sayPerson 28 = .ok (.aload_n 0, 1) := by decide +kernel
theorem dX12_sayPerson_29 : decode cX12_sayPerson 29 = .ok (.getfield 153, 3) := by decide +kernel
theorem dX12_sayPerson_32 : decode cX12_sayPerson 32 = .ok (.if_icmp .ge 34, 3) := by decide +kernel
theorem dX12_sayPerson_35 : decode cX12_sayPerson 35 = .ok (.aload_n 0, 1) := by decide +kernel
theorem dX12_sayPerson_36 : decode cX12_sayPerson 36 = .ok (.aload_n 0, 1) := by decide +kernel
theorem dX12_sayPerson_37 : decode cX12_sayPerson 37 = .ok (.iload_n 1, 1) := by decide +kernel
theorem dX12_sayPerson_38 : decode cX12_sayPerson 38 = .ok (.iload_n 2, 1) := by decide +kernel
theorem dX12_sayPerson_39 : decode cX12_sayPerson 39 = .ok (.iconst 0, 1) := by decide +kernel
theorem dX12_sayPerson_40 : decode cX12_sayPerson 40 = .ok (.invokevirtual 253, 3) := by decide +kernel
theorem dX12_sayPerson_43 : decode cX12_sayPerson 43 = .ok (.i2l, 1) := by decide +kernel
theorem dX12_sayPerson_44 : decode cX12_sayPerson 44 = .ok (.invokevirtual 347, 3) := by decide +kernel
theorem dX12_sayPerson_47 : decode cX12_sayPerson 47 = .ok (.aload_n 0, 1) := by decide +kernel
theorem dX12_sayPerson_48 : decode cX12_sayPerson 48 = .ok (.aload_n 0, 1) := by decide +kernel
theorem dX12_sayPerson_49 : decode cX12_sayPerson 49 = .ok (.iload_n 1, 1) := by decide +kernel
theorem dX12_sayPerson_50 : decode cX12_sayPerson 50 = .ok (.iload_n 2, 1) := by decide +kernel
theorem dX12_sayPerson_51 : decode cX12_sayPerson 51 = .ok (.bipush 10, 2) := by decide +kernel
theorem dX12_sayPerson_53 : decode cX12_sayPerson 53 = .ok (.invokevirtual 253, 3) := by decide +kernel
theorem dX12_sayPerson_56 : decode cX12_sayPerson 56 = .ok (.i2l, 1) := by decide +kernel
theorem dX12_sayPerson_57 : decode cX12_sayPerson 57 = .ok (.invokevirtual 347, 3) := by decide +kernel
theorem dX12_sayPerson_60 : decode cX12_sayPerson 60 = .ok (.iinc 2 1, 3) := by decide +kernel
theorem dX12_sayPerson_63 : decode cX12_sayPerson 63 = .ok (.goto (-36), 3) := by decide +kernel
theorem dX12_sayPerson_66 : decode cX12_sayPerson 66 = .ok (.aload_n 0, 1) := by decide +kernel
theorem dX12_sayPerson_67 : decode cX12_sayPerson 67 = .ok (.aload_n 0, 1) := by decide +kernel
theorem dX12_sayPerson_68 : decode cX12_sayPerson 68 = .ok (.iload_n 1, 1) := by decide +kernel
theorem dX12_sayPerson_69 : decode cX12_sayPerson 69 = .ok (.iconst 2, 1) := by decide +kernel
theorem dX12_sayPerson_70 : decode cX12_sayPerson 70 = .ok (.iconst 0, 1) := by decide +kernel
theorem dX12_sayPerson_71 : decode cX12_sayPerson 71 = .ok (.invokevirtual 264, 3) := by decide +kernel
theorem dX12_sayPerson_74 : decode cX12_sayPerson 74 = .ok (.i2l, 1) := by decide +kernel
theorem dX12_sayPerson_75 : decode cX12_sayPerson 75 = .ok (.invokevirtual 347, 3) := by decide +kernel
theorem dX12_sayPerson_78 : decode cX12_sayPerson 78 = .ok (.aload_n 0, 1) := by decide +kernel
theorem dX12_sayPerson_79 : decode cX12_sayPerson 79 = .ok (.aload_n 0, 1) := by decide +kernel
theorem dX12_sayPerson_80 : decode cX12_sayPerson 80 = .ok (.iload_n 1, 1) := by decide +kernel
theorem dX12_sayPerson_81 : decode cX12_sayPerson 81 = .ok (.iconst 2, 1) := by decide +kernel
theorem dX12_sayPerson_82 : decode cX12_sayPerson 82 = .ok (.bipush 10, 2) := by decide +kernel
theorem dX12_sayPerson_84 : decode cX12_sayPerson 84 = .ok (.invokevirtual 264, 3) := by decide +kernel
theorem dX12_sayPerson_87 : decode cX12_sayPerson 87 = .ok (.i2l, 1) := by decide +kernel
theorem dX12_sayPerson_88 : decode cX12_sayPerson 88 = .ok (.invokevirtual 347, 3) := by decide +kernel
theorem dX12_sayPerson_91 : decode cX12_sayPerson 91 = .ok (.aload_n 0, 1) := by decide +kernel
theorem dX12_sayPerson_92 : decode cX12_sayPerson 92 = .ok (.aload_n 0, 1) := by decide +kernel
theorem dX12_sayPerson_93 : decode cX12_sayPerson 93 = .ok (.iload_n 1, 1) := by decide +kernel
theorem dX12_sayPerson_94 : decode cX12_sayPerson 94 = .ok (.iconst 2, 1) := by decide +kernel
theorem dX12_sayPerson_95 : decode cX12_sayPerson 95 = .ok (.bipush 11, 2) := by decide +kernel
theorem dX12_sayPerson_97 : decode cX12_sayPerson 97 = .ok (.invokevirtual 264, 3) := by decide +kernel
theorem dX12_sayPerson_100 : decode cX12_sayPerson 100 = .ok (.i2l, 1) := by decide +kernel
theorem dX12_sayPerson_101 : decode cX12_sayPerson 101 = .ok (.invokevirtual 347, 3) := by decide +kernel
theorem dX12_sayPerson_104 : decode cX12_sayPerson 104 = .ok (.return_, 1) := by decide +kernel
theorem dX12_sayThings_0 : decode cX12_sayThings 0 = .ok (.iconst 0, 1) := by decide +kernel
theorem dX12_sayThings_1 : decode cX12_sayThings 1 = .ok (.istore_n 1, 1) := by decide +kernel
theorem dX12_sayThings_2 : decode cX12_sayThings 2 = .ok (.iload_n 1, 1) := by decide +kernel
theorem dX12_sayThings_3 : decode cX12_sayThings 3 = .ok (.aload_n 0, 1) := by decide +kernel
theorem dX12_sayThings_4 : decode cX12_sayThings 4 = .ok (.getfield 156, 3) := by decide +kernel
theorem dX12_sayThings_7 : decode cX12_sayThings 7 = .ok (.if_icmp .ge 33, 3) := by decide +kernel
theorem dX12_sayThings_10 : decode cX12_sayThings 10 = .ok (.iconst 0, 1) := by decide +kernel
theorem dX12_sayThings_11 : decode cX12_sayThings 11 = .ok (.istore_n 2, 1) := by decide +kernel
theorem dX12_sayThings_12 : decode cX12_sayThings 12 = .ok (.iload_n 2, 1) := by decide +kernel
theorem dX12_sayThings_13 : decode cX12_sayThings 13 = .ok (.iconst 3, 1) := by decide +kernel
theorem dX12_sayThings_14 : decode cX12_sayThings 14 = .ok (.if_icmp .ge 20, 3) := by decide +kernel
theorem dX12_sayThings_17 : decode cX12_sayThings 17 = .ok (.aload_n 0, 1) := by decide +kernel
theorem dX12_sayThings_18 : decode cX12_sayThings 18 = .ok (.aload_n 0, 1) := by decide +kernel
theorem dX12_sayThings_19 : decode cX12_sayThings 19 = .ok (.iload_n 1, 1) := by decide +kernel
theorem dX12_sayThings_20 : decode cX12_sayThings 20 = .ok (.iload_n 2, 1) := by decide +kernel
theorem dX12_sayThings_21 : decode cX12_sayThings 21 = .ok (.invokevirtual 227, 3) := by decide +kernel
theorem dX12_sayThings_24 : decode cX12_sayThings 24 = .ok (.i2l, 1) := by decide +kernel
theorem dX12_sayThings_25 : decode cX12_sayThings 25 = .ok (.invokevirtual 347, 3) := by decide +kernel
theorem dX12_sayThings_28 : decode cX12_sayThings 28 = .ok (.iinc 2 1, 3) := by decide +kernel
theorem dX12_sayThings_31 : decode cX12_sayThings 31 = .ok (.goto (-19), 3) := by decide +kernel
theorem dX12_sayThings_34 : decode cX12_sayThings 34 = .ok (.iinc 1 1, 3) := by decide +kernel
theorem dX12_sayThings_37 : decode cX12_sayThings 37 = .ok (.goto (-35), 3) := by decide +kernel
theorem dX12_sayThings_40 : decode cX12_sayThings 40 = .ok (.iconst 0, 1) := by decide +kernel
theorem dX12_sayThings_41 : decode cX12_sayThings 41 = .ok (.istore_n 1, 1) := by decide +kernel
theorem dX12_sayThings_42 : decode cX12_sayThings 42 = .ok (.iload_n 1, 1) := by decide +kernel
theorem dX12_sayThings_43 : decode cX12_sayThings 43 = .ok (.aload_n 0, 1) := by decide +kernel
theorem dX12_sayThings_44 : decode cX12_sayThings 44 = .ok (.getfield 162, 3) := by decide +kernel
theorem dX12_sayThings_47 : decode cX12_sayThings 47 = .ok (.if_icmp .ge 34, 3) := by decide +kernel
theorem dX12_sayThings_50 : decode cX12_sayThings 50 = .ok (.iconst 0, 1) := by decide +kernel
theorem dX12_sayThings_51 : decode cX12_sayThings 51 = .ok (.istore_n 2, 1) := by decide +kernel
theorem dX12_sayThings_52 : decode cX12_sayThings 52 = .ok (.iload_n 2, 1) := by decide +kernel
theorem dX12_sayThings_53 : decode cX12_sayThings 53 = .ok (.bipush 6, 2) := by decide +kernel
theorem dX12_sayThings_55 : decode cX12_sayThings 55 = .ok (.if_icmp .ge 20, 3) := by decide +kernel
theorem dX12_sayThings_58 : decode cX12_sayThings 58 = .ok (.aload_n 0, 1) := by decide +kernel
theorem dX12_sayThings_59 : decode cX12_sayThings 59 = .ok (.aload_n 0, 1) := by decide +kernel
theorem dX12_sayThings_60 : decode cX12_sayThings 60 = .ok (.iload_n 1, 1) := by decide +kernel
theorem dX12_sayThings_61 : decode cX12_sayThings 61 = .ok (.iload_n 2, 1) := by decide +kernel
theorem dX12_sayThings_62 : decode cX12_sayThings 62 = .ok (.invokevirtual 233, 3) := by decide +kernel
theorem dX12_sayThings_65 : decode cX12_sayThings 65 = .ok (.i2l, 1) := by decide +kernel
theorem dX12_sayThings_66 : decode cX12_sayThings 66 = .ok (.invokevirtual 347, 3) := by decide +kernel
theorem dX12_sayThings_69 : decode cX12_sayThings 69 = .ok (.iinc 2 1, 3) := by decide +kernel
theorem dX12_sayThings_72 : decode cX12_sayThings 72 = .ok (.goto (-20), 3) := by decide +kernel
theorem dX12_sayThings_75 : decode cX12_sayThings 75 = .ok (.iinc 1 1, 3) := by decide +kernel
theorem dX12_sayThings_78 : decode cX12_sayThings 78 = .ok (.goto (-36), 3) := by decide +kernel
theorem dX12_sayThings_81 : decode cX12_sayThings 81 = .ok (.iconst 0, 1) := by decide +kernel
theorem dX12_sayThings_82 : decode cX12_sayThings 82 = .ok (.istore_n 1, 1) := by decide +kernel
theorem dX12_sayThings_83 : decode cX12_sayThings 83 = .ok (.iload_n 1, 1) := by decide +kernel
theorem dX12_sayThings_84 : decode cX12_sayThings 84 = .ok (.aload_n 0, 1) := by decide +kernel
theorem dX12_sayThings_85 : decode cX12_sayThings 85 = .ok (.getfield 153, 3) := by decide +kernel
theorem dX12_sayThings_88 : decode cX12_sayThings 88 = .ok (.if_icmp .ge 20, 3) := by decide +kernel
end
section
theorem dX12_sayThings_91 : decode cX12_sayThings 91 = .ok (.aload_n 0, 1) := by decide +kernel
theorem dX12_sayThings_92 : decode cX12_sayThings 92 = .ok (.aload_n 0, 1) := by decide +kernel
theorem dX12_sayThings_93 : decode cX12_sayThings 93 = .ok (.iload_n 1, 1) := by decide +kernel
theorem dX12_sayThings_94 : decode cX12_sayThings 94 = .ok (.iconst 0, 1) := by decide +kernel
theorem dX12_sayThings_95 : decode cX12_sayThings 95 = .ok (.invokevirtual 280, 3) := by decide +kernel
theorem dX12_sayThings_98 : decode cX12_sayThings 98 = .ok (.i2l, 1) := by decide +kernel
theorem dX12_sayThings_99 : decode cX12_sayThings 99 = .ok (.invokevirtual 347, 3) := by decide +kernel
theorem dX12_sayThings_102 : decode cX12_sayThings 102 = .ok (.iinc 1 1, 3) := by decide +kernel
theorem dX12_sayThings_105 : decode cX12_sayThings 105 = .ok (.goto (-22), 3) := by decide +kernel
theorem dX12_sayThings_108 : decode cX12_sayThings 108 = .ok (.return_, 1) := by decide +kernel
theorem dX12_digest_0 : decode cX12_digest 0 = .ok (.aload_n 0, 1) := by decide +kernel
theorem dX12_digest_1 : decode cX12_digest 1 = .ok (.ldc2_w 351, 3) := by decide +kernel
theorem dX12_digest_4 : decode cX12_digest 4 = .ok (.putfield 343, 3) := by decide +kernel
theorem dX12_digest_7 : decode cX12_digest 7 = .ok (.iconst 0, 1) := by decide +kernel
theorem dX12_digest_8 : decode cX12_digest 8 = .ok (.istore_n 1, 1) := by decide +kernel
theorem dX12_digest_9 : decode cX12_digest 9 = .ok (.iload_n 1, 1) := by decide +kernel
theorem dX12_digest_10 : decode cX12_digest 10 = .ok (.aload_n 0, 1) := by decide +kernel
theorem dX12_digest_11 : decode cX12_digest 11 = .ok (.getfield 159, 3) := by decide +kernel
theorem dX12_digest_14 : decode cX12_digest 14 = .ok (.if_icmp .ge 14, 3) := by decide +kernel
theorem dX12_digest_17 : decode cX12_digest 17 = .ok (.aload_n 0, 1) := by decide +kernel
theorem dX12_digest_18 : decode cX12_digest 18 = .ok (.iload_n 1, 1) := by decide +kernel
theorem dX12_digest_19 : decode cX12_digest 19 = .ok (.invokevirtual 353, 3) := by decide +kernel
theorem dX12_digest_22 : decode cX12_digest 22 = .ok (.iinc 1 1, 3) := by decide +kernel
theorem dX12_digest_25 : decode cX12_digest 25 = .ok (.goto (-16), 3) := by decide +kernel
theorem dX12_digest_28 : decode cX12_digest 28 = .ok (.aload_n 0, 1) := by decide +kernel
theorem dX12_digest_29 : decode cX12_digest 29 = .ok (.invokevirtual 356, 3) := by decide +kernel
theorem dX12_digest_32 : decode cX12_digest 32 = .ok (.aload_n 0, 1) := by decide +kernel
theorem dX12_digest_33 : decode cX12_digest 33 = .ok (.invokevirtual 286, 3) := by decide +kernel
theorem dX12_digest_36 : decode cX12_digest 36 = .ok (.ifCond .ne 38, 3) := by decide +kernel
theorem dX12_digest_39 : decode cX12_digest 39 = .ok (.aload_n 0, 1) := by decide +kernel
theorem dX12_digest_40 : decode cX12_digest 40 = .ok (.aload_n 0, 1) := by decide +kernel
theorem dX12_digest_41 : decode cX12_digest 41 = .ok (.invokevirtual 290, 3) := by decide +kernel
theorem dX12_digest_44 : decode cX12_digest 44 = .ok (.i2l, 1) := by decide +kernel
theorem dX12_digest_45 : decode cX12_digest 45 = .ok (.invokevirtual 347, 3) := by decide +kernel
theorem dX12_digest_48 : decode cX12_digest 48 = .ok (.aload_n 0, 1) := by decide +kernel
theorem dX12_digest_49 : decode cX12_digest 49 = .ok (.aload_n 0, 1) := by decide +kernel
theorem dX12_digest_50 : decode cX12_digest 50 = .ok (.iconst 0, 1) := by decide +kernel
theorem dX12_digest_51 : decode cX12_digest 51 = .ok (.iconst 1, 1) := by decide +kernel
theorem dX12_digest_52 : decode cX12_digest 52 = .ok (.iconst 2, 1) := by decide +kernel
theorem dX12_digest_53 : decode cX12_digest 53 = .ok (.iconst 0, 1) := by decide +kernel
theorem dX12_digest_54 : decode cX12_digest 54 = .ok (.invokevirtual 298, 3) := by decide +kernel
theorem dX12_digest_57 : decode cX12_digest 57 = .ok (.i2l, 1) := by decide +kernel
theorem dX12_digest_58 : decode cX12_digest 58 = .ok (.invokevirtual 347, 3) := by decide +kernel
theorem dX12_digest_61 : decode cX12_digest 61 = .ok (.aload_n 0, 1) := by decide +kernel
theorem dX12_digest_62 : decode cX12_digest 62 = .ok (.aload_n 0, 1) := by decide +kernel
theorem dX12_digest_63 : decode cX12_digest 63 = .ok (.iconst 0, 1) := by decide +kernel
theorem dX12_digest_64 : decode cX12_digest 64 = .ok (.iconst 1, 1) := by decide +kernel
theorem dX12_digest_65 : decode cX12_digest 65 = .ok (.iconst 2, 1) := by decide +kernel
theorem dX12_digest_66 : decode cX12_digest 66 = .ok (.iconst 1, 1) := by decide +kernel
theorem dX12_digest_67 : decode cX12_digest 67 = .ok (.invokevirtual 298, 3) := by decide +kernel
theorem dX12_digest_70 : decode cX12_digest 70 = .ok (.i2l, 1) := by decide +kernel
theorem dX12_digest_71 : decode cX12_digest 71 = .ok (.invokevirtual 347, 3) := by decide +kernel
theorem dX12_digest_74 : decode cX12_digest 74 = .ok (.iconst 0, 1) := by decide +kernel
theorem dX12_digest_75 : decode cX12_digest 75 = .ok (.istore_n 1, 1) := by decide +kernel
theorem dX12_digest_76 : decode cX12_digest 76 = .ok (.iload_n 1, 1) := by decide +kernel
theorem dX12_digest_77 : decode cX12_digest 77 = .ok (.aload_n 0, 1) := by decide +kernel
theorem dX12_digest_78 : decode cX12_digest 78 = .ok (.getfield 107, 3) := by decide +kernel
theorem dX12_digest_81 : decode cX12_digest 81 = .ok (.if_icmp .ge 20, 3) := by decide +kernel
theorem dX12_digest_84 : decode cX12_digest 84 = .ok (.aload_n 0, 1) := by decide +kernel
theorem dX12_digest_85 : decode cX12_digest 85 = .ok (.aload_n 0, 1) := by decide +kernel
theorem dX12_digest_86 : decode cX12_digest 86 = .ok (.getfield 7, 3) := by decide +kernel
theorem dX12_digest_89 : decode cX12_digest 89 = .ok (.iload_n 1, 1) := by decide +kernel
theorem dX12_digest_90 : decode cX12_digest 90 = .ok (.iaload, 1) := by decide +kernel
theorem dX12_digest_91 : decode cX12_digest 91 = .ok (.i2l, 1) := by decide +kernel
theorem dX12_digest_92 : decode cX12_digest 92 = .ok (.invokevirtual 347, 3) := by decide +kernel
theorem dX12_digest_95 : decode cX12_digest 95 = .ok (.iinc 1 1, 3) := by decide +kernel
theorem dX12_digest_98 : decode cX12_digest 98 = .ok (.goto (-22), 3) := by decide +kernel
theorem dX12_digest_101 : decode cX12_digest 101 = .ok (.iconst 0, 1) := by decide +kernel
theorem dX12_digest_102 : decode cX12_digest 102 = .ok (.istore_n 1, 1) := by decide +kernel
theorem dX12_digest_103 : decode cX12_digest 103 = .ok (.iload_n 1, 1) := by decide +kernel
theorem dX12_digest_104 : decode cX12_digest 104 = .ok (.bipush 13, 2) := by decide +kernel
theorem dX12_digest_106 : decode cX12_digest 106 = .ok (.if_icmp .ge 19, 3) := by decide +kernel
theorem dX12_digest_109 : decode cX12_digest 109 = .ok (.aload_n 0, 1) := by decide +kernel
theorem dX12_digest_110 : decode cX12_digest 110 = .ok (.aload_n 0, 1) := by decide +kernel
theorem dX12_digest_111 : decode cX12_digest 111 = .ok (.iload_n 1, 1) := by decide +kernel
theorem dX12_digest_112 : decode cX12_digest 112 = .ok (.invokevirtual 338, 3) := by decide +kernel
theorem dX12_digest_115 : decode cX12_digest 115 = .ok (.i2l, 1) := by decide +kernel
theorem dX12_digest_116 : decode cX12_digest 116 = .ok (.invokevirtual 347, 3) := by decide +kernel
theorem dX12_digest_119 : decode cX12_digest 119 = .ok (.iinc 1 1, 3) := by decide +kernel
theorem dX12_digest_122 : decode cX12_digest 122 = .ok (.goto (-19), 3) := by decide +kernel
theorem dX12_digest_125 : decode cX12_digest 125 = .ok (.aload_n 0, 1) := by decide +kernel
theorem dX12_digest_126 : decode cX12_digest 126 = .ok (.getfield 343, 3) := by decide +kernel
theorem dX12_digest_129 : decode cX12_digest 129 = .ok (.lreturn, 1) := by decide +kernel
end
section
theorem fg_X6_15 {E : Ek} {x : MC} {cc : ByteArray} {nL hm pc : Nat} {M : Mem} {lv : List (Nat × Value)} {st : List Value} (X : Cx E x cc nL RX6 hm) (hd : decode cc pc = .ok (.getfield 15, 3)) (kk : G E x M (pc + 3) lv (.int (rd M 1 1) :: st)) : G E x M pc lv (.ref (ad E 1) :: st) := g_getI X (⟨by decide, fun E f h => ⟨_, rfl, rfl, fun v => ⟨rfl, Nat.le_of_ble_eq_true rfl⟩⟩⟩ : FI 1 6 1) (ci := 6) (T := TX6) (N := 11) rfl in_X6 (Nat.le_of_ble_eq_true rfl) m0 hd kk
theorem fg_X6_9 {E : Ek} {x : MC} {cc : ByteArray} {nL hm pc : Nat} {M : Mem} {lv : List (Nat × Value)} {st : List Value} (X : Cx E x cc nL RX6 hm) (hd : decode cc pc = .ok (.getfield 9, 3)) (kk : G E x M (pc + 3) lv (.ref (ad E 2) :: st)) : G E x M pc lv (.ref (ad E 1) :: st) := g_getR X (⟨by decide, fun E f h => ⟨_, rfl, rfl⟩⟩ : FR 1 6 0 2) (ci := 6) (T := TX6) (N := 11) rfl in_X6 (Nat.le_of_ble_eq_true rfl) m1 hd kk
theorem fp_X6_15 {E : Ek} {x : MC} {cc : ByteArray} {nL hm pc : Nat} {M : Mem} {lv : List (Nat × Value)} {st : List Value} (X : Cx E x cc nL RX6 hm) {v : Int32} {A : Mem → Prop} (hd : decode cc pc = .ok (.putfield 15, 3)) (h : ∀ M1, M1 = wr M 1 1 v → A M1) (kk : ∀ M1, A M1 → G E x M1 (pc + 3) lv st) : G E x M pc lv (.int v :: .ref (ad E 1) :: st) := g_putI X (⟨by decide, fun E f h => ⟨_, rfl, rfl, fun v => ⟨rfl, Nat.le_of_ble_eq_true rfl⟩⟩⟩ : FI 1 6 1) (ci := 6) (T := TX6) (N := 11) (ty := .int) rfl in_X6 tyX6 tyX6_ok nmX6 (Nat.le_of_ble_eq_true rfl) m0 rfl (by decide +kernel) rfl rfl hd h kk
theorem fg_X11_10 {E : Ek} {x : MC} {cc : ByteArray} {nL hm pc : Nat} {M : Mem} {lv : List (Nat × Value)} {st : List Value} (X : Cx E x cc nL RX11 hm) (hd : decode cc pc = .ok (.getfield 10, 3)) (kk : G E x M (pc + 3) lv (.ref (ad E 1) :: st)) : G E x M pc lv (.ref (ad E 0) :: st) := g_getR X (⟨by decide, fun E f h => ⟨_, rfl, rfl⟩⟩ : FR 0 11 0 1) (ci := 11) (T := TX11) (N := 10) rfl in_X11 (Nat.le_of_ble_eq_true rfl) m4 hd kk
theorem fg_X11_71 {E : Ek} {x : MC} {cc : ByteArray} {nL hm pc : Nat} {M : Mem} {lv : List (Nat × Value)} {st : List Value} (X : Cx E x cc nL RX11 hm) (hd : decode cc pc = .ok (.getfield 71, 3)) (kk : G E x M (pc + 3) lv (.int (rd M 1 1) :: st)) : G E x M pc lv (.ref (ad E 1) :: st) := g_getIN X (⟨by decide, fun E f h => ⟨_, rfl, rfl, fun v => ⟨rfl, Nat.le_of_ble_eq_true rfl⟩⟩⟩ : FI 1 6 1) (ci := 6) (T := TX6) (N := 11) rfl in_X6 (Nat.le_of_ble_eq_true rfl) m8 hd kk
theorem fp_X11_71 {E : Ek} {x : MC} {cc : ByteArray} {nL hm pc : Nat} {M : Mem} {lv : List (Nat × Value)} {st : List Value} (X : Cx E x cc nL RX11 hm) {v : Int32} {A : Mem → Prop} (hd : decode cc pc = .ok (.putfield 71, 3)) (h : ∀ M1, M1 = wr M 1 1 v → A M1) (kk : ∀ M1, A M1 → G E x M1 (pc + 3) lv st) : G E x M pc lv (.int v :: .ref (ad E 1) :: st) := g_putIN X (⟨by decide, fun E f h => ⟨_, rfl, rfl, fun v => ⟨rfl, Nat.le_of_ble_eq_true rfl⟩⟩⟩ : FI 1 6 1) (ci := 6) (T := TX6) (N := 11) (ty := .int) rfl in_X6 tyX6 tyX6_ok nmX6 (Nat.le_of_ble_eq_true rfl) m8 rfl (by decide +kernel) rfl rfl hd h kk
theorem fg_X6_22 {E : Ek} {x : MC} {cc : ByteArray} {nL hm pc : Nat} {M : Mem} {lv : List (Nat × Value)} {st : List Value} (X : Cx E x cc nL RX6 hm) (hd : decode cc pc = .ok (.getfield 22, 3)) (kk : G E x M (pc + 3) lv (.int (rd M 1 5) :: st)) : G E x M pc lv (.ref (ad E 1) :: st) := g_getI X (⟨by decide, fun E f h => ⟨_, rfl, rfl, fun v => ⟨rfl, Nat.le_of_ble_eq_true rfl⟩⟩⟩ : FI 1 6 5) (ci := 6) (T := TX6) (N := 11) rfl in_X6 (Nat.le_of_ble_eq_true rfl) m12 hd kk
theorem fp_X6_22 {E : Ek} {x : MC} {cc : ByteArray} {nL hm pc : Nat} {M : Mem} {lv : List (Nat × Value)} {st : List Value} (X : Cx E x cc nL RX6 hm) {v : Int32} {A : Mem → Prop} (hd : decode cc pc = .ok (.putfield 22, 3)) (h : ∀ M1, M1 = wr M 1 5 v → A M1) (kk : ∀ M1, A M1 → G E x M1 (pc + 3) lv st) : G E x M pc lv (.int v :: .ref (ad E 1) :: st) := g_putI X (⟨by decide, fun E f h => ⟨_, rfl, rfl, fun v => ⟨rfl, Nat.le_of_ble_eq_true rfl⟩⟩⟩ : FI 1 6 5) (ci := 6) (T := TX6) (N := 11) (ty := .int) rfl in_X6 tyX6 tyX6_ok nmX6 (Nat.le_of_ble_eq_true rfl) m12 rfl (by decide +kernel) rfl rfl hd h kk
theorem fp_X6_19 {E : Ek} {x : MC} {cc : ByteArray} {nL hm pc : Nat} {M : Mem} {lv : List (Nat × Value)} {st : List Value} (X : Cx E x cc nL RX6 hm) {v : Int32} {A : Mem → Prop} (hd : decode cc pc = .ok (.putfield 19, 3)) (h : ∀ M1, M1 = wr M 1 4 v → A M1) (kk : ∀ M1, A M1 → G E x M1 (pc + 3) lv st) : G E x M pc lv (.int v :: .ref (ad E 1) :: st) := g_putI X (⟨by decide, fun E f h => ⟨_, rfl, rfl, fun v => ⟨rfl, Nat.le_of_ble_eq_true rfl⟩⟩⟩ : FI 1 6 4) (ci := 6) (T := TX6) (N := 11) (ty := .int) rfl in_X6 tyX6 tyX6_ok nmX6 (Nat.le_of_ble_eq_true rfl) m14 rfl (by decide +kernel) rfl rfl hd h kk
theorem fp_X6_28 {E : Ek} {x : MC} {cc : ByteArray} {nL hm pc : Nat} {M : Mem} {lv : List (Nat × Value)} {st : List Value} (X : Cx E x cc nL RX6 hm) {v : Int32} {A : Mem → Prop} (hd : decode cc pc = .ok (.putfield 28, 3)) (h : ∀ M1, M1 = wr M 1 7 v → A M1) (kk : ∀ M1, A M1 → G E x M1 (pc + 3) lv st) : G E x M pc lv (.int v :: .ref (ad E 1) :: st) := g_putI X (⟨by decide, fun E f h => ⟨_, rfl, rfl, fun v => ⟨rfl, Nat.le_of_ble_eq_true rfl⟩⟩⟩ : FI 1 6 7) (ci := 6) (T := TX6) (N := 11) (ty := .int) rfl in_X6 tyX6 tyX6_ok nmX6 (Nat.le_of_ble_eq_true rfl) m19 rfl (by decide +kernel) rfl rfl hd h kk
theorem fg_X6_28 {E : Ek} {x : MC} {cc : ByteArray} {nL hm pc : Nat} {M : Mem} {lv : List (Nat × Value)} {st : List Value} (X : Cx E x cc nL RX6 hm) (hd : decode cc pc = .ok (.getfield 28, 3)) (kk : G E x M (pc + 3) lv (.int (rd M 1 7) :: st)) : G E x M pc lv (.ref (ad E 1) :: st) := g_getI X (⟨by decide, fun E f h => ⟨_, rfl, rfl, fun v => ⟨rfl, Nat.le_of_ble_eq_true rfl⟩⟩⟩ : FI 1 6 7) (ci := 6) (T := TX6) (N := 11) rfl in_X6 (Nat.le_of_ble_eq_true rfl) m19 hd kk
theorem fp_X6_25 {E : Ek} {x : MC} {cc : ByteArray} {nL hm pc : Nat} {M : Mem} {lv : List (Nat × Value)} {st : List Value} (X : Cx E x cc nL RX6 hm) {v : Int32} {A : Mem → Prop} (hd : decode cc pc = .ok (.putfield 25, 3)) (h : ∀ M1, M1 = wr M 1 6 v → A M1) (kk : ∀ M1, A M1 → G E x M1 (pc + 3) lv st) : G E x M pc lv (.int v :: .ref (ad E 1) :: st) := g_putI X (⟨by decide, fun E f h => ⟨_, rfl, rfl, fun v => ⟨rfl, Nat.le_of_ble_eq_true rfl⟩⟩⟩ : FI 1 6 6) (ci := 6) (T := TX6) (N := 11) (ty := .int) rfl in_X6 tyX6 tyX6_ok nmX6 (Nat.le_of_ble_eq_true rfl) m25 rfl (by decide +kernel) rfl rfl hd h kk
theorem fg_X6_25 {E : Ek} {x : MC} {cc : ByteArray} {nL hm pc : Nat} {M : Mem} {lv : List (Nat × Value)} {st : List Value} (X : Cx E x cc nL RX6 hm) (hd : decode cc pc = .ok (.getfield 25, 3)) (kk : G E x M (pc + 3) lv (.int (rd M 1 6) :: st)) : G E x M pc lv (.ref (ad E 1) :: st) := g_getI X (⟨by decide, fun E f h => ⟨_, rfl, rfl, fun v => ⟨rfl, Nat.le_of_ble_eq_true rfl⟩⟩⟩ : FI 1 6 6) (ci := 6) (T := TX6) (N := 11) rfl in_X6 (Nat.le_of_ble_eq_true rfl) m25 hd kk
theorem fg_X6_34 {E : Ek} {x : MC} {cc : ByteArray} {nL hm pc : Nat} {M : Mem} {lv : List (Nat × Value)} {st : List Value} (X : Cx E x cc nL RX6 hm) (hd : decode cc pc = .ok (.getfield 34, 3)) (kk : G E x M (pc + 3) lv (.int (rd M 1 9) :: st)) : G E x M pc lv (.ref (ad E 1) :: st) := g_getI X (⟨by decide, fun E f h => ⟨_, rfl, rfl, fun v => ⟨rfl, Nat.le_of_ble_eq_true rfl⟩⟩⟩ : FI 1 6 9) (ci := 6) (T := TX6) (N := 11) rfl in_X6 (Nat.le_of_ble_eq_true rfl) m30 hd kk
theorem fg_X6_37 {E : Ek} {x : MC} {cc : ByteArray} {nL hm pc : Nat} {M : Mem} {lv : List (Nat × Value)} {st : List Value} (X : Cx E x cc nL RX6 hm) (hd : decode cc pc = .ok (.getfield 37, 3)) (kk : G E x M (pc + 3) lv (.int (rd M 1 10) :: st)) : G E x M pc lv (.ref (ad E 1) :: st) := g_getI X (⟨by decide, fun E f h => ⟨_, rfl, rfl, fun v => ⟨rfl, Nat.le_of_ble_eq_true rfl⟩⟩⟩ : FI 1 6 10) (ci := 6) (T := TX6) (N := 11) rfl in_X6 (Nat.le_of_ble_eq_true rfl) m37 hd kk
theorem fp_X6_37 {E : Ek} {x : MC} {cc : ByteArray} {nL hm pc : Nat} {M : Mem} {lv : List (Nat × Value)} {st : List Value} (X : Cx E x cc nL RX6 hm) {v : Int32} {A : Mem → Prop} (hd : decode cc pc = .ok (.putfield 37, 3)) (h : ∀ M1, M1 = wr M 1 10 v → A M1) (kk : ∀ M1, A M1 → G E x M1 (pc + 3) lv st) : G E x M pc lv (.int v :: .ref (ad E 1) :: st) := g_putI X (⟨by decide, fun E f h => ⟨_, rfl, rfl, fun v => ⟨rfl, Nat.le_of_ble_eq_true rfl⟩⟩⟩ : FI 1 6 10) (ci := 6) (T := TX6) (N := 11) (ty := .int) rfl in_X6 tyX6 tyX6_ok nmX6 (Nat.le_of_ble_eq_true rfl) m37 rfl (by decide +kernel) rfl rfl hd h kk
theorem fg_X6_31 {E : Ek} {x : MC} {cc : ByteArray} {nL hm pc : Nat} {M : Mem} {lv : List (Nat × Value)} {st : List Value} (X : Cx E x cc nL RX6 hm) (hd : decode cc pc = .ok (.getfield 31, 3)) (kk : G E x M (pc + 3) lv (.int (rd M 1 8) :: st)) : G E x M pc lv (.ref (ad E 1) :: st) := g_getI X (⟨by decide, fun E f h => ⟨_, rfl, rfl, fun v => ⟨rfl, Nat.le_of_ble_eq_true rfl⟩⟩⟩ : FI 1 6 8) (ci := 6) (T := TX6) (N := 11) rfl in_X6 (Nat.le_of_ble_eq_true rfl) m40 hd kk
theorem fg_X6_137 {E : Ek} {x : MC} {cc : ByteArray} {nL hm pc : Nat} {M : Mem} {lv : List (Nat × Value)} {st : List Value} (X : Cx E x cc nL RX6 hm) {o : Nat} (ho : Aff o) (hd : decode cc pc = .ok (.getfield 137, 3)) (kk : G E x M (pc + 3) lv (.ref (ad E (o + 1)) :: st)) : G E x M pc lv (.ref (ad E o) :: st) := g_getRN X (af_fr1 ho) (ci := 0) (T := TX0) (N := 10) rfl in_X0 (Nat.le_of_ble_eq_true rfl) m46 hd kk
theorem fg_X6_142 {E : Ek} {x : MC} {cc : ByteArray} {nL hm pc : Nat} {M : Mem} {lv : List (Nat × Value)} {st : List Value} (X : Cx E x cc nL RX6 hm) {o : Nat} (ho : Aff o) (hd : decode cc pc = .ok (.getfield 142, 3)) (kk : G E x M (pc + 3) lv (.ref (ad E (o + 2)) :: st)) : G E x M pc lv (.ref (ad E o) :: st) := g_getRN X (af_fr2 ho) (ci := 0) (T := TX0) (N := 10) rfl in_X0 (Nat.le_of_ble_eq_true rfl) m50 hd kk
theorem fg_X6_145 {E : Ek} {x : MC} {cc : ByteArray} {nL hm pc : Nat} {M : Mem} {lv : List (Nat × Value)} {st : List Value} (X : Cx E x cc nL RX6 hm) {o : Nat} (ho : Aff o) (hd : decode cc pc = .ok (.getfield 145, 3)) (kk : G E x M (pc + 3) lv (.ref (ad E (o + 4)) :: st)) : G E x M pc lv (.ref (ad E o) :: st) := g_getRN X (af_fr4 ho) (ci := 0) (T := TX0) (N := 10) rfl in_X0 (Nat.le_of_ble_eq_true rfl) m51 hd kk
theorem fg_X6_148 {E : Ek} {x : MC} {cc : ByteArray} {nL hm pc : Nat} {M : Mem} {lv : List (Nat × Value)} {st : List Value} (X : Cx E x cc nL RX6 hm) {o : Nat} (ho : Aff o) (hd : decode cc pc = .ok (.getfield 148, 3)) (kk : G E x M (pc + 3) lv (.ref (ad E (o + 5)) :: st)) : G E x M pc lv (.ref (ad E o) :: st) := g_getRN X (af_fr5 ho) (ci := 0) (T := TX0) (N := 10) rfl in_X0 (Nat.le_of_ble_eq_true rfl) m55 hd kk
theorem fp_X6_155 {E : Ek} {x : MC} {cc : ByteArray} {nL hm pc : Nat} {M : Mem} {lv : List (Nat × Value)} {st : List Value} (X : Cx E x cc nL RX6 hm) {o : Nat} (ho : Aff o) {v : Int32} {A : Mem → Prop} (hd : decode cc pc = .ok (.putfield 155, 3)) (h : ∀ M1, M1 = wr M o 9 v → A M1) (kk : ∀ M1, A M1 → G E x M1 (pc + 3) lv st) : G E x M pc lv (.int v :: .ref (ad E o) :: st) := g_putIN X (af_fi9 ho) (ci := 0) (T := TX0) (N := 10) (ty := .int) rfl in_X0 tyX0 tyX0_ok nmX0 (Nat.le_of_ble_eq_true rfl) m56 rfl (by decide +kernel) rfl rfl hd h kk
theorem fp_X6_158 {E : Ek} {x : MC} {cc : ByteArray} {nL hm pc : Nat} {M : Mem} {lv : List (Nat × Value)} {st : List Value} (X : Cx E x cc nL RX6 hm) {o : Nat} (ho : Aff o) {v : Int32} {A : Mem → Prop} (hd : decode cc pc = .ok (.putfield 158, 3)) (h : ∀ M1, M1 = wr M o 8 v → A M1) (kk : ∀ M1, A M1 → G E x M1 (pc + 3) lv st) : G E x M pc lv (.int v :: .ref (ad E o) :: st) := g_putIN X (af_fi8 ho) (ci := 0) (T := TX0) (N := 10) (ty := .int) rfl in_X0 tyX0 tyX0_ok nmX0 (Nat.le_of_ble_eq_true rfl) m57 rfl (by decide +kernel) rfl rfl hd h kk
theorem fg_X6_152 {E : Ek} {x : MC} {cc : ByteArray} {nL hm pc : Nat} {M : Mem} {lv : List (Nat × Value)} {st : List Value} (X : Cx E x cc nL RX6 hm) {o : Nat} (ho : Aff o) (hd : decode cc pc = .ok (.getfield 152, 3)) (kk : G E x M (pc + 3) lv (.ref (ad E (o + 3)) :: st)) : G E x M pc lv (.ref (ad E o) :: st) := g_getRN X (af_fr3 ho) (ci := 0) (T := TX0) (N := 10) rfl in_X0 (Nat.le_of_ble_eq_true rfl) m58 hd kk
theorem fg_X11_19 {E : Ek} {x : MC} {cc : ByteArray} {nL hm pc : Nat} {M : Mem} {lv : List (Nat × Value)} {st : List Value} (X : Cx E x cc nL RX11 hm) (hd : decode cc pc = .ok (.getfield 19, 3)) (kk : G E x M (pc + 3) lv (.ref (ad E 3) :: st)) : G E x M pc lv (.ref (ad E 0) :: st) := g_getR X (⟨by decide, fun E f h => ⟨_, rfl, rfl⟩⟩ : FR 0 11 1 3) (ci := 11) (T := TX11) (N := 10) rfl in_X11 (Nat.le_of_ble_eq_true rfl) m60 hd kk
theorem fg_X11_90 {E : Ek} {x : MC} {cc : ByteArray} {nL hm pc : Nat} {M : Mem} {lv : List (Nat × Value)} {st : List Value} (X : Cx E x cc nL RX11 hm) (hd : decode cc pc = .ok (.getfield 90, 3)) (kk : G E x M (pc + 3) lv (.int (rd M 3 2) :: st)) : G E x M pc lv (.ref (ad E 3) :: st) := g_getIN X (⟨by decide, fun E f h => ⟨_, rfl, rfl, fun v => ⟨rfl, Nat.le_of_ble_eq_true rfl⟩⟩⟩ : FI 3 4 2) (ci := 4) (T := TX4) (N := 11) rfl in_X4 (Nat.le_of_ble_eq_true rfl) m61 hd kk
theorem fg_X0_18 {E : Ek} {x : MC} {cc : ByteArray} {nL hm pc : Nat} {M : Mem} {lv : List (Nat × Value)} {st : List Value} (X : Cx E x cc nL RX0 hm) {o : Nat} (ho : Aff o) (hd : decode cc pc = .ok (.getfield 18, 3)) (kk : G E x M (pc + 3) lv (.ref (ad E (o + 3)) :: st)) : G E x M pc lv (.ref (ad E o) :: st) := g_getR X (af_fr3 ho) (ci := 0) (T := TX0) (N := 10) rfl in_X0 (Nat.le_of_ble_eq_true rfl) m73 hd kk
theorem fg_X4_9 {E : Ek} {x : MC} {cc : ByteArray} {nL hm pc : Nat} {M : Mem} {lv : List (Nat × Value)} {st : List Value} (X : Cx E x cc nL RX4 hm) (hd : decode cc pc = .ok (.getfield 9, 3)) (kk : G E x M (pc + 3) lv (.ref (ad E 4) :: st)) : G E x M pc lv (.ref (ad E 3) :: st) := g_getR X (⟨by decide, fun E f h => ⟨_, rfl, rfl⟩⟩ : FR 3 4 4 4) (ci := 4) (T := TX4) (N := 11) rfl in_X4 (Nat.le_of_ble_eq_true rfl) m76 hd kk
theorem fg_X4_15 {E : Ek} {x : MC} {cc : ByteArray} {nL hm pc : Nat} {M : Mem} {lv : List (Nat × Value)} {st : List Value} (X : Cx E x cc nL RX4 hm) (hd : decode cc pc = .ok (.getfield 15, 3)) (kk : G E x M (pc + 3) lv (.ref (ad E 5) :: st)) : G E x M pc lv (.ref (ad E 3) :: st) := g_getR X (⟨by decide, fun E f h => ⟨_, rfl, rfl⟩⟩ : FR 3 4 5 5) (ci := 4) (T := TX4) (N := 11) rfl in_X4 (Nat.le_of_ble_eq_true rfl) m77 hd kk
theorem fg_X0_34 {E : Ek} {x : MC} {cc : ByteArray} {nL hm pc : Nat} {M : Mem} {lv : List (Nat × Value)} {st : List Value} (X : Cx E x cc nL RX0 hm) {o : Nat} (ho : Aff o) (hd : decode cc pc = .ok (.getfield 34, 3)) (kk : G E x M (pc + 3) lv (.ref (ad E 3) :: st)) : G E x M pc lv (.ref (ad E o) :: st) := g_getR X (af_fr0 ho) (ci := 0) (T := TX0) (N := 10) rfl in_X0 (Nat.le_of_ble_eq_true rfl) m83 hd kk
theorem fg_X0_45 {E : Ek} {x : MC} {cc : ByteArray} {nL hm pc : Nat} {M : Mem} {lv : List (Nat × Value)} {st : List Value} (X : Cx E x cc nL RX0 hm) (hd : decode cc pc = .ok (.getfield 45, 3)) (kk : G E x M (pc + 3) lv (.ref (ad E 6) :: st)) : G E x M pc lv (.ref (ad E 3) :: st) := g_getRN X (⟨by decide, fun E f h => ⟨_, rfl, rfl⟩⟩ : FR 3 4 6 6) (ci := 4) (T := TX4) (N := 11) rfl in_X4 (Nat.le_of_ble_eq_true rfl) m84 hd kk
theorem fg_X0_50 {E : Ek} {x : MC} {cc : ByteArray} {nL hm pc : Nat} {M : Mem} {lv : List (Nat × Value)} {st : List Value} (X : Cx E x cc nL RX0 hm) (hd : decode cc pc = .ok (.getfield 50, 3)) (kk : G E x M (pc + 3) lv (.ref (ad E 7) :: st)) : G E x M pc lv (.ref (ad E 3) :: st) := g_getRN X (⟨by decide, fun E f h => ⟨_, rfl, rfl⟩⟩ : FR 3 4 7 7) (ci := 4) (T := TX4) (N := 11) rfl in_X4 (Nat.le_of_ble_eq_true rfl) m85 hd kk
theorem fg_X0_15 {E : Ek} {x : MC} {cc : ByteArray} {nL hm pc : Nat} {M : Mem} {lv : List (Nat × Value)} {st : List Value} (X : Cx E x cc nL RX0 hm) {o : Nat} (ho : Aff o) (hd : decode cc pc = .ok (.getfield 15, 3)) (kk : G E x M (pc + 3) lv (.ref (ad E (o + 2)) :: st)) : G E x M pc lv (.ref (ad E o) :: st) := g_getR X (af_fr2 ho) (ci := 0) (T := TX0) (N := 10) rfl in_X0 (Nat.le_of_ble_eq_true rfl) m87 hd kk
theorem fg_X0_118 {E : Ek} {x : MC} {cc : ByteArray} {nL hm pc : Nat} {M : Mem} {lv : List (Nat × Value)} {st : List Value} (X : Cx E x cc nL RX0 hm) (hd : decode cc pc = .ok (.getfield 118, 3)) (kk : G E x M (pc + 3) lv (.int (rd M 3 1) :: st)) : G E x M pc lv (.ref (ad E 3) :: st) := g_getIN X (⟨by decide, fun E f h => ⟨_, rfl, rfl, fun v => ⟨rfl, Nat.le_of_ble_eq_true rfl⟩⟩⟩ : FI 3 4 1) (ci := 4) (T := TX4) (N := 11) rfl in_X4 (Nat.le_of_ble_eq_true rfl) m95 hd kk
theorem fg_X0_71 {E : Ek} {x : MC} {cc : ByteArray} {nL hm pc : Nat} {M : Mem} {lv : List (Nat × Value)} {st : List Value} (X : Cx E x cc nL RX0 hm) (hd : decode cc pc = .ok (.getfield 71, 3)) (kk : G E x M (pc + 3) lv (.ref (ad E 8) :: st)) : G E x M pc lv (.ref (ad E 3) :: st) := g_getRN X (⟨by decide, fun E f h => ⟨_, rfl, rfl⟩⟩ : FR 3 4 8 8) (ci := 4) (T := TX4) (N := 11) rfl in_X4 (Nat.le_of_ble_eq_true rfl) m103 hd kk
theorem fg_X0_21 {E : Ek} {x : MC} {cc : ByteArray} {nL hm pc : Nat} {M : Mem} {lv : List (Nat × Value)} {st : List Value} (X : Cx E x cc nL RX0 hm) {o : Nat} (ho : Aff o) (hd : decode cc pc = .ok (.getfield 21, 3)) (kk : G E x M (pc + 3) lv (.ref (ad E (o + 4)) :: st)) : G E x M pc lv (.ref (ad E o) :: st) := g_getR X (af_fr4 ho) (ci := 0) (T := TX0) (N := 10) rfl in_X0 (Nat.le_of_ble_eq_true rfl) m104 hd kk
theorem fg_X0_24 {E : Ek} {x : MC} {cc : ByteArray} {nL hm pc : Nat} {M : Mem} {lv : List (Nat × Value)} {st : List Value} (X : Cx E x cc nL RX0 hm) {o : Nat} (ho : Aff o) (hd : decode cc pc = .ok (.getfield 24, 3)) (kk : G E x M (pc + 3) lv (.ref (ad E (o + 5)) :: st)) : G E x M pc lv (.ref (ad E o) :: st) := g_getR X (af_fr5 ho) (ci := 0) (T := TX0) (N := 10) rfl in_X0 (Nat.le_of_ble_eq_true rfl) m109 hd kk
theorem fg_X0_9 {E : Ek} {x : MC} {cc : ByteArray} {nL hm pc : Nat} {M : Mem} {lv : List (Nat × Value)} {st : List Value} (X : Cx E x cc nL RX0 hm) {o : Nat} (ho : Aff o) (hd : decode cc pc = .ok (.getfield 9, 3)) (kk : G E x M (pc + 3) lv (.ref (ad E (o + 1)) :: st)) : G E x M pc lv (.ref (ad E o) :: st) := g_getR X (af_fr1 ho) (ci := 0) (T := TX0) (N := 10) rfl in_X0 (Nat.le_of_ble_eq_true rfl) m110 hd kk
theorem fg_X0_81 {E : Ek} {x : MC} {cc : ByteArray} {nL hm pc : Nat} {M : Mem} {lv : List (Nat × Value)} {st : List Value} (X : Cx E x cc nL RX0 hm) (hd : decode cc pc = .ok (.getfield 81, 3)) (kk : G E x M (pc + 3) lv (.ref (ad E 10) :: st)) : G E x M pc lv (.ref (ad E 3) :: st) := g_getRN X (⟨by decide, fun E f h => ⟨_, rfl, rfl⟩⟩ : FR 3 4 10 10) (ci := 4) (T := TX4) (N := 11) rfl in_X4 (Nat.le_of_ble_eq_true rfl) m114 hd kk
theorem fg_X0_84 {E : Ek} {x : MC} {cc : ByteArray} {nL hm pc : Nat} {M : Mem} {lv : List (Nat × Value)} {st : List Value} (X : Cx E x cc nL RX0 hm) (hd : decode cc pc = .ok (.getfield 84, 3)) (kk : G E x M (pc + 3) lv (.ref (ad E 9) :: st)) : G E x M pc lv (.ref (ad E 3) :: st) := g_getRN X (⟨by decide, fun E f h => ⟨_, rfl, rfl⟩⟩ : FR 3 4 9 9) (ci := 4) (T := TX4) (N := 11) rfl in_X4 (Nat.le_of_ble_eq_true rfl) m115 hd kk
theorem fg_X0_95 {E : Ek} {x : MC} {cc : ByteArray} {nL hm pc : Nat} {M : Mem} {lv : List (Nat × Value)} {st : List Value} (X : Cx E x cc nL RX0 hm) (hd : decode cc pc = .ok (.getfield 95, 3)) (kk : G E x M (pc + 3) lv (.int (rd M 3 3) :: st)) : G E x M pc lv (.ref (ad E 3) :: st) := g_getIN X (⟨by decide, fun E f h => ⟨_, rfl, rfl, fun v => ⟨rfl, Nat.le_of_ble_eq_true rfl⟩⟩⟩ : FI 3 4 3) (ci := 4) (T := TX4) (N := 11) rfl in_X4 (Nat.le_of_ble_eq_true rfl) m117 hd kk
theorem fg_X0_38 {E : Ek} {x : MC} {cc : ByteArray} {nL hm pc : Nat} {M : Mem} {lv : List (Nat × Value)} {st : List Value} (X : Cx E x cc nL RX0 hm) {o : Nat} (ho : Aff o) (hd : decode cc pc = .ok (.getfield 38, 3)) (kk : G E x M (pc + 3) lv (.int (rd M o 8) :: st)) : G E x M pc lv (.ref (ad E o) :: st) := g_getI X (af_fi8 ho) (ci := 0) (T := TX0) (N := 10) rfl in_X0 (Nat.le_of_ble_eq_true rfl) m124 hd kk
theorem fg_X0_28 {E : Ek} {x : MC} {cc : ByteArray} {nL hm pc : Nat} {M : Mem} {lv : List (Nat × Value)} {st : List Value} (X : Cx E x cc nL RX0 hm) {o : Nat} (ho : Aff o) (hd : decode cc pc = .ok (.getfield 28, 3)) (kk : G E x M (pc + 3) lv (.ref (ad E (o + 6)) :: st)) : G E x M pc lv (.ref (ad E o) :: st) := g_getR X (af_fr6 ho) (ci := 0) (T := TX0) (N := 10) rfl in_X0 (Nat.le_of_ble_eq_true rfl) m125 hd kk
theorem fg_X0_31 {E : Ek} {x : MC} {cc : ByteArray} {nL hm pc : Nat} {M : Mem} {lv : List (Nat × Value)} {st : List Value} (X : Cx E x cc nL RX0 hm) {o : Nat} (ho : Aff o) (hd : decode cc pc = .ok (.getfield 31, 3)) (kk : G E x M (pc + 3) lv (.ref (ad E (o + 7)) :: st)) : G E x M pc lv (.ref (ad E o) :: st) := g_getR X (af_fr7 ho) (ci := 0) (T := TX0) (N := 10) rfl in_X0 (Nat.le_of_ble_eq_true rfl) m126 hd kk
theorem fg_X11_96 {E : Ek} {x : MC} {cc : ByteArray} {nL hm pc : Nat} {M : Mem} {lv : List (Nat × Value)} {st : List Value} (X : Cx E x cc nL RX11 hm) (hd : decode cc pc = .ok (.getfield 96, 3)) (kk : G E x M (pc + 3) lv (.ref (ad E 7) :: st)) : G E x M pc lv (.ref (ad E 3) :: st) := g_getRN X (⟨by decide, fun E f h => ⟨_, rfl, rfl⟩⟩ : FR 3 4 7 7) (ci := 4) (T := TX4) (N := 11) rfl in_X4 (Nat.le_of_ble_eq_true rfl) m149 hd kk
theorem fg_X11_28 {E : Ek} {x : MC} {cc : ByteArray} {nL hm pc : Nat} {M : Mem} {lv : List (Nat × Value)} {st : List Value} (X : Cx E x cc nL RX11 hm) (hd : decode cc pc = .ok (.getfield 28, 3)) (kk : G E x M (pc + 3) lv (.ref (ad E 59) :: st)) : G E x M pc lv (.ref (ad E 0) :: st) := g_getR X (⟨by decide, fun E f h => ⟨_, rfl, rfl⟩⟩ : FR 0 11 2 59) (ci := 11) (T := TX11) (N := 10) rfl in_X11 (Nat.le_of_ble_eq_true rfl) m150 hd kk
theorem fg_X11_106 {E : Ek} {x : MC} {cc : ByteArray} {nL hm pc : Nat} {M : Mem} {lv : List (Nat × Value)} {st : List Value} (X : Cx E x cc nL RX11 hm) {o : Nat} (ho : Aff o) (hd : decode cc pc = .ok (.getfield 106, 3)) (kk : G E x M (pc + 3) lv (.ref (ad E (o + 1)) :: st)) : G E x M pc lv (.ref (ad E o) :: st) := g_getRN X (af_fr1 ho) (ci := 0) (T := TX0) (N := 10) rfl in_X0 (Nat.le_of_ble_eq_true rfl) m151 hd kk
theorem fg_X11_110 {E : Ek} {x : MC} {cc : ByteArray} {nL hm pc : Nat} {M : Mem} {lv : List (Nat × Value)} {st : List Value} (X : Cx E x cc nL RX11 hm) {o : Nat} (ho : Aff o) (hd : decode cc pc = .ok (.getfield 110, 3)) (kk : G E x M (pc + 3) lv (.ref (ad E (o + 2)) :: st)) : G E x M pc lv (.ref (ad E o) :: st) := g_getRN X (af_fr2 ho) (ci := 0) (T := TX0) (N := 10) rfl in_X0 (Nat.le_of_ble_eq_true rfl) m152 hd kk
theorem fg_X4_23 {E : Ek} {x : MC} {cc : ByteArray} {nL hm pc : Nat} {M : Mem} {lv : List (Nat × Value)} {st : List Value} (X : Cx E x cc nL RX4 hm) (hd : decode cc pc = .ok (.getfield 23, 3)) (kk : G E x M (pc + 3) lv (.ref (ad E 7) :: st)) : G E x M pc lv (.ref (ad E 3) :: st) := g_getR X (⟨by decide, fun E f h => ⟨_, rfl, rfl⟩⟩ : FR 3 4 7 7) (ci := 4) (T := TX4) (N := 11) rfl in_X4 (Nat.le_of_ble_eq_true rfl) m170 hd kk
theorem fg_X11_241 {E : Ek} {x : MC} {cc : ByteArray} {nL hm pc : Nat} {M : Mem} {lv : List (Nat × Value)} {st : List Value} (X : Cx E x cc nL RX11 hm) (hd : decode cc pc = .ok (.getfield 241, 3)) (kk : G E x M (pc + 3) lv (.int (rd M 3 1) :: st)) : G E x M pc lv (.ref (ad E 3) :: st) := g_getIN X (⟨by decide, fun E f h => ⟨_, rfl, rfl, fun v => ⟨rfl, Nat.le_of_ble_eq_true rfl⟩⟩⟩ : FI 3 4 1) (ci := 4) (T := TX4) (N := 11) rfl in_X4 (Nat.le_of_ble_eq_true rfl) m176 hd kk
theorem fg_X11_139 {E : Ek} {x : MC} {cc : ByteArray} {nL hm pc : Nat} {M : Mem} {lv : List (Nat × Value)} {st : List Value} (X : Cx E x cc nL RX11 hm) (hd : decode cc pc = .ok (.getfield 139, 3)) (kk : G E x M (pc + 3) lv (.ref (ad E 4) :: st)) : G E x M pc lv (.ref (ad E 3) :: st) := g_getRN X (⟨by decide, fun E f h => ⟨_, rfl, rfl⟩⟩ : FR 3 4 4 4) (ci := 4) (T := TX4) (N := 11) rfl in_X4 (Nat.le_of_ble_eq_true rfl) m181 hd kk
theorem fg_X11_142 {E : Ek} {x : MC} {cc : ByteArray} {nL hm pc : Nat} {M : Mem} {lv : List (Nat × Value)} {st : List Value} (X : Cx E x cc nL RX11 hm) (hd : decode cc pc = .ok (.getfield 142, 3)) (kk : G E x M (pc + 3) lv (.ref (ad E 5) :: st)) : G E x M pc lv (.ref (ad E 3) :: st) := g_getRN X (⟨by decide, fun E f h => ⟨_, rfl, rfl⟩⟩ : FR 3 4 5 5) (ci := 4) (T := TX4) (N := 11) rfl in_X4 (Nat.le_of_ble_eq_true rfl) m182 hd kk
theorem fg_X11_145 {E : Ek} {x : MC} {cc : ByteArray} {nL hm pc : Nat} {M : Mem} {lv : List (Nat × Value)} {st : List Value} (X : Cx E x cc nL RX11 hm) (hd : decode cc pc = .ok (.getfield 145, 3)) (kk : G E x M (pc + 3) lv (.ref (ad E 6) :: st)) : G E x M pc lv (.ref (ad E 3) :: st) := g_getRN X (⟨by decide, fun E f h => ⟨_, rfl, rfl⟩⟩ : FR 3 4 6 6) (ci := 4) (T := TX4) (N := 11) rfl in_X4 (Nat.le_of_ble_eq_true rfl) m183 hd kk
theorem fg_X11_258 {E : Ek} {x : MC} {cc : ByteArray} {nL hm pc : Nat} {M : Mem} {lv : List (Nat × Value)} {st : List Value} (X : Cx E x cc nL RX11 hm) (hd : decode cc pc = .ok (.getfield 258, 3)) (kk : G E x M (pc + 3) lv (.int (rd M 3 3) :: st)) : G E x M pc lv (.ref (ad E 3) :: st) := g_getIN X (⟨by decide, fun E f h => ⟨_, rfl, rfl, fun v => ⟨rfl, Nat.le_of_ble_eq_true rfl⟩⟩⟩ : FI 3 4 3) (ci := 4) (T := TX4) (N := 11) rfl in_X4 (Nat.le_of_ble_eq_true rfl) m185 hd kk
theorem fg_X11_151 {E : Ek} {x : MC} {cc : ByteArray} {nL hm pc : Nat} {M : Mem} {lv : List (Nat × Value)} {st : List Value} (X : Cx E x cc nL RX11 hm) (hd : decode cc pc = .ok (.getfield 151, 3)) (kk : G E x M (pc + 3) lv (.ref (ad E 8) :: st)) : G E x M pc lv (.ref (ad E 3) :: st) := g_getRN X (⟨by decide, fun E f h => ⟨_, rfl, rfl⟩⟩ : FR 3 4 8 8) (ci := 4) (T := TX4) (N := 11) rfl in_X4 (Nat.le_of_ble_eq_true rfl) m190 hd kk
theorem fg_X11_154 {E : Ek} {x : MC} {cc : ByteArray} {nL hm pc : Nat} {M : Mem} {lv : List (Nat × Value)} {st : List Value} (X : Cx E x cc nL RX11 hm) (hd : decode cc pc = .ok (.getfield 154, 3)) (kk : G E x M (pc + 3) lv (.ref (ad E 9) :: st)) : G E x M pc lv (.ref (ad E 3) :: st) := g_getRN X (⟨by decide, fun E f h => ⟨_, rfl, rfl⟩⟩ : FR 3 4 9 9) (ci := 4) (T := TX4) (N := 11) rfl in_X4 (Nat.le_of_ble_eq_true rfl) m191 hd kk
theorem fg_X11_157 {E : Ek} {x : MC} {cc : ByteArray} {nL hm pc : Nat} {M : Mem} {lv : List (Nat × Value)} {st : List Value} (X : Cx E x cc nL RX11 hm) (hd : decode cc pc = .ok (.getfield 157, 3)) (kk : G E x M (pc + 3) lv (.ref (ad E 10) :: st)) : G E x M pc lv (.ref (ad E 3) :: st) := g_getRN X (⟨by decide, fun E f h => ⟨_, rfl, rfl⟩⟩ : FR 3 4 10 10) (ci := 4) (T := TX4) (N := 11) rfl in_X4 (Nat.le_of_ble_eq_true rfl) m192 hd kk
theorem fg_X11_160 {E : Ek} {x : MC} {cc : ByteArray} {nL hm pc : Nat} {M : Mem} {lv : List (Nat × Value)} {st : List Value} (X : Cx E x cc nL RX11 hm) {o : Nat} (ho : Aff o) (hd : decode cc pc = .ok (.getfield 160, 3)) (kk : G E x M (pc + 3) lv (.ref (ad E (o + 4)) :: st)) : G E x M pc lv (.ref (ad E o) :: st) := g_getRN X (af_fr4 ho) (ci := 0) (T := TX0) (N := 10) rfl in_X0 (Nat.le_of_ble_eq_true rfl) m193 hd kk
theorem fg_X11_166 {E : Ek} {x : MC} {cc : ByteArray} {nL hm pc : Nat} {M : Mem} {lv : List (Nat × Value)} {st : List Value} (X : Cx E x cc nL RX11 hm) {o : Nat} (ho : Aff o) (hd : decode cc pc = .ok (.getfield 166, 3)) (kk : G E x M (pc + 3) lv (.ref (ad E (o + 5)) :: st)) : G E x M pc lv (.ref (ad E o) :: st) := g_getRN X (af_fr5 ho) (ci := 0) (T := TX0) (N := 10) rfl in_X0 (Nat.le_of_ble_eq_true rfl) m195 hd kk
theorem fg_X0_42 {E : Ek} {x : MC} {cc : ByteArray} {nL hm pc : Nat} {M : Mem} {lv : List (Nat × Value)} {st : List Value} (X : Cx E x cc nL RX0 hm) {o : Nat} (ho : Aff o) (hd : decode cc pc = .ok (.getfield 42, 3)) (kk : G E x M (pc + 3) lv (.int (rd M o 9) :: st)) : G E x M pc lv (.ref (ad E o) :: st) := g_getI X (af_fi9 ho) (ci := 0) (T := TX0) (N := 10) rfl in_X0 (Nat.le_of_ble_eq_true rfl) m201 hd kk
theorem fp_X0_42 {E : Ek} {x : MC} {cc : ByteArray} {nL hm pc : Nat} {M : Mem} {lv : List (Nat × Value)} {st : List Value} (X : Cx E x cc nL RX0 hm) {o : Nat} (ho : Aff o) {v : Int32} {A : Mem → Prop} (hd : decode cc pc = .ok (.putfield 42, 3)) (h : ∀ M1, M1 = wr M o 9 v → A M1) (kk : ∀ M1, A M1 → G E x M1 (pc + 3) lv st) : G E x M pc lv (.int v :: .ref (ad E o) :: st) := g_putI X (af_fi9 ho) (ci := 0) (T := TX0) (N := 10) (ty := .int) rfl in_X0 tyX0 tyX0_ok nmX0 (Nat.le_of_ble_eq_true rfl) m201 rfl (by decide +kernel) rfl rfl hd h kk
theorem fg_X11_173 {E : Ek} {x : MC} {cc : ByteArray} {nL hm pc : Nat} {M : Mem} {lv : List (Nat × Value)} {st : List Value} (X : Cx E x cc nL RX11 hm) {o : Nat} (ho : Aff o) (hd : decode cc pc = .ok (.getfield 173, 3)) (kk : G E x M (pc + 3) lv (.int (rd M o 9) :: st)) : G E x M pc lv (.ref (ad E o) :: st) := g_getIN X (af_fi9 ho) (ci := 0) (T := TX0) (N := 10) rfl in_X0 (Nat.le_of_ble_eq_true rfl) m204 hd kk
theorem fg_X11_180 {E : Ek} {x : MC} {cc : ByteArray} {nL hm pc : Nat} {M : Mem} {lv : List (Nat × Value)} {st : List Value} (X : Cx E x cc nL RX11 hm) {o : Nat} (ho : Aff o) (hd : decode cc pc = .ok (.getfield 180, 3)) (kk : G E x M (pc + 3) lv (.ref (ad E (o + 3)) :: st)) : G E x M pc lv (.ref (ad E o) :: st) := g_getRN X (af_fr3 ho) (ci := 0) (T := TX0) (N := 10) rfl in_X0 (Nat.le_of_ble_eq_true rfl) m209 hd kk
theorem fg_X11_255 {E : Ek} {x : MC} {cc : ByteArray} {nL hm pc : Nat} {M : Mem} {lv : List (Nat × Value)} {st : List Value} (X : Cx E x cc nL RX11 hm) (hd : decode cc pc = .ok (.getfield 255, 3)) (kk : G E x M (pc + 3) lv (.int (rd M 3 0) :: st)) : G E x M pc lv (.ref (ad E 3) :: st) := g_getIN X (⟨by decide, fun E f h => ⟨_, rfl, rfl, fun v => ⟨rfl, Nat.le_of_ble_eq_true rfl⟩⟩⟩ : FI 3 4 0) (ci := 4) (T := TX4) (N := 11) rfl in_X4 (Nat.le_of_ble_eq_true rfl) m223 hd kk
theorem fg_X10_9 {E : Ek} {x : MC} {cc : ByteArray} {nL hm pc : Nat} {M : Mem} {lv : List (Nat × Value)} {st : List Value} (X : Cx E x cc nL RX10 hm) (hd : decode cc pc = .ok (.getfield 9, 3)) (kk : G E x M (pc + 3) lv (.ref (ad E 16) :: st)) : G E x M pc lv (.ref (ad E 15) :: st) := g_getR X (⟨by decide, fun E f h => ⟨_, rfl, rfl⟩⟩ : FR 15 10 1 16) (ci := 10) (T := TX10) (N := 4) rfl in_X10 (Nat.le_of_ble_eq_true rfl) m225 hd kk
theorem fg_X10_21 {E : Ek} {x : MC} {cc : ByteArray} {nL hm pc : Nat} {M : Mem} {lv : List (Nat × Value)} {st : List Value} (X : Cx E x cc nL RX10 hm) (hd : decode cc pc = .ok (.getfield 21, 3)) (kk : G E x M (pc + 3) lv (.ref (ad E 3) :: st)) : G E x M pc lv (.ref (ad E 15) :: st) := g_getR X (⟨by decide, fun E f h => ⟨_, rfl, rfl⟩⟩ : FR 15 10 0 3) (ci := 10) (T := TX10) (N := 4) rfl in_X10 (Nat.le_of_ble_eq_true rfl) m228 hd kk
theorem fg_X10_44 {E : Ek} {x : MC} {cc : ByteArray} {nL hm pc : Nat} {M : Mem} {lv : List (Nat × Value)} {st : List Value} (X : Cx E x cc nL RX10 hm) (hd : decode cc pc = .ok (.getfield 44, 3)) (kk : G E x M (pc + 3) lv (.int (rd M 3 0) :: st)) : G E x M pc lv (.ref (ad E 3) :: st) := g_getIN X (⟨by decide, fun E f h => ⟨_, rfl, rfl, fun v => ⟨rfl, Nat.le_of_ble_eq_true rfl⟩⟩⟩ : FI 3 4 0) (ci := 4) (T := TX4) (N := 11) rfl in_X4 (Nat.le_of_ble_eq_true rfl) m229 hd kk
theorem fg_X10_48 {E : Ek} {x : MC} {cc : ByteArray} {nL hm pc : Nat} {M : Mem} {lv : List (Nat × Value)} {st : List Value} (X : Cx E x cc nL RX10 hm) (hd : decode cc pc = .ok (.getfield 48, 3)) (kk : G E x M (pc + 3) lv (.int (rd M 3 1) :: st)) : G E x M pc lv (.ref (ad E 3) :: st) := g_getIN X (⟨by decide, fun E f h => ⟨_, rfl, rfl, fun v => ⟨rfl, Nat.le_of_ble_eq_true rfl⟩⟩⟩ : FI 3 4 1) (ci := 4) (T := TX4) (N := 11) rfl in_X4 (Nat.le_of_ble_eq_true rfl) m230 hd kk
theorem fg_X10_55 {E : Ek} {x : MC} {cc : ByteArray} {nL hm pc : Nat} {M : Mem} {lv : List (Nat × Value)} {st : List Value} (X : Cx E x cc nL RX10 hm) (hd : decode cc pc = .ok (.getfield 55, 3)) (kk : G E x M (pc + 3) lv (.ref (ad E 4) :: st)) : G E x M pc lv (.ref (ad E 3) :: st) := g_getRN X (⟨by decide, fun E f h => ⟨_, rfl, rfl⟩⟩ : FR 3 4 4 4) (ci := 4) (T := TX4) (N := 11) rfl in_X4 (Nat.le_of_ble_eq_true rfl) m232 hd kk
theorem fg_X10_58 {E : Ek} {x : MC} {cc : ByteArray} {nL hm pc : Nat} {M : Mem} {lv : List (Nat × Value)} {st : List Value} (X : Cx E x cc nL RX10 hm) (hd : decode cc pc = .ok (.getfield 58, 3)) (kk : G E x M (pc + 3) lv (.ref (ad E 5) :: st)) : G E x M pc lv (.ref (ad E 3) :: st) := g_getRN X (⟨by decide, fun E f h => ⟨_, rfl, rfl⟩⟩ : FR 3 4 5 5) (ci := 4) (T := TX4) (N := 11) rfl in_X4 (Nat.le_of_ble_eq_true rfl) m233 hd kk
theorem fg_X10_29 {E : Ek} {x : MC} {cc : ByteArray} {nL hm pc : Nat} {M : Mem} {lv : List (Nat × Value)} {st : List Value} (X : Cx E x cc nL RX10 hm) {o : Nat} (ho : Aff o) (hd : decode cc pc = .ok (.getfield 29, 3)) (kk : G E x M (pc + 3) lv (.ref (ad E (o + 2)) :: st)) : G E x M pc lv (.ref (ad E o) :: st) := g_getRN X (af_fr2 ho) (ci := 0) (T := TX0) (N := 10) rfl in_X0 (Nat.le_of_ble_eq_true rfl) m241 hd kk
theorem fg_X11_41 {E : Ek} {x : MC} {cc : ByteArray} {nL hm pc : Nat} {M : Mem} {lv : List (Nat × Value)} {st : List Value} (X : Cx E x cc nL RX11 hm) (hd : decode cc pc = .ok (.getfield 41, 3)) (kk : G E x M (pc + 3) lv (.ref (ad E 15) :: st)) : G E x M pc lv (.ref (ad E 0) :: st) := g_getR X (⟨by decide, fun E f h => ⟨_, rfl, rfl⟩⟩ : FR 0 11 5 15) (ci := 11) (T := TX11) (N := 10) rfl in_X11 (Nat.le_of_ble_eq_true rfl) m253 hd kk
theorem fp_X0_38 {E : Ek} {x : MC} {cc : ByteArray} {nL hm pc : Nat} {M : Mem} {lv : List (Nat × Value)} {st : List Value} (X : Cx E x cc nL RX0 hm) {o : Nat} (ho : Aff o) {v : Int32} {A : Mem → Prop} (hd : decode cc pc = .ok (.putfield 38, 3)) (h : ∀ M1, M1 = wr M o 8 v → A M1) (kk : ∀ M1, A M1 → G E x M1 (pc + 3) lv st) : G E x M pc lv (.int v :: .ref (ad E o) :: st) := g_putI X (af_fi8 ho) (ci := 0) (T := TX0) (N := 10) (ty := .int) rfl in_X0 tyX0 tyX0_ok nmX0 (Nat.le_of_ble_eq_true rfl) m124 rfl (by decide +kernel) rfl rfl hd h kk
theorem fg_X5_31 {E : Ek} {x : MC} {cc : ByteArray} {nL hm pc : Nat} {M : Mem} {lv : List (Nat × Value)} {st : List Value} (X : Cx E x cc nL RX5 hm) (hd : decode cc pc = .ok (.getfield 31, 3)) (kk : G E x M (pc + 3) lv (.int (rd M 19 4) :: st)) : G E x M pc lv (.ref (ad E 19) :: st) := g_getI X (⟨by decide, fun E f h => ⟨_, rfl, rfl, fun v => ⟨rfl, Nat.le_of_ble_eq_true rfl⟩⟩⟩ : FI 19 5 4) (ci := 5) (T := TX5) (N := 5) rfl in_X5 (Nat.le_of_ble_eq_true rfl) m264 hd kk
theorem fp_X5_31 {E : Ek} {x : MC} {cc : ByteArray} {nL hm pc : Nat} {M : Mem} {lv : List (Nat × Value)} {st : List Value} (X : Cx E x cc nL RX5 hm) {v : Int32} {A : Mem → Prop} (hd : decode cc pc = .ok (.putfield 31, 3)) (h : ∀ M1, M1 = wr M 19 4 v → A M1) (kk : ∀ M1, A M1 → G E x M1 (pc + 3) lv st) : G E x M pc lv (.int v :: .ref (ad E 19) :: st) := g_putI X (⟨by decide, fun E f h => ⟨_, rfl, rfl, fun v => ⟨rfl, Nat.le_of_ble_eq_true rfl⟩⟩⟩ : FI 19 5 4) (ci := 5) (T := TX5) (N := 5) (ty := .int) rfl in_X5 tyX5 tyX5_ok nmX5 (Nat.le_of_ble_eq_true rfl) m264 rfl (by decide +kernel) rfl rfl hd h kk
theorem fg_X5_21 {E : Ek} {x : MC} {cc : ByteArray} {nL hm pc : Nat} {M : Mem} {lv : List (Nat × Value)} {st : List Value} (X : Cx E x cc nL RX5 hm) (hd : decode cc pc = .ok (.getfield 21, 3)) (kk : G E x M (pc + 3) lv (.ref (ad E 22) :: st)) : G E x M pc lv (.ref (ad E 19) :: st) := g_getR X (⟨by decide, fun E f h => ⟨_, rfl, rfl⟩⟩ : FR 19 5 3 22) (ci := 5) (T := TX5) (N := 5) rfl in_X5 (Nat.le_of_ble_eq_true rfl) m265 hd kk
theorem fg_X5_17 {E : Ek} {x : MC} {cc : ByteArray} {nL hm pc : Nat} {M : Mem} {lv : List (Nat × Value)} {st : List Value} (X : Cx E x cc nL RX5 hm) (hd : decode cc pc = .ok (.getfield 17, 3)) (kk : G E x M (pc + 3) lv (.ref (ad E 21) :: st)) : G E x M pc lv (.ref (ad E 19) :: st) := g_getR X (⟨by decide, fun E f h => ⟨_, rfl, rfl⟩⟩ : FR 19 5 2 21) (ci := 5) (T := TX5) (N := 5) rfl in_X5 (Nat.le_of_ble_eq_true rfl) m266 hd kk
theorem fg_X5_11 {E : Ek} {x : MC} {cc : ByteArray} {nL hm pc : Nat} {M : Mem} {lv : List (Nat × Value)} {st : List Value} (X : Cx E x cc nL RX5 hm) (hd : decode cc pc = .ok (.getfield 11, 3)) (kk : G E x M (pc + 3) lv (.ref (ad E 20) :: st)) : G E x M pc lv (.ref (ad E 19) :: st) := g_getR X (⟨by decide, fun E f h => ⟨_, rfl, rfl⟩⟩ : FR 19 5 1 20) (ci := 5) (T := TX5) (N := 5) rfl in_X5 (Nat.le_of_ble_eq_true rfl) m269 hd kk
theorem fg_X5_24 {E : Ek} {x : MC} {cc : ByteArray} {nL hm pc : Nat} {M : Mem} {lv : List (Nat × Value)} {st : List Value} (X : Cx E x cc nL RX5 hm) (hd : decode cc pc = .ok (.getfield 24, 3)) (kk : G E x M (pc + 3) lv (.ref (ad E 3) :: st)) : G E x M pc lv (.ref (ad E 19) :: st) := g_getR X (⟨by decide, fun E f h => ⟨_, rfl, rfl⟩⟩ : FR 19 5 0 3) (ci := 5) (T := TX5) (N := 5) rfl in_X5 (Nat.le_of_ble_eq_true rfl) m276 hd kk
theorem fg_X5_51 {E : Ek} {x : MC} {cc : ByteArray} {nL hm pc : Nat} {M : Mem} {lv : List (Nat × Value)} {st : List Value} (X : Cx E x cc nL RX5 hm) (hd : decode cc pc = .ok (.getfield 51, 3)) (kk : G E x M (pc + 3) lv (.int (rd M 3 1) :: st)) : G E x M pc lv (.ref (ad E 3) :: st) := g_getIN X (⟨by decide, fun E f h => ⟨_, rfl, rfl, fun v => ⟨rfl, Nat.le_of_ble_eq_true rfl⟩⟩⟩ : FI 3 4 1) (ci := 4) (T := TX4) (N := 11) rfl in_X4 (Nat.le_of_ble_eq_true rfl) m277 hd kk
theorem fg_X11_48 {E : Ek} {x : MC} {cc : ByteArray} {nL hm pc : Nat} {M : Mem} {lv : List (Nat × Value)} {st : List Value} (X : Cx E x cc nL RX11 hm) (hd : decode cc pc = .ok (.getfield 48, 3)) (kk : G E x M (pc + 3) lv (.ref (ad E 19) :: st)) : G E x M pc lv (.ref (ad E 0) :: st) := g_getR X (⟨by decide, fun E f h => ⟨_, rfl, rfl⟩⟩ : FR 0 11 6 19) (ci := 11) (T := TX11) (N := 10) rfl in_X11 (Nat.le_of_ble_eq_true rfl) m288 hd kk
theorem fg_X11_205 {E : Ek} {x : MC} {cc : ByteArray} {nL hm pc : Nat} {M : Mem} {lv : List (Nat × Value)} {st : List Value} (X : Cx E x cc nL RX11 hm) (hd : decode cc pc = .ok (.getfield 205, 3)) (kk : G E x M (pc + 3) lv (.int (rd M 19 4) :: st)) : G E x M pc lv (.ref (ad E 19) :: st) := g_getIN X (⟨by decide, fun E f h => ⟨_, rfl, rfl, fun v => ⟨rfl, Nat.le_of_ble_eq_true rfl⟩⟩⟩ : FI 19 5 4) (ci := 5) (T := TX5) (N := 5) rfl in_X5 (Nat.le_of_ble_eq_true rfl) m295 hd kk
theorem fg_X9_55 {E : Ek} {x : MC} {cc : ByteArray} {nL hm pc : Nat} {M : Mem} {lv : List (Nat × Value)} {st : List Value} (X : Cx E x cc nL RX9 hm) (hd : decode cc pc = .ok (.getfield 55, 3)) (kk : G E x M (pc + 3) lv (.int (rd M 23 6) :: st)) : G E x M pc lv (.ref (ad E 23) :: st) := g_getI X (⟨by decide, fun E f h => ⟨_, rfl, rfl, fun v => ⟨rfl, Nat.le_of_ble_eq_true rfl⟩⟩⟩ : FI 23 9 6) (ci := 9) (T := TX9) (N := 7) rfl in_X9 (Nat.le_of_ble_eq_true rfl) m297 hd kk
theorem fp_X9_55 {E : Ek} {x : MC} {cc : ByteArray} {nL hm pc : Nat} {M : Mem} {lv : List (Nat × Value)} {st : List Value} (X : Cx E x cc nL RX9 hm) {v : Int32} {A : Mem → Prop} (hd : decode cc pc = .ok (.putfield 55, 3)) (h : ∀ M1, M1 = wr M 23 6 v → A M1) (kk : ∀ M1, A M1 → G E x M1 (pc + 3) lv st) : G E x M pc lv (.int v :: .ref (ad E 23) :: st) := g_putI X (⟨by decide, fun E f h => ⟨_, rfl, rfl, fun v => ⟨rfl, Nat.le_of_ble_eq_true rfl⟩⟩⟩ : FI 23 9 6) (ci := 9) (T := TX9) (N := 7) (ty := .int) rfl in_X9 tyX9 tyX9_ok nmX9 (Nat.le_of_ble_eq_true rfl) m297 rfl (by decide +kernel) rfl rfl hd h kk
theorem fg_X9_18 {E : Ek} {x : MC} {cc : ByteArray} {nL hm pc : Nat} {M : Mem} {lv : List (Nat × Value)} {st : List Value} (X : Cx E x cc nL RX9 hm) (hd : decode cc pc = .ok (.getfield 18, 3)) (kk : G E x M (pc + 3) lv (.ref (ad E 26) :: st)) : G E x M pc lv (.ref (ad E 23) :: st) := g_getR X (⟨by decide, fun E f h => ⟨_, rfl, rfl⟩⟩ : FR 23 9 3 26) (ci := 9) (T := TX9) (N := 7) rfl in_X9 (Nat.le_of_ble_eq_true rfl) m298 hd kk
theorem fg_X9_15 {E : Ek} {x : MC} {cc : ByteArray} {nL hm pc : Nat} {M : Mem} {lv : List (Nat × Value)} {st : List Value} (X : Cx E x cc nL RX9 hm) (hd : decode cc pc = .ok (.getfield 15, 3)) (kk : G E x M (pc + 3) lv (.ref (ad E 25) :: st)) : G E x M pc lv (.ref (ad E 23) :: st) := g_getR X (⟨by decide, fun E f h => ⟨_, rfl, rfl⟩⟩ : FR 23 9 2 25) (ci := 9) (T := TX9) (N := 7) rfl in_X9 (Nat.le_of_ble_eq_true rfl) m299 hd kk
theorem fg_X9_9 {E : Ek} {x : MC} {cc : ByteArray} {nL hm pc : Nat} {M : Mem} {lv : List (Nat × Value)} {st : List Value} (X : Cx E x cc nL RX9 hm) (hd : decode cc pc = .ok (.getfield 9, 3)) (kk : G E x M (pc + 3) lv (.ref (ad E 24) :: st)) : G E x M pc lv (.ref (ad E 23) :: st) := g_getR X (⟨by decide, fun E f h => ⟨_, rfl, rfl⟩⟩ : FR 23 9 1 24) (ci := 9) (T := TX9) (N := 7) rfl in_X9 (Nat.le_of_ble_eq_true rfl) m302 hd kk
theorem fg_X9_27 {E : Ek} {x : MC} {cc : ByteArray} {nL hm pc : Nat} {M : Mem} {lv : List (Nat × Value)} {st : List Value} (X : Cx E x cc nL RX9 hm) (hd : decode cc pc = .ok (.getfield 27, 3)) (kk : G E x M (pc + 3) lv (.ref (ad E 3) :: st)) : G E x M pc lv (.ref (ad E 23) :: st) := g_getR X (⟨by decide, fun E f h => ⟨_, rfl, rfl⟩⟩ : FR 23 9 0 3) (ci := 9) (T := TX9) (N := 7) rfl in_X9 (Nat.le_of_ble_eq_true rfl) m303 hd kk
theorem fg_X9_49 {E : Ek} {x : MC} {cc : ByteArray} {nL hm pc : Nat} {M : Mem} {lv : List (Nat × Value)} {st : List Value} (X : Cx E x cc nL RX9 hm) (hd : decode cc pc = .ok (.getfield 49, 3)) (kk : G E x M (pc + 3) lv (.ref (ad E 8) :: st)) : G E x M pc lv (.ref (ad E 3) :: st) := g_getRN X (⟨by decide, fun E f h => ⟨_, rfl, rfl⟩⟩ : FR 3 4 8 8) (ci := 4) (T := TX4) (N := 11) rfl in_X4 (Nat.le_of_ble_eq_true rfl) m304 hd kk
theorem fg_X9_52 {E : Ek} {x : MC} {cc : ByteArray} {nL hm pc : Nat} {M : Mem} {lv : List (Nat × Value)} {st : List Value} (X : Cx E x cc nL RX9 hm) (hd : decode cc pc = .ok (.getfield 52, 3)) (kk : G E x M (pc + 3) lv (.ref (ad E 9) :: st)) : G E x M pc lv (.ref (ad E 3) :: st) := g_getRN X (⟨by decide, fun E f h => ⟨_, rfl, rfl⟩⟩ : FR 3 4 9 9) (ci := 4) (T := TX4) (N := 11) rfl in_X4 (Nat.le_of_ble_eq_true rfl) m305 hd kk
theorem fg_X9_21 {E : Ek} {x : MC} {cc : ByteArray} {nL hm pc : Nat} {M : Mem} {lv : List (Nat × Value)} {st : List Value} (X : Cx E x cc nL RX9 hm) (hd : decode cc pc = .ok (.getfield 21, 3)) (kk : G E x M (pc + 3) lv (.ref (ad E 27) :: st)) : G E x M pc lv (.ref (ad E 23) :: st) := g_getR X (⟨by decide, fun E f h => ⟨_, rfl, rfl⟩⟩ : FR 23 9 4 27) (ci := 9) (T := TX9) (N := 7) rfl in_X9 (Nat.le_of_ble_eq_true rfl) m306 hd kk
theorem fg_X9_24 {E : Ek} {x : MC} {cc : ByteArray} {nL hm pc : Nat} {M : Mem} {lv : List (Nat × Value)} {st : List Value} (X : Cx E x cc nL RX9 hm) (hd : decode cc pc = .ok (.getfield 24, 3)) (kk : G E x M (pc + 3) lv (.ref (ad E 28) :: st)) : G E x M pc lv (.ref (ad E 23) :: st) := g_getR X (⟨by decide, fun E f h => ⟨_, rfl, rfl⟩⟩ : FR 23 9 5 28) (ci := 9) (T := TX9) (N := 7) rfl in_X9 (Nat.le_of_ble_eq_true rfl) m307 hd kk
theorem fg_X9_31 {E : Ek} {x : MC} {cc : ByteArray} {nL hm pc : Nat} {M : Mem} {lv : List (Nat × Value)} {st : List Value} (X : Cx E x cc nL RX9 hm) (hd : decode cc pc = .ok (.getfield 31, 3)) (kk : G E x M (pc + 3) lv (.int (rd M 3 3) :: st)) : G E x M pc lv (.ref (ad E 3) :: st) := g_getIN X (⟨by decide, fun E f h => ⟨_, rfl, rfl, fun v => ⟨rfl, Nat.le_of_ble_eq_true rfl⟩⟩⟩ : FI 3 4 3) (ci := 4) (T := TX4) (N := 11) rfl in_X4 (Nat.le_of_ble_eq_true rfl) m316 hd kk
theorem fg_X9_37 {E : Ek} {x : MC} {cc : ByteArray} {nL hm pc : Nat} {M : Mem} {lv : List (Nat × Value)} {st : List Value} (X : Cx E x cc nL RX9 hm) (hd : decode cc pc = .ok (.getfield 37, 3)) (kk : G E x M (pc + 3) lv (.ref (ad E 10) :: st)) : G E x M pc lv (.ref (ad E 3) :: st) := g_getRN X (⟨by decide, fun E f h => ⟨_, rfl, rfl⟩⟩ : FR 3 4 10 10) (ci := 4) (T := TX4) (N := 11) rfl in_X4 (Nat.le_of_ble_eq_true rfl) m317 hd kk
theorem fg_X9_40 {E : Ek} {x : MC} {cc : ByteArray} {nL hm pc : Nat} {M : Mem} {lv : List (Nat × Value)} {st : List Value} (X : Cx E x cc nL RX9 hm) {o : Nat} (ho : Aff o) (hd : decode cc pc = .ok (.getfield 40, 3)) (kk : G E x M (pc + 3) lv (.ref (ad E (o + 5)) :: st)) : G E x M pc lv (.ref (ad E o) :: st) := g_getRN X (af_fr5 ho) (ci := 0) (T := TX0) (N := 10) rfl in_X0 (Nat.le_of_ble_eq_true rfl) m318 hd kk
theorem fg_X9_46 {E : Ek} {x : MC} {cc : ByteArray} {nL hm pc : Nat} {M : Mem} {lv : List (Nat × Value)} {st : List Value} (X : Cx E x cc nL RX9 hm) {o : Nat} (ho : Aff o) (hd : decode cc pc = .ok (.getfield 46, 3)) (kk : G E x M (pc + 3) lv (.ref (ad E (o + 4)) :: st)) : G E x M pc lv (.ref (ad E o) :: st) := g_getRN X (af_fr4 ho) (ci := 0) (T := TX0) (N := 10) rfl in_X0 (Nat.le_of_ble_eq_true rfl) m319 hd kk
theorem fg_X11_55 {E : Ek} {x : MC} {cc : ByteArray} {nL hm pc : Nat} {M : Mem} {lv : List (Nat × Value)} {st : List Value} (X : Cx E x cc nL RX11 hm) (hd : decode cc pc = .ok (.getfield 55, 3)) (kk : G E x M (pc + 3) lv (.ref (ad E 23) :: st)) : G E x M pc lv (.ref (ad E 0) :: st) := g_getR X (⟨by decide, fun E f h => ⟨_, rfl, rfl⟩⟩ : FR 0 11 7 23) (ci := 11) (T := TX11) (N := 10) rfl in_X11 (Nat.le_of_ble_eq_true rfl) m321 hd kk
theorem fg_X11_216 {E : Ek} {x : MC} {cc : ByteArray} {nL hm pc : Nat} {M : Mem} {lv : List (Nat × Value)} {st : List Value} (X : Cx E x cc nL RX11 hm) (hd : decode cc pc = .ok (.getfield 216, 3)) (kk : G E x M (pc + 3) lv (.ref (ad E 26) :: st)) : G E x M pc lv (.ref (ad E 23) :: st) := g_getRN X (⟨by decide, fun E f h => ⟨_, rfl, rfl⟩⟩ : FR 23 9 3 26) (ci := 9) (T := TX9) (N := 7) rfl in_X9 (Nat.le_of_ble_eq_true rfl) m325 hd kk
theorem fg_X11_215 {E : Ek} {x : MC} {cc : ByteArray} {nL hm pc : Nat} {M : Mem} {lv : List (Nat × Value)} {st : List Value} (X : Cx E x cc nL RX11 hm) (hd : decode cc pc = .ok (.getfield 215, 3)) (kk : G E x M (pc + 3) lv (.int (rd M 23 6) :: st)) : G E x M pc lv (.ref (ad E 23) :: st) := g_getIN X (⟨by decide, fun E f h => ⟨_, rfl, rfl, fun v => ⟨rfl, Nat.le_of_ble_eq_true rfl⟩⟩⟩ : FI 23 9 6) (ci := 9) (T := TX9) (N := 7) rfl in_X9 (Nat.le_of_ble_eq_true rfl) m326 hd kk
theorem fg_X0_109 {E : Ek} {x : MC} {cc : ByteArray} {nL hm pc : Nat} {M : Mem} {lv : List (Nat × Value)} {st : List Value} (X : Cx E x cc nL RX0 hm) (hd : decode cc pc = .ok (.getfield 109, 3)) (kk : G E x M (pc + 3) lv (.int (rd M 3 2) :: st)) : G E x M pc lv (.ref (ad E 3) :: st) := g_getIN X (⟨by decide, fun E f h => ⟨_, rfl, rfl, fun v => ⟨rfl, Nat.le_of_ble_eq_true rfl⟩⟩⟩ : FI 3 4 2) (ci := 4) (T := TX4) (N := 11) rfl in_X4 (Nat.le_of_ble_eq_true rfl) m334 hd kk
theorem fg_X11_35 {E : Ek} {x : MC} {cc : ByteArray} {nL hm pc : Nat} {M : Mem} {lv : List (Nat × Value)} {st : List Value} (X : Cx E x cc nL RX11 hm) (hd : decode cc pc = .ok (.getfield 35, 3)) (kk : G E x M (pc + 3) lv (.ref (ad E 75) :: st)) : G E x M pc lv (.ref (ad E 0) :: st) := g_getR X (⟨by decide, fun E f h => ⟨_, rfl, rfl⟩⟩ : FR 0 11 4 75) (ci := 11) (T := TX11) (N := 10) rfl in_X11 (Nat.le_of_ble_eq_true rfl) m342 hd kk
theorem fg_X10_18 {E : Ek} {x : MC} {cc : ByteArray} {nL hm pc : Nat} {M : Mem} {lv : List (Nat × Value)} {st : List Value} (X : Cx E x cc nL RX10 hm) (hd : decode cc pc = .ok (.getfield 18, 3)) (kk : G E x M (pc + 3) lv (.ref (ad E 18) :: st)) : G E x M pc lv (.ref (ad E 15) :: st) := g_getR X (⟨by decide, fun E f h => ⟨_, rfl, rfl⟩⟩ : FR 15 10 3 18) (ci := 10) (T := TX10) (N := 4) rfl in_X10 (Nat.le_of_ble_eq_true rfl) m348 hd kk
theorem fg_X10_15 {E : Ek} {x : MC} {cc : ByteArray} {nL hm pc : Nat} {M : Mem} {lv : List (Nat × Value)} {st : List Value} (X : Cx E x cc nL RX10 hm) (hd : decode cc pc = .ok (.getfield 15, 3)) (kk : G E x M (pc + 3) lv (.ref (ad E 17) :: st)) : G E x M pc lv (.ref (ad E 15) :: st) := g_getR X (⟨by decide, fun E f h => ⟨_, rfl, rfl⟩⟩ : FR 15 10 2 17) (ci := 10) (T := TX10) (N := 4) rfl in_X10 (Nat.le_of_ble_eq_true rfl) m349 hd kk
theorem fg_X11_232 {E : Ek} {x : MC} {cc : ByteArray} {nL hm pc : Nat} {M : Mem} {lv : List (Nat × Value)} {st : List Value} (X : Cx E x cc nL RX11 hm) {o : Nat} (ho : Aff o) (hd : decode cc pc = .ok (.getfield 232, 3)) (kk : G E x M (pc + 3) lv (.int (rd M o 8) :: st)) : G E x M pc lv (.ref (ad E o) :: st) := g_getIN X (af_fi8 ho) (ci := 0) (T := TX0) (N := 10) rfl in_X0 (Nat.le_of_ble_eq_true rfl) m368 hd kk
theorem fg_X11_235 {E : Ek} {x : MC} {cc : ByteArray} {nL hm pc : Nat} {M : Mem} {lv : List (Nat × Value)} {st : List Value} (X : Cx E x cc nL RX11 hm) {o : Nat} (ho : Aff o) (hd : decode cc pc = .ok (.getfield 235, 3)) (kk : G E x M (pc + 3) lv (.ref (ad E (o + 6)) :: st)) : G E x M pc lv (.ref (ad E o) :: st) := g_getRN X (af_fr6 ho) (ci := 0) (T := TX0) (N := 10) rfl in_X0 (Nat.le_of_ble_eq_true rfl) m369 hd kk
theorem fg_X11_238 {E : Ek} {x : MC} {cc : ByteArray} {nL hm pc : Nat} {M : Mem} {lv : List (Nat × Value)} {st : List Value} (X : Cx E x cc nL RX11 hm) {o : Nat} (ho : Aff o) (hd : decode cc pc = .ok (.getfield 238, 3)) (kk : G E x M (pc + 3) lv (.ref (ad E (o + 7)) :: st)) : G E x M pc lv (.ref (ad E o) :: st) := g_getRN X (af_fr7 ho) (ci := 0) (T := TX0) (N := 10) rfl in_X0 (Nat.le_of_ble_eq_true rfl) m370 hd kk
theorem fp_X11_232 {E : Ek} {x : MC} {cc : ByteArray} {nL hm pc : Nat} {M : Mem} {lv : List (Nat × Value)} {st : List Value} (X : Cx E x cc nL RX11 hm) {o : Nat} (ho : Aff o) {v : Int32} {A : Mem → Prop} (hd : decode cc pc = .ok (.putfield 232, 3)) (h : ∀ M1, M1 = wr M o 8 v → A M1) (kk : ∀ M1, A M1 → G E x M1 (pc + 3) lv st) : G E x M pc lv (.int v :: .ref (ad E o) :: st) := g_putIN X (af_fi8 ho) (ci := 0) (T := TX0) (N := 10) (ty := .int) rfl in_X0 tyX0 tyX0_ok nmX0 (Nat.le_of_ble_eq_true rfl) m368 rfl (by decide +kernel) rfl rfl hd h kk
theorem fg_X11_32 {E : Ek} {x : MC} {cc : ByteArray} {nL hm pc : Nat} {M : Mem} {lv : List (Nat × Value)} {st : List Value} (X : Cx E x cc nL RX11 hm) (hd : decode cc pc = .ok (.getfield 32, 3)) (kk : G E x M (pc + 3) lv (.ref (ad E 67) :: st)) : G E x M pc lv (.ref (ad E 0) :: st) := g_getR X (⟨by decide, fun E f h => ⟨_, rfl, rfl⟩⟩ : FR 0 11 3 67) (ci := 11) (T := TX11) (N := 10) rfl in_X11 (Nat.le_of_ble_eq_true rfl) m386 hd kk
theorem fp_X11_59 {E : Ek} {x : MC} {cc : ByteArray} {nL hm pc : Nat} {M : Mem} {lv : List (Nat × Value)} {st : List Value} (X : Cx E x cc nL RX11 hm) {v : Int32} {A : Mem → Prop} (hz : zb v) (hd : decode cc pc = .ok (.putfield 59, 3)) (h : ∀ M1, M1 = wr M 0 8 v → A M1) (kk : ∀ M1, A M1 → G E x M1 (pc + 3) lv st) : G E x M pc lv (.int v :: .ref (ad E 0) :: st) := g_putI X (⟨by decide, fun E f h => ⟨_, rfl, rfl, fun v => ⟨rfl, Nat.le_of_ble_eq_true rfl⟩⟩⟩ : FI 0 11 8) (ci := 11) (T := TX11) (N := 10) (ty := .boolean) rfl in_X11 tyX11 tyX11_ok nmX11 (Nat.le_of_ble_eq_true rfl) m387 rfl (by decide +kernel) (zb_n hz) (zb_f hz) hd h kk
theorem fg_X11_59 {E : Ek} {x : MC} {cc : ByteArray} {nL hm pc : Nat} {M : Mem} {lv : List (Nat × Value)} {st : List Value} (X : Cx E x cc nL RX11 hm) (hd : decode cc pc = .ok (.getfield 59, 3)) (kk : G E x M (pc + 3) lv (.int (rd M 0 8) :: st)) : G E x M pc lv (.ref (ad E 0) :: st) := g_getI X (⟨by decide, fun E f h => ⟨_, rfl, rfl, fun v => ⟨rfl, Nat.le_of_ble_eq_true rfl⟩⟩⟩ : FI 0 11 8) (ci := 11) (T := TX11) (N := 10) rfl in_X11 (Nat.le_of_ble_eq_true rfl) m387 hd kk
theorem fg_X11_63 {E : Ek} {x : MC} {cc : ByteArray} {nL hm pc : Nat} {M : Mem} {lv : List (Nat × Value)} {st : List Value} (X : Cx E x cc nL RX11 hm) (hd : decode cc pc = .ok (.getfield 63, 3)) (kk : G E x M (pc + 3) lv (.int (rd M 0 9) :: st)) : G E x M pc lv (.ref (ad E 0) :: st) := g_getI X (⟨by decide, fun E f h => ⟨_, rfl, rfl, fun v => ⟨rfl, Nat.le_of_ble_eq_true rfl⟩⟩⟩ : FI 0 11 9) (ci := 11) (T := TX11) (N := 10) rfl in_X11 (Nat.le_of_ble_eq_true rfl) m398 hd kk
theorem fg_X11_292 {E : Ek} {x : MC} {cc : ByteArray} {nL hm pc : Nat} {M : Mem} {lv : List (Nat × Value)} {st : List Value} (X : Cx E x cc nL RX11 hm) (hd : decode cc pc = .ok (.getfield 292, 3)) (kk : G E x M (pc + 3) lv (.ref (ad E 2) :: st)) : G E x M pc lv (.ref (ad E 1) :: st) := g_getRN X (⟨by decide, fun E f h => ⟨_, rfl, rfl⟩⟩ : FR 1 6 0 2) (ci := 6) (T := TX6) (N := 11) rfl in_X6 (Nat.le_of_ble_eq_true rfl) m430 hd kk
theorem fg_X12_107 {E : Ek} {x : MC} {cc : ByteArray} {nL hm pc : Nat} {M : Mem} {lv : List (Nat × Value)} {st : List Value} (X : Cx E x cc nL RX12 hm) (hd : decode cc pc = .ok (.getfield 107, 3)) (kk : G E x M (pc + 3) lv (.int (rd M 29 1) :: st)) : G E x M pc lv (.ref (ad E 29) :: st) := g_getI X (⟨by decide, fun E f h => ⟨_, rfl, rfl, fun v => ⟨rfl, Nat.le_of_ble_eq_true rfl⟩⟩⟩ : FI 29 12 1) (ci := 12) (T := TX12) (N := 44) rfl in_X12 (Nat.le_of_ble_eq_true rfl) m441 hd kk
theorem fg_X12_7 {E : Ek} {x : MC} {cc : ByteArray} {nL hm pc : Nat} {M : Mem} {lv : List (Nat × Value)} {st : List Value} (X : Cx E x cc nL RX12 hm) (hd : decode cc pc = .ok (.getfield 7, 3)) (kk : G E x M (pc + 3) lv (.ref (ad E 30) :: st)) : G E x M pc lv (.ref (ad E 29) :: st) := g_getR X (⟨by decide, fun E f h => ⟨_, rfl, rfl⟩⟩ : FR 29 12 0 30) (ci := 12) (T := TX12) (N := 44) rfl in_X12 (Nat.le_of_ble_eq_true rfl) m442 hd kk
theorem fp_X12_107 {E : Ek} {x : MC} {cc : ByteArray} {nL hm pc : Nat} {M : Mem} {lv : List (Nat × Value)} {st : List Value} (X : Cx E x cc nL RX12 hm) {v : Int32} {A : Mem → Prop} (hd : decode cc pc = .ok (.putfield 107, 3)) (h : ∀ M1, M1 = wr M 29 1 v → A M1) (kk : ∀ M1, A M1 → G E x M1 (pc + 3) lv st) : G E x M pc lv (.int v :: .ref (ad E 29) :: st) := g_putI X (⟨by decide, fun E f h => ⟨_, rfl, rfl, fun v => ⟨rfl, Nat.le_of_ble_eq_true rfl⟩⟩⟩ : FI 29 12 1) (ci := 12) (T := TX12) (N := 44) (ty := .int) rfl in_X12 tyX12 tyX12_ok nmX12 (Nat.le_of_ble_eq_true rfl) m441 rfl (by decide +kernel) rfl rfl hd h kk
theorem fp_X12_116 {E : Ek} {x : MC} {cc : ByteArray} {nL hm pc : Nat} {M : Mem} {lv : List (Nat × Value)} {st : List Value} (X : Cx E x cc nL RX12 hm) {v : Int32} {A : Mem → Prop} (hd : decode cc pc = .ok (.putfield 116, 3)) (h : ∀ M1, M1 = wr M 29 2 v → A M1) (kk : ∀ M1, A M1 → G E x M1 (pc + 3) lv st) : G E x M pc lv (.int v :: .ref (ad E 29) :: st) := g_putI X (⟨by decide, fun E f h => ⟨_, rfl, rfl, fun v => ⟨rfl, Nat.le_of_ble_eq_true rfl⟩⟩⟩ : FI 29 12 2) (ci := 12) (T := TX12) (N := 44) (ty := .int) rfl in_X12 tyX12 tyX12_ok nmX12 (Nat.le_of_ble_eq_true rfl) m452 rfl (by decide +kernel) rfl rfl hd h kk
theorem fg_X12_116 {E : Ek} {x : MC} {cc : ByteArray} {nL hm pc : Nat} {M : Mem} {lv : List (Nat × Value)} {st : List Value} (X : Cx E x cc nL RX12 hm) (hd : decode cc pc = .ok (.getfield 116, 3)) (kk : G E x M (pc + 3) lv (.int (rd M 29 2) :: st)) : G E x M pc lv (.ref (ad E 29) :: st) := g_getI X (⟨by decide, fun E f h => ⟨_, rfl, rfl, fun v => ⟨rfl, Nat.le_of_ble_eq_true rfl⟩⟩⟩ : FI 29 12 2) (ci := 12) (T := TX12) (N := 44) rfl in_X12 (Nat.le_of_ble_eq_true rfl) m452 hd kk
theorem fp_X12_125 {E : Ek} {x : MC} {cc : ByteArray} {nL hm pc : Nat} {M : Mem} {lv : List (Nat × Value)} {st : List Value} (X : Cx E x cc nL RX12 hm) {v : Int32} {A : Mem → Prop} (hd : decode cc pc = .ok (.putfield 125, 3)) (h : ∀ M1, M1 = wr M 29 3 v → A M1) (kk : ∀ M1, A M1 → G E x M1 (pc + 3) lv st) : G E x M pc lv (.int v :: .ref (ad E 29) :: st) := g_putI X (⟨by decide, fun E f h => ⟨_, rfl, rfl, fun v => ⟨rfl, Nat.le_of_ble_eq_true rfl⟩⟩⟩ : FI 29 12 3) (ci := 12) (T := TX12) (N := 44) (ty := .int) rfl in_X12 tyX12 tyX12_ok nmX12 (Nat.le_of_ble_eq_true rfl) m457 rfl (by decide +kernel) rfl rfl hd h kk
theorem fg_X12_125 {E : Ek} {x : MC} {cc : ByteArray} {nL hm pc : Nat} {M : Mem} {lv : List (Nat × Value)} {st : List Value} (X : Cx E x cc nL RX12 hm) (hd : decode cc pc = .ok (.getfield 125, 3)) (kk : G E x M (pc + 3) lv (.int (rd M 29 3) :: st)) : G E x M pc lv (.ref (ad E 29) :: st) := g_getI X (⟨by decide, fun E f h => ⟨_, rfl, rfl, fun v => ⟨rfl, Nat.le_of_ble_eq_true rfl⟩⟩⟩ : FI 29 12 3) (ci := 12) (T := TX12) (N := 44) rfl in_X12 (Nat.le_of_ble_eq_true rfl) m457 hd kk
theorem fp_X12_153 {E : Ek} {x : MC} {cc : ByteArray} {nL hm pc : Nat} {M : Mem} {lv : List (Nat × Value)} {st : List Value} (X : Cx E x cc nL RX12 hm) {v : Int32} {A : Mem → Prop} (hd : decode cc pc = .ok (.putfield 153, 3)) (h : ∀ M1, M1 = wr M 29 4 v → A M1) (kk : ∀ M1, A M1 → G E x M1 (pc + 3) lv st) : G E x M pc lv (.int v :: .ref (ad E 29) :: st) := g_putI X (⟨by decide, fun E f h => ⟨_, rfl, rfl, fun v => ⟨rfl, Nat.le_of_ble_eq_true rfl⟩⟩⟩ : FI 29 12 4) (ci := 12) (T := TX12) (N := 44) (ty := .int) rfl in_X12 tyX12 tyX12_ok nmX12 (Nat.le_of_ble_eq_true rfl) m485 rfl (by decide +kernel) rfl rfl hd h kk
theorem fp_X12_156 {E : Ek} {x : MC} {cc : ByteArray} {nL hm pc : Nat} {M : Mem} {lv : List (Nat × Value)} {st : List Value} (X : Cx E x cc nL RX12 hm) {v : Int32} {A : Mem → Prop} (hd : decode cc pc = .ok (.putfield 156, 3)) (h : ∀ M1, M1 = wr M 29 5 v → A M1) (kk : ∀ M1, A M1 → G E x M1 (pc + 3) lv st) : G E x M pc lv (.int v :: .ref (ad E 29) :: st) := g_putI X (⟨by decide, fun E f h => ⟨_, rfl, rfl, fun v => ⟨rfl, Nat.le_of_ble_eq_true rfl⟩⟩⟩ : FI 29 12 5) (ci := 12) (T := TX12) (N := 44) (ty := .int) rfl in_X12 tyX12 tyX12_ok nmX12 (Nat.le_of_ble_eq_true rfl) m486 rfl (by decide +kernel) rfl rfl hd h kk
theorem fp_X12_159 {E : Ek} {x : MC} {cc : ByteArray} {nL hm pc : Nat} {M : Mem} {lv : List (Nat × Value)} {st : List Value} (X : Cx E x cc nL RX12 hm) {v : Int32} {A : Mem → Prop} (hd : decode cc pc = .ok (.putfield 159, 3)) (h : ∀ M1, M1 = wr M 29 6 v → A M1) (kk : ∀ M1, A M1 → G E x M1 (pc + 3) lv st) : G E x M pc lv (.int v :: .ref (ad E 29) :: st) := g_putI X (⟨by decide, fun E f h => ⟨_, rfl, rfl, fun v => ⟨rfl, Nat.le_of_ble_eq_true rfl⟩⟩⟩ : FI 29 12 6) (ci := 12) (T := TX12) (N := 44) (ty := .int) rfl in_X12 tyX12 tyX12_ok nmX12 (Nat.le_of_ble_eq_true rfl) m487 rfl (by decide +kernel) rfl rfl hd h kk
theorem fp_X12_162 {E : Ek} {x : MC} {cc : ByteArray} {nL hm pc : Nat} {M : Mem} {lv : List (Nat × Value)} {st : List Value} (X : Cx E x cc nL RX12 hm) {v : Int32} {A : Mem → Prop} (hd : decode cc pc = .ok (.putfield 162, 3)) (h : ∀ M1, M1 = wr M 29 7 v → A M1) (kk : ∀ M1, A M1 → G E x M1 (pc + 3) lv st) : G E x M pc lv (.int v :: .ref (ad E 29) :: st) := g_putI X (⟨by decide, fun E f h => ⟨_, rfl, rfl, fun v => ⟨rfl, Nat.le_of_ble_eq_true rfl⟩⟩⟩ : FI 29 12 7) (ci := 12) (T := TX12) (N := 44) (ty := .int) rfl in_X12 tyX12 tyX12_ok nmX12 (Nat.le_of_ble_eq_true rfl) m488 rfl (by decide +kernel) rfl rfl hd h kk
theorem fg_X12_156 {E : Ek} {x : MC} {cc : ByteArray} {nL hm pc : Nat} {M : Mem} {lv : List (Nat × Value)} {st : List Value} (X : Cx E x cc nL RX12 hm) (hd : decode cc pc = .ok (.getfield 156, 3)) (kk : G E x M (pc + 3) lv (.int (rd M 29 5) :: st)) : G E x M pc lv (.ref (ad E 29) :: st) := g_getI X (⟨by decide, fun E f h => ⟨_, rfl, rfl, fun v => ⟨rfl, Nat.le_of_ble_eq_true rfl⟩⟩⟩ : FI 29 12 5) (ci := 12) (T := TX12) (N := 44) rfl in_X12 (Nat.le_of_ble_eq_true rfl) m486 hd kk
theorem fg_X12_13 {E : Ek} {x : MC} {cc : ByteArray} {nL hm pc : Nat} {M : Mem} {lv : List (Nat × Value)} {st : List Value} (X : Cx E x cc nL RX12 hm) (hd : decode cc pc = .ok (.getfield 13, 3)) (kk : G E x M (pc + 3) lv (.ref (ad E 31) :: st)) : G E x M pc lv (.ref (ad E 29) :: st) := g_getR X (⟨by decide, fun E f h => ⟨_, rfl, rfl⟩⟩ : FR 29 12 10 31) (ci := 12) (T := TX12) (N := 44) rfl in_X12 (Nat.le_of_ble_eq_true rfl) m489 hd kk
theorem fg_X12_16 {E : Ek} {x : MC} {cc : ByteArray} {nL hm pc : Nat} {M : Mem} {lv : List (Nat × Value)} {st : List Value} (X : Cx E x cc nL RX12 hm) (hd : decode cc pc = .ok (.getfield 16, 3)) (kk : G E x M (pc + 3) lv (.ref (ad E 32) :: st)) : G E x M pc lv (.ref (ad E 29) :: st) := g_getR X (⟨by decide, fun E f h => ⟨_, rfl, rfl⟩⟩ : FR 29 12 11 32) (ci := 12) (T := TX12) (N := 44) rfl in_X12 (Nat.le_of_ble_eq_true rfl) m490 hd kk
theorem fg_X12_19 {E : Ek} {x : MC} {cc : ByteArray} {nL hm pc : Nat} {M : Mem} {lv : List (Nat × Value)} {st : List Value} (X : Cx E x cc nL RX12 hm) (hd : decode cc pc = .ok (.getfield 19, 3)) (kk : G E x M (pc + 3) lv (.ref (ad E 33) :: st)) : G E x M pc lv (.ref (ad E 29) :: st) := g_getR X (⟨by decide, fun E f h => ⟨_, rfl, rfl⟩⟩ : FR 29 12 12 33) (ci := 12) (T := TX12) (N := 44) rfl in_X12 (Nat.le_of_ble_eq_true rfl) m491 hd kk
theorem fg_X12_159 {E : Ek} {x : MC} {cc : ByteArray} {nL hm pc : Nat} {M : Mem} {lv : List (Nat × Value)} {st : List Value} (X : Cx E x cc nL RX12 hm) (hd : decode cc pc = .ok (.getfield 159, 3)) (kk : G E x M (pc + 3) lv (.int (rd M 29 6) :: st)) : G E x M pc lv (.ref (ad E 29) :: st) := g_getI X (⟨by decide, fun E f h => ⟨_, rfl, rfl, fun v => ⟨rfl, Nat.le_of_ble_eq_true rfl⟩⟩⟩ : FI 29 12 6) (ci := 12) (T := TX12) (N := 44) rfl in_X12 (Nat.le_of_ble_eq_true rfl) m487 hd kk
theorem fg_X12_22 {E : Ek} {x : MC} {cc : ByteArray} {nL hm pc : Nat} {M : Mem} {lv : List (Nat × Value)} {st : List Value} (X : Cx E x cc nL RX12 hm) (hd : decode cc pc = .ok (.getfield 22, 3)) (kk : G E x M (pc + 3) lv (.ref (ad E 34) :: st)) : G E x M pc lv (.ref (ad E 29) :: st) := g_getR X (⟨by decide, fun E f h => ⟨_, rfl, rfl⟩⟩ : FR 29 12 13 34) (ci := 12) (T := TX12) (N := 44) rfl in_X12 (Nat.le_of_ble_eq_true rfl) m494 hd kk
theorem fg_X12_25 {E : Ek} {x : MC} {cc : ByteArray} {nL hm pc : Nat} {M : Mem} {lv : List (Nat × Value)} {st : List Value} (X : Cx E x cc nL RX12 hm) (hd : decode cc pc = .ok (.getfield 25, 3)) (kk : G E x M (pc + 3) lv (.ref (ad E 35) :: st)) : G E x M pc lv (.ref (ad E 29) :: st) := g_getR X (⟨by decide, fun E f h => ⟨_, rfl, rfl⟩⟩ : FR 29 12 14 35) (ci := 12) (T := TX12) (N := 44) rfl in_X12 (Nat.le_of_ble_eq_true rfl) m495 hd kk
theorem fg_X12_28 {E : Ek} {x : MC} {cc : ByteArray} {nL hm pc : Nat} {M : Mem} {lv : List (Nat × Value)} {st : List Value} (X : Cx E x cc nL RX12 hm) (hd : decode cc pc = .ok (.getfield 28, 3)) (kk : G E x M (pc + 3) lv (.ref (ad E 36) :: st)) : G E x M pc lv (.ref (ad E 29) :: st) := g_getR X (⟨by decide, fun E f h => ⟨_, rfl, rfl⟩⟩ : FR 29 12 15 36) (ci := 12) (T := TX12) (N := 44) rfl in_X12 (Nat.le_of_ble_eq_true rfl) m496 hd kk
theorem fg_X12_162 {E : Ek} {x : MC} {cc : ByteArray} {nL hm pc : Nat} {M : Mem} {lv : List (Nat × Value)} {st : List Value} (X : Cx E x cc nL RX12 hm) (hd : decode cc pc = .ok (.getfield 162, 3)) (kk : G E x M (pc + 3) lv (.int (rd M 29 7) :: st)) : G E x M pc lv (.ref (ad E 29) :: st) := g_getI X (⟨by decide, fun E f h => ⟨_, rfl, rfl, fun v => ⟨rfl, Nat.le_of_ble_eq_true rfl⟩⟩⟩ : FI 29 12 7) (ci := 12) (T := TX12) (N := 44) rfl in_X12 (Nat.le_of_ble_eq_true rfl) m488 hd kk
theorem fg_X12_31 {E : Ek} {x : MC} {cc : ByteArray} {nL hm pc : Nat} {M : Mem} {lv : List (Nat × Value)} {st : List Value} (X : Cx E x cc nL RX12 hm) (hd : decode cc pc = .ok (.getfield 31, 3)) (kk : G E x M (pc + 3) lv (.ref (ad E 37) :: st)) : G E x M pc lv (.ref (ad E 29) :: st) := g_getR X (⟨by decide, fun E f h => ⟨_, rfl, rfl⟩⟩ : FR 29 12 16 37) (ci := 12) (T := TX12) (N := 44) rfl in_X12 (Nat.le_of_ble_eq_true rfl) m497 hd kk
theorem fp_X12_168 {E : Ek} {x : MC} {cc : ByteArray} {nL hm pc : Nat} {M : Mem} {lv : List (Nat × Value)} {st : List Value} (X : Cx E x cc nL RX12 hm) {v : Int32} {A : Mem → Prop} (hd : decode cc pc = .ok (.putfield 168, 3)) (h : ∀ M1, M1 = wr M 29 8 v → A M1) (kk : ∀ M1, A M1 → G E x M1 (pc + 3) lv st) : G E x M pc lv (.int v :: .ref (ad E 29) :: st) := g_putI X (⟨by decide, fun E f h => ⟨_, rfl, rfl, fun v => ⟨rfl, Nat.le_of_ble_eq_true rfl⟩⟩⟩ : FI 29 12 8) (ci := 12) (T := TX12) (N := 44) (ty := .int) rfl in_X12 tyX12 tyX12_ok nmX12 (Nat.le_of_ble_eq_true rfl) m498 rfl (by decide +kernel) rfl rfl hd h kk
theorem fp_X12_171 {E : Ek} {x : MC} {cc : ByteArray} {nL hm pc : Nat} {M : Mem} {lv : List (Nat × Value)} {st : List Value} (X : Cx E x cc nL RX12 hm) {v : Int32} {A : Mem → Prop} (hd : decode cc pc = .ok (.putfield 171, 3)) (h : ∀ M1, M1 = wr M 29 31 v → A M1) (kk : ∀ M1, A M1 → G E x M1 (pc + 3) lv st) : G E x M pc lv (.int v :: .ref (ad E 29) :: st) := g_putI X (⟨by decide, fun E f h => ⟨_, rfl, rfl, fun v => ⟨rfl, Nat.le_of_ble_eq_true rfl⟩⟩⟩ : FI 29 12 31) (ci := 12) (T := TX12) (N := 44) (ty := .int) rfl in_X12 tyX12 tyX12_ok nmX12 (Nat.le_of_ble_eq_true rfl) m499 rfl (by decide +kernel) rfl rfl hd h kk
theorem fg_X12_174 {E : Ek} {x : MC} {cc : ByteArray} {nL hm pc : Nat} {M : Mem} {lv : List (Nat × Value)} {st : List Value} (X : Cx E x cc nL RX12 hm) (hd : decode cc pc = .ok (.getfield 174, 3)) (kk : G E x M (pc + 3) lv (.int (rd M 29 9) :: st)) : G E x M pc lv (.ref (ad E 29) :: st) := g_getI X (⟨by decide, fun E f h => ⟨_, rfl, rfl, fun v => ⟨rfl, Nat.le_of_ble_eq_true rfl⟩⟩⟩ : FI 29 12 9) (ci := 12) (T := TX12) (N := 44) rfl in_X12 (Nat.le_of_ble_eq_true rfl) m500 hd kk
theorem fp_X12_174 {E : Ek} {x : MC} {cc : ByteArray} {nL hm pc : Nat} {M : Mem} {lv : List (Nat × Value)} {st : List Value} (X : Cx E x cc nL RX12 hm) {v : Int32} {A : Mem → Prop} (hd : decode cc pc = .ok (.putfield 174, 3)) (h : ∀ M1, M1 = wr M 29 9 v → A M1) (kk : ∀ M1, A M1 → G E x M1 (pc + 3) lv st) : G E x M pc lv (.int v :: .ref (ad E 29) :: st) := g_putI X (⟨by decide, fun E f h => ⟨_, rfl, rfl, fun v => ⟨rfl, Nat.le_of_ble_eq_true rfl⟩⟩⟩ : FI 29 12 9) (ci := 12) (T := TX12) (N := 44) (ty := .int) rfl in_X12 tyX12 tyX12_ok nmX12 (Nat.le_of_ble_eq_true rfl) m500 rfl (by decide +kernel) rfl rfl hd h kk
theorem fg_X12_34 {E : Ek} {x : MC} {cc : ByteArray} {nL hm pc : Nat} {M : Mem} {lv : List (Nat × Value)} {st : List Value} (X : Cx E x cc nL RX12 hm) (hd : decode cc pc = .ok (.getfield 34, 3)) (kk : G E x M (pc + 3) lv (.ref (ad E 38) :: st)) : G E x M pc lv (.ref (ad E 29) :: st) := g_getR X (⟨by decide, fun E f h => ⟨_, rfl, rfl⟩⟩ : FR 29 12 17 38) (ci := 12) (T := TX12) (N := 44) rfl in_X12 (Nat.le_of_ble_eq_true rfl) m501 hd kk
theorem fg_X12_37 {E : Ek} {x : MC} {cc : ByteArray} {nL hm pc : Nat} {M : Mem} {lv : List (Nat × Value)} {st : List Value} (X : Cx E x cc nL RX12 hm) (hd : decode cc pc = .ok (.getfield 37, 3)) (kk : G E x M (pc + 3) lv (.ref (ad E 39) :: st)) : G E x M pc lv (.ref (ad E 29) :: st) := g_getR X (⟨by decide, fun E f h => ⟨_, rfl, rfl⟩⟩ : FR 29 12 18 39) (ci := 12) (T := TX12) (N := 44) rfl in_X12 (Nat.le_of_ble_eq_true rfl) m502 hd kk
theorem fg_X12_40 {E : Ek} {x : MC} {cc : ByteArray} {nL hm pc : Nat} {M : Mem} {lv : List (Nat × Value)} {st : List Value} (X : Cx E x cc nL RX12 hm) (hd : decode cc pc = .ok (.getfield 40, 3)) (kk : G E x M (pc + 3) lv (.ref (ad E 40) :: st)) : G E x M pc lv (.ref (ad E 29) :: st) := g_getR X (⟨by decide, fun E f h => ⟨_, rfl, rfl⟩⟩ : FR 29 12 19 40) (ci := 12) (T := TX12) (N := 44) rfl in_X12 (Nat.le_of_ble_eq_true rfl) m503 hd kk
theorem fg_X12_43 {E : Ek} {x : MC} {cc : ByteArray} {nL hm pc : Nat} {M : Mem} {lv : List (Nat × Value)} {st : List Value} (X : Cx E x cc nL RX12 hm) (hd : decode cc pc = .ok (.getfield 43, 3)) (kk : G E x M (pc + 3) lv (.ref (ad E 41) :: st)) : G E x M pc lv (.ref (ad E 29) :: st) := g_getR X (⟨by decide, fun E f h => ⟨_, rfl, rfl⟩⟩ : FR 29 12 20 41) (ci := 12) (T := TX12) (N := 44) rfl in_X12 (Nat.le_of_ble_eq_true rfl) m504 hd kk
theorem fg_X12_46 {E : Ek} {x : MC} {cc : ByteArray} {nL hm pc : Nat} {M : Mem} {lv : List (Nat × Value)} {st : List Value} (X : Cx E x cc nL RX12 hm) (hd : decode cc pc = .ok (.getfield 46, 3)) (kk : G E x M (pc + 3) lv (.ref (ad E 42) :: st)) : G E x M pc lv (.ref (ad E 29) :: st) := g_getR X (⟨by decide, fun E f h => ⟨_, rfl, rfl⟩⟩ : FR 29 12 21 42) (ci := 12) (T := TX12) (N := 44) rfl in_X12 (Nat.le_of_ble_eq_true rfl) m505 hd kk
theorem fg_X12_153 {E : Ek} {x : MC} {cc : ByteArray} {nL hm pc : Nat} {M : Mem} {lv : List (Nat × Value)} {st : List Value} (X : Cx E x cc nL RX12 hm) (hd : decode cc pc = .ok (.getfield 153, 3)) (kk : G E x M (pc + 3) lv (.int (rd M 29 4) :: st)) : G E x M pc lv (.ref (ad E 29) :: st) := g_getI X (⟨by decide, fun E f h => ⟨_, rfl, rfl, fun v => ⟨rfl, Nat.le_of_ble_eq_true rfl⟩⟩⟩ : FI 29 12 4) (ci := 12) (T := TX12) (N := 44) rfl in_X12 (Nat.le_of_ble_eq_true rfl) m485 hd kk
theorem fg_X12_49 {E : Ek} {x : MC} {cc : ByteArray} {nL hm pc : Nat} {M : Mem} {lv : List (Nat × Value)} {st : List Value} (X : Cx E x cc nL RX12 hm) (hd : decode cc pc = .ok (.getfield 49, 3)) (kk : G E x M (pc + 3) lv (.ref (ad E 43) :: st)) : G E x M pc lv (.ref (ad E 29) :: st) := g_getR X (⟨by decide, fun E f h => ⟨_, rfl, rfl⟩⟩ : FR 29 12 22 43) (ci := 12) (T := TX12) (N := 44) rfl in_X12 (Nat.le_of_ble_eq_true rfl) m514 hd kk
theorem fg_X12_52 {E : Ek} {x : MC} {cc : ByteArray} {nL hm pc : Nat} {M : Mem} {lv : List (Nat × Value)} {st : List Value} (X : Cx E x cc nL RX12 hm) (hd : decode cc pc = .ok (.getfield 52, 3)) (kk : G E x M (pc + 3) lv (.ref (ad E 44) :: st)) : G E x M pc lv (.ref (ad E 29) :: st) := g_getR X (⟨by decide, fun E f h => ⟨_, rfl, rfl⟩⟩ : FR 29 12 23 44) (ci := 12) (T := TX12) (N := 44) rfl in_X12 (Nat.le_of_ble_eq_true rfl) m517 hd kk
theorem fg_X12_55 {E : Ek} {x : MC} {cc : ByteArray} {nL hm pc : Nat} {M : Mem} {lv : List (Nat × Value)} {st : List Value} (X : Cx E x cc nL RX12 hm) (hd : decode cc pc = .ok (.getfield 55, 3)) (kk : G E x M (pc + 3) lv (.ref (ad E 45) :: st)) : G E x M pc lv (.ref (ad E 29) :: st) := g_getR X (⟨by decide, fun E f h => ⟨_, rfl, rfl⟩⟩ : FR 29 12 24 45) (ci := 12) (T := TX12) (N := 44) rfl in_X12 (Nat.le_of_ble_eq_true rfl) m518 hd kk
theorem fg_X12_171 {E : Ek} {x : MC} {cc : ByteArray} {nL hm pc : Nat} {M : Mem} {lv : List (Nat × Value)} {st : List Value} (X : Cx E x cc nL RX12 hm) (hd : decode cc pc = .ok (.getfield 171, 3)) (kk : G E x M (pc + 3) lv (.int (rd M 29 31) :: st)) : G E x M pc lv (.ref (ad E 29) :: st) := g_getI X (⟨by decide, fun E f h => ⟨_, rfl, rfl, fun v => ⟨rfl, Nat.le_of_ble_eq_true rfl⟩⟩⟩ : FI 29 12 31) (ci := 12) (T := TX12) (N := 44) rfl in_X12 (Nat.le_of_ble_eq_true rfl) m499 hd kk
theorem fg_X12_76 {E : Ek} {x : MC} {cc : ByteArray} {nL hm pc : Nat} {M : Mem} {lv : List (Nat × Value)} {st : List Value} (X : Cx E x cc nL RX12 hm) (hd : decode cc pc = .ok (.getfield 76, 3)) (kk : G E x M (pc + 3) lv (.ref (ad E 52) :: st)) : G E x M pc lv (.ref (ad E 29) :: st) := g_getR X (⟨by decide, fun E f h => ⟨_, rfl, rfl⟩⟩ : FR 29 12 32 52) (ci := 12) (T := TX12) (N := 44) rfl in_X12 (Nat.le_of_ble_eq_true rfl) m542 hd kk
theorem fg_X12_168 {E : Ek} {x : MC} {cc : ByteArray} {nL hm pc : Nat} {M : Mem} {lv : List (Nat × Value)} {st : List Value} (X : Cx E x cc nL RX12 hm) (hd : decode cc pc = .ok (.getfield 168, 3)) (kk : G E x M (pc + 3) lv (.int (rd M 29 8) :: st)) : G E x M pc lv (.ref (ad E 29) :: st) := g_getI X (⟨by decide, fun E f h => ⟨_, rfl, rfl, fun v => ⟨rfl, Nat.le_of_ble_eq_true rfl⟩⟩⟩ : FI 29 12 8) (ci := 12) (T := TX12) (N := 44) rfl in_X12 (Nat.le_of_ble_eq_true rfl) m498 hd kk
theorem fg_X12_58 {E : Ek} {x : MC} {cc : ByteArray} {nL hm pc : Nat} {M : Mem} {lv : List (Nat × Value)} {st : List Value} (X : Cx E x cc nL RX12 hm) (hd : decode cc pc = .ok (.getfield 58, 3)) (kk : G E x M (pc + 3) lv (.ref (ad E 46) :: st)) : G E x M pc lv (.ref (ad E 29) :: st) := g_getR X (⟨by decide, fun E f h => ⟨_, rfl, rfl⟩⟩ : FR 29 12 25 46) (ci := 12) (T := TX12) (N := 44) rfl in_X12 (Nat.le_of_ble_eq_true rfl) m598 hd kk
theorem fg_X12_64 {E : Ek} {x : MC} {cc : ByteArray} {nL hm pc : Nat} {M : Mem} {lv : List (Nat × Value)} {st : List Value} (X : Cx E x cc nL RX12 hm) (hd : decode cc pc = .ok (.getfield 64, 3)) (kk : G E x M (pc + 3) lv (.ref (ad E 48) :: st)) : G E x M pc lv (.ref (ad E 29) :: st) := g_getR X (⟨by decide, fun E f h => ⟨_, rfl, rfl⟩⟩ : FR 29 12 27 48) (ci := 12) (T := TX12) (N := 44) rfl in_X12 (Nat.le_of_ble_eq_true rfl) m632 hd kk
theorem fg_X12_61 {E : Ek} {x : MC} {cc : ByteArray} {nL hm pc : Nat} {M : Mem} {lv : List (Nat × Value)} {st : List Value} (X : Cx E x cc nL RX12 hm) (hd : decode cc pc = .ok (.getfield 61, 3)) (kk : G E x M (pc + 3) lv (.ref (ad E 47) :: st)) : G E x M pc lv (.ref (ad E 29) :: st) := g_getR X (⟨by decide, fun E f h => ⟨_, rfl, rfl⟩⟩ : FR 29 12 26 47) (ci := 12) (T := TX12) (N := 44) rfl in_X12 (Nat.le_of_ble_eq_true rfl) m633 hd kk
theorem fg_X12_67 {E : Ek} {x : MC} {cc : ByteArray} {nL hm pc : Nat} {M : Mem} {lv : List (Nat × Value)} {st : List Value} (X : Cx E x cc nL RX12 hm) (hd : decode cc pc = .ok (.getfield 67, 3)) (kk : G E x M (pc + 3) lv (.ref (ad E 49) :: st)) : G E x M pc lv (.ref (ad E 29) :: st) := g_getR X (⟨by decide, fun E f h => ⟨_, rfl, rfl⟩⟩ : FR 29 12 28 49) (ci := 12) (T := TX12) (N := 44) rfl in_X12 (Nat.le_of_ble_eq_true rfl) m641 hd kk
theorem fg_X12_73 {E : Ek} {x : MC} {cc : ByteArray} {nL hm pc : Nat} {M : Mem} {lv : List (Nat × Value)} {st : List Value} (X : Cx E x cc nL RX12 hm) (hd : decode cc pc = .ok (.getfield 73, 3)) (kk : G E x M (pc + 3) lv (.ref (ad E 51) :: st)) : G E x M pc lv (.ref (ad E 29) :: st) := g_getR X (⟨by decide, fun E f h => ⟨_, rfl, rfl⟩⟩ : FR 29 12 30 51) (ci := 12) (T := TX12) (N := 44) rfl in_X12 (Nat.le_of_ble_eq_true rfl) m663 hd kk
theorem fg_X12_70 {E : Ek} {x : MC} {cc : ByteArray} {nL hm pc : Nat} {M : Mem} {lv : List (Nat × Value)} {st : List Value} (X : Cx E x cc nL RX12 hm) (hd : decode cc pc = .ok (.getfield 70, 3)) (kk : G E x M (pc + 3) lv (.ref (ad E 50) :: st)) : G E x M pc lv (.ref (ad E 29) :: st) := g_getR X (⟨by decide, fun E f h => ⟨_, rfl, rfl⟩⟩ : FR 29 12 29 50) (ci := 12) (T := TX12) (N := 44) rfl in_X12 (Nat.le_of_ble_eq_true rfl) m664 hd kk
theorem fg_X12_304 {E : Ek} {x : MC} {cc : ByteArray} {nL hm pc : Nat} {M : Mem} {lv : List (Nat × Value)} {st : List Value} (X : Cx E x cc nL RX12 hm) (hd : decode cc pc = .ok (.getfield 304, 3)) (kk : G E x M (pc + 3) lv (.int (rd M 29 33) :: st)) : G E x M pc lv (.ref (ad E 29) :: st) := g_getI X (⟨by decide, fun E f h => ⟨_, rfl, rfl, fun v => ⟨rfl, Nat.le_of_ble_eq_true rfl⟩⟩⟩ : FI 29 12 33) (ci := 12) (T := TX12) (N := 44) rfl in_X12 (Nat.le_of_ble_eq_true rfl) m678 hd kk
theorem fp_X12_304 {E : Ek} {x : MC} {cc : ByteArray} {nL hm pc : Nat} {M : Mem} {lv : List (Nat × Value)} {st : List Value} (X : Cx E x cc nL RX12 hm) {v : Int32} {A : Mem → Prop} (hd : decode cc pc = .ok (.putfield 304, 3)) (h : ∀ M1, M1 = wr M 29 33 v → A M1) (kk : ∀ M1, A M1 → G E x M1 (pc + 3) lv st) : G E x M pc lv (.int v :: .ref (ad E 29) :: st) := g_putI X (⟨by decide, fun E f h => ⟨_, rfl, rfl, fun v => ⟨rfl, Nat.le_of_ble_eq_true rfl⟩⟩⟩ : FI 29 12 33) (ci := 12) (T := TX12) (N := 44) (ty := .int) rfl in_X12 tyX12 tyX12_ok nmX12 (Nat.le_of_ble_eq_true rfl) m678 rfl (by decide +kernel) rfl rfl hd h kk
theorem fg_X12_79 {E : Ek} {x : MC} {cc : ByteArray} {nL hm pc : Nat} {M : Mem} {lv : List (Nat × Value)} {st : List Value} (X : Cx E x cc nL RX12 hm) (hd : decode cc pc = .ok (.getfield 79, 3)) (kk : G E x M (pc + 3) lv (.ref (ad E 53) :: st)) : G E x M pc lv (.ref (ad E 29) :: st) := g_getR X (⟨by decide, fun E f h => ⟨_, rfl, rfl⟩⟩ : FR 29 12 37 53) (ci := 12) (T := TX12) (N := 44) rfl in_X12 (Nat.le_of_ble_eq_true rfl) m697 hd kk
theorem fg_X12_82 {E : Ek} {x : MC} {cc : ByteArray} {nL hm pc : Nat} {M : Mem} {lv : List (Nat × Value)} {st : List Value} (X : Cx E x cc nL RX12 hm) (hd : decode cc pc = .ok (.getfield 82, 3)) (kk : G E x M (pc + 3) lv (.ref (ad E 54) :: st)) : G E x M pc lv (.ref (ad E 29) :: st) := g_getR X (⟨by decide, fun E f h => ⟨_, rfl, rfl⟩⟩ : FR 29 12 38 54) (ci := 12) (T := TX12) (N := 44) rfl in_X12 (Nat.le_of_ble_eq_true rfl) m698 hd kk
theorem fg_X12_85 {E : Ek} {x : MC} {cc : ByteArray} {nL hm pc : Nat} {M : Mem} {lv : List (Nat × Value)} {st : List Value} (X : Cx E x cc nL RX12 hm) (hd : decode cc pc = .ok (.getfield 85, 3)) (kk : G E x M (pc + 3) lv (.ref (ad E 55) :: st)) : G E x M pc lv (.ref (ad E 29) :: st) := g_getR X (⟨by decide, fun E f h => ⟨_, rfl, rfl⟩⟩ : FR 29 12 39 55) (ci := 12) (T := TX12) (N := 44) rfl in_X12 (Nat.le_of_ble_eq_true rfl) m699 hd kk
theorem fg_X12_88 {E : Ek} {x : MC} {cc : ByteArray} {nL hm pc : Nat} {M : Mem} {lv : List (Nat × Value)} {st : List Value} (X : Cx E x cc nL RX12 hm) (hd : decode cc pc = .ok (.getfield 88, 3)) (kk : G E x M (pc + 3) lv (.ref (ad E 56) :: st)) : G E x M pc lv (.ref (ad E 29) :: st) := g_getR X (⟨by decide, fun E f h => ⟨_, rfl, rfl⟩⟩ : FR 29 12 40 56) (ci := 12) (T := TX12) (N := 44) rfl in_X12 (Nat.le_of_ble_eq_true rfl) m700 hd kk
theorem fg_X12_91 {E : Ek} {x : MC} {cc : ByteArray} {nL hm pc : Nat} {M : Mem} {lv : List (Nat × Value)} {st : List Value} (X : Cx E x cc nL RX12 hm) (hd : decode cc pc = .ok (.getfield 91, 3)) (kk : G E x M (pc + 3) lv (.ref (ad E 57) :: st)) : G E x M pc lv (.ref (ad E 29) :: st) := g_getR X (⟨by decide, fun E f h => ⟨_, rfl, rfl⟩⟩ : FR 29 12 41 57) (ci := 12) (T := TX12) (N := 44) rfl in_X12 (Nat.le_of_ble_eq_true rfl) m701 hd kk
theorem fg_X12_94 {E : Ek} {x : MC} {cc : ByteArray} {nL hm pc : Nat} {M : Mem} {lv : List (Nat × Value)} {st : List Value} (X : Cx E x cc nL RX12 hm) (hd : decode cc pc = .ok (.getfield 94, 3)) (kk : G E x M (pc + 3) lv (.ref (ad E 58) :: st)) : G E x M pc lv (.ref (ad E 29) :: st) := g_getR X (⟨by decide, fun E f h => ⟨_, rfl, rfl⟩⟩ : FR 29 12 42 58) (ci := 12) (T := TX12) (N := 44) rfl in_X12 (Nat.le_of_ble_eq_true rfl) m702 hd kk
theorem fp_X12_326 {E : Ek} {x : MC} {cc : ByteArray} {nL hm pc : Nat} {M : Mem} {lv : List (Nat × Value)} {st : List Value} (X : Cx E x cc nL RX12 hm) {v : Int32} {A : Mem → Prop} (hd : decode cc pc = .ok (.putfield 326, 3)) (h : ∀ M1, M1 = wr M 29 35 v → A M1) (kk : ∀ M1, A M1 → G E x M1 (pc + 3) lv st) : G E x M pc lv (.int v :: .ref (ad E 29) :: st) := g_putI X (⟨by decide, fun E f h => ⟨_, rfl, rfl, fun v => ⟨rfl, Nat.le_of_ble_eq_true rfl⟩⟩⟩ : FI 29 12 35) (ci := 12) (T := TX12) (N := 44) (ty := .int) rfl in_X12 tyX12 tyX12_ok nmX12 (Nat.le_of_ble_eq_true rfl) m703 rfl (by decide +kernel) rfl rfl hd h kk
theorem fp_X12_329 {E : Ek} {x : MC} {cc : ByteArray} {nL hm pc : Nat} {M : Mem} {lv : List (Nat × Value)} {st : List Value} (X : Cx E x cc nL RX12 hm) {v : Int32} {A : Mem → Prop} (hd : decode cc pc = .ok (.putfield 329, 3)) (h : ∀ M1, M1 = wr M 29 36 v → A M1) (kk : ∀ M1, A M1 → G E x M1 (pc + 3) lv st) : G E x M pc lv (.int v :: .ref (ad E 29) :: st) := g_putI X (⟨by decide, fun E f h => ⟨_, rfl, rfl, fun v => ⟨rfl, Nat.le_of_ble_eq_true rfl⟩⟩⟩ : FI 29 12 36) (ci := 12) (T := TX12) (N := 44) (ty := .int) rfl in_X12 tyX12 tyX12_ok nmX12 (Nat.le_of_ble_eq_true rfl) m704 rfl (by decide +kernel) rfl rfl hd h kk
theorem fp_X12_97 {E : Ek} {x : MC} {cc : ByteArray} {nL hm pc : Nat} {M : Mem} {lv : List (Nat × Value)} {st : List Value} (X : Cx E x cc nL RX12 hm) {v : Int32} {A : Mem → Prop} (hd : decode cc pc = .ok (.putfield 97, 3)) (h : ∀ M1, M1 = wr M 29 34 v → A M1) (kk : ∀ M1, A M1 → G E x M1 (pc + 3) lv st) : G E x M pc lv (.int v :: .ref (ad E 29) :: st) := g_putI X (⟨by decide, fun E f h => ⟨_, rfl, rfl, fun v => ⟨rfl, Nat.le_of_ble_eq_true rfl⟩⟩⟩ : FI 29 12 34) (ci := 12) (T := TX12) (N := 44) (ty := .int) rfl in_X12 tyX12 tyX12_ok nmX12 (Nat.le_of_ble_eq_true rfl) m705 rfl (by decide +kernel) rfl rfl hd h kk
theorem fg_X12_97 {E : Ek} {x : MC} {cc : ByteArray} {nL hm pc : Nat} {M : Mem} {lv : List (Nat × Value)} {st : List Value} (X : Cx E x cc nL RX12 hm) (hd : decode cc pc = .ok (.getfield 97, 3)) (kk : G E x M (pc + 3) lv (.int (rd M 29 34) :: st)) : G E x M pc lv (.ref (ad E 29) :: st) := g_getI X (⟨by decide, fun E f h => ⟨_, rfl, rfl, fun v => ⟨rfl, Nat.le_of_ble_eq_true rfl⟩⟩⟩ : FI 29 12 34) (ci := 12) (T := TX12) (N := 44) rfl in_X12 (Nat.le_of_ble_eq_true rfl) m705 hd kk
theorem fg_X12_326 {E : Ek} {x : MC} {cc : ByteArray} {nL hm pc : Nat} {M : Mem} {lv : List (Nat × Value)} {st : List Value} (X : Cx E x cc nL RX12 hm) (hd : decode cc pc = .ok (.getfield 326, 3)) (kk : G E x M (pc + 3) lv (.int (rd M 29 35) :: st)) : G E x M pc lv (.ref (ad E 29) :: st) := g_getI X (⟨by decide, fun E f h => ⟨_, rfl, rfl, fun v => ⟨rfl, Nat.le_of_ble_eq_true rfl⟩⟩⟩ : FI 29 12 35) (ci := 12) (T := TX12) (N := 44) rfl in_X12 (Nat.le_of_ble_eq_true rfl) m703 hd kk
theorem fg_X12_329 {E : Ek} {x : MC} {cc : ByteArray} {nL hm pc : Nat} {M : Mem} {lv : List (Nat × Value)} {st : List Value} (X : Cx E x cc nL RX12 hm) (hd : decode cc pc = .ok (.getfield 329, 3)) (kk : G E x M (pc + 3) lv (.int (rd M 29 36) :: st)) : G E x M pc lv (.ref (ad E 29) :: st) := g_getI X (⟨by decide, fun E f h => ⟨_, rfl, rfl, fun v => ⟨rfl, Nat.le_of_ble_eq_true rfl⟩⟩⟩ : FI 29 12 36) (ci := 12) (T := TX12) (N := 44) rfl in_X12 (Nat.le_of_ble_eq_true rfl) m704 hd kk
theorem fg_X12_343 {E : Ek} {x : MC} {cc : ByteArray} {nL hm pc : Nat} {M : Mem} {lv : List (Nat × Value)} {st : List Value} (X : Cx E x cc nL RX12 hm) (hd : decode cc pc = .ok (.getfield 343, 3)) (kk : G E x M (pc + 3) lv (.long M.2 :: st)) : G E x M pc lv (.ref (ad E 29) :: st) := g_getJ X in_X12 m722 hd kk
theorem fp_X12_343 {E : Ek} {x : MC} {cc : ByteArray} {nL hm pc : Nat} {M : Mem} {lv : List (Nat × Value)} {st : List Value} (X : Cx E x cc nL RX12 hm) {v : Int64} {A : Mem → Prop} (hd : decode cc pc = .ok (.putfield 343, 3)) (h : ∀ M1, M1 = wrH M v → A M1) (kk : ∀ M1, A M1 → G E x M1 (pc + 3) lv st) : G E x M pc lv (.long v :: .ref (ad E 29) :: st) := g_putJ X in_X12 m722 hd h kk
end
section
theorem cw_X1_number : CW yX1_number cX1_number 1 (some .int) 0 := ⟨m63, m64, Nat.le_of_ble_eq_true rfl, by decide +kernel⟩
def wp_X1_number (Post : Int32 → Mem → Prop) (M : Mem) : Prop :=
 Post 2 M
theorem w_X1_number (E : Ek) (l : Launch) {p0 : Nat} (hp : Prs p0) {M : Mem} {Post : Int32 → Mem → Prop} (h : wp_X1_number Post M ) : ctI E l yX1_number cX1_number 1 (some .int) 1 [.ref (ad E p0)] M Post := by
  refine ct_of (by decide) (Nat.le_of_ble_eq_true rfl) (fun x X hQ => ?_)
  change G E x M 0 [(0, .ref (ad E p0))] []
  refine g_iconst (v := 2) X dX1_number_0 (by decide) ?_
  exact g_iret X hQ dX1_number_1 h
theorem cw_X2_number : CW yX2_number cX2_number 1 (some .int) 0 := ⟨m65, m66, Nat.le_of_ble_eq_true rfl, by decide +kernel⟩
def wp_X2_number (Post : Int32 → Mem → Prop) (M : Mem) : Prop :=
 Post 4 M
theorem w_X2_number (E : Ek) (l : Launch) {p0 : Nat} (hp : Prs p0) {M : Mem} {Post : Int32 → Mem → Prop} (h : wp_X2_number Post M ) : ctI E l yX2_number cX2_number 1 (some .int) 1 [.ref (ad E p0)] M Post := by
  refine ct_of (by decide) (Nat.le_of_ble_eq_true rfl) (fun x X hQ => ?_)
  change G E x M 0 [(0, .ref (ad E p0))] []
  refine g_iconst (v := 4) X dX2_number_0 (by decide) ?_
  exact g_iret X hQ dX2_number_1 h
theorem cw_X3_number : CW yX3_number cX3_number 1 (some .int) 0 := ⟨m67, m68, Nat.le_of_ble_eq_true rfl, by decide +kernel⟩
def wp_X3_number (Post : Int32 → Mem → Prop) (M : Mem) : Prop :=
 Post 3 M
theorem w_X3_number (E : Ek) (l : Launch) {p0 : Nat} (hp : Prs p0) {M : Mem} {Post : Int32 → Mem → Prop} (h : wp_X3_number Post M ) : ctI E l yX3_number cX3_number 1 (some .int) 1 [.ref (ad E p0)] M Post := by
  refine ct_of (by decide) (Nat.le_of_ble_eq_true rfl) (fun x X hQ => ?_)
  change G E x M 0 [(0, .ref (ad E p0))] []
  refine g_iconst (v := 3) X dX3_number_0 (by decide) ?_
  exact g_iret X hQ dX3_number_1 h
theorem cw_X7_number : CW yX7_number cX7_number 1 (some .int) 0 := ⟨m69, m70, Nat.le_of_ble_eq_true rfl, by decide +kernel⟩
def wp_X7_number (Post : Int32 → Mem → Prop) (M : Mem) : Prop :=
 Post 0 M
theorem w_X7_number (E : Ek) (l : Launch) {p0 : Nat} (hp : Prs p0) {M : Mem} {Post : Int32 → Mem → Prop} (h : wp_X7_number Post M ) : ctI E l yX7_number cX7_number 1 (some .int) 1 [.ref (ad E p0)] M Post := by
  refine ct_of (by decide) (Nat.le_of_ble_eq_true rfl) (fun x X hQ => ?_)
  change G E x M 0 [(0, .ref (ad E p0))] []
  refine g_iconst (v := 0) X dX7_number_0 (by decide) ?_
  exact g_iret X hQ dX7_number_1 h
theorem cw_X8_number : CW yX8_number cX8_number 1 (some .int) 0 := ⟨m71, m72, Nat.le_of_ble_eq_true rfl, by decide +kernel⟩
def wp_X8_number (Post : Int32 → Mem → Prop) (M : Mem) : Prop :=
 Post 1 M
theorem w_X8_number (E : Ek) (l : Launch) {p0 : Nat} (hp : Prs p0) {M : Mem} {Post : Int32 → Mem → Prop} (h : wp_X8_number Post M ) : ctI E l yX8_number cX8_number 1 (some .int) 1 [.ref (ad E p0)] M Post := by
  refine ct_of (by decide) (Nat.le_of_ble_eq_true rfl) (fun x X hQ => ?_)
  change G E x M 0 [(0, .ref (ad E p0))] []
  refine g_iconst (v := 1) X dX8_number_0 (by decide) ?_
  exact g_iret X hQ dX8_number_1 h
theorem cw_X1_passes : CW yX1_passes cX1_passes 3 (some .boolean) 2 := ⟨m80, m64, Nat.le_of_ble_eq_true rfl, by decide +kernel⟩
def wp_X1_passes (Post : Int32 → Mem → Prop) (M : Mem) (v1 : Int32) (v2 : Int32) : Prop :=
 Post 1 M
theorem w_X1_passes (E : Ek) (l : Launch) {p0 : Nat} {v1 : Int32} {v2 : Int32} (hp : Prs p0) {M : Mem} {Post : Int32 → Mem → Prop} (h : wp_X1_passes Post M v1 v2) : ctI E l yX1_passes cX1_passes 3 (some .boolean) 1 [.ref (ad E p0), .int v1, .int v2] M Post := by
  refine ct_of (by decide) (Nat.le_of_ble_eq_true rfl) (fun x X hQ => ?_)
  change G E x M 0 [(0, .ref (ad E p0)), (1, .int v1), (2, .int v2)] []
  refine g_iconst (v := 1) X dX1_passes_0 (by decide) ?_
  exact g_zret X hQ dX1_passes_1 ⟨Or.inr rfl, h⟩
theorem cw_X7_passes : CW yX7_passes cX7_passes 3 (some .boolean) 2 := ⟨m81, m70, Nat.le_of_ble_eq_true rfl, by decide +kernel⟩
def wp_X7_passes (Post : Int32 → Mem → Prop) (M : Mem) (v1 : Int32) (v2 : Int32) : Prop :=
 (v1 = 0 →
  Post 1 M) ∧
 (¬ v1 = 0 →
  (v2 = 0 →
   Post 0 M) ∧
  (¬ v2 = 0 →
   Post 1 M))
theorem w_X7_passes (E : Ek) (l : Launch) {p0 : Nat} {v1 : Int32} {v2 : Int32} (hp : Prs p0) {M : Mem} {Post : Int32 → Mem → Prop} (h : wp_X7_passes Post M v1 v2) : ctI E l yX7_passes cX7_passes 3 (some .boolean) 1 [.ref (ad E p0), .int v1, .int v2] M Post := by
  refine ct_of (by decide) (Nat.le_of_ble_eq_true rfl) (fun x X hQ => ?_)
  change G E x M 0 [(0, .ref (ad E p0)), (1, .int v1), (2, .int v2)] []
  refine g_iload_n X dX7_passes_0 rfl 1 rfl ?_
  refine g_ifeq (tgt := 8) X dX7_passes_1 (by decide) h (fun h => ?_) (fun h => ?_)
  · refine g_iconst (v := 1) X dX7_passes_8 (by decide) ?_
    refine g_goto (tgt := 13) X dX7_passes_9 (by decide) ?_
    exact g_zret X hQ dX7_passes_13 ⟨Or.inr rfl, h⟩
  · refine g_iload_n X dX7_passes_4 rfl 2 rfl ?_
    refine g_ifeq (tgt := 12) X dX7_passes_5 (by decide) h (fun h => ?_) (fun h => ?_)
    · refine g_iconst (v := 0) X dX7_passes_12 (by decide) ?_
      exact g_zret X hQ dX7_passes_13 ⟨Or.inl rfl, h⟩
    · refine g_iconst (v := 1) X dX7_passes_8 (by decide) ?_
      refine g_goto (tgt := 13) X dX7_passes_9 (by decide) ?_
      exact g_zret X hQ dX7_passes_13 ⟨Or.inr rfl, h⟩
theorem cw_X8_passes : CW yX8_passes cX8_passes 3 (some .boolean) 2 := ⟨m82, m72, Nat.le_of_ble_eq_true rfl, by decide +kernel⟩
def wp_X8_passes (Post : Int32 → Mem → Prop) (M : Mem) (v1 : Int32) (v2 : Int32) : Prop :=
 Post 0 M
theorem w_X8_passes (E : Ek) (l : Launch) {p0 : Nat} {v1 : Int32} {v2 : Int32} (hp : Prs p0) {M : Mem} {Post : Int32 → Mem → Prop} (h : wp_X8_passes Post M v1 v2) : ctI E l yX8_passes cX8_passes 3 (some .boolean) 1 [.ref (ad E p0), .int v1, .int v2] M Post := by
  refine ct_of (by decide) (Nat.le_of_ble_eq_true rfl) (fun x X hQ => ?_)
  change G E x M 0 [(0, .ref (ad E p0)), (1, .int v1), (2, .int v2)] []
  refine g_iconst (v := 0) X dX8_passes_0 (by decide) ?_
  exact g_zret X hQ dX8_passes_1 ⟨Or.inl rfl, h⟩
theorem cw_X2_costOfSum : CW yX2_costOfSum cX2_costOfSum 2 (some .int) 1 := ⟨m100, m66, Nat.le_of_ble_eq_true rfl, by decide +kernel⟩
def wp_X2_costOfSum (Post : Int32 → Mem → Prop) (M : Mem) (v1 : Int32) : Prop :=
 Post v1 M
theorem w_X2_costOfSum (E : Ek) (l : Launch) {p0 : Nat} {v1 : Int32} (hp : Prs p0) {M : Mem} {Post : Int32 → Mem → Prop} (h : wp_X2_costOfSum Post M v1) : ctI E l yX2_costOfSum cX2_costOfSum 2 (some .int) 1 [.ref (ad E p0), .int v1] M Post := by
  refine ct_of (by decide) (Nat.le_of_ble_eq_true rfl) (fun x X hQ => ?_)
  change G E x M 0 [(0, .ref (ad E p0)), (1, .int v1)] []
  refine g_iload_n X dX2_costOfSum_0 rfl 1 rfl ?_
  exact g_iret X hQ dX2_costOfSum_1 h
theorem cw_X7_costOfSum : CW yX7_costOfSum cX7_costOfSum 2 (some .int) 1 := ⟨m101, m70, Nat.le_of_ble_eq_true rfl, by decide +kernel⟩
def wp_X7_costOfSum (Post : Int32 → Mem → Prop) (M : Mem) (v1 : Int32) : Prop :=
 Post v1 M
theorem w_X7_costOfSum (E : Ek) (l : Launch) {p0 : Nat} {v1 : Int32} (hp : Prs p0) {M : Mem} {Post : Int32 → Mem → Prop} (h : wp_X7_costOfSum Post M v1) : ctI E l yX7_costOfSum cX7_costOfSum 2 (some .int) 1 [.ref (ad E p0), .int v1] M Post := by
  refine ct_of (by decide) (Nat.le_of_ble_eq_true rfl) (fun x X hQ => ?_)
  change G E x M 0 [(0, .ref (ad E p0)), (1, .int v1)] []
  refine g_iload_n X dX7_costOfSum_0 rfl 1 rfl ?_
  exact g_iret X hQ dX7_costOfSum_1 h
theorem cw_X8_costOfSum : CW yX8_costOfSum cX8_costOfSum 2 (some .int) 1 := ⟨m102, m72, Nat.le_of_ble_eq_true rfl, by decide +kernel⟩
def wp_X8_costOfSum (Post : Int32 → Mem → Prop) (M : Mem) (v1 : Int32) : Prop :=
 Post (v1 + 1) M
theorem w_X8_costOfSum (E : Ek) (l : Launch) {p0 : Nat} {v1 : Int32} (hp : Prs p0) {M : Mem} {Post : Int32 → Mem → Prop} (h : wp_X8_costOfSum Post M v1) : ctI E l yX8_costOfSum cX8_costOfSum 2 (some .int) 1 [.ref (ad E p0), .int v1] M Post := by
  refine ct_of (by decide) (Nat.le_of_ble_eq_true rfl) (fun x X hQ => ?_)
  change G E x M 0 [(0, .ref (ad E p0)), (1, .int v1)] []
  refine g_iload_n X dX8_costOfSum_0 rfl 1 rfl ?_
  refine g_iconst (v := 1) X dX8_costOfSum_1 (by decide) ?_
  refine g_iadd X dX8_costOfSum_2 ?_
  exact g_iret X hQ dX8_costOfSum_3 h
theorem cw_X3_mayPayFrom : CW yX3_mayPayFrom cX3_mayPayFrom 3 (some .boolean) 2 := ⟨m106, m68, Nat.le_of_ble_eq_true rfl, by decide +kernel⟩
def wp_X3_mayPayFrom (Post : Int32 → Mem → Prop) (M : Mem) (v1 : Int32) (v2 : Int32) : Prop :=
 zb v1 ∧ Post v1 M
theorem w_X3_mayPayFrom (E : Ek) (l : Launch) {p0 : Nat} {v1 : Int32} {v2 : Int32} (hp : Prs p0) {M : Mem} {Post : Int32 → Mem → Prop} (h : wp_X3_mayPayFrom Post M v1 v2) : ctI E l yX3_mayPayFrom cX3_mayPayFrom 3 (some .boolean) 1 [.ref (ad E p0), .int v1, .int v2] M Post := by
  refine ct_of (by decide) (Nat.le_of_ble_eq_true rfl) (fun x X hQ => ?_)
  change G E x M 0 [(0, .ref (ad E p0)), (1, .int v1), (2, .int v2)] []
  refine g_iload_n X dX3_mayPayFrom_0 rfl 1 rfl ?_
  exact g_zret X hQ dX3_mayPayFrom_1 h
theorem cw_X7_mayPayFrom : CW yX7_mayPayFrom cX7_mayPayFrom 3 (some .boolean) 2 := ⟨m107, m70, Nat.le_of_ble_eq_true rfl, by decide +kernel⟩
def wp_X7_mayPayFrom (Post : Int32 → Mem → Prop) (M : Mem) (v1 : Int32) (v2 : Int32) : Prop :=
 (v1 = 0 →
  Post 0 M) ∧
 (¬ v1 = 0 →
  (v2 = 0 →
   Post 0 M) ∧
  (¬ v2 = 0 →
   Post 1 M))
theorem w_X7_mayPayFrom (E : Ek) (l : Launch) {p0 : Nat} {v1 : Int32} {v2 : Int32} (hp : Prs p0) {M : Mem} {Post : Int32 → Mem → Prop} (h : wp_X7_mayPayFrom Post M v1 v2) : ctI E l yX7_mayPayFrom cX7_mayPayFrom 3 (some .boolean) 1 [.ref (ad E p0), .int v1, .int v2] M Post := by
  refine ct_of (by decide) (Nat.le_of_ble_eq_true rfl) (fun x X hQ => ?_)
  change G E x M 0 [(0, .ref (ad E p0)), (1, .int v1), (2, .int v2)] []
  refine g_iload_n X dX7_mayPayFrom_0 rfl 1 rfl ?_
  refine g_ifeq (tgt := 12) X dX7_mayPayFrom_1 (by decide) h (fun h => ?_) (fun h => ?_)
  · refine g_iconst (v := 0) X dX7_mayPayFrom_12 (by decide) ?_
    exact g_zret X hQ dX7_mayPayFrom_13 ⟨Or.inl rfl, h⟩
  · refine g_iload_n X dX7_mayPayFrom_4 rfl 2 rfl ?_
    refine g_ifeq (tgt := 12) X dX7_mayPayFrom_5 (by decide) h (fun h => ?_) (fun h => ?_)
    · refine g_iconst (v := 0) X dX7_mayPayFrom_12 (by decide) ?_
      exact g_zret X hQ dX7_mayPayFrom_13 ⟨Or.inl rfl, h⟩
    · refine g_iconst (v := 1) X dX7_mayPayFrom_8 (by decide) ?_
      refine g_goto (tgt := 13) X dX7_mayPayFrom_9 (by decide) ?_
      exact g_zret X hQ dX7_mayPayFrom_13 ⟨Or.inr rfl, h⟩
theorem cw_X8_mayPayFrom : CW yX8_mayPayFrom cX8_mayPayFrom 3 (some .boolean) 2 := ⟨m108, m72, Nat.le_of_ble_eq_true rfl, by decide +kernel⟩
def wp_X8_mayPayFrom (Post : Int32 → Mem → Prop) (M : Mem) (v1 : Int32) (v2 : Int32) : Prop :=
 Post 1 M
theorem w_X8_mayPayFrom (E : Ek) (l : Launch) {p0 : Nat} {v1 : Int32} {v2 : Int32} (hp : Prs p0) {M : Mem} {Post : Int32 → Mem → Prop} (h : wp_X8_mayPayFrom Post M v1 v2) : ctI E l yX8_mayPayFrom cX8_mayPayFrom 3 (some .boolean) 1 [.ref (ad E p0), .int v1, .int v2] M Post := by
  refine ct_of (by decide) (Nat.le_of_ble_eq_true rfl) (fun x X hQ => ?_)
  change G E x M 0 [(0, .ref (ad E p0)), (1, .int v1), (2, .int v2)] []
  refine g_iconst (v := 1) X dX8_mayPayFrom_0 (by decide) ?_
  exact g_zret X hQ dX8_mayPayFrom_1 ⟨Or.inr rfl, h⟩
section VRows
variable {E : Ek} {x : MC} {cc : ByteArray} {nL hm pc : Nat} {own : String} {M : Mem} {lv : List (Nat × Value)} {st : List Value} {A B : Prop}
variable {q ci k N idx n : Nat} {C : String} {T : u_T}
theorem prs_c {P : Nat → Prop} (h1 : P 11) (h2 : P 12) (h3 : P 13) (h4 : P 14) {p : Nat} (h : Prs p) : P p := by
  obtain ⟨a, b⟩ := h
  rcases (by omega : p = 11 ∨ p = 12 ∨ p = 13 ∨ p = 14) with rfl | rfl | rfl | rfl <;> assumption
theorem prs_lay {p : Nat} (h : Prs p) : ∀ (E : Ek) (f : Nat → Int32) (u : Int64), lay E p f u = .inr (pcls (f 0), []) := prs_c (P := fun p => ∀ (E : Ek) (f : Nat → Int32) (u : Int64), lay E p f u = .inr (pcls (f 0), [])) (fun _ _ _ => rfl) (fun _ _ _ => rfl) (fun _ _ _ => rfl) (fun _ _ _ => rfl) h
theorem prs_lt {p : Nat} (h : Prs p) : p < 123 := by have := h.2; omega
theorem Cx.recvP (X : Cx E x cc nL own hm) {p : Nat} (h : Prs p) {r : vw_C} (hc : classes[pcls (rd M p 0)]? = some r) {H : Heap} (hP : va_P (eD E) classes (ws E M) H) : ∃ cellB : Cell, H[ad E p]? = some cellB ∧ cellB.vm.isStatics = false ∧ (xs x).vm.findClass r.1 = some cellB.cls :=
  va_recv X.ge.1 hP hc ((ws_at (prs_lt h)).trans (by rw [prs_lay h]; rfl))
theorem gi_c {w : Cond} {l : List Cond} (h : w ∈ gt) (hl : GoodIn gt l) : GoodIn gt (w :: l) := fun z hz => by
  rcases List.mem_cons.mp hz with rfl | hz
  · exact ⟨h, good_of_word (gt_good h)⟩
  · exact hl z hz
variable {y : MethodName} {b : ByteArray} {mL hc : Nat} {rt : Option FieldType} {As : List Value} {Qc : Array Value → State → Outcome → State → Prop}
theorem run_VR (X : Cx E x cc nL own hm) (hM : ctG E (xl x) y b mL rt hc (.ref (ad E q) :: As) M Qc) (hw : CW y b mL rt n) (w1 : Cond.methodLink own idx y ∈ gt) (w2 : Cond.instanceMethod y ∈ gt) (w3 : Cond.selects C y y ∈ gt) (hr : hc < hm) (hn : As.length = n) (hd : decode cc pc = .ok (.invokevirtual idx, 3)) (hW : (st.map fun v => v.category).sum ≤ 8) {H : Heap} (hR : ∃ cellB : Cell, H[ad E q]? = some cellB ∧ cellB.vm.isStatics = false ∧ (xs x).vm.findClass C = some cellB.cls) {locs : List Loc} {ls : Array Slot} (hP : va_P (eD E) classes (ws E M) H) (hS : va_S (frE E) (xs x).heap H locs) (hL : lv_has ls (xn x) lv) :
    va_Run (xp x) (xl x) (xe x) (xR x) (xs x) (xm x) (xa x) (xb x) (xM x) (xc x) H locs (xk x) (xz x) 0 0 (F0 (xm x) pc ls (As.reverse ++ .ref (ad E q) :: st)) st (Qc (Value.ref (ad E q) :: As).toArray) (frE E) :=
  va_runV ⟨X.ex, X.cb, X.ml, X.ow, X.hts⟩ hM ⟨callB_of n X.hts (gt_GI hw.1) rfl rfl rfl (X.hts _ hw.2.1) (X.hts _ w1) hw.2.2.2 (X.room hr hw.2.2.1), X.hts _ w2, X.hts _ w3⟩ ⟨(X.pre hP hS).1, hR, (X.pre hP hS).2⟩ rfl hn (hL.1.trans X.nl) rfl (lv_room hW) hd ⟨X.kz.1, X.kz.2⟩
theorem run_U (X : Cx E x cc nL own hm) {owner : String} {x0 : MethodName} (hM : ctG E (xl x) y b mL rt hc (.ref (ad E q) :: As) M Qc) (hU : va_CU (xR x) (xs x) (xa x) own C owner idx x0 y b mL rt (.code y b mL rt :: gt) (rmh hc) 0 0 n) (hn : As.length = n) (hd : decode cc pc = .ok (.invokevirtual idx, 3)) (hW : (st.map fun v => v.category).sum ≤ 8) {H : Heap} (hR : ∃ cellB : Cell, H[ad E q]? = some cellB ∧ cellB.vm.isStatics = false ∧ (xs x).vm.findClass C = some cellB.cls) {locs : List Loc} {ls : Array Slot} (hP : va_P (eD E) classes (ws E M) H) (hS : va_S (frE E) (xs x).heap H locs) (hL : lv_has ls (xn x) lv) :
    va_Run (xp x) (xl x) (xe x) (xR x) (xs x) (xm x) (xa x) (xb x) (xM x) (xc x) H locs (xk x) (xz x) 0 0 (F0 (xm x) pc ls (As.reverse ++ .ref (ad E q) :: st)) st (Qc (Value.ref (ad E q) :: As).toArray) (frE E) :=
  va_runU ⟨X.ex, X.cb, X.ml, X.ow, X.hts⟩ hM hU ⟨(X.pre hP hS).1, hR, (X.pre hP hS).2⟩ rfl hn (hL.1.trans X.nl) rfl (lv_room hW) hd ⟨X.kz.1, X.kz.2⟩
/-- which kind is an instance of what -/
def ins_X8 (k : Int32) : Int32 := if k = 1 ∨ k = 4 then 1 else 0
def ins_X1 (k : Int32) : Int32 := if k = 2 then 1 else 0
def ins_X3 (k : Int32) : Int32 := if k = 3 then 1 else 0
def ins_X2 (k : Int32) : Int32 := if k = 4 then 1 else 0
theorem pcls_1 {k : Int32} (h : k = 1) : pcls k = 8 := by subst h; rfl
theorem pcls_2 {k : Int32} (h : k = 2) : pcls k = 1 := by subst h; rfl
theorem pcls_3 {k : Int32} (h : k = 3) : pcls k = 3 := by subst h; rfl
theorem pcls_4 {k : Int32} (h : k = 4) : pcls k = 2 := by subst h; rfl
theorem pcls_0 {k : Int32} (h1 : ¬ k = 1) (h2 : ¬ k = 2) (h3 : ¬ k = 3) (h4 : ¬ k = 4) : pcls k = 7 := by simp [pcls, h1, h2, h3, h4]
theorem g_insY (X : Cx E x cc nL own hm) {p : Nat} (hp : Prs p) {r : vw_C} {nm : String} (hc : classes[pcls (rd M p 0)]? = some r) (w1 : Cond.classLink own idx nm ∈ gt) (w2 : Cond.castable r.1 nm ∈ tables_1) (hd : decode cc pc = .ok (.instanceof idx, 3)) (kk : G E x M (pc + 3) lv (.int 1 :: st)) : G E x M pc lv (.ref (ad E p) :: st) := fun H locs ls hP hS hL =>
  va_instY X.ex X.cb X.ow (X.hts _ w1) (X.ge.2.1 _ w2 rfl) (X.recvP hp hc hP) hd (kk H locs ls hP hS hL)
theorem g_insS (X : Cx E x cc nL own hm) {p i : Nat} (hp : Prs p) {r : vw_C} (hi : pcls (rd M p 0) = i) (hc : classes[i]? = some r) (w1 : Cond.classLink own idx r.1 ∈ gt) (hd : decode cc pc = .ok (.instanceof idx, 3)) (kk : G E x M (pc + 3) lv (.int 1 :: st)) : G E x M pc lv (.ref (ad E p) :: st) := fun H locs ls hP hS hL =>
  va_instS (cC := (eD E).1 i) X.ex X.cb X.ow (X.hts _ w1) (X.ge.1.1 i r hc).2 (X.recvP hp (by rw [hi]; exact hc) hP) hd (kk H locs ls hP hS hL)
theorem g_insN (X : Cx E x cc nL own hm) {p : Nat} (hp : Prs p) {r : vw_C} {nm : String} (hc : classes[pcls (rd M p 0)]? = some r) (w1 : Cond.classLink own idx nm ∈ gt) (w2 : (r.1, nm) ∈ ncs) (hd : decode cc pc = .ok (.instanceof idx, 3)) (kk : G E x M (pc + 3) lv (.int 0 :: st)) : G E x M pc lv (.ref (ad E p) :: st) := fun H locs ls hP hS hL =>
  va_instNo X.ex X.cb X.ow (X.hts _ w1) (X.ge.2.2.1 _ w2) (X.recvP hp hc hP) hd (kk H locs ls hP hS hL)
end VRows
def wpv_number (Post : Int32 → Mem → Prop) (M : Mem) (q : Nat) : Prop :=
  if rd M q 0 = 1 then wp_X8_number Post M  else if rd M q 0 = 2 then wp_X1_number Post M  else if rd M q 0 = 3 then wp_X3_number Post M  else if rd M q 0 = 4 then wp_X2_number Post M  else wp_X7_number Post M 
theorem cv_X11_100 {E : Ek} {x : MC} {cc : ByteArray} {nL hm pc : Nat} {M : Mem} {lv : List (Nat × Value)} {st : List Value} (X : Cx E x cc nL RX11 hm) {p0 : Nat} (hp : Prs p0) {Post : Int32 → Mem → Prop} (hr : 1 < hm) (hW : (st.map fun v => v.category).sum ≤ 8) (hd : decode cc pc = .ok (.invokevirtual 100, 3)) (h : wpv_number Post M p0 ) (kk : ∀ r M1, Post r M1 → G E x M1 (pc + 3) lv (.int r :: st)) : G E x M pc lv (.ref (ad E p0) :: st) := by
  unfold wpv_number at h
  by_cases c1 : rd M p0 0 = 1
  · rw [if_pos c1] at h
    exact k_I (fun hP hS hL => run_U X (w_X8_number E (xl x) hp h) (va_cwO (C := RX8) (owner := RX7) (x := yX7_number) 0 X.hts (gi_c m737 (gi_c m738 (gi_c m741 (gi_c m739 (gi_c m740 (gi_c m72 (gt_GI cw_X8_number.1))))))) rfl rfl rfl m69 (by decide +kernel) (X.room hr cw_X8_number.2.2.1)) rfl hd hW (X.recvP hp (by rw [pcls_1 c1]; rfl) hP) hP hS hL) kk
  rw [if_neg c1] at h
  by_cases c2 : rd M p0 0 = 2
  · rw [if_pos c2] at h
    exact k_I (fun hP hS hL => run_U X (w_X1_number E (xl x) hp h) (va_cwO (C := RX1) (owner := RX7) (x := yX7_number) 0 X.hts (gi_c m737 (gi_c m738 (gi_c m741 (gi_c m742 (gi_c m743 (gi_c m64 (gt_GI cw_X1_number.1))))))) rfl rfl rfl m69 (by decide +kernel) (X.room hr cw_X1_number.2.2.1)) rfl hd hW (X.recvP hp (by rw [pcls_2 c2]; rfl) hP) hP hS hL) kk
  rw [if_neg c2] at h
  by_cases c3 : rd M p0 0 = 3
  · rw [if_pos c3] at h
    exact k_I (fun hP hS hL => run_U X (w_X3_number E (xl x) hp h) (va_cwO (C := RX3) (owner := RX7) (x := yX7_number) 0 X.hts (gi_c m737 (gi_c m738 (gi_c m741 (gi_c m744 (gi_c m745 (gi_c m68 (gt_GI cw_X3_number.1))))))) rfl rfl rfl m69 (by decide +kernel) (X.room hr cw_X3_number.2.2.1)) rfl hd hW (X.recvP hp (by rw [pcls_3 c3]; rfl) hP) hP hS hL) kk
  rw [if_neg c3] at h
  by_cases c4 : rd M p0 0 = 4
  · rw [if_pos c4] at h
    exact k_I (fun hP hS hL => run_U X (w_X2_number E (xl x) hp h) (va_cwO (C := RX2) (owner := RX7) (x := yX7_number) 0 X.hts (gi_c m737 (gi_c m738 (gi_c m741 (gi_c m746 (gi_c m747 (gi_c m66 (gt_GI cw_X2_number.1))))))) rfl rfl rfl m69 (by decide +kernel) (X.room hr cw_X2_number.2.2.1)) rfl hd hW (X.recvP hp (by rw [pcls_4 c4]; rfl) hP) hP hS hL) kk
  rw [if_neg c4] at h
  exact k_I (fun hP hS hL => run_VR X (w_X7_number E (xl x) hp h) cw_X7_number m737 m741 m748 hr rfl hd hW (X.recvP hp (by rw [pcls_0 c1 c2 c3 c4]; rfl) hP) hP hS hL) kk
def wpv_passes (Post : Int32 → Mem → Prop) (M : Mem) (q : Nat) (v1 : Int32) (v2 : Int32) : Prop :=
  if rd M q 0 = 1 then wp_X8_passes Post M v1 v2 else if rd M q 0 = 2 then wp_X1_passes Post M v1 v2 else if rd M q 0 = 3 then wp_X7_passes Post M v1 v2 else if rd M q 0 = 4 then wp_X8_passes Post M v1 v2 else wp_X7_passes Post M v1 v2
theorem cv_X0_54 {E : Ek} {x : MC} {cc : ByteArray} {nL hm pc : Nat} {M : Mem} {lv : List (Nat × Value)} {st : List Value} (X : Cx E x cc nL RX0 hm) {p0 : Nat} (hp : Prs p0) {v1 : Int32} {v2 : Int32} {Post : Int32 → Mem → Prop} (hr : 1 < hm) (hW : (st.map fun v => v.category).sum ≤ 8) (hd : decode cc pc = .ok (.invokevirtual 54, 3)) (h : wpv_passes Post M p0 v1 v2) (kk : ∀ r M1, Post r M1 → G E x M1 (pc + 3) lv (.int r :: st)) : G E x M pc lv (.int v2 :: .int v1 :: .ref (ad E p0) :: st) := by
  unfold wpv_passes at h
  by_cases c1 : rd M p0 0 = 1
  · rw [if_pos c1] at h
    exact k_I (fun hP hS hL => run_U X (w_X8_passes E (xl x) hp h) (va_cwO (C := RX8) (owner := RX7) (x := yX7_passes) 2 X.hts (gi_c m749 (gi_c m750 (gi_c m753 (gi_c m751 (gi_c m752 (gi_c m72 (gt_GI cw_X8_passes.1))))))) rfl rfl rfl m81 (by decide +kernel) (X.room hr cw_X8_passes.2.2.1)) rfl hd hW (X.recvP hp (by rw [pcls_1 c1]; rfl) hP) hP hS hL) kk
  rw [if_neg c1] at h
  by_cases c2 : rd M p0 0 = 2
  · rw [if_pos c2] at h
    exact k_I (fun hP hS hL => run_U X (w_X1_passes E (xl x) hp h) (va_cwO (C := RX1) (owner := RX7) (x := yX7_passes) 2 X.hts (gi_c m749 (gi_c m750 (gi_c m753 (gi_c m754 (gi_c m755 (gi_c m64 (gt_GI cw_X1_passes.1))))))) rfl rfl rfl m81 (by decide +kernel) (X.room hr cw_X1_passes.2.2.1)) rfl hd hW (X.recvP hp (by rw [pcls_2 c2]; rfl) hP) hP hS hL) kk
  rw [if_neg c2] at h
  by_cases c3 : rd M p0 0 = 3
  · rw [if_pos c3] at h
    exact k_I (fun hP hS hL => run_U X (w_X7_passes E (xl x) hp h) (va_cwU (C := RX3) (owner := RX7) (x := yX7_passes) 2 X.hts (gi_c m749 (gi_c m750 (gi_c m756 (gi_c m753 (gi_c m70 (gt_GI cw_X7_passes.1)))))) rfl rfl rfl rfl (by decide +kernel) (X.room hr cw_X7_passes.2.2.1)) rfl hd hW (X.recvP hp (by rw [pcls_3 c3]; rfl) hP) hP hS hL) kk
  rw [if_neg c3] at h
  by_cases c4 : rd M p0 0 = 4
  · rw [if_pos c4] at h
    exact k_I (fun hP hS hL => run_U X (w_X8_passes E (xl x) hp h) (va_cwO (C := RX2) (owner := RX7) (x := yX7_passes) 2 X.hts (gi_c m749 (gi_c m750 (gi_c m753 (gi_c m757 (gi_c m752 (gi_c m72 (gt_GI cw_X8_passes.1))))))) rfl rfl rfl m81 (by decide +kernel) (X.room hr cw_X8_passes.2.2.1)) rfl hd hW (X.recvP hp (by rw [pcls_4 c4]; rfl) hP) hP hS hL) kk
  rw [if_neg c4] at h
  exact k_I (fun hP hS hL => run_VR X (w_X7_passes E (xl x) hp h) cw_X7_passes m749 m753 m758 hr rfl hd hW (X.recvP hp (by rw [pcls_0 c1 c2 c3 c4]; rfl) hP) hP hS hL) kk
def wpv_costOfSum (Post : Int32 → Mem → Prop) (M : Mem) (q : Nat) (v1 : Int32) : Prop :=
  if rd M q 0 = 1 then wp_X8_costOfSum Post M v1 else if rd M q 0 = 2 then wp_X7_costOfSum Post M v1 else if rd M q 0 = 3 then wp_X7_costOfSum Post M v1 else if rd M q 0 = 4 then wp_X2_costOfSum Post M v1 else wp_X7_costOfSum Post M v1
theorem cv_X0_74 {E : Ek} {x : MC} {cc : ByteArray} {nL hm pc : Nat} {M : Mem} {lv : List (Nat × Value)} {st : List Value} (X : Cx E x cc nL RX0 hm) {p0 : Nat} (hp : Prs p0) {v1 : Int32} {Post : Int32 → Mem → Prop} (hr : 1 < hm) (hW : (st.map fun v => v.category).sum ≤ 8) (hd : decode cc pc = .ok (.invokevirtual 74, 3)) (h : wpv_costOfSum Post M p0 v1) (kk : ∀ r M1, Post r M1 → G E x M1 (pc + 3) lv (.int r :: st)) : G E x M pc lv (.int v1 :: .ref (ad E p0) :: st) := by
  unfold wpv_costOfSum at h
  by_cases c1 : rd M p0 0 = 1
  · rw [if_pos c1] at h
    exact k_I (fun hP hS hL => run_U X (w_X8_costOfSum E (xl x) hp h) (va_cwO (C := RX8) (owner := RX7) (x := yX7_costOfSum) 1 X.hts (gi_c m759 (gi_c m760 (gi_c m763 (gi_c m761 (gi_c m762 (gi_c m72 (gt_GI cw_X8_costOfSum.1))))))) rfl rfl rfl m101 (by decide +kernel) (X.room hr cw_X8_costOfSum.2.2.1)) rfl hd hW (X.recvP hp (by rw [pcls_1 c1]; rfl) hP) hP hS hL) kk
  rw [if_neg c1] at h
  by_cases c2 : rd M p0 0 = 2
  · rw [if_pos c2] at h
    exact k_I (fun hP hS hL => run_U X (w_X7_costOfSum E (xl x) hp h) (va_cwU (C := RX1) (owner := RX7) (x := yX7_costOfSum) 1 X.hts (gi_c m759 (gi_c m760 (gi_c m764 (gi_c m763 (gi_c m70 (gt_GI cw_X7_costOfSum.1)))))) rfl rfl rfl rfl (by decide +kernel) (X.room hr cw_X7_costOfSum.2.2.1)) rfl hd hW (X.recvP hp (by rw [pcls_2 c2]; rfl) hP) hP hS hL) kk
  rw [if_neg c2] at h
  by_cases c3 : rd M p0 0 = 3
  · rw [if_pos c3] at h
    exact k_I (fun hP hS hL => run_U X (w_X7_costOfSum E (xl x) hp h) (va_cwU (C := RX3) (owner := RX7) (x := yX7_costOfSum) 1 X.hts (gi_c m759 (gi_c m760 (gi_c m765 (gi_c m763 (gi_c m70 (gt_GI cw_X7_costOfSum.1)))))) rfl rfl rfl rfl (by decide +kernel) (X.room hr cw_X7_costOfSum.2.2.1)) rfl hd hW (X.recvP hp (by rw [pcls_3 c3]; rfl) hP) hP hS hL) kk
  rw [if_neg c3] at h
  by_cases c4 : rd M p0 0 = 4
  · rw [if_pos c4] at h
    exact k_I (fun hP hS hL => run_U X (w_X2_costOfSum E (xl x) hp h) (va_cwO (C := RX2) (owner := RX7) (x := yX7_costOfSum) 1 X.hts (gi_c m759 (gi_c m760 (gi_c m763 (gi_c m766 (gi_c m767 (gi_c m66 (gt_GI cw_X2_costOfSum.1))))))) rfl rfl rfl m101 (by decide +kernel) (X.room hr cw_X2_costOfSum.2.2.1)) rfl hd hW (X.recvP hp (by rw [pcls_4 c4]; rfl) hP) hP hS hL) kk
  rw [if_neg c4] at h
  exact k_I (fun hP hS hL => run_VR X (w_X7_costOfSum E (xl x) hp h) cw_X7_costOfSum m759 m763 m768 hr rfl hd hW (X.recvP hp (by rw [pcls_0 c1 c2 c3 c4]; rfl) hP) hP hS hL) kk
def wpv_mayPayFrom (Post : Int32 → Mem → Prop) (M : Mem) (q : Nat) (v1 : Int32) (v2 : Int32) : Prop :=
  if rd M q 0 = 1 then wp_X8_mayPayFrom Post M v1 v2 else if rd M q 0 = 2 then wp_X7_mayPayFrom Post M v1 v2 else if rd M q 0 = 3 then wp_X3_mayPayFrom Post M v1 v2 else if rd M q 0 = 4 then wp_X8_mayPayFrom Post M v1 v2 else wp_X7_mayPayFrom Post M v1 v2
theorem cv_X0_87 {E : Ek} {x : MC} {cc : ByteArray} {nL hm pc : Nat} {M : Mem} {lv : List (Nat × Value)} {st : List Value} (X : Cx E x cc nL RX0 hm) {p0 : Nat} (hp : Prs p0) {v1 : Int32} {v2 : Int32} {Post : Int32 → Mem → Prop} (hr : 1 < hm) (hW : (st.map fun v => v.category).sum ≤ 8) (hd : decode cc pc = .ok (.invokevirtual 87, 3)) (h : wpv_mayPayFrom Post M p0 v1 v2) (kk : ∀ r M1, Post r M1 → G E x M1 (pc + 3) lv (.int r :: st)) : G E x M pc lv (.int v2 :: .int v1 :: .ref (ad E p0) :: st) := by
  unfold wpv_mayPayFrom at h
  by_cases c1 : rd M p0 0 = 1
  · rw [if_pos c1] at h
    exact k_I (fun hP hS hL => run_U X (w_X8_mayPayFrom E (xl x) hp h) (va_cwO (C := RX8) (owner := RX7) (x := yX7_mayPayFrom) 2 X.hts (gi_c m769 (gi_c m770 (gi_c m773 (gi_c m771 (gi_c m772 (gi_c m72 (gt_GI cw_X8_mayPayFrom.1))))))) rfl rfl rfl m107 (by decide +kernel) (X.room hr cw_X8_mayPayFrom.2.2.1)) rfl hd hW (X.recvP hp (by rw [pcls_1 c1]; rfl) hP) hP hS hL) kk
  rw [if_neg c1] at h
  by_cases c2 : rd M p0 0 = 2
  · rw [if_pos c2] at h
    exact k_I (fun hP hS hL => run_U X (w_X7_mayPayFrom E (xl x) hp h) (va_cwU (C := RX1) (owner := RX7) (x := yX7_mayPayFrom) 2 X.hts (gi_c m769 (gi_c m770 (gi_c m774 (gi_c m773 (gi_c m70 (gt_GI cw_X7_mayPayFrom.1)))))) rfl rfl rfl rfl (by decide +kernel) (X.room hr cw_X7_mayPayFrom.2.2.1)) rfl hd hW (X.recvP hp (by rw [pcls_2 c2]; rfl) hP) hP hS hL) kk
  rw [if_neg c2] at h
  by_cases c3 : rd M p0 0 = 3
  · rw [if_pos c3] at h
    exact k_I (fun hP hS hL => run_U X (w_X3_mayPayFrom E (xl x) hp h) (va_cwO (C := RX3) (owner := RX7) (x := yX7_mayPayFrom) 2 X.hts (gi_c m769 (gi_c m770 (gi_c m773 (gi_c m775 (gi_c m776 (gi_c m68 (gt_GI cw_X3_mayPayFrom.1))))))) rfl rfl rfl m107 (by decide +kernel) (X.room hr cw_X3_mayPayFrom.2.2.1)) rfl hd hW (X.recvP hp (by rw [pcls_3 c3]; rfl) hP) hP hS hL) kk
  rw [if_neg c3] at h
  by_cases c4 : rd M p0 0 = 4
  · rw [if_pos c4] at h
    exact k_I (fun hP hS hL => run_U X (w_X8_mayPayFrom E (xl x) hp h) (va_cwO (C := RX2) (owner := RX7) (x := yX7_mayPayFrom) 2 X.hts (gi_c m769 (gi_c m770 (gi_c m773 (gi_c m777 (gi_c m772 (gi_c m72 (gt_GI cw_X8_mayPayFrom.1))))))) rfl rfl rfl m107 (by decide +kernel) (X.room hr cw_X8_mayPayFrom.2.2.1)) rfl hd hW (X.recvP hp (by rw [pcls_4 c4]; rfl) hP) hP hS hL) kk
  rw [if_neg c4] at h
  exact k_I (fun hP hS hL => run_VR X (w_X7_mayPayFrom E (xl x) hp h) cw_X7_mayPayFrom m769 m773 m778 hr rfl hd hW (X.recvP hp (by rw [pcls_0 c1 c2 c3 c4]; rfl) hP) hP hS hL) kk
theorem gi_X8 {E : Ek} {x : MC} {cc : ByteArray} {nL hm pc : Nat} {M : Mem} {lv : List (Nat × Value)} {st : List Value} (X : Cx E x cc nL RX4 hm) {p : Nat} (hp : Prs p) (hd : decode cc pc = .ok (.instanceof 37, 3)) (kk : G E x M (pc + 3) lv (.int (ins_X8 (rd M p 0)) :: st)) : G E x M pc lv (.ref (ad E p) :: st) := by
  by_cases c1 : rd M p 0 = 1
  · rw [(show ins_X8 (rd M p 0) = 1 by rw [c1]; rfl)] at kk
    exact g_insS X hp (pcls_1 c1) rfl m779 hd kk
  by_cases c2 : rd M p 0 = 2
  · rw [(show ins_X8 (rd M p 0) = 0 by rw [c2]; rfl)] at kk
    exact g_insN X hp (r := (RX1, TX1, 0)) (by rw [pcls_2 c2]; rfl) m779 (by decide) hd kk
  by_cases c3 : rd M p 0 = 3
  · rw [(show ins_X8 (rd M p 0) = 0 by rw [c3]; rfl)] at kk
    exact g_insN X hp (r := (RX3, TX3, 0)) (by rw [pcls_3 c3]; rfl) m779 (by decide) hd kk
  by_cases c4 : rd M p 0 = 4
  · rw [(show ins_X8 (rd M p 0) = 1 by rw [c4]; rfl)] at kk
    exact g_insY X hp (r := (RX2, TX2, 0)) (by rw [pcls_4 c4]; rfl) m779 m780 hd kk
  rw [(show ins_X8 (rd M p 0) = 0 by simp [ins_X8, c1, c2, c3, c4])] at kk
  exact g_insN X hp (r := (RX7, TX7, 0)) (by rw [pcls_0 c1 c2 c3 c4]; rfl) m779 (by decide) hd kk
theorem gi_X1 {E : Ek} {x : MC} {cc : ByteArray} {nL hm pc : Nat} {M : Mem} {lv : List (Nat × Value)} {st : List Value} (X : Cx E x cc nL RX4 hm) {p : Nat} (hp : Prs p) (hd : decode cc pc = .ok (.instanceof 40, 3)) (kk : G E x M (pc + 3) lv (.int (ins_X1 (rd M p 0)) :: st)) : G E x M pc lv (.ref (ad E p) :: st) := by
  by_cases c1 : rd M p 0 = 1
  · rw [(show ins_X1 (rd M p 0) = 0 by rw [c1]; rfl)] at kk
    exact g_insN X hp (r := (RX8, TX8, 0)) (by rw [pcls_1 c1]; rfl) m781 (by decide) hd kk
  by_cases c2 : rd M p 0 = 2
  · rw [(show ins_X1 (rd M p 0) = 1 by rw [c2]; rfl)] at kk
    exact g_insS X hp (pcls_2 c2) rfl m781 hd kk
  by_cases c3 : rd M p 0 = 3
  · rw [(show ins_X1 (rd M p 0) = 0 by rw [c3]; rfl)] at kk
    exact g_insN X hp (r := (RX3, TX3, 0)) (by rw [pcls_3 c3]; rfl) m781 (by decide) hd kk
  by_cases c4 : rd M p 0 = 4
  · rw [(show ins_X1 (rd M p 0) = 0 by rw [c4]; rfl)] at kk
    exact g_insN X hp (r := (RX2, TX2, 0)) (by rw [pcls_4 c4]; rfl) m781 (by decide) hd kk
  rw [(show ins_X1 (rd M p 0) = 0 by simp [ins_X1, c1, c2, c3, c4])] at kk
  exact g_insN X hp (r := (RX7, TX7, 0)) (by rw [pcls_0 c1 c2 c3 c4]; rfl) m781 (by decide) hd kk
theorem gi_X3 {E : Ek} {x : MC} {cc : ByteArray} {nL hm pc : Nat} {M : Mem} {lv : List (Nat × Value)} {st : List Value} (X : Cx E x cc nL RX4 hm) {p : Nat} (hp : Prs p) (hd : decode cc pc = .ok (.instanceof 43, 3)) (kk : G E x M (pc + 3) lv (.int (ins_X3 (rd M p 0)) :: st)) : G E x M pc lv (.ref (ad E p) :: st) := by
  by_cases c1 : rd M p 0 = 1
  · rw [(show ins_X3 (rd M p 0) = 0 by rw [c1]; rfl)] at kk
    exact g_insN X hp (r := (RX8, TX8, 0)) (by rw [pcls_1 c1]; rfl) m782 (by decide) hd kk
  by_cases c2 : rd M p 0 = 2
  · rw [(show ins_X3 (rd M p 0) = 0 by rw [c2]; rfl)] at kk
    exact g_insN X hp (r := (RX1, TX1, 0)) (by rw [pcls_2 c2]; rfl) m782 (by decide) hd kk
  by_cases c3 : rd M p 0 = 3
  · rw [(show ins_X3 (rd M p 0) = 1 by rw [c3]; rfl)] at kk
    exact g_insS X hp (pcls_3 c3) rfl m782 hd kk
  by_cases c4 : rd M p 0 = 4
  · rw [(show ins_X3 (rd M p 0) = 0 by rw [c4]; rfl)] at kk
    exact g_insN X hp (r := (RX2, TX2, 0)) (by rw [pcls_4 c4]; rfl) m782 (by decide) hd kk
  rw [(show ins_X3 (rd M p 0) = 0 by simp [ins_X3, c1, c2, c3, c4])] at kk
  exact g_insN X hp (r := (RX7, TX7, 0)) (by rw [pcls_0 c1 c2 c3 c4]; rfl) m782 (by decide) hd kk
theorem gi_X2 {E : Ek} {x : MC} {cc : ByteArray} {nL hm pc : Nat} {M : Mem} {lv : List (Nat × Value)} {st : List Value} (X : Cx E x cc nL RX4 hm) {p : Nat} (hp : Prs p) (hd : decode cc pc = .ok (.instanceof 46, 3)) (kk : G E x M (pc + 3) lv (.int (ins_X2 (rd M p 0)) :: st)) : G E x M pc lv (.ref (ad E p) :: st) := by
  by_cases c1 : rd M p 0 = 1
  · rw [(show ins_X2 (rd M p 0) = 0 by rw [c1]; rfl)] at kk
    exact g_insN X hp (r := (RX8, TX8, 0)) (by rw [pcls_1 c1]; rfl) m783 (by decide) hd kk
  by_cases c2 : rd M p 0 = 2
  · rw [(show ins_X2 (rd M p 0) = 0 by rw [c2]; rfl)] at kk
    exact g_insN X hp (r := (RX1, TX1, 0)) (by rw [pcls_2 c2]; rfl) m783 (by decide) hd kk
  by_cases c3 : rd M p 0 = 3
  · rw [(show ins_X2 (rd M p 0) = 0 by rw [c3]; rfl)] at kk
    exact g_insN X hp (r := (RX3, TX3, 0)) (by rw [pcls_3 c3]; rfl) m783 (by decide) hd kk
  by_cases c4 : rd M p 0 = 4
  · rw [(show ins_X2 (rd M p 0) = 1 by rw [c4]; rfl)] at kk
    exact g_insS X hp (pcls_4 c4) rfl m783 hd kk
  rw [(show ins_X2 (rd M p 0) = 0 by simp [ins_X2, c1, c2, c3, c4])] at kk
  exact g_insN X hp (r := (RX7, TX7, 0)) (by rw [pcls_0 c1 c2 c3 c4]; rfl) m783 (by decide) hd kk
end
section
theorem cw_X6_append : CW yX6_append cX6_append 2 (some .boolean) 1 := ⟨m2, m3, Nat.le_of_ble_eq_true rfl, by decide +kernel⟩
def wp_X6_append (Post : Int32 → Mem → Prop) (M : Mem) (v1 : Int32) : Prop :=
 ((rd M 1 1) < 64 →
  vp_in (rd M 1 1) 64 ∧
  ∀ M1 : Mem, M1 = wr M 2 (rd M 1 1).toNatClampNeg v1 →
  ∀ M2 : Mem, M2 = wr M1 1 1 ((rd M1 1 1) + 1) →
  Post 1 M2) ∧
 (¬ (rd M 1 1) < 64 →
  Post 0 M)
theorem w_X6_append (E : Ek) (l : Launch) {v1 : Int32} {M : Mem} {Post : Int32 → Mem → Prop} (h : wp_X6_append Post M v1) : ctI E l yX6_append cX6_append 2 (some .boolean) 1 [.ref (ad E 1), .int v1] M Post := by
  refine ct_of (by decide) (Nat.le_of_ble_eq_true rfl) (fun x X hQ => ?_)
  change G E x M 0 [(0, .ref (ad E 1)), (1, .int v1)] []
  refine g_aload_n X dX6_append_0 rfl 0 rfl ?_
  refine fg_X6_15 X dX6_append_1 ?_
  refine g_bipush (v := 64) X dX6_append_4 (by decide) ?_
  refine g_icmplt (tgt := 11) X dX6_append_6 (by decide) h (fun h => ?_) (fun h => ?_)
  · refine g_aload_n X dX6_append_11 rfl 0 rfl ?_
    refine fg_X6_9 X dX6_append_12 ?_
    refine g_aload_n X dX6_append_15 rfl 0 rfl ?_
    refine fg_X6_15 X dX6_append_16 ?_
    refine g_iload_n X dX6_append_19 rfl 1 rfl ?_
    refine g_iast X ia_2 dX6_append_20 h (fun M1 h => ?_)
    refine g_aload_n X dX6_append_21 rfl 0 rfl ?_
    refine g_dup X dX6_append_22 rfl ?_
    refine fg_X6_15 X dX6_append_23 ?_
    refine g_iconst (v := 1) X dX6_append_26 (by decide) ?_
    refine g_iadd X dX6_append_27 ?_
    refine fp_X6_15 X dX6_append_28 h (fun M2 h => ?_)
    refine g_iconst (v := 1) X dX6_append_31 (by decide) ?_
    exact g_zret X hQ dX6_append_32 ⟨Or.inr rfl, h⟩
  · refine g_iconst (v := 0) X dX6_append_9 (by decide) ?_
    exact g_zret X hQ dX6_append_10 ⟨Or.inl rfl, h⟩
theorem cl_X11_67 {E : Ek} {x : MC} {cc : ByteArray} {nL hm pc : Nat} {M : Mem} {lv : List (Nat × Value)} {st : List Value} (X : Cx E x cc nL RX11 hm) {v1 : Int32} {Post : Int32 → Mem → Prop} (hr : 1 < hm) (hW : (st.map fun v => v.category).sum ≤ 8) (hd : decode cc pc = .ok (.invokevirtual 67, 3)) (h : wp_X6_append Post M v1) (kk : ∀ r M1, Post r M1 → G E x M1 (pc + 3) lv (.int r :: st)) : G E x M pc lv (.int v1 :: .ref (ad E 1) :: st) := k_I (fun hP hS hL => run_VN X (w_X6_append E (xl x)  h) cw_X6_append m5 m6 m7 (⟨by decide, fun E f h => ⟨_, _, _, rfl, rfl, rfl⟩⟩ : OC 1 RX6) hr rfl hd hW hP hS hL) kk
theorem cw_X11_letter : CW yX11_letter cX11_letter 2 (some .int) 1 := ⟨m9, m10, Nat.le_of_ble_eq_true rfl, by decide +kernel⟩
def wp_X11_letter (Post : Int32 → Mem → Prop) (M : Mem) (v1 : Int32) : Prop :=
 (v1 < 1 →
  Post (-102) M) ∧
 (¬ v1 < 1 →
  (v1 ≤ 126 →
   wp_X6_append (fun r1 M2 =>
    (r1 = 0 →
     Post (-104) M2) ∧
    (¬ r1 = 0 →
     Post (rd M2 1 1) M2)) M v1) ∧
  (¬ v1 ≤ 126 →
   Post (-102) M))
theorem w_X11_letter (E : Ek) (l : Launch) {v1 : Int32} {M : Mem} {Post : Int32 → Mem → Prop} (h : wp_X11_letter Post M v1) : ctI E l yX11_letter cX11_letter 2 (some .int) 2 [.ref (ad E 0), .int v1] M Post := by
  refine ct_of (by decide) (Nat.le_of_ble_eq_true rfl) (fun x X hQ => ?_)
  change G E x M 0 [(0, .ref (ad E 0)), (1, .int v1)] []
  refine g_iload_n X dX11_letter_0 rfl 1 rfl ?_
  refine g_iconst (v := 1) X dX11_letter_1 (by decide) ?_
  refine g_icmplt (tgt := 11) X dX11_letter_2 (by decide) h (fun h => ?_) (fun h => ?_)
  · refine g_bipush (v := (-102)) X dX11_letter_11 (by decide) ?_
    exact g_iret X hQ dX11_letter_13 h
  · refine g_iload_n X dX11_letter_5 rfl 1 rfl ?_
    refine g_bipush (v := 126) X dX11_letter_6 (by decide) ?_
    refine g_icmple (tgt := 14) X dX11_letter_8 (by decide) h (fun h => ?_) (fun h => ?_)
    · refine g_aload_n X dX11_letter_14 rfl 0 rfl ?_
      refine fg_X11_10 X dX11_letter_15 ?_
      refine g_iload_n X dX11_letter_18 rfl 1 rfl ?_
      refine cl_X11_67 X (by decide) (Nat.le_of_ble_eq_true rfl) dX11_letter_19 h (fun r1 M2 h => ?_)
      refine g_ifeq (tgt := 35) X dX11_letter_22 (by decide) h (fun h => ?_) (fun h => ?_)
      · refine g_bipush (v := (-104)) X dX11_letter_35 (by decide) ?_
        exact g_iret X hQ dX11_letter_37 h
      · refine g_aload_n X dX11_letter_25 rfl 0 rfl ?_
        refine fg_X11_10 X dX11_letter_26 ?_
        refine fg_X11_71 X dX11_letter_29 ?_
        refine g_goto (tgt := 37) X dX11_letter_32 (by decide) ?_
        exact g_iret X hQ dX11_letter_37 h
    · refine g_bipush (v := (-102)) X dX11_letter_11 (by decide) ?_
      exact g_iret X hQ dX11_letter_13 h
theorem cw_X11_blank : CW yX11_blank cX11_blank 2 (some .int) 0 := ⟨m11, m10, Nat.le_of_ble_eq_true rfl, by decide +kernel⟩
def wp_X11_blank (Post : Int32 → Mem → Prop) (M : Mem) : Prop :=
 ∀ x1_1 : Int32, x1_1 = rd M 1 1 →
 ∀ M2 : Mem, M2 = wr M 1 1 0 →
 Post x1_1 M2
theorem w_X11_blank (E : Ek) (l : Launch) {M : Mem} {Post : Int32 → Mem → Prop} (h : wp_X11_blank Post M ) : ctI E l yX11_blank cX11_blank 2 (some .int) 1 [.ref (ad E 0)] M Post := by
  refine ct_of (by decide) (Nat.le_of_ble_eq_true rfl) (fun x X hQ => ?_)
  change G E x M 0 [(0, .ref (ad E 0))] []
  refine g_aload_n X dX11_blank_0 rfl 0 rfl ?_
  refine fg_X11_10 X dX11_blank_1 ?_
  refine fg_X11_71 X dX11_blank_4 ?_
  refine g_nm h (fun x1_1 h => ?_)
  refine g_istore_n (lv' := [(0, .ref (ad E 0)), (1, .int x1_1)]) X dX11_blank_7 rfl (Nat.le_of_ble_eq_true rfl) rfl rfl ?_
  refine g_aload_n X dX11_blank_8 rfl 0 rfl ?_
  refine fg_X11_10 X dX11_blank_9 ?_
  refine g_iconst (v := 0) X dX11_blank_12 (by decide) ?_
  refine fp_X11_71 X dX11_blank_13 h (fun M2 h => ?_)
  refine g_iload_n X dX11_blank_16 rfl 1 rfl ?_
  exact g_iret X hQ dX11_blank_17 h
theorem cw_X6_takesIf : CW yX6_takesIf cX6_takesIf 2 (some .boolean) 1 := ⟨m13, m3, Nat.le_of_ble_eq_true rfl, by decide +kernel⟩
def wp_X6_takesIf (Post : Int32 → Mem → Prop) (M : Mem) (v1 : Int32) : Prop :=
 ∀ M1 : Mem, M1 = wr M 1 5 ((rd M 1 5) + 1) →
 zb v1 ∧ Post v1 M1
theorem w_X6_takesIf (E : Ek) (l : Launch) {v1 : Int32} {M : Mem} {Post : Int32 → Mem → Prop} (h : wp_X6_takesIf Post M v1) : ctI E l yX6_takesIf cX6_takesIf 2 (some .boolean) 1 [.ref (ad E 1), .int v1] M Post := by
  refine ct_of (by decide) (Nat.le_of_ble_eq_true rfl) (fun x X hQ => ?_)
  change G E x M 0 [(0, .ref (ad E 1)), (1, .int v1)] []
  refine g_aload_n X dX6_takesIf_0 rfl 0 rfl ?_
  refine g_dup X dX6_takesIf_1 rfl ?_
  refine fg_X6_22 X dX6_takesIf_2 ?_
  refine g_iconst (v := 1) X dX6_takesIf_5 (by decide) ?_
  refine g_iadd X dX6_takesIf_6 ?_
  refine fp_X6_22 X dX6_takesIf_7 h (fun M1 h => ?_)
  refine g_iload_n X dX6_takesIf_10 rfl 1 rfl ?_
  exact g_zret X hQ dX6_takesIf_11 h
theorem cl_X6_63 {E : Ek} {x : MC} {cc : ByteArray} {nL hm pc : Nat} {M : Mem} {lv : List (Nat × Value)} {st : List Value} (X : Cx E x cc nL RX6 hm) {v1 : Int32} {Post : Int32 → Mem → Prop} (hr : 1 < hm) (hW : (st.map fun v => v.category).sum ≤ 8) (hd : decode cc pc = .ok (.invokevirtual 63, 3)) (h : wp_X6_takesIf Post M v1) (kk : ∀ r M1, Post r M1 → G E x M1 (pc + 3) lv (.int r :: st)) : G E x M pc lv (.int v1 :: .ref (ad E 1) :: st) := k_I (fun hP hS hL => run_V X (w_X6_takesIf E (xl x)  h) cw_X6_takesIf m20 m21 m22 (⟨by decide, fun E f h => ⟨_, _, _, rfl, rfl, rfl⟩⟩ : OC 1 RX6) hr rfl hd hW hP hS hL) kk
theorem cw_X6_opens : CW yX6_opens cX6_opens 2 (some .boolean) 1 := ⟨m15, m3, Nat.le_of_ble_eq_true rfl, by decide +kernel⟩
def wp_X6_opens (Post : Int32 → Mem → Prop) (M : Mem) (v1 : Int32) : Prop :=
 ∀ M1 : Mem, M1 = wr M 1 4 v1 →
 ∀ M2 : Mem, M2 = wr M1 1 5 0 →
 Post 1 M2
theorem w_X6_opens (E : Ek) (l : Launch) {v1 : Int32} {M : Mem} {Post : Int32 → Mem → Prop} (h : wp_X6_opens Post M v1) : ctI E l yX6_opens cX6_opens 2 (some .boolean) 1 [.ref (ad E 1), .int v1] M Post := by
  refine ct_of (by decide) (Nat.le_of_ble_eq_true rfl) (fun x X hQ => ?_)
  change G E x M 0 [(0, .ref (ad E 1)), (1, .int v1)] []
  refine g_aload_n X dX6_opens_0 rfl 0 rfl ?_
  refine g_iload_n X dX6_opens_1 rfl 1 rfl ?_
  refine fp_X6_19 X dX6_opens_2 h (fun M1 h => ?_)
  refine g_aload_n X dX6_opens_5 rfl 0 rfl ?_
  refine g_iconst (v := 0) X dX6_opens_6 (by decide) ?_
  refine fp_X6_22 X dX6_opens_7 h (fun M2 h => ?_)
  refine g_iconst (v := 1) X dX6_opens_10 (by decide) ?_
  exact g_zret X hQ dX6_opens_11 ⟨Or.inr rfl, h⟩
theorem cl_X6_67 {E : Ek} {x : MC} {cc : ByteArray} {nL hm pc : Nat} {M : Mem} {lv : List (Nat × Value)} {st : List Value} (X : Cx E x cc nL RX6 hm) {v1 : Int32} {Post : Int32 → Mem → Prop} (hr : 1 < hm) (hW : (st.map fun v => v.category).sum ≤ 8) (hd : decode cc pc = .ok (.invokevirtual 67, 3)) (h : wp_X6_opens Post M v1) (kk : ∀ r M1, Post r M1 → G E x M1 (pc + 3) lv (.int r :: st)) : G E x M pc lv (.int v1 :: .ref (ad E 1) :: st) := k_I (fun hP hS hL => run_V X (w_X6_opens E (xl x)  h) cw_X6_opens m16 m17 m18 (⟨by decide, fun E f h => ⟨_, _, _, rfl, rfl, rfl⟩⟩ : OC 1 RX6) hr rfl hd hW hP hS hL) kk
theorem cw_X6_takesInRooms : CW yX6_takesInRooms cX6_takesInRooms 2 (some .boolean) 1 := ⟨m23, m3, Nat.le_of_ble_eq_true rfl, by decide +kernel⟩
def wp_X6_takesInRooms (Post : Int32 → Mem → Prop) (M : Mem) (v1 : Int32) : Prop :=
 (¬ (rd M 1 5) = 0 →
  (¬ v1 = 59 →
   Post 0 M) ∧
  (v1 = 59 →
   wp_X6_opens (fun r1 M2 =>
    (r1 = 0 →
     Post 0 M2) ∧
    (¬ r1 = 0 →
     Post 1 M2)) M 1)) ∧
 ((rd M 1 5) = 0 →
  ∀ M3 : Mem, M3 = wr M 1 7 (v1 - 48) →
  ((rd M3 1 7) < 2 →
   wp_X6_takesIf (fun r4 M5 =>
    zb r4 ∧ Post r4 M5) M3 0) ∧
  (¬ (rd M3 1 7) < 2 →
   (6 < (rd M3 1 7) →
    wp_X6_takesIf (fun r6 M7 =>
     zb r6 ∧ Post r6 M7) M3 0) ∧
   (¬ 6 < (rd M3 1 7) →
    wp_X6_takesIf (fun r8 M9 =>
     zb r8 ∧ Post r8 M9) M3 1)))
theorem w_X6_takesInRooms (E : Ek) (l : Launch) {v1 : Int32} {M : Mem} {Post : Int32 → Mem → Prop} (h : wp_X6_takesInRooms Post M v1) : ctI E l yX6_takesInRooms cX6_takesInRooms 2 (some .boolean) 2 [.ref (ad E 1), .int v1] M Post := by
  refine ct_of (by decide) (Nat.le_of_ble_eq_true rfl) (fun x X hQ => ?_)
  change G E x M 0 [(0, .ref (ad E 1)), (1, .int v1)] []
  refine g_aload_n X dX6_takesInRooms_0 rfl 0 rfl ?_
  refine fg_X6_22 X dX6_takesInRooms_1 ?_
  refine g_ifne (tgt := 42) X dX6_takesInRooms_4 (by decide) h (fun h => ?_) (fun h => ?_)
  · refine g_iload_n X dX6_takesInRooms_42 rfl 1 rfl ?_
    refine g_bipush (v := 59) X dX6_takesInRooms_43 (by decide) ?_
    refine g_icmpne (tgt := 60) X dX6_takesInRooms_45 (by decide) h (fun h => ?_) (fun h => ?_)
    · refine g_iconst (v := 0) X dX6_takesInRooms_60 (by decide) ?_
      exact g_zret X hQ dX6_takesInRooms_61 ⟨Or.inl rfl, h⟩
    · refine g_aload_n X dX6_takesInRooms_48 rfl 0 rfl ?_
      refine g_iconst (v := 1) X dX6_takesInRooms_49 (by decide) ?_
      refine cl_X6_67 X (by decide) (Nat.le_of_ble_eq_true rfl) dX6_takesInRooms_50 h (fun r1 M2 h => ?_)
      refine g_ifeq (tgt := 60) X dX6_takesInRooms_53 (by decide) h (fun h => ?_) (fun h => ?_)
      · refine g_iconst (v := 0) X dX6_takesInRooms_60 (by decide) ?_
        exact g_zret X hQ dX6_takesInRooms_61 ⟨Or.inl rfl, h⟩
      · refine g_iconst (v := 1) X dX6_takesInRooms_56 (by decide) ?_
        refine g_goto (tgt := 61) X dX6_takesInRooms_57 (by decide) ?_
        exact g_zret X hQ dX6_takesInRooms_61 ⟨Or.inr rfl, h⟩
  · refine g_aload_n X dX6_takesInRooms_7 rfl 0 rfl ?_
    refine g_iload_n X dX6_takesInRooms_8 rfl 1 rfl ?_
    refine g_bipush (v := 48) X dX6_takesInRooms_9 (by decide) ?_
    refine g_isub X dX6_takesInRooms_11 ?_
    refine fp_X6_28 X dX6_takesInRooms_12 h (fun M3 h => ?_)
    refine g_aload_n X dX6_takesInRooms_15 rfl 0 rfl ?_
    refine g_aload_n X dX6_takesInRooms_16 rfl 0 rfl ?_
    refine fg_X6_28 X dX6_takesInRooms_17 ?_
    refine g_iconst (v := 2) X dX6_takesInRooms_20 (by decide) ?_
    refine g_icmplt (tgt := 37) X dX6_takesInRooms_21 (by decide) h (fun h => ?_) (fun h => ?_)
    · refine g_iconst (v := 0) X dX6_takesInRooms_37 (by decide) ?_
      refine cl_X6_63 X (by decide) (Nat.le_of_ble_eq_true rfl) dX6_takesInRooms_38 h (fun r4 M5 h => ?_)
      exact g_zret X hQ dX6_takesInRooms_41 h
    · refine g_aload_n X dX6_takesInRooms_24 rfl 0 rfl ?_
      refine fg_X6_28 X dX6_takesInRooms_25 ?_
      refine g_bipush (v := 6) X dX6_takesInRooms_28 (by decide) ?_
      refine g_icmpgt (tgt := 37) X dX6_takesInRooms_30 (by decide) h (fun h => ?_) (fun h => ?_)
      · refine g_iconst (v := 0) X dX6_takesInRooms_37 (by decide) ?_
        refine cl_X6_63 X (by decide) (Nat.le_of_ble_eq_true rfl) dX6_takesInRooms_38 h (fun r6 M7 h => ?_)
        exact g_zret X hQ dX6_takesInRooms_41 h
      · refine g_iconst (v := 1) X dX6_takesInRooms_33 (by decide) ?_
        refine g_goto (tgt := 38) X dX6_takesInRooms_34 (by decide) ?_
        refine cl_X6_63 X (by decide) (Nat.le_of_ble_eq_true rfl) dX6_takesInRooms_38 h (fun r8 M9 h => ?_)
        exact g_zret X hQ dX6_takesInRooms_41 h
theorem cw_X6_isDigitBelow : CW yX6_isDigitBelow cX6_isDigitBelow 2 (some .boolean) 2 := ⟨m24, m3, Nat.le_of_ble_eq_true rfl, by decide +kernel⟩
def wp_X6_isDigitBelow (Post : Int32 → Mem → Prop) (M : Mem) (v0 : Int32) (v1 : Int32) : Prop :=
 (v0 < 48 →
  Post 0 M) ∧
 (¬ v0 < 48 →
  (v1 ≤ (v0 - 48) →
   Post 0 M) ∧
  (¬ v1 ≤ (v0 - 48) →
   Post 1 M))
theorem w_X6_isDigitBelow (E : Ek) (l : Launch) {v0 : Int32} {v1 : Int32} {M : Mem} {Post : Int32 → Mem → Prop} (h : wp_X6_isDigitBelow Post M v0 v1) : ctI E l yX6_isDigitBelow cX6_isDigitBelow 2 (some .boolean) 1 [.int v0, .int v1] M Post := by
  refine ct_of (by decide) (Nat.le_of_ble_eq_true rfl) (fun x X hQ => ?_)
  change G E x M 0 [(0, .int v0), (1, .int v1)] []
  refine g_iload_n X dX6_isDigitBelow_0 rfl 0 rfl ?_
  refine g_bipush (v := 48) X dX6_isDigitBelow_1 (by decide) ?_
  refine g_icmplt (tgt := 18) X dX6_isDigitBelow_3 (by decide) h (fun h => ?_) (fun h => ?_)
  · refine g_iconst (v := 0) X dX6_isDigitBelow_18 (by decide) ?_
    exact g_zret X hQ dX6_isDigitBelow_19 ⟨Or.inl rfl, h⟩
  · refine g_iload_n X dX6_isDigitBelow_6 rfl 0 rfl ?_
    refine g_bipush (v := 48) X dX6_isDigitBelow_7 (by decide) ?_
    refine g_isub X dX6_isDigitBelow_9 ?_
    refine g_iload_n X dX6_isDigitBelow_10 rfl 1 rfl ?_
    refine g_icmpge (tgt := 18) X dX6_isDigitBelow_11 (by decide) h (fun h => ?_) (fun h => ?_)
    · refine g_iconst (v := 0) X dX6_isDigitBelow_18 (by decide) ?_
      exact g_zret X hQ dX6_isDigitBelow_19 ⟨Or.inl rfl, h⟩
    · refine g_iconst (v := 1) X dX6_isDigitBelow_14 (by decide) ?_
      refine g_goto (tgt := 19) X dX6_isDigitBelow_15 (by decide) ?_
      exact g_zret X hQ dX6_isDigitBelow_19 ⟨Or.inr rfl, h⟩
theorem cl_X6_88 {E : Ek} {x : MC} {cc : ByteArray} {nL hm pc : Nat} {M : Mem} {lv : List (Nat × Value)} {st : List Value} (X : Cx E x cc nL RX6 hm) {v0 : Int32} {v1 : Int32} {Post : Int32 → Mem → Prop} (hr : 1 < hm) (hW : (st.map fun v => v.category).sum ≤ 8) (hd : decode cc pc = .ok (.invokestatic 88, 3)) (h : wp_X6_isDigitBelow Post M v0 v1) (kk : ∀ r M1, Post r M1 → G E x M1 (pc + 3) lv (.int r :: st)) : G E x M pc lv (.int v1 :: .int v0 :: st) := k_I (fun hP hS hL => run_S X (w_X6_isDigitBelow E (xl x)  h) cw_X6_isDigitBelow m26 m27 hr rfl hd hW hP hS hL) kk
theorem cw_X6_takesFirst : CW yX6_takesFirst cX6_takesFirst 3 (some .boolean) 2 := ⟨m28, m3, Nat.le_of_ble_eq_true rfl, by decide +kernel⟩
def wp_X6_takesFirst (Post : Int32 → Mem → Prop) (M : Mem) (v1 : Int32) (v2 : Int32) : Prop :=
 ∀ M1 : Mem, M1 = wr M 1 6 (v1 - 48) →
 wp_X6_isDigitBelow (fun r2 M3 =>
  wp_X6_takesIf (fun r4 M5 =>
   zb r4 ∧ Post r4 M5) M3 r2) M1 v1 v2
theorem w_X6_takesFirst (E : Ek) (l : Launch) {v1 : Int32} {v2 : Int32} {M : Mem} {Post : Int32 → Mem → Prop} (h : wp_X6_takesFirst Post M v1 v2) : ctI E l yX6_takesFirst cX6_takesFirst 3 (some .boolean) 2 [.ref (ad E 1), .int v1, .int v2] M Post := by
  refine ct_of (by decide) (Nat.le_of_ble_eq_true rfl) (fun x X hQ => ?_)
  change G E x M 0 [(0, .ref (ad E 1)), (1, .int v1), (2, .int v2)] []
  refine g_aload_n X dX6_takesFirst_0 rfl 0 rfl ?_
  refine g_iload_n X dX6_takesFirst_1 rfl 1 rfl ?_
  refine g_bipush (v := 48) X dX6_takesFirst_2 (by decide) ?_
  refine g_isub X dX6_takesFirst_4 ?_
  refine fp_X6_25 X dX6_takesFirst_5 h (fun M1 h => ?_)
  refine g_aload_n X dX6_takesFirst_8 rfl 0 rfl ?_
  refine g_iload_n X dX6_takesFirst_9 rfl 1 rfl ?_
  refine g_iload_n X dX6_takesFirst_10 rfl 2 rfl ?_
  refine cl_X6_88 X (by decide) (Nat.le_of_ble_eq_true rfl) dX6_takesFirst_11 h (fun r2 M3 h => ?_)
  refine cl_X6_63 X (by decide) (Nat.le_of_ble_eq_true rfl) dX6_takesFirst_14 h (fun r4 M5 h => ?_)
  exact g_zret X hQ dX6_takesFirst_17 h
theorem cl_X6_71 {E : Ek} {x : MC} {cc : ByteArray} {nL hm pc : Nat} {M : Mem} {lv : List (Nat × Value)} {st : List Value} (X : Cx E x cc nL RX6 hm) {v1 : Int32} {v2 : Int32} {Post : Int32 → Mem → Prop} (hr : 2 < hm) (hW : (st.map fun v => v.category).sum ≤ 8) (hd : decode cc pc = .ok (.invokevirtual 71, 3)) (h : wp_X6_takesFirst Post M v1 v2) (kk : ∀ r M1, Post r M1 → G E x M1 (pc + 3) lv (.int r :: st)) : G E x M pc lv (.int v2 :: .int v1 :: .ref (ad E 1) :: st) := k_I (fun hP hS hL => run_V X (w_X6_takesFirst E (xl x)  h) cw_X6_takesFirst m31 m32 m33 (⟨by decide, fun E f h => ⟨_, _, _, rfl, rfl, rfl⟩⟩ : OC 1 RX6) hr rfl hd hW hP hS hL) kk
theorem cw_X6_takesOther : CW yX6_takesOther cX6_takesOther 3 (some .boolean) 2 := ⟨m29, m3, Nat.le_of_ble_eq_true rfl, by decide +kernel⟩
def wp_X6_takesOther (Post : Int32 → Mem → Prop) (M : Mem) (v1 : Int32) (v2 : Int32) : Prop :=
 wp_X6_isDigitBelow (fun r1 M2 =>
  (r1 = 0 →
   wp_X6_takesIf (fun r3 M4 =>
    zb r3 ∧ Post r3 M4) M2 0) ∧
  (¬ r1 = 0 →
   ((v1 - 48) = (rd M2 1 6) →
    wp_X6_takesIf (fun r5 M6 =>
     zb r5 ∧ Post r5 M6) M2 0) ∧
   (¬ (v1 - 48) = (rd M2 1 6) →
    wp_X6_takesIf (fun r7 M8 =>
     zb r7 ∧ Post r7 M8) M2 1))) M v1 v2
theorem w_X6_takesOther (E : Ek) (l : Launch) {v1 : Int32} {v2 : Int32} {M : Mem} {Post : Int32 → Mem → Prop} (h : wp_X6_takesOther Post M v1 v2) : ctI E l yX6_takesOther cX6_takesOther 3 (some .boolean) 2 [.ref (ad E 1), .int v1, .int v2] M Post := by
  refine ct_of (by decide) (Nat.le_of_ble_eq_true rfl) (fun x X hQ => ?_)
  change G E x M 0 [(0, .ref (ad E 1)), (1, .int v1), (2, .int v2)] []
  refine g_aload_n X dX6_takesOther_0 rfl 0 rfl ?_
  refine g_iload_n X dX6_takesOther_1 rfl 1 rfl ?_
  refine g_iload_n X dX6_takesOther_2 rfl 2 rfl ?_
  refine cl_X6_88 X (by decide) (Nat.le_of_ble_eq_true rfl) dX6_takesOther_3 h (fun r1 M2 h => ?_)
  refine g_ifeq (tgt := 24) X dX6_takesOther_6 (by decide) h (fun h => ?_) (fun h => ?_)
  · refine g_iconst (v := 0) X dX6_takesOther_24 (by decide) ?_
    refine cl_X6_63 X (by decide) (Nat.le_of_ble_eq_true rfl) dX6_takesOther_25 h (fun r3 M4 h => ?_)
    exact g_zret X hQ dX6_takesOther_28 h
  · refine g_iload_n X dX6_takesOther_9 rfl 1 rfl ?_
    refine g_bipush (v := 48) X dX6_takesOther_10 (by decide) ?_
    refine g_isub X dX6_takesOther_12 ?_
    refine g_aload_n X dX6_takesOther_13 rfl 0 rfl ?_
    refine fg_X6_25 X dX6_takesOther_14 ?_
    refine g_icmpeq (tgt := 24) X dX6_takesOther_17 (by decide) h (fun h => ?_) (fun h => ?_)
    · refine g_iconst (v := 0) X dX6_takesOther_24 (by decide) ?_
      refine cl_X6_63 X (by decide) (Nat.le_of_ble_eq_true rfl) dX6_takesOther_25 h (fun r5 M6 h => ?_)
      exact g_zret X hQ dX6_takesOther_28 h
    · refine g_iconst (v := 1) X dX6_takesOther_20 (by decide) ?_
      refine g_goto (tgt := 25) X dX6_takesOther_21 (by decide) ?_
      refine cl_X6_63 X (by decide) (Nat.le_of_ble_eq_true rfl) dX6_takesOther_25 h (fun r7 M8 h => ?_)
      exact g_zret X hQ dX6_takesOther_28 h
theorem cl_X6_75 {E : Ek} {x : MC} {cc : ByteArray} {nL hm pc : Nat} {M : Mem} {lv : List (Nat × Value)} {st : List Value} (X : Cx E x cc nL RX6 hm) {v1 : Int32} {v2 : Int32} {Post : Int32 → Mem → Prop} (hr : 2 < hm) (hW : (st.map fun v => v.category).sum ≤ 8) (hd : decode cc pc = .ok (.invokevirtual 75, 3)) (h : wp_X6_takesOther Post M v1 v2) (kk : ∀ r M1, Post r M1 → G E x M1 (pc + 3) lv (.int r :: st)) : G E x M pc lv (.int v2 :: .int v1 :: .ref (ad E 1) :: st) := k_I (fun hP hS hL => run_V X (w_X6_takesOther E (xl x)  h) cw_X6_takesOther m34 m35 m36 (⟨by decide, fun E f h => ⟨_, _, _, rfl, rfl, rfl⟩⟩ : OC 1 RX6) hr rfl hd hW hP hS hL) kk
theorem cw_X6_takesInDebts : CW yX6_takesInDebts cX6_takesInDebts 2 (some .boolean) 1 := ⟨m38, m3, Nat.le_of_ble_eq_true rfl, by decide +kernel⟩
def wp_X6_takesInDebts (Post : Int32 → Mem → Prop) (M : Mem) (v1 : Int32) : Prop :=
 ((rd M 1 5) = 0 →
  wp_X6_takesFirst (fun r1 M2 =>
   zb r1 ∧ Post r1 M2) M v1 (rd M 1 9)) ∧
 ((rd M 1 5) = 1 →
  wp_X6_takesOther (fun r3 M4 =>
   zb r3 ∧ Post r3 M4) M v1 (rd M 1 9)) ∧
 ((rd M 1 5) = 2 →
  wp_X6_isDigitBelow (fun r5 M6 =>
   wp_X6_takesIf (fun r7 M8 =>
    zb r7 ∧ Post r7 M8) M6 r5) M v1 (rd M 1 7)) ∧
 ((rd M 1 5) = 3 →
  ∀ M9 : Mem, M9 = wr M 1 10 ((rd M 1 10) + 1) →
  (v1 = 48 →
   wp_X6_takesIf (fun r10 M11 =>
    zb r10 ∧ Post r10 M11) M9 0) ∧
  (¬ v1 = 48 →
   wp_X6_isDigitBelow (fun r12 M13 =>
    (r12 = 0 →
     wp_X6_takesIf (fun r14 M15 =>
      zb r14 ∧ Post r14 M15) M13 0) ∧
    (¬ r12 = 0 →
     wp_X6_takesIf (fun r16 M17 =>
      zb r16 ∧ Post r16 M17) M13 1)) M9 v1 10)) ∧
 (¬ (rd M 1 5) = 0 → ¬ (rd M 1 5) = 1 → ¬ (rd M 1 5) = 2 → ¬ (rd M 1 5) = 3 → 
  (¬ v1 = 44 →
   Post 0 M) ∧
  (v1 = 44 →
   (4 ≤ (rd M 1 10) →
    Post 0 M) ∧
   (¬ 4 ≤ (rd M 1 10) →
    wp_X6_opens (fun r18 M19 =>
     (r18 = 0 →
      Post 0 M19) ∧
     (¬ r18 = 0 →
      Post 1 M19)) M 3)))
theorem w_X6_takesInDebts (E : Ek) (l : Launch) {v1 : Int32} {M : Mem} {Post : Int32 → Mem → Prop} (h : wp_X6_takesInDebts Post M v1) : ctI E l yX6_takesInDebts cX6_takesInDebts 2 (some .boolean) 3 [.ref (ad E 1), .int v1] M Post := by
  refine ct_of (by decide) (Nat.le_of_ble_eq_true rfl) (fun x X hQ => ?_)
  change G E x M 0 [(0, .ref (ad E 1)), (1, .int v1)] []
  refine g_aload_n X dX6_takesInDebts_0 rfl 0 rfl ?_
  refine fg_X6_22 X dX6_takesInDebts_1 ?_
  by_cases c0 : (rd M 1 5) = 0
  · have h := h.1 c0
    refine g_tabI (tgt := 36) X dX6_takesInDebts_4 c0 ⟨⟨by decide, by decide⟩, rfl⟩ (by decide) ?_
    refine g_aload_n X dX6_takesInDebts_36 rfl 0 rfl ?_
    refine g_iload_n X dX6_takesInDebts_37 rfl 1 rfl ?_
    refine g_aload_n X dX6_takesInDebts_38 rfl 0 rfl ?_
    refine fg_X6_34 X dX6_takesInDebts_39 ?_
    refine cl_X6_71 X (by decide) (Nat.le_of_ble_eq_true rfl) dX6_takesInDebts_42 h (fun r1 M2 h => ?_)
    exact g_zret X hQ dX6_takesInDebts_45 h
  by_cases c1 : (rd M 1 5) = 1
  · have h := h.2.1 c1
    refine g_tabI (tgt := 46) X dX6_takesInDebts_4 c1 ⟨⟨by decide, by decide⟩, rfl⟩ (by decide) ?_
    refine g_aload_n X dX6_takesInDebts_46 rfl 0 rfl ?_
    refine g_iload_n X dX6_takesInDebts_47 rfl 1 rfl ?_
    refine g_aload_n X dX6_takesInDebts_48 rfl 0 rfl ?_
    refine fg_X6_34 X dX6_takesInDebts_49 ?_
    refine cl_X6_75 X (by decide) (Nat.le_of_ble_eq_true rfl) dX6_takesInDebts_52 h (fun r3 M4 h => ?_)
    exact g_zret X hQ dX6_takesInDebts_55 h
  by_cases c2 : (rd M 1 5) = 2
  · have h := h.2.2.1 c2
    refine g_tabI (tgt := 56) X dX6_takesInDebts_4 c2 ⟨⟨by decide, by decide⟩, rfl⟩ (by decide) ?_
    refine g_aload_n X dX6_takesInDebts_56 rfl 0 rfl ?_
    refine g_iload_n X dX6_takesInDebts_57 rfl 1 rfl ?_
    refine g_aload_n X dX6_takesInDebts_58 rfl 0 rfl ?_
    refine fg_X6_28 X dX6_takesInDebts_59 ?_
    refine cl_X6_88 X (by decide) (Nat.le_of_ble_eq_true rfl) dX6_takesInDebts_62 h (fun r5 M6 h => ?_)
    refine cl_X6_63 X (by decide) (Nat.le_of_ble_eq_true rfl) dX6_takesInDebts_65 h (fun r7 M8 h => ?_)
    exact g_zret X hQ dX6_takesInDebts_68 h
  by_cases c3 : (rd M 1 5) = 3
  · have h := h.2.2.2.1 c3
    refine g_tabI (tgt := 69) X dX6_takesInDebts_4 c3 ⟨⟨by decide, by decide⟩, rfl⟩ (by decide) ?_
    refine g_aload_n X dX6_takesInDebts_69 rfl 0 rfl ?_
    refine g_dup X dX6_takesInDebts_70 rfl ?_
    refine fg_X6_37 X dX6_takesInDebts_71 ?_
    refine g_iconst (v := 1) X dX6_takesInDebts_74 (by decide) ?_
    refine g_iadd X dX6_takesInDebts_75 ?_
    refine fp_X6_37 X dX6_takesInDebts_76 h (fun M9 h => ?_)
    refine g_aload_n X dX6_takesInDebts_79 rfl 0 rfl ?_
    refine g_iload_n X dX6_takesInDebts_80 rfl 1 rfl ?_
    refine g_bipush (v := 48) X dX6_takesInDebts_81 (by decide) ?_
    refine g_icmpeq (tgt := 99) X dX6_takesInDebts_83 (by decide) h (fun h => ?_) (fun h => ?_)
    · refine g_iconst (v := 0) X dX6_takesInDebts_99 (by decide) ?_
      refine cl_X6_63 X (by decide) (Nat.le_of_ble_eq_true rfl) dX6_takesInDebts_100 h (fun r10 M11 h => ?_)
      exact g_zret X hQ dX6_takesInDebts_103 h
    · refine g_iload_n X dX6_takesInDebts_86 rfl 1 rfl ?_
      refine g_bipush (v := 10) X dX6_takesInDebts_87 (by decide) ?_
      refine cl_X6_88 X (by decide) (Nat.le_of_ble_eq_true rfl) dX6_takesInDebts_89 h (fun r12 M13 h => ?_)
      refine g_ifeq (tgt := 99) X dX6_takesInDebts_92 (by decide) h (fun h => ?_) (fun h => ?_)
      · refine g_iconst (v := 0) X dX6_takesInDebts_99 (by decide) ?_
        refine cl_X6_63 X (by decide) (Nat.le_of_ble_eq_true rfl) dX6_takesInDebts_100 h (fun r14 M15 h => ?_)
        exact g_zret X hQ dX6_takesInDebts_103 h
      · refine g_iconst (v := 1) X dX6_takesInDebts_95 (by decide) ?_
        refine g_goto (tgt := 100) X dX6_takesInDebts_96 (by decide) ?_
        refine cl_X6_63 X (by decide) (Nat.le_of_ble_eq_true rfl) dX6_takesInDebts_100 h (fun r16 M17 h => ?_)
        exact g_zret X hQ dX6_takesInDebts_103 h
  have h := h.2.2.2.2 c0 c1 c2 c3
  refine g_tabO (tgt := 104) X dX6_takesInDebts_4 (by have e0 := lv_neT (a := 0) c0 (by decide); have e1 := lv_neT (a := 1) c1 (by decide); have e2 := lv_neT (a := 2) c2 (by decide); have e3 := lv_neT (a := 3) c3 (by decide); omega) (by decide) ?_
  refine g_iload_n X dX6_takesInDebts_104 rfl 1 rfl ?_
  refine g_bipush (v := 44) X dX6_takesInDebts_105 (by decide) ?_
  refine g_icmpne (tgt := 130) X dX6_takesInDebts_107 (by decide) h (fun h => ?_) (fun h => ?_)
  · refine g_iconst (v := 0) X dX6_takesInDebts_130 (by decide) ?_
    exact g_zret X hQ dX6_takesInDebts_131 ⟨Or.inl rfl, h⟩
  · refine g_aload_n X dX6_takesInDebts_110 rfl 0 rfl ?_
    refine fg_X6_37 X dX6_takesInDebts_111 ?_
    refine g_iconst (v := 4) X dX6_takesInDebts_114 (by decide) ?_
    refine g_icmpge (tgt := 130) X dX6_takesInDebts_115 (by decide) h (fun h => ?_) (fun h => ?_)
    · refine g_iconst (v := 0) X dX6_takesInDebts_130 (by decide) ?_
      exact g_zret X hQ dX6_takesInDebts_131 ⟨Or.inl rfl, h⟩
    · refine g_aload_n X dX6_takesInDebts_118 rfl 0 rfl ?_
      refine g_iconst (v := 3) X dX6_takesInDebts_119 (by decide) ?_
      refine cl_X6_67 X (by decide) (Nat.le_of_ble_eq_true rfl) dX6_takesInDebts_120 h (fun r18 M19 h => ?_)
      refine g_ifeq (tgt := 130) X dX6_takesInDebts_123 (by decide) h (fun h => ?_) (fun h => ?_)
      · refine g_iconst (v := 0) X dX6_takesInDebts_130 (by decide) ?_
        exact g_zret X hQ dX6_takesInDebts_131 ⟨Or.inl rfl, h⟩
      · refine g_iconst (v := 1) X dX6_takesInDebts_126 (by decide) ?_
        refine g_goto (tgt := 131) X dX6_takesInDebts_127 (by decide) ?_
        exact g_zret X hQ dX6_takesInDebts_131 ⟨Or.inr rfl, h⟩
theorem cw_X6_digitAt : CW yX6_digitAt cX6_digitAt 2 (some .int) 1 := ⟨m39, m3, Nat.le_of_ble_eq_true rfl, by decide +kernel⟩
def wp_X6_digitAt (Post : Int32 → Mem → Prop) (M : Mem) (v1 : Int32) : Prop :=
 (v1 < 0 →
  Post 0 M) ∧
 (¬ v1 < 0 →
  (64 ≤ v1 →
   Post 0 M) ∧
  (¬ 64 ≤ v1 →
   vp_in v1 64 ∧
   Post ((rd M 2 v1.toNatClampNeg) - 48) M))
theorem w_X6_digitAt (E : Ek) (l : Launch) {v1 : Int32} {M : Mem} {Post : Int32 → Mem → Prop} (h : wp_X6_digitAt Post M v1) : ctI E l yX6_digitAt cX6_digitAt 2 (some .int) 1 [.ref (ad E 1), .int v1] M Post := by
  refine ct_of (by decide) (Nat.le_of_ble_eq_true rfl) (fun x X hQ => ?_)
  change G E x M 0 [(0, .ref (ad E 1)), (1, .int v1)] []
  refine g_iload_n X dX6_digitAt_0 rfl 1 rfl ?_
  refine g_iflt (tgt := 22) X dX6_digitAt_1 (by decide) h (fun h => ?_) (fun h => ?_)
  · refine g_iconst (v := 0) X dX6_digitAt_22 (by decide) ?_
    exact g_iret X hQ dX6_digitAt_23 h
  · refine g_iload_n X dX6_digitAt_4 rfl 1 rfl ?_
    refine g_bipush (v := 64) X dX6_digitAt_5 (by decide) ?_
    refine g_icmpge (tgt := 22) X dX6_digitAt_7 (by decide) h (fun h => ?_) (fun h => ?_)
    · refine g_iconst (v := 0) X dX6_digitAt_22 (by decide) ?_
      exact g_iret X hQ dX6_digitAt_23 h
    · refine g_aload_n X dX6_digitAt_10 rfl 0 rfl ?_
      refine fg_X6_9 X dX6_digitAt_11 ?_
      refine g_iload_n X dX6_digitAt_14 rfl 1 rfl ?_
      refine g_iald X ia_2 dX6_digitAt_15 h (fun h => ?_)
      refine g_bipush (v := 48) X dX6_digitAt_16 (by decide) ?_
      refine g_isub X dX6_digitAt_18 ?_
      refine g_goto (tgt := 23) X dX6_digitAt_19 (by decide) ?_
      exact g_iret X hQ dX6_digitAt_23 h
theorem cl_X6_104 {E : Ek} {x : MC} {cc : ByteArray} {nL hm pc : Nat} {M : Mem} {lv : List (Nat × Value)} {st : List Value} (X : Cx E x cc nL RX6 hm) {v1 : Int32} {Post : Int32 → Mem → Prop} (hr : 1 < hm) (hW : (st.map fun v => v.category).sum ≤ 8) (hd : decode cc pc = .ok (.invokevirtual 104, 3)) (h : wp_X6_digitAt Post M v1) (kk : ∀ r M1, Post r M1 → G E x M1 (pc + 3) lv (.int r :: st)) : G E x M pc lv (.int v1 :: .ref (ad E 1) :: st) := k_I (fun hP hS hL => run_V X (w_X6_digitAt E (xl x)  h) cw_X6_digitAt m47 m48 m49 (⟨by decide, fun E f h => ⟨_, _, _, rfl, rfl, rfl⟩⟩ : OC 1 RX6) hr rfl hd hW hP hS hL) kk
theorem cw_X6_peopleAt : CW yX6_peopleAt cX6_peopleAt 1 (some .int) 0 := ⟨m41, m3, Nat.le_of_ble_eq_true rfl, by decide +kernel⟩
def wp_X6_peopleAt (Post : Int32 → Mem → Prop) (M : Mem) : Prop :=
 Post ((2 : Int32) + ((4 : Int32) * (rd M 1 8))) M
theorem w_X6_peopleAt (E : Ek) (l : Launch) {M : Mem} {Post : Int32 → Mem → Prop} (h : wp_X6_peopleAt Post M ) : ctI E l yX6_peopleAt cX6_peopleAt 1 (some .int) 1 [.ref (ad E 1)] M Post := by
  refine ct_of (by decide) (Nat.le_of_ble_eq_true rfl) (fun x X hQ => ?_)
  change G E x M 0 [(0, .ref (ad E 1))] []
  refine g_iconst (v := 2) X dX6_peopleAt_0 (by decide) ?_
  refine g_iconst (v := 4) X dX6_peopleAt_1 (by decide) ?_
  refine g_aload_n X dX6_peopleAt_2 rfl 0 rfl ?_
  refine fg_X6_31 X dX6_peopleAt_3 ?_
  refine g_imul X dX6_peopleAt_6 ?_
  refine g_iadd X dX6_peopleAt_7 ?_
  exact g_iret X hQ dX6_peopleAt_8 h
theorem cl_X6_91 {E : Ek} {x : MC} {cc : ByteArray} {nL hm pc : Nat} {M : Mem} {lv : List (Nat × Value)} {st : List Value} (X : Cx E x cc nL RX6 hm) {Post : Int32 → Mem → Prop} (hr : 1 < hm) (hW : (st.map fun v => v.category).sum ≤ 8) (hd : decode cc pc = .ok (.invokevirtual 91, 3)) (h : wp_X6_peopleAt Post M ) (kk : ∀ r M1, Post r M1 → G E x M1 (pc + 3) lv (.int r :: st)) : G E x M pc lv (.ref (ad E 1) :: st) := k_I (fun hP hS hL => run_V X (w_X6_peopleAt E (xl x)  h) cw_X6_peopleAt m42 m43 m44 (⟨by decide, fun E f h => ⟨_, _, _, rfl, rfl, rfl⟩⟩ : OC 1 RX6) hr rfl hd hW hP hS hL) kk
theorem cw_X6_debtsAt : CW yX6_debtsAt cX6_debtsAt 1 (some .int) 0 := ⟨m45, m3, Nat.le_of_ble_eq_true rfl, by decide +kernel⟩
def wp_X6_debtsAt (Post : Int32 → Mem → Prop) (M : Mem) : Prop :=
 wp_X6_peopleAt (fun r1 M2 =>
  Post (r1 + ((4 : Int32) * (rd M2 1 9))) M2) M 
theorem w_X6_debtsAt (E : Ek) (l : Launch) {M : Mem} {Post : Int32 → Mem → Prop} (h : wp_X6_debtsAt Post M ) : ctI E l yX6_debtsAt cX6_debtsAt 1 (some .int) 2 [.ref (ad E 1)] M Post := by
  refine ct_of (by decide) (Nat.le_of_ble_eq_true rfl) (fun x X hQ => ?_)
  change G E x M 0 [(0, .ref (ad E 1))] []
  refine g_aload_n X dX6_debtsAt_0 rfl 0 rfl ?_
  refine cl_X6_91 X (by decide) (Nat.le_of_ble_eq_true rfl) dX6_debtsAt_1 h (fun r1 M2 h => ?_)
  refine g_iconst (v := 4) X dX6_debtsAt_4 (by decide) ?_
  refine g_aload_n X dX6_debtsAt_5 rfl 0 rfl ?_
  refine fg_X6_34 X dX6_debtsAt_6 ?_
  refine g_imul X dX6_debtsAt_9 ?_
  refine g_iadd X dX6_debtsAt_10 ?_
  exact g_iret X hQ dX6_debtsAt_11 h
theorem cl_X6_125 {E : Ek} {x : MC} {cc : ByteArray} {nL hm pc : Nat} {M : Mem} {lv : List (Nat × Value)} {st : List Value} (X : Cx E x cc nL RX6 hm) {Post : Int32 → Mem → Prop} (hr : 2 < hm) (hW : (st.map fun v => v.category).sum ≤ 8) (hd : decode cc pc = .ok (.invokevirtual 125, 3)) (h : wp_X6_debtsAt Post M ) (kk : ∀ r M1, Post r M1 → G E x M1 (pc + 3) lv (.int r :: st)) : G E x M pc lv (.ref (ad E 1) :: st) := k_I (fun hP hS hL => run_V X (w_X6_debtsAt E (xl x)  h) cw_X6_debtsAt m52 m53 m54 (⟨by decide, fun E f h => ⟨_, _, _, rfl, rfl, rfl⟩⟩ : OC 1 RX6) hr rfl hd hW hP hS hL) kk
theorem cw_X6_readAffairs : CW yX6_readAffairs cX6_readAffairs 4 none 1 := ⟨m59, m3, Nat.le_of_ble_eq_true rfl, by decide +kernel⟩
def wp_X6_readAffairs_b96 (Post : Mem → Prop) (o1 : Nat) (P2 : Mem → Int32 → Prop) (P53 : Mem → Int32 → Prop) (P96 : Mem → Int32 → Prop) (M : Mem) (v2 : Int32) : Prop :=
 (2 ≤ v2 →
  ∀ M18 : Mem, M18 = wr M o1 9 0 →
  ∀ M19 : Mem, M19 = wr M18 o1 8 0 →
  Post M19) ∧
 (¬ 2 ≤ v2 →
  vp_in v2 2 ∧
  ∀ M20 : Mem, M20 = wr M (o1 + 3) v2.toNatClampNeg v2 →
  ∀ x2_21 : Int32, x2_21 = v2 + 1 →
  P96 M20 x2_21)
def wp_X6_readAffairs_b53 (Post : Mem → Prop) (o1 : Nat) (P2 : Mem → Int32 → Prop) (P53 : Mem → Int32 → Prop) (P96 : Mem → Int32 → Prop) (M : Mem) (v2 : Int32) : Prop :=
 ((rd M 1 10) ≤ v2 →
  P96 M 0) ∧
 (¬ (rd M 1 10) ≤ v2 →
  wp_X6_debtsAt (fun r11 M12 =>
   wp_X6_digitAt (fun r13 M14 =>
    vp_in v2 4 ∧
    ∀ M15 : Mem, M15 = wr M14 (o1 + 4) v2.toNatClampNeg r13 →
    vp_in v2 4 ∧
    ∀ M16 : Mem, M16 = wr M15 (o1 + 5) v2.toNatClampNeg (vp_nar .boolean 0) →
    ∀ x2_17 : Int32, x2_17 = v2 + 1 →
    P53 M16 x2_17) M12 ((r11 + ((5 : Int32) * v2)) + 3)) M )
def wp_X6_readAffairs_b2 (Post : Mem → Prop) (o1 : Nat) (P2 : Mem → Int32 → Prop) (P53 : Mem → Int32 → Prop) (P96 : Mem → Int32 → Prop) (M : Mem) (v2 : Int32) : Prop :=
 ((rd M 1 9) ≤ v2 →
  P53 M 0) ∧
 (¬ (rd M 1 9) ≤ v2 →
  wp_X6_peopleAt (fun r1 M2 =>
   ∀ x3_3 : Int32, x3_3 = r1 + ((4 : Int32) * v2) →
   wp_X6_digitAt (fun r4 M5 =>
    vp_in v2 4 ∧
    ∀ M6 : Mem, M6 = wr M5 (o1 + 1) v2.toNatClampNeg r4 →
    wp_X6_digitAt (fun r7 M8 =>
     vp_in v2 4 ∧
     ∀ M9 : Mem, M9 = wr M8 (o1 + 2) v2.toNatClampNeg r7 →
     ∀ x2_10 : Int32, x2_10 = v2 + 1 →
     P2 M9 x2_10) M6 (x3_3 + 2)) M2 (x3_3 + 1)) M )
def wp_X6_readAffairs (Post : Mem → Prop) (M : Mem) (o1 : Nat) : Prop :=
 ∀ (P2 : Mem → Int32 → Prop) (P53 : Mem → Int32 → Prop) (P96 : Mem → Int32 → Prop) ,
  (∀ (M : Mem) (v2 : Int32), wp_X6_readAffairs_b2 Post o1 P2 P53 P96 M v2 → P2 M v2) →
  (∀ (M : Mem) (v2 : Int32), wp_X6_readAffairs_b53 Post o1 P2 P53 P96 M v2 → P53 M v2) →
  (∀ (M : Mem) (v2 : Int32), wp_X6_readAffairs_b96 Post o1 P2 P53 P96 M v2 → P96 M v2) →
 P2 M 0
theorem k_X6_readAffairs_b96 {E : Ek} {x : MC} (X : Cx E x cX6_readAffairs 4 RX6 3) {Post : Mem → Prop} (hQ : QV E x Post none) {o1 : Nat} (ho1 : Aff o1) {M : Mem} {v2 : Int32} (h : wp_X6_readAffairs_b96 Post o1 (fun M v2 => G E x M 2 [(0, .ref (ad E 1)), (1, .ref (ad E o1)), (2, .int v2)] []) (fun M v2 => G E x M 53 [(0, .ref (ad E 1)), (1, .ref (ad E o1)), (2, .int v2)] []) (fun M v2 => G E x M 96 [(1, .ref (ad E o1)), (2, .int v2)] []) M v2) : G E x M 96 [(1, .ref (ad E o1)), (2, .int v2)] [] := by
  refine g_iload_n X dX6_readAffairs_96 rfl 1 rfl ?_
  refine g_iconst (v := 2) X dX6_readAffairs_97 (by decide) ?_
  refine g_icmpge (tgt := 114) X dX6_readAffairs_98 (by decide) h (fun h => ?_) (fun h => ?_)
  · refine g_aload_n X dX6_readAffairs_114 rfl 0 rfl ?_
    refine g_iconst (v := 0) X dX6_readAffairs_115 (by decide) ?_
    refine fp_X6_155 X ho1 dX6_readAffairs_116 h (fun M18 h => ?_)
    refine g_aload_n X dX6_readAffairs_119 rfl 0 rfl ?_
    refine g_iconst (v := 0) X dX6_readAffairs_120 (by decide) ?_
    refine fp_X6_158 X ho1 dX6_readAffairs_121 h (fun M19 h => ?_)
    exact g_vret X hQ dX6_readAffairs_124 h
  · refine g_aload_n X dX6_readAffairs_101 rfl 0 rfl ?_
    refine fg_X6_152 X ho1 dX6_readAffairs_102 ?_
    refine g_iload_n X dX6_readAffairs_105 rfl 1 rfl ?_
    refine g_iload_n X dX6_readAffairs_106 rfl 1 rfl ?_
    refine g_iast X (af_ia3 ho1) dX6_readAffairs_107 h (fun M20 h => ?_)
    refine g_iinc (w := 1) X dX6_readAffairs_108 1 rfl (by decide) (Nat.le_of_ble_eq_true rfl) rfl (fun x2_21 => [(1, .ref (ad E o1)), (2, .int x2_21)]) (fun _ => rfl) h (fun x2_21 h => ?_)
    refine g_goto (tgt := 96) X dX6_readAffairs_111 (by decide) ?_
    exact h
theorem k_X6_readAffairs_b53 {E : Ek} {x : MC} (X : Cx E x cX6_readAffairs 4 RX6 3) {Post : Mem → Prop} (hQ : QV E x Post none) {o1 : Nat} (ho1 : Aff o1) {M : Mem} {v2 : Int32} (h : wp_X6_readAffairs_b53 Post o1 (fun M v2 => G E x M 2 [(0, .ref (ad E 1)), (1, .ref (ad E o1)), (2, .int v2)] []) (fun M v2 => G E x M 53 [(0, .ref (ad E 1)), (1, .ref (ad E o1)), (2, .int v2)] []) (fun M v2 => G E x M 96 [(1, .ref (ad E o1)), (2, .int v2)] []) M v2) : G E x M 53 [(0, .ref (ad E 1)), (1, .ref (ad E o1)), (2, .int v2)] [] := by
  refine g_iload_n X dX6_readAffairs_53 rfl 2 rfl ?_
  refine g_aload_n X dX6_readAffairs_54 rfl 0 rfl ?_
  refine fg_X6_37 X dX6_readAffairs_55 ?_
  refine g_icmpge (tgt := 94) X dX6_readAffairs_58 (by decide) h (fun h => ?_) (fun h => ?_)
  · refine g_iconst (v := 0) X dX6_readAffairs_94 (by decide) ?_
    refine g_istore_n (lv' := [(0, .ref (ad E 1)), (1, .ref (ad E o1)), (2, .int 0)]) X dX6_readAffairs_95 rfl (Nat.le_of_ble_eq_true rfl) rfl rfl ?_
    exact g_sub [1, 2] rfl h
  · refine g_aload_n X dX6_readAffairs_61 rfl 1 rfl ?_
    refine fg_X6_145 X ho1 dX6_readAffairs_62 ?_
    refine g_iload_n X dX6_readAffairs_65 rfl 2 rfl ?_
    refine g_aload_n X dX6_readAffairs_66 rfl 0 rfl ?_
    refine g_aload_n X dX6_readAffairs_67 rfl 0 rfl ?_
    refine cl_X6_125 X (by decide) (Nat.le_of_ble_eq_true rfl) dX6_readAffairs_68 h (fun r11 M12 h => ?_)
    refine g_iconst (v := 5) X dX6_readAffairs_71 (by decide) ?_
    refine g_iload_n X dX6_readAffairs_72 rfl 2 rfl ?_
    refine g_imul X dX6_readAffairs_73 ?_
    refine g_iadd X dX6_readAffairs_74 ?_
    refine g_iconst (v := 3) X dX6_readAffairs_75 (by decide) ?_
    refine g_iadd X dX6_readAffairs_76 ?_
    refine cl_X6_104 X (by decide) (Nat.le_of_ble_eq_true rfl) dX6_readAffairs_77 h (fun r13 M14 h => ?_)
    refine g_iast X (af_ia4 ho1) dX6_readAffairs_80 h (fun M15 h => ?_)
    refine g_aload_n X dX6_readAffairs_81 rfl 1 rfl ?_
    refine fg_X6_148 X ho1 dX6_readAffairs_82 ?_
    refine g_iload_n X dX6_readAffairs_85 rfl 2 rfl ?_
    refine g_iconst (v := 0) X dX6_readAffairs_86 (by decide) ?_
    refine g_zast X (af_za5 ho1) dX6_readAffairs_87 h (fun M16 h => ?_)
    refine g_iinc (w := 1) X dX6_readAffairs_88 2 rfl (by decide) (Nat.le_of_ble_eq_true rfl) rfl (fun x2_17 => [(0, .ref (ad E 1)), (1, .ref (ad E o1)), (2, .int x2_17)]) (fun _ => rfl) h (fun x2_17 h => ?_)
    refine g_goto (tgt := 53) X dX6_readAffairs_91 (by decide) ?_
    exact h
theorem k_X6_readAffairs_b2 {E : Ek} {x : MC} (X : Cx E x cX6_readAffairs 4 RX6 3) {Post : Mem → Prop} (hQ : QV E x Post none) {o1 : Nat} (ho1 : Aff o1) {M : Mem} {v2 : Int32} (h : wp_X6_readAffairs_b2 Post o1 (fun M v2 => G E x M 2 [(0, .ref (ad E 1)), (1, .ref (ad E o1)), (2, .int v2)] []) (fun M v2 => G E x M 53 [(0, .ref (ad E 1)), (1, .ref (ad E o1)), (2, .int v2)] []) (fun M v2 => G E x M 96 [(1, .ref (ad E o1)), (2, .int v2)] []) M v2) : G E x M 2 [(0, .ref (ad E 1)), (1, .ref (ad E o1)), (2, .int v2)] [] := by
  refine g_iload_n X dX6_readAffairs_2 rfl 2 rfl ?_
  refine g_aload_n X dX6_readAffairs_3 rfl 0 rfl ?_
  refine fg_X6_34 X dX6_readAffairs_4 ?_
  refine g_icmpge (tgt := 51) X dX6_readAffairs_7 (by decide) h (fun h => ?_) (fun h => ?_)
  · refine g_iconst (v := 0) X dX6_readAffairs_51 (by decide) ?_
    refine g_istore_n (lv' := [(0, .ref (ad E 1)), (1, .ref (ad E o1)), (2, .int 0)]) X dX6_readAffairs_52 rfl (Nat.le_of_ble_eq_true rfl) rfl rfl ?_
    exact h
  · refine g_aload_n X dX6_readAffairs_10 rfl 0 rfl ?_
    refine cl_X6_91 X (by decide) (Nat.le_of_ble_eq_true rfl) dX6_readAffairs_11 h (fun r1 M2 h => ?_)
    refine g_iconst (v := 4) X dX6_readAffairs_14 (by decide) ?_
    refine g_iload_n X dX6_readAffairs_15 rfl 2 rfl ?_
    refine g_imul X dX6_readAffairs_16 ?_
    refine g_iadd X dX6_readAffairs_17 ?_
    refine g_nm h (fun x3_3 h => ?_)
    refine g_istore_n (lv' := [(0, .ref (ad E 1)), (1, .ref (ad E o1)), (2, .int v2), (3, .int x3_3)]) X dX6_readAffairs_18 rfl (Nat.le_of_ble_eq_true rfl) rfl rfl ?_
    refine g_aload_n X dX6_readAffairs_19 rfl 1 rfl ?_
    refine fg_X6_137 X ho1 dX6_readAffairs_20 ?_
    refine g_iload_n X dX6_readAffairs_23 rfl 2 rfl ?_
    refine g_aload_n X dX6_readAffairs_24 rfl 0 rfl ?_
    refine g_iload_n X dX6_readAffairs_25 rfl 3 rfl ?_
    refine g_iconst (v := 1) X dX6_readAffairs_26 (by decide) ?_
    refine g_iadd X dX6_readAffairs_27 ?_
    refine cl_X6_104 X (by decide) (Nat.le_of_ble_eq_true rfl) dX6_readAffairs_28 h (fun r4 M5 h => ?_)
    refine g_iast X (af_ia1 ho1) dX6_readAffairs_31 h (fun M6 h => ?_)
    refine g_aload_n X dX6_readAffairs_32 rfl 1 rfl ?_
    refine fg_X6_142 X ho1 dX6_readAffairs_33 ?_
    refine g_iload_n X dX6_readAffairs_36 rfl 2 rfl ?_
    refine g_aload_n X dX6_readAffairs_37 rfl 0 rfl ?_
    refine g_iload_n X dX6_readAffairs_38 rfl 3 rfl ?_
    refine g_iconst (v := 2) X dX6_readAffairs_39 (by decide) ?_
    refine g_iadd X dX6_readAffairs_40 ?_
    refine cl_X6_104 X (by decide) (Nat.le_of_ble_eq_true rfl) dX6_readAffairs_41 h (fun r7 M8 h => ?_)
    refine g_iast X (af_ia2 ho1) dX6_readAffairs_44 h (fun M9 h => ?_)
    refine g_iinc (w := 1) X dX6_readAffairs_45 2 rfl (by decide) (Nat.le_of_ble_eq_true rfl) rfl (fun x2_10 => [(0, .ref (ad E 1)), (1, .ref (ad E o1)), (2, .int x2_10), (3, .int x3_3)]) (fun _ => rfl) h (fun x2_10 h => ?_)
    refine g_goto (tgt := 2) X dX6_readAffairs_48 (by decide) ?_
    exact g_sub [0, 1, 2] rfl h
theorem w_X6_readAffairs (E : Ek) (l : Launch) {o1 : Nat} (ho1 : Aff o1) {M : Mem} {Post : Mem → Prop} (h : wp_X6_readAffairs Post M o1) : ctV E l yX6_readAffairs cX6_readAffairs 4 none 3 [.ref (ad E 1), .ref (ad E o1)] M Post := by
  refine ct_of (by decide) (Nat.le_of_ble_eq_true rfl) (fun x X hQ => ?_)
  have h := h (fun M v2 => G E x M 2 [(0, .ref (ad E 1)), (1, .ref (ad E o1)), (2, .int v2)] []) (fun M v2 => G E x M 53 [(0, .ref (ad E 1)), (1, .ref (ad E o1)), (2, .int v2)] []) (fun M v2 => G E x M 96 [(1, .ref (ad E o1)), (2, .int v2)] []) (fun M v2 h => k_X6_readAffairs_b2 X hQ ho1 h) (fun M v2 h => k_X6_readAffairs_b53 X hQ ho1 h) (fun M v2 h => k_X6_readAffairs_b96 X hQ ho1 h)
  change G E x M 0 [(0, .ref (ad E 1)), (1, .ref (ad E o1))] []
  refine g_iconst (v := 0) X dX6_readAffairs_0 (by decide) ?_
  refine g_istore_n (lv' := [(0, .ref (ad E 1)), (1, .ref (ad E o1)), (2, .int 0)]) X dX6_readAffairs_1 rfl (Nat.le_of_ble_eq_true rfl) rfl rfl ?_
  exact h
theorem cw_X11_isNobody : CW yX11_isNobody cX11_isNobody 2 (some .boolean) 1 := ⟨m62, m10, Nat.le_of_ble_eq_true rfl, by decide +kernel⟩
def wp_X11_isNobody (Post : Int32 → Mem → Prop) (M : Mem) (v1 : Int32) : Prop :=
 (v1 < 0 →
  Post 1 M) ∧
 (¬ v1 < 0 →
  (v1 < (rd M 3 2) →
   Post 0 M) ∧
  (¬ v1 < (rd M 3 2) →
   Post 1 M))
theorem w_X11_isNobody (E : Ek) (l : Launch) {v1 : Int32} {M : Mem} {Post : Int32 → Mem → Prop} (h : wp_X11_isNobody Post M v1) : ctI E l yX11_isNobody cX11_isNobody 2 (some .boolean) 1 [.ref (ad E 0), .int v1] M Post := by
  refine ct_of (by decide) (Nat.le_of_ble_eq_true rfl) (fun x X hQ => ?_)
  change G E x M 0 [(0, .ref (ad E 0)), (1, .int v1)] []
  refine g_iload_n X dX11_isNobody_0 rfl 1 rfl ?_
  refine g_iflt (tgt := 15) X dX11_isNobody_1 (by decide) h (fun h => ?_) (fun h => ?_)
  · refine g_iconst (v := 1) X dX11_isNobody_15 (by decide) ?_
    refine g_goto (tgt := 20) X dX11_isNobody_16 (by decide) ?_
    exact g_zret X hQ dX11_isNobody_20 ⟨Or.inr rfl, h⟩
  · refine g_iload_n X dX11_isNobody_4 rfl 1 rfl ?_
    refine g_aload_n X dX11_isNobody_5 rfl 0 rfl ?_
    refine fg_X11_19 X dX11_isNobody_6 ?_
    refine fg_X11_90 X dX11_isNobody_9 ?_
    refine g_icmplt (tgt := 19) X dX11_isNobody_12 (by decide) h (fun h => ?_) (fun h => ?_)
    · refine g_iconst (v := 0) X dX11_isNobody_19 (by decide) ?_
      exact g_zret X hQ dX11_isNobody_20 ⟨Or.inl rfl, h⟩
    · refine g_iconst (v := 1) X dX11_isNobody_15 (by decide) ?_
      refine g_goto (tgt := 20) X dX11_isNobody_16 (by decide) ?_
      exact g_zret X hQ dX11_isNobody_20 ⟨Or.inr rfl, h⟩
theorem cl_X11_93 {E : Ek} {x : MC} {cc : ByteArray} {nL hm pc : Nat} {M : Mem} {lv : List (Nat × Value)} {st : List Value} (X : Cx E x cc nL RX11 hm) {v1 : Int32} {Post : Int32 → Mem → Prop} (hr : 1 < hm) (hW : (st.map fun v => v.category).sum ≤ 8) (hd : decode cc pc = .ok (.invokevirtual 93, 3)) (h : wp_X11_isNobody Post M v1) (kk : ∀ r M1, Post r M1 → G E x M1 (pc + 3) lv (.int r :: st)) : G E x M pc lv (.int v1 :: .ref (ad E 0) :: st) := k_I (fun hP hS hL => run_V X (w_X11_isNobody E (xl x)  h) cw_X11_isNobody m146 m147 m148 (⟨by decide, fun E f h => ⟨_, _, _, rfl, rfl, rfl⟩⟩ : OC 0 RX11) hr rfl hd hW hP hS hL) kk
theorem cw_X0_keyBits : CW yX0_keyBits cX0_keyBits 4 (some .int) 1 := ⟨m74, m75, Nat.le_of_ble_eq_true rfl, by decide +kernel⟩
def wp_X0_keyBits_b4 (Post : Int32 → Mem → Prop) (o : Nat) (v1 : Int32) (P4 : Mem → Int32 → Int32 → Prop) (M : Mem) (v2 : Int32) (v3 : Int32) : Prop :=
 (2 ≤ v3 →
  Post v2 M) ∧
 (¬ 2 ≤ v3 →
  vp_in v3 2 ∧
  (¬ (rd M (o + 3) v3.toNatClampNeg) = v1 →
   ∀ x3_1 : Int32, x3_1 = v3 + 1 →
   P4 M v2 x3_1) ∧
  ((rd M (o + 3) v3.toNatClampNeg) = v1 →
   ∀ x2_2 : Int32, x2_2 = v2 ||| ((1 : Int32) <<< (v3 &&& 31)) →
   ∀ x3_3 : Int32, x3_3 = v3 + 1 →
   P4 M x2_2 x3_3))
def wp_X0_keyBits (Post : Int32 → Mem → Prop) (M : Mem) (o : Nat) (v1 : Int32) : Prop :=
 ∀ (P4 : Mem → Int32 → Int32 → Prop) ,
  (∀ (M : Mem) (v2 : Int32) (v3 : Int32), wp_X0_keyBits_b4 Post o v1 P4 M v2 v3 → P4 M v2 v3) →
 P4 M 0 0
theorem k_X0_keyBits_b4 {E : Ek} {x : MC} (X : Cx E x cX0_keyBits 4 RX0 1) {Post : Int32 → Mem → Prop} (hQ : QI E x Post (some .int)) {o : Nat} {v1 : Int32} (ho : Aff o) {M : Mem} {v2 : Int32} {v3 : Int32} (h : wp_X0_keyBits_b4 Post o v1 (fun M v2 v3 => G E x M 4 [(0, .ref (ad E o)), (1, .int v1), (2, .int v2), (3, .int v3)] []) M v2 v3) : G E x M 4 [(0, .ref (ad E o)), (1, .int v1), (2, .int v2), (3, .int v3)] [] := by
  refine g_iload_n X dX0_keyBits_4 rfl 3 rfl ?_
  refine g_iconst (v := 2) X dX0_keyBits_5 (by decide) ?_
  refine g_icmpge (tgt := 31) X dX0_keyBits_6 (by decide) h (fun h => ?_) (fun h => ?_)
  · refine g_iload_n X dX0_keyBits_31 rfl 2 rfl ?_
    exact g_iret X hQ dX0_keyBits_32 h
  · refine g_aload_n X dX0_keyBits_9 rfl 0 rfl ?_
    refine fg_X0_18 X ho dX0_keyBits_10 ?_
    refine g_iload_n X dX0_keyBits_13 rfl 3 rfl ?_
    refine g_iald X (af_ia3 ho) dX0_keyBits_14 h (fun h => ?_)
    refine g_iload_n X dX0_keyBits_15 rfl 1 rfl ?_
    refine g_icmpne (tgt := 25) X dX0_keyBits_16 (by decide) h (fun h => ?_) (fun h => ?_)
    · refine g_iinc (w := 1) X dX0_keyBits_25 3 rfl (by decide) (Nat.le_of_ble_eq_true rfl) rfl (fun x3_1 => [(0, .ref (ad E o)), (1, .int v1), (2, .int v2), (3, .int x3_1)]) (fun _ => rfl) h (fun x3_1 h => ?_)
      refine g_goto (tgt := 4) X dX0_keyBits_28 (by decide) ?_
      exact h
    · refine g_iload_n X dX0_keyBits_19 rfl 2 rfl ?_
      refine g_iconst (v := 1) X dX0_keyBits_20 (by decide) ?_
      refine g_iload_n X dX0_keyBits_21 rfl 3 rfl ?_
      refine g_ishl X dX0_keyBits_22 ?_
      refine g_ior X dX0_keyBits_23 ?_
      refine g_nm h (fun x2_2 h => ?_)
      refine g_istore_n (lv' := [(0, .ref (ad E o)), (1, .int v1), (2, .int x2_2), (3, .int v3)]) X dX0_keyBits_24 rfl (Nat.le_of_ble_eq_true rfl) rfl rfl ?_
      refine g_iinc (w := 1) X dX0_keyBits_25 3 rfl (by decide) (Nat.le_of_ble_eq_true rfl) rfl (fun x3_3 => [(0, .ref (ad E o)), (1, .int v1), (2, .int x2_2), (3, .int x3_3)]) (fun _ => rfl) h (fun x3_3 h => ?_)
      refine g_goto (tgt := 4) X dX0_keyBits_28 (by decide) ?_
      exact h
theorem w_X0_keyBits (E : Ek) (l : Launch) {o : Nat} {v1 : Int32} (ho : Aff o) {M : Mem} {Post : Int32 → Mem → Prop} (h : wp_X0_keyBits Post M o v1) : ctI E l yX0_keyBits cX0_keyBits 4 (some .int) 1 [.ref (ad E o), .int v1] M Post := by
  refine ct_of (by decide) (Nat.le_of_ble_eq_true rfl) (fun x X hQ => ?_)
  have h := h (fun M v2 v3 => G E x M 4 [(0, .ref (ad E o)), (1, .int v1), (2, .int v2), (3, .int v3)] []) (fun M v2 v3 h => k_X0_keyBits_b4 X hQ ho h)
  change G E x M 0 [(0, .ref (ad E o)), (1, .int v1)] []
  refine g_iconst (v := 0) X dX0_keyBits_0 (by decide) ?_
  refine g_istore_n (lv' := [(0, .ref (ad E o)), (1, .int v1), (2, .int 0)]) X dX0_keyBits_1 rfl (Nat.le_of_ble_eq_true rfl) rfl rfl ?_
  refine g_iconst (v := 0) X dX0_keyBits_2 (by decide) ?_
  refine g_istore_n (lv' := [(0, .ref (ad E o)), (1, .int v1), (2, .int 0), (3, .int 0)]) X dX0_keyBits_3 rfl (Nat.le_of_ble_eq_true rfl) rfl rfl ?_
  exact h
theorem cl_X11_113 {E : Ek} {x : MC} {cc : ByteArray} {nL hm pc : Nat} {M : Mem} {lv : List (Nat × Value)} {st : List Value} (X : Cx E x cc nL RX11 hm) {o : Nat} {v1 : Int32} (ho : Aff o) {Post : Int32 → Mem → Prop} (hr : 1 < hm) (hW : (st.map fun v => v.category).sum ≤ 8) (hd : decode cc pc = .ok (.invokevirtual 113, 3)) (h : wp_X0_keyBits Post M o v1) (kk : ∀ r M1, Post r M1 → G E x M1 (pc + 3) lv (.int r :: st)) : G E x M pc lv (.int v1 :: .ref (ad E o) :: st) := k_I (fun hP hS hL => run_VN X (w_X0_keyBits E (xl x) ho h) cw_X0_keyBits m153 m154 m155 (af_oc ho) hr rfl hd hW hP hS hL) kk
theorem cw_X4_doorEndsAt : CW yX4_doorEndsAt cX4_doorEndsAt 3 (some .boolean) 2 := ⟨m78, m79, Nat.le_of_ble_eq_true rfl, by decide +kernel⟩
def wp_X4_doorEndsAt (Post : Int32 → Mem → Prop) (M : Mem) (v1 : Int32) (v2 : Int32) : Prop :=
 vp_in v1 6 ∧
 ((rd M 4 v1.toNatClampNeg) = v2 →
  Post 1 M) ∧
 (¬ (rd M 4 v1.toNatClampNeg) = v2 →
  vp_in v1 6 ∧
  (¬ (rd M 5 v1.toNatClampNeg) = v2 →
   Post 0 M) ∧
  ((rd M 5 v1.toNatClampNeg) = v2 →
   Post 1 M))
theorem w_X4_doorEndsAt (E : Ek) (l : Launch) {v1 : Int32} {v2 : Int32} {M : Mem} {Post : Int32 → Mem → Prop} (h : wp_X4_doorEndsAt Post M v1 v2) : ctI E l yX4_doorEndsAt cX4_doorEndsAt 3 (some .boolean) 1 [.ref (ad E 3), .int v1, .int v2] M Post := by
  refine ct_of (by decide) (Nat.le_of_ble_eq_true rfl) (fun x X hQ => ?_)
  change G E x M 0 [(0, .ref (ad E 3)), (1, .int v1), (2, .int v2)] []
  refine g_aload_n X dX4_doorEndsAt_0 rfl 0 rfl ?_
  refine fg_X4_9 X dX4_doorEndsAt_1 ?_
  refine g_iload_n X dX4_doorEndsAt_4 rfl 1 rfl ?_
  refine g_iald X ia_4 dX4_doorEndsAt_5 h (fun h => ?_)
  refine g_iload_n X dX4_doorEndsAt_6 rfl 2 rfl ?_
  refine g_icmpeq (tgt := 20) X dX4_doorEndsAt_7 (by decide) h (fun h => ?_) (fun h => ?_)
  · refine g_iconst (v := 1) X dX4_doorEndsAt_20 (by decide) ?_
    refine g_goto (tgt := 25) X dX4_doorEndsAt_21 (by decide) ?_
    exact g_zret X hQ dX4_doorEndsAt_25 ⟨Or.inr rfl, h⟩
  · refine g_aload_n X dX4_doorEndsAt_10 rfl 0 rfl ?_
    refine fg_X4_15 X dX4_doorEndsAt_11 ?_
    refine g_iload_n X dX4_doorEndsAt_14 rfl 1 rfl ?_
    refine g_iald X ia_5 dX4_doorEndsAt_15 h (fun h => ?_)
    refine g_iload_n X dX4_doorEndsAt_16 rfl 2 rfl ?_
    refine g_icmpne (tgt := 24) X dX4_doorEndsAt_17 (by decide) h (fun h => ?_) (fun h => ?_)
    · refine g_iconst (v := 0) X dX4_doorEndsAt_24 (by decide) ?_
      exact g_zret X hQ dX4_doorEndsAt_25 ⟨Or.inl rfl, h⟩
    · refine g_iconst (v := 1) X dX4_doorEndsAt_20 (by decide) ?_
      refine g_goto (tgt := 25) X dX4_doorEndsAt_21 (by decide) ?_
      exact g_zret X hQ dX4_doorEndsAt_25 ⟨Or.inr rfl, h⟩
theorem cl_X0_60 {E : Ek} {x : MC} {cc : ByteArray} {nL hm pc : Nat} {M : Mem} {lv : List (Nat × Value)} {st : List Value} (X : Cx E x cc nL RX0 hm) {v1 : Int32} {v2 : Int32} {Post : Int32 → Mem → Prop} (hr : 1 < hm) (hW : (st.map fun v => v.category).sum ≤ 8) (hd : decode cc pc = .ok (.invokevirtual 60, 3)) (h : wp_X4_doorEndsAt Post M v1 v2) (kk : ∀ r M1, Post r M1 → G E x M1 (pc + 3) lv (.int r :: st)) : G E x M pc lv (.int v2 :: .int v1 :: .ref (ad E 3) :: st) := k_I (fun hP hS hL => run_VN X (w_X4_doorEndsAt E (xl x)  h) cw_X4_doorEndsAt m88 m89 m90 (⟨by decide, fun E f h => ⟨_, _, _, rfl, rfl, rfl⟩⟩ : OC 3 RX4) hr rfl hd hW hP hS hL) kk
theorem cl_X10_65 {E : Ek} {x : MC} {cc : ByteArray} {nL hm pc : Nat} {M : Mem} {lv : List (Nat × Value)} {st : List Value} (X : Cx E x cc nL RX10 hm) {v1 : Int32} {v2 : Int32} {Post : Int32 → Mem → Prop} (hr : 1 < hm) (hW : (st.map fun v => v.category).sum ≤ 8) (hd : decode cc pc = .ok (.invokevirtual 65, 3)) (h : wp_X4_doorEndsAt Post M v1 v2) (kk : ∀ r M1, Post r M1 → G E x M1 (pc + 3) lv (.int r :: st)) : G E x M pc lv (.int v2 :: .int v1 :: .ref (ad E 3) :: st) := k_I (fun hP hS hL => run_VN X (w_X4_doorEndsAt E (xl x)  h) cw_X4_doorEndsAt m243 m89 m90 (⟨by decide, fun E f h => ⟨_, _, _, rfl, rfl, rfl⟩⟩ : OC 3 RX4) hr rfl hd hW hP hS hL) kk
theorem cw_X0_mayPass : CW yX0_mayPass cX0_mayPass 6 (some .boolean) 2 := ⟨m86, m75, Nat.le_of_ble_eq_true rfl, by decide +kernel⟩
def wp_X0_mayPass_b46 (Post : Int32 → Mem → Prop) (o : Nat) (v1 : Int32) (v2 : Int32) (M : Mem) (v4 : Int32) (s0 : Int32) : Prop :=
 vp_in v1 4 ∧
 wpv_passes (fun r2 M3 =>
  zb r2 ∧ Post r2 M3) M (11 + v1.toNatClampNeg) v4 s0
def wp_X0_mayPass_b45 (Post : Int32 → Mem → Prop) (o : Nat) (v1 : Int32) (v2 : Int32) (M : Mem) (v4 : Int32) : Prop :=
 wp_X0_mayPass_b46 Post o v1 v2 M v4 0
def wp_X0_mayPass_b24 (Post : Int32 → Mem → Prop) (o : Nat) (v1 : Int32) (v2 : Int32) (M : Mem) (v3 : Int32) (s0 : Int32) : Prop :=
 (s0 = 0 →
  wp_X0_mayPass_b45 Post o v1 v2 M s0) ∧
 (¬ s0 = 0 →
  vp_in v3 2 ∧
  (¬ (rd M (o + 3) v3.toNatClampNeg) = v1 →
   wp_X0_mayPass_b45 Post o v1 v2 M s0) ∧
  ((rd M (o + 3) v3.toNatClampNeg) = v1 →
   wp_X0_mayPass_b46 Post o v1 v2 M s0 1))
def wp_X0_mayPass_b23 (Post : Int32 → Mem → Prop) (o : Nat) (v1 : Int32) (v2 : Int32) (M : Mem) (v3 : Int32) : Prop :=
 wp_X0_mayPass_b24 Post o v1 v2 M v3 0
def wp_X0_mayPass (Post : Int32 → Mem → Prop) (M : Mem) (o : Nat) (v1 : Int32) (v2 : Int32) : Prop :=
 vp_in v2 6 ∧
 ∀ x3_1 : Int32, x3_1 = rd M 6 v2.toNatClampNeg →
 (x3_1 < 0 →
  wp_X0_mayPass_b23 Post o v1 v2 M x3_1) ∧
 (¬ x3_1 < 0 →
  (2 ≤ x3_1 →
   wp_X0_mayPass_b23 Post o v1 v2 M x3_1) ∧
  (¬ 2 ≤ x3_1 →
   wp_X0_mayPass_b24 Post o v1 v2 M x3_1 1))
theorem k_X0_mayPass_b46 {E : Ek} {x : MC} (X : Cx E x cX0_mayPass 6 RX0 2) {Post : Int32 → Mem → Prop} (hQ : QI E x Post (some .boolean)) {o : Nat} {v1 : Int32} {v2 : Int32} (ho : Aff o) {M : Mem} {v4 : Int32} {s0 : Int32} (h : wp_X0_mayPass_b46 Post o v1 v2 M v4 s0) : G E x M 46 [(0, .ref (ad E o)), (1, .int v1), (4, .int v4)] [.int s0] := by
  refine g_istore (lv' := [(0, .ref (ad E o)), (1, .int v1), (4, .int v4), (5, .int s0)]) X dX0_mayPass_46 (Nat.le_of_ble_eq_true rfl) rfl rfl ?_
  refine g_aload_n X dX0_mayPass_48 rfl 0 rfl ?_
  refine fg_X0_34 X ho dX0_mayPass_49 ?_
  refine fg_X0_50 X dX0_mayPass_52 ?_
  refine g_iload_n X dX0_mayPass_55 rfl 1 rfl ?_
  refine g_pald X dX0_mayPass_56 h (fun hi1 h => ?_)
  refine g_iload X dX0_mayPass_57 2 rfl ?_
  refine g_iload X dX0_mayPass_59 3 rfl ?_
  refine cv_X0_54 X (prs_of hi1) (by decide) (Nat.le_of_ble_eq_true rfl) dX0_mayPass_61 h (fun r2 M3 h => ?_)
  exact g_zret X hQ dX0_mayPass_64 h
theorem k_X0_mayPass_b45 {E : Ek} {x : MC} (X : Cx E x cX0_mayPass 6 RX0 2) {Post : Int32 → Mem → Prop} (hQ : QI E x Post (some .boolean)) {o : Nat} {v1 : Int32} {v2 : Int32} (ho : Aff o) {M : Mem} {v4 : Int32} (h : wp_X0_mayPass_b45 Post o v1 v2 M v4) : G E x M 45 [(0, .ref (ad E o)), (1, .int v1), (4, .int v4)] [] := by
  refine g_iconst (v := 0) X dX0_mayPass_45 (by decide) ?_
  exact (k_X0_mayPass_b46 X hQ ho h)
theorem k_X0_mayPass_b24 {E : Ek} {x : MC} (X : Cx E x cX0_mayPass 6 RX0 2) {Post : Int32 → Mem → Prop} (hQ : QI E x Post (some .boolean)) {o : Nat} {v1 : Int32} {v2 : Int32} (ho : Aff o) {M : Mem} {v3 : Int32} {s0 : Int32} (h : wp_X0_mayPass_b24 Post o v1 v2 M v3 s0) : G E x M 24 [(0, .ref (ad E o)), (1, .int v1), (3, .int v3)] [.int s0] := by
  refine g_istore (lv' := [(0, .ref (ad E o)), (1, .int v1), (3, .int v3), (4, .int s0)]) X dX0_mayPass_24 (Nat.le_of_ble_eq_true rfl) rfl rfl ?_
  refine g_iload X dX0_mayPass_26 3 rfl ?_
  refine g_ifeq (tgt := 45) X dX0_mayPass_28 (by decide) h (fun h => ?_) (fun h => ?_)
  · exact g_sub [0, 1, 3] rfl (k_X0_mayPass_b45 X hQ ho h)
  · refine g_aload_n X dX0_mayPass_31 rfl 0 rfl ?_
    refine fg_X0_18 X ho dX0_mayPass_32 ?_
    refine g_iload_n X dX0_mayPass_35 rfl 2 rfl ?_
    refine g_iald X (af_ia3 ho) dX0_mayPass_36 h (fun h => ?_)
    refine g_iload_n X dX0_mayPass_37 rfl 1 rfl ?_
    refine g_icmpne (tgt := 45) X dX0_mayPass_38 (by decide) h (fun h => ?_) (fun h => ?_)
    · exact g_sub [0, 1, 3] rfl (k_X0_mayPass_b45 X hQ ho h)
    · refine g_iconst (v := 1) X dX0_mayPass_41 (by decide) ?_
      refine g_goto (tgt := 46) X dX0_mayPass_42 (by decide) ?_
      exact g_sub [0, 1, 3] rfl (k_X0_mayPass_b46 X hQ ho h)
theorem k_X0_mayPass_b23 {E : Ek} {x : MC} (X : Cx E x cX0_mayPass 6 RX0 2) {Post : Int32 → Mem → Prop} (hQ : QI E x Post (some .boolean)) {o : Nat} {v1 : Int32} {v2 : Int32} (ho : Aff o) {M : Mem} {v3 : Int32} (h : wp_X0_mayPass_b23 Post o v1 v2 M v3) : G E x M 23 [(0, .ref (ad E o)), (1, .int v1), (3, .int v3)] [] := by
  refine g_iconst (v := 0) X dX0_mayPass_23 (by decide) ?_
  exact (k_X0_mayPass_b24 X hQ ho h)
theorem w_X0_mayPass (E : Ek) (l : Launch) {o : Nat} {v1 : Int32} {v2 : Int32} (ho : Aff o) {M : Mem} {Post : Int32 → Mem → Prop} (h : wp_X0_mayPass Post M o v1 v2) : ctI E l yX0_mayPass cX0_mayPass 6 (some .boolean) 2 [.ref (ad E o), .int v1, .int v2] M Post := by
  refine ct_of (by decide) (Nat.le_of_ble_eq_true rfl) (fun x X hQ => ?_)
  change G E x M 0 [(0, .ref (ad E o)), (1, .int v1), (2, .int v2)] []
  refine g_aload_n X dX0_mayPass_0 rfl 0 rfl ?_
  refine fg_X0_34 X ho dX0_mayPass_1 ?_
  refine fg_X0_45 X dX0_mayPass_4 ?_
  refine g_iload_n X dX0_mayPass_7 rfl 2 rfl ?_
  refine g_iald X ia_6 dX0_mayPass_8 h (fun h => ?_)
  refine g_nm h (fun x3_1 h => ?_)
  refine g_istore_n (lv' := [(0, .ref (ad E o)), (1, .int v1), (2, .int v2), (3, .int x3_1)]) X dX0_mayPass_9 rfl (Nat.le_of_ble_eq_true rfl) rfl rfl ?_
  refine g_iload_n X dX0_mayPass_10 rfl 3 rfl ?_
  refine g_iflt (tgt := 23) X dX0_mayPass_11 (by decide) h (fun h => ?_) (fun h => ?_)
  · exact g_sub [0, 1, 3] rfl (k_X0_mayPass_b23 X hQ ho h)
  · refine g_iload_n X dX0_mayPass_14 rfl 3 rfl ?_
    refine g_iconst (v := 2) X dX0_mayPass_15 (by decide) ?_
    refine g_icmpge (tgt := 23) X dX0_mayPass_16 (by decide) h (fun h => ?_) (fun h => ?_)
    · exact g_sub [0, 1, 3] rfl (k_X0_mayPass_b23 X hQ ho h)
    · refine g_iconst (v := 1) X dX0_mayPass_19 (by decide) ?_
      refine g_goto (tgt := 24) X dX0_mayPass_20 (by decide) ?_
      exact g_sub [0, 1, 3] rfl (k_X0_mayPass_b24 X hQ ho h)
theorem cl_X0_64 {E : Ek} {x : MC} {cc : ByteArray} {nL hm pc : Nat} {M : Mem} {lv : List (Nat × Value)} {st : List Value} (X : Cx E x cc nL RX0 hm) {o : Nat} {v1 : Int32} {v2 : Int32} (ho : Aff o) {Post : Int32 → Mem → Prop} (hr : 2 < hm) (hW : (st.map fun v => v.category).sum ≤ 8) (hd : decode cc pc = .ok (.invokevirtual 64, 3)) (h : wp_X0_mayPass Post M o v1 v2) (kk : ∀ r M1, Post r M1 → G E x M1 (pc + 3) lv (.int r :: st)) : G E x M pc lv (.int v2 :: .int v1 :: .ref (ad E o) :: st) := k_I (fun hP hS hL => run_V X (w_X0_mayPass E (xl x) ho h) cw_X0_mayPass m91 m92 m93 (af_oc ho) hr rfl hd hW hP hS hL) kk
theorem cl_X10_51 {E : Ek} {x : MC} {cc : ByteArray} {nL hm pc : Nat} {M : Mem} {lv : List (Nat × Value)} {st : List Value} (X : Cx E x cc nL RX10 hm) {o : Nat} {v1 : Int32} {v2 : Int32} (ho : Aff o) {Post : Int32 → Mem → Prop} (hr : 2 < hm) (hW : (st.map fun v => v.category).sum ≤ 8) (hd : decode cc pc = .ok (.invokevirtual 51, 3)) (h : wp_X0_mayPass Post M o v1 v2) (kk : ∀ r M1, Post r M1 → G E x M1 (pc + 3) lv (.int r :: st)) : G E x M pc lv (.int v2 :: .int v1 :: .ref (ad E o) :: st) := k_I (fun hP hS hL => run_VN X (w_X0_mayPass E (xl x) ho h) cw_X0_mayPass m231 m92 m93 (af_oc ho) hr rfl hd hW hP hS hL) kk
theorem cw_X0_mayGo : CW yX0_mayGo cX0_mayGo 3 (some .boolean) 2 := ⟨m94, m75, Nat.le_of_ble_eq_true rfl, by decide +kernel⟩
def wp_X0_mayGo (Post : Int32 → Mem → Prop) (M : Mem) (o : Nat) (v1 : Int32) (v2 : Int32) : Prop :=
 vp_in v1 4 ∧
 wp_X4_doorEndsAt (fun r1 M2 =>
  (r1 = 0 →
   Post 0 M2) ∧
  (¬ r1 = 0 →
   wp_X0_mayPass (fun r3 M4 =>
    (r3 = 0 →
     Post 0 M4) ∧
    (¬ r3 = 0 →
     Post 1 M4)) M2 o v1 v2)) M v2 (rd M (o + 2) v1.toNatClampNeg)
theorem w_X0_mayGo (E : Ek) (l : Launch) {o : Nat} {v1 : Int32} {v2 : Int32} (ho : Aff o) {M : Mem} {Post : Int32 → Mem → Prop} (h : wp_X0_mayGo Post M o v1 v2) : ctI E l yX0_mayGo cX0_mayGo 3 (some .boolean) 3 [.ref (ad E o), .int v1, .int v2] M Post := by
  refine ct_of (by decide) (Nat.le_of_ble_eq_true rfl) (fun x X hQ => ?_)
  change G E x M 0 [(0, .ref (ad E o)), (1, .int v1), (2, .int v2)] []
  refine g_aload_n X dX0_mayGo_0 rfl 0 rfl ?_
  refine fg_X0_34 X ho dX0_mayGo_1 ?_
  refine g_iload_n X dX0_mayGo_4 rfl 2 rfl ?_
  refine g_aload_n X dX0_mayGo_5 rfl 0 rfl ?_
  refine fg_X0_15 X ho dX0_mayGo_6 ?_
  refine g_iload_n X dX0_mayGo_9 rfl 1 rfl ?_
  refine g_iald X (af_ia2 ho) dX0_mayGo_10 h (fun h => ?_)
  refine cl_X0_60 X (by decide) (Nat.le_of_ble_eq_true rfl) dX0_mayGo_11 h (fun r1 M2 h => ?_)
  refine g_ifeq (tgt := 30) X dX0_mayGo_14 (by decide) h (fun h => ?_) (fun h => ?_)
  · refine g_iconst (v := 0) X dX0_mayGo_30 (by decide) ?_
    exact g_zret X hQ dX0_mayGo_31 ⟨Or.inl rfl, h⟩
  · refine g_aload_n X dX0_mayGo_17 rfl 0 rfl ?_
    refine g_iload_n X dX0_mayGo_18 rfl 1 rfl ?_
    refine g_iload_n X dX0_mayGo_19 rfl 2 rfl ?_
    refine cl_X0_64 X ho (by decide) (Nat.le_of_ble_eq_true rfl) dX0_mayGo_20 h (fun r3 M4 h => ?_)
    refine g_ifeq (tgt := 30) X dX0_mayGo_23 (by decide) h (fun h => ?_) (fun h => ?_)
    · refine g_iconst (v := 0) X dX0_mayGo_30 (by decide) ?_
      exact g_zret X hQ dX0_mayGo_31 ⟨Or.inl rfl, h⟩
    · refine g_iconst (v := 1) X dX0_mayGo_26 (by decide) ?_
      refine g_goto (tgt := 31) X dX0_mayGo_27 (by decide) ?_
      exact g_zret X hQ dX0_mayGo_31 ⟨Or.inr rfl, h⟩
theorem cl_X0_121 {E : Ek} {x : MC} {cc : ByteArray} {nL hm pc : Nat} {M : Mem} {lv : List (Nat × Value)} {st : List Value} (X : Cx E x cc nL RX0 hm) {o : Nat} {v1 : Int32} {v2 : Int32} (ho : Aff o) {Post : Int32 → Mem → Prop} (hr : 3 < hm) (hW : (st.map fun v => v.category).sum ≤ 8) (hd : decode cc pc = .ok (.invokevirtual 121, 3)) (h : wp_X0_mayGo Post M o v1 v2) (kk : ∀ r M1, Post r M1 → G E x M1 (pc + 3) lv (.int r :: st)) : G E x M pc lv (.int v2 :: .int v1 :: .ref (ad E o) :: st) := k_I (fun hP hS hL => run_V X (w_X0_mayGo E (xl x) ho h) cw_X0_mayGo m96 m97 m98 (af_oc ho) hr rfl hd hW hP hS hL) kk
theorem cl_X11_170 {E : Ek} {x : MC} {cc : ByteArray} {nL hm pc : Nat} {M : Mem} {lv : List (Nat × Value)} {st : List Value} (X : Cx E x cc nL RX11 hm) {o : Nat} {v1 : Int32} {v2 : Int32} (ho : Aff o) {Post : Int32 → Mem → Prop} (hr : 3 < hm) (hW : (st.map fun v => v.category).sum ≤ 8) (hd : decode cc pc = .ok (.invokevirtual 170, 3)) (h : wp_X0_mayGo Post M o v1 v2) (kk : ∀ r M1, Post r M1 → G E x M1 (pc + 3) lv (.int r :: st)) : G E x M pc lv (.int v2 :: .int v1 :: .ref (ad E o) :: st) := k_I (fun hP hS hL => run_VN X (w_X0_mayGo E (xl x) ho h) cw_X0_mayGo m203 m97 m98 (af_oc ho) hr rfl hd hW hP hS hL) kk
theorem cl_X5_56 {E : Ek} {x : MC} {cc : ByteArray} {nL hm pc : Nat} {M : Mem} {lv : List (Nat × Value)} {st : List Value} (X : Cx E x cc nL RX5 hm) {o : Nat} {v1 : Int32} {v2 : Int32} (ho : Aff o) {Post : Int32 → Mem → Prop} (hr : 3 < hm) (hW : (st.map fun v => v.category).sum ≤ 8) (hd : decode cc pc = .ok (.invokevirtual 56, 3)) (h : wp_X0_mayGo Post M o v1 v2) (kk : ∀ r M1, Post r M1 → G E x M1 (pc + 3) lv (.int r :: st)) : G E x M pc lv (.int v2 :: .int v1 :: .ref (ad E o) :: st) := k_I (fun hP hS hL => run_VN X (w_X0_mayGo E (xl x) ho h) cw_X0_mayGo m278 m97 m98 (af_oc ho) hr rfl hd hW hP hS hL) kk
end
section
theorem cw_X0_doorBits : CW yX0_doorBits cX0_doorBits 4 (some .int) 1 := ⟨m99, m75, Nat.le_of_ble_eq_true rfl, by decide +kernel⟩
def wp_X0_doorBits_b4 (Post : Int32 → Mem → Prop) (o : Nat) (v1 : Int32) (P4 : Mem → Int32 → Int32 → Prop) (M : Mem) (v2 : Int32) (v3 : Int32) : Prop :=
 ((rd M 3 1) ≤ v3 →
  Post v2 M) ∧
 (¬ (rd M 3 1) ≤ v3 →
  wp_X0_mayGo (fun r1 M2 =>
   (r1 = 0 →
    ∀ x3_3 : Int32, x3_3 = v3 + 1 →
    P4 M2 v2 x3_3) ∧
   (¬ r1 = 0 →
    ∀ x2_4 : Int32, x2_4 = v2 ||| ((1 : Int32) <<< (v3 &&& 31)) →
    ∀ x3_5 : Int32, x3_5 = v3 + 1 →
    P4 M2 x2_4 x3_5)) M o v1 v3)
def wp_X0_doorBits (Post : Int32 → Mem → Prop) (M : Mem) (o : Nat) (v1 : Int32) : Prop :=
 ∀ (P4 : Mem → Int32 → Int32 → Prop) ,
  (∀ (M : Mem) (v2 : Int32) (v3 : Int32), wp_X0_doorBits_b4 Post o v1 P4 M v2 v3 → P4 M v2 v3) →
 P4 M 0 0
theorem k_X0_doorBits_b4 {E : Ek} {x : MC} (X : Cx E x cX0_doorBits 4 RX0 4) {Post : Int32 → Mem → Prop} (hQ : QI E x Post (some .int)) {o : Nat} {v1 : Int32} (ho : Aff o) {M : Mem} {v2 : Int32} {v3 : Int32} (h : wp_X0_doorBits_b4 Post o v1 (fun M v2 v3 => G E x M 4 [(0, .ref (ad E o)), (1, .int v1), (2, .int v2), (3, .int v3)] []) M v2 v3) : G E x M 4 [(0, .ref (ad E o)), (1, .int v1), (2, .int v2), (3, .int v3)] [] := by
  refine g_iload_n X dX0_doorBits_4 rfl 3 rfl ?_
  refine g_aload_n X dX0_doorBits_5 rfl 0 rfl ?_
  refine fg_X0_34 X ho dX0_doorBits_6 ?_
  refine fg_X0_118 X dX0_doorBits_9 ?_
  refine g_icmpge (tgt := 36) X dX0_doorBits_12 (by decide) h (fun h => ?_) (fun h => ?_)
  · refine g_iload_n X dX0_doorBits_36 rfl 2 rfl ?_
    exact g_iret X hQ dX0_doorBits_37 h
  · refine g_aload_n X dX0_doorBits_15 rfl 0 rfl ?_
    refine g_iload_n X dX0_doorBits_16 rfl 1 rfl ?_
    refine g_iload_n X dX0_doorBits_17 rfl 3 rfl ?_
    refine cl_X0_121 X ho (by decide) (Nat.le_of_ble_eq_true rfl) dX0_doorBits_18 h (fun r1 M2 h => ?_)
    refine g_ifeq (tgt := 30) X dX0_doorBits_21 (by decide) h (fun h => ?_) (fun h => ?_)
    · refine g_iinc (w := 1) X dX0_doorBits_30 3 rfl (by decide) (Nat.le_of_ble_eq_true rfl) rfl (fun x3_3 => [(0, .ref (ad E o)), (1, .int v1), (2, .int v2), (3, .int x3_3)]) (fun _ => rfl) h (fun x3_3 h => ?_)
      refine g_goto (tgt := 4) X dX0_doorBits_33 (by decide) ?_
      exact h
    · refine g_iload_n X dX0_doorBits_24 rfl 2 rfl ?_
      refine g_iconst (v := 1) X dX0_doorBits_25 (by decide) ?_
      refine g_iload_n X dX0_doorBits_26 rfl 3 rfl ?_
      refine g_ishl X dX0_doorBits_27 ?_
      refine g_ior X dX0_doorBits_28 ?_
      refine g_nm h (fun x2_4 h => ?_)
      refine g_istore_n (lv' := [(0, .ref (ad E o)), (1, .int v1), (2, .int x2_4), (3, .int v3)]) X dX0_doorBits_29 rfl (Nat.le_of_ble_eq_true rfl) rfl rfl ?_
      refine g_iinc (w := 1) X dX0_doorBits_30 3 rfl (by decide) (Nat.le_of_ble_eq_true rfl) rfl (fun x3_5 => [(0, .ref (ad E o)), (1, .int v1), (2, .int x2_4), (3, .int x3_5)]) (fun _ => rfl) h (fun x3_5 h => ?_)
      refine g_goto (tgt := 4) X dX0_doorBits_33 (by decide) ?_
      exact h
theorem w_X0_doorBits (E : Ek) (l : Launch) {o : Nat} {v1 : Int32} (ho : Aff o) {M : Mem} {Post : Int32 → Mem → Prop} (h : wp_X0_doorBits Post M o v1) : ctI E l yX0_doorBits cX0_doorBits 4 (some .int) 4 [.ref (ad E o), .int v1] M Post := by
  refine ct_of (by decide) (Nat.le_of_ble_eq_true rfl) (fun x X hQ => ?_)
  have h := h (fun M v2 v3 => G E x M 4 [(0, .ref (ad E o)), (1, .int v1), (2, .int v2), (3, .int v3)] []) (fun M v2 v3 h => k_X0_doorBits_b4 X hQ ho h)
  change G E x M 0 [(0, .ref (ad E o)), (1, .int v1)] []
  refine g_iconst (v := 0) X dX0_doorBits_0 (by decide) ?_
  refine g_istore_n (lv' := [(0, .ref (ad E o)), (1, .int v1), (2, .int 0)]) X dX0_doorBits_1 rfl (Nat.le_of_ble_eq_true rfl) rfl rfl ?_
  refine g_iconst (v := 0) X dX0_doorBits_2 (by decide) ?_
  refine g_istore_n (lv' := [(0, .ref (ad E o)), (1, .int v1), (2, .int 0), (3, .int 0)]) X dX0_doorBits_3 rfl (Nat.le_of_ble_eq_true rfl) rfl rfl ?_
  exact h
theorem cl_X11_117 {E : Ek} {x : MC} {cc : ByteArray} {nL hm pc : Nat} {M : Mem} {lv : List (Nat × Value)} {st : List Value} (X : Cx E x cc nL RX11 hm) {o : Nat} {v1 : Int32} (ho : Aff o) {Post : Int32 → Mem → Prop} (hr : 4 < hm) (hW : (st.map fun v => v.category).sum ≤ 8) (hd : decode cc pc = .ok (.invokevirtual 117, 3)) (h : wp_X0_doorBits Post M o v1) (kk : ∀ r M1, Post r M1 → G E x M1 (pc + 3) lv (.int r :: st)) : G E x M pc lv (.int v1 :: .ref (ad E o) :: st) := k_I (fun hP hS hL => run_VN X (w_X0_doorBits E (xl x) ho h) cw_X0_doorBits m156 m157 m158 (af_oc ho) hr rfl hd hW hP hS hL) kk
end
