section
-- ===== PART A: goes FIRST, ahead of the names: the tables' words, and 'selects' of the private methods out of them =====
/-- a private method of a class that the tables say can be made, by its rows of tables_1 -/
def lw_okq (q : MethodName × Nat) : Prop := (q.1.cls ≠ "java/lang/invoke/MethodHandle" ∧ q.1.cls ≠ "java/lang/invoke/VarHandle") ∧ Cond.instantiable q.1.cls q.2 ∈ tables_1 ∧ Cond.privateMethod q.1 ∈ tables_1 ∧ Cond.instanceMethod q.1 ∈ tables_1
theorem lw_p0 : lw_okq (⟨"DebtRooms$Page", "append", "(I)Z"⟩, 11) := ⟨⟨by decide +kernel, by decide +kernel⟩, List.mem_of_getElem? (i := 30) (by decide +kernel), List.mem_of_getElem? (i := 325) (by decide +kernel), List.mem_of_getElem? (i := 326) (by decide +kernel)⟩
theorem lw_p1 : lw_okq (⟨"DebtRooms$Page", "scan", "()V"⟩, 11) := ⟨⟨by decide +kernel, by decide +kernel⟩, List.mem_of_getElem? (i := 30) (by decide +kernel), List.mem_of_getElem? (i := 337) (by decide +kernel), List.mem_of_getElem? (i := 338) (by decide +kernel)⟩
theorem lw_p2 : lw_okq (⟨"DebtRooms$Page", "takes", "(C)Z"⟩, 11) := ⟨⟨by decide +kernel, by decide +kernel⟩, List.mem_of_getElem? (i := 30) (by decide +kernel), List.mem_of_getElem? (i := 341) (by decide +kernel), List.mem_of_getElem? (i := 342) (by decide +kernel)⟩
theorem lw_p3 : lw_okq (⟨"DebtRooms$Page", "takesInRooms", "(C)Z"⟩, 11) := ⟨⟨by decide +kernel, by decide +kernel⟩, List.mem_of_getElem? (i := 30) (by decide +kernel), List.mem_of_getElem? (i := 345) (by decide +kernel), List.mem_of_getElem? (i := 346) (by decide +kernel)⟩
theorem lw_p4 : lw_okq (⟨"DebtRooms$Page", "takesIf", "(Z)Z"⟩, 11) := ⟨⟨by decide +kernel, by decide +kernel⟩, List.mem_of_getElem? (i := 30) (by decide +kernel), List.mem_of_getElem? (i := 349) (by decide +kernel), List.mem_of_getElem? (i := 350) (by decide +kernel)⟩
theorem lw_p5 : lw_okq (⟨"DebtRooms$Page", "opens", "(I)Z"⟩, 11) := ⟨⟨by decide +kernel, by decide +kernel⟩, List.mem_of_getElem? (i := 30) (by decide +kernel), List.mem_of_getElem? (i := 353) (by decide +kernel), List.mem_of_getElem? (i := 354) (by decide +kernel)⟩
theorem lw_p6 : lw_okq (⟨"DebtRooms$Page", "takesInDoors", "(C)Z"⟩, 11) := ⟨⟨by decide +kernel, by decide +kernel⟩, List.mem_of_getElem? (i := 30) (by decide +kernel), List.mem_of_getElem? (i := 357) (by decide +kernel), List.mem_of_getElem? (i := 358) (by decide +kernel)⟩
theorem lw_p7 : lw_okq (⟨"DebtRooms$Page", "takesFirst", "(CI)Z"⟩, 11) := ⟨⟨by decide +kernel, by decide +kernel⟩, List.mem_of_getElem? (i := 30) (by decide +kernel), List.mem_of_getElem? (i := 361) (by decide +kernel), List.mem_of_getElem? (i := 362) (by decide +kernel)⟩
theorem lw_p8 : lw_okq (⟨"DebtRooms$Page", "takesOther", "(CI)Z"⟩, 11) := ⟨⟨by decide +kernel, by decide +kernel⟩, List.mem_of_getElem? (i := 30) (by decide +kernel), List.mem_of_getElem? (i := 368) (by decide +kernel), List.mem_of_getElem? (i := 369) (by decide +kernel)⟩
theorem lw_p9 : lw_okq (⟨"DebtRooms$Page", "takesInPeople", "(C)Z"⟩, 11) := ⟨⟨by decide +kernel, by decide +kernel⟩, List.mem_of_getElem? (i := 30) (by decide +kernel), List.mem_of_getElem? (i := 459) (by decide +kernel), List.mem_of_getElem? (i := 460) (by decide +kernel)⟩
theorem lw_p10 : lw_okq (⟨"DebtRooms$Page", "takesInDebts", "(C)Z"⟩, 11) := ⟨⟨by decide +kernel, by decide +kernel⟩, List.mem_of_getElem? (i := 30) (by decide +kernel), List.mem_of_getElem? (i := 464) (by decide +kernel), List.mem_of_getElem? (i := 465) (by decide +kernel)⟩
theorem lw_p11 : lw_okq (⟨"DebtRooms$Page", "readHouse", "(LDebtRooms$House;)V"⟩, 11) := ⟨⟨by decide +kernel, by decide +kernel⟩, List.mem_of_getElem? (i := 30) (by decide +kernel), List.mem_of_getElem? (i := 473) (by decide +kernel), List.mem_of_getElem? (i := 474) (by decide +kernel)⟩
theorem lw_p12 : lw_okq (⟨"DebtRooms$Page", "digitAt", "(I)I"⟩, 11) := ⟨⟨by decide +kernel, by decide +kernel⟩, List.mem_of_getElem? (i := 30) (by decide +kernel), List.mem_of_getElem? (i := 477) (by decide +kernel), List.mem_of_getElem? (i := 478) (by decide +kernel)⟩
theorem lw_p13 : lw_okq (⟨"DebtRooms$Page", "placeIn", "(Ljava/lang/String;I)I"⟩, 11) := ⟨⟨by decide +kernel, by decide +kernel⟩, List.mem_of_getElem? (i := 30) (by decide +kernel), List.mem_of_getElem? (i := 481) (by decide +kernel), List.mem_of_getElem? (i := 482) (by decide +kernel)⟩
theorem lw_p14 : lw_okq (⟨"DebtRooms$Page", "peopleAt", "()I"⟩, 11) := ⟨⟨by decide +kernel, by decide +kernel⟩, List.mem_of_getElem? (i := 30) (by decide +kernel), List.mem_of_getElem? (i := 485) (by decide +kernel), List.mem_of_getElem? (i := 486) (by decide +kernel)⟩
theorem lw_p15 : lw_okq (⟨"DebtRooms$Page", "debtsAt", "()I"⟩, 11) := ⟨⟨by decide +kernel, by decide +kernel⟩, List.mem_of_getElem? (i := 30) (by decide +kernel), List.mem_of_getElem? (i := 520) (by decide +kernel), List.mem_of_getElem? (i := 521) (by decide +kernel)⟩
def lw_privs_1 : List (MethodName × Nat) := [(⟨"DebtRooms$Page", "append", "(I)Z"⟩, 11), (⟨"DebtRooms$Page", "scan", "()V"⟩, 11), (⟨"DebtRooms$Page", "takes", "(C)Z"⟩, 11), (⟨"DebtRooms$Page", "takesInRooms", "(C)Z"⟩, 11), (⟨"DebtRooms$Page", "takesIf", "(Z)Z"⟩, 11), (⟨"DebtRooms$Page", "opens", "(I)Z"⟩, 11), (⟨"DebtRooms$Page", "takesInDoors", "(C)Z"⟩, 11), (⟨"DebtRooms$Page", "takesFirst", "(CI)Z"⟩, 11), (⟨"DebtRooms$Page", "takesOther", "(CI)Z"⟩, 11), (⟨"DebtRooms$Page", "takesInPeople", "(C)Z"⟩, 11), (⟨"DebtRooms$Page", "takesInDebts", "(C)Z"⟩, 11), (⟨"DebtRooms$Page", "readHouse", "(LDebtRooms$House;)V"⟩, 11), (⟨"DebtRooms$Page", "digitAt", "(I)I"⟩, 11), (⟨"DebtRooms$Page", "placeIn", "(Ljava/lang/String;I)I"⟩, 11), (⟨"DebtRooms$Page", "peopleAt", "()I"⟩, 11), (⟨"DebtRooms$Page", "debtsAt", "()I"⟩, 11)]
theorem lw_r1 : ∀ q ∈ lw_privs_1, lw_okq q := List.forall_mem_cons.mpr ⟨lw_p0, List.forall_mem_cons.mpr ⟨lw_p1, List.forall_mem_cons.mpr ⟨lw_p2, List.forall_mem_cons.mpr ⟨lw_p3, List.forall_mem_cons.mpr ⟨lw_p4, List.forall_mem_cons.mpr ⟨lw_p5, List.forall_mem_cons.mpr ⟨lw_p6, List.forall_mem_cons.mpr ⟨lw_p7, List.forall_mem_cons.mpr ⟨lw_p8, List.forall_mem_cons.mpr ⟨lw_p9, List.forall_mem_cons.mpr ⟨lw_p10, List.forall_mem_cons.mpr ⟨lw_p11, List.forall_mem_cons.mpr ⟨lw_p12, List.forall_mem_cons.mpr ⟨lw_p13, List.forall_mem_cons.mpr ⟨lw_p14, List.forall_mem_cons.mpr ⟨lw_p15, fun _ h => absurd h List.not_mem_nil⟩⟩⟩⟩⟩⟩⟩⟩⟩⟩⟩⟩⟩⟩⟩⟩
theorem lw_p16 : lw_okq (⟨"DebtRooms$Page", "readAffairs", "(LDebtRooms$Affairs;)V"⟩, 11) := ⟨⟨by decide +kernel, by decide +kernel⟩, List.mem_of_getElem? (i := 30) (by decide +kernel), List.mem_of_getElem? (i := 524) (by decide +kernel), List.mem_of_getElem? (i := 525) (by decide +kernel)⟩
theorem lw_p17 : lw_okq (⟨"DebtRooms", "isNobody", "(I)Z"⟩, 10) := ⟨⟨by decide +kernel, by decide +kernel⟩, List.mem_of_getElem? (i := 22) (by decide +kernel), List.mem_of_getElem? (i := 532) (by decide +kernel), List.mem_of_getElem? (i := 533) (by decide +kernel)⟩
theorem lw_p18 : lw_okq (⟨"DebtRooms$Affairs", "keyBits", "(I)I"⟩, 10) := ⟨⟨by decide +kernel, by decide +kernel⟩, List.mem_of_getElem? (i := 158) (by decide +kernel), List.mem_of_getElem? (i := 553) (by decide +kernel), List.mem_of_getElem? (i := 554) (by decide +kernel)⟩
theorem lw_p19 : lw_okq (⟨"DebtRooms$Affairs", "doorBits", "(I)I"⟩, 10) := ⟨⟨by decide +kernel, by decide +kernel⟩, List.mem_of_getElem? (i := 158) (by decide +kernel), List.mem_of_getElem? (i := 557) (by decide +kernel), List.mem_of_getElem? (i := 558) (by decide +kernel)⟩
theorem lw_p20 : lw_okq (⟨"DebtRooms$Affairs", "mayGo", "(II)Z"⟩, 10) := ⟨⟨by decide +kernel, by decide +kernel⟩, List.mem_of_getElem? (i := 158) (by decide +kernel), List.mem_of_getElem? (i := 561) (by decide +kernel), List.mem_of_getElem? (i := 562) (by decide +kernel)⟩
theorem lw_p21 : lw_okq (⟨"DebtRooms$House", "doorEndsAt", "(II)Z"⟩, 11) := ⟨⟨by decide +kernel, by decide +kernel⟩, List.mem_of_getElem? (i := 75) (by decide +kernel), List.mem_of_getElem? (i := 565) (by decide +kernel), List.mem_of_getElem? (i := 566) (by decide +kernel)⟩
theorem lw_p22 : lw_okq (⟨"DebtRooms$Affairs", "mayPass", "(II)Z"⟩, 10) := ⟨⟨by decide +kernel, by decide +kernel⟩, List.mem_of_getElem? (i := 158) (by decide +kernel), List.mem_of_getElem? (i := 569) (by decide +kernel), List.mem_of_getElem? (i := 570) (by decide +kernel)⟩
theorem lw_p23 : lw_okq (⟨"DebtRooms$Affairs", "payableBits", "(I)I"⟩, 10) := ⟨⟨by decide +kernel, by decide +kernel⟩, List.mem_of_getElem? (i := 158) (by decide +kernel), List.mem_of_getElem? (i := 586) (by decide +kernel), List.mem_of_getElem? (i := 587) (by decide +kernel)⟩
theorem lw_p24 : lw_okq (⟨"DebtRooms$Affairs", "mayPay", "(I)Z"⟩, 10) := ⟨⟨by decide +kernel, by decide +kernel⟩, List.mem_of_getElem? (i := 158) (by decide +kernel), List.mem_of_getElem? (i := 590) (by decide +kernel), List.mem_of_getElem? (i := 591) (by decide +kernel)⟩
theorem lw_p25 : lw_okq (⟨"DebtRooms$Affairs", "costOf", "(I)I"⟩, 10) := ⟨⟨by decide +kernel, by decide +kernel⟩, List.mem_of_getElem? (i := 158) (by decide +kernel), List.mem_of_getElem? (i := 594) (by decide +kernel), List.mem_of_getElem? (i := 595) (by decide +kernel)⟩
theorem lw_p26 : lw_okq (⟨"DebtRooms$Affairs", "standing", "(I)I"⟩, 10) := ⟨⟨by decide +kernel, by decide +kernel⟩, List.mem_of_getElem? (i := 158) (by decide +kernel), List.mem_of_getElem? (i := 624) (by decide +kernel), List.mem_of_getElem? (i := 625) (by decide +kernel)⟩
theorem lw_p27 : lw_okq (⟨"DebtRooms$Affairs", "purseBits", "(I)I"⟩, 10) := ⟨⟨by decide +kernel, by decide +kernel⟩, List.mem_of_getElem? (i := 158) (by decide +kernel), List.mem_of_getElem? (i := 628) (by decide +kernel), List.mem_of_getElem? (i := 629) (by decide +kernel)⟩
theorem lw_p28 : lw_okq (⟨"DebtRooms$Affairs", "tooPoorBits", "(I)I"⟩, 10) := ⟨⟨by decide +kernel, by decide +kernel⟩, List.mem_of_getElem? (i := 158) (by decide +kernel), List.mem_of_getElem? (i := 632) (by decide +kernel), List.mem_of_getElem? (i := 633) (by decide +kernel)⟩
theorem lw_p29 : lw_okq (⟨"DebtRooms$Affairs", "debtToPress", "(I)I"⟩, 10) := ⟨⟨by decide +kernel, by decide +kernel⟩, List.mem_of_getElem? (i := 158) (by decide +kernel), List.mem_of_getElem? (i := 636) (by decide +kernel), List.mem_of_getElem? (i := 637) (by decide +kernel)⟩
theorem lw_p30 : lw_okq (⟨"DebtRooms$House", "isOfKind", "(II)Z"⟩, 11) := ⟨⟨by decide +kernel, by decide +kernel⟩, List.mem_of_getElem? (i := 75) (by decide +kernel), List.mem_of_getElem? (i := 652) (by decide +kernel), List.mem_of_getElem? (i := 653) (by decide +kernel)⟩
theorem lw_p31 : lw_okq (⟨"DebtRooms", "isNoDoor", "(I)Z"⟩, 10) := ⟨⟨by decide +kernel, by decide +kernel⟩, List.mem_of_getElem? (i := 22) (by decide +kernel), List.mem_of_getElem? (i := 660) (by decide +kernel), List.mem_of_getElem? (i := 661) (by decide +kernel)⟩
def lw_privs_2 : List (MethodName × Nat) := [(⟨"DebtRooms$Page", "readAffairs", "(LDebtRooms$Affairs;)V"⟩, 11), (⟨"DebtRooms", "isNobody", "(I)Z"⟩, 10), (⟨"DebtRooms$Affairs", "keyBits", "(I)I"⟩, 10), (⟨"DebtRooms$Affairs", "doorBits", "(I)I"⟩, 10), (⟨"DebtRooms$Affairs", "mayGo", "(II)Z"⟩, 10), (⟨"DebtRooms$House", "doorEndsAt", "(II)Z"⟩, 11), (⟨"DebtRooms$Affairs", "mayPass", "(II)Z"⟩, 10), (⟨"DebtRooms$Affairs", "payableBits", "(I)I"⟩, 10), (⟨"DebtRooms$Affairs", "mayPay", "(I)Z"⟩, 10), (⟨"DebtRooms$Affairs", "costOf", "(I)I"⟩, 10), (⟨"DebtRooms$Affairs", "standing", "(I)I"⟩, 10), (⟨"DebtRooms$Affairs", "purseBits", "(I)I"⟩, 10), (⟨"DebtRooms$Affairs", "tooPoorBits", "(I)I"⟩, 10), (⟨"DebtRooms$Affairs", "debtToPress", "(I)I"⟩, 10), (⟨"DebtRooms$House", "isOfKind", "(II)Z"⟩, 11), (⟨"DebtRooms", "isNoDoor", "(I)Z"⟩, 10)]
theorem lw_r2 : ∀ q ∈ lw_privs_2, lw_okq q := List.forall_mem_cons.mpr ⟨lw_p16, List.forall_mem_cons.mpr ⟨lw_p17, List.forall_mem_cons.mpr ⟨lw_p18, List.forall_mem_cons.mpr ⟨lw_p19, List.forall_mem_cons.mpr ⟨lw_p20, List.forall_mem_cons.mpr ⟨lw_p21, List.forall_mem_cons.mpr ⟨lw_p22, List.forall_mem_cons.mpr ⟨lw_p23, List.forall_mem_cons.mpr ⟨lw_p24, List.forall_mem_cons.mpr ⟨lw_p25, List.forall_mem_cons.mpr ⟨lw_p26, List.forall_mem_cons.mpr ⟨lw_p27, List.forall_mem_cons.mpr ⟨lw_p28, List.forall_mem_cons.mpr ⟨lw_p29, List.forall_mem_cons.mpr ⟨lw_p30, List.forall_mem_cons.mpr ⟨lw_p31, fun _ h => absurd h List.not_mem_nil⟩⟩⟩⟩⟩⟩⟩⟩⟩⟩⟩⟩⟩⟩⟩⟩
theorem lw_p32 : lw_okq (⟨"DebtRooms", "isNoDebt", "(I)Z"⟩, 10) := ⟨⟨by decide +kernel, by decide +kernel⟩, List.mem_of_getElem? (i := 22) (by decide +kernel), List.mem_of_getElem? (i := 668) (by decide +kernel), List.mem_of_getElem? (i := 669) (by decide +kernel)⟩
theorem lw_p33 : lw_okq (⟨"DebtRooms$Affairs", "goThrough", "(II)V"⟩, 10) := ⟨⟨by decide +kernel, by decide +kernel⟩, List.mem_of_getElem? (i := 158) (by decide +kernel), List.mem_of_getElem? (i := 678) (by decide +kernel), List.mem_of_getElem? (i := 679) (by decide +kernel)⟩
theorem lw_p34 : lw_okq (⟨"DebtRooms$House", "roomBeyond", "(II)I"⟩, 11) := ⟨⟨by decide +kernel, by decide +kernel⟩, List.mem_of_getElem? (i := 75) (by decide +kernel), List.mem_of_getElem? (i := 682) (by decide +kernel), List.mem_of_getElem? (i := 683) (by decide +kernel)⟩
theorem lw_p35 : lw_okq (⟨"DebtRooms$Affairs", "settle", "(I)V"⟩, 10) := ⟨⟨by decide +kernel, by decide +kernel⟩, List.mem_of_getElem? (i := 158) (by decide +kernel), List.mem_of_getElem? (i := 695) (by decide +kernel), List.mem_of_getElem? (i := 696) (by decide +kernel)⟩
theorem lw_p36 : lw_okq (⟨"DebtRooms", "isNoRoom", "(I)Z"⟩, 10) := ⟨⟨by decide +kernel, by decide +kernel⟩, List.mem_of_getElem? (i := 22) (by decide +kernel), List.mem_of_getElem? (i := 712) (by decide +kernel), List.mem_of_getElem? (i := 713) (by decide +kernel)⟩
theorem lw_p37 : lw_okq (⟨"DebtRooms$Walks", "wayLength", "(LDebtRooms$Affairs;II)I"⟩, 4) := ⟨⟨by decide +kernel, by decide +kernel⟩, List.mem_of_getElem? (i := 215) (by decide +kernel), List.mem_of_getElem? (i := 716) (by decide +kernel), List.mem_of_getElem? (i := 717) (by decide +kernel)⟩
theorem lw_p38 : lw_okq (⟨"DebtRooms$Walks", "measure", "(LDebtRooms$Affairs;II)V"⟩, 4) := ⟨⟨by decide +kernel, by decide +kernel⟩, List.mem_of_getElem? (i := 215) (by decide +kernel), List.mem_of_getElem? (i := 720) (by decide +kernel), List.mem_of_getElem? (i := 721) (by decide +kernel)⟩
theorem lw_p39 : lw_okq (⟨"DebtRooms$Walks", "shorten", "(II)V"⟩, 4) := ⟨⟨by decide +kernel, by decide +kernel⟩, List.mem_of_getElem? (i := 215) (by decide +kernel), List.mem_of_getElem? (i := 725) (by decide +kernel), List.mem_of_getElem? (i := 726) (by decide +kernel)⟩
theorem lw_p40 : lw_okq (⟨"DebtRooms$Walks", "wayDoor", "(LDebtRooms$Affairs;III)I"⟩, 4) := ⟨⟨by decide +kernel, by decide +kernel⟩, List.mem_of_getElem? (i := 215) (by decide +kernel), List.mem_of_getElem? (i := 729) (by decide +kernel), List.mem_of_getElem? (i := 730) (by decide +kernel)⟩
theorem lw_p41 : lw_okq (⟨"DebtRooms$Walks", "doorNearer", "(LDebtRooms$Affairs;II)I"⟩, 4) := ⟨⟨by decide +kernel, by decide +kernel⟩, List.mem_of_getElem? (i := 215) (by decide +kernel), List.mem_of_getElem? (i := 733) (by decide +kernel), List.mem_of_getElem? (i := 734) (by decide +kernel)⟩
theorem lw_p42 : lw_okq (⟨"DebtRooms$Nights", "search", "(LDebtRooms$Affairs;II)V"⟩, 5) := ⟨⟨by decide +kernel, by decide +kernel⟩, List.mem_of_getElem? (i := 234) (by decide +kernel), List.mem_of_getElem? (i := 743) (by decide +kernel), List.mem_of_getElem? (i := 744) (by decide +kernel)⟩
theorem lw_p43 : lw_okq (⟨"DebtRooms$Affairs", "takeOver", "(LDebtRooms$Affairs;)V"⟩, 10) := ⟨⟨by decide +kernel, by decide +kernel⟩, List.mem_of_getElem? (i := 158) (by decide +kernel), List.mem_of_getElem? (i := 747) (by decide +kernel), List.mem_of_getElem? (i := 748) (by decide +kernel)⟩
theorem lw_p44 : lw_okq (⟨"DebtRooms$Affairs", "payAll", "(IZ)I"⟩, 10) := ⟨⟨by decide +kernel, by decide +kernel⟩, List.mem_of_getElem? (i := 158) (by decide +kernel), List.mem_of_getElem? (i := 754) (by decide +kernel), List.mem_of_getElem? (i := 755) (by decide +kernel)⟩
theorem lw_p45 : lw_okq (⟨"DebtRooms$Nights", "keepIfMore", "(I)V"⟩, 5) := ⟨⟨by decide +kernel, by decide +kernel⟩, List.mem_of_getElem? (i := 234) (by decide +kernel), List.mem_of_getElem? (i := 759) (by decide +kernel), List.mem_of_getElem? (i := 760) (by decide +kernel)⟩
theorem lw_p46 : lw_okq (⟨"DebtRooms$Nights", "doorAt", "(II)I"⟩, 5) := ⟨⟨by decide +kernel, by decide +kernel⟩, List.mem_of_getElem? (i := 234) (by decide +kernel), List.mem_of_getElem? (i := 765) (by decide +kernel), List.mem_of_getElem? (i := 766) (by decide +kernel)⟩
theorem lw_p47 : lw_okq (⟨"DebtRooms$Rings", "search", "(LDebtRooms$Affairs;I)V"⟩, 7) := ⟨⟨by decide +kernel, by decide +kernel⟩, List.mem_of_getElem? (i := 260) (by decide +kernel), List.mem_of_getElem? (i := 773) (by decide +kernel), List.mem_of_getElem? (i := 774) (by decide +kernel)⟩
def lw_privs_3 : List (MethodName × Nat) := [(⟨"DebtRooms", "isNoDebt", "(I)Z"⟩, 10), (⟨"DebtRooms$Affairs", "goThrough", "(II)V"⟩, 10), (⟨"DebtRooms$House", "roomBeyond", "(II)I"⟩, 11), (⟨"DebtRooms$Affairs", "settle", "(I)V"⟩, 10), (⟨"DebtRooms", "isNoRoom", "(I)Z"⟩, 10), (⟨"DebtRooms$Walks", "wayLength", "(LDebtRooms$Affairs;II)I"⟩, 4), (⟨"DebtRooms$Walks", "measure", "(LDebtRooms$Affairs;II)V"⟩, 4), (⟨"DebtRooms$Walks", "shorten", "(II)V"⟩, 4), (⟨"DebtRooms$Walks", "wayDoor", "(LDebtRooms$Affairs;III)I"⟩, 4), (⟨"DebtRooms$Walks", "doorNearer", "(LDebtRooms$Affairs;II)I"⟩, 4), (⟨"DebtRooms$Nights", "search", "(LDebtRooms$Affairs;II)V"⟩, 5), (⟨"DebtRooms$Affairs", "takeOver", "(LDebtRooms$Affairs;)V"⟩, 10), (⟨"DebtRooms$Affairs", "payAll", "(IZ)I"⟩, 10), (⟨"DebtRooms$Nights", "keepIfMore", "(I)V"⟩, 5), (⟨"DebtRooms$Nights", "doorAt", "(II)I"⟩, 5), (⟨"DebtRooms$Rings", "search", "(LDebtRooms$Affairs;I)V"⟩, 7)]
theorem lw_r3 : ∀ q ∈ lw_privs_3, lw_okq q := List.forall_mem_cons.mpr ⟨lw_p32, List.forall_mem_cons.mpr ⟨lw_p33, List.forall_mem_cons.mpr ⟨lw_p34, List.forall_mem_cons.mpr ⟨lw_p35, List.forall_mem_cons.mpr ⟨lw_p36, List.forall_mem_cons.mpr ⟨lw_p37, List.forall_mem_cons.mpr ⟨lw_p38, List.forall_mem_cons.mpr ⟨lw_p39, List.forall_mem_cons.mpr ⟨lw_p40, List.forall_mem_cons.mpr ⟨lw_p41, List.forall_mem_cons.mpr ⟨lw_p42, List.forall_mem_cons.mpr ⟨lw_p43, List.forall_mem_cons.mpr ⟨lw_p44, List.forall_mem_cons.mpr ⟨lw_p45, List.forall_mem_cons.mpr ⟨lw_p46, List.forall_mem_cons.mpr ⟨lw_p47, fun _ h => absurd h List.not_mem_nil⟩⟩⟩⟩⟩⟩⟩⟩⟩⟩⟩⟩⟩⟩⟩⟩
theorem lw_p48 : lw_okq (⟨"DebtRooms$Rings", "keepIfMore", "(I)V"⟩, 7) := ⟨⟨by decide +kernel, by decide +kernel⟩, List.mem_of_getElem? (i := 260) (by decide +kernel), List.mem_of_getElem? (i := 780) (by decide +kernel), List.mem_of_getElem? (i := 781) (by decide +kernel)⟩
theorem lw_p49 : lw_okq (⟨"DebtRooms$Affairs", "payWhoCan", "()I"⟩, 10) := ⟨⟨by decide +kernel, by decide +kernel⟩, List.mem_of_getElem? (i := 158) (by decide +kernel), List.mem_of_getElem? (i := 791) (by decide +kernel), List.mem_of_getElem? (i := 792) (by decide +kernel)⟩
theorem lw_p50 : lw_okq (⟨"DebtRooms$Affairs", "costOfAll", "(I)I"⟩, 10) := ⟨⟨by decide +kernel, by decide +kernel⟩, List.mem_of_getElem? (i := 158) (by decide +kernel), List.mem_of_getElem? (i := 795) (by decide +kernel), List.mem_of_getElem? (i := 796) (by decide +kernel)⟩
theorem lw_p51 : lw_okq (⟨"DebtRooms$Affairs", "owesStill", "(II)Z"⟩, 10) := ⟨⟨by decide +kernel, by decide +kernel⟩, List.mem_of_getElem? (i := 158) (by decide +kernel), List.mem_of_getElem? (i := 799) (by decide +kernel), List.mem_of_getElem? (i := 800) (by decide +kernel)⟩
theorem lw_p52 : lw_okq (⟨"DebtRooms$Affairs", "settleAll", "(I)V"⟩, 10) := ⟨⟨by decide +kernel, by decide +kernel⟩, List.mem_of_getElem? (i := 158) (by decide +kernel), List.mem_of_getElem? (i := 803) (by decide +kernel), List.mem_of_getElem? (i := 804) (by decide +kernel)⟩
theorem lw_p53 : lw_okq (⟨"DebtRooms$Walks", "metParts", "(LDebtRooms$Affairs;III)I"⟩, 4) := ⟨⟨by decide +kernel, by decide +kernel⟩, List.mem_of_getElem? (i := 215) (by decide +kernel), List.mem_of_getElem? (i := 811) (by decide +kernel), List.mem_of_getElem? (i := 812) (by decide +kernel)⟩
theorem lw_p54 : lw_okq (⟨"DebtRooms$Walks", "spread", "(LDebtRooms$Affairs;I)V"⟩, 4) := ⟨⟨by decide +kernel, by decide +kernel⟩, List.mem_of_getElem? (i := 215) (by decide +kernel), List.mem_of_getElem? (i := 816) (by decide +kernel), List.mem_of_getElem? (i := 817) (by decide +kernel)⟩
theorem lw_p55 : lw_okq (⟨"DebtRooms$Walks", "spreadFrom", "(LDebtRooms$Affairs;II)V"⟩, 4) := ⟨⟨by decide +kernel, by decide +kernel⟩, List.mem_of_getElem? (i := 215) (by decide +kernel), List.mem_of_getElem? (i := 820) (by decide +kernel), List.mem_of_getElem? (i := 821) (by decide +kernel)⟩
theorem lw_p56 : lw_okq (⟨"DebtRooms$Affairs", "paidDebts", "()I"⟩, 10) := ⟨⟨by decide +kernel, by decide +kernel⟩, List.mem_of_getElem? (i := 158) (by decide +kernel), List.mem_of_getElem? (i := 848) (by decide +kernel), List.mem_of_getElem? (i := 849) (by decide +kernel)⟩
theorem lw_p57 : lw_okq (⟨"DebtRooms$Affairs", "sumsNotPaid", "()I"⟩, 10) := ⟨⟨by decide +kernel, by decide +kernel⟩, List.mem_of_getElem? (i := 158) (by decide +kernel), List.mem_of_getElem? (i := 864) (by decide +kernel), List.mem_of_getElem? (i := 865) (by decide +kernel)⟩
theorem lw_p58 : lw_okq (⟨"DebtRooms$Affairs", "allPurses", "()I"⟩, 10) := ⟨⟨by decide +kernel, by decide +kernel⟩, List.mem_of_getElem? (i := 158) (by decide +kernel), List.mem_of_getElem? (i := 868) (by decide +kernel), List.mem_of_getElem? (i := 869) (by decide +kernel)⟩
theorem lw_p59 : lw_okq (⟨"DebtRooms", "mixPerson", "(JI)J"⟩, 10) := ⟨⟨by decide +kernel, by decide +kernel⟩, List.mem_of_getElem? (i := 22) (by decide +kernel), List.mem_of_getElem? (i := 877) (by decide +kernel), List.mem_of_getElem? (i := 878) (by decide +kernel)⟩
theorem lw_p60 : lw_okq (⟨"DebtRoomsModel", "faultOf", "()I"⟩, 44) := ⟨⟨by decide +kernel, by decide +kernel⟩, List.mem_of_getElem? (i := 893) (by decide +kernel), List.mem_of_getElem? (i := 1048) (by decide +kernel), List.mem_of_getElem? (i := 1049) (by decide +kernel)⟩
theorem lw_p61 : lw_okq (⟨"DebtRoomsModel", "isGood", "(I)Z"⟩, 44) := ⟨⟨by decide +kernel, by decide +kernel⟩, List.mem_of_getElem? (i := 893) (by decide +kernel), List.mem_of_getElem? (i := 1052) (by decide +kernel), List.mem_of_getElem? (i := 1053) (by decide +kernel)⟩
theorem lw_p62 : lw_okq (⟨"DebtRoomsModel", "isDoorLetter", "(I)Z"⟩, 44) := ⟨⟨by decide +kernel, by decide +kernel⟩, List.mem_of_getElem? (i := 893) (by decide +kernel), List.mem_of_getElem? (i := 1058) (by decide +kernel), List.mem_of_getElem? (i := 1059) (by decide +kernel)⟩
theorem lw_p63 : lw_okq (⟨"DebtRoomsModel", "isRoomLetter", "(I)Z"⟩, 44) := ⟨⟨by decide +kernel, by decide +kernel⟩, List.mem_of_getElem? (i := 893) (by decide +kernel), List.mem_of_getElem? (i := 1062) (by decide +kernel), List.mem_of_getElem? (i := 1063) (by decide +kernel)⟩
def lw_privs_4 : List (MethodName × Nat) := [(⟨"DebtRooms$Rings", "keepIfMore", "(I)V"⟩, 7), (⟨"DebtRooms$Affairs", "payWhoCan", "()I"⟩, 10), (⟨"DebtRooms$Affairs", "costOfAll", "(I)I"⟩, 10), (⟨"DebtRooms$Affairs", "owesStill", "(II)Z"⟩, 10), (⟨"DebtRooms$Affairs", "settleAll", "(I)V"⟩, 10), (⟨"DebtRooms$Walks", "metParts", "(LDebtRooms$Affairs;III)I"⟩, 4), (⟨"DebtRooms$Walks", "spread", "(LDebtRooms$Affairs;I)V"⟩, 4), (⟨"DebtRooms$Walks", "spreadFrom", "(LDebtRooms$Affairs;II)V"⟩, 4), (⟨"DebtRooms$Affairs", "paidDebts", "()I"⟩, 10), (⟨"DebtRooms$Affairs", "sumsNotPaid", "()I"⟩, 10), (⟨"DebtRooms$Affairs", "allPurses", "()I"⟩, 10), (⟨"DebtRooms", "mixPerson", "(JI)J"⟩, 10), (⟨"DebtRoomsModel", "faultOf", "()I"⟩, 44), (⟨"DebtRoomsModel", "isGood", "(I)Z"⟩, 44), (⟨"DebtRoomsModel", "isDoorLetter", "(I)Z"⟩, 44), (⟨"DebtRoomsModel", "isRoomLetter", "(I)Z"⟩, 44)]
theorem lw_r4 : ∀ q ∈ lw_privs_4, lw_okq q := List.forall_mem_cons.mpr ⟨lw_p48, List.forall_mem_cons.mpr ⟨lw_p49, List.forall_mem_cons.mpr ⟨lw_p50, List.forall_mem_cons.mpr ⟨lw_p51, List.forall_mem_cons.mpr ⟨lw_p52, List.forall_mem_cons.mpr ⟨lw_p53, List.forall_mem_cons.mpr ⟨lw_p54, List.forall_mem_cons.mpr ⟨lw_p55, List.forall_mem_cons.mpr ⟨lw_p56, List.forall_mem_cons.mpr ⟨lw_p57, List.forall_mem_cons.mpr ⟨lw_p58, List.forall_mem_cons.mpr ⟨lw_p59, List.forall_mem_cons.mpr ⟨lw_p60, List.forall_mem_cons.mpr ⟨lw_p61, List.forall_mem_cons.mpr ⟨lw_p62, List.forall_mem_cons.mpr ⟨lw_p63, fun _ h => absurd h List.not_mem_nil⟩⟩⟩⟩⟩⟩⟩⟩⟩⟩⟩⟩⟩⟩⟩⟩
theorem lw_p64 : lw_okq (⟨"DebtRoomsModel", "isPersonLetter", "(I)Z"⟩, 44) := ⟨⟨by decide +kernel, by decide +kernel⟩, List.mem_of_getElem? (i := 893) (by decide +kernel), List.mem_of_getElem? (i := 1067) (by decide +kernel), List.mem_of_getElem? (i := 1068) (by decide +kernel)⟩
theorem lw_p65 : lw_okq (⟨"DebtRoomsModel", "isDebtLetter", "(I)Z"⟩, 44) := ⟨⟨by decide +kernel, by decide +kernel⟩, List.mem_of_getElem? (i := 893) (by decide +kernel), List.mem_of_getElem? (i := 1075) (by decide +kernel), List.mem_of_getElem? (i := 1076) (by decide +kernel)⟩
theorem lw_p66 : lw_okq (⟨"DebtRoomsModel", "isPersonDigit", "(I)Z"⟩, 44) := ⟨⟨by decide +kernel, by decide +kernel⟩, List.mem_of_getElem? (i := 893) (by decide +kernel), List.mem_of_getElem? (i := 1079) (by decide +kernel), List.mem_of_getElem? (i := 1080) (by decide +kernel)⟩
theorem lw_p67 : lw_okq (⟨"DebtRoomsModel", "isPerson", "(I)Z"⟩, 44) := ⟨⟨by decide +kernel, by decide +kernel⟩, List.mem_of_getElem? (i := 893) (by decide +kernel), List.mem_of_getElem? (i := 1095) (by decide +kernel), List.mem_of_getElem? (i := 1096) (by decide +kernel)⟩
theorem lw_p68 : lw_okq (⟨"DebtRoomsModel", "tellPerson", "(II)I"⟩, 44) := ⟨⟨by decide +kernel, by decide +kernel⟩, List.mem_of_getElem? (i := 893) (by decide +kernel), List.mem_of_getElem? (i := 1099) (by decide +kernel), List.mem_of_getElem? (i := 1100) (by decide +kernel)⟩
theorem lw_p69 : lw_okq (⟨"DebtRoomsModel", "keysOf", "(I)I"⟩, 44) := ⟨⟨by decide +kernel, by decide +kernel⟩, List.mem_of_getElem? (i := 893) (by decide +kernel), List.mem_of_getElem? (i := 1103) (by decide +kernel), List.mem_of_getElem? (i := 1104) (by decide +kernel)⟩
theorem lw_p70 : lw_okq (⟨"DebtRoomsModel", "doorsOf", "(I)I"⟩, 44) := ⟨⟨by decide +kernel, by decide +kernel⟩, List.mem_of_getElem? (i := 893) (by decide +kernel), List.mem_of_getElem? (i := 1107) (by decide +kernel), List.mem_of_getElem? (i := 1108) (by decide +kernel)⟩
theorem lw_p71 : lw_okq (⟨"DebtRoomsModel", "through", "(III)I"⟩, 44) := ⟨⟨by decide +kernel, by decide +kernel⟩, List.mem_of_getElem? (i := 893) (by decide +kernel), List.mem_of_getElem? (i := 1111) (by decide +kernel), List.mem_of_getElem? (i := 1112) (by decide +kernel)⟩
theorem lw_p72 : lw_okq (⟨"DebtRoomsModel", "isRich", "(I)Z"⟩, 44) := ⟨⟨by decide +kernel, by decide +kernel⟩, List.mem_of_getElem? (i := 893) (by decide +kernel), List.mem_of_getElem? (i := 1115) (by decide +kernel), List.mem_of_getElem? (i := 1116) (by decide +kernel)⟩
theorem lw_p73 : lw_okq (⟨"DebtRoomsModel", "mayPay", "(I)I"⟩, 44) := ⟨⟨by decide +kernel, by decide +kernel⟩, List.mem_of_getElem? (i := 893) (by decide +kernel), List.mem_of_getElem? (i := 1119) (by decide +kernel), List.mem_of_getElem? (i := 1120) (by decide +kernel)⟩
theorem lw_p74 : lw_okq (⟨"DebtRoomsModel", "begin", "()V"⟩, 44) := ⟨⟨by decide +kernel, by decide +kernel⟩, List.mem_of_getElem? (i := 893) (by decide +kernel), List.mem_of_getElem? (i := 1123) (by decide +kernel), List.mem_of_getElem? (i := 1124) (by decide +kernel)⟩
theorem lw_p75 : lw_okq (⟨"DebtRoomsModel", "mayThen", "(I)Z"⟩, 44) := ⟨⟨by decide +kernel, by decide +kernel⟩, List.mem_of_getElem? (i := 893) (by decide +kernel), List.mem_of_getElem? (i := 1130) (by decide +kernel), List.mem_of_getElem? (i := 1131) (by decide +kernel)⟩
theorem lw_p76 : lw_okq (⟨"DebtRoomsModel", "costs", "(I)I"⟩, 44) := ⟨⟨by decide +kernel, by decide +kernel⟩, List.mem_of_getElem? (i := 893) (by decide +kernel), List.mem_of_getElem? (i := 1134) (by decide +kernel), List.mem_of_getElem? (i := 1135) (by decide +kernel)⟩
theorem lw_p77 : lw_okq (⟨"DebtRoomsModel", "standing", "(I)I"⟩, 44) := ⟨⟨by decide +kernel, by decide +kernel⟩, List.mem_of_getElem? (i := 893) (by decide +kernel), List.mem_of_getElem? (i := 1138) (by decide +kernel), List.mem_of_getElem? (i := 1139) (by decide +kernel)⟩
theorem lw_p78 : lw_okq (⟨"DebtRoomsModel", "pursesOf", "(I)I"⟩, 44) := ⟨⟨by decide +kernel, by decide +kernel⟩, List.mem_of_getElem? (i := 893) (by decide +kernel), List.mem_of_getElem? (i := 1142) (by decide +kernel), List.mem_of_getElem? (i := 1143) (by decide +kernel)⟩
theorem lw_p79 : lw_okq (⟨"DebtRoomsModel", "pressOf", "(I)I"⟩, 44) := ⟨⟨by decide +kernel, by decide +kernel⟩, List.mem_of_getElem? (i := 893) (by decide +kernel), List.mem_of_getElem? (i := 1146) (by decide +kernel), List.mem_of_getElem? (i := 1147) (by decide +kernel)⟩
def lw_privs_5 : List (MethodName × Nat) := [(⟨"DebtRoomsModel", "isPersonLetter", "(I)Z"⟩, 44), (⟨"DebtRoomsModel", "isDebtLetter", "(I)Z"⟩, 44), (⟨"DebtRoomsModel", "isPersonDigit", "(I)Z"⟩, 44), (⟨"DebtRoomsModel", "isPerson", "(I)Z"⟩, 44), (⟨"DebtRoomsModel", "tellPerson", "(II)I"⟩, 44), (⟨"DebtRoomsModel", "keysOf", "(I)I"⟩, 44), (⟨"DebtRoomsModel", "doorsOf", "(I)I"⟩, 44), (⟨"DebtRoomsModel", "through", "(III)I"⟩, 44), (⟨"DebtRoomsModel", "isRich", "(I)Z"⟩, 44), (⟨"DebtRoomsModel", "mayPay", "(I)I"⟩, 44), (⟨"DebtRoomsModel", "begin", "()V"⟩, 44), (⟨"DebtRoomsModel", "mayThen", "(I)Z"⟩, 44), (⟨"DebtRoomsModel", "costs", "(I)I"⟩, 44), (⟨"DebtRoomsModel", "standing", "(I)I"⟩, 44), (⟨"DebtRoomsModel", "pursesOf", "(I)I"⟩, 44), (⟨"DebtRoomsModel", "pressOf", "(I)I"⟩, 44)]
theorem lw_r5 : ∀ q ∈ lw_privs_5, lw_okq q := List.forall_mem_cons.mpr ⟨lw_p64, List.forall_mem_cons.mpr ⟨lw_p65, List.forall_mem_cons.mpr ⟨lw_p66, List.forall_mem_cons.mpr ⟨lw_p67, List.forall_mem_cons.mpr ⟨lw_p68, List.forall_mem_cons.mpr ⟨lw_p69, List.forall_mem_cons.mpr ⟨lw_p70, List.forall_mem_cons.mpr ⟨lw_p71, List.forall_mem_cons.mpr ⟨lw_p72, List.forall_mem_cons.mpr ⟨lw_p73, List.forall_mem_cons.mpr ⟨lw_p74, List.forall_mem_cons.mpr ⟨lw_p75, List.forall_mem_cons.mpr ⟨lw_p76, List.forall_mem_cons.mpr ⟨lw_p77, List.forall_mem_cons.mpr ⟨lw_p78, List.forall_mem_cons.mpr ⟨lw_p79, fun _ h => absurd h List.not_mem_nil⟩⟩⟩⟩⟩⟩⟩⟩⟩⟩⟩⟩⟩⟩⟩⟩
theorem lw_p80 : lw_okq (⟨"DebtRoomsModel", "isDoor", "(I)Z"⟩, 44) := ⟨⟨by decide +kernel, by decide +kernel⟩, List.mem_of_getElem? (i := 893) (by decide +kernel), List.mem_of_getElem? (i := 1159) (by decide +kernel), List.mem_of_getElem? (i := 1160) (by decide +kernel)⟩
theorem lw_p81 : lw_okq (⟨"DebtRoomsModel", "tellDoor", "(II)I"⟩, 44) := ⟨⟨by decide +kernel, by decide +kernel⟩, List.mem_of_getElem? (i := 893) (by decide +kernel), List.mem_of_getElem? (i := 1163) (by decide +kernel), List.mem_of_getElem? (i := 1164) (by decide +kernel)⟩
theorem lw_p82 : lw_okq (⟨"DebtRoomsModel", "isDebt", "(I)Z"⟩, 44) := ⟨⟨by decide +kernel, by decide +kernel⟩, List.mem_of_getElem? (i := 893) (by decide +kernel), List.mem_of_getElem? (i := 1171) (by decide +kernel), List.mem_of_getElem? (i := 1172) (by decide +kernel)⟩
theorem lw_p83 : lw_okq (⟨"DebtRoomsModel", "tellDebt", "(II)I"⟩, 44) := ⟨⟨by decide +kernel, by decide +kernel⟩, List.mem_of_getElem? (i := 893) (by decide +kernel), List.mem_of_getElem? (i := 1175) (by decide +kernel), List.mem_of_getElem? (i := 1176) (by decide +kernel)⟩
theorem lw_p84 : lw_okq (⟨"DebtRoomsModel", "payThen", "(I)V"⟩, 44) := ⟨⟨by decide +kernel, by decide +kernel⟩, List.mem_of_getElem? (i := 893) (by decide +kernel), List.mem_of_getElem? (i := 1191) (by decide +kernel), List.mem_of_getElem? (i := 1192) (by decide +kernel)⟩
theorem lw_p85 : lw_okq (⟨"DebtRoomsModel", "isRoom", "(I)Z"⟩, 44) := ⟨⟨by decide +kernel, by decide +kernel⟩, List.mem_of_getElem? (i := 893) (by decide +kernel), List.mem_of_getElem? (i := 1208) (by decide +kernel), List.mem_of_getElem? (i := 1209) (by decide +kernel)⟩
theorem lw_p86 : lw_okq (⟨"DebtRoomsModel", "wayOf", "(III)I"⟩, 44) := ⟨⟨by decide +kernel, by decide +kernel⟩, List.mem_of_getElem? (i := 893) (by decide +kernel), List.mem_of_getElem? (i := 1214) (by decide +kernel), List.mem_of_getElem? (i := 1215) (by decide +kernel)⟩
theorem lw_p87 : lw_okq (⟨"DebtRoomsModel", "layFar", "(II)V"⟩, 44) := ⟨⟨by decide +kernel, by decide +kernel⟩, List.mem_of_getElem? (i := 893) (by decide +kernel), List.mem_of_getElem? (i := 1218) (by decide +kernel), List.mem_of_getElem? (i := 1219) (by decide +kernel)⟩
theorem lw_p88 : lw_okq (⟨"DebtRoomsModel", "nightOf", "(III)I"⟩, 44) := ⟨⟨by decide +kernel, by decide +kernel⟩, List.mem_of_getElem? (i := 893) (by decide +kernel), List.mem_of_getElem? (i := 1227) (by decide +kernel), List.mem_of_getElem? (i := 1228) (by decide +kernel)⟩
theorem lw_p89 : lw_okq (⟨"DebtRoomsModel", "paysBy", "(III)I"⟩, 44) := ⟨⟨by decide +kernel, by decide +kernel⟩, List.mem_of_getElem? (i := 893) (by decide +kernel), List.mem_of_getElem? (i := 1231) (by decide +kernel), List.mem_of_getElem? (i := 1232) (by decide +kernel)⟩
theorem lw_p90 : lw_okq (⟨"DebtRoomsModel", "payHere", "(I)I"⟩, 44) := ⟨⟨by decide +kernel, by decide +kernel⟩, List.mem_of_getElem? (i := 893) (by decide +kernel), List.mem_of_getElem? (i := 1235) (by decide +kernel), List.mem_of_getElem? (i := 1236) (by decide +kernel)⟩
theorem lw_p91 : lw_okq (⟨"DebtRoomsModel", "cancelOf", "(II)I"⟩, 44) := ⟨⟨by decide +kernel, by decide +kernel⟩, List.mem_of_getElem? (i := 893) (by decide +kernel), List.mem_of_getElem? (i := 1243) (by decide +kernel), List.mem_of_getElem? (i := 1244) (by decide +kernel)⟩
theorem lw_p92 : lw_okq (⟨"DebtRoomsModel", "layCancel", "(I)I"⟩, 44) := ⟨⟨by decide +kernel, by decide +kernel⟩, List.mem_of_getElem? (i := 893) (by decide +kernel), List.mem_of_getElem? (i := 1247) (by decide +kernel), List.mem_of_getElem? (i := 1248) (by decide +kernel)⟩
theorem lw_p93 : lw_okq (⟨"DebtRoomsModel", "topOf", "(II)I"⟩, 44) := ⟨⟨by decide +kernel, by decide +kernel⟩, List.mem_of_getElem? (i := 893) (by decide +kernel), List.mem_of_getElem? (i := 1251) (by decide +kernel), List.mem_of_getElem? (i := 1252) (by decide +kernel)⟩
theorem lw_p94 : lw_okq (⟨"DebtRoomsModel", "isOf", "(II)Z"⟩, 44) := ⟨⟨by decide +kernel, by decide +kernel⟩, List.mem_of_getElem? (i := 893) (by decide +kernel), List.mem_of_getElem? (i := 1255) (by decide +kernel), List.mem_of_getElem? (i := 1256) (by decide +kernel)⟩
theorem lw_p95 : lw_okq (⟨"DebtRoomsModel", "lessBy", "()I"⟩, 44) := ⟨⟨by decide +kernel, by decide +kernel⟩, List.mem_of_getElem? (i := 893) (by decide +kernel), List.mem_of_getElem? (i := 1259) (by decide +kernel), List.mem_of_getElem? (i := 1260) (by decide +kernel)⟩
def lw_privs_6 : List (MethodName × Nat) := [(⟨"DebtRoomsModel", "isDoor", "(I)Z"⟩, 44), (⟨"DebtRoomsModel", "tellDoor", "(II)I"⟩, 44), (⟨"DebtRoomsModel", "isDebt", "(I)Z"⟩, 44), (⟨"DebtRoomsModel", "tellDebt", "(II)I"⟩, 44), (⟨"DebtRoomsModel", "payThen", "(I)V"⟩, 44), (⟨"DebtRoomsModel", "isRoom", "(I)Z"⟩, 44), (⟨"DebtRoomsModel", "wayOf", "(III)I"⟩, 44), (⟨"DebtRoomsModel", "layFar", "(II)V"⟩, 44), (⟨"DebtRoomsModel", "nightOf", "(III)I"⟩, 44), (⟨"DebtRoomsModel", "paysBy", "(III)I"⟩, 44), (⟨"DebtRoomsModel", "payHere", "(I)I"⟩, 44), (⟨"DebtRoomsModel", "cancelOf", "(II)I"⟩, 44), (⟨"DebtRoomsModel", "layCancel", "(I)I"⟩, 44), (⟨"DebtRoomsModel", "topOf", "(II)I"⟩, 44), (⟨"DebtRoomsModel", "isOf", "(II)Z"⟩, 44), (⟨"DebtRoomsModel", "lessBy", "()I"⟩, 44)]
theorem lw_r6 : ∀ q ∈ lw_privs_6, lw_okq q := List.forall_mem_cons.mpr ⟨lw_p80, List.forall_mem_cons.mpr ⟨lw_p81, List.forall_mem_cons.mpr ⟨lw_p82, List.forall_mem_cons.mpr ⟨lw_p83, List.forall_mem_cons.mpr ⟨lw_p84, List.forall_mem_cons.mpr ⟨lw_p85, List.forall_mem_cons.mpr ⟨lw_p86, List.forall_mem_cons.mpr ⟨lw_p87, List.forall_mem_cons.mpr ⟨lw_p88, List.forall_mem_cons.mpr ⟨lw_p89, List.forall_mem_cons.mpr ⟨lw_p90, List.forall_mem_cons.mpr ⟨lw_p91, List.forall_mem_cons.mpr ⟨lw_p92, List.forall_mem_cons.mpr ⟨lw_p93, List.forall_mem_cons.mpr ⟨lw_p94, List.forall_mem_cons.mpr ⟨lw_p95, fun _ h => absurd h List.not_mem_nil⟩⟩⟩⟩⟩⟩⟩⟩⟩⟩⟩⟩⟩⟩⟩⟩
theorem lw_p96 : lw_okq (⟨"DebtRoomsModel", "lacks", "()Z"⟩, 44) := ⟨⟨by decide +kernel, by decide +kernel⟩, List.mem_of_getElem? (i := 893) (by decide +kernel), List.mem_of_getElem? (i := 1267) (by decide +kernel), List.mem_of_getElem? (i := 1268) (by decide +kernel)⟩
theorem lw_p97 : lw_okq (⟨"DebtRoomsModel", "soundOf", "()I"⟩, 44) := ⟨⟨by decide +kernel, by decide +kernel⟩, List.mem_of_getElem? (i := 893) (by decide +kernel), List.mem_of_getElem? (i := 1271) (by decide +kernel), List.mem_of_getElem? (i := 1272) (by decide +kernel)⟩
theorem lw_p98 : lw_okq (⟨"DebtRoomsModel", "owesThen", "(I)I"⟩, 44) := ⟨⟨by decide +kernel, by decide +kernel⟩, List.mem_of_getElem? (i := 893) (by decide +kernel), List.mem_of_getElem? (i := 1275) (by decide +kernel), List.mem_of_getElem? (i := 1276) (by decide +kernel)⟩
theorem lw_p99 : lw_okq (⟨"DebtRoomsModel", "metOf", "(IIII)I"⟩, 44) := ⟨⟨by decide +kernel, by decide +kernel⟩, List.mem_of_getElem? (i := 893) (by decide +kernel), List.mem_of_getElem? (i := 1284) (by decide +kernel), List.mem_of_getElem? (i := 1285) (by decide +kernel)⟩
theorem lw_p100 : lw_okq (⟨"DebtRoomsModel", "goAll", "(II)V"⟩, 44) := ⟨⟨by decide +kernel, by decide +kernel⟩, List.mem_of_getElem? (i := 893) (by decide +kernel), List.mem_of_getElem? (i := 1288) (by decide +kernel), List.mem_of_getElem? (i := 1289) (by decide +kernel)⟩
theorem lw_p101 : lw_okq (⟨"DebtRoomsModel", "draw", "(I)I"⟩, 44) := ⟨⟨by decide +kernel, by decide +kernel⟩, List.mem_of_getElem? (i := 893) (by decide +kernel), List.mem_of_getElem? (i := 1306) (by decide +kernel), List.mem_of_getElem? (i := 1307) (by decide +kernel)⟩
theorem lw_p102 : lw_okq (⟨"DebtRoomsModel", "payAll", "(I)I"⟩, 44) := ⟨⟨by decide +kernel, by decide +kernel⟩, List.mem_of_getElem? (i := 893) (by decide +kernel), List.mem_of_getElem? (i := 1314) (by decide +kernel), List.mem_of_getElem? (i := 1315) (by decide +kernel)⟩
theorem lw_p103 : lw_okq (⟨"DebtRoomsModel", "paidMany", "([I)I"⟩, 44) := ⟨⟨by decide +kernel, by decide +kernel⟩, List.mem_of_getElem? (i := 893) (by decide +kernel), List.mem_of_getElem? (i := 1318) (by decide +kernel), List.mem_of_getElem? (i := 1319) (by decide +kernel)⟩
theorem lw_p104 : lw_okq (⟨"DebtRoomsModel", "countOf", "(I)I"⟩, 44) := ⟨⟨by decide +kernel, by decide +kernel⟩, List.mem_of_getElem? (i := 893) (by decide +kernel), List.mem_of_getElem? (i := 1334) (by decide +kernel), List.mem_of_getElem? (i := 1335) (by decide +kernel)⟩
theorem lw_p105 : lw_okq (⟨"DebtRoomsModel", "owedAll", "()I"⟩, 44) := ⟨⟨by decide +kernel, by decide +kernel⟩, List.mem_of_getElem? (i := 893) (by decide +kernel), List.mem_of_getElem? (i := 1338) (by decide +kernel), List.mem_of_getElem? (i := 1339) (by decide +kernel)⟩
theorem lw_p106 : lw_okq (⟨"DebtRoomsModel", "pursesAll", "()I"⟩, 44) := ⟨⟨by decide +kernel, by decide +kernel⟩, List.mem_of_getElem? (i := 893) (by decide +kernel), List.mem_of_getElem? (i := 1342) (by decide +kernel), List.mem_of_getElem? (i := 1343) (by decide +kernel)⟩
theorem lw_p107 : lw_okq (⟨"DebtRoomsModel", "sayPerson", "(I)V"⟩, 44) := ⟨⟨by decide +kernel, by decide +kernel⟩, List.mem_of_getElem? (i := 893) (by decide +kernel), List.mem_of_getElem? (i := 1351) (by decide +kernel), List.mem_of_getElem? (i := 1352) (by decide +kernel)⟩
theorem lw_p108 : lw_okq (⟨"DebtRoomsModel", "say", "(J)V"⟩, 44) := ⟨⟨by decide +kernel, by decide +kernel⟩, List.mem_of_getElem? (i := 893) (by decide +kernel), List.mem_of_getElem? (i := 1355) (by decide +kernel), List.mem_of_getElem? (i := 1356) (by decide +kernel)⟩
theorem lw_p109 : lw_okq (⟨"DebtRoomsModel", "sayThings", "()V"⟩, 44) := ⟨⟨by decide +kernel, by decide +kernel⟩, List.mem_of_getElem? (i := 893) (by decide +kernel), List.mem_of_getElem? (i := 1360) (by decide +kernel), List.mem_of_getElem? (i := 1361) (by decide +kernel)⟩
def lw_privs_7 : List (MethodName × Nat) := [(⟨"DebtRoomsModel", "lacks", "()Z"⟩, 44), (⟨"DebtRoomsModel", "soundOf", "()I"⟩, 44), (⟨"DebtRoomsModel", "owesThen", "(I)I"⟩, 44), (⟨"DebtRoomsModel", "metOf", "(IIII)I"⟩, 44), (⟨"DebtRoomsModel", "goAll", "(II)V"⟩, 44), (⟨"DebtRoomsModel", "draw", "(I)I"⟩, 44), (⟨"DebtRoomsModel", "payAll", "(I)I"⟩, 44), (⟨"DebtRoomsModel", "paidMany", "([I)I"⟩, 44), (⟨"DebtRoomsModel", "countOf", "(I)I"⟩, 44), (⟨"DebtRoomsModel", "owedAll", "()I"⟩, 44), (⟨"DebtRoomsModel", "pursesAll", "()I"⟩, 44), (⟨"DebtRoomsModel", "sayPerson", "(I)V"⟩, 44), (⟨"DebtRoomsModel", "say", "(J)V"⟩, 44), (⟨"DebtRoomsModel", "sayThings", "()V"⟩, 44)]
theorem lw_r7 : ∀ q ∈ lw_privs_7, lw_okq q := List.forall_mem_cons.mpr ⟨lw_p96, List.forall_mem_cons.mpr ⟨lw_p97, List.forall_mem_cons.mpr ⟨lw_p98, List.forall_mem_cons.mpr ⟨lw_p99, List.forall_mem_cons.mpr ⟨lw_p100, List.forall_mem_cons.mpr ⟨lw_p101, List.forall_mem_cons.mpr ⟨lw_p102, List.forall_mem_cons.mpr ⟨lw_p103, List.forall_mem_cons.mpr ⟨lw_p104, List.forall_mem_cons.mpr ⟨lw_p105, List.forall_mem_cons.mpr ⟨lw_p106, List.forall_mem_cons.mpr ⟨lw_p107, List.forall_mem_cons.mpr ⟨lw_p108, List.forall_mem_cons.mpr ⟨lw_p109, fun _ h => absurd h List.not_mem_nil⟩⟩⟩⟩⟩⟩⟩⟩⟩⟩⟩⟩⟩⟩
def lw_privs : List (MethodName × Nat) := lw_privs_1 ++ (lw_privs_2 ++ (lw_privs_3 ++ (lw_privs_4 ++ (lw_privs_5 ++ (lw_privs_6 ++ (lw_privs_7))))))
def lw_tbl : List Cond := k2_sels lw_privs ++ tables_1
theorem lw_privs_ok : ∀ q ∈ lw_privs, lw_okq q := by
  show ∀ q ∈ lw_privs_1 ++ (lw_privs_2 ++ (lw_privs_3 ++ (lw_privs_4 ++ (lw_privs_5 ++ (lw_privs_6 ++ (lw_privs_7)))))), lw_okq q
  exact List.forall_mem_append.mpr ⟨lw_r1, List.forall_mem_append.mpr ⟨lw_r2, List.forall_mem_append.mpr ⟨lw_r3, List.forall_mem_append.mpr ⟨lw_r4, List.forall_mem_append.mpr ⟨lw_r5, List.forall_mem_append.mpr ⟨lw_r6, lw_r7⟩⟩⟩⟩⟩⟩
end
section
def RX0 : String := "DebtRooms$Affairs"
def TX0 : u_T := fun k => match k with
  | 0 => ("DebtRooms$Affairs", "plan", "LDebtRooms$House;", true)
  | 1 => ("DebtRooms$Affairs", "purse", "[I", true)
  | 2 => ("DebtRooms$Affairs", "room", "[I", true)
  | 3 => ("DebtRooms$Affairs", "holder", "[I", true)
  | 4 => ("DebtRooms$Affairs", "sum", "[I", true)
  | 5 => ("DebtRooms$Affairs", "paid", "[Z", true)
  | 6 => ("DebtRooms$Affairs", "seenDebt", "[I", true)
  | 7 => ("DebtRooms$Affairs", "seenCould", "[Z", true)
  | 8 => ("DebtRooms$Affairs", "seen", "I", false)
  | _ => ("DebtRooms$Affairs", "gone", "I", false)
def tyX0 : Nat → FieldType := fun k => match k with
  | 0 => .object "DebtRooms$House"
  | 1 => .array .int
  | 2 => .array .int
  | 3 => .array .int
  | 4 => .array .int
  | 5 => .array .boolean
  | 6 => .array .int
  | 7 => .array .boolean
  | 8 => .int
  | _ => .int
theorem nmX0 : ∀ a, a < 10 → ∀ b, b < 10 → a ≠ b → (TX0 a).2.1 ≠ (TX0 b).2.1 := by decide +kernel
theorem tyX0_ok : ∀ k, k < 10 → parseFieldDescriptor (TX0 k).2.2.1 = some (tyX0 k) := by decide +kernel
abbrev cX0_init : ByteArray := prog_2_method_1_code
def yX0_init : MethodName := ⟨RX0, "<init>", "(LDebtRooms$House;)V"⟩
abbrev cX0_takeOver : ByteArray := prog_2_method_2_code
def yX0_takeOver : MethodName := ⟨RX0, "takeOver", "(LDebtRooms$Affairs;)V"⟩
abbrev cX0_mayPass : ByteArray := prog_2_method_3_code
def yX0_mayPass : MethodName := ⟨RX0, "mayPass", "(II)Z"⟩
abbrev cX0_mayGo : ByteArray := prog_2_method_4_code
def yX0_mayGo : MethodName := ⟨RX0, "mayGo", "(II)Z"⟩
abbrev cX0_goThrough : ByteArray := prog_2_method_5_code
def yX0_goThrough : MethodName := ⟨RX0, "goThrough", "(II)V"⟩
abbrev cX0_costOf : ByteArray := prog_2_method_6_code
def yX0_costOf : MethodName := ⟨RX0, "costOf", "(I)I"⟩
abbrev cX0_mayPay : ByteArray := prog_2_method_7_code
def yX0_mayPay : MethodName := ⟨RX0, "mayPay", "(I)Z"⟩
abbrev cX0_settle : ByteArray := prog_2_method_8_code
def yX0_settle : MethodName := ⟨RX0, "settle", "(I)V"⟩
abbrev cX0_payAll : ByteArray := prog_2_method_9_code
def yX0_payAll : MethodName := ⟨RX0, "payAll", "(IZ)I"⟩
abbrev cX0_owesStill : ByteArray := prog_2_method_10_code
def yX0_owesStill : MethodName := ⟨RX0, "owesStill", "(II)Z"⟩
abbrev cX0_costOfAll : ByteArray := prog_2_method_11_code
def yX0_costOfAll : MethodName := ⟨RX0, "costOfAll", "(I)I"⟩
abbrev cX0_payWhoCan : ByteArray := prog_2_method_12_code
def yX0_payWhoCan : MethodName := ⟨RX0, "payWhoCan", "()I"⟩
abbrev cX0_settleAll : ByteArray := prog_2_method_13_code
def yX0_settleAll : MethodName := ⟨RX0, "settleAll", "(I)V"⟩
abbrev cX0_keyBits : ByteArray := prog_2_method_14_code
def yX0_keyBits : MethodName := ⟨RX0, "keyBits", "(I)I"⟩
abbrev cX0_doorBits : ByteArray := prog_2_method_15_code
def yX0_doorBits : MethodName := ⟨RX0, "doorBits", "(I)I"⟩
abbrev cX0_payableBits : ByteArray := prog_2_method_16_code
def yX0_payableBits : MethodName := ⟨RX0, "payableBits", "(I)I"⟩
abbrev cX0_standing : ByteArray := prog_2_method_17_code
def yX0_standing : MethodName := ⟨RX0, "standing", "(I)I"⟩
abbrev cX0_purseBits : ByteArray := prog_2_method_18_code
def yX0_purseBits : MethodName := ⟨RX0, "purseBits", "(I)I"⟩
abbrev cX0_tooPoorBits : ByteArray := prog_2_method_19_code
def yX0_tooPoorBits : MethodName := ⟨RX0, "tooPoorBits", "(I)I"⟩
abbrev cX0_debtToPress : ByteArray := prog_2_method_20_code
def yX0_debtToPress : MethodName := ⟨RX0, "debtToPress", "(I)I"⟩
abbrev cX0_paidDebts : ByteArray := prog_2_method_21_code
def yX0_paidDebts : MethodName := ⟨RX0, "paidDebts", "()I"⟩
abbrev cX0_sumsNotPaid : ByteArray := prog_2_method_22_code
def yX0_sumsNotPaid : MethodName := ⟨RX0, "sumsNotPaid", "()I"⟩
abbrev cX0_allPurses : ByteArray := prog_2_method_23_code
def yX0_allPurses : MethodName := ⟨RX0, "allPurses", "()I"⟩
def RX1 : String := "DebtRooms$Blind"
def TX1 : u_T := fun k => match k with
  | _ => ("", "", "", false)
def tyX1 : Nat → FieldType := fun k => match k with
  | _ => .int
theorem nmX1 : ∀ a, a < 0 → ∀ b, b < 0 → a ≠ b → (TX1 a).2.1 ≠ (TX1 b).2.1 := by decide +kernel
theorem tyX1_ok : ∀ k, k < 0 → parseFieldDescriptor (TX1 k).2.2.1 = some (tyX1 k) := by decide +kernel
abbrev cX1_init : ByteArray := prog_3_method_1_code
def yX1_init : MethodName := ⟨RX1, "<init>", "()V"⟩
abbrev cX1_number : ByteArray := prog_3_method_2_code
def yX1_number : MethodName := ⟨RX1, "number", "()I"⟩
abbrev cX1_passes : ByteArray := prog_3_method_3_code
def yX1_passes : MethodName := ⟨RX1, "passes", "(ZZ)Z"⟩
def RX2 : String := "DebtRooms$Duke"
def TX2 : u_T := fun k => match k with
  | _ => ("", "", "", false)
def tyX2 : Nat → FieldType := fun k => match k with
  | _ => .int
theorem nmX2 : ∀ a, a < 0 → ∀ b, b < 0 → a ≠ b → (TX2 a).2.1 ≠ (TX2 b).2.1 := by decide +kernel
theorem tyX2_ok : ∀ k, k < 0 → parseFieldDescriptor (TX2 k).2.2.1 = some (tyX2 k) := by decide +kernel
abbrev cX2_init : ByteArray := prog_4_method_1_code
def yX2_init : MethodName := ⟨RX2, "<init>", "()V"⟩
abbrev cX2_number : ByteArray := prog_4_method_2_code
def yX2_number : MethodName := ⟨RX2, "number", "()I"⟩
abbrev cX2_costOfSum : ByteArray := prog_4_method_3_code
def yX2_costOfSum : MethodName := ⟨RX2, "costOfSum", "(I)I"⟩
def RX3 : String := "DebtRooms$Heir"
def TX3 : u_T := fun k => match k with
  | _ => ("", "", "", false)
def tyX3 : Nat → FieldType := fun k => match k with
  | _ => .int
theorem nmX3 : ∀ a, a < 0 → ∀ b, b < 0 → a ≠ b → (TX3 a).2.1 ≠ (TX3 b).2.1 := by decide +kernel
theorem tyX3_ok : ∀ k, k < 0 → parseFieldDescriptor (TX3 k).2.2.1 = some (tyX3 k) := by decide +kernel
abbrev cX3_init : ByteArray := prog_5_method_1_code
def yX3_init : MethodName := ⟨RX3, "<init>", "()V"⟩
abbrev cX3_number : ByteArray := prog_5_method_2_code
def yX3_number : MethodName := ⟨RX3, "number", "()I"⟩
abbrev cX3_mayPayFrom : ByteArray := prog_5_method_3_code
def yX3_mayPayFrom : MethodName := ⟨RX3, "mayPayFrom", "(ZZ)Z"⟩
def RX4 : String := "DebtRooms$House"
def TX4 : u_T := fun k => match k with
  | 0 => ("DebtRooms$House", "rooms", "I", false)
  | 1 => ("DebtRooms$House", "doors", "I", false)
  | 2 => ("DebtRooms$House", "people", "I", false)
  | 3 => ("DebtRooms$House", "debts", "I", false)
  | 4 => ("DebtRooms$House", "oneEnd", "[I", true)
  | 5 => ("DebtRooms$House", "otherEnd", "[I", true)
  | 6 => ("DebtRooms$House", "lock", "[I", true)
  | 7 => ("DebtRooms$House", "kinds", "[LDebtRooms$Person;", true)
  | 8 => ("DebtRooms$House", "debtor", "[I", true)
  | 9 => ("DebtRooms$House", "creditor", "[I", true)
  | _ => ("DebtRooms$House", "debtRoom", "[I", true)
def tyX4 : Nat → FieldType := fun k => match k with
  | 0 => .int
  | 1 => .int
  | 2 => .int
  | 3 => .int
  | 4 => .array .int
  | 5 => .array .int
  | 6 => .array .int
  | 7 => .array (.object "DebtRooms$Person")
  | 8 => .array .int
  | 9 => .array .int
  | _ => .array .int
theorem nmX4 : ∀ a, a < 11 → ∀ b, b < 11 → a ≠ b → (TX4 a).2.1 ≠ (TX4 b).2.1 := by decide +kernel
theorem tyX4_ok : ∀ k, k < 11 → parseFieldDescriptor (TX4 k).2.2.1 = some (tyX4 k) := by decide +kernel
abbrev cX4_init : ByteArray := prog_6_method_1_code
def yX4_init : MethodName := ⟨RX4, "<init>", "()V"⟩
abbrev cX4_newOfKind : ByteArray := prog_6_method_2_code
def yX4_newOfKind : MethodName := ⟨RX4, "newOfKind", "(I)LDebtRooms$Person;"⟩
abbrev cX4_isOfKind : ByteArray := prog_6_method_3_code
def yX4_isOfKind : MethodName := ⟨RX4, "isOfKind", "(II)Z"⟩
abbrev cX4_doorEndsAt : ByteArray := prog_6_method_4_code
def yX4_doorEndsAt : MethodName := ⟨RX4, "doorEndsAt", "(II)Z"⟩
abbrev cX4_roomBeyond : ByteArray := prog_6_method_5_code
def yX4_roomBeyond : MethodName := ⟨RX4, "roomBeyond", "(II)I"⟩
def RX5 : String := "DebtRooms$Nights"
def TX5 : u_T := fun k => match k with
  | 0 => ("DebtRooms$Nights", "plan", "LDebtRooms$House;", true)
  | 1 => ("DebtRooms$Nights", "levels", "[LDebtRooms$Affairs;", true)
  | 2 => ("DebtRooms$Nights", "path", "[I", true)
  | 3 => ("DebtRooms$Nights", "best", "[I", true)
  | _ => ("DebtRooms$Nights", "most", "I", false)
def tyX5 : Nat → FieldType := fun k => match k with
  | 0 => .object "DebtRooms$House"
  | 1 => .array (.object "DebtRooms$Affairs")
  | 2 => .array .int
  | 3 => .array .int
  | _ => .int
theorem nmX5 : ∀ a, a < 5 → ∀ b, b < 5 → a ≠ b → (TX5 a).2.1 ≠ (TX5 b).2.1 := by decide +kernel
theorem tyX5_ok : ∀ k, k < 5 → parseFieldDescriptor (TX5 k).2.2.1 = some (tyX5 k) := by decide +kernel
abbrev cX5_init : ByteArray := prog_7_method_1_code
def yX5_init : MethodName := ⟨RX5, "<init>", "(LDebtRooms$House;)V"⟩
abbrev cX5_search : ByteArray := prog_7_method_2_code
def yX5_search : MethodName := ⟨RX5, "search", "(LDebtRooms$Affairs;II)V"⟩
abbrev cX5_doorAt : ByteArray := prog_7_method_3_code
def yX5_doorAt : MethodName := ⟨RX5, "doorAt", "(II)I"⟩
abbrev cX5_goOn : ByteArray := prog_7_method_4_code
def yX5_goOn : MethodName := ⟨RX5, "goOn", "(LDebtRooms$Nights;IIII)V"⟩
abbrev cX5_keepIfMore : ByteArray := prog_7_method_5_code
def yX5_keepIfMore : MethodName := ⟨RX5, "keepIfMore", "(I)V"⟩
def RX6 : String := "DebtRooms$Page"
def TX6 : u_T := fun k => match k with
  | 0 => ("DebtRooms$Page", "letters", "[I", true)
  | 1 => ("DebtRooms$Page", "length", "I", false)
  | 2 => ("DebtRooms$Page", "faultAt", "I", false)
  | 3 => ("DebtRooms$Page", "isWhole", "Z", false)
  | 4 => ("DebtRooms$Page", "part", "I", false)
  | 5 => ("DebtRooms$Page", "field", "I", false)
  | 6 => ("DebtRooms$Page", "first", "I", false)
  | 7 => ("DebtRooms$Page", "rooms", "I", false)
  | 8 => ("DebtRooms$Page", "doors", "I", false)
  | 9 => ("DebtRooms$Page", "people", "I", false)
  | _ => ("DebtRooms$Page", "debts", "I", false)
def tyX6 : Nat → FieldType := fun k => match k with
  | 0 => .array .int
  | 1 => .int
  | 2 => .int
  | 3 => .boolean
  | 4 => .int
  | 5 => .int
  | 6 => .int
  | 7 => .int
  | 8 => .int
  | 9 => .int
  | _ => .int
theorem nmX6 : ∀ a, a < 11 → ∀ b, b < 11 → a ≠ b → (TX6 a).2.1 ≠ (TX6 b).2.1 := by decide +kernel
theorem tyX6_ok : ∀ k, k < 11 → parseFieldDescriptor (TX6 k).2.2.1 = some (tyX6 k) := by decide +kernel
abbrev cX6_init : ByteArray := prog_8_method_1_code
def yX6_init : MethodName := ⟨RX6, "<init>", "()V"⟩
abbrev cX6_append : ByteArray := prog_8_method_2_code
def yX6_append : MethodName := ⟨RX6, "append", "(I)Z"⟩
abbrev cX6_scan : ByteArray := prog_8_method_3_code
def yX6_scan : MethodName := ⟨RX6, "scan", "()V"⟩
abbrev cX6_takes : ByteArray := prog_8_method_4_code
def yX6_takes : MethodName := ⟨RX6, "takes", "(C)Z"⟩
abbrev cX6_takesInRooms : ByteArray := prog_8_method_5_code
def yX6_takesInRooms : MethodName := ⟨RX6, "takesInRooms", "(C)Z"⟩
abbrev cX6_takesInDoors : ByteArray := prog_8_method_6_code
def yX6_takesInDoors : MethodName := ⟨RX6, "takesInDoors", "(C)Z"⟩
abbrev cX6_takesInPeople : ByteArray := prog_8_method_7_code
def yX6_takesInPeople : MethodName := ⟨RX6, "takesInPeople", "(C)Z"⟩
abbrev cX6_takesInDebts : ByteArray := prog_8_method_8_code
def yX6_takesInDebts : MethodName := ⟨RX6, "takesInDebts", "(C)Z"⟩
abbrev cX6_takesFirst : ByteArray := prog_8_method_9_code
def yX6_takesFirst : MethodName := ⟨RX6, "takesFirst", "(CI)Z"⟩
abbrev cX6_takesOther : ByteArray := prog_8_method_10_code
def yX6_takesOther : MethodName := ⟨RX6, "takesOther", "(CI)Z"⟩
abbrev cX6_takesIf : ByteArray := prog_8_method_11_code
def yX6_takesIf : MethodName := ⟨RX6, "takesIf", "(Z)Z"⟩
abbrev cX6_opens : ByteArray := prog_8_method_12_code
def yX6_opens : MethodName := ⟨RX6, "opens", "(I)Z"⟩
abbrev cX6_isDigitBelow : ByteArray := prog_8_method_13_code
def yX6_isDigitBelow : MethodName := ⟨RX6, "isDigitBelow", "(CI)Z"⟩
abbrev cX6_digitAt : ByteArray := prog_8_method_14_code
def yX6_digitAt : MethodName := ⟨RX6, "digitAt", "(I)I"⟩
abbrev cX6_placeIn : ByteArray := prog_8_method_15_code
def yX6_placeIn : MethodName := ⟨RX6, "placeIn", "(Ljava/lang/String;I)I"⟩
abbrev cX6_peopleAt : ByteArray := prog_8_method_16_code
def yX6_peopleAt : MethodName := ⟨RX6, "peopleAt", "()I"⟩
abbrev cX6_debtsAt : ByteArray := prog_8_method_17_code
def yX6_debtsAt : MethodName := ⟨RX6, "debtsAt", "()I"⟩
abbrev cX6_readHouse : ByteArray := prog_8_method_18_code
def yX6_readHouse : MethodName := ⟨RX6, "readHouse", "(LDebtRooms$House;)V"⟩
abbrev cX6_readAffairs : ByteArray := prog_8_method_19_code
def yX6_readAffairs : MethodName := ⟨RX6, "readAffairs", "(LDebtRooms$Affairs;)V"⟩
def RX7 : String := "DebtRooms$Person"
def TX7 : u_T := fun k => match k with
  | _ => ("", "", "", false)
def tyX7 : Nat → FieldType := fun k => match k with
  | _ => .int
theorem nmX7 : ∀ a, a < 0 → ∀ b, b < 0 → a ≠ b → (TX7 a).2.1 ≠ (TX7 b).2.1 := by decide +kernel
theorem tyX7_ok : ∀ k, k < 0 → parseFieldDescriptor (TX7 k).2.2.1 = some (tyX7 k) := by decide +kernel
abbrev cX7_init : ByteArray := prog_9_method_1_code
def yX7_init : MethodName := ⟨RX7, "<init>", "()V"⟩
abbrev cX7_number : ByteArray := prog_9_method_2_code
def yX7_number : MethodName := ⟨RX7, "number", "()I"⟩
abbrev cX7_passes : ByteArray := prog_9_method_3_code
def yX7_passes : MethodName := ⟨RX7, "passes", "(ZZ)Z"⟩
abbrev cX7_costOfSum : ByteArray := prog_9_method_4_code
def yX7_costOfSum : MethodName := ⟨RX7, "costOfSum", "(I)I"⟩
abbrev cX7_mayPayFrom : ByteArray := prog_9_method_5_code
def yX7_mayPayFrom : MethodName := ⟨RX7, "mayPayFrom", "(ZZ)Z"⟩
def RX8 : String := "DebtRooms$Rich"
def TX8 : u_T := fun k => match k with
  | _ => ("", "", "", false)
def tyX8 : Nat → FieldType := fun k => match k with
  | _ => .int
theorem nmX8 : ∀ a, a < 0 → ∀ b, b < 0 → a ≠ b → (TX8 a).2.1 ≠ (TX8 b).2.1 := by decide +kernel
theorem tyX8_ok : ∀ k, k < 0 → parseFieldDescriptor (TX8 k).2.2.1 = some (tyX8 k) := by decide +kernel
abbrev cX8_init : ByteArray := prog_10_method_1_code
def yX8_init : MethodName := ⟨RX8, "<init>", "()V"⟩
abbrev cX8_number : ByteArray := prog_10_method_2_code
def yX8_number : MethodName := ⟨RX8, "number", "()I"⟩
abbrev cX8_passes : ByteArray := prog_10_method_3_code
def yX8_passes : MethodName := ⟨RX8, "passes", "(ZZ)Z"⟩
abbrev cX8_costOfSum : ByteArray := prog_10_method_4_code
def yX8_costOfSum : MethodName := ⟨RX8, "costOfSum", "(I)I"⟩
abbrev cX8_mayPayFrom : ByteArray := prog_10_method_5_code
def yX8_mayPayFrom : MethodName := ⟨RX8, "mayPayFrom", "(ZZ)Z"⟩
def RX9 : String := "DebtRooms$Rings"
def TX9 : u_T := fun k => match k with
  | 0 => ("DebtRooms$Rings", "plan", "LDebtRooms$House;", true)
  | 1 => ("DebtRooms$Rings", "limit", "[I", true)
  | 2 => ("DebtRooms$Rings", "less", "[I", true)
  | 3 => ("DebtRooms$Rings", "best", "[I", true)
  | 4 => ("DebtRooms$Rings", "lastDebt", "[I", true)
  | 5 => ("DebtRooms$Rings", "uneven", "[I", true)
  | _ => ("DebtRooms$Rings", "most", "I", false)
def tyX9 : Nat → FieldType := fun k => match k with
  | 0 => .object "DebtRooms$House"
  | 1 => .array .int
  | 2 => .array .int
  | 3 => .array .int
  | 4 => .array .int
  | 5 => .array .int
  | _ => .int
theorem nmX9 : ∀ a, a < 7 → ∀ b, b < 7 → a ≠ b → (TX9 a).2.1 ≠ (TX9 b).2.1 := by decide +kernel
theorem tyX9_ok : ∀ k, k < 7 → parseFieldDescriptor (TX9 k).2.2.1 = some (tyX9 k) := by decide +kernel
abbrev cX9_init : ByteArray := prog_11_method_1_code
def yX9_init : MethodName := ⟨RX9, "<init>", "(LDebtRooms$House;)V"⟩
abbrev cX9_search : ByteArray := prog_11_method_2_code
def yX9_search : MethodName := ⟨RX9, "search", "(LDebtRooms$Affairs;I)V"⟩
abbrev cX9_lessen : ByteArray := prog_11_method_3_code
def yX9_lessen : MethodName := ⟨RX9, "lessen", "(LDebtRooms$Rings;II)V"⟩
abbrev cX9_keepIfMore : ByteArray := prog_11_method_4_code
def yX9_keepIfMore : MethodName := ⟨RX9, "keepIfMore", "(I)V"⟩
def RX10 : String := "DebtRooms$Walks"
def TX10 : u_T := fun k => match k with
  | 0 => ("DebtRooms$Walks", "plan", "LDebtRooms$House;", true)
  | 1 => ("DebtRooms$Walks", "far", "[I", true)
  | 2 => ("DebtRooms$Walks", "parts", "[I", true)
  | _ => ("DebtRooms$Walks", "next", "[I", true)
def tyX10 : Nat → FieldType := fun k => match k with
  | 0 => .object "DebtRooms$House"
  | 1 => .array .int
  | 2 => .array .int
  | _ => .array .int
theorem nmX10 : ∀ a, a < 4 → ∀ b, b < 4 → a ≠ b → (TX10 a).2.1 ≠ (TX10 b).2.1 := by decide +kernel
theorem tyX10_ok : ∀ k, k < 4 → parseFieldDescriptor (TX10 k).2.2.1 = some (tyX10 k) := by decide +kernel
abbrev cX10_init : ByteArray := prog_12_method_1_code
def yX10_init : MethodName := ⟨RX10, "<init>", "(LDebtRooms$House;)V"⟩
abbrev cX10_wayLength : ByteArray := prog_12_method_2_code
def yX10_wayLength : MethodName := ⟨RX10, "wayLength", "(LDebtRooms$Affairs;II)I"⟩
abbrev cX10_wayDoor : ByteArray := prog_12_method_3_code
def yX10_wayDoor : MethodName := ⟨RX10, "wayDoor", "(LDebtRooms$Affairs;III)I"⟩
abbrev cX10_measure : ByteArray := prog_12_method_4_code
def yX10_measure : MethodName := ⟨RX10, "measure", "(LDebtRooms$Affairs;II)V"⟩
abbrev cX10_shorten : ByteArray := prog_12_method_5_code
def yX10_shorten : MethodName := ⟨RX10, "shorten", "(II)V"⟩
abbrev cX10_doorNearer : ByteArray := prog_12_method_6_code
def yX10_doorNearer : MethodName := ⟨RX10, "doorNearer", "(LDebtRooms$Affairs;II)I"⟩
abbrev cX10_metParts : ByteArray := prog_12_method_7_code
def yX10_metParts : MethodName := ⟨RX10, "metParts", "(LDebtRooms$Affairs;III)I"⟩
abbrev cX10_spread : ByteArray := prog_12_method_8_code
def yX10_spread : MethodName := ⟨RX10, "spread", "(LDebtRooms$Affairs;I)V"⟩
abbrev cX10_spreadFrom : ByteArray := prog_12_method_9_code
def yX10_spreadFrom : MethodName := ⟨RX10, "spreadFrom", "(LDebtRooms$Affairs;II)V"⟩
def RX11 : String := "DebtRooms"
def TX11 : u_T := fun k => match k with
  | 0 => ("DebtRooms", "page", "LDebtRooms$Page;", true)
  | 1 => ("DebtRooms", "plan", "LDebtRooms$House;", true)
  | 2 => ("DebtRooms", "now", "LDebtRooms$Affairs;", true)
  | 3 => ("DebtRooms", "kept", "LDebtRooms$Affairs;", true)
  | 4 => ("DebtRooms", "trial", "LDebtRooms$Affairs;", true)
  | 5 => ("DebtRooms", "walks", "LDebtRooms$Walks;", true)
  | 6 => ("DebtRooms", "nights", "LDebtRooms$Nights;", true)
  | 7 => ("DebtRooms", "rings", "LDebtRooms$Rings;", true)
  | 8 => ("DebtRooms", "isKept", "Z", false)
  | _ => ("DebtRooms", "readings", "I", false)
def tyX11 : Nat → FieldType := fun k => match k with
  | 0 => .object "DebtRooms$Page"
  | 1 => .object "DebtRooms$House"
  | 2 => .object "DebtRooms$Affairs"
  | 3 => .object "DebtRooms$Affairs"
  | 4 => .object "DebtRooms$Affairs"
  | 5 => .object "DebtRooms$Walks"
  | 6 => .object "DebtRooms$Nights"
  | 7 => .object "DebtRooms$Rings"
  | 8 => .boolean
  | _ => .int
theorem nmX11 : ∀ a, a < 10 → ∀ b, b < 10 → a ≠ b → (TX11 a).2.1 ≠ (TX11 b).2.1 := by decide +kernel
theorem tyX11_ok : ∀ k, k < 10 → parseFieldDescriptor (TX11 k).2.2.1 = some (tyX11 k) := by decide +kernel
abbrev cX11_init : ByteArray := prog_1_method_1_code
def yX11_init : MethodName := ⟨RX11, "<init>", "()V"⟩
abbrev cX11_letter : ByteArray := prog_1_method_2_code
def yX11_letter : MethodName := ⟨RX11, "letter", "(I)I"⟩
abbrev cX11_blank : ByteArray := prog_1_method_3_code
def yX11_blank : MethodName := ⟨RX11, "blank", "()I"⟩
abbrev cX11_fault : ByteArray := prog_1_method_4_code
def yX11_fault : MethodName := ⟨RX11, "fault", "()I"⟩
abbrev cX11_house : ByteArray := prog_1_method_5_code
def yX11_house : MethodName := ⟨RX11, "house", "()I"⟩
abbrev cX11_person : ByteArray := prog_1_method_6_code
def yX11_person : MethodName := ⟨RX11, "person", "(II)I"⟩
abbrev cX11_as : ByteArray := prog_1_method_7_code
def yX11_as : MethodName := ⟨RX11, "as", "(II)I"⟩
abbrev cX11_door : ByteArray := prog_1_method_8_code
def yX11_door : MethodName := ⟨RX11, "door", "(II)I"⟩
abbrev cX11_debt : ByteArray := prog_1_method_9_code
def yX11_debt : MethodName := ⟨RX11, "debt", "(II)I"⟩
abbrev cX11_go : ByteArray := prog_1_method_10_code
def yX11_go : MethodName := ⟨RX11, "go", "(II)I"⟩
abbrev cX11_give : ByteArray := prog_1_method_11_code
def yX11_give : MethodName := ⟨RX11, "give", "(II)I"⟩
abbrev cX11_pay : ByteArray := prog_1_method_12_code
def yX11_pay : MethodName := ⟨RX11, "pay", "(I)I"⟩
abbrev cX11_earn : ByteArray := prog_1_method_13_code
def yX11_earn : MethodName := ⟨RX11, "earn", "(II)I"⟩
abbrev cX11_owe : ByteArray := prog_1_method_14_code
def yX11_owe : MethodName := ⟨RX11, "owe", "(II)I"⟩
abbrev cX11_way : ByteArray := prog_1_method_15_code
def yX11_way : MethodName := ⟨RX11, "way", "(III)I"⟩
abbrev cX11_night : ByteArray := prog_1_method_16_code
def yX11_night : MethodName := ⟨RX11, "night", "(III)I"⟩
abbrev cX11_cancel : ByteArray := prog_1_method_17_code
def yX11_cancel : MethodName := ⟨RX11, "cancel", "(II)I"⟩
abbrev cX11_sound : ByteArray := prog_1_method_18_code
def yX11_sound : MethodName := ⟨RX11, "sound", "()I"⟩
abbrev cX11_met : ByteArray := prog_1_method_19_code
def yX11_met : MethodName := ⟨RX11, "met", "(IIII)I"⟩
abbrev cX11_see : ByteArray := prog_1_method_20_code
def yX11_see : MethodName := ⟨RX11, "see", "(IZ)I"⟩
abbrev cX11_forget : ByteArray := prog_1_method_21_code
def yX11_forget : MethodName := ⟨RX11, "forget", "()I"⟩
abbrev cX11_winters : ByteArray := prog_1_method_22_code
def yX11_winters : MethodName := ⟨RX11, "winters", "(III)I"⟩
abbrev cX11_image : ByteArray := prog_1_method_23_code
def yX11_image : MethodName := ⟨RX11, "image", "()I"⟩
abbrev cX11_restore : ByteArray := prog_1_method_24_code
def yX11_restore : MethodName := ⟨RX11, "restore", "()I"⟩
abbrev cX11_count : ByteArray := prog_1_method_25_code
def yX11_count : MethodName := ⟨RX11, "count", "(I)I"⟩
abbrev cX11_digest : ByteArray := prog_1_method_26_code
def yX11_digest : MethodName := ⟨RX11, "digest", "()J"⟩
abbrev cX11_mixPerson : ByteArray := prog_1_method_27_code
def yX11_mixPerson : MethodName := ⟨RX11, "mixPerson", "(JI)J"⟩
abbrev cX11_mix : ByteArray := prog_1_method_28_code
def yX11_mix : MethodName := ⟨RX11, "mix", "(JI)J"⟩
abbrev cX11_isNobody : ByteArray := prog_1_method_29_code
def yX11_isNobody : MethodName := ⟨RX11, "isNobody", "(I)Z"⟩
abbrev cX11_isNoDoor : ByteArray := prog_1_method_30_code
def yX11_isNoDoor : MethodName := ⟨RX11, "isNoDoor", "(I)Z"⟩
abbrev cX11_isNoDebt : ByteArray := prog_1_method_31_code
def yX11_isNoDebt : MethodName := ⟨RX11, "isNoDebt", "(I)Z"⟩
abbrev cX11_isNoRoom : ByteArray := prog_1_method_32_code
def yX11_isNoRoom : MethodName := ⟨RX11, "isNoRoom", "(I)Z"⟩
abbrev cX11_nextSeed : ByteArray := prog_1_method_33_code
def yX11_nextSeed : MethodName := ⟨RX11, "nextSeed", "(I)I"⟩
abbrev cX11_commonDivisor : ByteArray := prog_1_method_34_code
def yX11_commonDivisor : MethodName := ⟨RX11, "commonDivisor", "(II)I"⟩
def RX12 : String := "DebtRoomsModel"
def TX12 : u_T := fun k => match k with
  | 0 => ("DebtRoomsModel", "page", "[I", true)
  | 1 => ("DebtRoomsModel", "pageMany", "I", false)
  | 2 => ("DebtRoomsModel", "doorsEnd", "I", false)
  | 3 => ("DebtRoomsModel", "peopleEnd", "I", false)
  | 4 => ("DebtRoomsModel", "rooms", "I", false)
  | 5 => ("DebtRoomsModel", "doors", "I", false)
  | 6 => ("DebtRoomsModel", "people", "I", false)
  | 7 => ("DebtRoomsModel", "debts", "I", false)
  | 8 => ("DebtRoomsModel", "gone", "I", false)
  | 9 => ("DebtRoomsModel", "housesRead", "I", false)
  | 10 => ("DebtRoomsModel", "one", "[I", true)
  | 11 => ("DebtRoomsModel", "other", "[I", true)
  | 12 => ("DebtRoomsModel", "locks", "[I", true)
  | 13 => ("DebtRoomsModel", "kinds", "[I", true)
  | 14 => ("DebtRoomsModel", "purses", "[I", true)
  | 15 => ("DebtRoomsModel", "places", "[I", true)
  | 16 => ("DebtRoomsModel", "keys", "[I", true)
  | 17 => ("DebtRoomsModel", "owers", "[I", true)
  | 18 => ("DebtRoomsModel", "owed", "[I", true)
  | 19 => ("DebtRoomsModel", "debtRooms", "[I", true)
  | 20 => ("DebtRoomsModel", "sums", "[I", true)
  | 21 => ("DebtRoomsModel", "paid", "[I", true)
  | 22 => ("DebtRoomsModel", "pursesThen", "[I", true)
  | 23 => ("DebtRoomsModel", "placesThen", "[I", true)
  | 24 => ("DebtRoomsModel", "paidThen", "[I", true)
  | 25 => ("DebtRoomsModel", "far", "[I", true)
  | 26 => ("DebtRoomsModel", "less", "[I", true)
  | 27 => ("DebtRoomsModel", "balance", "[I", true)
  | 28 => ("DebtRoomsModel", "bestLess", "[I", true)
  | 29 => ("DebtRoomsModel", "ways", "[I", true)
  | 30 => ("DebtRoomsModel", "waysThen", "[I", true)
  | 31 => ("DebtRoomsModel", "seenMany", "I", false)
  | 32 => ("DebtRoomsModel", "sights", "[I", true)
  | 33 => ("DebtRoomsModel", "seedNow", "I", false)
  | 34 => ("DebtRoomsModel", "keptHouse", "I", false)
  | 35 => ("DebtRoomsModel", "keptGone", "I", false)
  | 36 => ("DebtRoomsModel", "keptSeen", "I", false)
  | 37 => ("DebtRoomsModel", "keptPurses", "[I", true)
  | 38 => ("DebtRoomsModel", "keptPlaces", "[I", true)
  | 39 => ("DebtRoomsModel", "keptKeys", "[I", true)
  | 40 => ("DebtRoomsModel", "keptSums", "[I", true)
  | 41 => ("DebtRoomsModel", "keptPaid", "[I", true)
  | 42 => ("DebtRoomsModel", "keptSights", "[I", true)
  | _ => ("DebtRoomsModel", "hash", "J", false)
def tyX12 : Nat → FieldType := fun k => match k with
  | 0 => .array .int
  | 1 => .int
  | 2 => .int
  | 3 => .int
  | 4 => .int
  | 5 => .int
  | 6 => .int
  | 7 => .int
  | 8 => .int
  | 9 => .int
  | 10 => .array .int
  | 11 => .array .int
  | 12 => .array .int
  | 13 => .array .int
  | 14 => .array .int
  | 15 => .array .int
  | 16 => .array .int
  | 17 => .array .int
  | 18 => .array .int
  | 19 => .array .int
  | 20 => .array .int
  | 21 => .array .int
  | 22 => .array .int
  | 23 => .array .int
  | 24 => .array .int
  | 25 => .array .int
  | 26 => .array .int
  | 27 => .array .int
  | 28 => .array .int
  | 29 => .array .int
  | 30 => .array .int
  | 31 => .int
  | 32 => .array .int
  | 33 => .int
  | 34 => .int
  | 35 => .int
  | 36 => .int
  | 37 => .array .int
  | 38 => .array .int
  | 39 => .array .int
  | 40 => .array .int
  | 41 => .array .int
  | 42 => .array .int
  | _ => .long
theorem nmX12 : ∀ a, a < 44 → ∀ b, b < 44 → a ≠ b → (TX12 a).2.1 ≠ (TX12 b).2.1 := by decide +kernel
theorem tyX12_ok : ∀ k, k < 44 → parseFieldDescriptor (TX12 k).2.2.1 = some (tyX12 k) := by decide +kernel
abbrev cX12_init : ByteArray := prog_14_method_1_code
def yX12_init : MethodName := ⟨RX12, "<init>", "()V"⟩
abbrev cX12_in : ByteArray := prog_14_method_2_code
def yX12_in : MethodName := ⟨RX12, "in", "(JJJ)Z"⟩
abbrev cX12_copy : ByteArray := prog_14_method_3_code
def yX12_copy : MethodName := ⟨RX12, "copy", "([I[I)V"⟩
abbrev cX12_letter : ByteArray := prog_14_method_4_code
def yX12_letter : MethodName := ⟨RX12, "letter", "(I)I"⟩
abbrev cX12_blank : ByteArray := prog_14_method_5_code
def yX12_blank : MethodName := ⟨RX12, "blank", "()I"⟩
abbrev cX12_kindBy : ByteArray := prog_14_method_6_code
def yX12_kindBy : MethodName := ⟨RX12, "kindBy", "(I)I"⟩
abbrev cX12_lockBy : ByteArray := prog_14_method_7_code
def yX12_lockBy : MethodName := ⟨RX12, "lockBy", "(I)I"⟩
abbrev cX12_isRoomLetter : ByteArray := prog_14_method_8_code
def yX12_isRoomLetter : MethodName := ⟨RX12, "isRoomLetter", "(I)Z"⟩
abbrev cX12_isDoorLetter : ByteArray := prog_14_method_9_code
def yX12_isDoorLetter : MethodName := ⟨RX12, "isDoorLetter", "(I)Z"⟩
abbrev cX12_isPersonLetter : ByteArray := prog_14_method_10_code
def yX12_isPersonLetter : MethodName := ⟨RX12, "isPersonLetter", "(I)Z"⟩
abbrev cX12_isPersonDigit : ByteArray := prog_14_method_11_code
def yX12_isPersonDigit : MethodName := ⟨RX12, "isPersonDigit", "(I)Z"⟩
abbrev cX12_isDebtLetter : ByteArray := prog_14_method_12_code
def yX12_isDebtLetter : MethodName := ⟨RX12, "isDebtLetter", "(I)Z"⟩
abbrev cX12_isGood : ByteArray := prog_14_method_13_code
def yX12_isGood : MethodName := ⟨RX12, "isGood", "(I)Z"⟩
abbrev cX12_faultOf : ByteArray := prog_14_method_14_code
def yX12_faultOf : MethodName := ⟨RX12, "faultOf", "()I"⟩
abbrev cX12_fault : ByteArray := prog_14_method_15_code
def yX12_fault : MethodName := ⟨RX12, "fault", "()I"⟩
abbrev cX12_house : ByteArray := prog_14_method_16_code
def yX12_house : MethodName := ⟨RX12, "house", "()I"⟩
abbrev cX12_lacks : ByteArray := prog_14_method_17_code
def yX12_lacks : MethodName := ⟨RX12, "lacks", "()Z"⟩
abbrev cX12_isPerson : ByteArray := prog_14_method_18_code
def yX12_isPerson : MethodName := ⟨RX12, "isPerson", "(I)Z"⟩
abbrev cX12_isDoor : ByteArray := prog_14_method_19_code
def yX12_isDoor : MethodName := ⟨RX12, "isDoor", "(I)Z"⟩
abbrev cX12_isDebt : ByteArray := prog_14_method_20_code
def yX12_isDebt : MethodName := ⟨RX12, "isDebt", "(I)Z"⟩
abbrev cX12_isRoom : ByteArray := prog_14_method_21_code
def yX12_isRoom : MethodName := ⟨RX12, "isRoom", "(I)Z"⟩
abbrev cX12_isRich : ByteArray := prog_14_method_22_code
def yX12_isRich : MethodName := ⟨RX12, "isRich", "(I)Z"⟩
abbrev cX12_costs : ByteArray := prog_14_method_23_code
def yX12_costs : MethodName := ⟨RX12, "costs", "(I)I"⟩
abbrev cX12_begin : ByteArray := prog_14_method_24_code
def yX12_begin : MethodName := ⟨RX12, "begin", "()V"⟩
abbrev cX12_through : ByteArray := prog_14_method_25_code
def yX12_through : MethodName := ⟨RX12, "through", "(III)I"⟩
abbrev cX12_mayThen : ByteArray := prog_14_method_26_code
def yX12_mayThen : MethodName := ⟨RX12, "mayThen", "(I)Z"⟩
abbrev cX12_payThen : ByteArray := prog_14_method_27_code
def yX12_payThen : MethodName := ⟨RX12, "payThen", "(I)V"⟩
abbrev cX12_keysOf : ByteArray := prog_14_method_28_code
def yX12_keysOf : MethodName := ⟨RX12, "keysOf", "(I)I"⟩
abbrev cX12_doorsOf : ByteArray := prog_14_method_29_code
def yX12_doorsOf : MethodName := ⟨RX12, "doorsOf", "(I)I"⟩
abbrev cX12_mayPay : ByteArray := prog_14_method_30_code
def yX12_mayPay : MethodName := ⟨RX12, "mayPay", "(I)I"⟩
abbrev cX12_standing : ByteArray := prog_14_method_31_code
def yX12_standing : MethodName := ⟨RX12, "standing", "(I)I"⟩
abbrev cX12_tellPerson : ByteArray := prog_14_method_32_code
def yX12_tellPerson : MethodName := ⟨RX12, "tellPerson", "(II)I"⟩
abbrev cX12_person : ByteArray := prog_14_method_33_code
def yX12_person : MethodName := ⟨RX12, "person", "(II)I"⟩
abbrev cX12_as : ByteArray := prog_14_method_34_code
def yX12_as : MethodName := ⟨RX12, "as", "(II)I"⟩
abbrev cX12_tellDoor : ByteArray := prog_14_method_35_code
def yX12_tellDoor : MethodName := ⟨RX12, "tellDoor", "(II)I"⟩
abbrev cX12_door : ByteArray := prog_14_method_36_code
def yX12_door : MethodName := ⟨RX12, "door", "(II)I"⟩
abbrev cX12_tellDebt : ByteArray := prog_14_method_37_code
def yX12_tellDebt : MethodName := ⟨RX12, "tellDebt", "(II)I"⟩
abbrev cX12_debt : ByteArray := prog_14_method_38_code
def yX12_debt : MethodName := ⟨RX12, "debt", "(II)I"⟩
abbrev cX12_go : ByteArray := prog_14_method_39_code
def yX12_go : MethodName := ⟨RX12, "go", "(II)I"⟩
abbrev cX12_give : ByteArray := prog_14_method_40_code
def yX12_give : MethodName := ⟨RX12, "give", "(II)I"⟩
abbrev cX12_pay : ByteArray := prog_14_method_41_code
def yX12_pay : MethodName := ⟨RX12, "pay", "(I)I"⟩
abbrev cX12_earn : ByteArray := prog_14_method_42_code
def yX12_earn : MethodName := ⟨RX12, "earn", "(II)I"⟩
abbrev cX12_owe : ByteArray := prog_14_method_43_code
def yX12_owe : MethodName := ⟨RX12, "owe", "(II)I"⟩
abbrev cX12_layFar : ByteArray := prog_14_method_44_code
def yX12_layFar : MethodName := ⟨RX12, "layFar", "(II)V"⟩
abbrev cX12_wayOf : ByteArray := prog_14_method_45_code
def yX12_wayOf : MethodName := ⟨RX12, "wayOf", "(III)I"⟩
abbrev cX12_way : ByteArray := prog_14_method_46_code
def yX12_way : MethodName := ⟨RX12, "way", "(III)I"⟩
abbrev cX12_payHere : ByteArray := prog_14_method_47_code
def yX12_payHere : MethodName := ⟨RX12, "payHere", "(I)I"⟩
abbrev cX12_paysBy : ByteArray := prog_14_method_48_code
def yX12_paysBy : MethodName := ⟨RX12, "paysBy", "(III)I"⟩
abbrev cX12_nightOf : ByteArray := prog_14_method_49_code
def yX12_nightOf : MethodName := ⟨RX12, "nightOf", "(III)I"⟩
abbrev cX12_night : ByteArray := prog_14_method_50_code
def yX12_night : MethodName := ⟨RX12, "night", "(III)I"⟩
abbrev cX12_isOf : ByteArray := prog_14_method_51_code
def yX12_isOf : MethodName := ⟨RX12, "isOf", "(II)Z"⟩
abbrev cX12_topOf : ByteArray := prog_14_method_52_code
def yX12_topOf : MethodName := ⟨RX12, "topOf", "(II)I"⟩
abbrev cX12_lessBy : ByteArray := prog_14_method_53_code
def yX12_lessBy : MethodName := ⟨RX12, "lessBy", "()I"⟩
abbrev cX12_layCancel : ByteArray := prog_14_method_54_code
def yX12_layCancel : MethodName := ⟨RX12, "layCancel", "(I)I"⟩
abbrev cX12_cancelOf : ByteArray := prog_14_method_55_code
def yX12_cancelOf : MethodName := ⟨RX12, "cancelOf", "(II)I"⟩
abbrev cX12_cancel : ByteArray := prog_14_method_56_code
def yX12_cancel : MethodName := ⟨RX12, "cancel", "(II)I"⟩
abbrev cX12_owesThen : ByteArray := prog_14_method_57_code
def yX12_owesThen : MethodName := ⟨RX12, "owesThen", "(I)I"⟩
abbrev cX12_soundOf : ByteArray := prog_14_method_58_code
def yX12_soundOf : MethodName := ⟨RX12, "soundOf", "()I"⟩
abbrev cX12_sound : ByteArray := prog_14_method_59_code
def yX12_sound : MethodName := ⟨RX12, "sound", "()I"⟩
abbrev cX12_metOf : ByteArray := prog_14_method_60_code
def yX12_metOf : MethodName := ⟨RX12, "metOf", "(IIII)I"⟩
abbrev cX12_goAll : ByteArray := prog_14_method_61_code
def yX12_goAll : MethodName := ⟨RX12, "goAll", "(II)V"⟩
abbrev cX12_met : ByteArray := prog_14_method_62_code
def yX12_met : MethodName := ⟨RX12, "met", "(IIII)I"⟩
abbrev cX12_see : ByteArray := prog_14_method_63_code
def yX12_see : MethodName := ⟨RX12, "see", "(IZ)I"⟩
abbrev cX12_forget : ByteArray := prog_14_method_64_code
def yX12_forget : MethodName := ⟨RX12, "forget", "()I"⟩
abbrev cX12_pursesOf : ByteArray := prog_14_method_65_code
def yX12_pursesOf : MethodName := ⟨RX12, "pursesOf", "(I)I"⟩
abbrev cX12_pressOf : ByteArray := prog_14_method_66_code
def yX12_pressOf : MethodName := ⟨RX12, "pressOf", "(I)I"⟩
abbrev cX12_draw : ByteArray := prog_14_method_67_code
def yX12_draw : MethodName := ⟨RX12, "draw", "(I)I"⟩
abbrev cX12_payAll : ByteArray := prog_14_method_68_code
def yX12_payAll : MethodName := ⟨RX12, "payAll", "(I)I"⟩
abbrev cX12_paidMany : ByteArray := prog_14_method_69_code
def yX12_paidMany : MethodName := ⟨RX12, "paidMany", "([I)I"⟩
abbrev cX12_winters : ByteArray := prog_14_method_70_code
def yX12_winters : MethodName := ⟨RX12, "winters", "(III)I"⟩
abbrev cX12_image : ByteArray := prog_14_method_71_code
def yX12_image : MethodName := ⟨RX12, "image", "()I"⟩
abbrev cX12_restore : ByteArray := prog_14_method_72_code
def yX12_restore : MethodName := ⟨RX12, "restore", "()I"⟩
abbrev cX12_owedAll : ByteArray := prog_14_method_73_code
def yX12_owedAll : MethodName := ⟨RX12, "owedAll", "()I"⟩
abbrev cX12_pursesAll : ByteArray := prog_14_method_74_code
def yX12_pursesAll : MethodName := ⟨RX12, "pursesAll", "()I"⟩
abbrev cX12_countOf : ByteArray := prog_14_method_75_code
def yX12_countOf : MethodName := ⟨RX12, "countOf", "(I)I"⟩
abbrev cX12_count : ByteArray := prog_14_method_76_code
def yX12_count : MethodName := ⟨RX12, "count", "(I)I"⟩
abbrev cX12_say : ByteArray := prog_14_method_77_code
def yX12_say : MethodName := ⟨RX12, "say", "(J)V"⟩
abbrev cX12_sayPerson : ByteArray := prog_14_method_78_code
def yX12_sayPerson : MethodName := ⟨RX12, "sayPerson", "(I)V"⟩
abbrev cX12_sayThings : ByteArray := prog_14_method_79_code
def yX12_sayThings : MethodName := ⟨RX12, "sayThings", "()V"⟩
abbrev cX12_digest : ByteArray := prog_14_method_80_code
def yX12_digest : MethodName := ⟨RX12, "digest", "()J"⟩
def RJ11 : String := "java/lang/Character"
def TJ11 : u_T := fun k => match k with
  | _ => ("", "", "", false)
def tyJ11 : Nat → FieldType := fun k => match k with
  | _ => .int
theorem nmJ11 : ∀ a, a < 0 → ∀ b, b < 0 → a ≠ b → (TJ11 a).2.1 ≠ (TJ11 b).2.1 := by decide +kernel
theorem tyJ11_ok : ∀ k, k < 0 → parseFieldDescriptor (TJ11 k).2.2.1 = some (tyJ11 k) := by decide +kernel
abbrev cJ11_isValidCodePoint_9a6ad : ByteArray := prog_15_method_11_code
def yJ11_isValidCodePoint_9a6ad : MethodName := ⟨RJ11, "isValidCodePoint", "(I)Z"⟩
abbrev cJ11_highSurrogate_5068e : ByteArray := prog_15_method_28_code
def yJ11_highSurrogate_5068e : MethodName := ⟨RJ11, "highSurrogate", "(I)C"⟩
abbrev cJ11_lowSurrogate_5068e : ByteArray := prog_15_method_29_code
def yJ11_lowSurrogate_5068e : MethodName := ⟨RJ11, "lowSurrogate", "(I)C"⟩
def RJ6 : String := "java/lang/Integer"
def TJ6 : u_T := fun k => match k with
  | _ => ("", "", "", false)
def tyJ6 : Nat → FieldType := fun k => match k with
  | _ => .int
theorem nmJ6 : ∀ a, a < 0 → ∀ b, b < 0 → a ≠ b → (TJ6 a).2.1 ≠ (TJ6 b).2.1 := by decide +kernel
theorem tyJ6_ok : ∀ k, k < 0 → parseFieldDescriptor (TJ6 k).2.2.1 = some (tyJ6 k) := by decide +kernel
abbrev cJ6_bitCount_0f7a4 : ByteArray := prog_16_method_49_code
def yJ6_bitCount_0f7a4 : MethodName := ⟨RJ6, "bitCount", "(I)I"⟩
def RJ9 : String := "java/lang/Math"
def TJ9 : u_T := fun k => match k with
  | _ => ("", "", "", false)
def tyJ9 : Nat → FieldType := fun k => match k with
  | _ => .int
theorem nmJ9 : ∀ a, a < 0 → ∀ b, b < 0 → a ≠ b → (TJ9 a).2.1 ≠ (TJ9 b).2.1 := by decide +kernel
theorem tyJ9_ok : ∀ k, k < 0 → parseFieldDescriptor (TJ9 k).2.2.1 = some (tyJ9 k) := by decide +kernel
abbrev cJ9_max_7cf53 : ByteArray := prog_17_method_65_code
def yJ9_max_7cf53 : MethodName := ⟨RJ9, "max", "(II)I"⟩
abbrev cJ9_min_7cf53 : ByteArray := prog_17_method_69_code
def yJ9_min_7cf53 : MethodName := ⟨RJ9, "min", "(II)I"⟩
def RJ0 : String := "java/lang/String"
def TJ0 : u_T := fun k => match k with
  | _ => ("", "", "", false)
def tyJ0 : Nat → FieldType := fun k => match k with
  | _ => .int
theorem nmJ0 : ∀ a, a < 0 → ∀ b, b < 0 → a ≠ b → (TJ0 a).2.1 ≠ (TJ0 b).2.1 := by decide +kernel
theorem tyJ0_ok : ∀ k, k < 0 → parseFieldDescriptor (TJ0 k).2.2.1 = some (tyJ0 k) := by decide +kernel
abbrev cJ0_length_8abf5 : ByteArray := prog_18_method_54_code
def yJ0_length_8abf5 : MethodName := ⟨RJ0, "length", "()I"⟩
abbrev cJ0_indexOf_0f7a4 : ByteArray := prog_18_method_79_code
def yJ0_indexOf_0f7a4 : MethodName := ⟨RJ0, "indexOf", "(I)I"⟩
abbrev cJ0_indexOf_7cf53 : ByteArray := prog_18_method_80_code
def yJ0_indexOf_7cf53 : MethodName := ⟨RJ0, "indexOf", "(II)I"⟩
abbrev cJ0_coder_7d493 : ByteArray := prog_18_method_152_code
def yJ0_coder_7d493 : MethodName := ⟨RJ0, "coder", "()B"⟩
abbrev cJ0_isLatin1_aae02 : ByteArray := prog_18_method_154_code
def yJ0_isLatin1_aae02 : MethodName := ⟨RJ0, "isLatin1", "()Z"⟩
abbrev cJ0_checkBoundsBeginEnd_23922 : ByteArray := prog_18_method_158_code
def yJ0_checkBoundsBeginEnd_23922 : MethodName := ⟨RJ0, "checkBoundsBeginEnd", "(III)V"⟩
def RJ1 : String := "java/lang/StringLatin1"
def TJ1 : u_T := fun k => match k with
  | _ => ("", "", "", false)
def tyJ1 : Nat → FieldType := fun k => match k with
  | _ => .int
theorem nmJ1 : ∀ a, a < 0 → ∀ b, b < 0 → a ≠ b → (TJ1 a).2.1 ≠ (TJ1 b).2.1 := by decide +kernel
theorem tyJ1_ok : ∀ k, k < 0 → parseFieldDescriptor (TJ1 k).2.2.1 = some (tyJ1 k) := by decide +kernel
abbrev cJ1_canEncode_9a6ad : ByteArray := prog_19_method_4_code
def yJ1_canEncode_9a6ad : MethodName := ⟨RJ1, "canEncode", "(I)Z"⟩
abbrev cJ1_indexOf_4cfef : ByteArray := prog_19_method_22_code
def yJ1_indexOf_4cfef : MethodName := ⟨RJ1, "indexOf", "([BIII)I"⟩
abbrev cJ1_indexOfChar_4cfef : ByteArray := prog_19_method_23_code
def yJ1_indexOfChar_4cfef : MethodName := ⟨RJ1, "indexOfChar", "([BIII)I"⟩
def RJ2 : String := "java/lang/StringUTF16"
def TJ2 : u_T := fun k => match k with
  | _ => ("", "", "", false)
def tyJ2 : Nat → FieldType := fun k => match k with
  | _ => .int
theorem nmJ2 : ∀ a, a < 0 → ∀ b, b < 0 → a ≠ b → (TJ2 a).2.1 ≠ (TJ2 b).2.1 := by decide +kernel
theorem tyJ2_ok : ∀ k, k < 0 → parseFieldDescriptor (TJ2 k).2.2.1 = some (tyJ2 k) := by decide +kernel
abbrev cJ2_getChar_3b067 : ByteArray := prog_20_method_5_code
def yJ2_getChar_3b067 : MethodName := ⟨RJ2, "getChar", "([BI)C"⟩
abbrev cJ2_length_9d52b : ByteArray := prog_20_method_6_code
def yJ2_length_9d52b : MethodName := ⟨RJ2, "length", "([B)I"⟩
abbrev cJ2_indexOf_4cfef : ByteArray := prog_20_method_40_code
def yJ2_indexOf_4cfef : MethodName := ⟨RJ2, "indexOf", "([BIII)I"⟩
abbrev cJ2_indexOfChar_4cfef : ByteArray := prog_20_method_47_code
def yJ2_indexOfChar_4cfef : MethodName := ⟨RJ2, "indexOfChar", "([BIII)I"⟩
abbrev cJ2_indexOfCharUnsafe_4cfef : ByteArray := prog_20_method_48_code
def yJ2_indexOfCharUnsafe_4cfef : MethodName := ⟨RJ2, "indexOfCharUnsafe", "([BIII)I"⟩
abbrev cJ2_indexOfSupplementary_4cfef : ByteArray := prog_20_method_49_code
def yJ2_indexOfSupplementary_4cfef : MethodName := ⟨RJ2, "indexOfSupplementary", "([BIII)I"⟩
abbrev cJ2_checkBoundsBeginEnd_d044e : ByteArray := prog_20_method_93_code
def yJ2_checkBoundsBeginEnd_d044e : MethodName := ⟨RJ2, "checkBoundsBeginEnd", "(II[B)V"⟩
def RJ3 : String := "jdk/internal/util/Preconditions"
def TJ3 : u_T := fun k => match k with
  | _ => ("", "", "", false)
def tyJ3 : Nat → FieldType := fun k => match k with
  | _ => .int
theorem nmJ3 : ∀ a, a < 0 → ∀ b, b < 0 → a ≠ b → (TJ3 a).2.1 ≠ (TJ3 b).2.1 := by decide +kernel
theorem tyJ3_ok : ∀ k, k < 0 → parseFieldDescriptor (TJ3 k).2.2.1 = some (tyJ3 k) := by decide +kernel
abbrev cJ3_checkFromToIndex_8c36e : ByteArray := prog_21_method_12_code
def yJ3_checkFromToIndex_8c36e : MethodName := ⟨RJ3, "checkFromToIndex", "(IIILjava/util/function/BiFunction;)I"⟩
def RL : String := "DebtRoomsLaw"
abbrev cL_law : ByteArray := code
def yL_law : MethodName := ⟨RL, "law", "([I)Z"⟩
end
section
abbrev Mem : Type := (Nat → Nat → Int32) × Int64
/-- what stays: fields' places, classes of arrays, addresses of cells, of texts, of their bytes, from where on the cells are ours -/
abbrev Ek : Type := va_G × (Nat → ClassId) × (Nat → Nat) × (Nat → Nat) × (Nat → Nat) × Nat
def eD (E : Ek) : va_G := E.1
def eA (E : Ek) : Nat → ClassId := E.2.1
def ad (E : Ek) : Nat → Nat := E.2.2.1
def eK (E : Ek) : Nat → Nat := E.2.2.2.1
def eV (E : Ek) : Nat → Nat := E.2.2.2.2.1
def eL (E : Ek) : Nat := E.2.2.2.2.2
def frE (E : Ek) : Nat → Prop := fun q => eL E ≤ q
def rd (M : Mem) (q k : Nat) : Int32 := M.1 q k
def wr (M : Mem) (q k : Nat) (v : Int32) : Mem := (fun a => if a = q then upd (M.1 q) k v else M.1 a, M.2)
def wrH (M : Mem) (v : Int64) : Mem := (M.1, v)
theorem wr_self (M : Mem) (q k : Nat) (v : Int32) : (wr M q k v).1 q = upd (M.1 q) k v := by simp [wr]
theorem wr_ne {M : Mem} {q k a : Nat} {v : Int32} (h : a ≠ q) : (wr M q k v).1 a = M.1 a := by simp [wr, h]
theorem rd_wr (M : Mem) (q k : Nat) (v : Int32) (a b : Nat) : rd (wr M q k v) a b = if a = q ∧ b = k then v else rd M a b := by
  unfold rd wr
  by_cases ha : a = q
  · subst ha
    by_cases hb : b = k
    · subst hb; simp [upd]
    · simp [upd, hb]
  · simp [ha]
theorem rd_wrH (M : Mem) (v : Int64) (a b : Nat) : rd (wrH M v) a b = rd M a b := rfl
abbrev classes : List vw_C := [(RX0, TX0, 10), (RX1, TX1, 0), (RX2, TX2, 0), (RX3, TX3, 0), (RX4, TX4, 11), (RX5, TX5, 5), (RX6, TX6, 11), (RX7, TX7, 0), (RX8, TX8, 0), (RX9, TX9, 7), (RX10, TX10, 4), (RX11, TX11, 10), (RX12, TX12, 44)]
def pcls (k : Int32) : Nat := if k = 1 then 8 else if k = 2 then 1 else if k = 3 then 3 else if k = 4 then 2 else 7
def layA (E : Ek) (q : Nat) (f : Nat → Int32) : List va_E := [
  .inr (0, [.ref (ad E 3), .ref (ad E (q + 1)), .ref (ad E (q + 2)), .ref (ad E (q + 3)), .ref (ad E (q + 4)), .ref (ad E (q + 5)), .ref (ad E (q + 6)), .ref (ad E (q + 7)), .int (f 8), .int (f 9)]),
  .inl (eA E 0, 4, .inl f),
  .inl (eA E 0, 4, .inl f),
  .inl (eA E 0, 2, .inl f),
  .inl (eA E 0, 4, .inl f),
  .inl (eA E 1, 4, .inl f),
  .inl (eA E 0, 6, .inl f),
  .inl (eA E 1, 6, .inl f)]
def layM (E : Ek) (f : Nat → Int32) (h : Int64) : va_E := .inr (12, [.ref (ad E 30), .int (f 1), .int (f 2), .int (f 3), .int (f 4), .int (f 5), .int (f 6), .int (f 7), .int (f 8), .int (f 9), .ref (ad E 31), .ref (ad E 32), .ref (ad E 33), .ref (ad E 34), .ref (ad E 35), .ref (ad E 36), .ref (ad E 37), .ref (ad E 38), .ref (ad E 39), .ref (ad E 40), .ref (ad E 41), .ref (ad E 42), .ref (ad E 43), .ref (ad E 44), .ref (ad E 45), .ref (ad E 46), .ref (ad E 47), .ref (ad E 48), .ref (ad E 49), .ref (ad E 50), .ref (ad E 51), .int (f 31), .ref (ad E 52), .int (f 33), .int (f 34), .int (f 35), .int (f 36), .ref (ad E 53), .ref (ad E 54), .ref (ad E 55), .ref (ad E 56), .ref (ad E 57), .ref (ad E 58), .long h])
def layL (E : Ek) (f : Nat → Int32) : List va_E := [
  .inr (11, [.ref (ad E 1), .ref (ad E 3), .ref (ad E 59), .ref (ad E 67), .ref (ad E 75), .ref (ad E 15), .ref (ad E 19), .ref (ad E 23), .int (f 8), .int (f 9)]),
  .inr (6, [.ref (ad E 2), .int (f 1), .int (f 2), .int (f 3), .int (f 4), .int (f 5), .int (f 6), .int (f 7), .int (f 8), .int (f 9), .int (f 10)]),
  .inl (eA E 0, 64, .inl f),
  .inr (4, [.int (f 0), .int (f 1), .int (f 2), .int (f 3), .ref (ad E 4), .ref (ad E 5), .ref (ad E 6), .ref (ad E 7), .ref (ad E 8), .ref (ad E 9), .ref (ad E 10)]),
  .inl (eA E 0, 6, .inl f),
  .inl (eA E 0, 6, .inl f),
  .inl (eA E 0, 6, .inl f),
  .inl (eA E 2, 4, .inr (.inr (.inr (.inr (fun j => some (ad E (11 + j))))))),
  .inl (eA E 0, 4, .inl f),
  .inl (eA E 0, 4, .inl f),
  .inl (eA E 0, 4, .inl f),
  .inr (pcls (f 0), []),
  .inr (pcls (f 0), []),
  .inr (pcls (f 0), []),
  .inr (pcls (f 0), []),
  .inr (10, [.ref (ad E 3), .ref (ad E 16), .ref (ad E 17), .ref (ad E 18)]),
  .inl (eA E 0, 6, .inl f),
  .inl (eA E 0, 6, .inl f),
  .inl (eA E 0, 6, .inl f),
  .inr (5, [.ref (ad E 3), .ref (ad E 20), .ref (ad E 21), .ref (ad E 22), .int (f 4)]),
  .inl (eA E 3, 5, .inr (.inr (.inr (.inr (fun j => some (ad E (83 + 8 * j))))))),
  .inl (eA E 0, 4, .inl f),
  .inl (eA E 0, 4, .inl f),
  .inr (9, [.ref (ad E 3), .ref (ad E 24), .ref (ad E 25), .ref (ad E 26), .ref (ad E 27), .ref (ad E 28), .int (f 6)]),
  .inl (eA E 0, 4, .inl f),
  .inl (eA E 0, 4, .inl f),
  .inl (eA E 0, 4, .inl f),
  .inl (eA E 0, 4, .inl f),
  .inl (eA E 0, 4, .inl f),
  .inr (0, []),
  .inl (eA E 0, 64, .inl f),
  .inl (eA E 0, 6, .inl f),
  .inl (eA E 0, 6, .inl f),
  .inl (eA E 0, 6, .inl f),
  .inl (eA E 0, 4, .inl f),
  .inl (eA E 0, 4, .inl f),
  .inl (eA E 0, 4, .inl f),
  .inl (eA E 0, 2, .inl f),
  .inl (eA E 0, 4, .inl f),
  .inl (eA E 0, 4, .inl f),
  .inl (eA E 0, 4, .inl f),
  .inl (eA E 0, 4, .inl f),
  .inl (eA E 0, 4, .inl f),
  .inl (eA E 0, 4, .inl f),
  .inl (eA E 0, 4, .inl f),
  .inl (eA E 0, 4, .inl f),
  .inl (eA E 0, 6, .inl f),
  .inl (eA E 0, 4, .inl f),
  .inl (eA E 0, 4, .inl f),
  .inl (eA E 0, 4, .inl f),
  .inl (eA E 0, 6, .inl f),
  .inl (eA E 0, 6, .inl f),
  .inl (eA E 0, 12, .inl f),
  .inl (eA E 0, 4, .inl f),
  .inl (eA E 0, 4, .inl f),
  .inl (eA E 0, 2, .inl f),
  .inl (eA E 0, 4, .inl f),
  .inl (eA E 0, 4, .inl f),
  .inl (eA E 0, 12, .inl f)]
def lay (E : Ek) (q : Nat) (f : Nat → Int32) (h : Int64) : va_E := bif Nat.beq q 29 then layM E f h else bif Nat.blt q 59 then (layL E f).getD q (.inr (0, [])) else (layA E q f).getD ((q - 59) % 8) (.inr (0, []))
def ws (E : Ek) (M : Mem) : va_W := (List.range 123).map (fun q => (ad E q, lay E q (M.1 q) M.2))
theorem ws_at {E : Ek} {M : Mem} {q : Nat} (h : q < 123) : (ws E M)[q]? = some (ad E q, lay E q (M.1 q) M.2) := by
  simp [ws, h]
theorem ws_set {E : Ek} {M M' : Mem} {q : Nat} {e : va_E} (h : q < 123) (he : e = lay E q (M'.1 q) M'.2) (ho : ∀ a, a ≠ q → lay E a (M'.1 a) M'.2 = lay E a (M.1 a) M.2) : (ws E M).set q (ad E q, e) = ws E M' := by
  subst he
  apply List.ext_getElem?
  intro i
  have hlen : (ws E M).length = 123 := by simp [ws]
  have hlen' : (ws E M').length = 123 := by simp [ws]
  by_cases hi : i < 123
  · by_cases hq : q = i
    · subst hq
      rw [List.getElem?_set_self (by rw [hlen]; exact hi), ws_at hi]
    · rw [List.getElem?_set_ne hq, ws_at hi, ws_at hi, ho i (fun z => hq z.symm)]
  · rw [List.getElem?_eq_none (by rw [List.length_set, hlen]; omega), List.getElem?_eq_none (by rw [hlen']; omega)]
theorem lay_h {E : Ek} {q : Nat} (h : q ≠ 29) (f : Nat → Int32) (a b : Int64) : lay E q f a = lay E q f b := by
  have : Nat.beq q 29 = false := by
    rcases hb : Nat.beq q 29 with _ | _
    · rfl
    · exact absurd (Nat.eq_of_beq_eq_true hb) h
  unfold lay
  rw [this]
  rfl
def Apart (E : Ek) : Prop := (∀ i j, i < 123 → j < 123 → ad E i = ad E j → i = j) ∧ ∀ i, i < 123 → eL E ≤ ad E i
theorem ws_D {E : Ek} {M : Mem} (h : Apart E) : va_D (frE E) (ws E M) := by
  have key : ∀ (k : Nat) (q : Nat × va_E), (ws E M)[k]? = some q → k < 123 ∧ q.1 = ad E k := by
    intro k q hk
    have hl : k < (ws E M).length := (List.getElem?_eq_some_iff.mp hk).1
    have hl2 : k < 123 := by simpa [ws] using hl
    rw [ws_at hl2] at hk
    cases hk
    exact ⟨hl2, rfl⟩
  refine ⟨fun i j p q hi hj hpq => ?_, fun k q hk => ?_⟩
  · obtain ⟨a1, a2⟩ := key i p hi
    obtain ⟨b1, b2⟩ := key j q hj
    exact h.1 i j a1 b1 (by rw [← a2, ← b2]; exact hpq)
  · obtain ⟨a1, a2⟩ := key k q hk
    rw [a2]
    exact h.2 k a1
/-! the words that any method may use -/
def gt : List Cond := lw_tbl.filter goodWord
theorem gt_good {w : Cond} (h : w ∈ gt) : goodWord w = true := (List.mem_filter.mp h).2
theorem gt_lw {w : Cond} (h : w ∈ gt) : w ∈ lw_tbl := (List.mem_filter.mp h).1
theorem gt_t {w : Cond} (h : w ∈ tables_1) (hg : goodWord w = true) : w ∈ gt := List.mem_filter.mpr ⟨List.mem_append_right _ h, hg⟩
theorem gt_s {w : Cond} (h : w ∈ k2_sels lw_privs) (hg : goodWord w = true) : w ∈ gt := List.mem_filter.mpr ⟨List.mem_append_left _ h, hg⟩
theorem tb_1 {w : Cond} (i : Nat) (h : tables_1_1[i]? = some w) : w ∈ tables_1 := List.mem_append_left _ (List.mem_of_getElem? h)
theorem tb_2 {w : Cond} (i : Nat) (h : tables_1_2[i]? = some w) : w ∈ tables_1 := List.mem_append_right _ (List.mem_append_left _ (List.mem_of_getElem? h))
theorem tb_3 {w : Cond} (i : Nat) (h : tables_1_3[i]? = some w) : w ∈ tables_1 := List.mem_append_right _ (List.mem_append_right _ (List.mem_append_left _ (List.mem_of_getElem? h)))
theorem tb_4 {w : Cond} (i : Nat) (h : tables_1_4[i]? = some w) : w ∈ tables_1 := List.mem_append_right _ (List.mem_append_right _ (List.mem_append_right _ (List.mem_append_left _ (List.mem_of_getElem? h))))
theorem tb_5 {w : Cond} (i : Nat) (h : tables_1_5[i]? = some w) : w ∈ tables_1 := List.mem_append_right _ (List.mem_append_right _ (List.mem_append_right _ (List.mem_append_right _ (List.mem_append_left _ (List.mem_of_getElem? h)))))
theorem tb_6 {w : Cond} (i : Nat) (h : tables_1_6[i]? = some w) : w ∈ tables_1 := List.mem_append_right _ (List.mem_append_right _ (List.mem_append_right _ (List.mem_append_right _ (List.mem_append_right _ (List.mem_of_getElem? h)))))
theorem pr_s {q : MethodName × Nat} (h : q ∈ lw_privs) : Cond.selects q.1.cls q.1 q.1 ∈ k2_sels lw_privs := List.mem_map.mpr ⟨q, h, rfl⟩
theorem u_in {C : String} {T : u_T} {N : Nat} (h : ∀ k, k < N → u_lay C T k ∈ gt) : ∀ w ∈ u_ws C T N, w ∈ gt := by
  intro w hw
  obtain ⟨k, hk, rfl⟩ := List.mem_map.mp hw
  exact h k (List.mem_range.mp hk)
def isN : Cond → Bool
  | .fieldLinkNest .. => true
  | .methodLinkNest .. => true
  | _ => false
theorem isN_warm {w : Cond} {s U : State} (hW : s.WarmedH U.vm) (h : isN w = true) (hw : va_Nw w s) : va_Nw w U := by
  cases w <;> first | exact va_Nw.warmF hW hw | exact va_Nw.warmM hW hw | (simp [isN] at h)
theorem isN_tab {w : Cond} (h : isN w = true) : w.onTables = true := by
  cases w <;> first | rfl | (simp [isN] at h)
abbrev gtys (E : Ek) : List (ClassId × FieldType) := [(eA E 0, .int), (eA E 1, .boolean), (eA E 2, .object RX7), (eA E 3, .object RX0)]
/-- who is no instance of what -/
def ncs : List (String × String) := [(RX7, RX8), (RX1, RX8), (RX3, RX8), (RX7, RX1), (RX8, RX1), (RX3, RX1), (RX2, RX1), (RX7, RX3), (RX8, RX3), (RX1, RX3), (RX2, RX3), (RX7, RX2), (RX8, RX2), (RX1, RX2), (RX3, RX2)]
/-- what the tables say, at any state of the run -/
def gE (E : Ek) (U : State) : Prop := va_K (eD E) classes (gtys E) U ∧ (∀ w ∈ tables_1, isN w = true → va_Nw w U) ∧ (∀ q ∈ ncs, va_Nc q.1 q.2 U) ∧ vk_R RX6 78 "oab" (eK E 0) U ∧ vk_R RX6 86 "prbhd" (eK E 1) U
theorem gE.warm {E : Ek} {s U : State} (hW : s.WarmedH U.vm) (h : gE E s) : gE E U :=
  ⟨va_K.moved hW.alike h.1, fun w hw hn => isN_warm hW hn (h.2.1 w hw hn), fun q hq => (h.2.2.1 q hq).moved hW.alike, h.2.2.2.1.warm hW, h.2.2.2.2.warm hW⟩
theorem gE.same {E : Ek} {s U : State} (hv : U.vm = s.vm) (h : gE E s) : gE E U :=
  ⟨va_K.moved (by rw [hv]; exact Vm.Alike.refl _) h.1, fun w hw hn => va_Nw.same (isN_tab hn) hv.symm (h.2.1 w hw hn), fun q hq => (h.2.2.1 q hq).moved (by rw [hv]; exact Vm.Alike.refl _), h.2.2.2.1.same hv, h.2.2.2.2.same hv⟩
/-- what lies in the heap from before, and stays -/
def Str (E : Ek) (U : State) (H : Heap) : Prop := vk_S 2 [3, 5] [[111, 97, 98], [112, 114, 98, 104, 100]] (eK E) (eV E) (frE E) U H ∧ va_Z "java/lang/String" "COMPACT_STRINGS" "Z" (.int 1) (frE E) U H
theorem Str.moved {E : Ek} {u U : State} {H : Heap} (hvm : u.vm.Alike U.vm) (h : Str E u H) : Str E U H := ⟨h.1.moved hvm, h.2.moved hvm⟩
theorem Str.kept {E : Ek} {U : State} {H H1 : Heap} (h : Str E U H) (hq : ∀ a : Nat, a < H.size → ¬ frE E a → H1[a]? = H[a]?) : Str E U H1 := ⟨h.1.kept hq, h.2.kept hq⟩
/-- the world at a call -/
def Wd (E : Ek) (M : Mem) (U : State) : Prop := va_P (eD E) classes (ws E M) U.heap ∧ gE E U ∧ Apart E ∧ Str E U U.heap ∧ eL E ≤ U.heap.size
theorem Wd.calling {E : Ek} {M : Mem} (a : Array Value) (U : State) (g : JFrame) (mk : MethodId) (h : Wd E M U) : Wd E M (U.calling g mk a) :=
  ⟨h.1, gE.same (s := U) rfl h.2.1, h.2.2.1, Str.moved (u := U) (Vm.Alike.refl _) h.2.2.2.1, h.2.2.2.2⟩
end
