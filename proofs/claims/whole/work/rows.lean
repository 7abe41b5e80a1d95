section
-- ===== PART A: goes FIRST, ahead of the names: the tables' words, and 'selects' of the private methods out of them =====
/-- a private method of a class that the tables say can be made, by its rows of tables_1 -/
def lw_okq (q : MethodName × Nat) : Prop := (q.1.cls ≠ "java/lang/invoke/MethodHandle" ∧ q.1.cls ≠ "java/lang/invoke/VarHandle") ∧ Cond.instantiable q.1.cls q.2 ∈ tables_1 ∧ Cond.privateMethod q.1 ∈ tables_1 ∧ Cond.instanceMethod q.1 ∈ tables_1
theorem lw_p0 : lw_okq (⟨"KiteStrings$History", "stateAt", "(I)LKiteStrings$Sky;"⟩, 3) := ⟨⟨by decide +kernel, by decide +kernel⟩, List.mem_of_getElem? (i := 148) (by decide +kernel), List.mem_of_getElem? (i := 235) (by decide +kernel), List.mem_of_getElem? (i := 236) (by decide +kernel)⟩
theorem lw_p1 : lw_okq (⟨"KiteStrings$Sky", "sendUp", "(I)V"⟩, 17) := ⟨⟨by decide +kernel, by decide +kernel⟩, List.mem_of_getElem? (i := 20) (by decide +kernel), List.mem_of_getElem? (i := 257) (by decide +kernel), List.mem_of_getElem? (i := 258) (by decide +kernel)⟩
theorem lw_p2 : lw_okq (⟨"KiteStrings", "errorOfOrder", "(III)I"⟩, 8) := ⟨⟨by decide +kernel, by decide +kernel⟩, List.mem_of_getElem? (i := 12) (by decide +kernel), List.mem_of_getElem? (i := 265) (by decide +kernel), List.mem_of_getElem? (i := 266) (by decide +kernel)⟩
theorem lw_p3 : lw_okq (⟨"KiteStrings$Weave", "measurePair", "(LKiteStrings$Sky;II)V"⟩, 5) := ⟨⟨by decide +kernel, by decide +kernel⟩, List.mem_of_getElem? (i := 99) (by decide +kernel), List.mem_of_getElem? (i := 321) (by decide +kernel), List.mem_of_getElem? (i := 322) (by decide +kernel)⟩
theorem lw_p4 : lw_okq (⟨"KiteStrings$Weave", "note", "(IIIZ)V"⟩, 5) := ⟨⟨by decide +kernel, by decide +kernel⟩, List.mem_of_getElem? (i := 99) (by decide +kernel), List.mem_of_getElem? (i := 326) (by decide +kernel), List.mem_of_getElem? (i := 327) (by decide +kernel)⟩
theorem lw_p5 : lw_okq (⟨"KiteStrings$Tick", "wearStrings", "(LKiteStrings$Sky;)V"⟩, 3) := ⟨⟨by decide +kernel, by decide +kernel⟩, List.mem_of_getElem? (i := 127) (by decide +kernel), List.mem_of_getElem? (i := 330) (by decide +kernel), List.mem_of_getElem? (i := 331) (by decide +kernel)⟩
theorem lw_p6 : lw_okq (⟨"KiteStrings$Tick", "givePoints", "(LKiteStrings$Sky;)V"⟩, 3) := ⟨⟨by decide +kernel, by decide +kernel⟩, List.mem_of_getElem? (i := 127) (by decide +kernel), List.mem_of_getElem? (i := 346) (by decide +kernel), List.mem_of_getElem? (i := 347) (by decide +kernel)⟩
theorem lw_p7 : lw_okq (⟨"KiteStrings$Tick", "cutStrings", "(LKiteStrings$Sky;)V"⟩, 3) := ⟨⟨by decide +kernel, by decide +kernel⟩, List.mem_of_getElem? (i := 127) (by decide +kernel), List.mem_of_getElem? (i := 354) (by decide +kernel), List.mem_of_getElem? (i := 355) (by decide +kernel)⟩
theorem lw_p8 : lw_okq (⟨"KiteStrings$Pad", "signAt", "(I)I"⟩, 2) := ⟨⟨by decide +kernel, by decide +kernel⟩, List.mem_of_getElem? (i := 184) (by decide +kernel), List.mem_of_getElem? (i := 374) (by decide +kernel), List.mem_of_getElem? (i := 375) (by decide +kernel)⟩
theorem lw_p9 : lw_okq (⟨"KiteStrings", "giveOrdersOfPad", "()I"⟩, 8) := ⟨⟨by decide +kernel, by decide +kernel⟩, List.mem_of_getElem? (i := 12) (by decide +kernel), List.mem_of_getElem? (i := 385) (by decide +kernel), List.mem_of_getElem? (i := 386) (by decide +kernel)⟩
theorem lw_p10 : lw_okq (⟨"KiteStrings", "aboutKite", "(II)I"⟩, 8) := ⟨⟨by decide +kernel, by decide +kernel⟩, List.mem_of_getElem? (i := 12) (by decide +kernel), List.mem_of_getElem? (i := 418) (by decide +kernel), List.mem_of_getElem? (i := 419) (by decide +kernel)⟩
theorem lw_p11 : lw_okq (⟨"KiteStrings", "aboutString", "(II)I"⟩, 8) := ⟨⟨by decide +kernel, by decide +kernel⟩, List.mem_of_getElem? (i := 12) (by decide +kernel), List.mem_of_getElem? (i := 422) (by decide +kernel), List.mem_of_getElem? (i := 423) (by decide +kernel)⟩
theorem lw_p12 : lw_okq (⟨"KiteStrings", "aboutCrossing", "(III)I"⟩, 8) := ⟨⟨by decide +kernel, by decide +kernel⟩, List.mem_of_getElem? (i := 12) (by decide +kernel), List.mem_of_getElem? (i := 439) (by decide +kernel), List.mem_of_getElem? (i := 440) (by decide +kernel)⟩
theorem lw_p13 : lw_okq (⟨"KiteStrings$Weave", "noteOf", "(II)I"⟩, 5) := ⟨⟨by decide +kernel, by decide +kernel⟩, List.mem_of_getElem? (i := 99) (by decide +kernel), List.mem_of_getElem? (i := 447) (by decide +kernel), List.mem_of_getElem? (i := 448) (by decide +kernel)⟩
theorem lw_p14 : lw_okq (⟨"KiteStrings", "aboutCut", "(II)I"⟩, 8) := ⟨⟨by decide +kernel, by decide +kernel⟩, List.mem_of_getElem? (i := 12) (by decide +kernel), List.mem_of_getElem? (i := 491) (by decide +kernel), List.mem_of_getElem? (i := 492) (by decide +kernel)⟩
theorem lw_p15 : lw_okq (⟨"KiteStrings", "gainWith", "(IIII)I"⟩, 8) := ⟨⟨by decide +kernel, by decide +kernel⟩, List.mem_of_getElem? (i := 12) (by decide +kernel), List.mem_of_getElem? (i := 506) (by decide +kernel), List.mem_of_getElem? (i := 507) (by decide +kernel)⟩
def lw_privs_1 : List (MethodName × Nat) := [(⟨"KiteStrings$History", "stateAt", "(I)LKiteStrings$Sky;"⟩, 3), (⟨"KiteStrings$Sky", "sendUp", "(I)V"⟩, 17), (⟨"KiteStrings", "errorOfOrder", "(III)I"⟩, 8), (⟨"KiteStrings$Weave", "measurePair", "(LKiteStrings$Sky;II)V"⟩, 5), (⟨"KiteStrings$Weave", "note", "(IIIZ)V"⟩, 5), (⟨"KiteStrings$Tick", "wearStrings", "(LKiteStrings$Sky;)V"⟩, 3), (⟨"KiteStrings$Tick", "givePoints", "(LKiteStrings$Sky;)V"⟩, 3), (⟨"KiteStrings$Tick", "cutStrings", "(LKiteStrings$Sky;)V"⟩, 3), (⟨"KiteStrings$Pad", "signAt", "(I)I"⟩, 2), (⟨"KiteStrings", "giveOrdersOfPad", "()I"⟩, 8), (⟨"KiteStrings", "aboutKite", "(II)I"⟩, 8), (⟨"KiteStrings", "aboutString", "(II)I"⟩, 8), (⟨"KiteStrings", "aboutCrossing", "(III)I"⟩, 8), (⟨"KiteStrings$Weave", "noteOf", "(II)I"⟩, 5), (⟨"KiteStrings", "aboutCut", "(II)I"⟩, 8), (⟨"KiteStrings", "gainWith", "(IIII)I"⟩, 8)]
theorem lw_r1 : ∀ q ∈ lw_privs_1, lw_okq q := List.forall_mem_cons.mpr ⟨lw_p0, List.forall_mem_cons.mpr ⟨lw_p1, List.forall_mem_cons.mpr ⟨lw_p2, List.forall_mem_cons.mpr ⟨lw_p3, List.forall_mem_cons.mpr ⟨lw_p4, List.forall_mem_cons.mpr ⟨lw_p5, List.forall_mem_cons.mpr ⟨lw_p6, List.forall_mem_cons.mpr ⟨lw_p7, List.forall_mem_cons.mpr ⟨lw_p8, List.forall_mem_cons.mpr ⟨lw_p9, List.forall_mem_cons.mpr ⟨lw_p10, List.forall_mem_cons.mpr ⟨lw_p11, List.forall_mem_cons.mpr ⟨lw_p12, List.forall_mem_cons.mpr ⟨lw_p13, List.forall_mem_cons.mpr ⟨lw_p14, List.forall_mem_cons.mpr ⟨lw_p15, fun _ h => absurd h List.not_mem_nil⟩⟩⟩⟩⟩⟩⟩⟩⟩⟩⟩⟩⟩⟩⟩⟩
theorem lw_p16 : lw_okq (⟨"KiteStrings", "slotOf", "(I)LKiteStrings$Slot;"⟩, 8) := ⟨⟨by decide +kernel, by decide +kernel⟩, List.mem_of_getElem? (i := 12) (by decide +kernel), List.mem_of_getElem? (i := 545) (by decide +kernel), List.mem_of_getElem? (i := 546) (by decide +kernel)⟩
theorem lw_p17 : lw_okq (⟨"KiteStringsModel", "record", "()V"⟩, 18) := ⟨⟨by decide +kernel, by decide +kernel⟩, List.mem_of_getElem? (i := 553) (by decide +kernel), List.mem_of_getElem? (i := 621) (by decide +kernel), List.mem_of_getElem? (i := 622) (by decide +kernel)⟩
theorem lw_p18 : lw_okq (⟨"KiteStringsModel", "setPart", "(III)V"⟩, 18) := ⟨⟨by decide +kernel, by decide +kernel⟩, List.mem_of_getElem? (i := 553) (by decide +kernel), List.mem_of_getElem? (i := 628) (by decide +kernel), List.mem_of_getElem? (i := 629) (by decide +kernel)⟩
theorem lw_p19 : lw_okq (⟨"KiteStringsModel", "whyNotOrdered", "(III)I"⟩, 18) := ⟨⟨by decide +kernel, by decide +kernel⟩, List.mem_of_getElem? (i := 553) (by decide +kernel), List.mem_of_getElem? (i := 636) (by decide +kernel), List.mem_of_getElem? (i := 637) (by decide +kernel)⟩
theorem lw_p20 : lw_okq (⟨"KiteStringsModel", "isKite", "(I)Z"⟩, 18) := ⟨⟨by decide +kernel, by decide +kernel⟩, List.mem_of_getElem? (i := 553) (by decide +kernel), List.mem_of_getElem? (i := 640) (by decide +kernel), List.mem_of_getElem? (i := 641) (by decide +kernel)⟩
theorem lw_p21 : lw_okq (⟨"KiteStringsModel", "flies", "(I)Z"⟩, 18) := ⟨⟨by decide +kernel, by decide +kernel⟩, List.mem_of_getElem? (i := 553) (by decide +kernel), List.mem_of_getElem? (i := 647) (by decide +kernel), List.mem_of_getElem? (i := 648) (by decide +kernel)⟩
theorem lw_p22 : lw_okq (⟨"KiteStringsModel", "part", "(II)I"⟩, 18) := ⟨⟨by decide +kernel, by decide +kernel⟩, List.mem_of_getElem? (i := 553) (by decide +kernel), List.mem_of_getElem? (i := 651) (by decide +kernel), List.mem_of_getElem? (i := 652) (by decide +kernel)⟩
theorem lw_p23 : lw_okq (⟨"KiteStringsModel", "orders", "(III)I"⟩, 18) := ⟨⟨by decide +kernel, by decide +kernel⟩, List.mem_of_getElem? (i := 553) (by decide +kernel), List.mem_of_getElem? (i := 655) (by decide +kernel), List.mem_of_getElem? (i := 656) (by decide +kernel)⟩
theorem lw_p24 : lw_okq (⟨"KiteStringsModel", "greatestWear", "(I)I"⟩, 18) := ⟨⟨by decide +kernel, by decide +kernel⟩, List.mem_of_getElem? (i := 553) (by decide +kernel), List.mem_of_getElem? (i := 670) (by decide +kernel), List.mem_of_getElem? (i := 671) (by decide +kernel)⟩
theorem lw_p25 : lw_okq (⟨"KiteStringsModel", "passes", "(I)I"⟩, 18) := ⟨⟨by decide +kernel, by decide +kernel⟩, List.mem_of_getElem? (i := 553) (by decide +kernel), List.mem_of_getElem? (i := 678) (by decide +kernel), List.mem_of_getElem? (i := 679) (by decide +kernel)⟩
theorem lw_p26 : lw_okq (⟨"KiteStringsModel", "tick", "()V"⟩, 18) := ⟨⟨by decide +kernel, by decide +kernel⟩, List.mem_of_getElem? (i := 553) (by decide +kernel), List.mem_of_getElem? (i := 682) (by decide +kernel), List.mem_of_getElem? (i := 683) (by decide +kernel)⟩
theorem lw_p27 : lw_okq (⟨"KiteStringsModel", "flyOn", "(I)V"⟩, 18) := ⟨⟨by decide +kernel, by decide +kernel⟩, List.mem_of_getElem? (i := 553) (by decide +kernel), List.mem_of_getElem? (i := 686) (by decide +kernel), List.mem_of_getElem? (i := 687) (by decide +kernel)⟩
theorem lw_p28 : lw_okq (⟨"KiteStringsModel", "wearOut", "()V"⟩, 18) := ⟨⟨by decide +kernel, by decide +kernel⟩, List.mem_of_getElem? (i := 553) (by decide +kernel), List.mem_of_getElem? (i := 690) (by decide +kernel), List.mem_of_getElem? (i := 691) (by decide +kernel)⟩
theorem lw_p29 : lw_okq (⟨"KiteStringsModel", "cross", "(II)Z"⟩, 18) := ⟨⟨by decide +kernel, by decide +kernel⟩, List.mem_of_getElem? (i := 553) (by decide +kernel), List.mem_of_getElem? (i := 694) (by decide +kernel), List.mem_of_getElem? (i := 695) (by decide +kernel)⟩
theorem lw_p30 : lw_okq (⟨"KiteStringsModel", "sideOf", "(III)I"⟩, 18) := ⟨⟨by decide +kernel, by decide +kernel⟩, List.mem_of_getElem? (i := 553) (by decide +kernel), List.mem_of_getElem? (i := 698) (by decide +kernel), List.mem_of_getElem? (i := 699) (by decide +kernel)⟩
theorem lw_p31 : lw_okq (⟨"KiteStringsModel", "more", "(II)I"⟩, 18) := ⟨⟨by decide +kernel, by decide +kernel⟩, List.mem_of_getElem? (i := 553) (by decide +kernel), List.mem_of_getElem? (i := 705) (by decide +kernel), List.mem_of_getElem? (i := 706) (by decide +kernel)⟩
def lw_privs_2 : List (MethodName × Nat) := [(⟨"KiteStrings", "slotOf", "(I)LKiteStrings$Slot;"⟩, 8), (⟨"KiteStringsModel", "record", "()V"⟩, 18), (⟨"KiteStringsModel", "setPart", "(III)V"⟩, 18), (⟨"KiteStringsModel", "whyNotOrdered", "(III)I"⟩, 18), (⟨"KiteStringsModel", "isKite", "(I)Z"⟩, 18), (⟨"KiteStringsModel", "flies", "(I)Z"⟩, 18), (⟨"KiteStringsModel", "part", "(II)I"⟩, 18), (⟨"KiteStringsModel", "orders", "(III)I"⟩, 18), (⟨"KiteStringsModel", "greatestWear", "(I)I"⟩, 18), (⟨"KiteStringsModel", "passes", "(I)I"⟩, 18), (⟨"KiteStringsModel", "tick", "()V"⟩, 18), (⟨"KiteStringsModel", "flyOn", "(I)V"⟩, 18), (⟨"KiteStringsModel", "wearOut", "()V"⟩, 18), (⟨"KiteStringsModel", "cross", "(II)Z"⟩, 18), (⟨"KiteStringsModel", "sideOf", "(III)I"⟩, 18), (⟨"KiteStringsModel", "more", "(II)I"⟩, 18)]
theorem lw_r2 : ∀ q ∈ lw_privs_2, lw_okq q := List.forall_mem_cons.mpr ⟨lw_p16, List.forall_mem_cons.mpr ⟨lw_p17, List.forall_mem_cons.mpr ⟨lw_p18, List.forall_mem_cons.mpr ⟨lw_p19, List.forall_mem_cons.mpr ⟨lw_p20, List.forall_mem_cons.mpr ⟨lw_p21, List.forall_mem_cons.mpr ⟨lw_p22, List.forall_mem_cons.mpr ⟨lw_p23, List.forall_mem_cons.mpr ⟨lw_p24, List.forall_mem_cons.mpr ⟨lw_p25, List.forall_mem_cons.mpr ⟨lw_p26, List.forall_mem_cons.mpr ⟨lw_p27, List.forall_mem_cons.mpr ⟨lw_p28, List.forall_mem_cons.mpr ⟨lw_p29, List.forall_mem_cons.mpr ⟨lw_p30, List.forall_mem_cons.mpr ⟨lw_p31, fun _ h => absurd h List.not_mem_nil⟩⟩⟩⟩⟩⟩⟩⟩⟩⟩⟩⟩⟩⟩⟩⟩
theorem lw_p32 : lw_okq (⟨"KiteStringsModel", "sliding", "(II)I"⟩, 18) := ⟨⟨by decide +kernel, by decide +kernel⟩, List.mem_of_getElem? (i := 553) (by decide +kernel), List.mem_of_getElem? (i := 709) (by decide +kernel), List.mem_of_getElem? (i := 710) (by decide +kernel)⟩
theorem lw_p33 : lw_okq (⟨"KiteStringsModel", "cutThrough", "()V"⟩, 18) := ⟨⟨by decide +kernel, by decide +kernel⟩, List.mem_of_getElem? (i := 553) (by decide +kernel), List.mem_of_getElem? (i := 713) (by decide +kernel), List.mem_of_getElem? (i := 714) (by decide +kernel)⟩
theorem lw_p34 : lw_okq (⟨"KiteStringsModel", "isWornAt", "(II)Z"⟩, 18) := ⟨⟨by decide +kernel, by decide +kernel⟩, List.mem_of_getElem? (i := 553) (by decide +kernel), List.mem_of_getElem? (i := 717) (by decide +kernel), List.mem_of_getElem? (i := 718) (by decide +kernel)⟩
theorem lw_p35 : lw_okq (⟨"KiteStringsModel", "placeOfGreatest", "(I)I"⟩, 18) := ⟨⟨by decide +kernel, by decide +kernel⟩, List.mem_of_getElem? (i := 553) (by decide +kernel), List.mem_of_getElem? (i := 729) (by decide +kernel), List.mem_of_getElem? (i := 730) (by decide +kernel)⟩
theorem lw_p36 : lw_okq (⟨"KiteStringsModel", "crossingOnes", "(I)I"⟩, 18) := ⟨⟨by decide +kernel, by decide +kernel⟩, List.mem_of_getElem? (i := 553) (by decide +kernel), List.mem_of_getElem? (i := 733) (by decide +kernel), List.mem_of_getElem? (i := 734) (by decide +kernel)⟩
theorem lw_p37 : lw_okq (⟨"KiteStringsModel", "inTheAir", "()I"⟩, 18) := ⟨⟨by decide +kernel, by decide +kernel⟩, List.mem_of_getElem? (i := 553) (by decide +kernel), List.mem_of_getElem? (i := 749) (by decide +kernel), List.mem_of_getElem? (i := 750) (by decide +kernel)⟩
theorem lw_p38 : lw_okq (⟨"KiteStringsModel", "crossingsMany", "()I"⟩, 18) := ⟨⟨by decide +kernel, by decide +kernel⟩, List.mem_of_getElem? (i := 553) (by decide +kernel), List.mem_of_getElem? (i := 753) (by decide +kernel), List.mem_of_getElem? (i := 754) (by decide +kernel)⟩
theorem lw_p39 : lw_okq (⟨"KiteStringsModel", "leader", "()I"⟩, 18) := ⟨⟨by decide +kernel, by decide +kernel⟩, List.mem_of_getElem? (i := 553) (by decide +kernel), List.mem_of_getElem? (i := 757) (by decide +kernel), List.mem_of_getElem? (i := 758) (by decide +kernel)⟩
theorem lw_p40 : lw_okq (⟨"KiteStringsModel", "allPoints", "()I"⟩, 18) := ⟨⟨by decide +kernel, by decide +kernel⟩, List.mem_of_getElem? (i := 553) (by decide +kernel), List.mem_of_getElem? (i := 761) (by decide +kernel), List.mem_of_getElem? (i := 762) (by decide +kernel)⟩
theorem lw_p41 : lw_okq (⟨"KiteStringsModel", "getsWith", "(IIII)I"⟩, 18) := ⟨⟨by decide +kernel, by decide +kernel⟩, List.mem_of_getElem? (i := 553) (by decide +kernel), List.mem_of_getElem? (i := 784) (by decide +kernel), List.mem_of_getElem? (i := 785) (by decide +kernel)⟩
theorem lw_p42 : lw_okq (⟨"KiteStringsModel", "findFault", "()I"⟩, 18) := ⟨⟨by decide +kernel, by decide +kernel⟩, List.mem_of_getElem? (i := 553) (by decide +kernel), List.mem_of_getElem? (i := 801) (by decide +kernel), List.mem_of_getElem? (i := 802) (by decide +kernel)⟩
theorem lw_p43 : lw_okq (⟨"KiteStringsModel", "readsOrder", "()Z"⟩, 18) := ⟨⟨by decide +kernel, by decide +kernel⟩, List.mem_of_getElem? (i := 553) (by decide +kernel), List.mem_of_getElem? (i := 805) (by decide +kernel), List.mem_of_getElem? (i := 806) (by decide +kernel)⟩
theorem lw_p44 : lw_okq (⟨"KiteStringsModel", "takeDigit", "(II)I"⟩, 18) := ⟨⟨by decide +kernel, by decide +kernel⟩, List.mem_of_getElem? (i := 553) (by decide +kernel), List.mem_of_getElem? (i := 809) (by decide +kernel), List.mem_of_getElem? (i := 810) (by decide +kernel)⟩
theorem lw_p45 : lw_okq (⟨"KiteStringsModel", "character", "(I)I"⟩, 18) := ⟨⟨by decide +kernel, by decide +kernel⟩, List.mem_of_getElem? (i := 553) (by decide +kernel), List.mem_of_getElem? (i := 813) (by decide +kernel), List.mem_of_getElem? (i := 814) (by decide +kernel)⟩
theorem lw_p46 : lw_okq (⟨"KiteStringsModel", "isNext", "(I)Z"⟩, 18) := ⟨⟨by decide +kernel, by decide +kernel⟩, List.mem_of_getElem? (i := 553) (by decide +kernel), List.mem_of_getElem? (i := 817) (by decide +kernel), List.mem_of_getElem? (i := 818) (by decide +kernel)⟩
theorem lw_p47 : lw_okq (⟨"KiteStringsModel", "takeStep", "()I"⟩, 18) := ⟨⟨by decide +kernel, by decide +kernel⟩, List.mem_of_getElem? (i := 553) (by decide +kernel), List.mem_of_getElem? (i := 821) (by decide +kernel), List.mem_of_getElem? (i := 822) (by decide +kernel)⟩
def lw_privs_3 : List (MethodName × Nat) := [(⟨"KiteStringsModel", "sliding", "(II)I"⟩, 18), (⟨"KiteStringsModel", "cutThrough", "()V"⟩, 18), (⟨"KiteStringsModel", "isWornAt", "(II)Z"⟩, 18), (⟨"KiteStringsModel", "placeOfGreatest", "(I)I"⟩, 18), (⟨"KiteStringsModel", "crossingOnes", "(I)I"⟩, 18), (⟨"KiteStringsModel", "inTheAir", "()I"⟩, 18), (⟨"KiteStringsModel", "crossingsMany", "()I"⟩, 18), (⟨"KiteStringsModel", "leader", "()I"⟩, 18), (⟨"KiteStringsModel", "allPoints", "()I"⟩, 18), (⟨"KiteStringsModel", "getsWith", "(IIII)I"⟩, 18), (⟨"KiteStringsModel", "findFault", "()I"⟩, 18), (⟨"KiteStringsModel", "readsOrder", "()Z"⟩, 18), (⟨"KiteStringsModel", "takeDigit", "(II)I"⟩, 18), (⟨"KiteStringsModel", "character", "(I)I"⟩, 18), (⟨"KiteStringsModel", "isNext", "(I)Z"⟩, 18), (⟨"KiteStringsModel", "takeStep", "()I"⟩, 18)]
theorem lw_r3 : ∀ q ∈ lw_privs_3, lw_okq q := List.forall_mem_cons.mpr ⟨lw_p32, List.forall_mem_cons.mpr ⟨lw_p33, List.forall_mem_cons.mpr ⟨lw_p34, List.forall_mem_cons.mpr ⟨lw_p35, List.forall_mem_cons.mpr ⟨lw_p36, List.forall_mem_cons.mpr ⟨lw_p37, List.forall_mem_cons.mpr ⟨lw_p38, List.forall_mem_cons.mpr ⟨lw_p39, List.forall_mem_cons.mpr ⟨lw_p40, List.forall_mem_cons.mpr ⟨lw_p41, List.forall_mem_cons.mpr ⟨lw_p42, List.forall_mem_cons.mpr ⟨lw_p43, List.forall_mem_cons.mpr ⟨lw_p44, List.forall_mem_cons.mpr ⟨lw_p45, List.forall_mem_cons.mpr ⟨lw_p46, List.forall_mem_cons.mpr ⟨lw_p47, fun _ h => absurd h List.not_mem_nil⟩⟩⟩⟩⟩⟩⟩⟩⟩⟩⟩⟩⟩⟩⟩⟩
def lw_privs : List (MethodName × Nat) := lw_privs_1 ++ (lw_privs_2 ++ (lw_privs_3))
def lw_tbl : List Cond := k2_sels lw_privs ++ tables_1
theorem lw_privs_ok : ∀ q ∈ lw_privs, lw_okq q := by
  show ∀ q ∈ lw_privs_1 ++ (lw_privs_2 ++ (lw_privs_3)), lw_okq q
  exact List.forall_mem_append.mpr ⟨lw_r1, List.forall_mem_append.mpr ⟨lw_r2, lw_r3⟩⟩
-- ===== end of PART A; then your names; then what follows =====
end
section
def RX0 : String := "KiteStrings$History"
def TX0 : u_T := fun k => match k with
  | 0 => ("KiteStrings$History", "states", "[LKiteStrings$Sky;", true)
  | 1 => ("KiteStrings$History", "next", "I", false)
  | _ => ("KiteStrings$History", "held", "I", false)
def tyX0 : Nat → FieldType := fun k => match k with
  | 0 => .array (.object "KiteStrings$Sky")
  | 1 => .int
  | _ => .int
theorem nmX0 : ∀ a, a < 3 → ∀ b, b < 3 → a ≠ b → (TX0 a).2.1 ≠ (TX0 b).2.1 := by decide +kernel
theorem tyX0_ok : ∀ k, k < 3 → parseFieldDescriptor (TX0 k).2.2.1 = some (tyX0 k) := by decide +kernel
abbrev cX0_init : ByteArray := prog_2_method_1_code
def yX0_init : MethodName := ⟨RX0, "<init>", "()V"⟩
abbrev cX0_record : ByteArray := prog_2_method_2_code
def yX0_record : MethodName := ⟨RX0, "record", "(LKiteStrings$Sky;)V"⟩
abbrev cX0_takeBack : ByteArray := prog_2_method_3_code
def yX0_takeBack : MethodName := ⟨RX0, "takeBack", "(LKiteStrings$Sky;)V"⟩
abbrev cX0_stateAt : ByteArray := prog_2_method_4_code
def yX0_stateAt : MethodName := ⟨RX0, "stateAt", "(I)LKiteStrings$Sky;"⟩
def RX1 : String := "KiteStrings$Pad"
def TX1 : u_T := fun k => match k with
  | 0 => ("KiteStrings$Pad", "signs", "[C", true)
  | _ => ("KiteStrings$Pad", "length", "I", false)
def tyX1 : Nat → FieldType := fun k => match k with
  | 0 => .array .char
  | _ => .int
theorem nmX1 : ∀ a, a < 2 → ∀ b, b < 2 → a ≠ b → (TX1 a).2.1 ≠ (TX1 b).2.1 := by decide +kernel
theorem tyX1_ok : ∀ k, k < 2 → parseFieldDescriptor (TX1 k).2.2.1 = some (tyX1 k) := by decide +kernel
abbrev cX1_init : ByteArray := prog_3_method_1_code
def yX1_init : MethodName := ⟨RX1, "<init>", "()V"⟩
abbrev cX1_append : ByteArray := prog_3_method_2_code
def yX1_append : MethodName := ⟨RX1, "append", "(I)V"⟩
abbrev cX1_clear : ByteArray := prog_3_method_3_code
def yX1_clear : MethodName := ⟨RX1, "clear", "()V"⟩
abbrev cX1_firstFault : ByteArray := prog_3_method_4_code
def yX1_firstFault : MethodName := ⟨RX1, "firstFault", "()I"⟩
abbrev cX1_expectedAfter : ByteArray := prog_3_method_5_code
def yX1_expectedAfter : MethodName := ⟨RX1, "expectedAfter", "(II)I"⟩
abbrev cX1_afterStartOfStep : ByteArray := prog_3_method_6_code
def yX1_afterStartOfStep : MethodName := ⟨RX1, "afterStartOfStep", "(III)I"⟩
abbrev cX1_signAt : ByteArray := prog_3_method_7_code
def yX1_signAt : MethodName := ⟨RX1, "signAt", "(I)I"⟩
abbrev cX1_digitAt : ByteArray := prog_3_method_8_code
def yX1_digitAt : MethodName := ⟨RX1, "digitAt", "(I)I"⟩
abbrev cX1_stepAt : ByteArray := prog_3_method_9_code
def yX1_stepAt : MethodName := ⟨RX1, "stepAt", "(I)I"⟩
abbrev cX1_afterKite : ByteArray := prog_3_method_10_code
def yX1_afterKite : MethodName := ⟨RX1, "afterKite", "(I)I"⟩
abbrev cX1_afterStep : ByteArray := prog_3_method_11_code
def yX1_afterStep : MethodName := ⟨RX1, "afterStep", "(I)I"⟩
abbrev cX1_afterSemicolon : ByteArray := prog_3_method_12_code
def yX1_afterSemicolon : MethodName := ⟨RX1, "afterSemicolon", "(I)I"⟩
def RX2 : String := "KiteStrings$Sky"
def TX2 : u_T := fun k => match k with
  | 0 => ("KiteStrings$Sky", "kites", "I", false)
  | 1 => ("KiteStrings$Sky", "ticks", "I", false)
  | 2 => ("KiteStrings$Sky", "rounds", "I", false)
  | 3 => ("KiteStrings$Sky", "cuts", "I", false)
  | 4 => ("KiteStrings$Sky", "flyer", "[I", true)
  | 5 => ("KiteStrings$Sky", "x", "[I", true)
  | 6 => ("KiteStrings$Sky", "y", "[I", true)
  | 7 => ("KiteStrings$Sky", "dx", "[I", true)
  | 8 => ("KiteStrings$Sky", "dy", "[I", true)
  | 9 => ("KiteStrings$Sky", "glass", "[I", true)
  | 10 => ("KiteStrings$Sky", "strength", "[I", true)
  | 11 => ("KiteStrings$Sky", "points", "[I", true)
  | 12 => ("KiteStrings$Sky", "how", "[I", true)
  | 13 => ("KiteStrings$Sky", "firstFlyer", "[I", true)
  | 14 => ("KiteStrings$Sky", "firstX", "[I", true)
  | 15 => ("KiteStrings$Sky", "firstY", "[I", true)
  | _ => ("KiteStrings$Sky", "wears", "[I", true)
def tyX2 : Nat → FieldType := fun k => match k with
  | 0 => .int
  | 1 => .int
  | 2 => .int
  | 3 => .int
  | 4 => .array .int
  | 5 => .array .int
  | 6 => .array .int
  | 7 => .array .int
  | 8 => .array .int
  | 9 => .array .int
  | 10 => .array .int
  | 11 => .array .int
  | 12 => .array .int
  | 13 => .array .int
  | 14 => .array .int
  | 15 => .array .int
  | _ => .array .int
theorem nmX2 : ∀ a, a < 17 → ∀ b, b < 17 → a ≠ b → (TX2 a).2.1 ≠ (TX2 b).2.1 := by decide +kernel
theorem tyX2_ok : ∀ k, k < 17 → parseFieldDescriptor (TX2 k).2.2.1 = some (tyX2 k) := by decide +kernel
abbrev cX2_init : ByteArray := prog_4_method_1_code
def yX2_init : MethodName := ⟨RX2, "<init>", "()V"⟩
abbrev cX2_copyFrom : ByteArray := prog_4_method_2_code
def yX2_copyFrom : MethodName := ⟨RX2, "copyFrom", "(LKiteStrings$Sky;)V"⟩
abbrev cX2_copyRow : ByteArray := prog_4_method_3_code
def yX2_copyRow : MethodName := ⟨RX2, "copyRow", "([I[I)V"⟩
abbrev cX2_has : ByteArray := prog_4_method_4_code
def yX2_has : MethodName := ⟨RX2, "has", "(I)Z"⟩
abbrev cX2_isFlying : ByteArray := prog_4_method_5_code
def yX2_isFlying : MethodName := ⟨RX2, "isFlying", "(I)Z"⟩
abbrev cX2_addKite : ByteArray := prog_4_method_6_code
def yX2_addKite : MethodName := ⟨RX2, "addKite", "(IIIII)I"⟩
abbrev cX2_sendUp : ByteArray := prog_4_method_7_code
def yX2_sendUp : MethodName := ⟨RX2, "sendUp", "(I)V"⟩
abbrev cX2_beginAnew : ByteArray := prog_4_method_8_code
def yX2_beginAnew : MethodName := ⟨RX2, "beginAnew", "()V"⟩
abbrev cX2_turn : ByteArray := prog_4_method_9_code
def yX2_turn : MethodName := ⟨RX2, "turn", "(III)I"⟩
abbrev cX2_move : ByteArray := prog_4_method_10_code
def yX2_move : MethodName := ⟨RX2, "move", "(I)V"⟩
abbrev cX2_sliding : ByteArray := prog_4_method_11_code
def yX2_sliding : MethodName := ⟨RX2, "sliding", "(II)I"⟩
abbrev cX2_rubbing : ByteArray := prog_4_method_12_code
def yX2_rubbing : MethodName := ⟨RX2, "rubbing", "(IIZ)I"⟩
abbrev cX2_wearAt : ByteArray := prog_4_method_13_code
def yX2_wearAt : MethodName := ⟨RX2, "wearAt", "(II)I"⟩
abbrev cX2_wearDown : ByteArray := prog_4_method_14_code
def yX2_wearDown : MethodName := ⟨RX2, "wearDown", "(III)V"⟩
abbrev cX2_isWornThrough : ByteArray := prog_4_method_15_code
def yX2_isWornThrough : MethodName := ⟨RX2, "isWornThrough", "(II)Z"⟩
abbrev cX2_mostWornPlace : ByteArray := prog_4_method_16_code
def yX2_mostWornPlace : MethodName := ⟨RX2, "mostWornPlace", "(I)I"⟩
abbrev cX2_flyingKites : ByteArray := prog_4_method_17_code
def yX2_flyingKites : MethodName := ⟨RX2, "flyingKites", "()I"⟩
abbrev cX2_leader : ByteArray := prog_4_method_18_code
def yX2_leader : MethodName := ⟨RX2, "leader", "()I"⟩
abbrev cX2_allPoints : ByteArray := prog_4_method_19_code
def yX2_allPoints : MethodName := ⟨RX2, "allPoints", "()I"⟩
def RX3 : String := "KiteStrings$Slot"
def TX3 : u_T := fun k => match k with
  | 0 => ("KiteStrings$Slot", "sky", "LKiteStrings$Sky;", true)
  | _ => ("KiteStrings$Slot", "isFilled", "Z", false)
def tyX3 : Nat → FieldType := fun k => match k with
  | 0 => .object "KiteStrings$Sky"
  | _ => .boolean
theorem nmX3 : ∀ a, a < 2 → ∀ b, b < 2 → a ≠ b → (TX3 a).2.1 ≠ (TX3 b).2.1 := by decide +kernel
theorem tyX3_ok : ∀ k, k < 2 → parseFieldDescriptor (TX3 k).2.2.1 = some (tyX3 k) := by decide +kernel
abbrev cX3_init : ByteArray := prog_5_method_1_code
def yX3_init : MethodName := ⟨RX3, "<init>", "()V"⟩
def RX4 : String := "KiteStrings$Tick"
def TX4 : u_T := fun k => match k with
  | 0 => ("KiteStrings$Tick", "weave", "LKiteStrings$Weave;", true)
  | 1 => ("KiteStrings$Tick", "cutKites", "I", false)
  | _ => ("KiteStrings$Tick", "scorers", "I", false)
def tyX4 : Nat → FieldType := fun k => match k with
  | 0 => .object "KiteStrings$Weave"
  | 1 => .int
  | _ => .int
theorem nmX4 : ∀ a, a < 3 → ∀ b, b < 3 → a ≠ b → (TX4 a).2.1 ≠ (TX4 b).2.1 := by decide +kernel
theorem tyX4_ok : ∀ k, k < 3 → parseFieldDescriptor (TX4 k).2.2.1 = some (tyX4 k) := by decide +kernel
abbrev cX4_init : ByteArray := prog_6_method_1_code
def yX4_init : MethodName := ⟨RX4, "<init>", "()V"⟩
abbrev cX4_happenIn : ByteArray := prog_6_method_2_code
def yX4_happenIn : MethodName := ⟨RX4, "happenIn", "(LKiteStrings$Sky;)V"⟩
abbrev cX4_wearStrings : ByteArray := prog_6_method_3_code
def yX4_wearStrings : MethodName := ⟨RX4, "wearStrings", "(LKiteStrings$Sky;)V"⟩
abbrev cX4_givePoints : ByteArray := prog_6_method_4_code
def yX4_givePoints : MethodName := ⟨RX4, "givePoints", "(LKiteStrings$Sky;)V"⟩
abbrev cX4_cutStrings : ByteArray := prog_6_method_5_code
def yX4_cutStrings : MethodName := ⟨RX4, "cutStrings", "(LKiteStrings$Sky;)V"⟩
def RX5 : String := "KiteStrings$Weave"
def TX5 : u_T := fun k => match k with
  | 0 => ("KiteStrings$Weave", "owners", "[I", true)
  | 1 => ("KiteStrings$Weave", "crossers", "[I", true)
  | 2 => ("KiteStrings$Weave", "places", "[I", true)
  | 3 => ("KiteStrings$Weave", "steep", "[Z", true)
  | _ => ("KiteStrings$Weave", "notes", "I", false)
def tyX5 : Nat → FieldType := fun k => match k with
  | 0 => .array .int
  | 1 => .array .int
  | 2 => .array .int
  | 3 => .array .boolean
  | _ => .int
theorem nmX5 : ∀ a, a < 5 → ∀ b, b < 5 → a ≠ b → (TX5 a).2.1 ≠ (TX5 b).2.1 := by decide +kernel
theorem tyX5_ok : ∀ k, k < 5 → parseFieldDescriptor (TX5 k).2.2.1 = some (tyX5 k) := by decide +kernel
abbrev cX5_init : ByteArray := prog_7_method_1_code
def yX5_init : MethodName := ⟨RX5, "<init>", "()V"⟩
abbrev cX5_measure : ByteArray := prog_7_method_2_code
def yX5_measure : MethodName := ⟨RX5, "measure", "(LKiteStrings$Sky;)V"⟩
abbrev cX5_measurePair : ByteArray := prog_7_method_3_code
def yX5_measurePair : MethodName := ⟨RX5, "measurePair", "(LKiteStrings$Sky;II)V"⟩
abbrev cX5_note : ByteArray := prog_7_method_4_code
def yX5_note : MethodName := ⟨RX5, "note", "(IIIZ)V"⟩
abbrev cX5_crossings : ByteArray := prog_7_method_5_code
def yX5_crossings : MethodName := ⟨RX5, "crossings", "()I"⟩
abbrev cX5_noteOf : ByteArray := prog_7_method_6_code
def yX5_noteOf : MethodName := ⟨RX5, "noteOf", "(II)I"⟩
abbrev cX5_cross : ByteArray := prog_7_method_7_code
def yX5_cross : MethodName := ⟨RX5, "cross", "(II)Z"⟩
abbrev cX5_placeOn : ByteArray := prog_7_method_8_code
def yX5_placeOn : MethodName := ⟨RX5, "placeOn", "(II)I"⟩
abbrev cX5_isSteep : ByteArray := prog_7_method_9_code
def yX5_isSteep : MethodName := ⟨RX5, "isSteep", "(II)Z"⟩
abbrev cX5_crossersOf : ByteArray := prog_7_method_10_code
def yX5_crossersOf : MethodName := ⟨RX5, "crossersOf", "(I)I"⟩
def RX6 : String := "KiteStrings"
def TX6 : u_T := fun k => match k with
  | 0 => ("KiteStrings", "now", "LKiteStrings$Sky;", true)
  | 1 => ("KiteStrings", "trial", "LKiteStrings$Sky;", true)
  | 2 => ("KiteStrings", "weave", "LKiteStrings$Weave;", true)
  | 3 => ("KiteStrings", "tick", "LKiteStrings$Tick;", true)
  | 4 => ("KiteStrings", "history", "LKiteStrings$History;", true)
  | 5 => ("KiteStrings", "firstSlot", "LKiteStrings$Slot;", true)
  | 6 => ("KiteStrings", "secondSlot", "LKiteStrings$Slot;", true)
  | _ => ("KiteStrings", "pad", "LKiteStrings$Pad;", true)
def tyX6 : Nat → FieldType := fun k => match k with
  | 0 => .object "KiteStrings$Sky"
  | 1 => .object "KiteStrings$Sky"
  | 2 => .object "KiteStrings$Weave"
  | 3 => .object "KiteStrings$Tick"
  | 4 => .object "KiteStrings$History"
  | 5 => .object "KiteStrings$Slot"
  | 6 => .object "KiteStrings$Slot"
  | _ => .object "KiteStrings$Pad"
theorem nmX6 : ∀ a, a < 8 → ∀ b, b < 8 → a ≠ b → (TX6 a).2.1 ≠ (TX6 b).2.1 := by decide +kernel
theorem tyX6_ok : ∀ k, k < 8 → parseFieldDescriptor (TX6 k).2.2.1 = some (tyX6 k) := by decide +kernel
abbrev cX6_init : ByteArray := prog_1_method_1_code
def yX6_init : MethodName := ⟨RX6, "<init>", "()V"⟩
abbrev cX6_launch : ByteArray := prog_1_method_2_code
def yX6_launch : MethodName := ⟨RX6, "launch", "(IIIII)I"⟩
abbrev cX6_order : ByteArray := prog_1_method_3_code
def yX6_order : MethodName := ⟨RX6, "order", "(III)I"⟩
abbrev cX6_step : ByteArray := prog_1_method_4_code
def yX6_step : MethodName := ⟨RX6, "step", "(II)I"⟩
abbrev cX6_land : ByteArray := prog_1_method_5_code
def yX6_land : MethodName := ⟨RX6, "land", "(I)I"⟩
abbrev cX6_pass : ByteArray := prog_1_method_6_code
def yX6_pass : MethodName := ⟨RX6, "pass", "(I)I"⟩
abbrev cX6_round : ByteArray := prog_1_method_7_code
def yX6_round : MethodName := ⟨RX6, "round", "()I"⟩
abbrev cX6_carryOut : ByteArray := prog_1_method_8_code
def yX6_carryOut : MethodName := ⟨RX6, "carryOut", "()I"⟩
abbrev cX6_giveOrdersOfPad : ByteArray := prog_1_method_9_code
def yX6_giveOrdersOfPad : MethodName := ⟨RX6, "giveOrdersOfPad", "()I"⟩
abbrev cX6_errorOfOrder : ByteArray := prog_1_method_10_code
def yX6_errorOfOrder : MethodName := ⟨RX6, "errorOfOrder", "(III)I"⟩
abbrev cX6_kite : ByteArray := prog_1_method_11_code
def yX6_kite : MethodName := ⟨RX6, "kite", "(II)I"⟩
abbrev cX6_aboutKite : ByteArray := prog_1_method_12_code
def yX6_aboutKite : MethodName := ⟨RX6, "aboutKite", "(II)I"⟩
abbrev cX6_aboutString : ByteArray := prog_1_method_13_code
def yX6_aboutString : MethodName := ⟨RX6, "aboutString", "(II)I"⟩
abbrev cX6_wear : ByteArray := prog_1_method_14_code
def yX6_wear : MethodName := ⟨RX6, "wear", "(II)I"⟩
abbrev cX6_crossing : ByteArray := prog_1_method_15_code
def yX6_crossing : MethodName := ⟨RX6, "crossing", "(III)I"⟩
abbrev cX6_aboutCrossing : ByteArray := prog_1_method_16_code
def yX6_aboutCrossing : MethodName := ⟨RX6, "aboutCrossing", "(III)I"⟩
abbrev cX6_count : ByteArray := prog_1_method_17_code
def yX6_count : MethodName := ⟨RX6, "count", "(I)I"⟩
abbrev cX6_ifPassed : ByteArray := prog_1_method_18_code
def yX6_ifPassed : MethodName := ⟨RX6, "ifPassed", "(II)I"⟩
abbrev cX6_firstCut : ByteArray := prog_1_method_19_code
def yX6_firstCut : MethodName := ⟨RX6, "firstCut", "(I)I"⟩
abbrev cX6_aboutCut : ByteArray := prog_1_method_20_code
def yX6_aboutCut : MethodName := ⟨RX6, "aboutCut", "(II)I"⟩
abbrev cX6_meets : ByteArray := prog_1_method_21_code
def yX6_meets : MethodName := ⟨RX6, "meets", "(II)I"⟩
abbrev cX6_bestOrder : ByteArray := prog_1_method_22_code
def yX6_bestOrder : MethodName := ⟨RX6, "bestOrder", "(III)I"⟩
abbrev cX6_gainWith : ByteArray := prog_1_method_23_code
def yX6_gainWith : MethodName := ⟨RX6, "gainWith", "(IIII)I"⟩
abbrev cX6_put : ByteArray := prog_1_method_24_code
def yX6_put : MethodName := ⟨RX6, "put", "(J)I"⟩
abbrev cX6_signsIn : ByteArray := prog_1_method_25_code
def yX6_signsIn : MethodName := ⟨RX6, "signsIn", "(J)I"⟩
abbrev cX6_signAt : ByteArray := prog_1_method_26_code
def yX6_signAt : MethodName := ⟨RX6, "signAt", "(JI)I"⟩
abbrev cX6_wipe : ByteArray := prog_1_method_27_code
def yX6_wipe : MethodName := ⟨RX6, "wipe", "()I"⟩
abbrev cX6_fault : ByteArray := prog_1_method_28_code
def yX6_fault : MethodName := ⟨RX6, "fault", "()I"⟩
abbrev cX6_undo : ByteArray := prog_1_method_29_code
def yX6_undo : MethodName := ⟨RX6, "undo", "()I"⟩
abbrev cX6_save : ByteArray := prog_1_method_30_code
def yX6_save : MethodName := ⟨RX6, "save", "(I)I"⟩
abbrev cX6_restore : ByteArray := prog_1_method_31_code
def yX6_restore : MethodName := ⟨RX6, "restore", "(I)I"⟩
abbrev cX6_slotOf : ByteArray := prog_1_method_32_code
def yX6_slotOf : MethodName := ⟨RX6, "slotOf", "(I)LKiteStrings$Slot;"⟩
abbrev cX6_isWithin : ByteArray := prog_1_method_33_code
def yX6_isWithin : MethodName := ⟨RX6, "isWithin", "(III)Z"⟩
abbrev cX6_lowestOf : ByteArray := prog_1_method_34_code
def yX6_lowestOf : MethodName := ⟨RX6, "lowestOf", "(I)I"⟩
def RX7 : String := "KiteStringsModel"
def TX7 : u_T := fun k => match k with
  | 0 => ("KiteStringsModel", "state", "[I", true)
  | 1 => ("KiteStringsModel", "kept", "[I", true)
  | 2 => ("KiteStringsModel", "history", "[I", true)
  | 3 => ("KiteStringsModel", "recorded", "I", false)
  | 4 => ("KiteStringsModel", "slots", "[I", true)
  | 5 => ("KiteStringsModel", "isSaved", "[I", true)
  | 6 => ("KiteStringsModel", "pad", "[I", true)
  | 7 => ("KiteStringsModel", "padLength", "I", false)
  | 8 => ("KiteStringsModel", "places", "[I", true)
  | 9 => ("KiteStringsModel", "placeOne", "I", false)
  | 10 => ("KiteStringsModel", "placeTwo", "I", false)
  | 11 => ("KiteStringsModel", "isSteep", "Z", false)
  | 12 => ("KiteStringsModel", "cutNow", "I", false)
  | 13 => ("KiteStringsModel", "gotNow", "I", false)
  | 14 => ("KiteStringsModel", "at", "I", false)
  | 15 => ("KiteStringsModel", "first", "I", false)
  | 16 => ("KiteStringsModel", "second", "I", false)
  | _ => ("KiteStringsModel", "third", "I", false)
def tyX7 : Nat → FieldType := fun k => match k with
  | 0 => .array .int
  | 1 => .array .int
  | 2 => .array .int
  | 3 => .int
  | 4 => .array .int
  | 5 => .array .int
  | 6 => .array .int
  | 7 => .int
  | 8 => .array .int
  | 9 => .int
  | 10 => .int
  | 11 => .boolean
  | 12 => .int
  | 13 => .int
  | 14 => .int
  | 15 => .int
  | 16 => .int
  | _ => .int
theorem nmX7 : ∀ a, a < 18 → ∀ b, b < 18 → a ≠ b → (TX7 a).2.1 ≠ (TX7 b).2.1 := by decide +kernel
theorem tyX7_ok : ∀ k, k < 18 → parseFieldDescriptor (TX7 k).2.2.1 = some (tyX7 k) := by decide +kernel
abbrev cX7_init : ByteArray := prog_9_method_1_code
def yX7_init : MethodName := ⟨RX7, "<init>", "()V"⟩
abbrev cX7_moves : ByteArray := prog_9_method_3_code
def yX7_moves : MethodName := ⟨RX7, "moves", "([II[II)V"⟩
abbrev cX7_within : ByteArray := prog_9_method_4_code
def yX7_within : MethodName := ⟨RX7, "within", "(III)Z"⟩
abbrev cX7_size : ByteArray := prog_9_method_5_code
def yX7_size : MethodName := ⟨RX7, "size", "(I)I"⟩
abbrev cX7_record : ByteArray := prog_9_method_6_code
def yX7_record : MethodName := ⟨RX7, "record", "()V"⟩
abbrev cX7_isKite : ByteArray := prog_9_method_7_code
def yX7_isKite : MethodName := ⟨RX7, "isKite", "(I)Z"⟩
abbrev cX7_part : ByteArray := prog_9_method_8_code
def yX7_part : MethodName := ⟨RX7, "part", "(II)I"⟩
abbrev cX7_setPart : ByteArray := prog_9_method_9_code
def yX7_setPart : MethodName := ⟨RX7, "setPart", "(III)V"⟩
abbrev cX7_flies : ByteArray := prog_9_method_10_code
def yX7_flies : MethodName := ⟨RX7, "flies", "(I)Z"⟩
abbrev cX7_greatestWear : ByteArray := prog_9_method_11_code
def yX7_greatestWear : MethodName := ⟨RX7, "greatestWear", "(I)I"⟩
abbrev cX7_placeOfGreatest : ByteArray := prog_9_method_12_code
def yX7_placeOfGreatest : MethodName := ⟨RX7, "placeOfGreatest", "(I)I"⟩
abbrev cX7_sideOf : ByteArray := prog_9_method_13_code
def yX7_sideOf : MethodName := ⟨RX7, "sideOf", "(III)I"⟩
abbrev cX7_areApart : ByteArray := prog_9_method_14_code
def yX7_areApart : MethodName := ⟨RX7, "areApart", "(II)Z"⟩
abbrev cX7_cross : ByteArray := prog_9_method_15_code
def yX7_cross : MethodName := ⟨RX7, "cross", "(II)Z"⟩
abbrev cX7_sliding : ByteArray := prog_9_method_16_code
def yX7_sliding : MethodName := ⟨RX7, "sliding", "(II)I"⟩
abbrev cX7_more : ByteArray := prog_9_method_17_code
def yX7_more : MethodName := ⟨RX7, "more", "(II)I"⟩
abbrev cX7_crossingsMany : ByteArray := prog_9_method_18_code
def yX7_crossingsMany : MethodName := ⟨RX7, "crossingsMany", "()I"⟩
abbrev cX7_crossingOnes : ByteArray := prog_9_method_19_code
def yX7_crossingOnes : MethodName := ⟨RX7, "crossingOnes", "(I)I"⟩
abbrev cX7_flyOn : ByteArray := prog_9_method_20_code
def yX7_flyOn : MethodName := ⟨RX7, "flyOn", "(I)V"⟩
abbrev cX7_wearOut : ByteArray := prog_9_method_21_code
def yX7_wearOut : MethodName := ⟨RX7, "wearOut", "()V"⟩
abbrev cX7_isWornAt : ByteArray := prog_9_method_22_code
def yX7_isWornAt : MethodName := ⟨RX7, "isWornAt", "(II)Z"⟩
abbrev cX7_cutThrough : ByteArray := prog_9_method_23_code
def yX7_cutThrough : MethodName := ⟨RX7, "cutThrough", "()V"⟩
abbrev cX7_tick : ByteArray := prog_9_method_24_code
def yX7_tick : MethodName := ⟨RX7, "tick", "()V"⟩
abbrev cX7_passes : ByteArray := prog_9_method_25_code
def yX7_passes : MethodName := ⟨RX7, "passes", "(I)I"⟩
abbrev cX7_launch : ByteArray := prog_9_method_26_code
def yX7_launch : MethodName := ⟨RX7, "launch", "(IIIII)I"⟩
abbrev cX7_isStep : ByteArray := prog_9_method_27_code
def yX7_isStep : MethodName := ⟨RX7, "isStep", "(I)Z"⟩
abbrev cX7_whyNotOrdered : ByteArray := prog_9_method_28_code
def yX7_whyNotOrdered : MethodName := ⟨RX7, "whyNotOrdered", "(III)I"⟩
abbrev cX7_orders : ByteArray := prog_9_method_29_code
def yX7_orders : MethodName := ⟨RX7, "orders", "(III)I"⟩
abbrev cX7_order : ByteArray := prog_9_method_30_code
def yX7_order : MethodName := ⟨RX7, "order", "(III)I"⟩
abbrev cX7_step : ByteArray := prog_9_method_31_code
def yX7_step : MethodName := ⟨RX7, "step", "(II)I"⟩
abbrev cX7_land : ByteArray := prog_9_method_32_code
def yX7_land : MethodName := ⟨RX7, "land", "(I)I"⟩
abbrev cX7_pass : ByteArray := prog_9_method_33_code
def yX7_pass : MethodName := ⟨RX7, "pass", "(I)I"⟩
abbrev cX7_round : ByteArray := prog_9_method_34_code
def yX7_round : MethodName := ⟨RX7, "round", "()I"⟩
abbrev cX7_kite : ByteArray := prog_9_method_35_code
def yX7_kite : MethodName := ⟨RX7, "kite", "(II)I"⟩
abbrev cX7_wear : ByteArray := prog_9_method_36_code
def yX7_wear : MethodName := ⟨RX7, "wear", "(II)I"⟩
abbrev cX7_crossing : ByteArray := prog_9_method_37_code
def yX7_crossing : MethodName := ⟨RX7, "crossing", "(III)I"⟩
abbrev cX7_inTheAir : ByteArray := prog_9_method_38_code
def yX7_inTheAir : MethodName := ⟨RX7, "inTheAir", "()I"⟩
abbrev cX7_leader : ByteArray := prog_9_method_39_code
def yX7_leader : MethodName := ⟨RX7, "leader", "()I"⟩
abbrev cX7_allPoints : ByteArray := prog_9_method_40_code
def yX7_allPoints : MethodName := ⟨RX7, "allPoints", "()I"⟩
abbrev cX7_count : ByteArray := prog_9_method_41_code
def yX7_count : MethodName := ⟨RX7, "count", "(I)I"⟩
abbrev cX7_ifPassed : ByteArray := prog_9_method_42_code
def yX7_ifPassed : MethodName := ⟨RX7, "ifPassed", "(II)I"⟩
abbrev cX7_lowest : ByteArray := prog_9_method_43_code
def yX7_lowest : MethodName := ⟨RX7, "lowest", "(I)I"⟩
abbrev cX7_firstCut : ByteArray := prog_9_method_44_code
def yX7_firstCut : MethodName := ⟨RX7, "firstCut", "(I)I"⟩
abbrev cX7_meets : ByteArray := prog_9_method_45_code
def yX7_meets : MethodName := ⟨RX7, "meets", "(II)I"⟩
abbrev cX7_getsWith : ByteArray := prog_9_method_46_code
def yX7_getsWith : MethodName := ⟨RX7, "getsWith", "(IIII)I"⟩
abbrev cX7_bestOrder : ByteArray := prog_9_method_47_code
def yX7_bestOrder : MethodName := ⟨RX7, "bestOrder", "(III)I"⟩
abbrev cX7_put : ByteArray := prog_9_method_48_code
def yX7_put : MethodName := ⟨RX7, "put", "(J)I"⟩
abbrev cX7_wipe : ByteArray := prog_9_method_49_code
def yX7_wipe : MethodName := ⟨RX7, "wipe", "()I"⟩
abbrev cX7_character : ByteArray := prog_9_method_50_code
def yX7_character : MethodName := ⟨RX7, "character", "(I)I"⟩
abbrev cX7_isNext : ByteArray := prog_9_method_51_code
def yX7_isNext : MethodName := ⟨RX7, "isNext", "(I)Z"⟩
abbrev cX7_takeDigit : ByteArray := prog_9_method_52_code
def yX7_takeDigit : MethodName := ⟨RX7, "takeDigit", "(II)I"⟩
abbrev cX7_takeStep : ByteArray := prog_9_method_53_code
def yX7_takeStep : MethodName := ⟨RX7, "takeStep", "()I"⟩
abbrev cX7_readsOrder : ByteArray := prog_9_method_54_code
def yX7_readsOrder : MethodName := ⟨RX7, "readsOrder", "()Z"⟩
abbrev cX7_findFault : ByteArray := prog_9_method_55_code
def yX7_findFault : MethodName := ⟨RX7, "findFault", "()I"⟩
abbrev cX7_fault : ByteArray := prog_9_method_56_code
def yX7_fault : MethodName := ⟨RX7, "fault", "()I"⟩
abbrev cX7_carryOut : ByteArray := prog_9_method_57_code
def yX7_carryOut : MethodName := ⟨RX7, "carryOut", "()I"⟩
abbrev cX7_undo : ByteArray := prog_9_method_58_code
def yX7_undo : MethodName := ⟨RX7, "undo", "()I"⟩
abbrev cX7_save : ByteArray := prog_9_method_59_code
def yX7_save : MethodName := ⟨RX7, "save", "(I)I"⟩
abbrev cX7_restore : ByteArray := prog_9_method_60_code
def yX7_restore : MethodName := ⟨RX7, "restore", "(I)I"⟩
def RJ9 : String := "java/lang/Math"
def TJ9 : u_T := fun k => match k with
  | _ => ("", "", "", false)
def tyJ9 : Nat → FieldType := fun k => match k with
  | _ => .int
theorem nmJ9 : ∀ a, a < 0 → ∀ b, b < 0 → a ≠ b → (TJ9 a).2.1 ≠ (TJ9 b).2.1 := by decide +kernel
abbrev cJ9_abs_0f7a4 : ByteArray := prog_10_method_59_code
def yJ9_abs_0f7a4 : MethodName := ⟨RJ9, "abs", "(I)I"⟩
abbrev cJ9_min_7cf53 : ByteArray := prog_10_method_69_code
def yJ9_min_7cf53 : MethodName := ⟨RJ9, "min", "(II)I"⟩
def RJ10 : String := "java/lang/System"
def TJ10 : u_T := fun k => match k with
  | _ => ("", "", "", false)
def tyJ10 : Nat → FieldType := fun k => match k with
  | _ => .int
theorem nmJ10 : ∀ a, a < 0 → ∀ b, b < 0 → a ≠ b → (TJ10 a).2.1 ≠ (TJ10 b).2.1 := by decide +kernel
def RL : String := "KiteStringsLaw"
abbrev cL_law : ByteArray := code
def yL_law : MethodName := ⟨RL, "law", "([I)Z"⟩
abbrev vwCl : List vw_C := [(RX0, TX0, 3), (RX1, TX1, 2), (RX2, TX2, 17), (RX3, TX3, 2), (RX4, TX4, 3), (RX5, TX5, 5), (RX6, TX6, 8), (RX7, TX7, 18)]
end
section
def zT : List Cond := lw_tbl.filter goodWord
theorem z_in {w : Cond} (i : Nat) (h : lw_tbl[i]? = some w) (hg : goodWord w = true) : w ∈ zT := List.mem_filter.mpr ⟨List.mem_of_getElem? h, hg⟩
theorem zT_good : ∀ w ∈ zT, goodWord w = true := fun _ h => (List.mem_filter.mp h).2
theorem wi_L : (Jvm.Cond.initialized "KiteStringsLaw") ∈ zT := z_in (i := 48) (by decide +kernel) (by decide +kernel)
theorem wi_X6 : (Jvm.Cond.initialized "KiteStrings") ∈ zT := z_in (i := 49) (by decide +kernel) (by decide +kernel)
theorem wi_X2 : (Jvm.Cond.initialized "KiteStrings$Sky") ∈ zT := z_in (i := 50) (by decide +kernel) (by decide +kernel)
theorem wi_X5 : (Jvm.Cond.initialized "KiteStrings$Weave") ∈ zT := z_in (i := 51) (by decide +kernel) (by decide +kernel)
theorem wi_X4 : (Jvm.Cond.initialized "KiteStrings$Tick") ∈ zT := z_in (i := 52) (by decide +kernel) (by decide +kernel)
theorem wi_X0 : (Jvm.Cond.initialized "KiteStrings$History") ∈ zT := z_in (i := 53) (by decide +kernel) (by decide +kernel)
theorem wi_X3 : (Jvm.Cond.initialized "KiteStrings$Slot") ∈ zT := z_in (i := 54) (by decide +kernel) (by decide +kernel)
theorem wi_X1 : (Jvm.Cond.initialized "KiteStrings$Pad") ∈ zT := z_in (i := 55) (by decide +kernel) (by decide +kernel)
theorem wi_X7 : (Jvm.Cond.initialized "KiteStringsModel") ∈ zT := z_in (i := 56) (by decide +kernel) (by decide +kernel)
theorem wi_JM : (Jvm.Cond.initialized "java/lang/Math") ∈ zT := z_in (i := 57) (by decide +kernel) (by decide +kernel)
theorem wi_JS : (Jvm.Cond.initialized "java/lang/System") ∈ zT := z_in (i := 58) (by decide +kernel) (by decide +kernel)
theorem wc_L_7 : (Jvm.Cond.classLink "KiteStringsLaw" (7 : Nat) "KiteStrings") ∈ zT := z_in (i := 59) (by decide +kernel) (by decide +kernel)
theorem wn_X6 : (Jvm.Cond.instantiable "KiteStrings" (8 : Nat)) ∈ zT := z_in (i := 60) (by decide +kernel) (by decide +kernel)
theorem wm_L_9 : (Jvm.Cond.methodLink "KiteStringsLaw" (9 : Nat) ({ cls := "KiteStrings", name := "<init>", desc := "()V" } : Jvm.MethodName)) ∈ zT := z_in (i := 61) (by decide +kernel) (by decide +kernel)
theorem wv_X6_init : (Jvm.Cond.instanceMethod ({ cls := "KiteStrings", name := "<init>", desc := "()V" } : Jvm.MethodName)) ∈ zT := z_in (i := 62) (by decide +kernel) (by decide +kernel)
theorem wk_X6_init : (Jvm.Cond.code ({ cls := "KiteStrings", name := "<init>", desc := "()V" } : Jvm.MethodName) prog_1_method_1_code (1 : Nat) (Option.none : Option Jvm.ClassFile.FieldType)) ∈ zT := z_in (i := 63) (by decide +kernel) (by decide +kernel)
theorem wm_X6_1 : (Jvm.Cond.methodLink "KiteStrings" (1 : Nat) ({ cls := "java/lang/Object", name := "<init>", desc := "()V" } : Jvm.MethodName)) ∈ zT := z_in (i := 64) (by decide +kernel) (by decide +kernel)
theorem wv_JO_init : (Jvm.Cond.instanceMethod ({ cls := "java/lang/Object", name := "<init>", desc := "()V" } : Jvm.MethodName)) ∈ zT := z_in (i := 65) (by decide +kernel) (by decide +kernel)
theorem wk_JO_init : (Jvm.Cond.code ({ cls := "java/lang/Object", name := "<init>", desc := "()V" } : Jvm.MethodName) object_method_1_code (1 : Nat) (Option.none : Option Jvm.ClassFile.FieldType)) ∈ zT := z_in (i := 66) (by decide +kernel) (by decide +kernel)
theorem wc_X6_7 : (Jvm.Cond.classLink "KiteStrings" (7 : Nat) "KiteStrings$Sky") ∈ zT := z_in (i := 67) (by decide +kernel) (by decide +kernel)
theorem wn_X2 : (Jvm.Cond.instantiable "KiteStrings$Sky" (17 : Nat)) ∈ zT := z_in (i := 68) (by decide +kernel) (by decide +kernel)
theorem wm_X6_9 : (Jvm.Cond.methodLink "KiteStrings" (9 : Nat) ({ cls := "KiteStrings$Sky", name := "<init>", desc := "()V" } : Jvm.MethodName)) ∈ zT := z_in (i := 69) (by decide +kernel) (by decide +kernel)
theorem wv_X2_init : (Jvm.Cond.instanceMethod ({ cls := "KiteStrings$Sky", name := "<init>", desc := "()V" } : Jvm.MethodName)) ∈ zT := z_in (i := 70) (by decide +kernel) (by decide +kernel)
theorem wk_X2_init : (Jvm.Cond.code ({ cls := "KiteStrings$Sky", name := "<init>", desc := "()V" } : Jvm.MethodName) prog_4_method_1_code (1 : Nat) (Option.none : Option Jvm.ClassFile.FieldType)) ∈ zT := z_in (i := 71) (by decide +kernel) (by decide +kernel)
theorem wm_X2_3 : (Jvm.Cond.methodLink "KiteStrings$Sky" (3 : Nat) ({ cls := "java/lang/Object", name := "<init>", desc := "()V" } : Jvm.MethodName)) ∈ zT := z_in (i := 72) (by decide +kernel) (by decide +kernel)
theorem wf_X2_51 : (Jvm.Cond.fieldLink "KiteStrings$Sky" (51 : Nat) "KiteStrings$Sky" "kites" "I") ∈ zT := z_in (i := 73) (by decide +kernel) (by decide +kernel)
theorem wf_X6_61 : (Jvm.Cond.fieldLink "KiteStrings" (61 : Nat) "KiteStrings$Sky" "kites" "I") ∈ zT := z_in (i := 74) (by decide +kernel) (by decide +kernel)
theorem wf_X2_55 : (Jvm.Cond.fieldLink "KiteStrings$Sky" (55 : Nat) "KiteStrings$Sky" "ticks" "I") ∈ zT := z_in (i := 75) (by decide +kernel) (by decide +kernel)
theorem wf_X4_28 : (Jvm.Cond.fieldLink "KiteStrings$Tick" (28 : Nat) "KiteStrings$Sky" "ticks" "I") ∈ zT := z_in (i := 76) (by decide +kernel) (by decide +kernel)
theorem wf_X6_201 : (Jvm.Cond.fieldLink "KiteStrings" (201 : Nat) "KiteStrings$Sky" "ticks" "I") ∈ zT := z_in (i := 77) (by decide +kernel) (by decide +kernel)
theorem wf_X2_58 : (Jvm.Cond.fieldLink "KiteStrings$Sky" (58 : Nat) "KiteStrings$Sky" "rounds" "I") ∈ zT := z_in (i := 78) (by decide +kernel) (by decide +kernel)
theorem wf_X6_111 : (Jvm.Cond.fieldLink "KiteStrings" (111 : Nat) "KiteStrings$Sky" "rounds" "I") ∈ zT := z_in (i := 79) (by decide +kernel) (by decide +kernel)
theorem wf_X2_61 : (Jvm.Cond.fieldLink "KiteStrings$Sky" (61 : Nat) "KiteStrings$Sky" "cuts" "I") ∈ zT := z_in (i := 80) (by decide +kernel) (by decide +kernel)
theorem wf_X4_86 : (Jvm.Cond.fieldLink "KiteStrings$Tick" (86 : Nat) "KiteStrings$Sky" "cuts" "I") ∈ zT := z_in (i := 81) (by decide +kernel) (by decide +kernel)
theorem wf_X6_210 : (Jvm.Cond.fieldLink "KiteStrings" (210 : Nat) "KiteStrings$Sky" "cuts" "I") ∈ zT := z_in (i := 82) (by decide +kernel) (by decide +kernel)
theorem wf_X2_9 : (Jvm.Cond.fieldLink "KiteStrings$Sky" (9 : Nat) "KiteStrings$Sky" "flyer" "[I") ∈ zT := z_in (i := 83) (by decide +kernel) (by decide +kernel)
theorem wf_X5_42 : (Jvm.Cond.fieldLink "KiteStrings$Weave" (42 : Nat) "KiteStrings$Sky" "flyer" "[I") ∈ zT := z_in (i := 84) (by decide +kernel) (by decide +kernel)
theorem wf_X6_87 : (Jvm.Cond.fieldLink "KiteStrings" (87 : Nat) "KiteStrings$Sky" "flyer" "[I") ∈ zT := z_in (i := 85) (by decide +kernel) (by decide +kernel)
theorem wf_X2_15 : (Jvm.Cond.fieldLink "KiteStrings$Sky" (15 : Nat) "KiteStrings$Sky" "x" "[I") ∈ zT := z_in (i := 86) (by decide +kernel) (by decide +kernel)
theorem wf_X5_39 : (Jvm.Cond.fieldLink "KiteStrings$Weave" (39 : Nat) "KiteStrings$Sky" "x" "[I") ∈ zT := z_in (i := 87) (by decide +kernel) (by decide +kernel)
theorem wf_X6_148 : (Jvm.Cond.fieldLink "KiteStrings" (148 : Nat) "KiteStrings$Sky" "x" "[I") ∈ zT := z_in (i := 88) (by decide +kernel) (by decide +kernel)
theorem wf_X2_18 : (Jvm.Cond.fieldLink "KiteStrings$Sky" (18 : Nat) "KiteStrings$Sky" "y" "[I") ∈ zT := z_in (i := 89) (by decide +kernel) (by decide +kernel)
theorem wf_X5_45 : (Jvm.Cond.fieldLink "KiteStrings$Weave" (45 : Nat) "KiteStrings$Sky" "y" "[I") ∈ zT := z_in (i := 90) (by decide +kernel) (by decide +kernel)
theorem wf_X6_151 : (Jvm.Cond.fieldLink "KiteStrings" (151 : Nat) "KiteStrings$Sky" "y" "[I") ∈ zT := z_in (i := 91) (by decide +kernel) (by decide +kernel)
theorem wf_X2_21 : (Jvm.Cond.fieldLink "KiteStrings$Sky" (21 : Nat) "KiteStrings$Sky" "dx" "[I") ∈ zT := z_in (i := 92) (by decide +kernel) (by decide +kernel)
theorem wf_X6_154 : (Jvm.Cond.fieldLink "KiteStrings" (154 : Nat) "KiteStrings$Sky" "dx" "[I") ∈ zT := z_in (i := 93) (by decide +kernel) (by decide +kernel)
theorem wf_X2_24 : (Jvm.Cond.fieldLink "KiteStrings$Sky" (24 : Nat) "KiteStrings$Sky" "dy" "[I") ∈ zT := z_in (i := 94) (by decide +kernel) (by decide +kernel)
theorem wf_X6_157 : (Jvm.Cond.fieldLink "KiteStrings" (157 : Nat) "KiteStrings$Sky" "dy" "[I") ∈ zT := z_in (i := 95) (by decide +kernel) (by decide +kernel)
theorem wf_X2_27 : (Jvm.Cond.fieldLink "KiteStrings$Sky" (27 : Nat) "KiteStrings$Sky" "glass" "[I") ∈ zT := z_in (i := 96) (by decide +kernel) (by decide +kernel)
theorem wf_X6_160 : (Jvm.Cond.fieldLink "KiteStrings" (160 : Nat) "KiteStrings$Sky" "glass" "[I") ∈ zT := z_in (i := 97) (by decide +kernel) (by decide +kernel)
theorem wf_X2_30 : (Jvm.Cond.fieldLink "KiteStrings$Sky" (30 : Nat) "KiteStrings$Sky" "strength" "[I") ∈ zT := z_in (i := 98) (by decide +kernel) (by decide +kernel)
theorem wf_X6_163 : (Jvm.Cond.fieldLink "KiteStrings" (163 : Nat) "KiteStrings$Sky" "strength" "[I") ∈ zT := z_in (i := 99) (by decide +kernel) (by decide +kernel)
theorem wf_X2_33 : (Jvm.Cond.fieldLink "KiteStrings$Sky" (33 : Nat) "KiteStrings$Sky" "points" "[I") ∈ zT := z_in (i := 100) (by decide +kernel) (by decide +kernel)
theorem wf_X4_80 : (Jvm.Cond.fieldLink "KiteStrings$Tick" (80 : Nat) "KiteStrings$Sky" "points" "[I") ∈ zT := z_in (i := 101) (by decide +kernel) (by decide +kernel)
theorem wf_X6_166 : (Jvm.Cond.fieldLink "KiteStrings" (166 : Nat) "KiteStrings$Sky" "points" "[I") ∈ zT := z_in (i := 102) (by decide +kernel) (by decide +kernel)
theorem wf_X2_36 : (Jvm.Cond.fieldLink "KiteStrings$Sky" (36 : Nat) "KiteStrings$Sky" "how" "[I") ∈ zT := z_in (i := 103) (by decide +kernel) (by decide +kernel)
theorem wf_X4_83 : (Jvm.Cond.fieldLink "KiteStrings$Tick" (83 : Nat) "KiteStrings$Sky" "how" "[I") ∈ zT := z_in (i := 104) (by decide +kernel) (by decide +kernel)
theorem wf_X6_91 : (Jvm.Cond.fieldLink "KiteStrings" (91 : Nat) "KiteStrings$Sky" "how" "[I") ∈ zT := z_in (i := 105) (by decide +kernel) (by decide +kernel)
theorem wf_X2_39 : (Jvm.Cond.fieldLink "KiteStrings$Sky" (39 : Nat) "KiteStrings$Sky" "firstFlyer" "[I") ∈ zT := z_in (i := 106) (by decide +kernel) (by decide +kernel)
theorem wf_X2_42 : (Jvm.Cond.fieldLink "KiteStrings$Sky" (42 : Nat) "KiteStrings$Sky" "firstX" "[I") ∈ zT := z_in (i := 107) (by decide +kernel) (by decide +kernel)
theorem wf_X2_45 : (Jvm.Cond.fieldLink "KiteStrings$Sky" (45 : Nat) "KiteStrings$Sky" "firstY" "[I") ∈ zT := z_in (i := 108) (by decide +kernel) (by decide +kernel)
theorem wf_X2_48 : (Jvm.Cond.fieldLink "KiteStrings$Sky" (48 : Nat) "KiteStrings$Sky" "wears" "[I") ∈ zT := z_in (i := 109) (by decide +kernel) (by decide +kernel)
theorem wa_FieldTypeint : (Jvm.Cond.arrayClass Jvm.ClassFile.FieldType.int) ∈ zT := z_in (i := 145) (by decide +kernel) (by decide +kernel)
theorem wc_X6_19 : (Jvm.Cond.classLink "KiteStrings" (19 : Nat) "KiteStrings$Weave") ∈ zT := z_in (i := 146) (by decide +kernel) (by decide +kernel)
theorem wn_X5 : (Jvm.Cond.instantiable "KiteStrings$Weave" (5 : Nat)) ∈ zT := z_in (i := 147) (by decide +kernel) (by decide +kernel)
theorem wm_X6_21 : (Jvm.Cond.methodLink "KiteStrings" (21 : Nat) ({ cls := "KiteStrings$Weave", name := "<init>", desc := "()V" } : Jvm.MethodName)) ∈ zT := z_in (i := 148) (by decide +kernel) (by decide +kernel)
theorem wv_X5_init : (Jvm.Cond.instanceMethod ({ cls := "KiteStrings$Weave", name := "<init>", desc := "()V" } : Jvm.MethodName)) ∈ zT := z_in (i := 149) (by decide +kernel) (by decide +kernel)
theorem wk_X5_init : (Jvm.Cond.code ({ cls := "KiteStrings$Weave", name := "<init>", desc := "()V" } : Jvm.MethodName) prog_7_method_1_code (1 : Nat) (Option.none : Option Jvm.ClassFile.FieldType)) ∈ zT := z_in (i := 150) (by decide +kernel) (by decide +kernel)
theorem wm_X5_3 : (Jvm.Cond.methodLink "KiteStrings$Weave" (3 : Nat) ({ cls := "java/lang/Object", name := "<init>", desc := "()V" } : Jvm.MethodName)) ∈ zT := z_in (i := 151) (by decide +kernel) (by decide +kernel)
theorem wf_X5_11 : (Jvm.Cond.fieldLink "KiteStrings$Weave" (11 : Nat) "KiteStrings$Weave" "owners" "[I") ∈ zT := z_in (i := 152) (by decide +kernel) (by decide +kernel)
theorem wf_X4_54 : (Jvm.Cond.fieldLink "KiteStrings$Tick" (54 : Nat) "KiteStrings$Weave" "owners" "[I") ∈ zT := z_in (i := 153) (by decide +kernel) (by decide +kernel)
theorem wf_X5_15 : (Jvm.Cond.fieldLink "KiteStrings$Weave" (15 : Nat) "KiteStrings$Weave" "crossers" "[I") ∈ zT := z_in (i := 154) (by decide +kernel) (by decide +kernel)
theorem wf_X4_58 : (Jvm.Cond.fieldLink "KiteStrings$Tick" (58 : Nat) "KiteStrings$Weave" "crossers" "[I") ∈ zT := z_in (i := 155) (by decide +kernel) (by decide +kernel)
theorem wf_X5_18 : (Jvm.Cond.fieldLink "KiteStrings$Weave" (18 : Nat) "KiteStrings$Weave" "places" "[I") ∈ zT := z_in (i := 156) (by decide +kernel) (by decide +kernel)
theorem wf_X4_69 : (Jvm.Cond.fieldLink "KiteStrings$Tick" (69 : Nat) "KiteStrings$Weave" "places" "[I") ∈ zT := z_in (i := 157) (by decide +kernel) (by decide +kernel)
theorem wf_X5_21 : (Jvm.Cond.fieldLink "KiteStrings$Weave" (21 : Nat) "KiteStrings$Weave" "steep" "[Z") ∈ zT := z_in (i := 158) (by decide +kernel) (by decide +kernel)
theorem wf_X4_61 : (Jvm.Cond.fieldLink "KiteStrings$Tick" (61 : Nat) "KiteStrings$Weave" "steep" "[Z") ∈ zT := z_in (i := 159) (by decide +kernel) (by decide +kernel)
theorem wf_X5_25 : (Jvm.Cond.fieldLink "KiteStrings$Weave" (25 : Nat) "KiteStrings$Weave" "notes" "I") ∈ zT := z_in (i := 160) (by decide +kernel) (by decide +kernel)
theorem wf_X4_51 : (Jvm.Cond.fieldLink "KiteStrings$Tick" (51 : Nat) "KiteStrings$Weave" "notes" "I") ∈ zT := z_in (i := 161) (by decide +kernel) (by decide +kernel)
theorem wa_dTypeboolean : (Jvm.Cond.arrayClass Jvm.ClassFile.FieldType.boolean) ∈ zT := z_in (i := 173) (by decide +kernel) (by decide +kernel)
theorem wc_X6_26 : (Jvm.Cond.classLink "KiteStrings" (26 : Nat) "KiteStrings$Tick") ∈ zT := z_in (i := 174) (by decide +kernel) (by decide +kernel)
theorem wn_X4 : (Jvm.Cond.instantiable "KiteStrings$Tick" (3 : Nat)) ∈ zT := z_in (i := 175) (by decide +kernel) (by decide +kernel)
theorem wm_X6_28 : (Jvm.Cond.methodLink "KiteStrings" (28 : Nat) ({ cls := "KiteStrings$Tick", name := "<init>", desc := "()V" } : Jvm.MethodName)) ∈ zT := z_in (i := 176) (by decide +kernel) (by decide +kernel)
theorem wv_X4_init : (Jvm.Cond.instanceMethod ({ cls := "KiteStrings$Tick", name := "<init>", desc := "()V" } : Jvm.MethodName)) ∈ zT := z_in (i := 177) (by decide +kernel) (by decide +kernel)
theorem wk_X4_init : (Jvm.Cond.code ({ cls := "KiteStrings$Tick", name := "<init>", desc := "()V" } : Jvm.MethodName) prog_6_method_1_code (1 : Nat) (Option.none : Option Jvm.ClassFile.FieldType)) ∈ zT := z_in (i := 178) (by decide +kernel) (by decide +kernel)
theorem wm_X4_3 : (Jvm.Cond.methodLink "KiteStrings$Tick" (3 : Nat) ({ cls := "java/lang/Object", name := "<init>", desc := "()V" } : Jvm.MethodName)) ∈ zT := z_in (i := 179) (by decide +kernel) (by decide +kernel)
theorem wc_X4_9 : (Jvm.Cond.classLink "KiteStrings$Tick" (9 : Nat) "KiteStrings$Weave") ∈ zT := z_in (i := 180) (by decide +kernel) (by decide +kernel)
theorem wm_X4_11 : (Jvm.Cond.methodLink "KiteStrings$Tick" (11 : Nat) ({ cls := "KiteStrings$Weave", name := "<init>", desc := "()V" } : Jvm.MethodName)) ∈ zT := z_in (i := 181) (by decide +kernel) (by decide +kernel)
theorem wf_X4_12 : (Jvm.Cond.fieldLink "KiteStrings$Tick" (12 : Nat) "KiteStrings$Tick" "weave" "LKiteStrings$Weave;") ∈ zT := z_in (i := 182) (by decide +kernel) (by decide +kernel)
theorem wf_X6_228 : (Jvm.Cond.fieldLink "KiteStrings" (228 : Nat) "KiteStrings$Tick" "weave" "LKiteStrings$Weave;") ∈ zT := z_in (i := 183) (by decide +kernel) (by decide +kernel)
theorem wf_X4_32 : (Jvm.Cond.fieldLink "KiteStrings$Tick" (32 : Nat) "KiteStrings$Tick" "cutKites" "I") ∈ zT := z_in (i := 184) (by decide +kernel) (by decide +kernel)
theorem wf_X6_105 : (Jvm.Cond.fieldLink "KiteStrings" (105 : Nat) "KiteStrings$Tick" "cutKites" "I") ∈ zT := z_in (i := 185) (by decide +kernel) (by decide +kernel)
theorem wf_X4_35 : (Jvm.Cond.fieldLink "KiteStrings$Tick" (35 : Nat) "KiteStrings$Tick" "scorers" "I") ∈ zT := z_in (i := 186) (by decide +kernel) (by decide +kernel)
theorem wf_X6_225 : (Jvm.Cond.fieldLink "KiteStrings" (225 : Nat) "KiteStrings$Tick" "scorers" "I") ∈ zT := z_in (i := 187) (by decide +kernel) (by decide +kernel)
theorem wc_X6_33 : (Jvm.Cond.classLink "KiteStrings" (33 : Nat) "KiteStrings$History") ∈ zT := z_in (i := 195) (by decide +kernel) (by decide +kernel)
theorem wn_X0 : (Jvm.Cond.instantiable "KiteStrings$History" (3 : Nat)) ∈ zT := z_in (i := 196) (by decide +kernel) (by decide +kernel)
theorem wm_X6_35 : (Jvm.Cond.methodLink "KiteStrings" (35 : Nat) ({ cls := "KiteStrings$History", name := "<init>", desc := "()V" } : Jvm.MethodName)) ∈ zT := z_in (i := 197) (by decide +kernel) (by decide +kernel)
theorem wv_X0_init : (Jvm.Cond.instanceMethod ({ cls := "KiteStrings$History", name := "<init>", desc := "()V" } : Jvm.MethodName)) ∈ zT := z_in (i := 198) (by decide +kernel) (by decide +kernel)
theorem wk_X0_init : (Jvm.Cond.code ({ cls := "KiteStrings$History", name := "<init>", desc := "()V" } : Jvm.MethodName) prog_2_method_1_code (2 : Nat) (Option.none : Option Jvm.ClassFile.FieldType)) ∈ zT := z_in (i := 199) (by decide +kernel) (by decide +kernel)
theorem wm_X0_3 : (Jvm.Cond.methodLink "KiteStrings$History" (3 : Nat) ({ cls := "java/lang/Object", name := "<init>", desc := "()V" } : Jvm.MethodName)) ∈ zT := z_in (i := 200) (by decide +kernel) (by decide +kernel)
theorem wc_X0_9 : (Jvm.Cond.classLink "KiteStrings$History" (9 : Nat) "KiteStrings$Sky") ∈ zT := z_in (i := 201) (by decide +kernel) (by decide +kernel)
theorem wm_X0_17 : (Jvm.Cond.methodLink "KiteStrings$History" (17 : Nat) ({ cls := "KiteStrings$Sky", name := "<init>", desc := "()V" } : Jvm.MethodName)) ∈ zT := z_in (i := 203) (by decide +kernel) (by decide +kernel)
theorem wf_X0_11 : (Jvm.Cond.fieldLink "KiteStrings$History" (11 : Nat) "KiteStrings$History" "states" "[LKiteStrings$Sky;") ∈ zT := z_in (i := 204) (by decide +kernel) (by decide +kernel)
theorem wf_X0_18 : (Jvm.Cond.fieldLink "KiteStrings$History" (18 : Nat) "KiteStrings$History" "next" "I") ∈ zT := z_in (i := 205) (by decide +kernel) (by decide +kernel)
theorem wf_X0_30 : (Jvm.Cond.fieldLink "KiteStrings$History" (30 : Nat) "KiteStrings$History" "held" "I") ∈ zT := z_in (i := 206) (by decide +kernel) (by decide +kernel)
theorem wf_X6_213 : (Jvm.Cond.fieldLink "KiteStrings" (213 : Nat) "KiteStrings$History" "held" "I") ∈ zT := z_in (i := 207) (by decide +kernel) (by decide +kernel)
theorem wc_X6_40 : (Jvm.Cond.classLink "KiteStrings" (40 : Nat) "KiteStrings$Slot") ∈ zT := z_in (i := 215) (by decide +kernel) (by decide +kernel)
theorem wn_X3 : (Jvm.Cond.instantiable "KiteStrings$Slot" (2 : Nat)) ∈ zT := z_in (i := 216) (by decide +kernel) (by decide +kernel)
theorem wm_X6_42 : (Jvm.Cond.methodLink "KiteStrings" (42 : Nat) ({ cls := "KiteStrings$Slot", name := "<init>", desc := "()V" } : Jvm.MethodName)) ∈ zT := z_in (i := 217) (by decide +kernel) (by decide +kernel)
theorem wv_X3_init : (Jvm.Cond.instanceMethod ({ cls := "KiteStrings$Slot", name := "<init>", desc := "()V" } : Jvm.MethodName)) ∈ zT := z_in (i := 218) (by decide +kernel) (by decide +kernel)
theorem wk_X3_init : (Jvm.Cond.code ({ cls := "KiteStrings$Slot", name := "<init>", desc := "()V" } : Jvm.MethodName) prog_5_method_1_code (1 : Nat) (Option.none : Option Jvm.ClassFile.FieldType)) ∈ zT := z_in (i := 219) (by decide +kernel) (by decide +kernel)
theorem wm_X3_1 : (Jvm.Cond.methodLink "KiteStrings$Slot" (1 : Nat) ({ cls := "java/lang/Object", name := "<init>", desc := "()V" } : Jvm.MethodName)) ∈ zT := z_in (i := 220) (by decide +kernel) (by decide +kernel)
theorem wc_X3_7 : (Jvm.Cond.classLink "KiteStrings$Slot" (7 : Nat) "KiteStrings$Sky") ∈ zT := z_in (i := 221) (by decide +kernel) (by decide +kernel)
theorem wm_X3_9 : (Jvm.Cond.methodLink "KiteStrings$Slot" (9 : Nat) ({ cls := "KiteStrings$Sky", name := "<init>", desc := "()V" } : Jvm.MethodName)) ∈ zT := z_in (i := 222) (by decide +kernel) (by decide +kernel)
theorem wf_X3_10 : (Jvm.Cond.fieldLink "KiteStrings$Slot" (10 : Nat) "KiteStrings$Slot" "sky" "LKiteStrings$Sky;") ∈ zT := z_in (i := 223) (by decide +kernel) (by decide +kernel)
theorem wf_X6_254 : (Jvm.Cond.fieldLink "KiteStrings" (254 : Nat) "KiteStrings$Slot" "sky" "LKiteStrings$Sky;") ∈ zT := z_in (i := 224) (by decide +kernel) (by decide +kernel)
theorem wf_X6_257 : (Jvm.Cond.fieldLink "KiteStrings" (257 : Nat) "KiteStrings$Slot" "isFilled" "Z") ∈ zT := z_in (i := 225) (by decide +kernel) (by decide +kernel)
theorem wc_X6_50 : (Jvm.Cond.classLink "KiteStrings" (50 : Nat) "KiteStrings$Pad") ∈ zT := z_in (i := 231) (by decide +kernel) (by decide +kernel)
theorem wn_X1 : (Jvm.Cond.instantiable "KiteStrings$Pad" (2 : Nat)) ∈ zT := z_in (i := 232) (by decide +kernel) (by decide +kernel)
theorem wm_X6_52 : (Jvm.Cond.methodLink "KiteStrings" (52 : Nat) ({ cls := "KiteStrings$Pad", name := "<init>", desc := "()V" } : Jvm.MethodName)) ∈ zT := z_in (i := 233) (by decide +kernel) (by decide +kernel)
theorem wv_X1_init : (Jvm.Cond.instanceMethod ({ cls := "KiteStrings$Pad", name := "<init>", desc := "()V" } : Jvm.MethodName)) ∈ zT := z_in (i := 234) (by decide +kernel) (by decide +kernel)
theorem wk_X1_init : (Jvm.Cond.code ({ cls := "KiteStrings$Pad", name := "<init>", desc := "()V" } : Jvm.MethodName) prog_3_method_1_code (1 : Nat) (Option.none : Option Jvm.ClassFile.FieldType)) ∈ zT := z_in (i := 235) (by decide +kernel) (by decide +kernel)
theorem wm_X1_3 : (Jvm.Cond.methodLink "KiteStrings$Pad" (3 : Nat) ({ cls := "java/lang/Object", name := "<init>", desc := "()V" } : Jvm.MethodName)) ∈ zT := z_in (i := 236) (by decide +kernel) (by decide +kernel)
theorem wf_X1_9 : (Jvm.Cond.fieldLink "KiteStrings$Pad" (9 : Nat) "KiteStrings$Pad" "signs" "[C") ∈ zT := z_in (i := 237) (by decide +kernel) (by decide +kernel)
theorem wf_X1_15 : (Jvm.Cond.fieldLink "KiteStrings$Pad" (15 : Nat) "KiteStrings$Pad" "length" "I") ∈ zT := z_in (i := 238) (by decide +kernel) (by decide +kernel)
theorem wf_X6_124 : (Jvm.Cond.fieldLink "KiteStrings" (124 : Nat) "KiteStrings$Pad" "length" "I") ∈ zT := z_in (i := 239) (by decide +kernel) (by decide +kernel)
theorem wa_ieldTypechar : (Jvm.Cond.arrayClass Jvm.ClassFile.FieldType.char) ∈ zT := z_in (i := 245) (by decide +kernel) (by decide +kernel)
theorem wf_X6_10 : (Jvm.Cond.fieldLink "KiteStrings" (10 : Nat) "KiteStrings" "now" "LKiteStrings$Sky;") ∈ zT := z_in (i := 246) (by decide +kernel) (by decide +kernel)
theorem wf_X6_16 : (Jvm.Cond.fieldLink "KiteStrings" (16 : Nat) "KiteStrings" "trial" "LKiteStrings$Sky;") ∈ zT := z_in (i := 247) (by decide +kernel) (by decide +kernel)
theorem wf_X6_22 : (Jvm.Cond.fieldLink "KiteStrings" (22 : Nat) "KiteStrings" "weave" "LKiteStrings$Weave;") ∈ zT := z_in (i := 248) (by decide +kernel) (by decide +kernel)
theorem wf_X6_29 : (Jvm.Cond.fieldLink "KiteStrings" (29 : Nat) "KiteStrings" "tick" "LKiteStrings$Tick;") ∈ zT := z_in (i := 249) (by decide +kernel) (by decide +kernel)
theorem wf_X6_36 : (Jvm.Cond.fieldLink "KiteStrings" (36 : Nat) "KiteStrings" "history" "LKiteStrings$History;") ∈ zT := z_in (i := 250) (by decide +kernel) (by decide +kernel)
theorem wf_X6_43 : (Jvm.Cond.fieldLink "KiteStrings" (43 : Nat) "KiteStrings" "firstSlot" "LKiteStrings$Slot;") ∈ zT := z_in (i := 251) (by decide +kernel) (by decide +kernel)
theorem wf_X6_47 : (Jvm.Cond.fieldLink "KiteStrings" (47 : Nat) "KiteStrings" "secondSlot" "LKiteStrings$Slot;") ∈ zT := z_in (i := 252) (by decide +kernel) (by decide +kernel)
theorem wf_X6_53 : (Jvm.Cond.fieldLink "KiteStrings" (53 : Nat) "KiteStrings" "pad" "LKiteStrings$Pad;") ∈ zT := z_in (i := 253) (by decide +kernel) (by decide +kernel)
theorem wm_L_13 : (Jvm.Cond.methodLink "KiteStringsLaw" (13 : Nat) ({ cls := "KiteStrings", name := "launch", desc := "(IIIII)I" } : Jvm.MethodName)) ∈ zT := z_in (i := 271) (by decide +kernel) (by decide +kernel)
theorem wv_X6_launch : (Jvm.Cond.instanceMethod ({ cls := "KiteStrings", name := "launch", desc := "(IIIII)I" } : Jvm.MethodName)) ∈ zT := z_in (i := 272) (by decide +kernel) (by decide +kernel)
theorem we_X6_launch : (Jvm.Cond.selects "KiteStrings" ({ cls := "KiteStrings", name := "launch", desc := "(IIIII)I" } : Jvm.MethodName) ({ cls := "KiteStrings", name := "launch", desc := "(IIIII)I" } : Jvm.MethodName)) ∈ zT := z_in (i := 273) (by decide +kernel) (by decide +kernel)
theorem wk_X6_launch : (Jvm.Cond.code ({ cls := "KiteStrings", name := "launch", desc := "(IIIII)I" } : Jvm.MethodName) prog_1_method_2_code (6 : Nat) (Option.some Jvm.ClassFile.FieldType.int)) ∈ zT := z_in (i := 274) (by decide +kernel) (by decide +kernel)
theorem wm_X6_57 : (Jvm.Cond.methodLink "KiteStrings" (57 : Nat) ({ cls := "KiteStrings", name := "isWithin", desc := "(III)Z" } : Jvm.MethodName)) ∈ zT := z_in (i := 275) (by decide +kernel) (by decide +kernel)
theorem ws_X6_isWithin : (Jvm.Cond.static ({ cls := "KiteStrings", name := "isWithin", desc := "(III)Z" } : Jvm.MethodName)) ∈ zT := z_in (i := 276) (by decide +kernel) (by decide +kernel)
theorem wk_X6_isWithin : (Jvm.Cond.code ({ cls := "KiteStrings", name := "isWithin", desc := "(III)Z" } : Jvm.MethodName) prog_1_method_33_code (3 : Nat) (Option.some Jvm.ClassFile.FieldType.boolean)) ∈ zT := z_in (i := 277) (by decide +kernel) (by decide +kernel)
theorem wm_X6_65 : (Jvm.Cond.methodLink "KiteStrings" (65 : Nat) ({ cls := "KiteStrings$History", name := "record", desc := "(LKiteStrings$Sky;)V" } : Jvm.MethodName)) ∈ zT := z_in (i := 278) (by decide +kernel) (by decide +kernel)
theorem wv_X0_record : (Jvm.Cond.instanceMethod ({ cls := "KiteStrings$History", name := "record", desc := "(LKiteStrings$Sky;)V" } : Jvm.MethodName)) ∈ zT := z_in (i := 279) (by decide +kernel) (by decide +kernel)
theorem we_X0_record : (Jvm.Cond.selects "KiteStrings$History" ({ cls := "KiteStrings$History", name := "record", desc := "(LKiteStrings$Sky;)V" } : Jvm.MethodName) ({ cls := "KiteStrings$History", name := "record", desc := "(LKiteStrings$Sky;)V" } : Jvm.MethodName)) ∈ zT := z_in (i := 280) (by decide +kernel) (by decide +kernel)
theorem wk_X0_record : (Jvm.Cond.code ({ cls := "KiteStrings$History", name := "record", desc := "(LKiteStrings$Sky;)V" } : Jvm.MethodName) prog_2_method_2_code (3 : Nat) (Option.none : Option Jvm.ClassFile.FieldType)) ∈ zT := z_in (i := 281) (by decide +kernel) (by decide +kernel)
theorem wm_X0_22 : (Jvm.Cond.methodLink "KiteStrings$History" (22 : Nat) ({ cls := "KiteStrings$History", name := "stateAt", desc := "(I)LKiteStrings$Sky;" } : Jvm.MethodName)) ∈ zT := z_in (i := 282) (by decide +kernel) (by decide +kernel)
theorem wv_X0_stateAt : (Jvm.Cond.instanceMethod ({ cls := "KiteStrings$History", name := "stateAt", desc := "(I)LKiteStrings$Sky;" } : Jvm.MethodName)) ∈ zT := z_in (i := 284) (by decide +kernel) (by decide +kernel)
theorem wk_X0_stateAt : (Jvm.Cond.code ({ cls := "KiteStrings$History", name := "stateAt", desc := "(I)LKiteStrings$Sky;" } : Jvm.MethodName) prog_2_method_4_code (2 : Nat) (Option.some (Jvm.ClassFile.FieldType.object "KiteStrings$Sky"))) ∈ zT := z_in (i := 285) (by decide +kernel) (by decide +kernel)
theorem wm_X0_26 : (Jvm.Cond.methodLink "KiteStrings$History" (26 : Nat) ({ cls := "KiteStrings$Sky", name := "copyFrom", desc := "(LKiteStrings$Sky;)V" } : Jvm.MethodName)) ∈ zT := z_in (i := 286) (by decide +kernel) (by decide +kernel)
theorem wv_X2_copyFrom : (Jvm.Cond.instanceMethod ({ cls := "KiteStrings$Sky", name := "copyFrom", desc := "(LKiteStrings$Sky;)V" } : Jvm.MethodName)) ∈ zT := z_in (i := 287) (by decide +kernel) (by decide +kernel)
theorem we_X2_copyFrom : (Jvm.Cond.selects "KiteStrings$Sky" ({ cls := "KiteStrings$Sky", name := "copyFrom", desc := "(LKiteStrings$Sky;)V" } : Jvm.MethodName) ({ cls := "KiteStrings$Sky", name := "copyFrom", desc := "(LKiteStrings$Sky;)V" } : Jvm.MethodName)) ∈ zT := z_in (i := 288) (by decide +kernel) (by decide +kernel)
theorem wk_X2_copyFrom : (Jvm.Cond.code ({ cls := "KiteStrings$Sky", name := "copyFrom", desc := "(LKiteStrings$Sky;)V" } : Jvm.MethodName) prog_4_method_2_code (2 : Nat) (Option.none : Option Jvm.ClassFile.FieldType)) ∈ zT := z_in (i := 289) (by decide +kernel) (by decide +kernel)
theorem wm_X2_64 : (Jvm.Cond.methodLink "KiteStrings$Sky" (64 : Nat) ({ cls := "KiteStrings$Sky", name := "copyRow", desc := "([I[I)V" } : Jvm.MethodName)) ∈ zT := z_in (i := 290) (by decide +kernel) (by decide +kernel)
theorem ws_X2_copyRow : (Jvm.Cond.static ({ cls := "KiteStrings$Sky", name := "copyRow", desc := "([I[I)V" } : Jvm.MethodName)) ∈ zT := z_in (i := 291) (by decide +kernel) (by decide +kernel)
theorem wk_X2_copyRow : (Jvm.Cond.code ({ cls := "KiteStrings$Sky", name := "copyRow", desc := "([I[I)V" } : Jvm.MethodName) prog_4_method_3_code (2 : Nat) (Option.none : Option Jvm.ClassFile.FieldType)) ∈ zT := z_in (i := 292) (by decide +kernel) (by decide +kernel)
theorem wm_X2_68 : (Jvm.Cond.methodLink "KiteStrings$Sky" (68 : Nat) ({ cls := "java/lang/Math", name := "min", desc := "(II)I" } : Jvm.MethodName)) ∈ zT := z_in (i := 293) (by decide +kernel) (by decide +kernel)
theorem ws_JM_min : (Jvm.Cond.static ({ cls := "java/lang/Math", name := "min", desc := "(II)I" } : Jvm.MethodName)) ∈ zT := z_in (i := 294) (by decide +kernel) (by decide +kernel)
theorem wk_JM_min : (Jvm.Cond.code ({ cls := "java/lang/Math", name := "min", desc := "(II)I" } : Jvm.MethodName) prog_10_method_69_code (2 : Nat) (Option.some Jvm.ClassFile.FieldType.int)) ∈ zT := z_in (i := 295) (by decide +kernel) (by decide +kernel)
theorem wm_X2_74 : (Jvm.Cond.methodLink "KiteStrings$Sky" (74 : Nat) ({ cls := "java/lang/System", name := "arraycopy", desc := "(Ljava/lang/Object;ILjava/lang/Object;II)V" } : Jvm.MethodName)) ∈ zT := z_in (i := 296) (by decide +kernel) (by decide +kernel)
theorem ws_JS_arraycopy : (Jvm.Cond.static ({ cls := "java/lang/System", name := "arraycopy", desc := "(Ljava/lang/Object;ILjava/lang/Object;II)V" } : Jvm.MethodName)) ∈ zT := z_in (i := 297) (by decide +kernel) (by decide +kernel)
theorem wx_JS_arraycopy : (Jvm.Cond.native ({ cls := "java/lang/System", name := "arraycopy", desc := "(Ljava/lang/Object;ILjava/lang/Object;II)V" } : Jvm.MethodName)) ∈ zT := z_in (i := 298) (by decide +kernel) (by decide +kernel)
theorem wm_X0_33 : (Jvm.Cond.methodLink "KiteStrings$History" (33 : Nat) ({ cls := "java/lang/Math", name := "min", desc := "(II)I" } : Jvm.MethodName)) ∈ zT := z_in (i := 299) (by decide +kernel) (by decide +kernel)
theorem wm_X6_69 : (Jvm.Cond.methodLink "KiteStrings" (69 : Nat) ({ cls := "KiteStrings$Sky", name := "addKite", desc := "(IIIII)I" } : Jvm.MethodName)) ∈ zT := z_in (i := 300) (by decide +kernel) (by decide +kernel)
theorem wv_X2_addKite : (Jvm.Cond.instanceMethod ({ cls := "KiteStrings$Sky", name := "addKite", desc := "(IIIII)I" } : Jvm.MethodName)) ∈ zT := z_in (i := 301) (by decide +kernel) (by decide +kernel)
theorem we_X2_addKite : (Jvm.Cond.selects "KiteStrings$Sky" ({ cls := "KiteStrings$Sky", name := "addKite", desc := "(IIIII)I" } : Jvm.MethodName) ({ cls := "KiteStrings$Sky", name := "addKite", desc := "(IIIII)I" } : Jvm.MethodName)) ∈ zT := z_in (i := 302) (by decide +kernel) (by decide +kernel)
theorem wk_X2_addKite : (Jvm.Cond.code ({ cls := "KiteStrings$Sky", name := "addKite", desc := "(IIIII)I" } : Jvm.MethodName) prog_4_method_6_code (7 : Nat) (Option.some Jvm.ClassFile.FieldType.int)) ∈ zT := z_in (i := 303) (by decide +kernel) (by decide +kernel)
theorem wm_X2_84 : (Jvm.Cond.methodLink "KiteStrings$Sky" (84 : Nat) ({ cls := "KiteStrings$Sky", name := "sendUp", desc := "(I)V" } : Jvm.MethodName)) ∈ zT := z_in (i := 304) (by decide +kernel) (by decide +kernel)
theorem wv_X2_sendUp : (Jvm.Cond.instanceMethod ({ cls := "KiteStrings$Sky", name := "sendUp", desc := "(I)V" } : Jvm.MethodName)) ∈ zT := z_in (i := 306) (by decide +kernel) (by decide +kernel)
theorem wk_X2_sendUp : (Jvm.Cond.code ({ cls := "KiteStrings$Sky", name := "sendUp", desc := "(I)V" } : Jvm.MethodName) prog_4_method_7_code (3 : Nat) (Option.none : Option Jvm.ClassFile.FieldType)) ∈ zT := z_in (i := 307) (by decide +kernel) (by decide +kernel)
theorem wm_L_18 : (Jvm.Cond.methodLink "KiteStringsLaw" (18 : Nat) ({ cls := "KiteStrings", name := "order", desc := "(III)I" } : Jvm.MethodName)) ∈ zT := z_in (i := 308) (by decide +kernel) (by decide +kernel)
theorem wv_X6_order : (Jvm.Cond.instanceMethod ({ cls := "KiteStrings", name := "order", desc := "(III)I" } : Jvm.MethodName)) ∈ zT := z_in (i := 309) (by decide +kernel) (by decide +kernel)
theorem we_X6_order : (Jvm.Cond.selects "KiteStrings" ({ cls := "KiteStrings", name := "order", desc := "(III)I" } : Jvm.MethodName) ({ cls := "KiteStrings", name := "order", desc := "(III)I" } : Jvm.MethodName)) ∈ zT := z_in (i := 310) (by decide +kernel) (by decide +kernel)
theorem wk_X6_order : (Jvm.Cond.code ({ cls := "KiteStrings", name := "order", desc := "(III)I" } : Jvm.MethodName) prog_1_method_3_code (5 : Nat) (Option.some Jvm.ClassFile.FieldType.int)) ∈ zT := z_in (i := 311) (by decide +kernel) (by decide +kernel)
theorem wm_X6_73 : (Jvm.Cond.methodLink "KiteStrings" (73 : Nat) ({ cls := "KiteStrings", name := "errorOfOrder", desc := "(III)I" } : Jvm.MethodName)) ∈ zT := z_in (i := 312) (by decide +kernel) (by decide +kernel)
theorem wv_X6_errorOfOrder : (Jvm.Cond.instanceMethod ({ cls := "KiteStrings", name := "errorOfOrder", desc := "(III)I" } : Jvm.MethodName)) ∈ zT := z_in (i := 314) (by decide +kernel) (by decide +kernel)
theorem wk_X6_errorOfOrder : (Jvm.Cond.code ({ cls := "KiteStrings", name := "errorOfOrder", desc := "(III)I" } : Jvm.MethodName) prog_1_method_10_code (4 : Nat) (Option.some Jvm.ClassFile.FieldType.int)) ∈ zT := z_in (i := 315) (by decide +kernel) (by decide +kernel)
theorem wm_X6_80 : (Jvm.Cond.methodLink "KiteStrings" (80 : Nat) ({ cls := "KiteStrings$Sky", name := "has", desc := "(I)Z" } : Jvm.MethodName)) ∈ zT := z_in (i := 316) (by decide +kernel) (by decide +kernel)
theorem wv_X2_has : (Jvm.Cond.instanceMethod ({ cls := "KiteStrings$Sky", name := "has", desc := "(I)Z" } : Jvm.MethodName)) ∈ zT := z_in (i := 317) (by decide +kernel) (by decide +kernel)
theorem we_X2_has : (Jvm.Cond.selects "KiteStrings$Sky" ({ cls := "KiteStrings$Sky", name := "has", desc := "(I)Z" } : Jvm.MethodName) ({ cls := "KiteStrings$Sky", name := "has", desc := "(I)Z" } : Jvm.MethodName)) ∈ zT := z_in (i := 318) (by decide +kernel) (by decide +kernel)
theorem wk_X2_has : (Jvm.Cond.code ({ cls := "KiteStrings$Sky", name := "has", desc := "(I)Z" } : Jvm.MethodName) prog_4_method_4_code (2 : Nat) (Option.some Jvm.ClassFile.FieldType.boolean)) ∈ zT := z_in (i := 319) (by decide +kernel) (by decide +kernel)
theorem wm_X6_84 : (Jvm.Cond.methodLink "KiteStrings" (84 : Nat) ({ cls := "KiteStrings$Sky", name := "isFlying", desc := "(I)Z" } : Jvm.MethodName)) ∈ zT := z_in (i := 320) (by decide +kernel) (by decide +kernel)
theorem wv_X2_isFlying : (Jvm.Cond.instanceMethod ({ cls := "KiteStrings$Sky", name := "isFlying", desc := "(I)Z" } : Jvm.MethodName)) ∈ zT := z_in (i := 321) (by decide +kernel) (by decide +kernel)
theorem we_X2_isFlying : (Jvm.Cond.selects "KiteStrings$Sky" ({ cls := "KiteStrings$Sky", name := "isFlying", desc := "(I)Z" } : Jvm.MethodName) ({ cls := "KiteStrings$Sky", name := "isFlying", desc := "(I)Z" } : Jvm.MethodName)) ∈ zT := z_in (i := 322) (by decide +kernel) (by decide +kernel)
theorem wk_X2_isFlying : (Jvm.Cond.code ({ cls := "KiteStrings$Sky", name := "isFlying", desc := "(I)Z" } : Jvm.MethodName) prog_4_method_5_code (2 : Nat) (Option.some Jvm.ClassFile.FieldType.boolean)) ∈ zT := z_in (i := 323) (by decide +kernel) (by decide +kernel)
theorem wm_X2_80 : (Jvm.Cond.methodLink "KiteStrings$Sky" (80 : Nat) ({ cls := "KiteStrings$Sky", name := "has", desc := "(I)Z" } : Jvm.MethodName)) ∈ zT := z_in (i := 324) (by decide +kernel) (by decide +kernel)
theorem wm_X6_77 : (Jvm.Cond.methodLink "KiteStrings" (77 : Nat) ({ cls := "KiteStrings$Sky", name := "turn", desc := "(III)I" } : Jvm.MethodName)) ∈ zT := z_in (i := 325) (by decide +kernel) (by decide +kernel)
theorem wv_X2_turn : (Jvm.Cond.instanceMethod ({ cls := "KiteStrings$Sky", name := "turn", desc := "(III)I" } : Jvm.MethodName)) ∈ zT := z_in (i := 326) (by decide +kernel) (by decide +kernel)
theorem we_X2_turn : (Jvm.Cond.selects "KiteStrings$Sky" ({ cls := "KiteStrings$Sky", name := "turn", desc := "(III)I" } : Jvm.MethodName) ({ cls := "KiteStrings$Sky", name := "turn", desc := "(III)I" } : Jvm.MethodName)) ∈ zT := z_in (i := 327) (by decide +kernel) (by decide +kernel)
theorem wk_X2_turn : (Jvm.Cond.code ({ cls := "KiteStrings$Sky", name := "turn", desc := "(III)I" } : Jvm.MethodName) prog_4_method_9_code (5 : Nat) (Option.some Jvm.ClassFile.FieldType.int)) ∈ zT := z_in (i := 328) (by decide +kernel) (by decide +kernel)
theorem wm_X2_88 : (Jvm.Cond.methodLink "KiteStrings$Sky" (88 : Nat) ({ cls := "java/lang/Math", name := "abs", desc := "(I)I" } : Jvm.MethodName)) ∈ zT := z_in (i := 329) (by decide +kernel) (by decide +kernel)
theorem ws_JM_abs : (Jvm.Cond.static ({ cls := "java/lang/Math", name := "abs", desc := "(I)I" } : Jvm.MethodName)) ∈ zT := z_in (i := 330) (by decide +kernel) (by decide +kernel)
theorem wk_JM_abs : (Jvm.Cond.code ({ cls := "java/lang/Math", name := "abs", desc := "(I)I" } : Jvm.MethodName) prog_10_method_59_code (1 : Nat) (Option.some Jvm.ClassFile.FieldType.int)) ∈ zT := z_in (i := 331) (by decide +kernel) (by decide +kernel)
theorem wm_L_23 : (Jvm.Cond.methodLink "KiteStringsLaw" (23 : Nat) ({ cls := "KiteStrings", name := "step", desc := "(II)I" } : Jvm.MethodName)) ∈ zT := z_in (i := 332) (by decide +kernel) (by decide +kernel)
theorem wv_X6_step : (Jvm.Cond.instanceMethod ({ cls := "KiteStrings", name := "step", desc := "(II)I" } : Jvm.MethodName)) ∈ zT := z_in (i := 333) (by decide +kernel) (by decide +kernel)
theorem we_X6_step : (Jvm.Cond.selects "KiteStrings" ({ cls := "KiteStrings", name := "step", desc := "(II)I" } : Jvm.MethodName) ({ cls := "KiteStrings", name := "step", desc := "(II)I" } : Jvm.MethodName)) ∈ zT := z_in (i := 334) (by decide +kernel) (by decide +kernel)
theorem wk_X6_step : (Jvm.Cond.code ({ cls := "KiteStrings", name := "step", desc := "(II)I" } : Jvm.MethodName) prog_1_method_4_code (4 : Nat) (Option.some Jvm.ClassFile.FieldType.int)) ∈ zT := z_in (i := 335) (by decide +kernel) (by decide +kernel)
theorem wm_L_28 : (Jvm.Cond.methodLink "KiteStringsLaw" (28 : Nat) ({ cls := "KiteStrings", name := "land", desc := "(I)I" } : Jvm.MethodName)) ∈ zT := z_in (i := 336) (by decide +kernel) (by decide +kernel)
theorem wv_X6_land : (Jvm.Cond.instanceMethod ({ cls := "KiteStrings", name := "land", desc := "(I)I" } : Jvm.MethodName)) ∈ zT := z_in (i := 337) (by decide +kernel) (by decide +kernel)
theorem we_X6_land : (Jvm.Cond.selects "KiteStrings" ({ cls := "KiteStrings", name := "land", desc := "(I)I" } : Jvm.MethodName) ({ cls := "KiteStrings", name := "land", desc := "(I)I" } : Jvm.MethodName)) ∈ zT := z_in (i := 338) (by decide +kernel) (by decide +kernel)
theorem wk_X6_land : (Jvm.Cond.code ({ cls := "KiteStrings", name := "land", desc := "(I)I" } : Jvm.MethodName) prog_1_method_5_code (2 : Nat) (Option.some Jvm.ClassFile.FieldType.int)) ∈ zT := z_in (i := 339) (by decide +kernel) (by decide +kernel)
theorem wm_X6_94 : (Jvm.Cond.methodLink "KiteStrings" (94 : Nat) ({ cls := "KiteStrings$Sky", name := "mostWornPlace", desc := "(I)I" } : Jvm.MethodName)) ∈ zT := z_in (i := 340) (by decide +kernel) (by decide +kernel)
theorem wv_X2_mostWornPlace : (Jvm.Cond.instanceMethod ({ cls := "KiteStrings$Sky", name := "mostWornPlace", desc := "(I)I" } : Jvm.MethodName)) ∈ zT := z_in (i := 341) (by decide +kernel) (by decide +kernel)
theorem we_X2_mostWornPlace : (Jvm.Cond.selects "KiteStrings$Sky" ({ cls := "KiteStrings$Sky", name := "mostWornPlace", desc := "(I)I" } : Jvm.MethodName) ({ cls := "KiteStrings$Sky", name := "mostWornPlace", desc := "(I)I" } : Jvm.MethodName)) ∈ zT := z_in (i := 342) (by decide +kernel) (by decide +kernel)
theorem wk_X2_mostWornPlace : (Jvm.Cond.code ({ cls := "KiteStrings$Sky", name := "mostWornPlace", desc := "(I)I" } : Jvm.MethodName) prog_4_method_16_code (4 : Nat) (Option.some Jvm.ClassFile.FieldType.int)) ∈ zT := z_in (i := 343) (by decide +kernel) (by decide +kernel)
theorem wm_X2_99 : (Jvm.Cond.methodLink "KiteStrings$Sky" (99 : Nat) ({ cls := "KiteStrings$Sky", name := "wearAt", desc := "(II)I" } : Jvm.MethodName)) ∈ zT := z_in (i := 344) (by decide +kernel) (by decide +kernel)
theorem wv_X2_wearAt : (Jvm.Cond.instanceMethod ({ cls := "KiteStrings$Sky", name := "wearAt", desc := "(II)I" } : Jvm.MethodName)) ∈ zT := z_in (i := 345) (by decide +kernel) (by decide +kernel)
theorem we_X2_wearAt : (Jvm.Cond.selects "KiteStrings$Sky" ({ cls := "KiteStrings$Sky", name := "wearAt", desc := "(II)I" } : Jvm.MethodName) ({ cls := "KiteStrings$Sky", name := "wearAt", desc := "(II)I" } : Jvm.MethodName)) ∈ zT := z_in (i := 346) (by decide +kernel) (by decide +kernel)
theorem wk_X2_wearAt : (Jvm.Cond.code ({ cls := "KiteStrings$Sky", name := "wearAt", desc := "(II)I" } : Jvm.MethodName) prog_4_method_13_code (3 : Nat) (Option.some Jvm.ClassFile.FieldType.int)) ∈ zT := z_in (i := 347) (by decide +kernel) (by decide +kernel)
theorem wm_X6_98 : (Jvm.Cond.methodLink "KiteStrings" (98 : Nat) ({ cls := "KiteStrings$Sky", name := "wearAt", desc := "(II)I" } : Jvm.MethodName)) ∈ zT := z_in (i := 348) (by decide +kernel) (by decide +kernel)
theorem wm_L_33 : (Jvm.Cond.methodLink "KiteStringsLaw" (33 : Nat) ({ cls := "KiteStrings", name := "pass", desc := "(I)I" } : Jvm.MethodName)) ∈ zT := z_in (i := 349) (by decide +kernel) (by decide +kernel)
theorem wv_X6_pass : (Jvm.Cond.instanceMethod ({ cls := "KiteStrings", name := "pass", desc := "(I)I" } : Jvm.MethodName)) ∈ zT := z_in (i := 350) (by decide +kernel) (by decide +kernel)
theorem we_X6_pass : (Jvm.Cond.selects "KiteStrings" ({ cls := "KiteStrings", name := "pass", desc := "(I)I" } : Jvm.MethodName) ({ cls := "KiteStrings", name := "pass", desc := "(I)I" } : Jvm.MethodName)) ∈ zT := z_in (i := 351) (by decide +kernel) (by decide +kernel)
theorem wk_X6_pass : (Jvm.Cond.code ({ cls := "KiteStrings", name := "pass", desc := "(I)I" } : Jvm.MethodName) prog_1_method_6_code (4 : Nat) (Option.some Jvm.ClassFile.FieldType.int)) ∈ zT := z_in (i := 352) (by decide +kernel) (by decide +kernel)
theorem wm_X6_102 : (Jvm.Cond.methodLink "KiteStrings" (102 : Nat) ({ cls := "KiteStrings$Tick", name := "happenIn", desc := "(LKiteStrings$Sky;)V" } : Jvm.MethodName)) ∈ zT := z_in (i := 353) (by decide +kernel) (by decide +kernel)
theorem wv_X4_happenIn : (Jvm.Cond.instanceMethod ({ cls := "KiteStrings$Tick", name := "happenIn", desc := "(LKiteStrings$Sky;)V" } : Jvm.MethodName)) ∈ zT := z_in (i := 354) (by decide +kernel) (by decide +kernel)
theorem we_X4_happenIn : (Jvm.Cond.selects "KiteStrings$Tick" ({ cls := "KiteStrings$Tick", name := "happenIn", desc := "(LKiteStrings$Sky;)V" } : Jvm.MethodName) ({ cls := "KiteStrings$Tick", name := "happenIn", desc := "(LKiteStrings$Sky;)V" } : Jvm.MethodName)) ∈ zT := z_in (i := 355) (by decide +kernel) (by decide +kernel)
theorem wk_X4_happenIn : (Jvm.Cond.code ({ cls := "KiteStrings$Tick", name := "happenIn", desc := "(LKiteStrings$Sky;)V" } : Jvm.MethodName) prog_6_method_2_code (3 : Nat) (Option.none : Option Jvm.ClassFile.FieldType)) ∈ zT := z_in (i := 356) (by decide +kernel) (by decide +kernel)
theorem wm_X4_18 : (Jvm.Cond.methodLink "KiteStrings$Tick" (18 : Nat) ({ cls := "KiteStrings$Sky", name := "isFlying", desc := "(I)Z" } : Jvm.MethodName)) ∈ zT := z_in (i := 357) (by decide +kernel) (by decide +kernel)
theorem wm_X4_24 : (Jvm.Cond.methodLink "KiteStrings$Tick" (24 : Nat) ({ cls := "KiteStrings$Sky", name := "move", desc := "(I)V" } : Jvm.MethodName)) ∈ zT := z_in (i := 358) (by decide +kernel) (by decide +kernel)
theorem wv_X2_move : (Jvm.Cond.instanceMethod ({ cls := "KiteStrings$Sky", name := "move", desc := "(I)V" } : Jvm.MethodName)) ∈ zT := z_in (i := 359) (by decide +kernel) (by decide +kernel)
theorem we_X2_move : (Jvm.Cond.selects "KiteStrings$Sky" ({ cls := "KiteStrings$Sky", name := "move", desc := "(I)V" } : Jvm.MethodName) ({ cls := "KiteStrings$Sky", name := "move", desc := "(I)V" } : Jvm.MethodName)) ∈ zT := z_in (i := 360) (by decide +kernel) (by decide +kernel)
theorem wk_X2_move : (Jvm.Cond.code ({ cls := "KiteStrings$Sky", name := "move", desc := "(I)V" } : Jvm.MethodName) prog_4_method_10_code (4 : Nat) (Option.none : Option Jvm.ClassFile.FieldType)) ∈ zT := z_in (i := 361) (by decide +kernel) (by decide +kernel)
theorem wm_X4_38 : (Jvm.Cond.methodLink "KiteStrings$Tick" (38 : Nat) ({ cls := "KiteStrings$Weave", name := "measure", desc := "(LKiteStrings$Sky;)V" } : Jvm.MethodName)) ∈ zT := z_in (i := 363) (by decide +kernel) (by decide +kernel)
theorem wv_X5_measure : (Jvm.Cond.instanceMethod ({ cls := "KiteStrings$Weave", name := "measure", desc := "(LKiteStrings$Sky;)V" } : Jvm.MethodName)) ∈ zT := z_in (i := 364) (by decide +kernel) (by decide +kernel)
theorem we_X5_measure : (Jvm.Cond.selects "KiteStrings$Weave" ({ cls := "KiteStrings$Weave", name := "measure", desc := "(LKiteStrings$Sky;)V" } : Jvm.MethodName) ({ cls := "KiteStrings$Weave", name := "measure", desc := "(LKiteStrings$Sky;)V" } : Jvm.MethodName)) ∈ zT := z_in (i := 365) (by decide +kernel) (by decide +kernel)
theorem wk_X5_measure : (Jvm.Cond.code ({ cls := "KiteStrings$Weave", name := "measure", desc := "(LKiteStrings$Sky;)V" } : Jvm.MethodName) prog_7_method_2_code (4 : Nat) (Option.none : Option Jvm.ClassFile.FieldType)) ∈ zT := z_in (i := 366) (by decide +kernel) (by decide +kernel)
theorem wm_X5_29 : (Jvm.Cond.methodLink "KiteStrings$Weave" (29 : Nat) ({ cls := "KiteStrings$Sky", name := "isFlying", desc := "(I)Z" } : Jvm.MethodName)) ∈ zT := z_in (i := 367) (by decide +kernel) (by decide +kernel)
theorem wm_X5_35 : (Jvm.Cond.methodLink "KiteStrings$Weave" (35 : Nat) ({ cls := "KiteStrings$Weave", name := "measurePair", desc := "(LKiteStrings$Sky;II)V" } : Jvm.MethodName)) ∈ zT := z_in (i := 368) (by decide +kernel) (by decide +kernel)
theorem wv_X5_measurePair : (Jvm.Cond.instanceMethod ({ cls := "KiteStrings$Weave", name := "measurePair", desc := "(LKiteStrings$Sky;II)V" } : Jvm.MethodName)) ∈ zT := z_in (i := 370) (by decide +kernel) (by decide +kernel)
theorem wk_X5_measurePair : (Jvm.Cond.code ({ cls := "KiteStrings$Weave", name := "measurePair", desc := "(LKiteStrings$Sky;II)V" } : Jvm.MethodName) prog_7_method_3_code (14 : Nat) (Option.none : Option Jvm.ClassFile.FieldType)) ∈ zT := z_in (i := 371) (by decide +kernel) (by decide +kernel)
theorem wm_X5_48 : (Jvm.Cond.methodLink "KiteStrings$Weave" (48 : Nat) ({ cls := "java/lang/Math", name := "abs", desc := "(I)I" } : Jvm.MethodName)) ∈ zT := z_in (i := 372) (by decide +kernel) (by decide +kernel)
theorem wm_X5_54 : (Jvm.Cond.methodLink "KiteStrings$Weave" (54 : Nat) ({ cls := "KiteStrings$Weave", name := "note", desc := "(IIIZ)V" } : Jvm.MethodName)) ∈ zT := z_in (i := 373) (by decide +kernel) (by decide +kernel)
theorem wv_X5_note : (Jvm.Cond.instanceMethod ({ cls := "KiteStrings$Weave", name := "note", desc := "(IIIZ)V" } : Jvm.MethodName)) ∈ zT := z_in (i := 375) (by decide +kernel) (by decide +kernel)
theorem wk_X5_note : (Jvm.Cond.code ({ cls := "KiteStrings$Weave", name := "note", desc := "(IIIZ)V" } : Jvm.MethodName) prog_7_method_4_code (5 : Nat) (Option.none : Option Jvm.ClassFile.FieldType)) ∈ zT := z_in (i := 376) (by decide +kernel) (by decide +kernel)
theorem wm_X4_42 : (Jvm.Cond.methodLink "KiteStrings$Tick" (42 : Nat) ({ cls := "KiteStrings$Tick", name := "wearStrings", desc := "(LKiteStrings$Sky;)V" } : Jvm.MethodName)) ∈ zT := z_in (i := 377) (by decide +kernel) (by decide +kernel)
theorem wv_X4_wearStrings : (Jvm.Cond.instanceMethod ({ cls := "KiteStrings$Tick", name := "wearStrings", desc := "(LKiteStrings$Sky;)V" } : Jvm.MethodName)) ∈ zT := z_in (i := 379) (by decide +kernel) (by decide +kernel)
theorem wk_X4_wearStrings : (Jvm.Cond.code ({ cls := "KiteStrings$Tick", name := "wearStrings", desc := "(LKiteStrings$Sky;)V" } : Jvm.MethodName) prog_6_method_3_code (5 : Nat) (Option.none : Option Jvm.ClassFile.FieldType)) ∈ zT := z_in (i := 380) (by decide +kernel) (by decide +kernel)
theorem wm_X4_65 : (Jvm.Cond.methodLink "KiteStrings$Tick" (65 : Nat) ({ cls := "KiteStrings$Sky", name := "rubbing", desc := "(IIZ)I" } : Jvm.MethodName)) ∈ zT := z_in (i := 381) (by decide +kernel) (by decide +kernel)
theorem wv_X2_rubbing : (Jvm.Cond.instanceMethod ({ cls := "KiteStrings$Sky", name := "rubbing", desc := "(IIZ)I" } : Jvm.MethodName)) ∈ zT := z_in (i := 382) (by decide +kernel) (by decide +kernel)
theorem we_X2_rubbing : (Jvm.Cond.selects "KiteStrings$Sky" ({ cls := "KiteStrings$Sky", name := "rubbing", desc := "(IIZ)I" } : Jvm.MethodName) ({ cls := "KiteStrings$Sky", name := "rubbing", desc := "(IIZ)I" } : Jvm.MethodName)) ∈ zT := z_in (i := 383) (by decide +kernel) (by decide +kernel)
theorem wk_X2_rubbing : (Jvm.Cond.code ({ cls := "KiteStrings$Sky", name := "rubbing", desc := "(IIZ)I" } : Jvm.MethodName) prog_4_method_12_code (5 : Nat) (Option.some Jvm.ClassFile.FieldType.int)) ∈ zT := z_in (i := 384) (by decide +kernel) (by decide +kernel)
theorem wm_X2_96 : (Jvm.Cond.methodLink "KiteStrings$Sky" (96 : Nat) ({ cls := "KiteStrings$Sky", name := "sliding", desc := "(II)I" } : Jvm.MethodName)) ∈ zT := z_in (i := 385) (by decide +kernel) (by decide +kernel)
theorem wv_X2_sliding : (Jvm.Cond.instanceMethod ({ cls := "KiteStrings$Sky", name := "sliding", desc := "(II)I" } : Jvm.MethodName)) ∈ zT := z_in (i := 386) (by decide +kernel) (by decide +kernel)
theorem we_X2_sliding : (Jvm.Cond.selects "KiteStrings$Sky" ({ cls := "KiteStrings$Sky", name := "sliding", desc := "(II)I" } : Jvm.MethodName) ({ cls := "KiteStrings$Sky", name := "sliding", desc := "(II)I" } : Jvm.MethodName)) ∈ zT := z_in (i := 387) (by decide +kernel) (by decide +kernel)
theorem wk_X2_sliding : (Jvm.Cond.code ({ cls := "KiteStrings$Sky", name := "sliding", desc := "(II)I" } : Jvm.MethodName) prog_4_method_11_code (3 : Nat) (Option.some Jvm.ClassFile.FieldType.int)) ∈ zT := z_in (i := 388) (by decide +kernel) (by decide +kernel)
theorem wm_X4_72 : (Jvm.Cond.methodLink "KiteStrings$Tick" (72 : Nat) ({ cls := "KiteStrings$Sky", name := "wearDown", desc := "(III)V" } : Jvm.MethodName)) ∈ zT := z_in (i := 389) (by decide +kernel) (by decide +kernel)
theorem wv_X2_wearDown : (Jvm.Cond.instanceMethod ({ cls := "KiteStrings$Sky", name := "wearDown", desc := "(III)V" } : Jvm.MethodName)) ∈ zT := z_in (i := 390) (by decide +kernel) (by decide +kernel)
theorem we_X2_wearDown : (Jvm.Cond.selects "KiteStrings$Sky" ({ cls := "KiteStrings$Sky", name := "wearDown", desc := "(III)V" } : Jvm.MethodName) ({ cls := "KiteStrings$Sky", name := "wearDown", desc := "(III)V" } : Jvm.MethodName)) ∈ zT := z_in (i := 391) (by decide +kernel) (by decide +kernel)
theorem wk_X2_wearDown : (Jvm.Cond.code ({ cls := "KiteStrings$Sky", name := "wearDown", desc := "(III)V" } : Jvm.MethodName) prog_4_method_14_code (4 : Nat) (Option.none : Option Jvm.ClassFile.FieldType)) ∈ zT := z_in (i := 392) (by decide +kernel) (by decide +kernel)
theorem wm_X4_45 : (Jvm.Cond.methodLink "KiteStrings$Tick" (45 : Nat) ({ cls := "KiteStrings$Tick", name := "givePoints", desc := "(LKiteStrings$Sky;)V" } : Jvm.MethodName)) ∈ zT := z_in (i := 393) (by decide +kernel) (by decide +kernel)
theorem wv_X4_givePoints : (Jvm.Cond.instanceMethod ({ cls := "KiteStrings$Tick", name := "givePoints", desc := "(LKiteStrings$Sky;)V" } : Jvm.MethodName)) ∈ zT := z_in (i := 395) (by decide +kernel) (by decide +kernel)
theorem wk_X4_givePoints : (Jvm.Cond.code ({ cls := "KiteStrings$Tick", name := "givePoints", desc := "(LKiteStrings$Sky;)V" } : Jvm.MethodName) prog_6_method_4_code (5 : Nat) (Option.none : Option Jvm.ClassFile.FieldType)) ∈ zT := z_in (i := 396) (by decide +kernel) (by decide +kernel)
theorem wm_X4_76 : (Jvm.Cond.methodLink "KiteStrings$Tick" (76 : Nat) ({ cls := "KiteStrings$Sky", name := "isWornThrough", desc := "(II)Z" } : Jvm.MethodName)) ∈ zT := z_in (i := 397) (by decide +kernel) (by decide +kernel)
theorem wv_X2_isWornThrough : (Jvm.Cond.instanceMethod ({ cls := "KiteStrings$Sky", name := "isWornThrough", desc := "(II)Z" } : Jvm.MethodName)) ∈ zT := z_in (i := 398) (by decide +kernel) (by decide +kernel)
theorem we_X2_isWornThrough : (Jvm.Cond.selects "KiteStrings$Sky" ({ cls := "KiteStrings$Sky", name := "isWornThrough", desc := "(II)Z" } : Jvm.MethodName) ({ cls := "KiteStrings$Sky", name := "isWornThrough", desc := "(II)Z" } : Jvm.MethodName)) ∈ zT := z_in (i := 399) (by decide +kernel) (by decide +kernel)
theorem wk_X2_isWornThrough : (Jvm.Cond.code ({ cls := "KiteStrings$Sky", name := "isWornThrough", desc := "(II)Z" } : Jvm.MethodName) prog_4_method_15_code (3 : Nat) (Option.some Jvm.ClassFile.FieldType.boolean)) ∈ zT := z_in (i := 400) (by decide +kernel) (by decide +kernel)
theorem wm_X4_48 : (Jvm.Cond.methodLink "KiteStrings$Tick" (48 : Nat) ({ cls := "KiteStrings$Tick", name := "cutStrings", desc := "(LKiteStrings$Sky;)V" } : Jvm.MethodName)) ∈ zT := z_in (i := 401) (by decide +kernel) (by decide +kernel)
theorem wv_X4_cutStrings : (Jvm.Cond.instanceMethod ({ cls := "KiteStrings$Tick", name := "cutStrings", desc := "(LKiteStrings$Sky;)V" } : Jvm.MethodName)) ∈ zT := z_in (i := 403) (by decide +kernel) (by decide +kernel)
theorem wk_X4_cutStrings : (Jvm.Cond.code ({ cls := "KiteStrings$Tick", name := "cutStrings", desc := "(LKiteStrings$Sky;)V" } : Jvm.MethodName) prog_6_method_5_code (3 : Nat) (Option.none : Option Jvm.ClassFile.FieldType)) ∈ zT := z_in (i := 404) (by decide +kernel) (by decide +kernel)
theorem wm_L_37 : (Jvm.Cond.methodLink "KiteStringsLaw" (37 : Nat) ({ cls := "KiteStrings", name := "round", desc := "()I" } : Jvm.MethodName)) ∈ zT := z_in (i := 405) (by decide +kernel) (by decide +kernel)
theorem wv_X6_round : (Jvm.Cond.instanceMethod ({ cls := "KiteStrings", name := "round", desc := "()I" } : Jvm.MethodName)) ∈ zT := z_in (i := 406) (by decide +kernel) (by decide +kernel)
theorem we_X6_round : (Jvm.Cond.selects "KiteStrings" ({ cls := "KiteStrings", name := "round", desc := "()I" } : Jvm.MethodName) ({ cls := "KiteStrings", name := "round", desc := "()I" } : Jvm.MethodName)) ∈ zT := z_in (i := 407) (by decide +kernel) (by decide +kernel)
theorem wk_X6_round : (Jvm.Cond.code ({ cls := "KiteStrings", name := "round", desc := "()I" } : Jvm.MethodName) prog_1_method_7_code (1 : Nat) (Option.some Jvm.ClassFile.FieldType.int)) ∈ zT := z_in (i := 408) (by decide +kernel) (by decide +kernel)
theorem wm_X6_108 : (Jvm.Cond.methodLink "KiteStrings" (108 : Nat) ({ cls := "KiteStrings$Sky", name := "beginAnew", desc := "()V" } : Jvm.MethodName)) ∈ zT := z_in (i := 409) (by decide +kernel) (by decide +kernel)
theorem wv_X2_beginAnew : (Jvm.Cond.instanceMethod ({ cls := "KiteStrings$Sky", name := "beginAnew", desc := "()V" } : Jvm.MethodName)) ∈ zT := z_in (i := 410) (by decide +kernel) (by decide +kernel)
theorem we_X2_beginAnew : (Jvm.Cond.selects "KiteStrings$Sky" ({ cls := "KiteStrings$Sky", name := "beginAnew", desc := "()V" } : Jvm.MethodName) ({ cls := "KiteStrings$Sky", name := "beginAnew", desc := "()V" } : Jvm.MethodName)) ∈ zT := z_in (i := 411) (by decide +kernel) (by decide +kernel)
theorem wk_X2_beginAnew : (Jvm.Cond.code ({ cls := "KiteStrings$Sky", name := "beginAnew", desc := "()V" } : Jvm.MethodName) prog_4_method_8_code (2 : Nat) (Option.none : Option Jvm.ClassFile.FieldType)) ∈ zT := z_in (i := 412) (by decide +kernel) (by decide +kernel)
theorem wm_L_42 : (Jvm.Cond.methodLink "KiteStringsLaw" (42 : Nat) ({ cls := "KiteStrings", name := "carryOut", desc := "()I" } : Jvm.MethodName)) ∈ zT := z_in (i := 413) (by decide +kernel) (by decide +kernel)
theorem wv_X6_carryOut : (Jvm.Cond.instanceMethod ({ cls := "KiteStrings", name := "carryOut", desc := "()I" } : Jvm.MethodName)) ∈ zT := z_in (i := 414) (by decide +kernel) (by decide +kernel)
theorem we_X6_carryOut : (Jvm.Cond.selects "KiteStrings" ({ cls := "KiteStrings", name := "carryOut", desc := "()I" } : Jvm.MethodName) ({ cls := "KiteStrings", name := "carryOut", desc := "()I" } : Jvm.MethodName)) ∈ zT := z_in (i := 415) (by decide +kernel) (by decide +kernel)
theorem wk_X6_carryOut : (Jvm.Cond.code ({ cls := "KiteStrings", name := "carryOut", desc := "()I" } : Jvm.MethodName) prog_1_method_8_code (2 : Nat) (Option.some Jvm.ClassFile.FieldType.int)) ∈ zT := z_in (i := 416) (by decide +kernel) (by decide +kernel)
theorem wm_X6_114 : (Jvm.Cond.methodLink "KiteStrings" (114 : Nat) ({ cls := "KiteStrings$Pad", name := "firstFault", desc := "()I" } : Jvm.MethodName)) ∈ zT := z_in (i := 417) (by decide +kernel) (by decide +kernel)
theorem wv_X1_firstFault : (Jvm.Cond.instanceMethod ({ cls := "KiteStrings$Pad", name := "firstFault", desc := "()I" } : Jvm.MethodName)) ∈ zT := z_in (i := 418) (by decide +kernel) (by decide +kernel)
theorem we_X1_firstFault : (Jvm.Cond.selects "KiteStrings$Pad" ({ cls := "KiteStrings$Pad", name := "firstFault", desc := "()I" } : Jvm.MethodName) ({ cls := "KiteStrings$Pad", name := "firstFault", desc := "()I" } : Jvm.MethodName)) ∈ zT := z_in (i := 419) (by decide +kernel) (by decide +kernel)
theorem wk_X1_firstFault : (Jvm.Cond.code ({ cls := "KiteStrings$Pad", name := "firstFault", desc := "()I" } : Jvm.MethodName) prog_3_method_4_code (3 : Nat) (Option.some Jvm.ClassFile.FieldType.int)) ∈ zT := z_in (i := 420) (by decide +kernel) (by decide +kernel)
theorem wm_X1_19 : (Jvm.Cond.methodLink "KiteStrings$Pad" (19 : Nat) ({ cls := "KiteStrings$Pad", name := "signAt", desc := "(I)I" } : Jvm.MethodName)) ∈ zT := z_in (i := 421) (by decide +kernel) (by decide +kernel)
theorem wv_X1_signAt : (Jvm.Cond.instanceMethod ({ cls := "KiteStrings$Pad", name := "signAt", desc := "(I)I" } : Jvm.MethodName)) ∈ zT := z_in (i := 423) (by decide +kernel) (by decide +kernel)
theorem wk_X1_signAt : (Jvm.Cond.code ({ cls := "KiteStrings$Pad", name := "signAt", desc := "(I)I" } : Jvm.MethodName) prog_3_method_7_code (2 : Nat) (Option.some Jvm.ClassFile.FieldType.int)) ∈ zT := z_in (i := 424) (by decide +kernel) (by decide +kernel)
theorem wm_X1_23 : (Jvm.Cond.methodLink "KiteStrings$Pad" (23 : Nat) ({ cls := "KiteStrings$Pad", name := "expectedAfter", desc := "(II)I" } : Jvm.MethodName)) ∈ zT := z_in (i := 425) (by decide +kernel) (by decide +kernel)
theorem ws_X1_expectedAfter : (Jvm.Cond.static ({ cls := "KiteStrings$Pad", name := "expectedAfter", desc := "(II)I" } : Jvm.MethodName)) ∈ zT := z_in (i := 426) (by decide +kernel) (by decide +kernel)
theorem wk_X1_expectedAfter : (Jvm.Cond.code ({ cls := "KiteStrings$Pad", name := "expectedAfter", desc := "(II)I" } : Jvm.MethodName) prog_3_method_5_code (2 : Nat) (Option.some Jvm.ClassFile.FieldType.int)) ∈ zT := z_in (i := 427) (by decide +kernel) (by decide +kernel)
theorem wm_X1_31 : (Jvm.Cond.methodLink "KiteStrings$Pad" (31 : Nat) ({ cls := "KiteStrings$Pad", name := "afterStartOfStep", desc := "(III)I" } : Jvm.MethodName)) ∈ zT := z_in (i := 429) (by decide +kernel) (by decide +kernel)
theorem ws_X1_afterStartOfStep : (Jvm.Cond.static ({ cls := "KiteStrings$Pad", name := "afterStartOfStep", desc := "(III)I" } : Jvm.MethodName)) ∈ zT := z_in (i := 430) (by decide +kernel) (by decide +kernel)
theorem wk_X1_afterStartOfStep : (Jvm.Cond.code ({ cls := "KiteStrings$Pad", name := "afterStartOfStep", desc := "(III)I" } : Jvm.MethodName) prog_3_method_6_code (3 : Nat) (Option.some Jvm.ClassFile.FieldType.int)) ∈ zT := z_in (i := 431) (by decide +kernel) (by decide +kernel)
theorem wm_X6_118 : (Jvm.Cond.methodLink "KiteStrings" (118 : Nat) ({ cls := "KiteStrings", name := "giveOrdersOfPad", desc := "()I" } : Jvm.MethodName)) ∈ zT := z_in (i := 432) (by decide +kernel) (by decide +kernel)
theorem wv_X6_giveOrdersOfPad : (Jvm.Cond.instanceMethod ({ cls := "KiteStrings", name := "giveOrdersOfPad", desc := "()I" } : Jvm.MethodName)) ∈ zT := z_in (i := 434) (by decide +kernel) (by decide +kernel)
theorem wk_X6_giveOrdersOfPad : (Jvm.Cond.code ({ cls := "KiteStrings", name := "giveOrdersOfPad", desc := "()I" } : Jvm.MethodName) prog_1_method_9_code (9 : Nat) (Option.some Jvm.ClassFile.FieldType.int)) ∈ zT := z_in (i := 435) (by decide +kernel) (by decide +kernel)
theorem wm_X6_127 : (Jvm.Cond.methodLink "KiteStrings" (127 : Nat) ({ cls := "KiteStrings$Pad", name := "afterKite", desc := "(I)I" } : Jvm.MethodName)) ∈ zT := z_in (i := 436) (by decide +kernel) (by decide +kernel)
theorem wv_X1_afterKite : (Jvm.Cond.instanceMethod ({ cls := "KiteStrings$Pad", name := "afterKite", desc := "(I)I" } : Jvm.MethodName)) ∈ zT := z_in (i := 437) (by decide +kernel) (by decide +kernel)
theorem we_X1_afterKite : (Jvm.Cond.selects "KiteStrings$Pad" ({ cls := "KiteStrings$Pad", name := "afterKite", desc := "(I)I" } : Jvm.MethodName) ({ cls := "KiteStrings$Pad", name := "afterKite", desc := "(I)I" } : Jvm.MethodName)) ∈ zT := z_in (i := 438) (by decide +kernel) (by decide +kernel)
theorem wk_X1_afterKite : (Jvm.Cond.code ({ cls := "KiteStrings$Pad", name := "afterKite", desc := "(I)I" } : Jvm.MethodName) prog_3_method_10_code (2 : Nat) (Option.some Jvm.ClassFile.FieldType.int)) ∈ zT := z_in (i := 439) (by decide +kernel) (by decide +kernel)
theorem wm_X6_130 : (Jvm.Cond.methodLink "KiteStrings" (130 : Nat) ({ cls := "KiteStrings$Pad", name := "afterStep", desc := "(I)I" } : Jvm.MethodName)) ∈ zT := z_in (i := 440) (by decide +kernel) (by decide +kernel)
theorem wv_X1_afterStep : (Jvm.Cond.instanceMethod ({ cls := "KiteStrings$Pad", name := "afterStep", desc := "(I)I" } : Jvm.MethodName)) ∈ zT := z_in (i := 441) (by decide +kernel) (by decide +kernel)
theorem we_X1_afterStep : (Jvm.Cond.selects "KiteStrings$Pad" ({ cls := "KiteStrings$Pad", name := "afterStep", desc := "(I)I" } : Jvm.MethodName) ({ cls := "KiteStrings$Pad", name := "afterStep", desc := "(I)I" } : Jvm.MethodName)) ∈ zT := z_in (i := 442) (by decide +kernel) (by decide +kernel)
theorem wk_X1_afterStep : (Jvm.Cond.code ({ cls := "KiteStrings$Pad", name := "afterStep", desc := "(I)I" } : Jvm.MethodName) prog_3_method_11_code (2 : Nat) (Option.some Jvm.ClassFile.FieldType.int)) ∈ zT := z_in (i := 443) (by decide +kernel) (by decide +kernel)
theorem wm_X6_133 : (Jvm.Cond.methodLink "KiteStrings" (133 : Nat) ({ cls := "KiteStrings$Pad", name := "digitAt", desc := "(I)I" } : Jvm.MethodName)) ∈ zT := z_in (i := 444) (by decide +kernel) (by decide +kernel)
theorem wv_X1_digitAt : (Jvm.Cond.instanceMethod ({ cls := "KiteStrings$Pad", name := "digitAt", desc := "(I)I" } : Jvm.MethodName)) ∈ zT := z_in (i := 445) (by decide +kernel) (by decide +kernel)
theorem we_X1_digitAt : (Jvm.Cond.selects "KiteStrings$Pad" ({ cls := "KiteStrings$Pad", name := "digitAt", desc := "(I)I" } : Jvm.MethodName) ({ cls := "KiteStrings$Pad", name := "digitAt", desc := "(I)I" } : Jvm.MethodName)) ∈ zT := z_in (i := 446) (by decide +kernel) (by decide +kernel)
theorem wk_X1_digitAt : (Jvm.Cond.code ({ cls := "KiteStrings$Pad", name := "digitAt", desc := "(I)I" } : Jvm.MethodName) prog_3_method_8_code (2 : Nat) (Option.some Jvm.ClassFile.FieldType.int)) ∈ zT := z_in (i := 447) (by decide +kernel) (by decide +kernel)
theorem wm_X6_136 : (Jvm.Cond.methodLink "KiteStrings" (136 : Nat) ({ cls := "KiteStrings$Pad", name := "stepAt", desc := "(I)I" } : Jvm.MethodName)) ∈ zT := z_in (i := 448) (by decide +kernel) (by decide +kernel)
theorem wv_X1_stepAt : (Jvm.Cond.instanceMethod ({ cls := "KiteStrings$Pad", name := "stepAt", desc := "(I)I" } : Jvm.MethodName)) ∈ zT := z_in (i := 449) (by decide +kernel) (by decide +kernel)
theorem we_X1_stepAt : (Jvm.Cond.selects "KiteStrings$Pad" ({ cls := "KiteStrings$Pad", name := "stepAt", desc := "(I)I" } : Jvm.MethodName) ({ cls := "KiteStrings$Pad", name := "stepAt", desc := "(I)I" } : Jvm.MethodName)) ∈ zT := z_in (i := 450) (by decide +kernel) (by decide +kernel)
theorem wk_X1_stepAt : (Jvm.Cond.code ({ cls := "KiteStrings$Pad", name := "stepAt", desc := "(I)I" } : Jvm.MethodName) prog_3_method_9_code (3 : Nat) (Option.some Jvm.ClassFile.FieldType.int)) ∈ zT := z_in (i := 451) (by decide +kernel) (by decide +kernel)
theorem wm_X1_35 : (Jvm.Cond.methodLink "KiteStrings$Pad" (35 : Nat) ({ cls := "KiteStrings$Pad", name := "digitAt", desc := "(I)I" } : Jvm.MethodName)) ∈ zT := z_in (i := 452) (by decide +kernel) (by decide +kernel)
theorem wm_X6_139 : (Jvm.Cond.methodLink "KiteStrings" (139 : Nat) ({ cls := "KiteStrings$Pad", name := "afterSemicolon", desc := "(I)I" } : Jvm.MethodName)) ∈ zT := z_in (i := 453) (by decide +kernel) (by decide +kernel)
theorem wv_X1_afterSemicolon : (Jvm.Cond.instanceMethod ({ cls := "KiteStrings$Pad", name := "afterSemicolon", desc := "(I)I" } : Jvm.MethodName)) ∈ zT := z_in (i := 454) (by decide +kernel) (by decide +kernel)
theorem we_X1_afterSemicolon : (Jvm.Cond.selects "KiteStrings$Pad" ({ cls := "KiteStrings$Pad", name := "afterSemicolon", desc := "(I)I" } : Jvm.MethodName) ({ cls := "KiteStrings$Pad", name := "afterSemicolon", desc := "(I)I" } : Jvm.MethodName)) ∈ zT := z_in (i := 455) (by decide +kernel) (by decide +kernel)
theorem wk_X1_afterSemicolon : (Jvm.Cond.code ({ cls := "KiteStrings$Pad", name := "afterSemicolon", desc := "(I)I" } : Jvm.MethodName) prog_3_method_12_code (2 : Nat) (Option.some Jvm.ClassFile.FieldType.int)) ∈ zT := z_in (i := 456) (by decide +kernel) (by decide +kernel)
theorem wm_X6_121 : (Jvm.Cond.methodLink "KiteStrings" (121 : Nat) ({ cls := "KiteStrings$Pad", name := "clear", desc := "()V" } : Jvm.MethodName)) ∈ zT := z_in (i := 457) (by decide +kernel) (by decide +kernel)
theorem wv_X1_clear : (Jvm.Cond.instanceMethod ({ cls := "KiteStrings$Pad", name := "clear", desc := "()V" } : Jvm.MethodName)) ∈ zT := z_in (i := 458) (by decide +kernel) (by decide +kernel)
theorem we_X1_clear : (Jvm.Cond.selects "KiteStrings$Pad" ({ cls := "KiteStrings$Pad", name := "clear", desc := "()V" } : Jvm.MethodName) ({ cls := "KiteStrings$Pad", name := "clear", desc := "()V" } : Jvm.MethodName)) ∈ zT := z_in (i := 459) (by decide +kernel) (by decide +kernel)
theorem wk_X1_clear : (Jvm.Cond.code ({ cls := "KiteStrings$Pad", name := "clear", desc := "()V" } : Jvm.MethodName) prog_3_method_3_code (1 : Nat) (Option.none : Option Jvm.ClassFile.FieldType)) ∈ zT := z_in (i := 460) (by decide +kernel) (by decide +kernel)
theorem wm_L_46 : (Jvm.Cond.methodLink "KiteStringsLaw" (46 : Nat) ({ cls := "KiteStrings", name := "kite", desc := "(II)I" } : Jvm.MethodName)) ∈ zT := z_in (i := 461) (by decide +kernel) (by decide +kernel)
theorem wv_X6_kite : (Jvm.Cond.instanceMethod ({ cls := "KiteStrings", name := "kite", desc := "(II)I" } : Jvm.MethodName)) ∈ zT := z_in (i := 462) (by decide +kernel) (by decide +kernel)
theorem we_X6_kite : (Jvm.Cond.selects "KiteStrings" ({ cls := "KiteStrings", name := "kite", desc := "(II)I" } : Jvm.MethodName) ({ cls := "KiteStrings", name := "kite", desc := "(II)I" } : Jvm.MethodName)) ∈ zT := z_in (i := 463) (by decide +kernel) (by decide +kernel)
theorem wk_X6_kite : (Jvm.Cond.code ({ cls := "KiteStrings", name := "kite", desc := "(II)I" } : Jvm.MethodName) prog_1_method_11_code (3 : Nat) (Option.some Jvm.ClassFile.FieldType.int)) ∈ zT := z_in (i := 464) (by decide +kernel) (by decide +kernel)
theorem wm_X6_142 : (Jvm.Cond.methodLink "KiteStrings" (142 : Nat) ({ cls := "KiteStrings", name := "aboutKite", desc := "(II)I" } : Jvm.MethodName)) ∈ zT := z_in (i := 465) (by decide +kernel) (by decide +kernel)
theorem wv_X6_aboutKite : (Jvm.Cond.instanceMethod ({ cls := "KiteStrings", name := "aboutKite", desc := "(II)I" } : Jvm.MethodName)) ∈ zT := z_in (i := 467) (by decide +kernel) (by decide +kernel)
theorem wk_X6_aboutKite : (Jvm.Cond.code ({ cls := "KiteStrings", name := "aboutKite", desc := "(II)I" } : Jvm.MethodName) prog_1_method_12_code (3 : Nat) (Option.some Jvm.ClassFile.FieldType.int)) ∈ zT := z_in (i := 468) (by decide +kernel) (by decide +kernel)
theorem wm_X6_145 : (Jvm.Cond.methodLink "KiteStrings" (145 : Nat) ({ cls := "KiteStrings", name := "aboutString", desc := "(II)I" } : Jvm.MethodName)) ∈ zT := z_in (i := 469) (by decide +kernel) (by decide +kernel)
theorem wv_X6_aboutString : (Jvm.Cond.instanceMethod ({ cls := "KiteStrings", name := "aboutString", desc := "(II)I" } : Jvm.MethodName)) ∈ zT := z_in (i := 471) (by decide +kernel) (by decide +kernel)
theorem wk_X6_aboutString : (Jvm.Cond.code ({ cls := "KiteStrings", name := "aboutString", desc := "(II)I" } : Jvm.MethodName) prog_1_method_13_code (4 : Nat) (Option.some Jvm.ClassFile.FieldType.int)) ∈ zT := z_in (i := 472) (by decide +kernel) (by decide +kernel)
theorem wm_X6_169 : (Jvm.Cond.methodLink "KiteStrings" (169 : Nat) ({ cls := "KiteStrings$Weave", name := "measure", desc := "(LKiteStrings$Sky;)V" } : Jvm.MethodName)) ∈ zT := z_in (i := 473) (by decide +kernel) (by decide +kernel)
theorem wm_X6_172 : (Jvm.Cond.methodLink "KiteStrings" (172 : Nat) ({ cls := "KiteStrings$Weave", name := "crossersOf", desc := "(I)I" } : Jvm.MethodName)) ∈ zT := z_in (i := 474) (by decide +kernel) (by decide +kernel)
theorem wv_X5_crossersOf : (Jvm.Cond.instanceMethod ({ cls := "KiteStrings$Weave", name := "crossersOf", desc := "(I)I" } : Jvm.MethodName)) ∈ zT := z_in (i := 475) (by decide +kernel) (by decide +kernel)
theorem we_X5_crossersOf : (Jvm.Cond.selects "KiteStrings$Weave" ({ cls := "KiteStrings$Weave", name := "crossersOf", desc := "(I)I" } : Jvm.MethodName) ({ cls := "KiteStrings$Weave", name := "crossersOf", desc := "(I)I" } : Jvm.MethodName)) ∈ zT := z_in (i := 476) (by decide +kernel) (by decide +kernel)
theorem wk_X5_crossersOf : (Jvm.Cond.code ({ cls := "KiteStrings$Weave", name := "crossersOf", desc := "(I)I" } : Jvm.MethodName) prog_7_method_10_code (4 : Nat) (Option.some Jvm.ClassFile.FieldType.int)) ∈ zT := z_in (i := 477) (by decide +kernel) (by decide +kernel)
theorem wm_L_50 : (Jvm.Cond.methodLink "KiteStringsLaw" (50 : Nat) ({ cls := "KiteStrings", name := "wear", desc := "(II)I" } : Jvm.MethodName)) ∈ zT := z_in (i := 478) (by decide +kernel) (by decide +kernel)
theorem wv_X6_wear : (Jvm.Cond.instanceMethod ({ cls := "KiteStrings", name := "wear", desc := "(II)I" } : Jvm.MethodName)) ∈ zT := z_in (i := 479) (by decide +kernel) (by decide +kernel)
theorem we_X6_wear : (Jvm.Cond.selects "KiteStrings" ({ cls := "KiteStrings", name := "wear", desc := "(II)I" } : Jvm.MethodName) ({ cls := "KiteStrings", name := "wear", desc := "(II)I" } : Jvm.MethodName)) ∈ zT := z_in (i := 480) (by decide +kernel) (by decide +kernel)
theorem wk_X6_wear : (Jvm.Cond.code ({ cls := "KiteStrings", name := "wear", desc := "(II)I" } : Jvm.MethodName) prog_1_method_14_code (3 : Nat) (Option.some Jvm.ClassFile.FieldType.int)) ∈ zT := z_in (i := 481) (by decide +kernel) (by decide +kernel)
theorem wm_L_54 : (Jvm.Cond.methodLink "KiteStringsLaw" (54 : Nat) ({ cls := "KiteStrings", name := "crossing", desc := "(III)I" } : Jvm.MethodName)) ∈ zT := z_in (i := 482) (by decide +kernel) (by decide +kernel)
theorem wv_X6_crossing : (Jvm.Cond.instanceMethod ({ cls := "KiteStrings", name := "crossing", desc := "(III)I" } : Jvm.MethodName)) ∈ zT := z_in (i := 483) (by decide +kernel) (by decide +kernel)
theorem we_X6_crossing : (Jvm.Cond.selects "KiteStrings" ({ cls := "KiteStrings", name := "crossing", desc := "(III)I" } : Jvm.MethodName) ({ cls := "KiteStrings", name := "crossing", desc := "(III)I" } : Jvm.MethodName)) ∈ zT := z_in (i := 484) (by decide +kernel) (by decide +kernel)
theorem wk_X6_crossing : (Jvm.Cond.code ({ cls := "KiteStrings", name := "crossing", desc := "(III)I" } : Jvm.MethodName) prog_1_method_15_code (4 : Nat) (Option.some Jvm.ClassFile.FieldType.int)) ∈ zT := z_in (i := 485) (by decide +kernel) (by decide +kernel)
theorem wm_X6_175 : (Jvm.Cond.methodLink "KiteStrings" (175 : Nat) ({ cls := "KiteStrings", name := "aboutCrossing", desc := "(III)I" } : Jvm.MethodName)) ∈ zT := z_in (i := 486) (by decide +kernel) (by decide +kernel)
theorem wv_X6_aboutCrossing : (Jvm.Cond.instanceMethod ({ cls := "KiteStrings", name := "aboutCrossing", desc := "(III)I" } : Jvm.MethodName)) ∈ zT := z_in (i := 488) (by decide +kernel) (by decide +kernel)
theorem wk_X6_aboutCrossing : (Jvm.Cond.code ({ cls := "KiteStrings", name := "aboutCrossing", desc := "(III)I" } : Jvm.MethodName) prog_1_method_16_code (5 : Nat) (Option.some Jvm.ClassFile.FieldType.int)) ∈ zT := z_in (i := 489) (by decide +kernel) (by decide +kernel)
theorem wm_X6_178 : (Jvm.Cond.methodLink "KiteStrings" (178 : Nat) ({ cls := "KiteStrings$Weave", name := "cross", desc := "(II)Z" } : Jvm.MethodName)) ∈ zT := z_in (i := 490) (by decide +kernel) (by decide +kernel)
theorem wv_X5_cross : (Jvm.Cond.instanceMethod ({ cls := "KiteStrings$Weave", name := "cross", desc := "(II)Z" } : Jvm.MethodName)) ∈ zT := z_in (i := 491) (by decide +kernel) (by decide +kernel)
theorem we_X5_cross : (Jvm.Cond.selects "KiteStrings$Weave" ({ cls := "KiteStrings$Weave", name := "cross", desc := "(II)Z" } : Jvm.MethodName) ({ cls := "KiteStrings$Weave", name := "cross", desc := "(II)Z" } : Jvm.MethodName)) ∈ zT := z_in (i := 492) (by decide +kernel) (by decide +kernel)
theorem wk_X5_cross : (Jvm.Cond.code ({ cls := "KiteStrings$Weave", name := "cross", desc := "(II)Z" } : Jvm.MethodName) prog_7_method_7_code (3 : Nat) (Option.some Jvm.ClassFile.FieldType.boolean)) ∈ zT := z_in (i := 493) (by decide +kernel) (by decide +kernel)
theorem wm_X5_58 : (Jvm.Cond.methodLink "KiteStrings$Weave" (58 : Nat) ({ cls := "KiteStrings$Weave", name := "noteOf", desc := "(II)I" } : Jvm.MethodName)) ∈ zT := z_in (i := 494) (by decide +kernel) (by decide +kernel)
theorem wv_X5_noteOf : (Jvm.Cond.instanceMethod ({ cls := "KiteStrings$Weave", name := "noteOf", desc := "(II)I" } : Jvm.MethodName)) ∈ zT := z_in (i := 496) (by decide +kernel) (by decide +kernel)
theorem wk_X5_noteOf : (Jvm.Cond.code ({ cls := "KiteStrings$Weave", name := "noteOf", desc := "(II)I" } : Jvm.MethodName) prog_7_method_6_code (4 : Nat) (Option.some Jvm.ClassFile.FieldType.int)) ∈ zT := z_in (i := 497) (by decide +kernel) (by decide +kernel)
theorem wm_X6_182 : (Jvm.Cond.methodLink "KiteStrings" (182 : Nat) ({ cls := "KiteStrings$Weave", name := "placeOn", desc := "(II)I" } : Jvm.MethodName)) ∈ zT := z_in (i := 498) (by decide +kernel) (by decide +kernel)
theorem wv_X5_placeOn : (Jvm.Cond.instanceMethod ({ cls := "KiteStrings$Weave", name := "placeOn", desc := "(II)I" } : Jvm.MethodName)) ∈ zT := z_in (i := 499) (by decide +kernel) (by decide +kernel)
theorem we_X5_placeOn : (Jvm.Cond.selects "KiteStrings$Weave" ({ cls := "KiteStrings$Weave", name := "placeOn", desc := "(II)I" } : Jvm.MethodName) ({ cls := "KiteStrings$Weave", name := "placeOn", desc := "(II)I" } : Jvm.MethodName)) ∈ zT := z_in (i := 500) (by decide +kernel) (by decide +kernel)
theorem wk_X5_placeOn : (Jvm.Cond.code ({ cls := "KiteStrings$Weave", name := "placeOn", desc := "(II)I" } : Jvm.MethodName) prog_7_method_8_code (4 : Nat) (Option.some Jvm.ClassFile.FieldType.int)) ∈ zT := z_in (i := 501) (by decide +kernel) (by decide +kernel)
theorem wm_X6_185 : (Jvm.Cond.methodLink "KiteStrings" (185 : Nat) ({ cls := "KiteStrings$Weave", name := "isSteep", desc := "(II)Z" } : Jvm.MethodName)) ∈ zT := z_in (i := 502) (by decide +kernel) (by decide +kernel)
theorem wv_X5_isSteep : (Jvm.Cond.instanceMethod ({ cls := "KiteStrings$Weave", name := "isSteep", desc := "(II)Z" } : Jvm.MethodName)) ∈ zT := z_in (i := 503) (by decide +kernel) (by decide +kernel)
theorem we_X5_isSteep : (Jvm.Cond.selects "KiteStrings$Weave" ({ cls := "KiteStrings$Weave", name := "isSteep", desc := "(II)Z" } : Jvm.MethodName) ({ cls := "KiteStrings$Weave", name := "isSteep", desc := "(II)Z" } : Jvm.MethodName)) ∈ zT := z_in (i := 504) (by decide +kernel) (by decide +kernel)
theorem wk_X5_isSteep : (Jvm.Cond.code ({ cls := "KiteStrings$Weave", name := "isSteep", desc := "(II)Z" } : Jvm.MethodName) prog_7_method_9_code (4 : Nat) (Option.some Jvm.ClassFile.FieldType.boolean)) ∈ zT := z_in (i := 505) (by decide +kernel) (by decide +kernel)
theorem wm_X6_188 : (Jvm.Cond.methodLink "KiteStrings" (188 : Nat) ({ cls := "KiteStrings$Sky", name := "sliding", desc := "(II)I" } : Jvm.MethodName)) ∈ zT := z_in (i := 506) (by decide +kernel) (by decide +kernel)
theorem wm_X6_191 : (Jvm.Cond.methodLink "KiteStrings" (191 : Nat) ({ cls := "KiteStrings$Sky", name := "rubbing", desc := "(IIZ)I" } : Jvm.MethodName)) ∈ zT := z_in (i := 507) (by decide +kernel) (by decide +kernel)
theorem wm_L_58 : (Jvm.Cond.methodLink "KiteStringsLaw" (58 : Nat) ({ cls := "KiteStrings", name := "count", desc := "(I)I" } : Jvm.MethodName)) ∈ zT := z_in (i := 508) (by decide +kernel) (by decide +kernel)
theorem wv_X6_count : (Jvm.Cond.instanceMethod ({ cls := "KiteStrings", name := "count", desc := "(I)I" } : Jvm.MethodName)) ∈ zT := z_in (i := 509) (by decide +kernel) (by decide +kernel)
theorem we_X6_count : (Jvm.Cond.selects "KiteStrings" ({ cls := "KiteStrings", name := "count", desc := "(I)I" } : Jvm.MethodName) ({ cls := "KiteStrings", name := "count", desc := "(I)I" } : Jvm.MethodName)) ∈ zT := z_in (i := 510) (by decide +kernel) (by decide +kernel)
theorem wk_X6_count : (Jvm.Cond.code ({ cls := "KiteStrings", name := "count", desc := "(I)I" } : Jvm.MethodName) prog_1_method_17_code (2 : Nat) (Option.some Jvm.ClassFile.FieldType.int)) ∈ zT := z_in (i := 511) (by decide +kernel) (by decide +kernel)
theorem wm_X6_195 : (Jvm.Cond.methodLink "KiteStrings" (195 : Nat) ({ cls := "KiteStrings$Sky", name := "flyingKites", desc := "()I" } : Jvm.MethodName)) ∈ zT := z_in (i := 512) (by decide +kernel) (by decide +kernel)
theorem wv_X2_flyingKites : (Jvm.Cond.instanceMethod ({ cls := "KiteStrings$Sky", name := "flyingKites", desc := "()I" } : Jvm.MethodName)) ∈ zT := z_in (i := 513) (by decide +kernel) (by decide +kernel)
theorem we_X2_flyingKites : (Jvm.Cond.selects "KiteStrings$Sky" ({ cls := "KiteStrings$Sky", name := "flyingKites", desc := "()I" } : Jvm.MethodName) ({ cls := "KiteStrings$Sky", name := "flyingKites", desc := "()I" } : Jvm.MethodName)) ∈ zT := z_in (i := 514) (by decide +kernel) (by decide +kernel)
theorem wk_X2_flyingKites : (Jvm.Cond.code ({ cls := "KiteStrings$Sky", name := "flyingKites", desc := "()I" } : Jvm.MethodName) prog_4_method_17_code (3 : Nat) (Option.some Jvm.ClassFile.FieldType.int)) ∈ zT := z_in (i := 515) (by decide +kernel) (by decide +kernel)
theorem wm_X2_102 : (Jvm.Cond.methodLink "KiteStrings$Sky" (102 : Nat) ({ cls := "KiteStrings$Sky", name := "isFlying", desc := "(I)Z" } : Jvm.MethodName)) ∈ zT := z_in (i := 516) (by decide +kernel) (by decide +kernel)
theorem wm_X6_198 : (Jvm.Cond.methodLink "KiteStrings" (198 : Nat) ({ cls := "KiteStrings$Weave", name := "crossings", desc := "()I" } : Jvm.MethodName)) ∈ zT := z_in (i := 517) (by decide +kernel) (by decide +kernel)
theorem wv_X5_crossings : (Jvm.Cond.instanceMethod ({ cls := "KiteStrings$Weave", name := "crossings", desc := "()I" } : Jvm.MethodName)) ∈ zT := z_in (i := 518) (by decide +kernel) (by decide +kernel)
theorem we_X5_crossings : (Jvm.Cond.selects "KiteStrings$Weave" ({ cls := "KiteStrings$Weave", name := "crossings", desc := "()I" } : Jvm.MethodName) ({ cls := "KiteStrings$Weave", name := "crossings", desc := "()I" } : Jvm.MethodName)) ∈ zT := z_in (i := 519) (by decide +kernel) (by decide +kernel)
theorem wk_X5_crossings : (Jvm.Cond.code ({ cls := "KiteStrings$Weave", name := "crossings", desc := "()I" } : Jvm.MethodName) prog_7_method_5_code (1 : Nat) (Option.some Jvm.ClassFile.FieldType.int)) ∈ zT := z_in (i := 520) (by decide +kernel) (by decide +kernel)
theorem wm_X6_204 : (Jvm.Cond.methodLink "KiteStrings" (204 : Nat) ({ cls := "KiteStrings$Sky", name := "leader", desc := "()I" } : Jvm.MethodName)) ∈ zT := z_in (i := 521) (by decide +kernel) (by decide +kernel)
theorem wv_X2_leader : (Jvm.Cond.instanceMethod ({ cls := "KiteStrings$Sky", name := "leader", desc := "()I" } : Jvm.MethodName)) ∈ zT := z_in (i := 522) (by decide +kernel) (by decide +kernel)
theorem we_X2_leader : (Jvm.Cond.selects "KiteStrings$Sky" ({ cls := "KiteStrings$Sky", name := "leader", desc := "()I" } : Jvm.MethodName) ({ cls := "KiteStrings$Sky", name := "leader", desc := "()I" } : Jvm.MethodName)) ∈ zT := z_in (i := 523) (by decide +kernel) (by decide +kernel)
theorem wk_X2_leader : (Jvm.Cond.code ({ cls := "KiteStrings$Sky", name := "leader", desc := "()I" } : Jvm.MethodName) prog_4_method_18_code (3 : Nat) (Option.some Jvm.ClassFile.FieldType.int)) ∈ zT := z_in (i := 524) (by decide +kernel) (by decide +kernel)
theorem wm_X6_207 : (Jvm.Cond.methodLink "KiteStrings" (207 : Nat) ({ cls := "KiteStrings$Sky", name := "allPoints", desc := "()I" } : Jvm.MethodName)) ∈ zT := z_in (i := 525) (by decide +kernel) (by decide +kernel)
theorem wv_X2_allPoints : (Jvm.Cond.instanceMethod ({ cls := "KiteStrings$Sky", name := "allPoints", desc := "()I" } : Jvm.MethodName)) ∈ zT := z_in (i := 526) (by decide +kernel) (by decide +kernel)
theorem we_X2_allPoints : (Jvm.Cond.selects "KiteStrings$Sky" ({ cls := "KiteStrings$Sky", name := "allPoints", desc := "()I" } : Jvm.MethodName) ({ cls := "KiteStrings$Sky", name := "allPoints", desc := "()I" } : Jvm.MethodName)) ∈ zT := z_in (i := 527) (by decide +kernel) (by decide +kernel)
theorem wk_X2_allPoints : (Jvm.Cond.code ({ cls := "KiteStrings$Sky", name := "allPoints", desc := "()I" } : Jvm.MethodName) prog_4_method_19_code (3 : Nat) (Option.some Jvm.ClassFile.FieldType.int)) ∈ zT := z_in (i := 528) (by decide +kernel) (by decide +kernel)
theorem wm_L_62 : (Jvm.Cond.methodLink "KiteStringsLaw" (62 : Nat) ({ cls := "KiteStrings", name := "ifPassed", desc := "(II)I" } : Jvm.MethodName)) ∈ zT := z_in (i := 529) (by decide +kernel) (by decide +kernel)
theorem wv_X6_ifPassed : (Jvm.Cond.instanceMethod ({ cls := "KiteStrings", name := "ifPassed", desc := "(II)I" } : Jvm.MethodName)) ∈ zT := z_in (i := 530) (by decide +kernel) (by decide +kernel)
theorem we_X6_ifPassed : (Jvm.Cond.selects "KiteStrings" ({ cls := "KiteStrings", name := "ifPassed", desc := "(II)I" } : Jvm.MethodName) ({ cls := "KiteStrings", name := "ifPassed", desc := "(II)I" } : Jvm.MethodName)) ∈ zT := z_in (i := 531) (by decide +kernel) (by decide +kernel)
theorem wk_X6_ifPassed : (Jvm.Cond.code ({ cls := "KiteStrings", name := "ifPassed", desc := "(II)I" } : Jvm.MethodName) prog_1_method_18_code (5 : Nat) (Option.some Jvm.ClassFile.FieldType.int)) ∈ zT := z_in (i := 532) (by decide +kernel) (by decide +kernel)
theorem wm_X6_216 : (Jvm.Cond.methodLink "KiteStrings" (216 : Nat) ({ cls := "KiteStrings$Sky", name := "copyFrom", desc := "(LKiteStrings$Sky;)V" } : Jvm.MethodName)) ∈ zT := z_in (i := 533) (by decide +kernel) (by decide +kernel)
theorem wm_L_66 : (Jvm.Cond.methodLink "KiteStringsLaw" (66 : Nat) ({ cls := "KiteStrings", name := "firstCut", desc := "(I)I" } : Jvm.MethodName)) ∈ zT := z_in (i := 534) (by decide +kernel) (by decide +kernel)
theorem wv_X6_firstCut : (Jvm.Cond.instanceMethod ({ cls := "KiteStrings", name := "firstCut", desc := "(I)I" } : Jvm.MethodName)) ∈ zT := z_in (i := 535) (by decide +kernel) (by decide +kernel)
theorem we_X6_firstCut : (Jvm.Cond.selects "KiteStrings" ({ cls := "KiteStrings", name := "firstCut", desc := "(I)I" } : Jvm.MethodName) ({ cls := "KiteStrings", name := "firstCut", desc := "(I)I" } : Jvm.MethodName)) ∈ zT := z_in (i := 536) (by decide +kernel) (by decide +kernel)
theorem wk_X6_firstCut : (Jvm.Cond.code ({ cls := "KiteStrings", name := "firstCut", desc := "(I)I" } : Jvm.MethodName) prog_1_method_19_code (3 : Nat) (Option.some Jvm.ClassFile.FieldType.int)) ∈ zT := z_in (i := 537) (by decide +kernel) (by decide +kernel)
theorem wm_X6_219 : (Jvm.Cond.methodLink "KiteStrings" (219 : Nat) ({ cls := "KiteStrings", name := "aboutCut", desc := "(II)I" } : Jvm.MethodName)) ∈ zT := z_in (i := 538) (by decide +kernel) (by decide +kernel)
theorem wv_X6_aboutCut : (Jvm.Cond.instanceMethod ({ cls := "KiteStrings", name := "aboutCut", desc := "(II)I" } : Jvm.MethodName)) ∈ zT := z_in (i := 540) (by decide +kernel) (by decide +kernel)
theorem wk_X6_aboutCut : (Jvm.Cond.code ({ cls := "KiteStrings", name := "aboutCut", desc := "(II)I" } : Jvm.MethodName) prog_1_method_20_code (3 : Nat) (Option.some Jvm.ClassFile.FieldType.int)) ∈ zT := z_in (i := 541) (by decide +kernel) (by decide +kernel)
theorem wm_X6_222 : (Jvm.Cond.methodLink "KiteStrings" (222 : Nat) ({ cls := "KiteStrings", name := "lowestOf", desc := "(I)I" } : Jvm.MethodName)) ∈ zT := z_in (i := 542) (by decide +kernel) (by decide +kernel)
theorem ws_X6_lowestOf : (Jvm.Cond.static ({ cls := "KiteStrings", name := "lowestOf", desc := "(I)I" } : Jvm.MethodName)) ∈ zT := z_in (i := 543) (by decide +kernel) (by decide +kernel)
theorem wk_X6_lowestOf : (Jvm.Cond.code ({ cls := "KiteStrings", name := "lowestOf", desc := "(I)I" } : Jvm.MethodName) prog_1_method_34_code (2 : Nat) (Option.some Jvm.ClassFile.FieldType.int)) ∈ zT := z_in (i := 544) (by decide +kernel) (by decide +kernel)
theorem wm_L_70 : (Jvm.Cond.methodLink "KiteStringsLaw" (70 : Nat) ({ cls := "KiteStrings", name := "meets", desc := "(II)I" } : Jvm.MethodName)) ∈ zT := z_in (i := 545) (by decide +kernel) (by decide +kernel)
theorem wv_X6_meets : (Jvm.Cond.instanceMethod ({ cls := "KiteStrings", name := "meets", desc := "(II)I" } : Jvm.MethodName)) ∈ zT := z_in (i := 546) (by decide +kernel) (by decide +kernel)
theorem we_X6_meets : (Jvm.Cond.selects "KiteStrings" ({ cls := "KiteStrings", name := "meets", desc := "(II)I" } : Jvm.MethodName) ({ cls := "KiteStrings", name := "meets", desc := "(II)I" } : Jvm.MethodName)) ∈ zT := z_in (i := 547) (by decide +kernel) (by decide +kernel)
theorem wk_X6_meets : (Jvm.Cond.code ({ cls := "KiteStrings", name := "meets", desc := "(II)I" } : Jvm.MethodName) prog_1_method_21_code (4 : Nat) (Option.some Jvm.ClassFile.FieldType.int)) ∈ zT := z_in (i := 548) (by decide +kernel) (by decide +kernel)
theorem wm_L_74 : (Jvm.Cond.methodLink "KiteStringsLaw" (74 : Nat) ({ cls := "KiteStrings", name := "bestOrder", desc := "(III)I" } : Jvm.MethodName)) ∈ zT := z_in (i := 549) (by decide +kernel) (by decide +kernel)
theorem wv_X6_bestOrder : (Jvm.Cond.instanceMethod ({ cls := "KiteStrings", name := "bestOrder", desc := "(III)I" } : Jvm.MethodName)) ∈ zT := z_in (i := 550) (by decide +kernel) (by decide +kernel)
theorem we_X6_bestOrder : (Jvm.Cond.selects "KiteStrings" ({ cls := "KiteStrings", name := "bestOrder", desc := "(III)I" } : Jvm.MethodName) ({ cls := "KiteStrings", name := "bestOrder", desc := "(III)I" } : Jvm.MethodName)) ∈ zT := z_in (i := 551) (by decide +kernel) (by decide +kernel)
theorem wk_X6_bestOrder : (Jvm.Cond.code ({ cls := "KiteStrings", name := "bestOrder", desc := "(III)I" } : Jvm.MethodName) prog_1_method_22_code (10 : Nat) (Option.some Jvm.ClassFile.FieldType.int)) ∈ zT := z_in (i := 552) (by decide +kernel) (by decide +kernel)
theorem wm_X6_229 : (Jvm.Cond.methodLink "KiteStrings" (229 : Nat) ({ cls := "KiteStrings", name := "gainWith", desc := "(IIII)I" } : Jvm.MethodName)) ∈ zT := z_in (i := 553) (by decide +kernel) (by decide +kernel)
theorem wv_X6_gainWith : (Jvm.Cond.instanceMethod ({ cls := "KiteStrings", name := "gainWith", desc := "(IIII)I" } : Jvm.MethodName)) ∈ zT := z_in (i := 555) (by decide +kernel) (by decide +kernel)
theorem wk_X6_gainWith : (Jvm.Cond.code ({ cls := "KiteStrings", name := "gainWith", desc := "(IIII)I" } : Jvm.MethodName) prog_1_method_23_code (6 : Nat) (Option.some Jvm.ClassFile.FieldType.int)) ∈ zT := z_in (i := 556) (by decide +kernel) (by decide +kernel)
theorem wm_L_80 : (Jvm.Cond.methodLink "KiteStringsLaw" (80 : Nat) ({ cls := "KiteStrings", name := "put", desc := "(J)I" } : Jvm.MethodName)) ∈ zT := z_in (i := 557) (by decide +kernel) (by decide +kernel)
theorem wv_X6_put : (Jvm.Cond.instanceMethod ({ cls := "KiteStrings", name := "put", desc := "(J)I" } : Jvm.MethodName)) ∈ zT := z_in (i := 558) (by decide +kernel) (by decide +kernel)
theorem we_X6_put : (Jvm.Cond.selects "KiteStrings" ({ cls := "KiteStrings", name := "put", desc := "(J)I" } : Jvm.MethodName) ({ cls := "KiteStrings", name := "put", desc := "(J)I" } : Jvm.MethodName)) ∈ zT := z_in (i := 559) (by decide +kernel) (by decide +kernel)
theorem wk_X6_put : (Jvm.Cond.code ({ cls := "KiteStrings", name := "put", desc := "(J)I" } : Jvm.MethodName) prog_1_method_24_code (5 : Nat) (Option.some Jvm.ClassFile.FieldType.int)) ∈ zT := z_in (i := 560) (by decide +kernel) (by decide +kernel)
theorem wm_X6_233 : (Jvm.Cond.methodLink "KiteStrings" (233 : Nat) ({ cls := "KiteStrings", name := "signsIn", desc := "(J)I" } : Jvm.MethodName)) ∈ zT := z_in (i := 561) (by decide +kernel) (by decide +kernel)
theorem ws_X6_signsIn : (Jvm.Cond.static ({ cls := "KiteStrings", name := "signsIn", desc := "(J)I" } : Jvm.MethodName)) ∈ zT := z_in (i := 562) (by decide +kernel) (by decide +kernel)
theorem wk_X6_signsIn : (Jvm.Cond.code ({ cls := "KiteStrings", name := "signsIn", desc := "(J)I" } : Jvm.MethodName) prog_1_method_25_code (4 : Nat) (Option.some Jvm.ClassFile.FieldType.int)) ∈ zT := z_in (i := 563) (by decide +kernel) (by decide +kernel)
theorem wm_X6_237 : (Jvm.Cond.methodLink "KiteStrings" (237 : Nat) ({ cls := "KiteStrings", name := "signAt", desc := "(JI)I" } : Jvm.MethodName)) ∈ zT := z_in (i := 564) (by decide +kernel) (by decide +kernel)
theorem ws_X6_signAt : (Jvm.Cond.static ({ cls := "KiteStrings", name := "signAt", desc := "(JI)I" } : Jvm.MethodName)) ∈ zT := z_in (i := 565) (by decide +kernel) (by decide +kernel)
theorem wk_X6_signAt : (Jvm.Cond.code ({ cls := "KiteStrings", name := "signAt", desc := "(JI)I" } : Jvm.MethodName) prog_1_method_26_code (3 : Nat) (Option.some Jvm.ClassFile.FieldType.int)) ∈ zT := z_in (i := 566) (by decide +kernel) (by decide +kernel)
theorem wl_X6_245 : (Jvm.Cond.constantLong "KiteStrings" (245 : Nat) (255 : Int64)) ∈ zT := z_in (i := 567) (by decide +kernel) (by decide +kernel)
theorem wm_X6_241 : (Jvm.Cond.methodLink "KiteStrings" (241 : Nat) ({ cls := "KiteStrings$Pad", name := "append", desc := "(I)V" } : Jvm.MethodName)) ∈ zT := z_in (i := 568) (by decide +kernel) (by decide +kernel)
theorem wv_X1_append : (Jvm.Cond.instanceMethod ({ cls := "KiteStrings$Pad", name := "append", desc := "(I)V" } : Jvm.MethodName)) ∈ zT := z_in (i := 569) (by decide +kernel) (by decide +kernel)
theorem we_X1_append : (Jvm.Cond.selects "KiteStrings$Pad" ({ cls := "KiteStrings$Pad", name := "append", desc := "(I)V" } : Jvm.MethodName) ({ cls := "KiteStrings$Pad", name := "append", desc := "(I)V" } : Jvm.MethodName)) ∈ zT := z_in (i := 570) (by decide +kernel) (by decide +kernel)
theorem wk_X1_append : (Jvm.Cond.code ({ cls := "KiteStrings$Pad", name := "append", desc := "(I)V" } : Jvm.MethodName) prog_3_method_2_code (2 : Nat) (Option.none : Option Jvm.ClassFile.FieldType)) ∈ zT := z_in (i := 571) (by decide +kernel) (by decide +kernel)
theorem wm_L_85 : (Jvm.Cond.methodLink "KiteStringsLaw" (85 : Nat) ({ cls := "KiteStrings", name := "wipe", desc := "()I" } : Jvm.MethodName)) ∈ zT := z_in (i := 572) (by decide +kernel) (by decide +kernel)
theorem wv_X6_wipe : (Jvm.Cond.instanceMethod ({ cls := "KiteStrings", name := "wipe", desc := "()I" } : Jvm.MethodName)) ∈ zT := z_in (i := 573) (by decide +kernel) (by decide +kernel)
theorem we_X6_wipe : (Jvm.Cond.selects "KiteStrings" ({ cls := "KiteStrings", name := "wipe", desc := "()I" } : Jvm.MethodName) ({ cls := "KiteStrings", name := "wipe", desc := "()I" } : Jvm.MethodName)) ∈ zT := z_in (i := 574) (by decide +kernel) (by decide +kernel)
theorem wk_X6_wipe : (Jvm.Cond.code ({ cls := "KiteStrings", name := "wipe", desc := "()I" } : Jvm.MethodName) prog_1_method_27_code (2 : Nat) (Option.some Jvm.ClassFile.FieldType.int)) ∈ zT := z_in (i := 575) (by decide +kernel) (by decide +kernel)
theorem wm_L_89 : (Jvm.Cond.methodLink "KiteStringsLaw" (89 : Nat) ({ cls := "KiteStrings", name := "fault", desc := "()I" } : Jvm.MethodName)) ∈ zT := z_in (i := 576) (by decide +kernel) (by decide +kernel)
theorem wv_X6_fault : (Jvm.Cond.instanceMethod ({ cls := "KiteStrings", name := "fault", desc := "()I" } : Jvm.MethodName)) ∈ zT := z_in (i := 577) (by decide +kernel) (by decide +kernel)
theorem we_X6_fault : (Jvm.Cond.selects "KiteStrings" ({ cls := "KiteStrings", name := "fault", desc := "()I" } : Jvm.MethodName) ({ cls := "KiteStrings", name := "fault", desc := "()I" } : Jvm.MethodName)) ∈ zT := z_in (i := 578) (by decide +kernel) (by decide +kernel)
theorem wk_X6_fault : (Jvm.Cond.code ({ cls := "KiteStrings", name := "fault", desc := "()I" } : Jvm.MethodName) prog_1_method_28_code (1 : Nat) (Option.some Jvm.ClassFile.FieldType.int)) ∈ zT := z_in (i := 579) (by decide +kernel) (by decide +kernel)
theorem wm_L_93 : (Jvm.Cond.methodLink "KiteStringsLaw" (93 : Nat) ({ cls := "KiteStrings", name := "undo", desc := "()I" } : Jvm.MethodName)) ∈ zT := z_in (i := 580) (by decide +kernel) (by decide +kernel)
theorem wv_X6_undo : (Jvm.Cond.instanceMethod ({ cls := "KiteStrings", name := "undo", desc := "()I" } : Jvm.MethodName)) ∈ zT := z_in (i := 581) (by decide +kernel) (by decide +kernel)
theorem we_X6_undo : (Jvm.Cond.selects "KiteStrings" ({ cls := "KiteStrings", name := "undo", desc := "()I" } : Jvm.MethodName) ({ cls := "KiteStrings", name := "undo", desc := "()I" } : Jvm.MethodName)) ∈ zT := z_in (i := 582) (by decide +kernel) (by decide +kernel)
theorem wk_X6_undo : (Jvm.Cond.code ({ cls := "KiteStrings", name := "undo", desc := "()I" } : Jvm.MethodName) prog_1_method_29_code (1 : Nat) (Option.some Jvm.ClassFile.FieldType.int)) ∈ zT := z_in (i := 583) (by decide +kernel) (by decide +kernel)
theorem wm_X6_247 : (Jvm.Cond.methodLink "KiteStrings" (247 : Nat) ({ cls := "KiteStrings$History", name := "takeBack", desc := "(LKiteStrings$Sky;)V" } : Jvm.MethodName)) ∈ zT := z_in (i := 584) (by decide +kernel) (by decide +kernel)
theorem wv_X0_takeBack : (Jvm.Cond.instanceMethod ({ cls := "KiteStrings$History", name := "takeBack", desc := "(LKiteStrings$Sky;)V" } : Jvm.MethodName)) ∈ zT := z_in (i := 585) (by decide +kernel) (by decide +kernel)
theorem we_X0_takeBack : (Jvm.Cond.selects "KiteStrings$History" ({ cls := "KiteStrings$History", name := "takeBack", desc := "(LKiteStrings$Sky;)V" } : Jvm.MethodName) ({ cls := "KiteStrings$History", name := "takeBack", desc := "(LKiteStrings$Sky;)V" } : Jvm.MethodName)) ∈ zT := z_in (i := 586) (by decide +kernel) (by decide +kernel)
theorem wk_X0_takeBack : (Jvm.Cond.code ({ cls := "KiteStrings$History", name := "takeBack", desc := "(LKiteStrings$Sky;)V" } : Jvm.MethodName) prog_2_method_3_code (4 : Nat) (Option.none : Option Jvm.ClassFile.FieldType)) ∈ zT := z_in (i := 587) (by decide +kernel) (by decide +kernel)
theorem wm_L_97 : (Jvm.Cond.methodLink "KiteStringsLaw" (97 : Nat) ({ cls := "KiteStrings", name := "save", desc := "(I)I" } : Jvm.MethodName)) ∈ zT := z_in (i := 588) (by decide +kernel) (by decide +kernel)
theorem wv_X6_save : (Jvm.Cond.instanceMethod ({ cls := "KiteStrings", name := "save", desc := "(I)I" } : Jvm.MethodName)) ∈ zT := z_in (i := 589) (by decide +kernel) (by decide +kernel)
theorem we_X6_save : (Jvm.Cond.selects "KiteStrings" ({ cls := "KiteStrings", name := "save", desc := "(I)I" } : Jvm.MethodName) ({ cls := "KiteStrings", name := "save", desc := "(I)I" } : Jvm.MethodName)) ∈ zT := z_in (i := 590) (by decide +kernel) (by decide +kernel)
theorem wk_X6_save : (Jvm.Cond.code ({ cls := "KiteStrings", name := "save", desc := "(I)I" } : Jvm.MethodName) prog_1_method_30_code (3 : Nat) (Option.some Jvm.ClassFile.FieldType.int)) ∈ zT := z_in (i := 591) (by decide +kernel) (by decide +kernel)
theorem wm_X6_250 : (Jvm.Cond.methodLink "KiteStrings" (250 : Nat) ({ cls := "KiteStrings", name := "slotOf", desc := "(I)LKiteStrings$Slot;" } : Jvm.MethodName)) ∈ zT := z_in (i := 592) (by decide +kernel) (by decide +kernel)
theorem wv_X6_slotOf : (Jvm.Cond.instanceMethod ({ cls := "KiteStrings", name := "slotOf", desc := "(I)LKiteStrings$Slot;" } : Jvm.MethodName)) ∈ zT := z_in (i := 594) (by decide +kernel) (by decide +kernel)
theorem wk_X6_slotOf : (Jvm.Cond.code ({ cls := "KiteStrings", name := "slotOf", desc := "(I)LKiteStrings$Slot;" } : Jvm.MethodName) prog_1_method_32_code (2 : Nat) (Option.some (Jvm.ClassFile.FieldType.object "KiteStrings$Slot"))) ∈ zT := z_in (i := 595) (by decide +kernel) (by decide +kernel)
theorem wm_L_101 : (Jvm.Cond.methodLink "KiteStringsLaw" (101 : Nat) ({ cls := "KiteStrings", name := "restore", desc := "(I)I" } : Jvm.MethodName)) ∈ zT := z_in (i := 596) (by decide +kernel) (by decide +kernel)
theorem wv_X6_restore : (Jvm.Cond.instanceMethod ({ cls := "KiteStrings", name := "restore", desc := "(I)I" } : Jvm.MethodName)) ∈ zT := z_in (i := 597) (by decide +kernel) (by decide +kernel)
theorem we_X6_restore : (Jvm.Cond.selects "KiteStrings" ({ cls := "KiteStrings", name := "restore", desc := "(I)I" } : Jvm.MethodName) ({ cls := "KiteStrings", name := "restore", desc := "(I)I" } : Jvm.MethodName)) ∈ zT := z_in (i := 598) (by decide +kernel) (by decide +kernel)
theorem wk_X6_restore : (Jvm.Cond.code ({ cls := "KiteStrings", name := "restore", desc := "(I)I" } : Jvm.MethodName) prog_1_method_31_code (3 : Nat) (Option.some Jvm.ClassFile.FieldType.int)) ∈ zT := z_in (i := 599) (by decide +kernel) (by decide +kernel)
theorem wc_L_10 : (Jvm.Cond.classLink "KiteStringsLaw" (10 : Nat) "KiteStringsModel") ∈ zT := z_in (i := 600) (by decide +kernel) (by decide +kernel)
theorem wn_X7 : (Jvm.Cond.instantiable "KiteStringsModel" (18 : Nat)) ∈ zT := z_in (i := 601) (by decide +kernel) (by decide +kernel)
theorem wm_L_12 : (Jvm.Cond.methodLink "KiteStringsLaw" (12 : Nat) ({ cls := "KiteStringsModel", name := "<init>", desc := "()V" } : Jvm.MethodName)) ∈ zT := z_in (i := 602) (by decide +kernel) (by decide +kernel)
theorem wv_X7_init : (Jvm.Cond.instanceMethod ({ cls := "KiteStringsModel", name := "<init>", desc := "()V" } : Jvm.MethodName)) ∈ zT := z_in (i := 603) (by decide +kernel) (by decide +kernel)
theorem wk_X7_init : (Jvm.Cond.code ({ cls := "KiteStringsModel", name := "<init>", desc := "()V" } : Jvm.MethodName) prog_9_method_1_code (1 : Nat) (Option.none : Option Jvm.ClassFile.FieldType)) ∈ zT := z_in (i := 604) (by decide +kernel) (by decide +kernel)
theorem wm_X7_1 : (Jvm.Cond.methodLink "KiteStringsModel" (1 : Nat) ({ cls := "java/lang/Object", name := "<init>", desc := "()V" } : Jvm.MethodName)) ∈ zT := z_in (i := 605) (by decide +kernel) (by decide +kernel)
theorem wf_X7_7 : (Jvm.Cond.fieldLink "KiteStringsModel" (7 : Nat) "KiteStringsModel" "state" "[I") ∈ zT := z_in (i := 606) (by decide +kernel) (by decide +kernel)
theorem wf_X7_13 : (Jvm.Cond.fieldLink "KiteStringsModel" (13 : Nat) "KiteStringsModel" "kept" "[I") ∈ zT := z_in (i := 607) (by decide +kernel) (by decide +kernel)
theorem wf_X7_16 : (Jvm.Cond.fieldLink "KiteStringsModel" (16 : Nat) "KiteStringsModel" "history" "[I") ∈ zT := z_in (i := 608) (by decide +kernel) (by decide +kernel)
theorem wf_X7_31 : (Jvm.Cond.fieldLink "KiteStringsModel" (31 : Nat) "KiteStringsModel" "recorded" "I") ∈ zT := z_in (i := 609) (by decide +kernel) (by decide +kernel)
theorem wf_X7_19 : (Jvm.Cond.fieldLink "KiteStringsModel" (19 : Nat) "KiteStringsModel" "slots" "[I") ∈ zT := z_in (i := 610) (by decide +kernel) (by decide +kernel)
theorem wf_X7_22 : (Jvm.Cond.fieldLink "KiteStringsModel" (22 : Nat) "KiteStringsModel" "isSaved" "[I") ∈ zT := z_in (i := 611) (by decide +kernel) (by decide +kernel)
theorem wf_X7_25 : (Jvm.Cond.fieldLink "KiteStringsModel" (25 : Nat) "KiteStringsModel" "pad" "[I") ∈ zT := z_in (i := 612) (by decide +kernel) (by decide +kernel)
theorem wf_X7_148 : (Jvm.Cond.fieldLink "KiteStringsModel" (148 : Nat) "KiteStringsModel" "padLength" "I") ∈ zT := z_in (i := 613) (by decide +kernel) (by decide +kernel)
theorem wf_X7_28 : (Jvm.Cond.fieldLink "KiteStringsModel" (28 : Nat) "KiteStringsModel" "places" "[I") ∈ zT := z_in (i := 614) (by decide +kernel) (by decide +kernel)
theorem wf_X7_66 : (Jvm.Cond.fieldLink "KiteStringsModel" (66 : Nat) "KiteStringsModel" "placeOne" "I") ∈ zT := z_in (i := 615) (by decide +kernel) (by decide +kernel)
theorem wf_X7_69 : (Jvm.Cond.fieldLink "KiteStringsModel" (69 : Nat) "KiteStringsModel" "placeTwo" "I") ∈ zT := z_in (i := 616) (by decide +kernel) (by decide +kernel)
theorem wf_X7_72 : (Jvm.Cond.fieldLink "KiteStringsModel" (72 : Nat) "KiteStringsModel" "isSteep" "Z") ∈ zT := z_in (i := 617) (by decide +kernel) (by decide +kernel)
theorem wf_X7_89 : (Jvm.Cond.fieldLink "KiteStringsModel" (89 : Nat) "KiteStringsModel" "cutNow" "I") ∈ zT := z_in (i := 618) (by decide +kernel) (by decide +kernel)
theorem wf_X7_92 : (Jvm.Cond.fieldLink "KiteStringsModel" (92 : Nat) "KiteStringsModel" "gotNow" "I") ∈ zT := z_in (i := 619) (by decide +kernel) (by decide +kernel)
theorem wf_X7_160 : (Jvm.Cond.fieldLink "KiteStringsModel" (160 : Nat) "KiteStringsModel" "at" "I") ∈ zT := z_in (i := 620) (by decide +kernel) (by decide +kernel)
theorem wf_X7_172 : (Jvm.Cond.fieldLink "KiteStringsModel" (172 : Nat) "KiteStringsModel" "first" "I") ∈ zT := z_in (i := 621) (by decide +kernel) (by decide +kernel)
theorem wf_X7_178 : (Jvm.Cond.fieldLink "KiteStringsModel" (178 : Nat) "KiteStringsModel" "second" "I") ∈ zT := z_in (i := 622) (by decide +kernel) (by decide +kernel)
theorem wf_X7_181 : (Jvm.Cond.fieldLink "KiteStringsModel" (181 : Nat) "KiteStringsModel" "third" "I") ∈ zT := z_in (i := 623) (by decide +kernel) (by decide +kernel)
theorem wm_L_17 : (Jvm.Cond.methodLink "KiteStringsLaw" (17 : Nat) ({ cls := "KiteStringsModel", name := "launch", desc := "(IIIII)I" } : Jvm.MethodName)) ∈ zT := z_in (i := 661) (by decide +kernel) (by decide +kernel)
theorem wv_X7_launch : (Jvm.Cond.instanceMethod ({ cls := "KiteStringsModel", name := "launch", desc := "(IIIII)I" } : Jvm.MethodName)) ∈ zT := z_in (i := 662) (by decide +kernel) (by decide +kernel)
theorem we_X7_launch : (Jvm.Cond.selects "KiteStringsModel" ({ cls := "KiteStringsModel", name := "launch", desc := "(IIIII)I" } : Jvm.MethodName) ({ cls := "KiteStringsModel", name := "launch", desc := "(IIIII)I" } : Jvm.MethodName)) ∈ zT := z_in (i := 663) (by decide +kernel) (by decide +kernel)
theorem wk_X7_launch : (Jvm.Cond.code ({ cls := "KiteStringsModel", name := "launch", desc := "(IIIII)I" } : Jvm.MethodName) prog_9_method_26_code (8 : Nat) (Option.some Jvm.ClassFile.FieldType.int)) ∈ zT := z_in (i := 664) (by decide +kernel) (by decide +kernel)
theorem wm_X7_39 : (Jvm.Cond.methodLink "KiteStringsModel" (39 : Nat) ({ cls := "KiteStringsModel", name := "within", desc := "(III)Z" } : Jvm.MethodName)) ∈ zT := z_in (i := 665) (by decide +kernel) (by decide +kernel)
theorem ws_X7_within : (Jvm.Cond.static ({ cls := "KiteStringsModel", name := "within", desc := "(III)Z" } : Jvm.MethodName)) ∈ zT := z_in (i := 666) (by decide +kernel) (by decide +kernel)
theorem wk_X7_within : (Jvm.Cond.code ({ cls := "KiteStringsModel", name := "within", desc := "(III)Z" } : Jvm.MethodName) prog_9_method_4_code (3 : Nat) (Option.some Jvm.ClassFile.FieldType.boolean)) ∈ zT := z_in (i := 667) (by decide +kernel) (by decide +kernel)
theorem wm_X7_111 : (Jvm.Cond.methodLink "KiteStringsModel" (111 : Nat) ({ cls := "KiteStringsModel", name := "record", desc := "()V" } : Jvm.MethodName)) ∈ zT := z_in (i := 668) (by decide +kernel) (by decide +kernel)
theorem wv_X7_record : (Jvm.Cond.instanceMethod ({ cls := "KiteStringsModel", name := "record", desc := "()V" } : Jvm.MethodName)) ∈ zT := z_in (i := 670) (by decide +kernel) (by decide +kernel)
theorem wk_X7_record : (Jvm.Cond.code ({ cls := "KiteStringsModel", name := "record", desc := "()V" } : Jvm.MethodName) prog_9_method_6_code (2 : Nat) (Option.none : Option Jvm.ClassFile.FieldType)) ∈ zT := z_in (i := 671) (by decide +kernel) (by decide +kernel)
theorem wm_X7_35 : (Jvm.Cond.methodLink "KiteStringsModel" (35 : Nat) ({ cls := "KiteStringsModel", name := "moves", desc := "([II[II)V" } : Jvm.MethodName)) ∈ zT := z_in (i := 672) (by decide +kernel) (by decide +kernel)
theorem ws_X7_moves : (Jvm.Cond.static ({ cls := "KiteStringsModel", name := "moves", desc := "([II[II)V" } : Jvm.MethodName)) ∈ zT := z_in (i := 673) (by decide +kernel) (by decide +kernel)
theorem wk_X7_moves : (Jvm.Cond.code ({ cls := "KiteStringsModel", name := "moves", desc := "([II[II)V" } : Jvm.MethodName) prog_9_method_3_code (5 : Nat) (Option.none : Option Jvm.ClassFile.FieldType)) ∈ zT := z_in (i := 674) (by decide +kernel) (by decide +kernel)
theorem wm_X7_82 : (Jvm.Cond.methodLink "KiteStringsModel" (82 : Nat) ({ cls := "KiteStringsModel", name := "setPart", desc := "(III)V" } : Jvm.MethodName)) ∈ zT := z_in (i := 675) (by decide +kernel) (by decide +kernel)
theorem wv_X7_setPart : (Jvm.Cond.instanceMethod ({ cls := "KiteStringsModel", name := "setPart", desc := "(III)V" } : Jvm.MethodName)) ∈ zT := z_in (i := 677) (by decide +kernel) (by decide +kernel)
theorem wk_X7_setPart : (Jvm.Cond.code ({ cls := "KiteStringsModel", name := "setPart", desc := "(III)V" } : Jvm.MethodName) prog_9_method_9_code (4 : Nat) (Option.none : Option Jvm.ClassFile.FieldType)) ∈ zT := z_in (i := 678) (by decide +kernel) (by decide +kernel)
theorem wm_L_22 : (Jvm.Cond.methodLink "KiteStringsLaw" (22 : Nat) ({ cls := "KiteStringsModel", name := "order", desc := "(III)I" } : Jvm.MethodName)) ∈ zT := z_in (i := 679) (by decide +kernel) (by decide +kernel)
theorem wv_X7_order : (Jvm.Cond.instanceMethod ({ cls := "KiteStringsModel", name := "order", desc := "(III)I" } : Jvm.MethodName)) ∈ zT := z_in (i := 680) (by decide +kernel) (by decide +kernel)
theorem we_X7_order : (Jvm.Cond.selects "KiteStringsModel" ({ cls := "KiteStringsModel", name := "order", desc := "(III)I" } : Jvm.MethodName) ({ cls := "KiteStringsModel", name := "order", desc := "(III)I" } : Jvm.MethodName)) ∈ zT := z_in (i := 681) (by decide +kernel) (by decide +kernel)
theorem wk_X7_order : (Jvm.Cond.code ({ cls := "KiteStringsModel", name := "order", desc := "(III)I" } : Jvm.MethodName) prog_9_method_30_code (5 : Nat) (Option.some Jvm.ClassFile.FieldType.int)) ∈ zT := z_in (i := 682) (by decide +kernel) (by decide +kernel)
theorem wm_X7_120 : (Jvm.Cond.methodLink "KiteStringsModel" (120 : Nat) ({ cls := "KiteStringsModel", name := "whyNotOrdered", desc := "(III)I" } : Jvm.MethodName)) ∈ zT := z_in (i := 683) (by decide +kernel) (by decide +kernel)
theorem wv_X7_whyNotOrdered : (Jvm.Cond.instanceMethod ({ cls := "KiteStringsModel", name := "whyNotOrdered", desc := "(III)I" } : Jvm.MethodName)) ∈ zT := z_in (i := 685) (by decide +kernel) (by decide +kernel)
theorem wk_X7_whyNotOrdered : (Jvm.Cond.code ({ cls := "KiteStringsModel", name := "whyNotOrdered", desc := "(III)I" } : Jvm.MethodName) prog_9_method_28_code (4 : Nat) (Option.some Jvm.ClassFile.FieldType.int)) ∈ zT := z_in (i := 686) (by decide +kernel) (by decide +kernel)
theorem wm_X7_114 : (Jvm.Cond.methodLink "KiteStringsModel" (114 : Nat) ({ cls := "KiteStringsModel", name := "isKite", desc := "(I)Z" } : Jvm.MethodName)) ∈ zT := z_in (i := 687) (by decide +kernel) (by decide +kernel)
theorem wv_X7_isKite : (Jvm.Cond.instanceMethod ({ cls := "KiteStringsModel", name := "isKite", desc := "(I)Z" } : Jvm.MethodName)) ∈ zT := z_in (i := 689) (by decide +kernel) (by decide +kernel)
theorem wk_X7_isKite : (Jvm.Cond.code ({ cls := "KiteStringsModel", name := "isKite", desc := "(I)Z" } : Jvm.MethodName) prog_9_method_7_code (2 : Nat) (Option.some Jvm.ClassFile.FieldType.boolean)) ∈ zT := z_in (i := 690) (by decide +kernel) (by decide +kernel)
theorem wm_X7_117 : (Jvm.Cond.methodLink "KiteStringsModel" (117 : Nat) ({ cls := "KiteStringsModel", name := "isStep", desc := "(I)Z" } : Jvm.MethodName)) ∈ zT := z_in (i := 691) (by decide +kernel) (by decide +kernel)
theorem ws_X7_isStep : (Jvm.Cond.static ({ cls := "KiteStringsModel", name := "isStep", desc := "(I)Z" } : Jvm.MethodName)) ∈ zT := z_in (i := 692) (by decide +kernel) (by decide +kernel)
theorem wk_X7_isStep : (Jvm.Cond.code ({ cls := "KiteStringsModel", name := "isStep", desc := "(I)Z" } : Jvm.MethodName) prog_9_method_27_code (1 : Nat) (Option.some Jvm.ClassFile.FieldType.boolean)) ∈ zT := z_in (i := 693) (by decide +kernel) (by decide +kernel)
theorem wm_X7_55 : (Jvm.Cond.methodLink "KiteStringsModel" (55 : Nat) ({ cls := "KiteStringsModel", name := "flies", desc := "(I)Z" } : Jvm.MethodName)) ∈ zT := z_in (i := 694) (by decide +kernel) (by decide +kernel)
theorem wv_X7_flies : (Jvm.Cond.instanceMethod ({ cls := "KiteStringsModel", name := "flies", desc := "(I)Z" } : Jvm.MethodName)) ∈ zT := z_in (i := 696) (by decide +kernel) (by decide +kernel)
theorem wk_X7_flies : (Jvm.Cond.code ({ cls := "KiteStringsModel", name := "flies", desc := "(I)Z" } : Jvm.MethodName) prog_9_method_10_code (2 : Nat) (Option.some Jvm.ClassFile.FieldType.boolean)) ∈ zT := z_in (i := 697) (by decide +kernel) (by decide +kernel)
theorem wm_X7_43 : (Jvm.Cond.methodLink "KiteStringsModel" (43 : Nat) ({ cls := "KiteStringsModel", name := "part", desc := "(II)I" } : Jvm.MethodName)) ∈ zT := z_in (i := 698) (by decide +kernel) (by decide +kernel)
theorem wv_X7_part : (Jvm.Cond.instanceMethod ({ cls := "KiteStringsModel", name := "part", desc := "(II)I" } : Jvm.MethodName)) ∈ zT := z_in (i := 700) (by decide +kernel) (by decide +kernel)
theorem wk_X7_part : (Jvm.Cond.code ({ cls := "KiteStringsModel", name := "part", desc := "(II)I" } : Jvm.MethodName) prog_9_method_8_code (3 : Nat) (Option.some Jvm.ClassFile.FieldType.int)) ∈ zT := z_in (i := 701) (by decide +kernel) (by decide +kernel)
theorem wm_X7_123 : (Jvm.Cond.methodLink "KiteStringsModel" (123 : Nat) ({ cls := "KiteStringsModel", name := "orders", desc := "(III)I" } : Jvm.MethodName)) ∈ zT := z_in (i := 702) (by decide +kernel) (by decide +kernel)
theorem wv_X7_orders : (Jvm.Cond.instanceMethod ({ cls := "KiteStringsModel", name := "orders", desc := "(III)I" } : Jvm.MethodName)) ∈ zT := z_in (i := 704) (by decide +kernel) (by decide +kernel)
theorem wk_X7_orders : (Jvm.Cond.code ({ cls := "KiteStringsModel", name := "orders", desc := "(III)I" } : Jvm.MethodName) prog_9_method_29_code (5 : Nat) (Option.some Jvm.ClassFile.FieldType.int)) ∈ zT := z_in (i := 705) (by decide +kernel) (by decide +kernel)
theorem wm_X7_63 : (Jvm.Cond.methodLink "KiteStringsModel" (63 : Nat) ({ cls := "KiteStringsModel", name := "size", desc := "(I)I" } : Jvm.MethodName)) ∈ zT := z_in (i := 706) (by decide +kernel) (by decide +kernel)
theorem ws_X7_size : (Jvm.Cond.static ({ cls := "KiteStringsModel", name := "size", desc := "(I)I" } : Jvm.MethodName)) ∈ zT := z_in (i := 707) (by decide +kernel) (by decide +kernel)
theorem wk_X7_size : (Jvm.Cond.code ({ cls := "KiteStringsModel", name := "size", desc := "(I)I" } : Jvm.MethodName) prog_9_method_5_code (1 : Nat) (Option.some Jvm.ClassFile.FieldType.int)) ∈ zT := z_in (i := 708) (by decide +kernel) (by decide +kernel)
theorem wm_L_27 : (Jvm.Cond.methodLink "KiteStringsLaw" (27 : Nat) ({ cls := "KiteStringsModel", name := "step", desc := "(II)I" } : Jvm.MethodName)) ∈ zT := z_in (i := 709) (by decide +kernel) (by decide +kernel)
theorem wv_X7_step : (Jvm.Cond.instanceMethod ({ cls := "KiteStringsModel", name := "step", desc := "(II)I" } : Jvm.MethodName)) ∈ zT := z_in (i := 710) (by decide +kernel) (by decide +kernel)
theorem we_X7_step : (Jvm.Cond.selects "KiteStringsModel" ({ cls := "KiteStringsModel", name := "step", desc := "(II)I" } : Jvm.MethodName) ({ cls := "KiteStringsModel", name := "step", desc := "(II)I" } : Jvm.MethodName)) ∈ zT := z_in (i := 711) (by decide +kernel) (by decide +kernel)
theorem wk_X7_step : (Jvm.Cond.code ({ cls := "KiteStringsModel", name := "step", desc := "(II)I" } : Jvm.MethodName) prog_9_method_31_code (4 : Nat) (Option.some Jvm.ClassFile.FieldType.int)) ∈ zT := z_in (i := 712) (by decide +kernel) (by decide +kernel)
theorem wm_L_32 : (Jvm.Cond.methodLink "KiteStringsLaw" (32 : Nat) ({ cls := "KiteStringsModel", name := "land", desc := "(I)I" } : Jvm.MethodName)) ∈ zT := z_in (i := 713) (by decide +kernel) (by decide +kernel)
theorem wv_X7_land : (Jvm.Cond.instanceMethod ({ cls := "KiteStringsModel", name := "land", desc := "(I)I" } : Jvm.MethodName)) ∈ zT := z_in (i := 714) (by decide +kernel) (by decide +kernel)
theorem we_X7_land : (Jvm.Cond.selects "KiteStringsModel" ({ cls := "KiteStringsModel", name := "land", desc := "(I)I" } : Jvm.MethodName) ({ cls := "KiteStringsModel", name := "land", desc := "(I)I" } : Jvm.MethodName)) ∈ zT := z_in (i := 715) (by decide +kernel) (by decide +kernel)
theorem wk_X7_land : (Jvm.Cond.code ({ cls := "KiteStringsModel", name := "land", desc := "(I)I" } : Jvm.MethodName) prog_9_method_32_code (2 : Nat) (Option.some Jvm.ClassFile.FieldType.int)) ∈ zT := z_in (i := 716) (by decide +kernel) (by decide +kernel)
theorem wm_X7_47 : (Jvm.Cond.methodLink "KiteStringsModel" (47 : Nat) ({ cls := "KiteStringsModel", name := "greatestWear", desc := "(I)I" } : Jvm.MethodName)) ∈ zT := z_in (i := 717) (by decide +kernel) (by decide +kernel)
theorem wv_X7_greatestWear : (Jvm.Cond.instanceMethod ({ cls := "KiteStringsModel", name := "greatestWear", desc := "(I)I" } : Jvm.MethodName)) ∈ zT := z_in (i := 719) (by decide +kernel) (by decide +kernel)
theorem wk_X7_greatestWear : (Jvm.Cond.code ({ cls := "KiteStringsModel", name := "greatestWear", desc := "(I)I" } : Jvm.MethodName) prog_9_method_11_code (4 : Nat) (Option.some Jvm.ClassFile.FieldType.int)) ∈ zT := z_in (i := 720) (by decide +kernel) (by decide +kernel)
theorem wm_L_36 : (Jvm.Cond.methodLink "KiteStringsLaw" (36 : Nat) ({ cls := "KiteStringsModel", name := "pass", desc := "(I)I" } : Jvm.MethodName)) ∈ zT := z_in (i := 721) (by decide +kernel) (by decide +kernel)
theorem wv_X7_pass : (Jvm.Cond.instanceMethod ({ cls := "KiteStringsModel", name := "pass", desc := "(I)I" } : Jvm.MethodName)) ∈ zT := z_in (i := 722) (by decide +kernel) (by decide +kernel)
theorem we_X7_pass : (Jvm.Cond.selects "KiteStringsModel" ({ cls := "KiteStringsModel", name := "pass", desc := "(I)I" } : Jvm.MethodName) ({ cls := "KiteStringsModel", name := "pass", desc := "(I)I" } : Jvm.MethodName)) ∈ zT := z_in (i := 723) (by decide +kernel) (by decide +kernel)
theorem wk_X7_pass : (Jvm.Cond.code ({ cls := "KiteStringsModel", name := "pass", desc := "(I)I" } : Jvm.MethodName) prog_9_method_33_code (2 : Nat) (Option.some Jvm.ClassFile.FieldType.int)) ∈ zT := z_in (i := 724) (by decide +kernel) (by decide +kernel)
theorem wm_X7_126 : (Jvm.Cond.methodLink "KiteStringsModel" (126 : Nat) ({ cls := "KiteStringsModel", name := "passes", desc := "(I)I" } : Jvm.MethodName)) ∈ zT := z_in (i := 725) (by decide +kernel) (by decide +kernel)
theorem wv_X7_passes : (Jvm.Cond.instanceMethod ({ cls := "KiteStringsModel", name := "passes", desc := "(I)I" } : Jvm.MethodName)) ∈ zT := z_in (i := 727) (by decide +kernel) (by decide +kernel)
theorem wk_X7_passes : (Jvm.Cond.code ({ cls := "KiteStringsModel", name := "passes", desc := "(I)I" } : Jvm.MethodName) prog_9_method_25_code (4 : Nat) (Option.some Jvm.ClassFile.FieldType.int)) ∈ zT := z_in (i := 728) (by decide +kernel) (by decide +kernel)
theorem wm_X7_108 : (Jvm.Cond.methodLink "KiteStringsModel" (108 : Nat) ({ cls := "KiteStringsModel", name := "tick", desc := "()V" } : Jvm.MethodName)) ∈ zT := z_in (i := 729) (by decide +kernel) (by decide +kernel)
theorem wv_X7_tick : (Jvm.Cond.instanceMethod ({ cls := "KiteStringsModel", name := "tick", desc := "()V" } : Jvm.MethodName)) ∈ zT := z_in (i := 731) (by decide +kernel) (by decide +kernel)
theorem wk_X7_tick : (Jvm.Cond.code ({ cls := "KiteStringsModel", name := "tick", desc := "()V" } : Jvm.MethodName) prog_9_method_24_code (2 : Nat) (Option.none : Option Jvm.ClassFile.FieldType)) ∈ zT := z_in (i := 732) (by decide +kernel) (by decide +kernel)
theorem wm_X7_98 : (Jvm.Cond.methodLink "KiteStringsModel" (98 : Nat) ({ cls := "KiteStringsModel", name := "flyOn", desc := "(I)V" } : Jvm.MethodName)) ∈ zT := z_in (i := 733) (by decide +kernel) (by decide +kernel)
theorem wv_X7_flyOn : (Jvm.Cond.instanceMethod ({ cls := "KiteStringsModel", name := "flyOn", desc := "(I)V" } : Jvm.MethodName)) ∈ zT := z_in (i := 735) (by decide +kernel) (by decide +kernel)
theorem wk_X7_flyOn : (Jvm.Cond.code ({ cls := "KiteStringsModel", name := "flyOn", desc := "(I)V" } : Jvm.MethodName) prog_9_method_20_code (4 : Nat) (Option.none : Option Jvm.ClassFile.FieldType)) ∈ zT := z_in (i := 736) (by decide +kernel) (by decide +kernel)
theorem wm_X7_102 : (Jvm.Cond.methodLink "KiteStringsModel" (102 : Nat) ({ cls := "KiteStringsModel", name := "wearOut", desc := "()V" } : Jvm.MethodName)) ∈ zT := z_in (i := 737) (by decide +kernel) (by decide +kernel)
theorem wv_X7_wearOut : (Jvm.Cond.instanceMethod ({ cls := "KiteStringsModel", name := "wearOut", desc := "()V" } : Jvm.MethodName)) ∈ zT := z_in (i := 739) (by decide +kernel) (by decide +kernel)
theorem wk_X7_wearOut : (Jvm.Cond.code ({ cls := "KiteStringsModel", name := "wearOut", desc := "()V" } : Jvm.MethodName) prog_9_method_21_code (3 : Nat) (Option.none : Option Jvm.ClassFile.FieldType)) ∈ zT := z_in (i := 740) (by decide +kernel) (by decide +kernel)
theorem wm_X7_79 : (Jvm.Cond.methodLink "KiteStringsModel" (79 : Nat) ({ cls := "KiteStringsModel", name := "cross", desc := "(II)Z" } : Jvm.MethodName)) ∈ zT := z_in (i := 741) (by decide +kernel) (by decide +kernel)
theorem wv_X7_cross : (Jvm.Cond.instanceMethod ({ cls := "KiteStringsModel", name := "cross", desc := "(II)Z" } : Jvm.MethodName)) ∈ zT := z_in (i := 743) (by decide +kernel) (by decide +kernel)
theorem wk_X7_cross : (Jvm.Cond.code ({ cls := "KiteStringsModel", name := "cross", desc := "(II)Z" } : Jvm.MethodName) prog_9_method_15_code (12 : Nat) (Option.some Jvm.ClassFile.FieldType.boolean)) ∈ zT := z_in (i := 744) (by decide +kernel) (by decide +kernel)
theorem wm_X7_51 : (Jvm.Cond.methodLink "KiteStringsModel" (51 : Nat) ({ cls := "KiteStringsModel", name := "sideOf", desc := "(III)I" } : Jvm.MethodName)) ∈ zT := z_in (i := 745) (by decide +kernel) (by decide +kernel)
theorem wv_X7_sideOf : (Jvm.Cond.instanceMethod ({ cls := "KiteStringsModel", name := "sideOf", desc := "(III)I" } : Jvm.MethodName)) ∈ zT := z_in (i := 747) (by decide +kernel) (by decide +kernel)
theorem wk_X7_sideOf : (Jvm.Cond.code ({ cls := "KiteStringsModel", name := "sideOf", desc := "(III)I" } : Jvm.MethodName) prog_9_method_13_code (4 : Nat) (Option.some Jvm.ClassFile.FieldType.int)) ∈ zT := z_in (i := 748) (by decide +kernel) (by decide +kernel)
theorem wm_X7_59 : (Jvm.Cond.methodLink "KiteStringsModel" (59 : Nat) ({ cls := "KiteStringsModel", name := "areApart", desc := "(II)Z" } : Jvm.MethodName)) ∈ zT := z_in (i := 749) (by decide +kernel) (by decide +kernel)
theorem ws_X7_areApart : (Jvm.Cond.static ({ cls := "KiteStringsModel", name := "areApart", desc := "(II)Z" } : Jvm.MethodName)) ∈ zT := z_in (i := 750) (by decide +kernel) (by decide +kernel)
theorem wk_X7_areApart : (Jvm.Cond.code ({ cls := "KiteStringsModel", name := "areApart", desc := "(II)Z" } : Jvm.MethodName) prog_9_method_14_code (2 : Nat) (Option.some Jvm.ClassFile.FieldType.boolean)) ∈ zT := z_in (i := 751) (by decide +kernel) (by decide +kernel)
theorem wm_X7_86 : (Jvm.Cond.methodLink "KiteStringsModel" (86 : Nat) ({ cls := "KiteStringsModel", name := "more", desc := "(II)I" } : Jvm.MethodName)) ∈ zT := z_in (i := 752) (by decide +kernel) (by decide +kernel)
theorem wv_X7_more : (Jvm.Cond.instanceMethod ({ cls := "KiteStringsModel", name := "more", desc := "(II)I" } : Jvm.MethodName)) ∈ zT := z_in (i := 754) (by decide +kernel) (by decide +kernel)
theorem wk_X7_more : (Jvm.Cond.code ({ cls := "KiteStringsModel", name := "more", desc := "(II)I" } : Jvm.MethodName) prog_9_method_17_code (3 : Nat) (Option.some Jvm.ClassFile.FieldType.int)) ∈ zT := z_in (i := 755) (by decide +kernel) (by decide +kernel)
theorem wm_X7_76 : (Jvm.Cond.methodLink "KiteStringsModel" (76 : Nat) ({ cls := "KiteStringsModel", name := "sliding", desc := "(II)I" } : Jvm.MethodName)) ∈ zT := z_in (i := 756) (by decide +kernel) (by decide +kernel)
theorem wv_X7_sliding : (Jvm.Cond.instanceMethod ({ cls := "KiteStringsModel", name := "sliding", desc := "(II)I" } : Jvm.MethodName)) ∈ zT := z_in (i := 758) (by decide +kernel) (by decide +kernel)
theorem wk_X7_sliding : (Jvm.Cond.code ({ cls := "KiteStringsModel", name := "sliding", desc := "(II)I" } : Jvm.MethodName) prog_9_method_16_code (3 : Nat) (Option.some Jvm.ClassFile.FieldType.int)) ∈ zT := z_in (i := 759) (by decide +kernel) (by decide +kernel)
theorem wm_X7_105 : (Jvm.Cond.methodLink "KiteStringsModel" (105 : Nat) ({ cls := "KiteStringsModel", name := "cutThrough", desc := "()V" } : Jvm.MethodName)) ∈ zT := z_in (i := 760) (by decide +kernel) (by decide +kernel)
theorem wv_X7_cutThrough : (Jvm.Cond.instanceMethod ({ cls := "KiteStringsModel", name := "cutThrough", desc := "()V" } : Jvm.MethodName)) ∈ zT := z_in (i := 762) (by decide +kernel) (by decide +kernel)
theorem wk_X7_cutThrough : (Jvm.Cond.code ({ cls := "KiteStringsModel", name := "cutThrough", desc := "()V" } : Jvm.MethodName) prog_9_method_23_code (4 : Nat) (Option.none : Option Jvm.ClassFile.FieldType)) ∈ zT := z_in (i := 763) (by decide +kernel) (by decide +kernel)
theorem wm_X7_95 : (Jvm.Cond.methodLink "KiteStringsModel" (95 : Nat) ({ cls := "KiteStringsModel", name := "isWornAt", desc := "(II)Z" } : Jvm.MethodName)) ∈ zT := z_in (i := 764) (by decide +kernel) (by decide +kernel)
theorem wv_X7_isWornAt : (Jvm.Cond.instanceMethod ({ cls := "KiteStringsModel", name := "isWornAt", desc := "(II)Z" } : Jvm.MethodName)) ∈ zT := z_in (i := 766) (by decide +kernel) (by decide +kernel)
theorem wk_X7_isWornAt : (Jvm.Cond.code ({ cls := "KiteStringsModel", name := "isWornAt", desc := "(II)Z" } : Jvm.MethodName) prog_9_method_22_code (3 : Nat) (Option.some Jvm.ClassFile.FieldType.boolean)) ∈ zT := z_in (i := 767) (by decide +kernel) (by decide +kernel)
theorem wm_L_41 : (Jvm.Cond.methodLink "KiteStringsLaw" (41 : Nat) ({ cls := "KiteStringsModel", name := "round", desc := "()I" } : Jvm.MethodName)) ∈ zT := z_in (i := 768) (by decide +kernel) (by decide +kernel)
theorem wv_X7_round : (Jvm.Cond.instanceMethod ({ cls := "KiteStringsModel", name := "round", desc := "()I" } : Jvm.MethodName)) ∈ zT := z_in (i := 769) (by decide +kernel) (by decide +kernel)
theorem we_X7_round : (Jvm.Cond.selects "KiteStringsModel" ({ cls := "KiteStringsModel", name := "round", desc := "()I" } : Jvm.MethodName) ({ cls := "KiteStringsModel", name := "round", desc := "()I" } : Jvm.MethodName)) ∈ zT := z_in (i := 770) (by decide +kernel) (by decide +kernel)
theorem wk_X7_round : (Jvm.Cond.code ({ cls := "KiteStringsModel", name := "round", desc := "()I" } : Jvm.MethodName) prog_9_method_34_code (3 : Nat) (Option.some Jvm.ClassFile.FieldType.int)) ∈ zT := z_in (i := 771) (by decide +kernel) (by decide +kernel)
theorem wm_L_49 : (Jvm.Cond.methodLink "KiteStringsLaw" (49 : Nat) ({ cls := "KiteStringsModel", name := "kite", desc := "(II)I" } : Jvm.MethodName)) ∈ zT := z_in (i := 772) (by decide +kernel) (by decide +kernel)
theorem wv_X7_kite : (Jvm.Cond.instanceMethod ({ cls := "KiteStringsModel", name := "kite", desc := "(II)I" } : Jvm.MethodName)) ∈ zT := z_in (i := 773) (by decide +kernel) (by decide +kernel)
theorem we_X7_kite : (Jvm.Cond.selects "KiteStringsModel" ({ cls := "KiteStringsModel", name := "kite", desc := "(II)I" } : Jvm.MethodName) ({ cls := "KiteStringsModel", name := "kite", desc := "(II)I" } : Jvm.MethodName)) ∈ zT := z_in (i := 774) (by decide +kernel) (by decide +kernel)
theorem wk_X7_kite : (Jvm.Cond.code ({ cls := "KiteStringsModel", name := "kite", desc := "(II)I" } : Jvm.MethodName) prog_9_method_35_code (3 : Nat) (Option.some Jvm.ClassFile.FieldType.int)) ∈ zT := z_in (i := 775) (by decide +kernel) (by decide +kernel)
theorem wm_X7_129 : (Jvm.Cond.methodLink "KiteStringsModel" (129 : Nat) ({ cls := "KiteStringsModel", name := "placeOfGreatest", desc := "(I)I" } : Jvm.MethodName)) ∈ zT := z_in (i := 776) (by decide +kernel) (by decide +kernel)
theorem wv_X7_placeOfGreatest : (Jvm.Cond.instanceMethod ({ cls := "KiteStringsModel", name := "placeOfGreatest", desc := "(I)I" } : Jvm.MethodName)) ∈ zT := z_in (i := 778) (by decide +kernel) (by decide +kernel)
theorem wk_X7_placeOfGreatest : (Jvm.Cond.code ({ cls := "KiteStringsModel", name := "placeOfGreatest", desc := "(I)I" } : Jvm.MethodName) prog_9_method_12_code (5 : Nat) (Option.some Jvm.ClassFile.FieldType.int)) ∈ zT := z_in (i := 779) (by decide +kernel) (by decide +kernel)
theorem wm_X7_132 : (Jvm.Cond.methodLink "KiteStringsModel" (132 : Nat) ({ cls := "KiteStringsModel", name := "crossingOnes", desc := "(I)I" } : Jvm.MethodName)) ∈ zT := z_in (i := 780) (by decide +kernel) (by decide +kernel)
theorem wv_X7_crossingOnes : (Jvm.Cond.instanceMethod ({ cls := "KiteStringsModel", name := "crossingOnes", desc := "(I)I" } : Jvm.MethodName)) ∈ zT := z_in (i := 782) (by decide +kernel) (by decide +kernel)
theorem wk_X7_crossingOnes : (Jvm.Cond.code ({ cls := "KiteStringsModel", name := "crossingOnes", desc := "(I)I" } : Jvm.MethodName) prog_9_method_19_code (4 : Nat) (Option.some Jvm.ClassFile.FieldType.int)) ∈ zT := z_in (i := 783) (by decide +kernel) (by decide +kernel)
theorem wm_L_53 : (Jvm.Cond.methodLink "KiteStringsLaw" (53 : Nat) ({ cls := "KiteStringsModel", name := "wear", desc := "(II)I" } : Jvm.MethodName)) ∈ zT := z_in (i := 784) (by decide +kernel) (by decide +kernel)
theorem wv_X7_wear : (Jvm.Cond.instanceMethod ({ cls := "KiteStringsModel", name := "wear", desc := "(II)I" } : Jvm.MethodName)) ∈ zT := z_in (i := 785) (by decide +kernel) (by decide +kernel)
theorem we_X7_wear : (Jvm.Cond.selects "KiteStringsModel" ({ cls := "KiteStringsModel", name := "wear", desc := "(II)I" } : Jvm.MethodName) ({ cls := "KiteStringsModel", name := "wear", desc := "(II)I" } : Jvm.MethodName)) ∈ zT := z_in (i := 786) (by decide +kernel) (by decide +kernel)
theorem wk_X7_wear : (Jvm.Cond.code ({ cls := "KiteStringsModel", name := "wear", desc := "(II)I" } : Jvm.MethodName) prog_9_method_36_code (3 : Nat) (Option.some Jvm.ClassFile.FieldType.int)) ∈ zT := z_in (i := 787) (by decide +kernel) (by decide +kernel)
theorem wm_L_57 : (Jvm.Cond.methodLink "KiteStringsLaw" (57 : Nat) ({ cls := "KiteStringsModel", name := "crossing", desc := "(III)I" } : Jvm.MethodName)) ∈ zT := z_in (i := 788) (by decide +kernel) (by decide +kernel)
theorem wv_X7_crossing : (Jvm.Cond.instanceMethod ({ cls := "KiteStringsModel", name := "crossing", desc := "(III)I" } : Jvm.MethodName)) ∈ zT := z_in (i := 789) (by decide +kernel) (by decide +kernel)
theorem we_X7_crossing : (Jvm.Cond.selects "KiteStringsModel" ({ cls := "KiteStringsModel", name := "crossing", desc := "(III)I" } : Jvm.MethodName) ({ cls := "KiteStringsModel", name := "crossing", desc := "(III)I" } : Jvm.MethodName)) ∈ zT := z_in (i := 790) (by decide +kernel) (by decide +kernel)
theorem wk_X7_crossing : (Jvm.Cond.code ({ cls := "KiteStringsModel", name := "crossing", desc := "(III)I" } : Jvm.MethodName) prog_9_method_37_code (5 : Nat) (Option.some Jvm.ClassFile.FieldType.int)) ∈ zT := z_in (i := 791) (by decide +kernel) (by decide +kernel)
theorem wm_L_61 : (Jvm.Cond.methodLink "KiteStringsLaw" (61 : Nat) ({ cls := "KiteStringsModel", name := "count", desc := "(I)I" } : Jvm.MethodName)) ∈ zT := z_in (i := 792) (by decide +kernel) (by decide +kernel)
theorem wv_X7_count : (Jvm.Cond.instanceMethod ({ cls := "KiteStringsModel", name := "count", desc := "(I)I" } : Jvm.MethodName)) ∈ zT := z_in (i := 793) (by decide +kernel) (by decide +kernel)
theorem we_X7_count : (Jvm.Cond.selects "KiteStringsModel" ({ cls := "KiteStringsModel", name := "count", desc := "(I)I" } : Jvm.MethodName) ({ cls := "KiteStringsModel", name := "count", desc := "(I)I" } : Jvm.MethodName)) ∈ zT := z_in (i := 794) (by decide +kernel) (by decide +kernel)
theorem wk_X7_count : (Jvm.Cond.code ({ cls := "KiteStringsModel", name := "count", desc := "(I)I" } : Jvm.MethodName) prog_9_method_41_code (2 : Nat) (Option.some Jvm.ClassFile.FieldType.int)) ∈ zT := z_in (i := 795) (by decide +kernel) (by decide +kernel)
theorem wm_X7_135 : (Jvm.Cond.methodLink "KiteStringsModel" (135 : Nat) ({ cls := "KiteStringsModel", name := "inTheAir", desc := "()I" } : Jvm.MethodName)) ∈ zT := z_in (i := 796) (by decide +kernel) (by decide +kernel)
theorem wv_X7_inTheAir : (Jvm.Cond.instanceMethod ({ cls := "KiteStringsModel", name := "inTheAir", desc := "()I" } : Jvm.MethodName)) ∈ zT := z_in (i := 798) (by decide +kernel) (by decide +kernel)
theorem wk_X7_inTheAir : (Jvm.Cond.code ({ cls := "KiteStringsModel", name := "inTheAir", desc := "()I" } : Jvm.MethodName) prog_9_method_38_code (3 : Nat) (Option.some Jvm.ClassFile.FieldType.int)) ∈ zT := z_in (i := 799) (by decide +kernel) (by decide +kernel)
theorem wm_X7_139 : (Jvm.Cond.methodLink "KiteStringsModel" (139 : Nat) ({ cls := "KiteStringsModel", name := "crossingsMany", desc := "()I" } : Jvm.MethodName)) ∈ zT := z_in (i := 800) (by decide +kernel) (by decide +kernel)
theorem wv_X7_crossingsMany : (Jvm.Cond.instanceMethod ({ cls := "KiteStringsModel", name := "crossingsMany", desc := "()I" } : Jvm.MethodName)) ∈ zT := z_in (i := 802) (by decide +kernel) (by decide +kernel)
theorem wk_X7_crossingsMany : (Jvm.Cond.code ({ cls := "KiteStringsModel", name := "crossingsMany", desc := "()I" } : Jvm.MethodName) prog_9_method_18_code (4 : Nat) (Option.some Jvm.ClassFile.FieldType.int)) ∈ zT := z_in (i := 803) (by decide +kernel) (by decide +kernel)
theorem wm_X7_142 : (Jvm.Cond.methodLink "KiteStringsModel" (142 : Nat) ({ cls := "KiteStringsModel", name := "leader", desc := "()I" } : Jvm.MethodName)) ∈ zT := z_in (i := 804) (by decide +kernel) (by decide +kernel)
theorem wv_X7_leader : (Jvm.Cond.instanceMethod ({ cls := "KiteStringsModel", name := "leader", desc := "()I" } : Jvm.MethodName)) ∈ zT := z_in (i := 806) (by decide +kernel) (by decide +kernel)
theorem wk_X7_leader : (Jvm.Cond.code ({ cls := "KiteStringsModel", name := "leader", desc := "()I" } : Jvm.MethodName) prog_9_method_39_code (3 : Nat) (Option.some Jvm.ClassFile.FieldType.int)) ∈ zT := z_in (i := 807) (by decide +kernel) (by decide +kernel)
theorem wm_X7_145 : (Jvm.Cond.methodLink "KiteStringsModel" (145 : Nat) ({ cls := "KiteStringsModel", name := "allPoints", desc := "()I" } : Jvm.MethodName)) ∈ zT := z_in (i := 808) (by decide +kernel) (by decide +kernel)
theorem wv_X7_allPoints : (Jvm.Cond.instanceMethod ({ cls := "KiteStringsModel", name := "allPoints", desc := "()I" } : Jvm.MethodName)) ∈ zT := z_in (i := 810) (by decide +kernel) (by decide +kernel)
theorem wk_X7_allPoints : (Jvm.Cond.code ({ cls := "KiteStringsModel", name := "allPoints", desc := "()I" } : Jvm.MethodName) prog_9_method_40_code (3 : Nat) (Option.some Jvm.ClassFile.FieldType.int)) ∈ zT := z_in (i := 811) (by decide +kernel) (by decide +kernel)
theorem wm_L_65 : (Jvm.Cond.methodLink "KiteStringsLaw" (65 : Nat) ({ cls := "KiteStringsModel", name := "ifPassed", desc := "(II)I" } : Jvm.MethodName)) ∈ zT := z_in (i := 812) (by decide +kernel) (by decide +kernel)
theorem wv_X7_ifPassed : (Jvm.Cond.instanceMethod ({ cls := "KiteStringsModel", name := "ifPassed", desc := "(II)I" } : Jvm.MethodName)) ∈ zT := z_in (i := 813) (by decide +kernel) (by decide +kernel)
theorem we_X7_ifPassed : (Jvm.Cond.selects "KiteStringsModel" ({ cls := "KiteStringsModel", name := "ifPassed", desc := "(II)I" } : Jvm.MethodName) ({ cls := "KiteStringsModel", name := "ifPassed", desc := "(II)I" } : Jvm.MethodName)) ∈ zT := z_in (i := 814) (by decide +kernel) (by decide +kernel)
theorem wk_X7_ifPassed : (Jvm.Cond.code ({ cls := "KiteStringsModel", name := "ifPassed", desc := "(II)I" } : Jvm.MethodName) prog_9_method_42_code (6 : Nat) (Option.some Jvm.ClassFile.FieldType.int)) ∈ zT := z_in (i := 815) (by decide +kernel) (by decide +kernel)
theorem wm_L_69 : (Jvm.Cond.methodLink "KiteStringsLaw" (69 : Nat) ({ cls := "KiteStringsModel", name := "firstCut", desc := "(I)I" } : Jvm.MethodName)) ∈ zT := z_in (i := 816) (by decide +kernel) (by decide +kernel)
theorem wv_X7_firstCut : (Jvm.Cond.instanceMethod ({ cls := "KiteStringsModel", name := "firstCut", desc := "(I)I" } : Jvm.MethodName)) ∈ zT := z_in (i := 817) (by decide +kernel) (by decide +kernel)
theorem we_X7_firstCut : (Jvm.Cond.selects "KiteStringsModel" ({ cls := "KiteStringsModel", name := "firstCut", desc := "(I)I" } : Jvm.MethodName) ({ cls := "KiteStringsModel", name := "firstCut", desc := "(I)I" } : Jvm.MethodName)) ∈ zT := z_in (i := 818) (by decide +kernel) (by decide +kernel)
theorem wk_X7_firstCut : (Jvm.Cond.code ({ cls := "KiteStringsModel", name := "firstCut", desc := "(I)I" } : Jvm.MethodName) prog_9_method_44_code (3 : Nat) (Option.some Jvm.ClassFile.FieldType.int)) ∈ zT := z_in (i := 819) (by decide +kernel) (by decide +kernel)
theorem wm_X7_151 : (Jvm.Cond.methodLink "KiteStringsModel" (151 : Nat) ({ cls := "KiteStringsModel", name := "lowest", desc := "(I)I" } : Jvm.MethodName)) ∈ zT := z_in (i := 820) (by decide +kernel) (by decide +kernel)
theorem ws_X7_lowest : (Jvm.Cond.static ({ cls := "KiteStringsModel", name := "lowest", desc := "(I)I" } : Jvm.MethodName)) ∈ zT := z_in (i := 821) (by decide +kernel) (by decide +kernel)
theorem wk_X7_lowest : (Jvm.Cond.code ({ cls := "KiteStringsModel", name := "lowest", desc := "(I)I" } : Jvm.MethodName) prog_9_method_43_code (3 : Nat) (Option.some Jvm.ClassFile.FieldType.int)) ∈ zT := z_in (i := 822) (by decide +kernel) (by decide +kernel)
theorem wm_L_73 : (Jvm.Cond.methodLink "KiteStringsLaw" (73 : Nat) ({ cls := "KiteStringsModel", name := "meets", desc := "(II)I" } : Jvm.MethodName)) ∈ zT := z_in (i := 823) (by decide +kernel) (by decide +kernel)
theorem wv_X7_meets : (Jvm.Cond.instanceMethod ({ cls := "KiteStringsModel", name := "meets", desc := "(II)I" } : Jvm.MethodName)) ∈ zT := z_in (i := 824) (by decide +kernel) (by decide +kernel)
theorem we_X7_meets : (Jvm.Cond.selects "KiteStringsModel" ({ cls := "KiteStringsModel", name := "meets", desc := "(II)I" } : Jvm.MethodName) ({ cls := "KiteStringsModel", name := "meets", desc := "(II)I" } : Jvm.MethodName)) ∈ zT := z_in (i := 825) (by decide +kernel) (by decide +kernel)
theorem wk_X7_meets : (Jvm.Cond.code ({ cls := "KiteStringsModel", name := "meets", desc := "(II)I" } : Jvm.MethodName) prog_9_method_45_code (5 : Nat) (Option.some Jvm.ClassFile.FieldType.int)) ∈ zT := z_in (i := 826) (by decide +kernel) (by decide +kernel)
theorem wm_L_77 : (Jvm.Cond.methodLink "KiteStringsLaw" (77 : Nat) ({ cls := "KiteStringsModel", name := "bestOrder", desc := "(III)I" } : Jvm.MethodName)) ∈ zT := z_in (i := 827) (by decide +kernel) (by decide +kernel)
theorem wv_X7_bestOrder : (Jvm.Cond.instanceMethod ({ cls := "KiteStringsModel", name := "bestOrder", desc := "(III)I" } : Jvm.MethodName)) ∈ zT := z_in (i := 828) (by decide +kernel) (by decide +kernel)
theorem we_X7_bestOrder : (Jvm.Cond.selects "KiteStringsModel" ({ cls := "KiteStringsModel", name := "bestOrder", desc := "(III)I" } : Jvm.MethodName) ({ cls := "KiteStringsModel", name := "bestOrder", desc := "(III)I" } : Jvm.MethodName)) ∈ zT := z_in (i := 829) (by decide +kernel) (by decide +kernel)
theorem wk_X7_bestOrder : (Jvm.Cond.code ({ cls := "KiteStringsModel", name := "bestOrder", desc := "(III)I" } : Jvm.MethodName) prog_9_method_47_code (11 : Nat) (Option.some Jvm.ClassFile.FieldType.int)) ∈ zT := z_in (i := 830) (by decide +kernel) (by decide +kernel)
theorem wm_X7_154 : (Jvm.Cond.methodLink "KiteStringsModel" (154 : Nat) ({ cls := "KiteStringsModel", name := "getsWith", desc := "(IIII)I" } : Jvm.MethodName)) ∈ zT := z_in (i := 831) (by decide +kernel) (by decide +kernel)
theorem wv_X7_getsWith : (Jvm.Cond.instanceMethod ({ cls := "KiteStringsModel", name := "getsWith", desc := "(IIII)I" } : Jvm.MethodName)) ∈ zT := z_in (i := 833) (by decide +kernel) (by decide +kernel)
theorem wk_X7_getsWith : (Jvm.Cond.code ({ cls := "KiteStringsModel", name := "getsWith", desc := "(IIII)I" } : Jvm.MethodName) prog_9_method_46_code (7 : Nat) (Option.some Jvm.ClassFile.FieldType.int)) ∈ zT := z_in (i := 834) (by decide +kernel) (by decide +kernel)
theorem wm_L_84 : (Jvm.Cond.methodLink "KiteStringsLaw" (84 : Nat) ({ cls := "KiteStringsModel", name := "put", desc := "(J)I" } : Jvm.MethodName)) ∈ zT := z_in (i := 835) (by decide +kernel) (by decide +kernel)
theorem wv_X7_put : (Jvm.Cond.instanceMethod ({ cls := "KiteStringsModel", name := "put", desc := "(J)I" } : Jvm.MethodName)) ∈ zT := z_in (i := 836) (by decide +kernel) (by decide +kernel)
theorem we_X7_put : (Jvm.Cond.selects "KiteStringsModel" ({ cls := "KiteStringsModel", name := "put", desc := "(J)I" } : Jvm.MethodName) ({ cls := "KiteStringsModel", name := "put", desc := "(J)I" } : Jvm.MethodName)) ∈ zT := z_in (i := 837) (by decide +kernel) (by decide +kernel)
theorem wk_X7_put : (Jvm.Cond.code ({ cls := "KiteStringsModel", name := "put", desc := "(J)I" } : Jvm.MethodName) prog_9_method_48_code (8 : Nat) (Option.some Jvm.ClassFile.FieldType.int)) ∈ zT := z_in (i := 838) (by decide +kernel) (by decide +kernel)
theorem wl_X7_158 : (Jvm.Cond.constantLong "KiteStringsModel" (158 : Nat) (255 : Int64)) ∈ zT := z_in (i := 839) (by decide +kernel) (by decide +kernel)
theorem wm_L_88 : (Jvm.Cond.methodLink "KiteStringsLaw" (88 : Nat) ({ cls := "KiteStringsModel", name := "wipe", desc := "()I" } : Jvm.MethodName)) ∈ zT := z_in (i := 840) (by decide +kernel) (by decide +kernel)
theorem wv_X7_wipe : (Jvm.Cond.instanceMethod ({ cls := "KiteStringsModel", name := "wipe", desc := "()I" } : Jvm.MethodName)) ∈ zT := z_in (i := 841) (by decide +kernel) (by decide +kernel)
theorem we_X7_wipe : (Jvm.Cond.selects "KiteStringsModel" ({ cls := "KiteStringsModel", name := "wipe", desc := "()I" } : Jvm.MethodName) ({ cls := "KiteStringsModel", name := "wipe", desc := "()I" } : Jvm.MethodName)) ∈ zT := z_in (i := 842) (by decide +kernel) (by decide +kernel)
theorem wk_X7_wipe : (Jvm.Cond.code ({ cls := "KiteStringsModel", name := "wipe", desc := "()I" } : Jvm.MethodName) prog_9_method_49_code (2 : Nat) (Option.some Jvm.ClassFile.FieldType.int)) ∈ zT := z_in (i := 843) (by decide +kernel) (by decide +kernel)
theorem wm_L_92 : (Jvm.Cond.methodLink "KiteStringsLaw" (92 : Nat) ({ cls := "KiteStringsModel", name := "fault", desc := "()I" } : Jvm.MethodName)) ∈ zT := z_in (i := 844) (by decide +kernel) (by decide +kernel)
theorem wv_X7_fault : (Jvm.Cond.instanceMethod ({ cls := "KiteStringsModel", name := "fault", desc := "()I" } : Jvm.MethodName)) ∈ zT := z_in (i := 845) (by decide +kernel) (by decide +kernel)
theorem we_X7_fault : (Jvm.Cond.selects "KiteStringsModel" ({ cls := "KiteStringsModel", name := "fault", desc := "()I" } : Jvm.MethodName) ({ cls := "KiteStringsModel", name := "fault", desc := "()I" } : Jvm.MethodName)) ∈ zT := z_in (i := 846) (by decide +kernel) (by decide +kernel)
theorem wk_X7_fault : (Jvm.Cond.code ({ cls := "KiteStringsModel", name := "fault", desc := "()I" } : Jvm.MethodName) prog_9_method_56_code (1 : Nat) (Option.some Jvm.ClassFile.FieldType.int)) ∈ zT := z_in (i := 847) (by decide +kernel) (by decide +kernel)
theorem wm_X7_188 : (Jvm.Cond.methodLink "KiteStringsModel" (188 : Nat) ({ cls := "KiteStringsModel", name := "findFault", desc := "()I" } : Jvm.MethodName)) ∈ zT := z_in (i := 848) (by decide +kernel) (by decide +kernel)
theorem wv_X7_findFault : (Jvm.Cond.instanceMethod ({ cls := "KiteStringsModel", name := "findFault", desc := "()I" } : Jvm.MethodName)) ∈ zT := z_in (i := 850) (by decide +kernel) (by decide +kernel)
theorem wk_X7_findFault : (Jvm.Cond.code ({ cls := "KiteStringsModel", name := "findFault", desc := "()I" } : Jvm.MethodName) prog_9_method_55_code (1 : Nat) (Option.some Jvm.ClassFile.FieldType.int)) ∈ zT := z_in (i := 851) (by decide +kernel) (by decide +kernel)
theorem wm_X7_184 : (Jvm.Cond.methodLink "KiteStringsModel" (184 : Nat) ({ cls := "KiteStringsModel", name := "readsOrder", desc := "()Z" } : Jvm.MethodName)) ∈ zT := z_in (i := 852) (by decide +kernel) (by decide +kernel)
theorem wv_X7_readsOrder : (Jvm.Cond.instanceMethod ({ cls := "KiteStringsModel", name := "readsOrder", desc := "()Z" } : Jvm.MethodName)) ∈ zT := z_in (i := 854) (by decide +kernel) (by decide +kernel)
theorem wk_X7_readsOrder : (Jvm.Cond.code ({ cls := "KiteStringsModel", name := "readsOrder", desc := "()Z" } : Jvm.MethodName) prog_9_method_54_code (1 : Nat) (Option.some Jvm.ClassFile.FieldType.boolean)) ∈ zT := z_in (i := 855) (by decide +kernel) (by decide +kernel)
theorem wm_X7_169 : (Jvm.Cond.methodLink "KiteStringsModel" (169 : Nat) ({ cls := "KiteStringsModel", name := "takeDigit", desc := "(II)I" } : Jvm.MethodName)) ∈ zT := z_in (i := 856) (by decide +kernel) (by decide +kernel)
theorem wv_X7_takeDigit : (Jvm.Cond.instanceMethod ({ cls := "KiteStringsModel", name := "takeDigit", desc := "(II)I" } : Jvm.MethodName)) ∈ zT := z_in (i := 858) (by decide +kernel) (by decide +kernel)
theorem wk_X7_takeDigit : (Jvm.Cond.code ({ cls := "KiteStringsModel", name := "takeDigit", desc := "(II)I" } : Jvm.MethodName) prog_9_method_52_code (4 : Nat) (Option.some Jvm.ClassFile.FieldType.int)) ∈ zT := z_in (i := 859) (by decide +kernel) (by decide +kernel)
theorem wm_X7_163 : (Jvm.Cond.methodLink "KiteStringsModel" (163 : Nat) ({ cls := "KiteStringsModel", name := "character", desc := "(I)I" } : Jvm.MethodName)) ∈ zT := z_in (i := 860) (by decide +kernel) (by decide +kernel)
theorem wv_X7_character : (Jvm.Cond.instanceMethod ({ cls := "KiteStringsModel", name := "character", desc := "(I)I" } : Jvm.MethodName)) ∈ zT := z_in (i := 862) (by decide +kernel) (by decide +kernel)
theorem wk_X7_character : (Jvm.Cond.code ({ cls := "KiteStringsModel", name := "character", desc := "(I)I" } : Jvm.MethodName) prog_9_method_50_code (2 : Nat) (Option.some Jvm.ClassFile.FieldType.int)) ∈ zT := z_in (i := 863) (by decide +kernel) (by decide +kernel)
theorem wm_X7_166 : (Jvm.Cond.methodLink "KiteStringsModel" (166 : Nat) ({ cls := "KiteStringsModel", name := "isNext", desc := "(I)Z" } : Jvm.MethodName)) ∈ zT := z_in (i := 864) (by decide +kernel) (by decide +kernel)
theorem wv_X7_isNext : (Jvm.Cond.instanceMethod ({ cls := "KiteStringsModel", name := "isNext", desc := "(I)Z" } : Jvm.MethodName)) ∈ zT := z_in (i := 866) (by decide +kernel) (by decide +kernel)
theorem wk_X7_isNext : (Jvm.Cond.code ({ cls := "KiteStringsModel", name := "isNext", desc := "(I)Z" } : Jvm.MethodName) prog_9_method_51_code (3 : Nat) (Option.some Jvm.ClassFile.FieldType.boolean)) ∈ zT := z_in (i := 867) (by decide +kernel) (by decide +kernel)
theorem wm_X7_175 : (Jvm.Cond.methodLink "KiteStringsModel" (175 : Nat) ({ cls := "KiteStringsModel", name := "takeStep", desc := "()I" } : Jvm.MethodName)) ∈ zT := z_in (i := 868) (by decide +kernel) (by decide +kernel)
theorem wv_X7_takeStep : (Jvm.Cond.instanceMethod ({ cls := "KiteStringsModel", name := "takeStep", desc := "()I" } : Jvm.MethodName)) ∈ zT := z_in (i := 870) (by decide +kernel) (by decide +kernel)
theorem wk_X7_takeStep : (Jvm.Cond.code ({ cls := "KiteStringsModel", name := "takeStep", desc := "()I" } : Jvm.MethodName) prog_9_method_53_code (3 : Nat) (Option.some Jvm.ClassFile.FieldType.int)) ∈ zT := z_in (i := 871) (by decide +kernel) (by decide +kernel)
theorem wm_L_45 : (Jvm.Cond.methodLink "KiteStringsLaw" (45 : Nat) ({ cls := "KiteStringsModel", name := "carryOut", desc := "()I" } : Jvm.MethodName)) ∈ zT := z_in (i := 872) (by decide +kernel) (by decide +kernel)
theorem wv_X7_carryOut : (Jvm.Cond.instanceMethod ({ cls := "KiteStringsModel", name := "carryOut", desc := "()I" } : Jvm.MethodName)) ∈ zT := z_in (i := 873) (by decide +kernel) (by decide +kernel)
theorem we_X7_carryOut : (Jvm.Cond.selects "KiteStringsModel" ({ cls := "KiteStringsModel", name := "carryOut", desc := "()I" } : Jvm.MethodName) ({ cls := "KiteStringsModel", name := "carryOut", desc := "()I" } : Jvm.MethodName)) ∈ zT := z_in (i := 874) (by decide +kernel) (by decide +kernel)
theorem wk_X7_carryOut : (Jvm.Cond.code ({ cls := "KiteStringsModel", name := "carryOut", desc := "()I" } : Jvm.MethodName) prog_9_method_57_code (3 : Nat) (Option.some Jvm.ClassFile.FieldType.int)) ∈ zT := z_in (i := 875) (by decide +kernel) (by decide +kernel)
theorem wm_L_96 : (Jvm.Cond.methodLink "KiteStringsLaw" (96 : Nat) ({ cls := "KiteStringsModel", name := "undo", desc := "()I" } : Jvm.MethodName)) ∈ zT := z_in (i := 876) (by decide +kernel) (by decide +kernel)
theorem wv_X7_undo : (Jvm.Cond.instanceMethod ({ cls := "KiteStringsModel", name := "undo", desc := "()I" } : Jvm.MethodName)) ∈ zT := z_in (i := 877) (by decide +kernel) (by decide +kernel)
theorem we_X7_undo : (Jvm.Cond.selects "KiteStringsModel" ({ cls := "KiteStringsModel", name := "undo", desc := "()I" } : Jvm.MethodName) ({ cls := "KiteStringsModel", name := "undo", desc := "()I" } : Jvm.MethodName)) ∈ zT := z_in (i := 878) (by decide +kernel) (by decide +kernel)
theorem wk_X7_undo : (Jvm.Cond.code ({ cls := "KiteStringsModel", name := "undo", desc := "()I" } : Jvm.MethodName) prog_9_method_58_code (1 : Nat) (Option.some Jvm.ClassFile.FieldType.int)) ∈ zT := z_in (i := 879) (by decide +kernel) (by decide +kernel)
theorem wm_L_100 : (Jvm.Cond.methodLink "KiteStringsLaw" (100 : Nat) ({ cls := "KiteStringsModel", name := "save", desc := "(I)I" } : Jvm.MethodName)) ∈ zT := z_in (i := 880) (by decide +kernel) (by decide +kernel)
theorem wv_X7_save : (Jvm.Cond.instanceMethod ({ cls := "KiteStringsModel", name := "save", desc := "(I)I" } : Jvm.MethodName)) ∈ zT := z_in (i := 881) (by decide +kernel) (by decide +kernel)
theorem we_X7_save : (Jvm.Cond.selects "KiteStringsModel" ({ cls := "KiteStringsModel", name := "save", desc := "(I)I" } : Jvm.MethodName) ({ cls := "KiteStringsModel", name := "save", desc := "(I)I" } : Jvm.MethodName)) ∈ zT := z_in (i := 882) (by decide +kernel) (by decide +kernel)
theorem wk_X7_save : (Jvm.Cond.code ({ cls := "KiteStringsModel", name := "save", desc := "(I)I" } : Jvm.MethodName) prog_9_method_59_code (2 : Nat) (Option.some Jvm.ClassFile.FieldType.int)) ∈ zT := z_in (i := 883) (by decide +kernel) (by decide +kernel)
theorem wm_L_104 : (Jvm.Cond.methodLink "KiteStringsLaw" (104 : Nat) ({ cls := "KiteStringsModel", name := "restore", desc := "(I)I" } : Jvm.MethodName)) ∈ zT := z_in (i := 884) (by decide +kernel) (by decide +kernel)
theorem wv_X7_restore : (Jvm.Cond.instanceMethod ({ cls := "KiteStringsModel", name := "restore", desc := "(I)I" } : Jvm.MethodName)) ∈ zT := z_in (i := 885) (by decide +kernel) (by decide +kernel)
theorem we_X7_restore : (Jvm.Cond.selects "KiteStringsModel" ({ cls := "KiteStringsModel", name := "restore", desc := "(I)I" } : Jvm.MethodName) ({ cls := "KiteStringsModel", name := "restore", desc := "(I)I" } : Jvm.MethodName)) ∈ zT := z_in (i := 886) (by decide +kernel) (by decide +kernel)
theorem wk_X7_restore : (Jvm.Cond.code ({ cls := "KiteStringsModel", name := "restore", desc := "(I)I" } : Jvm.MethodName) prog_9_method_60_code (2 : Nat) (Option.some Jvm.ClassFile.FieldType.int)) ∈ zT := z_in (i := 887) (by decide +kernel) (by decide +kernel)
theorem wl_L_78 : (Jvm.Cond.constantLong "KiteStringsLaw" (78 : Nat) (4294967295 : Int64)) ∈ zT := z_in (i := 888) (by decide +kernel) (by decide +kernel)
theorem we_X0_stateAt : Cond.selects "KiteStrings$History" ⟨"KiteStrings$History", "stateAt", "(I)LKiteStrings$Sky;"⟩ ⟨"KiteStrings$History", "stateAt", "(I)LKiteStrings$Sky;"⟩ ∈ zT := z_in (i := 0) (by decide +kernel) (by decide +kernel)
theorem we_X2_sendUp : Cond.selects "KiteStrings$Sky" ⟨"KiteStrings$Sky", "sendUp", "(I)V"⟩ ⟨"KiteStrings$Sky", "sendUp", "(I)V"⟩ ∈ zT := z_in (i := 1) (by decide +kernel) (by decide +kernel)
theorem we_X6_errorOfOrder : Cond.selects "KiteStrings" ⟨"KiteStrings", "errorOfOrder", "(III)I"⟩ ⟨"KiteStrings", "errorOfOrder", "(III)I"⟩ ∈ zT := z_in (i := 2) (by decide +kernel) (by decide +kernel)
theorem we_X5_measurePair : Cond.selects "KiteStrings$Weave" ⟨"KiteStrings$Weave", "measurePair", "(LKiteStrings$Sky;II)V"⟩ ⟨"KiteStrings$Weave", "measurePair", "(LKiteStrings$Sky;II)V"⟩ ∈ zT := z_in (i := 3) (by decide +kernel) (by decide +kernel)
theorem we_X5_note : Cond.selects "KiteStrings$Weave" ⟨"KiteStrings$Weave", "note", "(IIIZ)V"⟩ ⟨"KiteStrings$Weave", "note", "(IIIZ)V"⟩ ∈ zT := z_in (i := 4) (by decide +kernel) (by decide +kernel)
theorem we_X4_wearStrings : Cond.selects "KiteStrings$Tick" ⟨"KiteStrings$Tick", "wearStrings", "(LKiteStrings$Sky;)V"⟩ ⟨"KiteStrings$Tick", "wearStrings", "(LKiteStrings$Sky;)V"⟩ ∈ zT := z_in (i := 5) (by decide +kernel) (by decide +kernel)
theorem we_X4_givePoints : Cond.selects "KiteStrings$Tick" ⟨"KiteStrings$Tick", "givePoints", "(LKiteStrings$Sky;)V"⟩ ⟨"KiteStrings$Tick", "givePoints", "(LKiteStrings$Sky;)V"⟩ ∈ zT := z_in (i := 6) (by decide +kernel) (by decide +kernel)
theorem we_X4_cutStrings : Cond.selects "KiteStrings$Tick" ⟨"KiteStrings$Tick", "cutStrings", "(LKiteStrings$Sky;)V"⟩ ⟨"KiteStrings$Tick", "cutStrings", "(LKiteStrings$Sky;)V"⟩ ∈ zT := z_in (i := 7) (by decide +kernel) (by decide +kernel)
theorem we_X1_signAt : Cond.selects "KiteStrings$Pad" ⟨"KiteStrings$Pad", "signAt", "(I)I"⟩ ⟨"KiteStrings$Pad", "signAt", "(I)I"⟩ ∈ zT := z_in (i := 8) (by decide +kernel) (by decide +kernel)
theorem we_X6_giveOrdersOfPad : Cond.selects "KiteStrings" ⟨"KiteStrings", "giveOrdersOfPad", "()I"⟩ ⟨"KiteStrings", "giveOrdersOfPad", "()I"⟩ ∈ zT := z_in (i := 9) (by decide +kernel) (by decide +kernel)
theorem we_X6_aboutKite : Cond.selects "KiteStrings" ⟨"KiteStrings", "aboutKite", "(II)I"⟩ ⟨"KiteStrings", "aboutKite", "(II)I"⟩ ∈ zT := z_in (i := 10) (by decide +kernel) (by decide +kernel)
theorem we_X6_aboutString : Cond.selects "KiteStrings" ⟨"KiteStrings", "aboutString", "(II)I"⟩ ⟨"KiteStrings", "aboutString", "(II)I"⟩ ∈ zT := z_in (i := 11) (by decide +kernel) (by decide +kernel)
theorem we_X6_aboutCrossing : Cond.selects "KiteStrings" ⟨"KiteStrings", "aboutCrossing", "(III)I"⟩ ⟨"KiteStrings", "aboutCrossing", "(III)I"⟩ ∈ zT := z_in (i := 12) (by decide +kernel) (by decide +kernel)
theorem we_X5_noteOf : Cond.selects "KiteStrings$Weave" ⟨"KiteStrings$Weave", "noteOf", "(II)I"⟩ ⟨"KiteStrings$Weave", "noteOf", "(II)I"⟩ ∈ zT := z_in (i := 13) (by decide +kernel) (by decide +kernel)
theorem we_X6_aboutCut : Cond.selects "KiteStrings" ⟨"KiteStrings", "aboutCut", "(II)I"⟩ ⟨"KiteStrings", "aboutCut", "(II)I"⟩ ∈ zT := z_in (i := 14) (by decide +kernel) (by decide +kernel)
theorem we_X6_gainWith : Cond.selects "KiteStrings" ⟨"KiteStrings", "gainWith", "(IIII)I"⟩ ⟨"KiteStrings", "gainWith", "(IIII)I"⟩ ∈ zT := z_in (i := 15) (by decide +kernel) (by decide +kernel)
theorem we_X6_slotOf : Cond.selects "KiteStrings" ⟨"KiteStrings", "slotOf", "(I)LKiteStrings$Slot;"⟩ ⟨"KiteStrings", "slotOf", "(I)LKiteStrings$Slot;"⟩ ∈ zT := z_in (i := 16) (by decide +kernel) (by decide +kernel)
theorem we_X7_record : Cond.selects "KiteStringsModel" ⟨"KiteStringsModel", "record", "()V"⟩ ⟨"KiteStringsModel", "record", "()V"⟩ ∈ zT := z_in (i := 17) (by decide +kernel) (by decide +kernel)
theorem we_X7_setPart : Cond.selects "KiteStringsModel" ⟨"KiteStringsModel", "setPart", "(III)V"⟩ ⟨"KiteStringsModel", "setPart", "(III)V"⟩ ∈ zT := z_in (i := 18) (by decide +kernel) (by decide +kernel)
theorem we_X7_whyNotOrdered : Cond.selects "KiteStringsModel" ⟨"KiteStringsModel", "whyNotOrdered", "(III)I"⟩ ⟨"KiteStringsModel", "whyNotOrdered", "(III)I"⟩ ∈ zT := z_in (i := 19) (by decide +kernel) (by decide +kernel)
theorem we_X7_isKite : Cond.selects "KiteStringsModel" ⟨"KiteStringsModel", "isKite", "(I)Z"⟩ ⟨"KiteStringsModel", "isKite", "(I)Z"⟩ ∈ zT := z_in (i := 20) (by decide +kernel) (by decide +kernel)
theorem we_X7_flies : Cond.selects "KiteStringsModel" ⟨"KiteStringsModel", "flies", "(I)Z"⟩ ⟨"KiteStringsModel", "flies", "(I)Z"⟩ ∈ zT := z_in (i := 21) (by decide +kernel) (by decide +kernel)
theorem we_X7_part : Cond.selects "KiteStringsModel" ⟨"KiteStringsModel", "part", "(II)I"⟩ ⟨"KiteStringsModel", "part", "(II)I"⟩ ∈ zT := z_in (i := 22) (by decide +kernel) (by decide +kernel)
theorem we_X7_orders : Cond.selects "KiteStringsModel" ⟨"KiteStringsModel", "orders", "(III)I"⟩ ⟨"KiteStringsModel", "orders", "(III)I"⟩ ∈ zT := z_in (i := 23) (by decide +kernel) (by decide +kernel)
theorem we_X7_greatestWear : Cond.selects "KiteStringsModel" ⟨"KiteStringsModel", "greatestWear", "(I)I"⟩ ⟨"KiteStringsModel", "greatestWear", "(I)I"⟩ ∈ zT := z_in (i := 24) (by decide +kernel) (by decide +kernel)
theorem we_X7_passes : Cond.selects "KiteStringsModel" ⟨"KiteStringsModel", "passes", "(I)I"⟩ ⟨"KiteStringsModel", "passes", "(I)I"⟩ ∈ zT := z_in (i := 25) (by decide +kernel) (by decide +kernel)
theorem we_X7_tick : Cond.selects "KiteStringsModel" ⟨"KiteStringsModel", "tick", "()V"⟩ ⟨"KiteStringsModel", "tick", "()V"⟩ ∈ zT := z_in (i := 26) (by decide +kernel) (by decide +kernel)
theorem we_X7_flyOn : Cond.selects "KiteStringsModel" ⟨"KiteStringsModel", "flyOn", "(I)V"⟩ ⟨"KiteStringsModel", "flyOn", "(I)V"⟩ ∈ zT := z_in (i := 27) (by decide +kernel) (by decide +kernel)
theorem we_X7_wearOut : Cond.selects "KiteStringsModel" ⟨"KiteStringsModel", "wearOut", "()V"⟩ ⟨"KiteStringsModel", "wearOut", "()V"⟩ ∈ zT := z_in (i := 28) (by decide +kernel) (by decide +kernel)
theorem we_X7_cross : Cond.selects "KiteStringsModel" ⟨"KiteStringsModel", "cross", "(II)Z"⟩ ⟨"KiteStringsModel", "cross", "(II)Z"⟩ ∈ zT := z_in (i := 29) (by decide +kernel) (by decide +kernel)
theorem we_X7_sideOf : Cond.selects "KiteStringsModel" ⟨"KiteStringsModel", "sideOf", "(III)I"⟩ ⟨"KiteStringsModel", "sideOf", "(III)I"⟩ ∈ zT := z_in (i := 30) (by decide +kernel) (by decide +kernel)
theorem we_X7_more : Cond.selects "KiteStringsModel" ⟨"KiteStringsModel", "more", "(II)I"⟩ ⟨"KiteStringsModel", "more", "(II)I"⟩ ∈ zT := z_in (i := 31) (by decide +kernel) (by decide +kernel)
theorem we_X7_sliding : Cond.selects "KiteStringsModel" ⟨"KiteStringsModel", "sliding", "(II)I"⟩ ⟨"KiteStringsModel", "sliding", "(II)I"⟩ ∈ zT := z_in (i := 32) (by decide +kernel) (by decide +kernel)
theorem we_X7_cutThrough : Cond.selects "KiteStringsModel" ⟨"KiteStringsModel", "cutThrough", "()V"⟩ ⟨"KiteStringsModel", "cutThrough", "()V"⟩ ∈ zT := z_in (i := 33) (by decide +kernel) (by decide +kernel)
theorem we_X7_isWornAt : Cond.selects "KiteStringsModel" ⟨"KiteStringsModel", "isWornAt", "(II)Z"⟩ ⟨"KiteStringsModel", "isWornAt", "(II)Z"⟩ ∈ zT := z_in (i := 34) (by decide +kernel) (by decide +kernel)
theorem we_X7_placeOfGreatest : Cond.selects "KiteStringsModel" ⟨"KiteStringsModel", "placeOfGreatest", "(I)I"⟩ ⟨"KiteStringsModel", "placeOfGreatest", "(I)I"⟩ ∈ zT := z_in (i := 35) (by decide +kernel) (by decide +kernel)
theorem we_X7_crossingOnes : Cond.selects "KiteStringsModel" ⟨"KiteStringsModel", "crossingOnes", "(I)I"⟩ ⟨"KiteStringsModel", "crossingOnes", "(I)I"⟩ ∈ zT := z_in (i := 36) (by decide +kernel) (by decide +kernel)
theorem we_X7_inTheAir : Cond.selects "KiteStringsModel" ⟨"KiteStringsModel", "inTheAir", "()I"⟩ ⟨"KiteStringsModel", "inTheAir", "()I"⟩ ∈ zT := z_in (i := 37) (by decide +kernel) (by decide +kernel)
theorem we_X7_crossingsMany : Cond.selects "KiteStringsModel" ⟨"KiteStringsModel", "crossingsMany", "()I"⟩ ⟨"KiteStringsModel", "crossingsMany", "()I"⟩ ∈ zT := z_in (i := 38) (by decide +kernel) (by decide +kernel)
theorem we_X7_leader : Cond.selects "KiteStringsModel" ⟨"KiteStringsModel", "leader", "()I"⟩ ⟨"KiteStringsModel", "leader", "()I"⟩ ∈ zT := z_in (i := 39) (by decide +kernel) (by decide +kernel)
theorem we_X7_allPoints : Cond.selects "KiteStringsModel" ⟨"KiteStringsModel", "allPoints", "()I"⟩ ⟨"KiteStringsModel", "allPoints", "()I"⟩ ∈ zT := z_in (i := 40) (by decide +kernel) (by decide +kernel)
theorem we_X7_getsWith : Cond.selects "KiteStringsModel" ⟨"KiteStringsModel", "getsWith", "(IIII)I"⟩ ⟨"KiteStringsModel", "getsWith", "(IIII)I"⟩ ∈ zT := z_in (i := 41) (by decide +kernel) (by decide +kernel)
theorem we_X7_findFault : Cond.selects "KiteStringsModel" ⟨"KiteStringsModel", "findFault", "()I"⟩ ⟨"KiteStringsModel", "findFault", "()I"⟩ ∈ zT := z_in (i := 42) (by decide +kernel) (by decide +kernel)
theorem we_X7_readsOrder : Cond.selects "KiteStringsModel" ⟨"KiteStringsModel", "readsOrder", "()Z"⟩ ⟨"KiteStringsModel", "readsOrder", "()Z"⟩ ∈ zT := z_in (i := 43) (by decide +kernel) (by decide +kernel)
theorem we_X7_takeDigit : Cond.selects "KiteStringsModel" ⟨"KiteStringsModel", "takeDigit", "(II)I"⟩ ⟨"KiteStringsModel", "takeDigit", "(II)I"⟩ ∈ zT := z_in (i := 44) (by decide +kernel) (by decide +kernel)
theorem we_X7_character : Cond.selects "KiteStringsModel" ⟨"KiteStringsModel", "character", "(I)I"⟩ ⟨"KiteStringsModel", "character", "(I)I"⟩ ∈ zT := z_in (i := 45) (by decide +kernel) (by decide +kernel)
theorem we_X7_isNext : Cond.selects "KiteStringsModel" ⟨"KiteStringsModel", "isNext", "(I)Z"⟩ ⟨"KiteStringsModel", "isNext", "(I)Z"⟩ ∈ zT := z_in (i := 46) (by decide +kernel) (by decide +kernel)
theorem we_X7_takeStep : Cond.selects "KiteStringsModel" ⟨"KiteStringsModel", "takeStep", "()I"⟩ ⟨"KiteStringsModel", "takeStep", "()I"⟩ ∈ zT := z_in (i := 47) (by decide +kernel) (by decide +kernel)
theorem wk_abs : Cond.code Lib.Math.abs.name Lib.Math.abs.code 1 (some .int) ∈ zT := z_in (i := 331) (by decide +kernel) (by decide +kernel)
theorem wk_min : Cond.code Lib.Math.min.name Lib.Math.min.code 2 (some .int) ∈ zT := z_in (i := 295) (by decide +kernel) (by decide +kernel)
end
section
/-! ===== memory: every cell of the class and of the reference by kind, number and slot; the shapes are fixed ===== -/
abbrev zM : Type := Nat → Nat → Nat → Int32
def zw (M : zM) (k i s : Nat) (v : Int32) : zM := fun k' i' => if k' = k ∧ i' = i then upd (M k i) s v else M k' i'
theorem zw_at {M : zM} {k i s : Nat} {v : Int32} : zw M k i s v k i = upd (M k i) s v := by simp [zw]
theorem zw_ne {M : zM} {k i s k' i' : Nat} {v : Int32} (h : ¬ (k' = k ∧ i' = i)) : zw M k i s v k' i' = M k' i' := by simp [zw, h]
def zix (i : Int32) (n : Nat) : Bool := decide (0 ≤ i.toInt ∧ i.toInt < n)
theorem zix_in {i : Int32} {n : Nat} (h : zix i n = true) : vp_in i n := vp_in_iff.mpr (of_decide_eq_true h)
abbrev zN (i : Int32) : Nat := i.toNatClampNeg
theorem zix_lt {i : Int32} {n : Nat} (h : zix i n = true) : zN i < n := by
  have := of_decide_eq_true h
  show i.toInt.toNat < n
  omega
def zL {α ρ : Type} (v : α) (f : α → Option ρ) : Option ρ := f v
def zC {α ρ : Type} (o : Option (α × zM)) (f : α → zM → Option ρ) : Option ρ := match o with
  | some q => f q.1 q.2
  | none => none
def zI {ρ : Type} (i : Int32) (n : Nat) (f : Option ρ) : Option ρ := if zix i n = true then f else none
def zV {ρ : Type} (d : Int32) (f : Option ρ) : Option ρ := if d = 0 then none else f
def zB {ρ : Type} (b : Int32) (f : Option ρ) : Option ρ := if b = 0 ∨ b = 1 then f else none
theorem zC_out {α ρ : Type} {o : Option (α × zM)} {f : α → zM → Option ρ} {r : ρ} (h : zC o f = some r) : ∃ a M, o = some (a, M) ∧ f a M = some r := by
  cases o with
  | none => cases h
  | some q => exact ⟨q.1, q.2, rfl, h⟩
theorem zI_out {ρ : Type} {i : Int32} {n : Nat} {f : Option ρ} {r : ρ} (h : zI i n f = some r) : zix i n = true ∧ f = some r := by
  unfold zI at h
  split at h
  · next q => exact ⟨q, h⟩
  · cases h
theorem zV_out {ρ : Type} {d : Int32} {f : Option ρ} {r : ρ} (h : zV d f = some r) : ¬ d = 0 ∧ f = some r := by
  unfold zV at h
  split at h
  · cases h
  · next q => exact ⟨q, h⟩
theorem zB_out {ρ : Type} {b : Int32} {f : Option ρ} {r : ρ} (h : zB b f = some r) : (b = 0 ∨ b = 1) ∧ f = some r := by
  unfold zB at h
  split at h
  · next q => exact ⟨q, h⟩
  · cases h
theorem z_ct {α : Type} {C : Prop} {d : Decidable C} {A B r : α} (h : @ite α C d A B = r) (hc : C) : A = r := by rw [if_pos hc] at h; exact h
theorem z_cf {α : Type} {C : Prop} {d : Decidable C} {A B r : α} (h : @ite α C d A B = r) (hc : ¬ C) : B = r := by rw [if_neg hc] at h; exact h
/-! kinds: 0 KiteStrings, 1 Sky, 2..14 its rows, 15 Weave, 16..19 its rows, 20 Tick, 21 History, 22 its states, 23 Slot, 24 Pad, 25 its signs, 26 the reference, 27..33 its rows -/
def zcl : List Nat := [1, 10, 10, 10, 10, 10, 10, 10, 10, 10, 10, 10, 10, 10, 10, 2, 2, 2, 2, 2, 1, 1, 1, 2, 1, 1, 1, 1, 1, 1, 1, 1, 1, 1]
def zcnt (k : Nat) : Nat := zcl.getD k 0
def zal : List (Option (Nat × Nat)) := [none, none, some (0, 6), some (0, 6), some (0, 6), some (0, 6), some (0, 6), some (0, 6), some (0, 6), some (0, 6), some (0, 6), some (0, 6), some (0, 6), some (0, 6), some (0, 192), none, some (0, 30), some (0, 30), some (0, 30), some (1, 30), none, none, none, none, none, some (2, 60), none, some (0, 268), some (0, 268), some (0, 1608), some (0, 536), some (0, 2), some (0, 60), some (0, 36)]
def zarr (k : Nat) : Option (Nat × Nat) := zal.getD k none
def zci (k : Nat) : Nat := [6, 2, 0, 0, 0, 0, 0, 0, 0, 0, 0, 0, 0, 0, 0, 5, 0, 0, 0, 0, 4, 0, 0, 3, 1, 0, 7].getD k 0
abbrev zGeo : Type := (Nat → Nat → Nat) × va_G × (Nat → ClassId)
def zfs (ad : Nat → Nat → Nat) (k i : Nat) (r : Nat → Int32) : List Value := match k with
  | 0 => [.ref (ad 1 0), .ref (ad 1 1), .ref (ad 15 0), .ref (ad 20 0), .ref (ad 21 0), .ref (ad 23 0), .ref (ad 23 1), .ref (ad 24 0)]
  | 1 => [.int (r 0), .int (r 1), .int (r 2), .int (r 3), .ref (ad 2 i), .ref (ad 3 i), .ref (ad 4 i), .ref (ad 5 i), .ref (ad 6 i), .ref (ad 7 i), .ref (ad 8 i), .ref (ad 9 i), .ref (ad 10 i), .ref (ad 11 i), .ref (ad 12 i), .ref (ad 13 i), .ref (ad 14 i)]
  | 15 => [.ref (ad 16 i), .ref (ad 17 i), .ref (ad 18 i), .ref (ad 19 i), .int (r 4)]
  | 20 => [.ref (ad 15 1), .int (r 1), .int (r 2)]
  | 21 => [.ref (ad 22 0), .int (r 1), .int (r 2)]
  | 23 => [.ref (ad 1 (8 + i)), .int (r 1)]
  | 24 => [.ref (ad 25 0), .int (r 1)]
  | 26 => [.ref (ad 27 0), .ref (ad 28 0), .ref (ad 29 0), .int (r 3), .ref (ad 30 0), .ref (ad 31 0), .ref (ad 32 0), .int (r 7), .ref (ad 33 0), .int (r 9), .int (r 10), .int (r 11), .int (r 12), .int (r 13), .int (r 14), .int (r 15), .int (r 16), .int (r 17)]
  | _ => []
def zent (g : zGeo) (k i : Nat) (r : Nat → Int32) : va_E := match zarr k with
  | some t => .inl (g.2.2 t.1, t.2, .inl r)
  | none => if k = 22 then .inl (g.2.2 3, 6, .inr (.inr (.inr (.inr (fun j => some (g.1 1 (2 + j))))))) else .inr (zci k, zfs g.1 k i r)
def zR (g : zGeo) (M : zM) (H : Heap) : Prop := ∀ k i, i < zcnt k → va_at g.2.1 vwCl (g.1 k i, zent g k i (M k i)) H
def zAd (g : zGeo) (z : Nat) : Prop := (∀ k i, i < zcnt k → z ≤ g.1 k i) ∧ ∀ k i k' i', i < zcnt k → i' < zcnt k' → g.1 k i = g.1 k' i' → k = k' ∧ i = i'
def zFt (t : Nat) : FieldType := [FieldType.int, .boolean, .char].getD t (.object "KiteStrings$Sky")
def zNests : List (String × Nat × MethodName × String) := [(RX1, 27, yX6_isWithin, "KiteStrings"), (RX2, 92, yX6_isWithin, "KiteStrings")]
def zK (g : zGeo) (U : State) : Prop := va_K g.2.1 vwCl [(g.2.2 0, .int), (g.2.2 1, .boolean), (g.2.2 2, .char), (g.2.2 3, .object "KiteStrings$Sky")] U ∧ (∀ w ∈ zT, va_Nw w U) ∧ ∀ q ∈ zNests, va_Nw (.methodLinkNest q.1 q.2.1 q.2.2.1 q.2.2.2) U
theorem zT_ok {w : Cond} (h : w ∈ zT) : (w.onTables && w.keeps) = true ∨ ∃ ty, w = .arrayClass ty := good_of_word (zT_good w h)
theorem zK.warm {g : zGeo} {s U : State} (hW : s.WarmedH U.vm) (h : zK g s) : zK g U :=
  ⟨va_K.moved hW.alike h.1, fun w hw => word_at hW (zT_ok hw) (h.2.1 w hw), fun q hq => va_Nw.warmM hW (h.2.2 q hq)⟩
theorem zK.same {g : zGeo} {u U : State} (hv : u.vm = U.vm) (h : zK g u) : zK g U := h.warm (by rw [← hv]; exact State.WarmedH.refl u)
theorem zFld_0 : ∀ w ∈ u_ws RX0 TX0 3, w ∈ zT := by decide +kernel
theorem zFld_1 : ∀ w ∈ u_ws RX1 TX1 2, w ∈ zT := by decide +kernel
theorem zFld_2 : ∀ w ∈ u_ws RX2 TX2 17, w ∈ zT := by decide +kernel
theorem zFld_3 : ∀ w ∈ u_ws RX3 TX3 2, w ∈ zT := by decide +kernel
theorem zFld_4 : ∀ w ∈ u_ws RX4 TX4 3, w ∈ zT := by decide +kernel
theorem zFld_5 : ∀ w ∈ u_ws RX5 TX5 5, w ∈ zT := by decide +kernel
theorem zFld_6 : ∀ w ∈ u_ws RX6 TX6 8, w ∈ zT := by decide +kernel
theorem zFld_7 : ∀ w ∈ u_ws RX7 TX7 18, w ∈ zT := by decide +kernel
theorem zFld_in {ci : Nat} {C : String} {T : u_T} {N : Nat} (hc : vwCl[ci]? = some (C, T, N)) : ∀ w ∈ u_ws C T N, w ∈ zT := by
  match ci, hc with
  | 0, hc => cases hc; exact zFld_0
  | 1, hc => cases hc; exact zFld_1
  | 2, hc => cases hc; exact zFld_2
  | 3, hc => cases hc; exact zFld_3
  | 4, hc => cases hc; exact zFld_4
  | 5, hc => cases hc; exact zFld_5
  | 6, hc => cases hc; exact zFld_6
  | 7, hc => cases hc; exact zFld_7
  | n + 8, hc => simp [vwCl] at hc
theorem zNest_0 : (RX1, 27, yX6_isWithin, "KiteStrings") ∈ zNests := List.mem_cons_self
theorem zNest_1 : (RX2, 92, yX6_isWithin, "KiteStrings") ∈ zNests := List.mem_cons_of_mem _ List.mem_cons_self
theorem zgV {own : String} {idx : Nat} {C : String} {y : MethodName} {cc : ByteArray} {maxL : Nat} {ret : Option FieldType} (h1 : Cond.methodLink own idx y ∈ zT) (h : Cond.instanceMethod y ∈ zT ∧ Cond.selects C y y ∈ zT ∧ Cond.initialized C ∈ zT ∧ Cond.code y cc maxL ret ∈ zT) : GoodIn zT (wsV own idx C y [.code y cc maxL ret]) := by
  intro w hw
  have hm : w ∈ zT := by
    rcases List.mem_append.mp hw with hw | hw
    · simp only [List.mem_cons, List.not_mem_nil, or_false] at hw
      rcases hw with rfl | rfl | rfl | rfl
      · exact h1
      · exact h.1
      · exact h.2.1
      · exact h.2.2.1
    · simp only [List.mem_cons, List.not_mem_nil, or_false] at hw
      rw [hw]; exact h.2.2.2
  exact ⟨hm, zT_ok hm⟩
theorem zgS {own : String} {idx : Nat} {y : MethodName} {cc : ByteArray} {maxL : Nat} {ret : Option FieldType} (h1 : Cond.methodLink own idx y ∈ zT) (h : Cond.static y ∈ zT ∧ Cond.initialized y.cls ∈ zT ∧ Cond.code y cc maxL ret ∈ zT) : GoodIn zT (va_wsS own idx y [.code y cc maxL ret]) := by
  intro w hw
  have hm : w ∈ zT := by
    rcases List.mem_append.mp hw with hw | hw
    · simp only [List.mem_cons, List.not_mem_nil, or_false] at hw
      rcases hw with rfl | rfl | rfl
      · exact h1
      · exact h.1
      · exact h.2.1
    · simp only [List.mem_cons, List.not_mem_nil, or_false] at hw
      rw [hw]; exact h.2.2
  exact ⟨hm, zT_ok hm⟩
theorem zgN {y : MethodName} {cc : ByteArray} {maxL : Nat} {ret : Option FieldType} (h : Cond.code y cc maxL ret ∈ zT) : GoodIn zT [.code y cc maxL ret] := by
  intro w hw
  simp only [List.mem_cons, List.not_mem_nil, or_false] at hw
  rw [hw]
  exact ⟨h, zT_ok h⟩
theorem zL_out {α ρ : Type} {v : α} {f : α → Option ρ} {r : ρ} (h : zL v f = some r) : ∃ y, v = y ∧ f y = some r := ⟨v, rfl, h⟩
theorem z_ne {x v : Int32} (h : ¬ x = v) {n : Int} (hn : v.toInt = n) : x.toInt ≠ n := fun q => h (Int32.toInt_inj.mp (q.trans hn.symm))
def zabs (x : Int32) : Int32 := if 0 ≤ x then x else 0 - x
def zmin (x y : Int32) : Int32 := if y < x then y else x
theorem z_ty {ci : Nat} {C : String} {T : u_T} {N : Nat} (hc : vwCl[ci]? = some (C, T, N)) : ∃ ty : Nat → FieldType, (∀ k, k < N → parseFieldDescriptor (T k).2.2.1 = some (ty k)) ∧ ∀ a, a < N → ∀ b, b < N → a ≠ b → (T a).2.1 ≠ (T b).2.1 := by
  match ci, hc with
  | 0, hc => cases hc; exact ⟨_, tyX0_ok, nmX0⟩
  | 1, hc => cases hc; exact ⟨_, tyX1_ok, nmX1⟩
  | 2, hc => cases hc; exact ⟨_, tyX2_ok, nmX2⟩
  | 3, hc => cases hc; exact ⟨_, tyX3_ok, nmX3⟩
  | 4, hc => cases hc; exact ⟨_, tyX4_ok, nmX4⟩
  | 5, hc => cases hc; exact ⟨_, tyX5_ok, nmX5⟩
  | 6, hc => cases hc; exact ⟨_, tyX6_ok, nmX6⟩
  | 7, hc => cases hc; exact ⟨_, tyX7_ok, nmX7⟩
  | n + 8, hc => simp [vwCl] at hc
abbrev zS (z : Nat) : Nat → Prop := fun q => z ≤ q
abbrev zPc (g : zGeo) (M : zM) (av : List Value) : Array Value → State → Prop := va_Pc av (fun U => zR g M U.heap ∧ zK g U)
abbrev zQi (g : zGeo) (z : Nat) (r : Int32) (M : zM) : Array Value → State → Outcome → State → Prop := va_Qi (fun (r' : Int32) (_ : Unit) => r' = r) (fun _ t => zR g M t.heap) (zS z)
abbrev zQv (g : zGeo) (z : Nat) (M : zM) : Array Value → State → Outcome → State → Prop := va_Qv (fun (_ : Unit) => True) (fun _ t => zR g M t.heap) (zS z)
abbrev zQr (g : zGeo) (z k n : Nat) (M : zM) : Array Value → State → Outcome → State → Prop := va_Qr (fun (_ : Unit) => n < zcnt k) (fun _ a t => a = g.1 k n ∧ zR g M t.heap) (zS z)
theorem zPc_blind {g : zGeo} {M : zM} {av : List Value} : FrameBlind (zPc g M av) := fun a U g' mk h => ⟨h.1, h.2.1, zK.same (u := U) (U := U.calling g' mk a) rfl h.2.2⟩
theorem z_enter {l : Launch} {g : zGeo} {z : Nat} {M : zM} {y : MethodName} {ws ws' : List Cond} {rm : Room} {av : List Value} {cc : ByteArray} {maxL : Nat} {ret : Option FieldType} {Qc : Array Value → State → Outcome → State → Prop} (hy : plainName y.cls = true) (hw : ws = Cond.code y cc maxL ret :: ws') (hlen : (lg_sl av).length ≤ maxL)
    (body : ∀ p e s m below meth c, CallFix p m c cc maxL s av.toArray zT y.cls → meth.sig.returnType = ret → meth.locks = false → zK g s → zR g M s.heap → va_S (zS z) s.heap s.heap [] → ∀ ls, lv_has ls maxL (lv_args 0 av) → W p l e rm s m av.toArray below meth c s.heap [] 0 0 (MQ below Qc av.toArray s 0 0 (zS z)) (F0 m 0 ls [])) : Met l y ws rm (zPc g M av) Qc 0 0 (zS z) := by
  refine Met.ofW (cc := cc) (maxL := maxL) (ret := ret) hy hw ?_
  intro p e s m args below meth c s₁ B hml hv
  obtain ⟨rfl, hR, hK⟩ := hv
  rw [lg_entry_eq]
  exact body p e s m below meth c ⟨B.exec, B.bytes, hml, findClass_of_methodNamed B.named, fun w hw => word_at (State.WarmedH.refl s) (zT_ok hw) (hK.2.1 w hw)⟩ B.returns B.notSynchronized hK hR va_S.rf _ (lv_entry av hlen)
theorem zR.set {g : zGeo} {z : Nat} {M M1 : zM} {H H1 : Heap} {k i : Nat} (hg : zAd g z) (hR : zR g M H) (hi : i < zcnt k) (he : va_at g.2.1 vwCl (g.1 k i, zent g k i (M1 k i)) H1) (oq : ∀ q : Nat, q ≠ g.1 k i → H1[q]? = H[q]?) (ho : ∀ k' i', ¬ (k' = k ∧ i' = i) → M1 k' i' = M k' i') : zR g M1 H1 := by
  intro k' i' hi'
  by_cases h : k' = k ∧ i' = i
  · obtain ⟨rfl, rfl⟩ := h
    exact he
  · rw [ho k' i' h]
    exact (hR k' i' hi').kept (oq _ (fun q => h (hg.2 k' i' k i hi' hi q)))
section ZR
variable {p : Program} {l : Launch} {e : Env} {R : Room} {s : State} {m : MethodId} {args : Array Value} {below : List Frame} {meth : Method} {c : Code} {H : Heap} {locs : List Loc} {cells slots : Nat} {Q : State → Prop} {pc : Nat} {ls : Array Slot} {rest : List Value} {g : zGeo} {M : zM} {z : Nat} {cc : ByteArray} {nL : Nat} {Ts : List Cond} {own : String} {ρ : Type} {res : ρ}
theorem z_nm {x : Int32} {f : Int32 → Option ρ} (hF : zL x f = some res) (kk : ∀ y, f y = some res → W p l e R s m args below meth c H locs cells slots Q (F0 m pc ls (.int y :: rest))) : W p l e R s m args below meth c H locs cells slots Q (F0 m pc ls (.int x :: rest)) := kk x hF
theorem z_nml {x : Int64} {f : Int64 → Option ρ} (hF : zL x f = some res) (kk : ∀ y, f y = some res → W p l e R s m args below meth c H locs cells slots Q (F0 m pc ls (.long y :: rest))) : W p l e R s m args below meth c H locs cells slots Q (F0 m pc ls (.long x :: rest)) := kk x hF
theorem z_get (S : CallFix p m c cc nL s args Ts own) (hK : zK g s) (hR : zR g M H) {k i ci f N index : Nat} {C : String} {T : u_T} {fs : List Value} {v : Value} (hi : i < zcnt k) (he : zent g k i (M k i) = .inr (ci, fs)) (hc : vwCl[ci]? = some (C, T, N)) (hf : f < N) (hl : Cond.fieldLink own index (T f).1 (T f).2.1 (T f).2.2.1 ∈ Ts) (hv : fs[f]? = some v) (hdg : decode cc pc = .ok (.getfield index, 3))
    (kk : W p l e R s m args below meth c H locs cells slots Q (F0 m (pc + 3) ls (v :: rest))) : W p l e R s m args below meth c H locs cells slots Q (F0 m pc ls (.ref (g.1 k i) :: rest)) := by
  have h := hR k i hi
  rw [he] at h
  obtain ⟨r, h1, cell, q1, q2, q3, q4⟩ := h
  have hr : r = (C, T, N) := Option.some.inj (h1.symm.trans hc)
  subst hr
  obtain ⟨hS, hfc, kC, hkC, hkind⟩ := hK.1.1 ci _ hc
  obtain ⟨cf, kf, fi, fd, hi2, hsl⟩ := hS f hf
  refine W.getf S.1 S.2.1 S.2.2.2.1 (S.2.2.2.2 _ hl) hi2 (u_facts hfc hkC (u_lays (args := #[]) hK.2.1 (zFld_in hc) hf) hi2).1 q1 (by rw [q3]; exact fun h => by cases h) (v := v) ?_ rfl rfl hdg kk
  rw [hsl, q4 f hf]
  simp [vp_V, hv]
theorem z_put (S : CallFix p m c cc nL s args Ts own) (hg : zAd g z) (hK : zK g s) (hR : zR g M H) (hS0 : va_S (zS z) s.heap H locs) {k i ci f N index : Nat} {C : String} {T : u_T} {fs : List Value} {x : Int32} {B : zM → Option ρ} (hF : zL (zw M k i f x) B = some res) (hi : i < zcnt k) (he : zent g k i (M k i) = .inr (ci, fs)) (he1 : zent g k i (upd (M k i) f x) = .inr (ci, fs.set f (.int x))) (hc : vwCl[ci]? = some (C, T, N)) (hf : f < N) (hl : Cond.fieldLink own index (T f).1 (T f).2.1 (T f).2.2.1 ∈ Ts) (hfin : (T f).2.2.2 = false) {ty : FieldType} (hd : parseFieldDescriptor (T f).2.2.1 = some ty) (hn : narrow ty (.int x) = .int x) (hfit : fits ty (.int x) = true) (hlen : f < fs.length) (hdg : decode cc pc = .ok (.putfield index, 3))
    (kk : ∀ (H1 : Heap) (locs1 : List Loc) (M1 : zM), zR g M1 H1 → va_S (zS z) s.heap H1 locs1 → B M1 = some res → W p l e R s m args below meth c H1 locs1 cells slots Q (F0 m (pc + 3) ls rest)) : W p l e R s m args below meth c H locs cells slots Q (F0 m pc ls (.int x :: .ref (g.1 k i) :: rest)) := by
  obtain ⟨ty0, hty, hnm⟩ := z_ty hc
  have hap := va_apart (own := own) (args := #[]) hK.2.1 (zFld_in hc) ty0 hty hnm hK.1 hc
  have h := hR k i hi
  rw [he] at h
  obtain ⟨r, h1, cell, q1, q2, q3, q4⟩ := h
  have hr : r = (C, T, N) := Option.some.inj (h1.symm.trans hc)
  subst hr
  obtain ⟨hS, hfc, kC, hkC, hkind⟩ := hK.1.1 ci _ hc
  obtain ⟨cf, kf, fi, fd, hi2, hsl⟩ := hS f hf
  have hlay := hK.2.1 _ (zFld_in hc _ (u_in_lay hf))
  unfold u_lay at hlay
  rw [if_neg (by rw [hfin]; decide)] at hlay
  have hst := (u_facts hfc hkC (u_lays (args := #[]) hK.2.1 (zFld_in hc) hf) hi2).1
  have h6 := u_store (args := #[]) hfc hkC hkind hlay hi2 hd hn hfit
  refine W.putK S.1 S.2.1 (f := fd) ⟨S.2.2.2.1, S.2.2.2.2 _ hl, ⟨_, _, _, hi2⟩, hst⟩ (by rw [q2]; exact h6) q1 q3 (by rw [hsl]; exact k2_hasslot (q4 f hf)) rfl rfl hdg fun H' e1 e2 e3 => ?_
  rw [hsl] at e1 ⊢
  refine kk H' _ (zw M k i f x) (hR.set hg hi ?_ e3 (fun k' i' h => zw_ne h)) (hS0.put e2 e3 (hg.1 k i hi)) hF
  rw [zw_at, he1]
  exact ⟨_, hc, t_OB.to (V := updV (vp_V fs) f (.int x)) ⟨_, e1, q2, q3, t_set q4 hap hf (.int x)⟩ (fun j _ => vp_updV_set hlen (.int x) j)⟩
theorem z_arr {k i t n : Nat} (hR : zR g M H) (hi : i < zcnt k) (ha : zarr k = some (t, n)) : H[g.1 k i]? = some (vp_cell (g.2.2 t) (n, .inl (M k i))) := by
  have h := hR k i hi
  unfold zent at h
  rw [ha] at h
  exact h
theorem z_alen (S : CallFix p m c cc nL s args Ts own) (hK : zK g s) (hR : zR g M H) {k i t n : Nat} {v : Int32} (hi : i < zcnt k) (ha : zarr k = some (t, n)) (ht : t < 3) (hv : Int32.ofNat n = v) (hdg : decode cc pc = .ok (.arraylength, 1))
    (kk : W p l e R s m args below meth c H locs cells slots Q (F0 m (pc + 1) ls (.int v :: rest))) : W p l e R s m args below meth c H locs cells slots Q (F0 m pc ls (.ref (g.1 k i) :: rest)) := by
  subst hv
  have hA : ∃ ty, ArrOfT s (g.2.2 t) ty := by
    match t, ht with
    | 0, _ => exact ⟨_, (hK.1.2 0 _ rfl).1⟩
    | 1, _ => exact ⟨_, (hK.1.2 1 _ rfl).1⟩
    | 2, _ => exact ⟨_, (hK.1.2 2 _ rfl).1⟩
  obtain ⟨ty, hA⟩ := hA
  exact W.alen (n := Int32.ofNat n) S.1 S.2.1 (z_arr hR hi ha) (hA n (fun j => .int (M k i j))) (by rw [vp_cell_i, arrV_size] <;> rfl) rfl rfl hdg kk
theorem z_iald (S : CallFix p m c cc nL s args Ts own) (hK : zK g s) (hR : zR g M H) {k i n : Nat} {j : Int32} {B : Option ρ} (hF : zI j n B = some res) (hi : i < zcnt k) (ha : zarr k = some (0, n)) (hdg : decode cc pc = .ok (.iaload, 1))
    (kk : B = some res → W p l e R s m args below meth c H locs cells slots Q (F0 m (pc + 1) ls (.int (M k i (zN j)) :: rest))) : W p l e R s m args below meth c H locs cells slots Q (F0 m pc ls (.int j :: .ref (g.1 k i) :: rest)) := by
  obtain ⟨hx, hF⟩ := zI_out hF
  exact W.iald (v := .int (M k i (zN j))) S.1 S.2.1 (z_arr hR hi ha) ((hK.1.2 0 _ rfl).1 n (fun j => .int (M k i j))) (fun q => by cases q) (by show ¬ (j < 0 ∨ (arrV _ _ _).slots.size ≤ _); rw [arrV_size]; exact zix_in hx) (by show (arrV _ _ _).slots[_]? = _; rw [arrV_read _ _ (zix_lt hx)]) rfl rfl hdg (kk hF)
theorem z_zald (S : CallFix p m c cc nL s args Ts own) (hK : zK g s) (hR : zR g M H) {k i n : Nat} {j : Int32} {B : Option ρ} (hF : zI j n B = some res) (hi : i < zcnt k) (ha : zarr k = some (1, n)) (hdg : decode cc pc = .ok (.baload, 1))
    (kk : B = some res → W p l e R s m args below meth c H locs cells slots Q (F0 m (pc + 1) ls (.int (M k i (zN j)) :: rest))) : W p l e R s m args below meth c H locs cells slots Q (F0 m pc ls (.int j :: .ref (g.1 k i) :: rest)) := by
  obtain ⟨hx, hF⟩ := zI_out hF
  exact W.zald (v := .int (M k i (zN j))) S.1 S.2.1 (z_arr hR hi ha) ((hK.1.2 1 _ rfl).1 n (fun j => .int (M k i j))) (fun q => by cases q) (by show ¬ (j < 0 ∨ (arrV _ _ _).slots.size ≤ _); rw [arrV_size]; exact zix_in hx) (by show (arrV _ _ _).slots[_]? = _; rw [arrV_read _ _ (zix_lt hx)]) rfl rfl hdg (kk hF)
theorem z_cald (S : CallFix p m c cc nL s args Ts own) (hK : zK g s) (hR : zR g M H) {k i n : Nat} {j : Int32} {B : Option ρ} (hF : zI j n B = some res) (hi : i < zcnt k) (ha : zarr k = some (2, n)) (hdg : decode cc pc = .ok (.caload, 1))
    (kk : B = some res → W p l e R s m args below meth c H locs cells slots Q (F0 m (pc + 1) ls (.int (M k i (zN j)) :: rest))) : W p l e R s m args below meth c H locs cells slots Q (F0 m pc ls (.int j :: .ref (g.1 k i) :: rest)) := by
  obtain ⟨hx, hF⟩ := zI_out hF
  exact W.cald (v := .int (M k i (zN j))) S.1 S.2.1 (z_arr hR hi ha) ((hK.1.2 2 _ rfl).1 n (fun j => .int (M k i j))) (fun q => by cases q) (by show ¬ (j < 0 ∨ (arrV _ _ _).slots.size ≤ _); rw [arrV_size]; exact zix_in hx) (by show (arrV _ _ _).slots[_]? = _; rw [arrV_read _ _ (zix_lt hx)]) rfl rfl hdg (kk hF)
theorem z_stored {k i t n j : Nat} {y : Int32} {H1 : Heap} (hg : zAd g z) (hR : zR g M H) (hi : i < zcnt k) (ha : zarr k = some (t, n)) (e1 : H1[g.1 k i]? = some ((vp_cell (g.2.2 t) (n, .inl (M k i))).setSlot j (.int y))) (oq : ∀ q : Nat, q ≠ g.1 k i → H1[q]? = H[q]?) : zR g (zw M k i j y) H1 := by
  refine hR.set hg hi ?_ oq (fun k' i' h => zw_ne h)
  rw [zw_at]
  unfold zent
  rw [ha]
  show H1[g.1 k i]? = some (vp_cell _ _)
  rw [e1]
  rw [vp_cell_i, vp_cell_i, arrV_store]
  congr 2
  funext q
  by_cases hq : q = j
  · subst hq
    simp [updV, upd]
  · simp [updV, upd, hq]
theorem z_iast (S : CallFix p m c cc nL s args Ts own) (hg : zAd g z) (hK : zK g s) (hR : zR g M H) (hS0 : va_S (zS z) s.heap H locs) {k i n : Nat} {j x : Int32} {B : zM → Option ρ} (hF : zI j n (zL (zw M k i (zN j) x) B) = some res) (hi : i < zcnt k) (ha : zarr k = some (0, n)) (hdg : decode cc pc = .ok (.iastore, 1))
    (kk : ∀ (H1 : Heap) (locs1 : List Loc) (M1 : zM), zR g M1 H1 → va_S (zS z) s.heap H1 locs1 → B M1 = some res → W p l e R s m args below meth c H1 locs1 cells slots Q (F0 m (pc + 1) ls rest)) : W p l e R s m args below meth c H locs cells slots Q (F0 m pc ls (.int x :: .int j :: .ref (g.1 k i) :: rest)) := by
  obtain ⟨hx, hF⟩ := zI_out hF
  refine W.iast S.1 S.2.1 (z_arr hR hi ha) ((hK.1.2 0 _ rfl).1 n (fun j => .int (M k i j))) (fun q => by cases q) (by show ¬ (j < 0 ∨ (arrV _ _ _).slots.size ≤ _); rw [arrV_size]; exact zix_in hx) rfl rfl hdg fun H1 e1 z1 oq => ?_
  exact kk H1 _ _ (z_stored hg hR hi ha e1 oq) (hS0.put z1 oq (hg.1 k i hi)) hF
theorem z_zast (S : CallFix p m c cc nL s args Ts own) (hg : zAd g z) (hK : zK g s) (hR : zR g M H) (hS0 : va_S (zS z) s.heap H locs) {k i n : Nat} {j x : Int32} {B : zM → Option ρ} (hF : zI j n (zL (zw M k i (zN j) (vp_nar .boolean x)) B) = some res) (hi : i < zcnt k) (ha : zarr k = some (1, n)) (hdg : decode cc pc = .ok (.bastore, 1))
    (kk : ∀ (H1 : Heap) (locs1 : List Loc) (M1 : zM), zR g M1 H1 → va_S (zS z) s.heap H1 locs1 → B M1 = some res → W p l e R s m args below meth c H1 locs1 cells slots Q (F0 m (pc + 1) ls rest)) : W p l e R s m args below meth c H locs cells slots Q (F0 m pc ls (.int x :: .int j :: .ref (g.1 k i) :: rest)) := by
  obtain ⟨hx, hF⟩ := zI_out hF
  refine W.zast S.1 S.2.1 (z_arr hR hi ha) ((hK.1.2 1 _ rfl).1 n (fun j => .int (M k i j))) (fun q => by cases q) (by show ¬ (j < 0 ∨ (arrV _ _ _).slots.size ≤ _); rw [arrV_size]; exact zix_in hx) rfl rfl hdg fun H1 e1 z1 oq => ?_
  exact kk H1 _ _ (z_stored hg hR hi ha e1 oq) (hS0.put z1 oq (hg.1 k i hi)) hF
theorem z_cast (S : CallFix p m c cc nL s args Ts own) (hg : zAd g z) (hK : zK g s) (hR : zR g M H) (hS0 : va_S (zS z) s.heap H locs) {k i n : Nat} {j x : Int32} {B : zM → Option ρ} (hF : zI j n (zL (zw M k i (zN j) (vp_nar .char x)) B) = some res) (hi : i < zcnt k) (ha : zarr k = some (2, n)) (hdg : decode cc pc = .ok (.castore, 1))
    (kk : ∀ (H1 : Heap) (locs1 : List Loc) (M1 : zM), zR g M1 H1 → va_S (zS z) s.heap H1 locs1 → B M1 = some res → W p l e R s m args below meth c H1 locs1 cells slots Q (F0 m (pc + 1) ls rest)) : W p l e R s m args below meth c H locs cells slots Q (F0 m pc ls (.int x :: .int j :: .ref (g.1 k i) :: rest)) := by
  obtain ⟨hx, hF⟩ := zI_out hF
  refine W.cast S.1 S.2.1 (z_arr hR hi ha) ((hK.1.2 2 _ rfl).1 n (fun j => .int (M k i j))) (fun q => by cases q) (by show ¬ (j < 0 ∨ (arrV _ _ _).slots.size ≤ _); rw [arrV_size]; exact zix_in hx) rfl rfl hdg fun H1 e1 z1 oq => ?_
  exact kk H1 _ _ (z_stored hg hR hi ha e1 oq) (hS0.put z1 oq (hg.1 k i hi)) hF
/-- the history's rows: states[j] is the sky 2 + j -/
theorem z_aald (S : CallFix p m c cc nL s args Ts own) (hK : zK g s) (hR : zR g M H) {j : Int32} {B : Option ρ} (hF : zI j 6 B = some res) (hdg : decode cc pc = .ok (.aaload, 1))
    (kk : 2 + zN j < 10 → B = some res → W p l e R s m args below meth c H locs cells slots Q (F0 m (pc + 1) ls (.ref (g.1 1 (2 + zN j)) :: rest))) : W p l e R s m args below meth c H locs cells slots Q (F0 m pc ls (.int j :: .ref (g.1 22 0) :: rest)) := by
  obtain ⟨hx, hF⟩ := zI_out hF
  have hlt := zix_lt hx
  have h : H[g.1 22 0]? = some (vp_cell (g.2.2 3) (6, .inr (.inr (.inr (.inr (fun j => some (g.1 1 (2 + j)))))))) := hR 22 0 (by decide)
  exact W.aald (v := .ref (g.1 1 (2 + zN j))) (ty := .object "KiteStrings$Sky") S.1 S.2.1 h ((hK.1.2 3 _ rfl).1 6 (fun j => .ref (g.1 1 (2 + j)))) rfl (fun q => by cases q) (by show ¬ (j < 0 ∨ (arrV _ _ _).slots.size ≤ _); rw [arrV_size]; exact zix_in hx) (by show (arrV _ _ _).slots[_]? = _; rw [arrV_read _ _ hlt]; rfl) rfl rfl hdg (kk (by omega) hF)
theorem z_alenq (S : CallFix p m c cc nL s args Ts own) (hK : zK g s) (hR : zR g M H) (hdg : decode cc pc = .ok (.arraylength, 1))
    (kk : W p l e R s m args below meth c H locs cells slots Q (F0 m (pc + 1) ls (.int 6 :: rest))) : W p l e R s m args below meth c H locs cells slots Q (F0 m pc ls (.ref (g.1 22 0) :: rest)) := by
  have h : H[g.1 22 0]? = some (vp_cell (g.2.2 3) (6, .inr (.inr (.inr (.inr (fun j => some (g.1 1 (2 + j)))))))) := hR 22 0 (by decide)
  exact W.alen (n := 6) S.1 S.2.1 h ((hK.1.2 3 _ rfl).1 6 (fun j => va_rf (some (g.1 1 (2 + j))))) (by rw [vp_cell_q, arrV_size] <;> rfl) rfl rfl hdg kk
theorem z_iret (S : CallFix p m c cc nL s args Ts own) (hr : meth.sig.returnType = some .int) (hlocks : meth.locks = false) (hR : zR g M H) (hS : va_S (zS z) s.heap H locs) {v r : Int32} {M' : zM} (hF : some (v, M) = some (r, M')) (hdg : decode cc pc = .ok (.ireturn, 1)) : W p l e R s m args below meth c H locs cells slots (MQ below (zQi g z r M') args s cells slots (zS z)) (F0 m pc ls [.int v]) := by
  cases hF
  exact W.iret S.1 S.2.1 hr (fun t ht hW => ⟨⟨v, (), rfl, rfl, by show zR g M t.heap; rw [ht]; exact hR⟩, hS.F ht⟩) hS.2.2 hdg hlocks
theorem z_zret (S : CallFix p m c cc nL s args Ts own) (hr : meth.sig.returnType = some .boolean) (hlocks : meth.locks = false) (hR : zR g M H) (hS : va_S (zS z) s.heap H locs) {v r : Int32} {M' : zM} (hF : zB v (some (v, M)) = some (r, M')) (hdg : decode cc pc = .ok (.ireturn, 1)) : W p l e R s m args below meth c H locs cells slots (MQ below (zQi g z r M') args s cells slots (zS z)) (F0 m pc ls [.int v]) := by
  obtain ⟨hb, hF⟩ := zB_out hF
  cases hF
  exact W.zret S.1 S.2.1 hr (by rcases hb with rfl | rfl <;> rfl) (fun t ht hW => ⟨⟨v, (), rfl, rfl, by show zR g M t.heap; rw [ht]; exact hR⟩, hS.F ht⟩) hS.2.2 hdg hlocks
theorem z_zretc (S : CallFix p m c cc nL s args Ts own) (hr : meth.sig.returnType = some .boolean) (hlocks : meth.locks = false) (hR : zR g M H) (hS : va_S (zS z) s.heap H locs) {v r : Int32} {M' : zM} (hb : v = 0 ∨ v = 1) (hF : some (v, M) = some (r, M')) (hdg : decode cc pc = .ok (.ireturn, 1)) : W p l e R s m args below meth c H locs cells slots (MQ below (zQi g z r M') args s cells slots (zS z)) (F0 m pc ls [.int v]) :=
  z_zret S hr hlocks hR hS (by unfold zB; rw [if_pos hb]; exact hF) hdg
theorem z_vret (S : CallFix p m c cc nL s args Ts own) (hr : meth.sig.returnType = none) (hlocks : meth.locks = false) (hR : zR g M H) (hS : va_S (zS z) s.heap H locs) {r : Unit} {M' : zM} (hF : some ((), M) = some (r, M')) (hdg : decode cc pc = .ok (.return_, 1)) : W p l e R s m args below meth c H locs cells slots (MQ below (zQv g z M') args s cells slots (zS z)) (F0 m pc ls []) := by
  cases hF
  exact W.vret S.1 S.2.1 hr (fun t ht hW => ⟨⟨(), rfl, trivial, by show zR g M t.heap; rw [ht]; exact hR⟩, hS.F ht⟩) hS.2.2 hdg hlocks
theorem z_aret (S : CallFix p m c cc nL s args Ts own) {ty : String} (hr : meth.sig.returnType = some (.object ty)) (hlocks : meth.locks = false) (hR : zR g M H) (hS : va_S (zS z) s.heap H locs) {k i r : Nat} {M' : zM} (hF : some (i, M) = some (r, M')) (hi : i < zcnt k) (hdg : decode cc pc = .ok (.areturn, 1)) : W p l e R s m args below meth c H locs cells slots (MQ below (zQr g z k r M') args s cells slots (zS z)) (F0 m pc ls [.ref (g.1 k i)]) := by
  cases hF
  exact W.aret S.1 S.2.1 hr (Or.inl ⟨_, rfl⟩) (Or.inr ⟨_, rfl⟩) (fun t ht hW => ⟨⟨(), g.1 k i, rfl, hi, rfl, by show zR g M t.heap; rw [ht]; exact hR⟩, hS.F ht⟩) hS.2.2 hdg hlocks
theorem z_recv (hK : zK g s) (hR : zR g M H) {k i ci N : Nat} {C : String} {T : u_T} {fs : List Value} (hi : i < zcnt k) (he : zent g k i (M k i) = .inr (ci, fs)) (hc : vwCl[ci]? = some (C, T, N)) : ∃ cellB : Cell, H[g.1 k i]? = some cellB ∧ cellB.vm.isStatics = false ∧ s.vm.findClass C = some cellB.cls := by
  have h := hR k i hi
  rw [he] at h
  obtain ⟨r, h1, cell, q1, q2, q3, q4⟩ := h
  have hr : r = (C, T, N) := Option.some.inj (h1.symm.trans hc)
  subst hr
  exact ⟨cell, q1, by rw [q3]; rfl, by rw [q2]; exact (hK.1.1 ci _ hc).2.1⟩
theorem z_pre (hK : zK g s) (hR : zR g M H) {av : List Value} : ∀ U : State, U.heap = H → s.WarmedH U.vm → zPc g M av av.toArray U := fun U hU hW => ⟨rfl, by rw [hU]; exact hR, hK.warm hW⟩
theorem z_goi {st : List Value} {a : Array Value} {o : Option (Int32 × zM)} {f : Int32 → zM → Option ρ} (hS : va_S (zS z) s.heap H locs) (hF : zC o f = some res) (hr : ∀ r M', o = some (r, M') → va_Run p l e R s m args below meth c H locs cells slots 0 0 (F0 m pc ls st) rest (zQi g z r M' a) (zS z))
    (kk : ∀ (r : Int32) (M' : zM) (H1 : Heap) (locs1 : List Loc), zR g M' H1 → va_S (zS z) s.heap H1 locs1 → f r M' = some res → W p l e R s m args below meth c H1 locs1 cells slots Q (F0 m (pc + 3) ls (.int r :: rest))) : W p l e R s m args below meth c H locs cells slots Q (F0 m pc ls st) := by
  obtain ⟨r, M', ho, hF⟩ := zC_out hF
  refine va_calli (hr r M' ho) hS (fun q _ h => h) (fun q h => h) (fun r1 u t H1 locs1 ht _ hw hB _ _ hS => ?_)
  subst hw
  rw [ht] at hB
  exact kk _ _ _ _ hB hS hF
theorem z_gov {st : List Value} {a : Array Value} {o : Option (Unit × zM)} {f : Unit → zM → Option ρ} (hS : va_S (zS z) s.heap H locs) (hF : zC o f = some res) (hr : ∀ r M', o = some (r, M') → va_Run p l e R s m args below meth c H locs cells slots 0 0 (F0 m pc ls st) rest (zQv g z M' a) (zS z))
    (kk : ∀ (M' : zM) (H1 : Heap) (locs1 : List Loc), zR g M' H1 → va_S (zS z) s.heap H1 locs1 → f () M' = some res → W p l e R s m args below meth c H1 locs1 cells slots Q (F0 m (pc + 3) ls rest)) : W p l e R s m args below meth c H locs cells slots Q (F0 m pc ls st) := by
  obtain ⟨r, M', ho, hF⟩ := zC_out hF
  refine va_callv (hr r M' ho) hS (fun q _ h => h) (fun q h => h) (fun u t H1 locs1 ht _ hw hB _ _ hS => ?_)
  rw [ht] at hB
  exact kk _ _ _ hB hS hF
theorem z_gor {k : Nat} {st : List Value} {a : Array Value} {o : Option (Nat × zM)} {f : Nat → zM → Option ρ} (hS : va_S (zS z) s.heap H locs) (hF : zC o f = some res) (hr : ∀ r M', o = some (r, M') → va_Run p l e R s m args below meth c H locs cells slots 0 0 (F0 m pc ls st) rest (zQr g z k r M' a) (zS z))
    (kk : ∀ (r : Nat) (M' : zM) (H1 : Heap) (locs1 : List Loc), r < zcnt k → zR g M' H1 → va_S (zS z) s.heap H1 locs1 → f r M' = some res → W p l e R s m args below meth c H1 locs1 cells slots Q (F0 m (pc + 3) ls (.ref (g.1 k r) :: rest))) : W p l e R s m args below meth c H locs cells slots Q (F0 m pc ls st) := by
  obtain ⟨r, M', ho, hF⟩ := zC_out hF
  refine va_callr (hr r M' ho) hS (fun q _ h => h) (fun q h => h) (fun u ra t H1 locs1 ht _ hw hB _ _ hS => ?_)
  obtain ⟨rfl, hB⟩ := hB
  rw [ht] at hB
  exact kk _ _ _ _ hw hB hS hF
theorem z_mabs (S : CallFix p m c cc nL s args Ts own) {lv : List (Nat × Value)} (hl : lv_has ls nL lv) {index : Nat} (hlink : (Cond.methodLink own index Lib.Math.abs.name).before args s = true) (hstat : (Cond.static Lib.Math.abs.name).before args s = true) (hini : (Cond.initialized "java/lang/Math").before args s = true) (hcode : (Cond.code Lib.Math.abs.name Lib.Math.abs.code 1 (some .int)).before args s = true)
    (hframes : 1 ≤ R.frames) (hlocals : (rest.map fun v => v.category).sum + 13 ≤ R.locals) (hc : cells ≤ R.cells) (hs : slots ≤ R.slots) {x : Int32} (hdg : decode cc pc = .ok (.invokestatic index, 3))
    (kk : W p l e R s m args below meth c H locs cells slots Q (F0 m (pc + 3) ls (.int (zabs x) :: rest))) : W p l e R s m args below meth c H locs cells slots Q (F0 m pc ls (.int x :: rest)) := va_mabs S.1 S.2.1 (S.2.2.1.trans hl.1.symm) S.2.2.2.1 hlink hstat hini hcode hframes hlocals hc hs hdg kk
theorem z_mmin (S : CallFix p m c cc nL s args Ts own) {lv : List (Nat × Value)} (hl : lv_has ls nL lv) {index : Nat} (hlink : (Cond.methodLink own index Lib.Math.min.name).before args s = true) (hstat : (Cond.static Lib.Math.min.name).before args s = true) (hini : (Cond.initialized "java/lang/Math").before args s = true) (hcode : (Cond.code Lib.Math.min.name Lib.Math.min.code 2 (some .int)).before args s = true)
    (hframes : 1 ≤ R.frames) (hlocals : (rest.map fun v => v.category).sum + 13 ≤ R.locals) (hc : cells ≤ R.cells) (hs : slots ≤ R.slots) {x y : Int32} (hdg : decode cc pc = .ok (.invokestatic index, 3))
    (kk : W p l e R s m args below meth c H locs cells slots Q (F0 m (pc + 3) ls (.int (zmin x y) :: rest))) : W p l e R s m args below meth c H locs cells slots Q (F0 m pc ls (.int y :: .int x :: rest)) := va_mmin S.1 S.2.1 (S.2.2.1.trans hl.1.symm) S.2.2.2.1 hlink hstat hini hcode hframes hlocals hc hs hdg kk
end ZR
def zall : List (Nat × Nat) := (List.range 34).flatMap (fun k => (List.range (zcnt k)).map (fun i => (k, i)))
theorem zall_nodup : zall.Nodup := by decide +kernel
theorem zall_mem {k i : Nat} (h : i < zcnt k) : (k, i) ∈ zall := by
  refine List.mem_flatMap.mpr ⟨k, List.mem_range.mpr ?_, List.mem_map.mpr ⟨i, List.mem_range.mpr h, rfl⟩⟩
  rcases Nat.lt_or_ge k 34 with q | q
  · exact q
  · have : zcnt k = 0 := by
      unfold zcnt
      rw [List.getD_eq_getElem?_getD, List.getElem?_eq_none (by show zcl.length ≤ k; exact q)]
      rfl
    omega
theorem zall_in {q : Nat × Nat} (h : q ∈ zall) : q.2 < zcnt q.1 := by
  obtain ⟨k, -, h⟩ := List.mem_flatMap.mp h
  obtain ⟨i, hi, rfl⟩ := List.mem_map.mp h
  exact List.mem_range.mp hi
def zws (g : zGeo) (M : zM) : va_W := zall.map (fun q => (g.1 q.1 q.2, zent g q.1 q.2 (M q.1 q.2)))
theorem zws_P {g : zGeo} {M : zM} {H : Heap} (hR : zR g M H) : va_P g.2.1 vwCl (zws g M) H := by
  intro p q hq
  unfold zws at hq
  rw [List.getElem?_map] at hq
  obtain ⟨r, hr, rfl⟩ := Option.map_eq_some_iff.mp hq
  exact hR _ _ (zall_in (List.mem_of_getElem? hr))
theorem zws_D {g : zGeo} {M : zM} {z : Nat} (hg : zAd g z) : va_D (zS z) (zws g M) := by
  refine ⟨fun i j p q hi hj hpq => ?_, fun p q hq => ?_⟩
  · unfold zws at hi hj
    rw [List.getElem?_map] at hi hj
    obtain ⟨a, ha, rfl⟩ := Option.map_eq_some_iff.mp hi
    obtain ⟨b, hb, rfl⟩ := Option.map_eq_some_iff.mp hj
    have h2 := hg.2 _ _ _ _ (zall_in (List.mem_of_getElem? ha)) (zall_in (List.mem_of_getElem? hb)) hpq
    have hab : a = b := Prod.ext h2.1 h2.2
    subst hab
    have hlt : i < zall.length := (List.getElem?_eq_some_iff.mp ha).1
    exact (List.getElem?_inj hlt zall_nodup).mp (ha.trans hb.symm)
  · unfold zws at hq
    rw [List.getElem?_map] at hq
    obtain ⟨r, hr, rfl⟩ := Option.map_eq_some_iff.mp hq
    exact hg.1 _ _ (zall_in (List.mem_of_getElem? hr))
def zcp (M : zM) (k i1 i2 : Nat) : zM := fun k' i' => if k' = k ∧ i' = i2 then M k i1 else M k' i'
theorem zcp_at {M : zM} {k i1 i2 : Nat} : zcp M k i1 i2 k i2 = M k i1 := by simp [zcp]
theorem zcp_ne {M : zM} {k i1 i2 k' i' : Nat} (h : ¬ (k' = k ∧ i' = i2)) : zcp M k i1 i2 k' i' = M k' i' := by simp [zcp, h]
theorem zcell_congr {cA : ClassId} {n : Nat} {f f' : Nat → Int32} (h : ∀ j, j < n → f j = f' j) : vp_cell cA (n, .inl f) = vp_cell cA (n, .inl f') := by
  rw [vp_cell_i, vp_cell_i]
  unfold arrV
  congr 1
  apply Array.ext
  · simp
  · intro i h1 h2
    simp only [Array.getElem_ofFn]
    rw [h i (by simpa using h1)]
theorem z_acopy {p : Program} {l : Launch} {e : Env} {R : Room} {s : State} {m : MethodId} {args : Array Value} {below : List Frame} {meth : Method} {c : Code} {H : Heap} {locs : List Loc} {cells slots : Nat} {Q : State → Prop} {pc : Nat} {ls : Array Slot} {rest : List Value} {g : zGeo} {M : zM} {z : Nat} {cc : ByteArray} {nL : Nat} {own : String} (S : CallFix p m c cc nL s args zT own) (hg : zAd g z) (hK : zK g s) (hR : zR g M H) (hS0 : va_S (zS z) s.heap H locs) {lv : List (Nat × Value)} (hl : lv_has ls nL lv) {index : Nat} (hlink : Cond.methodLink own index arraycopyName ∈ zT) (hnat : Cond.native arraycopyName ∈ zT) (hstat : Cond.static arraycopyName ∈ zT) (hini : Cond.initialized "java/lang/System" ∈ zT) {k i1 i2 n : Nat} (ha : zarr k = some (0, n)) (hn31 : n < 2 ^ 31) (h1 : i1 < zcnt k) (h2 : i2 < zcnt k) (hframes : 1 ≤ R.frames) (hlocals : (rest.map fun v => v.category).sum + (nativeFrameWords "java/lang/System" "arraycopy" 5 + 11) ≤ R.locals) (hdg : decode cc pc = .ok (.invokestatic index, 3))
    (kk : ∀ (H1 : Heap) (locs1 : List Loc), zR g (zcp M k i1 i2) H1 → va_S (zS z) s.heap H1 locs1 → W p l e R s m args below meth c H1 locs1 cells slots Q (F0 m (pc + 3) ls rest)) : W p l e R s m args below meth c H locs cells slots Q (F0 m pc ls (.int (nI n) :: .int 0 :: .ref (g.1 k i2) :: .int 0 :: .ref (g.1 k i1) :: rest)) := by
  obtain ⟨q1, hq1⟩ := List.getElem?_of_mem (zall_mem h1)
  obtain ⟨q2, hq2⟩ := List.getElem?_of_mem (zall_mem h2)
  have e1 : ∀ i, zent g k i (M k i) = .inl (g.2.2 0, n, .inl (M k i)) := fun i => by unfold zent; rw [ha]
  have w1 : (zws g M)[q1]? = some (g.1 k i1, .inl (g.2.2 0, n, .inl (M k i1))) := by
    unfold zws; rw [List.getElem?_map, hq1]; show some (g.1 k i1, zent g k i1 (M k i1)) = _; rw [e1]
  have w2 : (zws g M)[q2]? = some (g.1 k i2, .inl (g.2.2 0, n, .inl (M k i2))) := by
    unfold zws; rw [List.getElem?_map, hq2]; show some (g.1 k i2, zent g k i2 (M k i2)) = _; rw [e1]
  have hc : (nI n).toNatClampNeg = n := nI_clamp hn31
  refine va_copyi S.1 S.2.1 (S.2.2.1.trans hl.1.symm) S.2.2.2.1 (S.2.2.2.2 _ hlink) (S.2.2.2.2 _ hnat) (S.2.2.2.2 _ hstat) (S.2.2.2.2 _ hini) hK.1 (zws_P hR) (zws_D hg) hS0 q1 q2 0 0 w1 w2 rfl rfl rfl (by decide) (by decide) (nI_pos hn31) (by rw [hc]; show 0 + n ≤ n; omega) (by rw [hc]; show 0 + n ≤ n; omega) (fun i _ => rfl) hframes hlocals hdg (fun H1 locs1 hP1 hD1 hS1 => kk H1 locs1 ?_ hS1)
  intro k' i' hi'
  obtain ⟨q, hq⟩ := List.getElem?_of_mem (zall_mem hi')
  by_cases h : k' = k ∧ i' = i2
  · obtain ⟨rfl, rfl⟩ := h
    have hlt : q2 < (zws g M).length := (List.getElem?_eq_some_iff.mp w2).1
    have h3 := hP1 q2 _ (by rw [List.getElem?_set_self hlt])
    have h4 : H1[g.1 k' i']? = some (vp_cell (g.2.2 0) (n, .inl (va_cpy (M k' i1) (M k' i') (0 : Int32).toNatClampNeg (0 : Int32).toNatClampNeg (nI n).toNatClampNeg))) := h3
    unfold zent
    rw [ha, zcp_at]
    show H1[g.1 k' i']? = some (vp_cell (g.2.2 0) (n, .inl (M k' i1)))
    rw [h4, hc]
    refine congrArg some (zcell_congr (fun j hj => ?_))
    show va_cpy (M k' i1) (M k' i') 0 0 n j = _
    unfold va_cpy
    rw [if_pos ⟨Nat.zero_le _, by omega⟩]
    simp
  · rw [zcp_ne h]
    have hne : q2 ≠ q := by
      rintro rfl
      rw [hq] at hq2
      cases hq2
      exact h ⟨rfl, rfl⟩
    have h3 := hP1 q (g.1 k' i', zent g k' i' (M k' i')) (by
      rw [List.getElem?_set_ne hne]
      unfold zws
      rw [List.getElem?_map, hq]
      rfl)
    exact h3
end
section
theorem dX0_init_0 : decode cX0_init 0 = .ok (.aload_n 0, 1) := by decide +kernel
theorem dX0_init_1 : decode cX0_init 1 = .ok (.invokespecial 3, 3) := by decide +kernel
theorem dX0_init_4 : decode cX0_init 4 = .ok (.aload_n 0, 1) := by decide +kernel
theorem dX0_init_5 : decode cX0_init 5 = .ok (.bipush 6, 2) := by decide +kernel
theorem dX0_init_7 : decode cX0_init 7 = .ok (.anewarray 9, 3) := by decide +kernel
theorem dX0_init_10 : decode cX0_init 10 = .ok (.putfield 11, 3) := by decide +kernel
theorem dX0_init_13 : decode cX0_init 13 = .ok (.iconst 0, 1) := by decide +kernel
theorem dX0_init_14 : decode cX0_init 14 = .ok (.istore_n 1, 1) := by decide +kernel
theorem dX0_init_15 : decode cX0_init 15 = .ok (.iload_n 1, 1) := by decide +kernel
theorem dX0_init_16 : decode cX0_init 16 = .ok (.bipush 6, 2) := by decide +kernel
theorem dX0_init_18 : decode cX0_init 18 = .ok (.if_icmp .ge 22, 3) := by decide +kernel
theorem dX0_init_21 : decode cX0_init 21 = .ok (.aload_n 0, 1) := by decide +kernel
theorem dX0_init_22 : decode cX0_init 22 = .ok (.getfield 11, 3) := by decide +kernel
theorem dX0_init_25 : decode cX0_init 25 = .ok (.iload_n 1, 1) := by decide +kernel
theorem dX0_init_26 : decode cX0_init 26 = .ok (.new 9, 3) := by decide +kernel
theorem dX0_init_29 : decode cX0_init 29 = .ok (.dup, 1) := by decide +kernel
theorem dX0_init_30 : decode cX0_init 30 = .ok (.invokespecial 17, 3) := by decide +kernel
theorem dX0_init_33 : decode cX0_init 33 = .ok (.aastore, 1) := by decide +kernel
theorem dX0_init_34 : decode cX0_init 34 = .ok (.iinc 1 1, 3) := by decide +kernel
theorem dX0_init_37 : decode cX0_init 37 = .ok (.goto (-22), 3) := by decide +kernel
theorem dX0_init_40 : decode cX0_init 40 = .ok (.return_, 1) := by decide +kernel
theorem dX0_record_0 : decode cX0_record 0 = .ok (.aload_n 0, 1) := by decide +kernel
theorem dX0_record_1 : decode cX0_record 1 = .ok (.aload_n 0, 1) := by decide +kernel
theorem dX0_record_2 : decode cX0_record 2 = .ok (.getfield 18, 3) := by decide +kernel
theorem dX0_record_5 : decode cX0_record 5 = .ok (.invokevirtual 22, 3) := by decide +kernel
theorem dX0_record_8 : decode cX0_record 8 = .ok (.astore_n 2, 1) := by decide +kernel
theorem dX0_record_9 : decode cX0_record 9 = .ok (.aload_n 2, 1) := by decide +kernel
theorem dX0_record_10 : decode cX0_record 10 = .ok (.ifnonnull 4, 3) := by decide +kernel
theorem dX0_record_13 : decode cX0_record 13 = .ok (.return_, 1) := by decide +kernel
theorem dX0_record_14 : decode cX0_record 14 = .ok (.aload_n 2, 1) := by decide +kernel
theorem dX0_record_15 : decode cX0_record 15 = .ok (.aload_n 1, 1) := by decide +kernel
theorem dX0_record_16 : decode cX0_record 16 = .ok (.invokevirtual 26, 3) := by decide +kernel
theorem dX0_record_19 : decode cX0_record 19 = .ok (.aload_n 0, 1) := by decide +kernel
theorem dX0_record_20 : decode cX0_record 20 = .ok (.aload_n 0, 1) := by decide +kernel
theorem dX0_record_21 : decode cX0_record 21 = .ok (.getfield 18, 3) := by decide +kernel
theorem dX0_record_24 : decode cX0_record 24 = .ok (.iconst 1, 1) := by decide +kernel
theorem dX0_record_25 : decode cX0_record 25 = .ok (.iadd, 1) := by decide +kernel
theorem dX0_record_26 : decode cX0_record 26 = .ok (.bipush 6, 2) := by decide +kernel
theorem dX0_record_28 : decode cX0_record 28 = .ok (.if_icmp .ge 12, 3) := by decide +kernel
theorem dX0_record_31 : decode cX0_record 31 = .ok (.aload_n 0, 1) := by decide +kernel
theorem dX0_record_32 : decode cX0_record 32 = .ok (.getfield 18, 3) := by decide +kernel
theorem dX0_record_35 : decode cX0_record 35 = .ok (.iconst 1, 1) := by decide +kernel
theorem dX0_record_36 : decode cX0_record 36 = .ok (.iadd, 1) := by decide +kernel
theorem dX0_record_37 : decode cX0_record 37 = .ok (.goto 4, 3) := by decide +kernel
theorem dX0_record_40 : decode cX0_record 40 = .ok (.iconst 0, 1) := by decide +kernel
theorem dX0_record_41 : decode cX0_record 41 = .ok (.putfield 18, 3) := by decide +kernel
theorem dX0_record_44 : decode cX0_record 44 = .ok (.aload_n 0, 1) := by decide +kernel
theorem dX0_record_45 : decode cX0_record 45 = .ok (.aload_n 0, 1) := by decide +kernel
theorem dX0_record_46 : decode cX0_record 46 = .ok (.getfield 30, 3) := by decide +kernel
theorem dX0_record_49 : decode cX0_record 49 = .ok (.iconst 1, 1) := by decide +kernel
theorem dX0_record_50 : decode cX0_record 50 = .ok (.iadd, 1) := by decide +kernel
theorem dX0_record_51 : decode cX0_record 51 = .ok (.bipush 6, 2) := by decide +kernel
theorem dX0_record_53 : decode cX0_record 53 = .ok (.invokestatic 33, 3) := by decide +kernel
theorem dX0_record_56 : decode cX0_record 56 = .ok (.putfield 30, 3) := by decide +kernel
theorem dX0_record_59 : decode cX0_record 59 = .ok (.return_, 1) := by decide +kernel
theorem dX0_takeBack_0 : decode cX0_takeBack 0 = .ok (.aload_n 0, 1) := by decide +kernel
theorem dX0_takeBack_1 : decode cX0_takeBack 1 = .ok (.getfield 18, 3) := by decide +kernel
theorem dX0_takeBack_4 : decode cX0_takeBack 4 = .ok (.ifCond .le 12, 3) := by decide +kernel
theorem dX0_takeBack_7 : decode cX0_takeBack 7 = .ok (.aload_n 0, 1) := by decide +kernel
theorem dX0_takeBack_8 : decode cX0_takeBack 8 = .ok (.getfield 18, 3) := by decide +kernel
theorem dX0_takeBack_11 : decode cX0_takeBack 11 = .ok (.iconst 1, 1) := by decide +kernel
theorem dX0_takeBack_12 : decode cX0_takeBack 12 = .ok (.isub, 1) := by decide +kernel
theorem dX0_takeBack_13 : decode cX0_takeBack 13 = .ok (.goto 4, 3) := by decide +kernel
theorem dX0_takeBack_16 : decode cX0_takeBack 16 = .ok (.iconst 5, 1) := by decide +kernel
theorem dX0_takeBack_17 : decode cX0_takeBack 17 = .ok (.istore_n 2, 1) := by decide +kernel
theorem dX0_takeBack_18 : decode cX0_takeBack 18 = .ok (.aload_n 0, 1) := by decide +kernel
theorem dX0_takeBack_19 : decode cX0_takeBack 19 = .ok (.iload_n 2, 1) := by decide +kernel
theorem dX0_takeBack_20 : decode cX0_takeBack 20 = .ok (.invokevirtual 22, 3) := by decide +kernel
theorem dX0_takeBack_23 : decode cX0_takeBack 23 = .ok (.astore_n 3, 1) := by decide +kernel
theorem dX0_takeBack_24 : decode cX0_takeBack 24 = .ok (.aload_n 3, 1) := by decide +kernel
theorem dX0_takeBack_25 : decode cX0_takeBack 25 = .ok (.ifnull 10, 3) := by decide +kernel
theorem dX0_takeBack_28 : decode cX0_takeBack 28 = .ok (.aload_n 0, 1) := by decide +kernel
theorem dX0_takeBack_29 : decode cX0_takeBack 29 = .ok (.getfield 30, 3) := by decide +kernel
theorem dX0_takeBack_32 : decode cX0_takeBack 32 = .ok (.ifCond .ne 4, 3) := by decide +kernel
theorem dX0_takeBack_35 : decode cX0_takeBack 35 = .ok (.return_, 1) := by decide +kernel
theorem dX0_takeBack_36 : decode cX0_takeBack 36 = .ok (.aload_n 1, 1) := by decide +kernel
theorem dX0_takeBack_37 : decode cX0_takeBack 37 = .ok (.aload_n 3, 1) := by decide +kernel
theorem dX0_takeBack_38 : decode cX0_takeBack 38 = .ok (.invokevirtual 26, 3) := by decide +kernel
theorem dX0_takeBack_41 : decode cX0_takeBack 41 = .ok (.aload_n 0, 1) := by decide +kernel
theorem dX0_takeBack_42 : decode cX0_takeBack 42 = .ok (.iload_n 2, 1) := by decide +kernel
theorem dX0_takeBack_43 : decode cX0_takeBack 43 = .ok (.putfield 18, 3) := by decide +kernel
theorem dX0_takeBack_46 : decode cX0_takeBack 46 = .ok (.aload_n 0, 1) := by decide +kernel
theorem dX0_takeBack_47 : decode cX0_takeBack 47 = .ok (.dup, 1) := by decide +kernel
theorem dX0_takeBack_48 : decode cX0_takeBack 48 = .ok (.getfield 30, 3) := by decide +kernel
theorem dX0_takeBack_51 : decode cX0_takeBack 51 = .ok (.iconst 1, 1) := by decide +kernel
theorem dX0_takeBack_52 : decode cX0_takeBack 52 = .ok (.isub, 1) := by decide +kernel
theorem dX0_takeBack_53 : decode cX0_takeBack 53 = .ok (.putfield 30, 3) := by decide +kernel
theorem dX0_takeBack_56 : decode cX0_takeBack 56 = .ok (.return_, 1) := by decide +kernel
theorem dX0_stateAt_0 : decode cX0_stateAt 0 = .ok (.iload_n 1, 1) := by decide +kernel
theorem dX0_stateAt_1 : decode cX0_stateAt 1 = .ok (.ifCond .lt 21, 3) := by decide +kernel
theorem dX0_stateAt_4 : decode cX0_stateAt 4 = .ok (.iload_n 1, 1) := by decide +kernel
theorem dX0_stateAt_5 : decode cX0_stateAt 5 = .ok (.aload_n 0, 1) := by decide +kernel
theorem dX0_stateAt_6 : decode cX0_stateAt 6 = .ok (.getfield 11, 3) := by decide +kernel
theorem dX0_stateAt_9 : decode cX0_stateAt 9 = .ok (.arraylength, 1) := by decide +kernel
theorem dX0_stateAt_10 : decode cX0_stateAt 10 = .ok (.if_icmp .ge 12, 3) := by decide +kernel
theorem dX0_stateAt_13 : decode cX0_stateAt 13 = .ok (.aload_n 0, 1) := by decide +kernel
theorem dX0_stateAt_14 : decode cX0_stateAt 14 = .ok (.getfield 11, 3) := by decide +kernel
theorem dX0_stateAt_17 : decode cX0_stateAt 17 = .ok (.iload_n 1, 1) := by decide +kernel
theorem dX0_stateAt_18 : decode cX0_stateAt 18 = .ok (.aaload, 1) := by decide +kernel
theorem dX0_stateAt_19 : decode cX0_stateAt 19 = .ok (.goto 4, 3) := by decide +kernel
theorem dX0_stateAt_22 : decode cX0_stateAt 22 = .ok (.aconst_null, 1) := by decide +kernel
theorem dX0_stateAt_23 : decode cX0_stateAt 23 = .ok (.areturn, 1) := by decide +kernel
theorem dX1_init_0 : decode cX1_init 0 = .ok (.aload_n 0, 1) := by decide +kernel
theorem dX1_init_1 : decode cX1_init 1 = .ok (.invokespecial 3, 3) := by decide +kernel
theorem dX1_init_4 : decode cX1_init 4 = .ok (.aload_n 0, 1) := by decide +kernel
theorem dX1_init_5 : decode cX1_init 5 = .ok (.bipush 60, 2) := by decide +kernel
theorem dX1_init_7 : decode cX1_init 7 = .ok (.newarray .char, 2) := by decide +kernel
theorem dX1_init_9 : decode cX1_init 9 = .ok (.putfield 9, 3) := by decide +kernel
theorem dX1_init_12 : decode cX1_init 12 = .ok (.return_, 1) := by decide +kernel
theorem dX1_append_0 : decode cX1_append 0 = .ok (.aload_n 0, 1) := by decide +kernel
theorem dX1_append_1 : decode cX1_append 1 = .ok (.getfield 15, 3) := by decide +kernel
theorem dX1_append_4 : decode cX1_append 4 = .ok (.ifCond .lt 36, 3) := by decide +kernel
theorem dX1_append_7 : decode cX1_append 7 = .ok (.aload_n 0, 1) := by decide +kernel
theorem dX1_append_8 : decode cX1_append 8 = .ok (.getfield 15, 3) := by decide +kernel
theorem dX1_append_11 : decode cX1_append 11 = .ok (.aload_n 0, 1) := by decide +kernel
theorem dX1_append_12 : decode cX1_append 12 = .ok (.getfield 9, 3) := by decide +kernel
theorem dX1_append_15 : decode cX1_append 15 = .ok (.arraylength, 1) := by decide +kernel
theorem dX1_append_16 : decode cX1_append 16 = .ok (.if_icmp .ge 24, 3) := by decide +kernel
theorem dX1_append_19 : decode cX1_append 19 = .ok (.aload_n 0, 1) := by decide +kernel
theorem dX1_append_20 : decode cX1_append 20 = .ok (.getfield 9, 3) := by decide +kernel
theorem dX1_append_23 : decode cX1_append 23 = .ok (.aload_n 0, 1) := by decide +kernel
theorem dX1_append_24 : decode cX1_append 24 = .ok (.getfield 15, 3) := by decide +kernel
theorem dX1_append_27 : decode cX1_append 27 = .ok (.iload_n 1, 1) := by decide +kernel
theorem dX1_append_28 : decode cX1_append 28 = .ok (.i2c, 1) := by decide +kernel
theorem dX1_append_29 : decode cX1_append 29 = .ok (.castore, 1) := by decide +kernel
theorem dX1_append_30 : decode cX1_append 30 = .ok (.aload_n 0, 1) := by decide +kernel
theorem dX1_append_31 : decode cX1_append 31 = .ok (.dup, 1) := by decide +kernel
theorem dX1_append_32 : decode cX1_append 32 = .ok (.getfield 15, 3) := by decide +kernel
theorem dX1_append_35 : decode cX1_append 35 = .ok (.iconst 1, 1) := by decide +kernel
theorem dX1_append_36 : decode cX1_append 36 = .ok (.iadd, 1) := by decide +kernel
theorem dX1_append_37 : decode cX1_append 37 = .ok (.putfield 15, 3) := by decide +kernel
theorem dX1_append_40 : decode cX1_append 40 = .ok (.return_, 1) := by decide +kernel
theorem dX1_clear_0 : decode cX1_clear 0 = .ok (.aload_n 0, 1) := by decide +kernel
theorem dX1_clear_1 : decode cX1_clear 1 = .ok (.iconst 0, 1) := by decide +kernel
theorem dX1_clear_2 : decode cX1_clear 2 = .ok (.putfield 15, 3) := by decide +kernel
theorem dX1_clear_5 : decode cX1_clear 5 = .ok (.return_, 1) := by decide +kernel
theorem dX1_firstFault_0 : decode cX1_firstFault 0 = .ok (.iconst 0, 1) := by decide +kernel
theorem dX1_firstFault_1 : decode cX1_firstFault 1 = .ok (.istore_n 1, 1) := by decide +kernel
theorem dX1_firstFault_2 : decode cX1_firstFault 2 = .ok (.iconst 0, 1) := by decide +kernel
theorem dX1_firstFault_3 : decode cX1_firstFault 3 = .ok (.istore_n 2, 1) := by decide +kernel
theorem dX1_firstFault_4 : decode cX1_firstFault 4 = .ok (.iload_n 2, 1) := by decide +kernel
theorem dX1_firstFault_5 : decode cX1_firstFault 5 = .ok (.aload_n 0, 1) := by decide +kernel
theorem dX1_firstFault_6 : decode cX1_firstFault 6 = .ok (.getfield 15, 3) := by decide +kernel
theorem dX1_firstFault_9 : decode cX1_firstFault 9 = .ok (.if_icmp .ge 27, 3) := by decide +kernel
theorem dX1_firstFault_12 : decode cX1_firstFault 12 = .ok (.iload_n 1, 1) := by decide +kernel
theorem dX1_firstFault_13 : decode cX1_firstFault 13 = .ok (.aload_n 0, 1) := by decide +kernel
theorem dX1_firstFault_14 : decode cX1_firstFault 14 = .ok (.iload_n 2, 1) := by decide +kernel
theorem dX1_firstFault_15 : decode cX1_firstFault 15 = .ok (.invokevirtual 19, 3) := by decide +kernel
theorem dX1_firstFault_18 : decode cX1_firstFault 18 = .ok (.invokestatic 23, 3) := by decide +kernel
theorem dX1_firstFault_21 : decode cX1_firstFault 21 = .ok (.istore_n 1, 1) := by decide +kernel
theorem dX1_firstFault_22 : decode cX1_firstFault 22 = .ok (.iload_n 1, 1) := by decide +kernel
theorem dX1_firstFault_23 : decode cX1_firstFault 23 = .ok (.bipush (-6), 2) := by decide +kernel
theorem dX1_firstFault_25 : decode cX1_firstFault 25 = .ok (.if_icmp .ne 5, 3) := by decide +kernel
theorem dX1_firstFault_28 : decode cX1_firstFault 28 = .ok (.iload_n 2, 1) := by decide +kernel
theorem dX1_firstFault_29 : decode cX1_firstFault 29 = .ok (.ireturn, 1) := by decide +kernel
theorem dX1_firstFault_30 : decode cX1_firstFault 30 = .ok (.iinc 2 1, 3) := by decide +kernel
theorem dX1_firstFault_33 : decode cX1_firstFault 33 = .ok (.goto (-29), 3) := by decide +kernel
theorem dX1_firstFault_36 : decode cX1_firstFault 36 = .ok (.iload_n 1, 1) := by decide +kernel
theorem dX1_firstFault_37 : decode cX1_firstFault 37 = .ok (.bipush 6, 2) := by decide +kernel
theorem dX1_firstFault_39 : decode cX1_firstFault 39 = .ok (.if_icmp .ne 8, 3) := by decide +kernel
theorem dX1_firstFault_42 : decode cX1_firstFault 42 = .ok (.bipush (-6), 2) := by decide +kernel
theorem dX1_firstFault_44 : decode cX1_firstFault 44 = .ok (.goto 7, 3) := by decide +kernel
theorem dX1_firstFault_47 : decode cX1_firstFault 47 = .ok (.aload_n 0, 1) := by decide +kernel
theorem dX1_firstFault_48 : decode cX1_firstFault 48 = .ok (.getfield 15, 3) := by decide +kernel
theorem dX1_firstFault_51 : decode cX1_firstFault 51 = .ok (.ireturn, 1) := by decide +kernel
theorem dX1_expectedAfter_0 : decode cX1_expectedAfter 0 = .ok (.iload_n 0, 1) := by decide +kernel
theorem dX1_expectedAfter_1 : decode cX1_expectedAfter 1 = .ok (.tableswitch 122 0 5 #[39, 57, 70, 77, 95, 103], 39) := by decide +kernel
theorem dX1_expectedAfter_40 : decode cX1_expectedAfter 40 = .ok (.iload_n 1, 1) := by decide +kernel
theorem dX1_expectedAfter_41 : decode cX1_expectedAfter 41 = .ok (.bipush 48, 2) := by decide +kernel
theorem dX1_expectedAfter_43 : decode cX1_expectedAfter 43 = .ok (.bipush 53, 2) := by decide +kernel
theorem dX1_expectedAfter_45 : decode cX1_expectedAfter 45 = .ok (.invokestatic 27, 3) := by decide +kernel
theorem dX1_expectedAfter_48 : decode cX1_expectedAfter 48 = .ok (.ifCond .eq 7, 3) := by decide +kernel
theorem dX1_expectedAfter_51 : decode cX1_expectedAfter 51 = .ok (.iconst 1, 1) := by decide +kernel
theorem dX1_expectedAfter_52 : decode cX1_expectedAfter 52 = .ok (.goto 5, 3) := by decide +kernel
theorem dX1_expectedAfter_55 : decode cX1_expectedAfter 55 = .ok (.bipush (-6), 2) := by decide +kernel
theorem dX1_expectedAfter_57 : decode cX1_expectedAfter 57 = .ok (.ireturn, 1) := by decide +kernel
theorem dX1_expectedAfter_58 : decode cX1_expectedAfter 58 = .ok (.iload_n 1, 1) := by decide +kernel
theorem dX1_expectedAfter_59 : decode cX1_expectedAfter 59 = .ok (.bipush 58, 2) := by decide +kernel
theorem dX1_expectedAfter_61 : decode cX1_expectedAfter 61 = .ok (.if_icmp .ne 7, 3) := by decide +kernel
theorem dX1_expectedAfter_64 : decode cX1_expectedAfter 64 = .ok (.iconst 2, 1) := by decide +kernel
theorem dX1_expectedAfter_65 : decode cX1_expectedAfter 65 = .ok (.goto 5, 3) := by decide +kernel
theorem dX1_expectedAfter_68 : decode cX1_expectedAfter 68 = .ok (.bipush (-6), 2) := by decide +kernel
theorem dX1_expectedAfter_70 : decode cX1_expectedAfter 70 = .ok (.ireturn, 1) := by decide +kernel
theorem dX1_expectedAfter_71 : decode cX1_expectedAfter 71 = .ok (.iload_n 1, 1) := by decide +kernel
theorem dX1_expectedAfter_72 : decode cX1_expectedAfter 72 = .ok (.iconst 3, 1) := by decide +kernel
theorem dX1_expectedAfter_73 : decode cX1_expectedAfter 73 = .ok (.iconst 4, 1) := by decide +kernel
theorem dX1_expectedAfter_74 : decode cX1_expectedAfter 74 = .ok (.invokestatic 31, 3) := by decide +kernel
theorem dX1_expectedAfter_77 : decode cX1_expectedAfter 77 = .ok (.ireturn, 1) := by decide +kernel
theorem dX1_expectedAfter_78 : decode cX1_expectedAfter 78 = .ok (.iload_n 1, 1) := by decide +kernel
theorem dX1_expectedAfter_79 : decode cX1_expectedAfter 79 = .ok (.bipush 49, 2) := by decide +kernel
theorem dX1_expectedAfter_81 : decode cX1_expectedAfter 81 = .ok (.bipush 51, 2) := by decide +kernel
theorem dX1_expectedAfter_83 : decode cX1_expectedAfter 83 = .ok (.invokestatic 27, 3) := by decide +kernel
theorem dX1_expectedAfter_86 : decode cX1_expectedAfter 86 = .ok (.ifCond .eq 7, 3) := by decide +kernel
theorem dX1_expectedAfter_89 : decode cX1_expectedAfter 89 = .ok (.iconst 4, 1) := by decide +kernel
theorem dX1_expectedAfter_90 : decode cX1_expectedAfter 90 = .ok (.goto 5, 3) := by decide +kernel
theorem dX1_expectedAfter_93 : decode cX1_expectedAfter 93 = .ok (.bipush (-6), 2) := by decide +kernel
theorem dX1_expectedAfter_95 : decode cX1_expectedAfter 95 = .ok (.ireturn, 1) := by decide +kernel
theorem dX1_expectedAfter_96 : decode cX1_expectedAfter 96 = .ok (.iload_n 1, 1) := by decide +kernel
theorem dX1_expectedAfter_97 : decode cX1_expectedAfter 97 = .ok (.iconst 5, 1) := by decide +kernel
theorem dX1_expectedAfter_98 : decode cX1_expectedAfter 98 = .ok (.bipush 6, 2) := by decide +kernel
theorem dX1_expectedAfter_100 : decode cX1_expectedAfter 100 = .ok (.invokestatic 31, 3) := by decide +kernel
theorem dX1_expectedAfter_103 : decode cX1_expectedAfter 103 = .ok (.ireturn, 1) := by decide +kernel
theorem dX1_expectedAfter_104 : decode cX1_expectedAfter 104 = .ok (.iload_n 1, 1) := by decide +kernel
theorem dX1_expectedAfter_105 : decode cX1_expectedAfter 105 = .ok (.bipush 49, 2) := by decide +kernel
theorem dX1_expectedAfter_107 : decode cX1_expectedAfter 107 = .ok (.bipush 51, 2) := by decide +kernel
theorem dX1_expectedAfter_109 : decode cX1_expectedAfter 109 = .ok (.invokestatic 27, 3) := by decide +kernel
theorem dX1_expectedAfter_112 : decode cX1_expectedAfter 112 = .ok (.ifCond .eq 8, 3) := by decide +kernel
theorem dX1_expectedAfter_115 : decode cX1_expectedAfter 115 = .ok (.bipush 6, 2) := by decide +kernel
theorem dX1_expectedAfter_117 : decode cX1_expectedAfter 117 = .ok (.goto 5, 3) := by decide +kernel
theorem dX1_expectedAfter_120 : decode cX1_expectedAfter 120 = .ok (.bipush (-6), 2) := by decide +kernel
theorem dX1_expectedAfter_122 : decode cX1_expectedAfter 122 = .ok (.ireturn, 1) := by decide +kernel
theorem dX1_expectedAfter_123 : decode cX1_expectedAfter 123 = .ok (.iload_n 1, 1) := by decide +kernel
theorem dX1_expectedAfter_124 : decode cX1_expectedAfter 124 = .ok (.bipush 59, 2) := by decide +kernel
theorem dX1_expectedAfter_126 : decode cX1_expectedAfter 126 = .ok (.if_icmp .ne 7, 3) := by decide +kernel
theorem dX1_expectedAfter_129 : decode cX1_expectedAfter 129 = .ok (.iconst 0, 1) := by decide +kernel
theorem dX1_expectedAfter_130 : decode cX1_expectedAfter 130 = .ok (.goto 5, 3) := by decide +kernel
theorem dX1_expectedAfter_133 : decode cX1_expectedAfter 133 = .ok (.bipush (-6), 2) := by decide +kernel
theorem dX1_expectedAfter_135 : decode cX1_expectedAfter 135 = .ok (.ireturn, 1) := by decide +kernel
theorem dX1_afterStartOfStep_0 : decode cX1_afterStartOfStep 0 = .ok (.iload_n 0, 1) := by decide +kernel
theorem dX1_afterStartOfStep_1 : decode cX1_afterStartOfStep 1 = .ok (.bipush 48, 2) := by decide +kernel
theorem dX1_afterStartOfStep_3 : decode cX1_afterStartOfStep 3 = .ok (.if_icmp .ne 5, 3) := by decide +kernel
theorem dX1_afterStartOfStep_6 : decode cX1_afterStartOfStep 6 = .ok (.iload_n 2, 1) := by decide +kernel
theorem dX1_afterStartOfStep_7 : decode cX1_afterStartOfStep 7 = .ok (.ireturn, 1) := by decide +kernel
theorem dX1_afterStartOfStep_8 : decode cX1_afterStartOfStep 8 = .ok (.iload_n 0, 1) := by decide +kernel
theorem dX1_afterStartOfStep_9 : decode cX1_afterStartOfStep 9 = .ok (.bipush 43, 2) := by decide +kernel
theorem dX1_afterStartOfStep_11 : decode cX1_afterStartOfStep 11 = .ok (.if_icmp .eq 9, 3) := by decide +kernel
theorem dX1_afterStartOfStep_14 : decode cX1_afterStartOfStep 14 = .ok (.iload_n 0, 1) := by decide +kernel
theorem dX1_afterStartOfStep_15 : decode cX1_afterStartOfStep 15 = .ok (.bipush 45, 2) := by decide +kernel
theorem dX1_afterStartOfStep_17 : decode cX1_afterStartOfStep 17 = .ok (.if_icmp .ne 7, 3) := by decide +kernel
theorem dX1_afterStartOfStep_20 : decode cX1_afterStartOfStep 20 = .ok (.iload_n 1, 1) := by decide +kernel
theorem dX1_afterStartOfStep_21 : decode cX1_afterStartOfStep 21 = .ok (.goto 5, 3) := by decide +kernel
theorem dX1_afterStartOfStep_24 : decode cX1_afterStartOfStep 24 = .ok (.bipush (-6), 2) := by decide +kernel
theorem dX1_afterStartOfStep_26 : decode cX1_afterStartOfStep 26 = .ok (.ireturn, 1) := by decide +kernel
theorem dX1_signAt_0 : decode cX1_signAt 0 = .ok (.iload_n 1, 1) := by decide +kernel
theorem dX1_signAt_1 : decode cX1_signAt 1 = .ok (.ifCond .lt 29, 3) := by decide +kernel
theorem dX1_signAt_4 : decode cX1_signAt 4 = .ok (.iload_n 1, 1) := by decide +kernel
theorem dX1_signAt_5 : decode cX1_signAt 5 = .ok (.aload_n 0, 1) := by decide +kernel
theorem dX1_signAt_6 : decode cX1_signAt 6 = .ok (.getfield 15, 3) := by decide +kernel
theorem dX1_signAt_9 : decode cX1_signAt 9 = .ok (.if_icmp .ge 21, 3) := by decide +kernel
theorem dX1_signAt_12 : decode cX1_signAt 12 = .ok (.iload_n 1, 1) := by decide +kernel
theorem dX1_signAt_13 : decode cX1_signAt 13 = .ok (.aload_n 0, 1) := by decide +kernel
theorem dX1_signAt_14 : decode cX1_signAt 14 = .ok (.getfield 9, 3) := by decide +kernel
theorem dX1_signAt_17 : decode cX1_signAt 17 = .ok (.arraylength, 1) := by decide +kernel
theorem dX1_signAt_18 : decode cX1_signAt 18 = .ok (.if_icmp .ge 12, 3) := by decide +kernel
theorem dX1_signAt_21 : decode cX1_signAt 21 = .ok (.aload_n 0, 1) := by decide +kernel
theorem dX1_signAt_22 : decode cX1_signAt 22 = .ok (.getfield 9, 3) := by decide +kernel
theorem dX1_signAt_25 : decode cX1_signAt 25 = .ok (.iload_n 1, 1) := by decide +kernel
theorem dX1_signAt_26 : decode cX1_signAt 26 = .ok (.caload, 1) := by decide +kernel
theorem dX1_signAt_27 : decode cX1_signAt 27 = .ok (.goto 4, 3) := by decide +kernel
theorem dX1_signAt_30 : decode cX1_signAt 30 = .ok (.iconst 0, 1) := by decide +kernel
theorem dX1_signAt_31 : decode cX1_signAt 31 = .ok (.ireturn, 1) := by decide +kernel
theorem dX1_digitAt_0 : decode cX1_digitAt 0 = .ok (.aload_n 0, 1) := by decide +kernel
theorem dX1_digitAt_1 : decode cX1_digitAt 1 = .ok (.iload_n 1, 1) := by decide +kernel
theorem dX1_digitAt_2 : decode cX1_digitAt 2 = .ok (.invokevirtual 19, 3) := by decide +kernel
theorem dX1_digitAt_5 : decode cX1_digitAt 5 = .ok (.bipush 48, 2) := by decide +kernel
theorem dX1_digitAt_7 : decode cX1_digitAt 7 = .ok (.isub, 1) := by decide +kernel
theorem dX1_digitAt_8 : decode cX1_digitAt 8 = .ok (.ireturn, 1) := by decide +kernel
theorem dX1_stepAt_0 : decode cX1_stepAt 0 = .ok (.aload_n 0, 1) := by decide +kernel
theorem dX1_stepAt_1 : decode cX1_stepAt 1 = .ok (.iload_n 1, 1) := by decide +kernel
theorem dX1_stepAt_2 : decode cX1_stepAt 2 = .ok (.invokevirtual 19, 3) := by decide +kernel
theorem dX1_stepAt_5 : decode cX1_stepAt 5 = .ok (.istore_n 2, 1) := by decide +kernel
theorem dX1_stepAt_6 : decode cX1_stepAt 6 = .ok (.iload_n 2, 1) := by decide +kernel
theorem dX1_stepAt_7 : decode cX1_stepAt 7 = .ok (.bipush 48, 2) := by decide +kernel
theorem dX1_stepAt_9 : decode cX1_stepAt 9 = .ok (.if_icmp .ne 5, 3) := by decide +kernel
theorem dX1_stepAt_12 : decode cX1_stepAt 12 = .ok (.iconst 0, 1) := by decide +kernel
theorem dX1_stepAt_13 : decode cX1_stepAt 13 = .ok (.ireturn, 1) := by decide +kernel
theorem dX1_stepAt_14 : decode cX1_stepAt 14 = .ok (.iload_n 2, 1) := by decide +kernel
theorem dX1_stepAt_15 : decode cX1_stepAt 15 = .ok (.bipush 45, 2) := by decide +kernel
theorem dX1_stepAt_17 : decode cX1_stepAt 17 = .ok (.if_icmp .ne 14, 3) := by decide +kernel
theorem dX1_stepAt_20 : decode cX1_stepAt 20 = .ok (.aload_n 0, 1) := by decide +kernel
theorem dX1_stepAt_21 : decode cX1_stepAt 21 = .ok (.iload_n 1, 1) := by decide +kernel
theorem dX1_stepAt_22 : decode cX1_stepAt 22 = .ok (.iconst 1, 1) := by decide +kernel
theorem dX1_stepAt_23 : decode cX1_stepAt 23 = .ok (.iadd, 1) := by decide +kernel
theorem dX1_stepAt_24 : decode cX1_stepAt 24 = .ok (.invokevirtual 35, 3) := by decide +kernel
theorem dX1_stepAt_27 : decode cX1_stepAt 27 = .ok (.ineg, 1) := by decide +kernel
theorem dX1_stepAt_28 : decode cX1_stepAt 28 = .ok (.goto 10, 3) := by decide +kernel
theorem dX1_stepAt_31 : decode cX1_stepAt 31 = .ok (.aload_n 0, 1) := by decide +kernel
theorem dX1_stepAt_32 : decode cX1_stepAt 32 = .ok (.iload_n 1, 1) := by decide +kernel
theorem dX1_stepAt_33 : decode cX1_stepAt 33 = .ok (.iconst 1, 1) := by decide +kernel
theorem dX1_stepAt_34 : decode cX1_stepAt 34 = .ok (.iadd, 1) := by decide +kernel
theorem dX1_stepAt_35 : decode cX1_stepAt 35 = .ok (.invokevirtual 35, 3) := by decide +kernel
theorem dX1_stepAt_38 : decode cX1_stepAt 38 = .ok (.ireturn, 1) := by decide +kernel
theorem dX1_afterKite_0 : decode cX1_afterKite 0 = .ok (.iload_n 1, 1) := by decide +kernel
theorem dX1_afterKite_1 : decode cX1_afterKite 1 = .ok (.iconst 2, 1) := by decide +kernel
theorem dX1_afterKite_2 : decode cX1_afterKite 2 = .ok (.iadd, 1) := by decide +kernel
theorem dX1_afterKite_3 : decode cX1_afterKite 3 = .ok (.ireturn, 1) := by decide +kernel
theorem dX1_afterStep_0 : decode cX1_afterStep 0 = .ok (.aload_n 0, 1) := by decide +kernel
theorem dX1_afterStep_1 : decode cX1_afterStep 1 = .ok (.iload_n 1, 1) := by decide +kernel
theorem dX1_afterStep_2 : decode cX1_afterStep 2 = .ok (.invokevirtual 19, 3) := by decide +kernel
theorem dX1_afterStep_5 : decode cX1_afterStep 5 = .ok (.bipush 48, 2) := by decide +kernel
theorem dX1_afterStep_7 : decode cX1_afterStep 7 = .ok (.if_icmp .ne 9, 3) := by decide +kernel
theorem dX1_afterStep_10 : decode cX1_afterStep 10 = .ok (.iload_n 1, 1) := by decide +kernel
theorem dX1_afterStep_11 : decode cX1_afterStep 11 = .ok (.iconst 1, 1) := by decide +kernel
theorem dX1_afterStep_12 : decode cX1_afterStep 12 = .ok (.iadd, 1) := by decide +kernel
theorem dX1_afterStep_13 : decode cX1_afterStep 13 = .ok (.goto 6, 3) := by decide +kernel
theorem dX1_afterStep_16 : decode cX1_afterStep 16 = .ok (.iload_n 1, 1) := by decide +kernel
theorem dX1_afterStep_17 : decode cX1_afterStep 17 = .ok (.iconst 2, 1) := by decide +kernel
theorem dX1_afterStep_18 : decode cX1_afterStep 18 = .ok (.iadd, 1) := by decide +kernel
theorem dX1_afterStep_19 : decode cX1_afterStep 19 = .ok (.ireturn, 1) := by decide +kernel
theorem dX1_afterSemicolon_0 : decode cX1_afterSemicolon 0 = .ok (.iload_n 1, 1) := by decide +kernel
theorem dX1_afterSemicolon_1 : decode cX1_afterSemicolon 1 = .ok (.iconst 1, 1) := by decide +kernel
theorem dX1_afterSemicolon_2 : decode cX1_afterSemicolon 2 = .ok (.iadd, 1) := by decide +kernel
theorem dX1_afterSemicolon_3 : decode cX1_afterSemicolon 3 = .ok (.ireturn, 1) := by decide +kernel
theorem dX2_init_0 : decode cX2_init 0 = .ok (.aload_n 0, 1) := by decide +kernel
theorem dX2_init_1 : decode cX2_init 1 = .ok (.invokespecial 3, 3) := by decide +kernel
theorem dX2_init_4 : decode cX2_init 4 = .ok (.aload_n 0, 1) := by decide +kernel
theorem dX2_init_5 : decode cX2_init 5 = .ok (.bipush 6, 2) := by decide +kernel
theorem dX2_init_7 : decode cX2_init 7 = .ok (.newarray .int, 2) := by decide +kernel
theorem dX2_init_9 : decode cX2_init 9 = .ok (.putfield 9, 3) := by decide +kernel
theorem dX2_init_12 : decode cX2_init 12 = .ok (.aload_n 0, 1) := by decide +kernel
theorem dX2_init_13 : decode cX2_init 13 = .ok (.bipush 6, 2) := by decide +kernel
theorem dX2_init_15 : decode cX2_init 15 = .ok (.newarray .int, 2) := by decide +kernel
theorem dX2_init_17 : decode cX2_init 17 = .ok (.putfield 15, 3) := by decide +kernel
theorem dX2_init_20 : decode cX2_init 20 = .ok (.aload_n 0, 1) := by decide +kernel
theorem dX2_init_21 : decode cX2_init 21 = .ok (.bipush 6, 2) := by decide +kernel
theorem dX2_init_23 : decode cX2_init 23 = .ok (.newarray .int, 2) := by decide +kernel
theorem dX2_init_25 : decode cX2_init 25 = .ok (.putfield 18, 3) := by decide +kernel
theorem dX2_init_28 : decode cX2_init 28 = .ok (.aload_n 0, 1) := by decide +kernel
theorem dX2_init_29 : decode cX2_init 29 = .ok (.bipush 6, 2) := by decide +kernel
theorem dX2_init_31 : decode cX2_init 31 = .ok (.newarray .int, 2) := by decide +kernel
theorem dX2_init_33 : decode cX2_init 33 = .ok (.putfield 21, 3) := by decide +kernel
theorem dX2_init_36 : decode cX2_init 36 = .ok (.aload_n 0, 1) := by decide +kernel
theorem dX2_init_37 : decode cX2_init 37 = .ok (.bipush 6, 2) := by decide +kernel
theorem dX2_init_39 : decode cX2_init 39 = .ok (.newarray .int, 2) := by decide +kernel
theorem dX2_init_41 : decode cX2_init 41 = .ok (.putfield 24, 3) := by decide +kernel
theorem dX2_init_44 : decode cX2_init 44 = .ok (.aload_n 0, 1) := by decide +kernel
theorem dX2_init_45 : decode cX2_init 45 = .ok (.bipush 6, 2) := by decide +kernel
theorem dX2_init_47 : decode cX2_init 47 = .ok (.newarray .int, 2) := by decide +kernel
theorem dX2_init_49 : decode cX2_init 49 = .ok (.putfield 27, 3) := by decide +kernel
theorem dX2_init_52 : decode cX2_init 52 = .ok (.aload_n 0, 1) := by decide +kernel
theorem dX2_init_53 : decode cX2_init 53 = .ok (.bipush 6, 2) := by decide +kernel
theorem dX2_init_55 : decode cX2_init 55 = .ok (.newarray .int, 2) := by decide +kernel
theorem dX2_init_57 : decode cX2_init 57 = .ok (.putfield 30, 3) := by decide +kernel
theorem dX2_init_60 : decode cX2_init 60 = .ok (.aload_n 0, 1) := by decide +kernel
theorem dX2_init_61 : decode cX2_init 61 = .ok (.bipush 6, 2) := by decide +kernel
theorem dX2_init_63 : decode cX2_init 63 = .ok (.newarray .int, 2) := by decide +kernel
theorem dX2_init_65 : decode cX2_init 65 = .ok (.putfield 33, 3) := by decide +kernel
theorem dX2_init_68 : decode cX2_init 68 = .ok (.aload_n 0, 1) := by decide +kernel
theorem dX2_init_69 : decode cX2_init 69 = .ok (.bipush 6, 2) := by decide +kernel
theorem dX2_init_71 : decode cX2_init 71 = .ok (.newarray .int, 2) := by decide +kernel
theorem dX2_init_73 : decode cX2_init 73 = .ok (.putfield 36, 3) := by decide +kernel
theorem dX2_init_76 : decode cX2_init 76 = .ok (.aload_n 0, 1) := by decide +kernel
theorem dX2_init_77 : decode cX2_init 77 = .ok (.bipush 6, 2) := by decide +kernel
theorem dX2_init_79 : decode cX2_init 79 = .ok (.newarray .int, 2) := by decide +kernel
theorem dX2_init_81 : decode cX2_init 81 = .ok (.putfield 39, 3) := by decide +kernel
theorem dX2_init_84 : decode cX2_init 84 = .ok (.aload_n 0, 1) := by decide +kernel
theorem dX2_init_85 : decode cX2_init 85 = .ok (.bipush 6, 2) := by decide +kernel
theorem dX2_init_87 : decode cX2_init 87 = .ok (.newarray .int, 2) := by decide +kernel
theorem dX2_init_89 : decode cX2_init 89 = .ok (.putfield 42, 3) := by decide +kernel
theorem dX2_init_92 : decode cX2_init 92 = .ok (.aload_n 0, 1) := by decide +kernel
theorem dX2_init_93 : decode cX2_init 93 = .ok (.bipush 6, 2) := by decide +kernel
theorem dX2_init_95 : decode cX2_init 95 = .ok (.newarray .int, 2) := by decide +kernel
theorem dX2_init_97 : decode cX2_init 97 = .ok (.putfield 45, 3) := by decide +kernel
theorem dX2_init_100 : decode cX2_init 100 = .ok (.aload_n 0, 1) := by decide +kernel
theorem dX2_init_101 : decode cX2_init 101 = .ok (.sipush 192, 3) := by decide +kernel
theorem dX2_init_104 : decode cX2_init 104 = .ok (.newarray .int, 2) := by decide +kernel
theorem dX2_init_106 : decode cX2_init 106 = .ok (.putfield 48, 3) := by decide +kernel
theorem dX2_init_109 : decode cX2_init 109 = .ok (.return_, 1) := by decide +kernel
theorem dX2_copyFrom_0 : decode cX2_copyFrom 0 = .ok (.aload_n 0, 1) := by decide +kernel
theorem dX2_copyFrom_1 : decode cX2_copyFrom 1 = .ok (.aload_n 1, 1) := by decide +kernel
theorem dX2_copyFrom_2 : decode cX2_copyFrom 2 = .ok (.getfield 51, 3) := by decide +kernel
theorem dX2_copyFrom_5 : decode cX2_copyFrom 5 = .ok (.putfield 51, 3) := by decide +kernel
theorem dX2_copyFrom_8 : decode cX2_copyFrom 8 = .ok (.aload_n 0, 1) := by decide +kernel
theorem dX2_copyFrom_9 : decode cX2_copyFrom 9 = .ok (.aload_n 1, 1) := by decide +kernel
theorem dX2_copyFrom_10 : decode cX2_copyFrom 10 = .ok (.getfield 55, 3) := by decide +kernel
theorem dX2_copyFrom_13 : decode cX2_copyFrom 13 = .ok (.putfield 55, 3) := by decide +kernel
theorem dX2_copyFrom_16 : decode cX2_copyFrom 16 = .ok (.aload_n 0, 1) := by decide +kernel
theorem dX2_copyFrom_17 : decode cX2_copyFrom 17 = .ok (.aload_n 1, 1) := by decide +kernel
theorem dX2_copyFrom_18 : decode cX2_copyFrom 18 = .ok (.getfield 58, 3) := by decide +kernel
theorem dX2_copyFrom_21 : decode cX2_copyFrom 21 = .ok (.putfield 58, 3) := by decide +kernel
theorem dX2_copyFrom_24 : decode cX2_copyFrom 24 = .ok (.aload_n 0, 1) := by decide +kernel
theorem dX2_copyFrom_25 : decode cX2_copyFrom 25 = .ok (.aload_n 1, 1) := by decide +kernel
theorem dX2_copyFrom_26 : decode cX2_copyFrom 26 = .ok (.getfield 61, 3) := by decide +kernel
theorem dX2_copyFrom_29 : decode cX2_copyFrom 29 = .ok (.putfield 61, 3) := by decide +kernel
theorem dX2_copyFrom_32 : decode cX2_copyFrom 32 = .ok (.aload_n 1, 1) := by decide +kernel
theorem dX2_copyFrom_33 : decode cX2_copyFrom 33 = .ok (.getfield 9, 3) := by decide +kernel
theorem dX2_copyFrom_36 : decode cX2_copyFrom 36 = .ok (.aload_n 0, 1) := by decide +kernel
theorem dX2_copyFrom_37 : decode cX2_copyFrom 37 = .ok (.getfield 9, 3) := by decide +kernel
theorem dX2_copyFrom_40 : decode cX2_copyFrom 40 = .ok (.invokestatic 64, 3) := by decide +kernel
theorem dX2_copyFrom_43 : decode cX2_copyFrom 43 = .ok (.aload_n 1, 1) := by decide +kernel
theorem dX2_copyFrom_44 : decode cX2_copyFrom 44 = .ok (.getfield 15, 3) := by decide +kernel
theorem dX2_copyFrom_47 : decode cX2_copyFrom 47 = .ok (.aload_n 0, 1) := by decide +kernel
theorem dX2_copyFrom_48 : decode cX2_copyFrom 48 = .ok (.getfield 15, 3) := by decide +kernel
theorem dX2_copyFrom_51 : decode cX2_copyFrom 51 = .ok (.invokestatic 64, 3) := by decide +kernel
theorem dX2_copyFrom_54 : decode cX2_copyFrom 54 = .ok (.aload_n 1, 1) := by decide +kernel
theorem dX2_copyFrom_55 : decode cX2_copyFrom 55 = .ok (.getfield 18, 3) := by decide +kernel
theorem dX2_copyFrom_58 : decode cX2_copyFrom 58 = .ok (.aload_n 0, 1) := by decide +kernel
theorem dX2_copyFrom_59 : decode cX2_copyFrom 59 = .ok (.getfield 18, 3) := by decide +kernel
theorem dX2_copyFrom_62 : decode cX2_copyFrom 62 = .ok (.invokestatic 64, 3) := by decide +kernel
theorem dX2_copyFrom_65 : decode cX2_copyFrom 65 = .ok (.aload_n 1, 1) := by decide +kernel
theorem dX2_copyFrom_66 : decode cX2_copyFrom 66 = .ok (.getfield 21, 3) := by decide +kernel
theorem dX2_copyFrom_69 : decode cX2_copyFrom 69 = .ok (.aload_n 0, 1) := by decide +kernel
theorem dX2_copyFrom_70 : decode cX2_copyFrom 70 = .ok (.getfield 21, 3) := by decide +kernel
theorem dX2_copyFrom_73 : decode cX2_copyFrom 73 = .ok (.invokestatic 64, 3) := by decide +kernel
theorem dX2_copyFrom_76 : decode cX2_copyFrom 76 = .ok (.aload_n 1, 1) := by decide +kernel
theorem dX2_copyFrom_77 : decode cX2_copyFrom 77 = .ok (.getfield 24, 3) := by decide +kernel
theorem dX2_copyFrom_80 : decode cX2_copyFrom 80 = .ok (.aload_n 0, 1) := by decide +kernel
theorem dX2_copyFrom_81 : decode cX2_copyFrom 81 = .ok (.getfield 24, 3) := by decide +kernel
theorem dX2_copyFrom_84 : decode cX2_copyFrom 84 = .ok (.invokestatic 64, 3) := by decide +kernel
theorem dX2_copyFrom_87 : decode cX2_copyFrom 87 = .ok (.aload_n 1, 1) := by decide +kernel
theorem dX2_copyFrom_88 : decode cX2_copyFrom 88 = .ok (.getfield 27, 3) := by decide +kernel
theorem dX2_copyFrom_91 : decode cX2_copyFrom 91 = .ok (.aload_n 0, 1) := by decide +kernel
theorem dX2_copyFrom_92 : decode cX2_copyFrom 92 = .ok (.getfield 27, 3) := by decide +kernel
theorem dX2_copyFrom_95 : decode cX2_copyFrom 95 = .ok (.invokestatic 64, 3) := by decide +kernel
theorem dX2_copyFrom_98 : decode cX2_copyFrom 98 = .ok (.aload_n 1, 1) := by decide +kernel
theorem dX2_copyFrom_99 : decode cX2_copyFrom 99 = .ok (.getfield 30, 3) := by decide +kernel
theorem dX2_copyFrom_102 : decode cX2_copyFrom 102 = .ok (.aload_n 0, 1) := by decide +kernel
theorem dX2_copyFrom_103 : decode cX2_copyFrom 103 = .ok (.getfield 30, 3) := by decide +kernel
theorem dX2_copyFrom_106 : decode cX2_copyFrom 106 = .ok (.invokestatic 64, 3) := by decide +kernel
theorem dX2_copyFrom_109 : decode cX2_copyFrom 109 = .ok (.aload_n 1, 1) := by decide +kernel
theorem dX2_copyFrom_110 : decode cX2_copyFrom 110 = .ok (.getfield 33, 3) := by decide +kernel
theorem dX2_copyFrom_113 : decode cX2_copyFrom 113 = .ok (.aload_n 0, 1) := by decide +kernel
theorem dX2_copyFrom_114 : decode cX2_copyFrom 114 = .ok (.getfield 33, 3) := by decide +kernel
theorem dX2_copyFrom_117 : decode cX2_copyFrom 117 = .ok (.invokestatic 64, 3) := by decide +kernel
theorem dX2_copyFrom_120 : decode cX2_copyFrom 120 = .ok (.aload_n 1, 1) := by decide +kernel
theorem dX2_copyFrom_121 : decode cX2_copyFrom 121 = .ok (.getfield 36, 3) := by decide +kernel
theorem dX2_copyFrom_124 : decode cX2_copyFrom 124 = .ok (.aload_n 0, 1) := by decide +kernel
theorem dX2_copyFrom_125 : decode cX2_copyFrom 125 = .ok (.getfield 36, 3) := by decide +kernel
theorem dX2_copyFrom_128 : decode cX2_copyFrom 128 = .ok (.invokestatic 64, 3) := by decide +kernel
theorem dX2_copyFrom_131 : decode cX2_copyFrom 131 = .ok (.aload_n 1, 1) := by decide +kernel
theorem dX2_copyFrom_132 : decode cX2_copyFrom 132 = .ok (.getfield 39, 3) := by decide +kernel
theorem dX2_copyFrom_135 : decode cX2_copyFrom 135 = .ok (.aload_n 0, 1) := by decide +kernel
theorem dX2_copyFrom_136 : decode cX2_copyFrom 136 = .ok (.getfield 39, 3) := by decide +kernel
theorem dX2_copyFrom_139 : decode cX2_copyFrom 139 = .ok (.invokestatic 64, 3) := by decide +kernel
theorem dX2_copyFrom_142 : decode cX2_copyFrom 142 = .ok (.aload_n 1, 1) := by decide +kernel
theorem dX2_copyFrom_143 : decode cX2_copyFrom 143 = .ok (.getfield 42, 3) := by decide +kernel
theorem dX2_copyFrom_146 : decode cX2_copyFrom 146 = .ok (.aload_n 0, 1) := by decide +kernel
theorem dX2_copyFrom_147 : decode cX2_copyFrom 147 = .ok (.getfield 42, 3) := by decide +kernel
theorem dX2_copyFrom_150 : decode cX2_copyFrom 150 = .ok (.invokestatic 64, 3) := by decide +kernel
theorem dX2_copyFrom_153 : decode cX2_copyFrom 153 = .ok (.aload_n 1, 1) := by decide +kernel
theorem dX2_copyFrom_154 : decode cX2_copyFrom 154 = .ok (.getfield 45, 3) := by decide +kernel
theorem dX2_copyFrom_157 : decode cX2_copyFrom 157 = .ok (.aload_n 0, 1) := by decide +kernel
theorem dX2_copyFrom_158 : decode cX2_copyFrom 158 = .ok (.getfield 45, 3) := by decide +kernel
theorem dX2_copyFrom_161 : decode cX2_copyFrom 161 = .ok (.invokestatic 64, 3) := by decide +kernel
theorem dX2_copyFrom_164 : decode cX2_copyFrom 164 = .ok (.aload_n 1, 1) := by decide +kernel
theorem dX2_copyFrom_165 : decode cX2_copyFrom 165 = .ok (.getfield 48, 3) := by decide +kernel
theorem dX2_copyFrom_168 : decode cX2_copyFrom 168 = .ok (.aload_n 0, 1) := by decide +kernel
theorem dX2_copyFrom_169 : decode cX2_copyFrom 169 = .ok (.getfield 48, 3) := by decide +kernel
theorem dX2_copyFrom_172 : decode cX2_copyFrom 172 = .ok (.invokestatic 64, 3) := by decide +kernel
theorem dX2_copyFrom_175 : decode cX2_copyFrom 175 = .ok (.return_, 1) := by decide +kernel
theorem dX2_copyRow_0 : decode cX2_copyRow 0 = .ok (.aload_n 0, 1) := by decide +kernel
theorem dX2_copyRow_1 : decode cX2_copyRow 1 = .ok (.iconst 0, 1) := by decide +kernel
theorem dX2_copyRow_2 : decode cX2_copyRow 2 = .ok (.aload_n 1, 1) := by decide +kernel
theorem dX2_copyRow_3 : decode cX2_copyRow 3 = .ok (.iconst 0, 1) := by decide +kernel
theorem dX2_copyRow_4 : decode cX2_copyRow 4 = .ok (.aload_n 0, 1) := by decide +kernel
theorem dX2_copyRow_5 : decode cX2_copyRow 5 = .ok (.arraylength, 1) := by decide +kernel
theorem dX2_copyRow_6 : decode cX2_copyRow 6 = .ok (.aload_n 1, 1) := by decide +kernel
theorem dX2_copyRow_7 : decode cX2_copyRow 7 = .ok (.arraylength, 1) := by decide +kernel
theorem dX2_copyRow_8 : decode cX2_copyRow 8 = .ok (.invokestatic 68, 3) := by decide +kernel
theorem dX2_copyRow_11 : decode cX2_copyRow 11 = .ok (.invokestatic 74, 3) := by decide +kernel
theorem dX2_copyRow_14 : decode cX2_copyRow 14 = .ok (.return_, 1) := by decide +kernel
theorem dX2_has_0 : decode cX2_has 0 = .ok (.iload_n 1, 1) := by decide +kernel
theorem dX2_has_1 : decode cX2_has 1 = .ok (.ifCond .lt 21, 3) := by decide +kernel
theorem dX2_has_4 : decode cX2_has 4 = .ok (.iload_n 1, 1) := by decide +kernel
theorem dX2_has_5 : decode cX2_has 5 = .ok (.aload_n 0, 1) := by decide +kernel
theorem dX2_has_6 : decode cX2_has 6 = .ok (.getfield 51, 3) := by decide +kernel
theorem dX2_has_9 : decode cX2_has 9 = .ok (.if_icmp .ge 13, 3) := by decide +kernel
theorem dX2_has_12 : decode cX2_has 12 = .ok (.iload_n 1, 1) := by decide +kernel
theorem dX2_has_13 : decode cX2_has 13 = .ok (.bipush 6, 2) := by decide +kernel
theorem dX2_has_15 : decode cX2_has 15 = .ok (.if_icmp .ge 7, 3) := by decide +kernel
theorem dX2_has_18 : decode cX2_has 18 = .ok (.iconst 1, 1) := by decide +kernel
theorem dX2_has_19 : decode cX2_has 19 = .ok (.goto 4, 3) := by decide +kernel
theorem dX2_has_22 : decode cX2_has 22 = .ok (.iconst 0, 1) := by decide +kernel
theorem dX2_has_23 : decode cX2_has 23 = .ok (.ireturn, 1) := by decide +kernel
theorem dX2_isFlying_0 : decode cX2_isFlying 0 = .ok (.aload_n 0, 1) := by decide +kernel
theorem dX2_isFlying_1 : decode cX2_isFlying 1 = .ok (.iload_n 1, 1) := by decide +kernel
theorem dX2_isFlying_2 : decode cX2_isFlying 2 = .ok (.invokevirtual 80, 3) := by decide +kernel
theorem dX2_isFlying_5 : decode cX2_isFlying 5 = .ok (.ifCond .eq 16, 3) := by decide +kernel
theorem dX2_isFlying_8 : decode cX2_isFlying 8 = .ok (.aload_n 0, 1) := by decide +kernel
theorem dX2_isFlying_9 : decode cX2_isFlying 9 = .ok (.getfield 36, 3) := by decide +kernel
theorem dX2_isFlying_12 : decode cX2_isFlying 12 = .ok (.iload_n 1, 1) := by decide +kernel
theorem dX2_isFlying_13 : decode cX2_isFlying 13 = .ok (.iaload, 1) := by decide +kernel
theorem dX2_isFlying_14 : decode cX2_isFlying 14 = .ok (.ifCond .ne 7, 3) := by decide +kernel
theorem dX2_isFlying_17 : decode cX2_isFlying 17 = .ok (.iconst 1, 1) := by decide +kernel
theorem dX2_isFlying_18 : decode cX2_isFlying 18 = .ok (.goto 4, 3) := by decide +kernel
theorem dX2_isFlying_21 : decode cX2_isFlying 21 = .ok (.iconst 0, 1) := by decide +kernel
theorem dX2_isFlying_22 : decode cX2_isFlying 22 = .ok (.ireturn, 1) := by decide +kernel
theorem dX2_addKite_0 : decode cX2_addKite 0 = .ok (.aload_n 0, 1) := by decide +kernel
theorem dX2_addKite_1 : decode cX2_addKite 1 = .ok (.getfield 51, 3) := by decide +kernel
theorem dX2_addKite_4 : decode cX2_addKite 4 = .ok (.istore 6, 2) := by decide +kernel
theorem dX2_addKite_6 : decode cX2_addKite 6 = .ok (.aload_n 0, 1) := by decide +kernel
theorem dX2_addKite_7 : decode cX2_addKite 7 = .ok (.getfield 39, 3) := by decide +kernel
theorem dX2_addKite_10 : decode cX2_addKite 10 = .ok (.iload 6, 2) := by decide +kernel
theorem dX2_addKite_12 : decode cX2_addKite 12 = .ok (.iload_n 1, 1) := by decide +kernel
theorem dX2_addKite_13 : decode cX2_addKite 13 = .ok (.iastore, 1) := by decide +kernel
theorem dX2_addKite_14 : decode cX2_addKite 14 = .ok (.aload_n 0, 1) := by decide +kernel
theorem dX2_addKite_15 : decode cX2_addKite 15 = .ok (.getfield 42, 3) := by decide +kernel
theorem dX2_addKite_18 : decode cX2_addKite 18 = .ok (.iload 6, 2) := by decide +kernel
theorem dX2_addKite_20 : decode cX2_addKite 20 = .ok (.iload_n 2, 1) := by decide +kernel
theorem dX2_addKite_21 : decode cX2_addKite 21 = .ok (.iastore, 1) := by decide +kernel
theorem dX2_addKite_22 : decode cX2_addKite 22 = .ok (.aload_n 0, 1) := by decide +kernel
theorem dX2_addKite_23 : decode cX2_addKite 23 = .ok (.getfield 45, 3) := by decide +kernel
theorem dX2_addKite_26 : decode cX2_addKite 26 = .ok (.iload 6, 2) := by decide +kernel
theorem dX2_addKite_28 : decode cX2_addKite 28 = .ok (.iload_n 3, 1) := by decide +kernel
theorem dX2_addKite_29 : decode cX2_addKite 29 = .ok (.iastore, 1) := by decide +kernel
theorem dX2_addKite_30 : decode cX2_addKite 30 = .ok (.aload_n 0, 1) := by decide +kernel
theorem dX2_addKite_31 : decode cX2_addKite 31 = .ok (.getfield 27, 3) := by decide +kernel
theorem dX2_addKite_34 : decode cX2_addKite 34 = .ok (.iload 6, 2) := by decide +kernel
theorem dX2_addKite_36 : decode cX2_addKite 36 = .ok (.iload 4, 2) := by decide +kernel
theorem dX2_addKite_38 : decode cX2_addKite 38 = .ok (.iastore, 1) := by decide +kernel
theorem dX2_addKite_39 : decode cX2_addKite 39 = .ok (.aload_n 0, 1) := by decide +kernel
theorem dX2_addKite_40 : decode cX2_addKite 40 = .ok (.getfield 30, 3) := by decide +kernel
theorem dX2_addKite_43 : decode cX2_addKite 43 = .ok (.iload 6, 2) := by decide +kernel
theorem dX2_addKite_45 : decode cX2_addKite 45 = .ok (.iload 5, 2) := by decide +kernel
theorem dX2_addKite_47 : decode cX2_addKite 47 = .ok (.iastore, 1) := by decide +kernel
theorem dX2_addKite_48 : decode cX2_addKite 48 = .ok (.aload_n 0, 1) := by decide +kernel
theorem dX2_addKite_49 : decode cX2_addKite 49 = .ok (.getfield 33, 3) := by decide +kernel
theorem dX2_addKite_52 : decode cX2_addKite 52 = .ok (.iload 6, 2) := by decide +kernel
theorem dX2_addKite_54 : decode cX2_addKite 54 = .ok (.iconst 0, 1) := by decide +kernel
theorem dX2_addKite_55 : decode cX2_addKite 55 = .ok (.iastore, 1) := by decide +kernel
theorem dX2_addKite_56 : decode cX2_addKite 56 = .ok (.aload_n 0, 1) := by decide +kernel
theorem dX2_addKite_57 : decode cX2_addKite 57 = .ok (.iload 6, 2) := by decide +kernel
theorem dX2_addKite_59 : decode cX2_addKite 59 = .ok (.invokevirtual 84, 3) := by decide +kernel
theorem dX2_addKite_62 : decode cX2_addKite 62 = .ok (.aload_n 0, 1) := by decide +kernel
theorem dX2_addKite_63 : decode cX2_addKite 63 = .ok (.dup, 1) := by decide +kernel
theorem dX2_addKite_64 : decode cX2_addKite 64 = .ok (.getfield 51, 3) := by decide +kernel
theorem dX2_addKite_67 : decode cX2_addKite 67 = .ok (.iconst 1, 1) := by decide +kernel
theorem dX2_addKite_68 : decode cX2_addKite 68 = .ok (.iadd, 1) := by decide +kernel
theorem dX2_addKite_69 : decode cX2_addKite 69 = .ok (.putfield 51, 3) := by decide +kernel
theorem dX2_addKite_72 : decode cX2_addKite 72 = .ok (.iload 6, 2) := by decide +kernel
theorem dX2_addKite_74 : decode cX2_addKite 74 = .ok (.ireturn, 1) := by decide +kernel
theorem dX2_sendUp_0 : decode cX2_sendUp 0 = .ok (.aload_n 0, 1) := by decide +kernel
theorem dX2_sendUp_1 : decode cX2_sendUp 1 = .ok (.getfield 9, 3) := by decide +kernel
theorem dX2_sendUp_4 : decode cX2_sendUp 4 = .ok (.iload_n 1, 1) := by decide +kernel
theorem dX2_sendUp_5 : decode cX2_sendUp 5 = .ok (.aload_n 0, 1) := by decide +kernel
theorem dX2_sendUp_6 : decode cX2_sendUp 6 = .ok (.getfield 39, 3) := by decide +kernel
theorem dX2_sendUp_9 : decode cX2_sendUp 9 = .ok (.iload_n 1, 1) := by decide +kernel
theorem dX2_sendUp_10 : decode cX2_sendUp 10 = .ok (.iaload, 1) := by decide +kernel
theorem dX2_sendUp_11 : decode cX2_sendUp 11 = .ok (.iastore, 1) := by decide +kernel
theorem dX2_sendUp_12 : decode cX2_sendUp 12 = .ok (.aload_n 0, 1) := by decide +kernel
theorem dX2_sendUp_13 : decode cX2_sendUp 13 = .ok (.getfield 15, 3) := by decide +kernel
theorem dX2_sendUp_16 : decode cX2_sendUp 16 = .ok (.iload_n 1, 1) := by decide +kernel
theorem dX2_sendUp_17 : decode cX2_sendUp 17 = .ok (.aload_n 0, 1) := by decide +kernel
theorem dX2_sendUp_18 : decode cX2_sendUp 18 = .ok (.getfield 42, 3) := by decide +kernel
theorem dX2_sendUp_21 : decode cX2_sendUp 21 = .ok (.iload_n 1, 1) := by decide +kernel
theorem dX2_sendUp_22 : decode cX2_sendUp 22 = .ok (.iaload, 1) := by decide +kernel
theorem dX2_sendUp_23 : decode cX2_sendUp 23 = .ok (.iastore, 1) := by decide +kernel
theorem dX2_sendUp_24 : decode cX2_sendUp 24 = .ok (.aload_n 0, 1) := by decide +kernel
theorem dX2_sendUp_25 : decode cX2_sendUp 25 = .ok (.getfield 18, 3) := by decide +kernel
theorem dX2_sendUp_28 : decode cX2_sendUp 28 = .ok (.iload_n 1, 1) := by decide +kernel
theorem dX2_sendUp_29 : decode cX2_sendUp 29 = .ok (.aload_n 0, 1) := by decide +kernel
theorem dX2_sendUp_30 : decode cX2_sendUp 30 = .ok (.getfield 45, 3) := by decide +kernel
theorem dX2_sendUp_33 : decode cX2_sendUp 33 = .ok (.iload_n 1, 1) := by decide +kernel
theorem dX2_sendUp_34 : decode cX2_sendUp 34 = .ok (.iaload, 1) := by decide +kernel
theorem dX2_sendUp_35 : decode cX2_sendUp 35 = .ok (.iastore, 1) := by decide +kernel
theorem dX2_sendUp_36 : decode cX2_sendUp 36 = .ok (.aload_n 0, 1) := by decide +kernel
theorem dX2_sendUp_37 : decode cX2_sendUp 37 = .ok (.getfield 21, 3) := by decide +kernel
theorem dX2_sendUp_40 : decode cX2_sendUp 40 = .ok (.iload_n 1, 1) := by decide +kernel
theorem dX2_sendUp_41 : decode cX2_sendUp 41 = .ok (.iconst 0, 1) := by decide +kernel
theorem dX2_sendUp_42 : decode cX2_sendUp 42 = .ok (.iastore, 1) := by decide +kernel
theorem dX2_sendUp_43 : decode cX2_sendUp 43 = .ok (.aload_n 0, 1) := by decide +kernel
theorem dX2_sendUp_44 : decode cX2_sendUp 44 = .ok (.getfield 24, 3) := by decide +kernel
theorem dX2_sendUp_47 : decode cX2_sendUp 47 = .ok (.iload_n 1, 1) := by decide +kernel
theorem dX2_sendUp_48 : decode cX2_sendUp 48 = .ok (.iconst 0, 1) := by decide +kernel
theorem dX2_sendUp_49 : decode cX2_sendUp 49 = .ok (.iastore, 1) := by decide +kernel
theorem dX2_sendUp_50 : decode cX2_sendUp 50 = .ok (.aload_n 0, 1) := by decide +kernel
theorem dX2_sendUp_51 : decode cX2_sendUp 51 = .ok (.getfield 36, 3) := by decide +kernel
theorem dX2_sendUp_54 : decode cX2_sendUp 54 = .ok (.iload_n 1, 1) := by decide +kernel
theorem dX2_sendUp_55 : decode cX2_sendUp 55 = .ok (.iconst 0, 1) := by decide +kernel
theorem dX2_sendUp_56 : decode cX2_sendUp 56 = .ok (.iastore, 1) := by decide +kernel
theorem dX2_sendUp_57 : decode cX2_sendUp 57 = .ok (.iconst 0, 1) := by decide +kernel
theorem dX2_sendUp_58 : decode cX2_sendUp 58 = .ok (.istore_n 2, 1) := by decide +kernel
theorem dX2_sendUp_59 : decode cX2_sendUp 59 = .ok (.iload_n 2, 1) := by decide +kernel
theorem dX2_sendUp_60 : decode cX2_sendUp 60 = .ok (.bipush 32, 2) := by decide +kernel
theorem dX2_sendUp_62 : decode cX2_sendUp 62 = .ok (.if_icmp .ge 21, 3) := by decide +kernel
theorem dX2_sendUp_65 : decode cX2_sendUp 65 = .ok (.aload_n 0, 1) := by decide +kernel
theorem dX2_sendUp_66 : decode cX2_sendUp 66 = .ok (.getfield 48, 3) := by decide +kernel
theorem dX2_sendUp_69 : decode cX2_sendUp 69 = .ok (.iload_n 1, 1) := by decide +kernel
theorem dX2_sendUp_70 : decode cX2_sendUp 70 = .ok (.bipush 32, 2) := by decide +kernel
theorem dX2_sendUp_72 : decode cX2_sendUp 72 = .ok (.imul, 1) := by decide +kernel
theorem dX2_sendUp_73 : decode cX2_sendUp 73 = .ok (.iload_n 2, 1) := by decide +kernel
theorem dX2_sendUp_74 : decode cX2_sendUp 74 = .ok (.iadd, 1) := by decide +kernel
theorem dX2_sendUp_75 : decode cX2_sendUp 75 = .ok (.iconst 0, 1) := by decide +kernel
theorem dX2_sendUp_76 : decode cX2_sendUp 76 = .ok (.iastore, 1) := by decide +kernel
theorem dX2_sendUp_77 : decode cX2_sendUp 77 = .ok (.iinc 2 1, 3) := by decide +kernel
theorem dX2_sendUp_80 : decode cX2_sendUp 80 = .ok (.goto (-21), 3) := by decide +kernel
theorem dX2_sendUp_83 : decode cX2_sendUp 83 = .ok (.return_, 1) := by decide +kernel
theorem dX2_beginAnew_0 : decode cX2_beginAnew 0 = .ok (.iconst 0, 1) := by decide +kernel
theorem dX2_beginAnew_1 : decode cX2_beginAnew 1 = .ok (.istore_n 1, 1) := by decide +kernel
theorem dX2_beginAnew_2 : decode cX2_beginAnew 2 = .ok (.iload_n 1, 1) := by decide +kernel
theorem dX2_beginAnew_3 : decode cX2_beginAnew 3 = .ok (.bipush 6, 2) := by decide +kernel
theorem dX2_beginAnew_5 : decode cX2_beginAnew 5 = .ok (.if_icmp .ge 22, 3) := by decide +kernel
theorem dX2_beginAnew_8 : decode cX2_beginAnew 8 = .ok (.aload_n 0, 1) := by decide +kernel
theorem dX2_beginAnew_9 : decode cX2_beginAnew 9 = .ok (.iload_n 1, 1) := by decide +kernel
theorem dX2_beginAnew_10 : decode cX2_beginAnew 10 = .ok (.invokevirtual 80, 3) := by decide +kernel
theorem dX2_beginAnew_13 : decode cX2_beginAnew 13 = .ok (.ifCond .eq 8, 3) := by decide +kernel
theorem dX2_beginAnew_16 : decode cX2_beginAnew 16 = .ok (.aload_n 0, 1) := by decide +kernel
theorem dX2_beginAnew_17 : decode cX2_beginAnew 17 = .ok (.iload_n 1, 1) := by decide +kernel
theorem dX2_beginAnew_18 : decode cX2_beginAnew 18 = .ok (.invokevirtual 84, 3) := by decide +kernel
theorem dX2_beginAnew_21 : decode cX2_beginAnew 21 = .ok (.iinc 1 1, 3) := by decide +kernel
theorem dX2_beginAnew_24 : decode cX2_beginAnew 24 = .ok (.goto (-22), 3) := by decide +kernel
theorem dX2_beginAnew_27 : decode cX2_beginAnew 27 = .ok (.aload_n 0, 1) := by decide +kernel
theorem dX2_beginAnew_28 : decode cX2_beginAnew 28 = .ok (.dup, 1) := by decide +kernel
theorem dX2_beginAnew_29 : decode cX2_beginAnew 29 = .ok (.getfield 58, 3) := by decide +kernel
theorem dX2_beginAnew_32 : decode cX2_beginAnew 32 = .ok (.iconst 1, 1) := by decide +kernel
theorem dX2_beginAnew_33 : decode cX2_beginAnew 33 = .ok (.iadd, 1) := by decide +kernel
theorem dX2_beginAnew_34 : decode cX2_beginAnew 34 = .ok (.putfield 58, 3) := by decide +kernel
theorem dX2_beginAnew_37 : decode cX2_beginAnew 37 = .ok (.return_, 1) := by decide +kernel
theorem dX2_turn_0 : decode cX2_turn 0 = .ok (.bipush 10, 2) := by decide +kernel
theorem dX2_turn_2 : decode cX2_turn 2 = .ok (.iload_n 2, 1) := by decide +kernel
theorem dX2_turn_3 : decode cX2_turn 3 = .ok (.aload_n 0, 1) := by decide +kernel
theorem dX2_turn_4 : decode cX2_turn 4 = .ok (.getfield 21, 3) := by decide +kernel
theorem dX2_turn_7 : decode cX2_turn 7 = .ok (.iload_n 1, 1) := by decide +kernel
theorem dX2_turn_8 : decode cX2_turn 8 = .ok (.iaload, 1) := by decide +kernel
theorem dX2_turn_9 : decode cX2_turn 9 = .ok (.isub, 1) := by decide +kernel
theorem dX2_turn_10 : decode cX2_turn 10 = .ok (.invokestatic 88, 3) := by decide +kernel
theorem dX2_turn_13 : decode cX2_turn 13 = .ok (.imul, 1) := by decide +kernel
theorem dX2_turn_14 : decode cX2_turn 14 = .ok (.iload_n 3, 1) := by decide +kernel
theorem dX2_turn_15 : decode cX2_turn 15 = .ok (.aload_n 0, 1) := by decide +kernel
theorem dX2_turn_16 : decode cX2_turn 16 = .ok (.getfield 24, 3) := by decide +kernel
theorem dX2_turn_19 : decode cX2_turn 19 = .ok (.iload_n 1, 1) := by decide +kernel
theorem dX2_turn_20 : decode cX2_turn 20 = .ok (.iaload, 1) := by decide +kernel
theorem dX2_turn_21 : decode cX2_turn 21 = .ok (.isub, 1) := by decide +kernel
theorem dX2_turn_22 : decode cX2_turn 22 = .ok (.invokestatic 88, 3) := by decide +kernel
theorem dX2_turn_25 : decode cX2_turn 25 = .ok (.iadd, 1) := by decide +kernel
theorem dX2_turn_26 : decode cX2_turn 26 = .ok (.istore 4, 2) := by decide +kernel
theorem dX2_turn_28 : decode cX2_turn 28 = .ok (.aload_n 0, 1) := by decide +kernel
theorem dX2_turn_29 : decode cX2_turn 29 = .ok (.getfield 21, 3) := by decide +kernel
theorem dX2_turn_32 : decode cX2_turn 32 = .ok (.iload_n 1, 1) := by decide +kernel
theorem dX2_turn_33 : decode cX2_turn 33 = .ok (.iload_n 2, 1) := by decide +kernel
theorem dX2_turn_34 : decode cX2_turn 34 = .ok (.iastore, 1) := by decide +kernel
theorem dX2_turn_35 : decode cX2_turn 35 = .ok (.aload_n 0, 1) := by decide +kernel
theorem dX2_turn_36 : decode cX2_turn 36 = .ok (.getfield 24, 3) := by decide +kernel
theorem dX2_turn_39 : decode cX2_turn 39 = .ok (.iload_n 1, 1) := by decide +kernel
theorem dX2_turn_40 : decode cX2_turn 40 = .ok (.iload_n 3, 1) := by decide +kernel
theorem dX2_turn_41 : decode cX2_turn 41 = .ok (.iastore, 1) := by decide +kernel
theorem dX2_turn_42 : decode cX2_turn 42 = .ok (.iload 4, 2) := by decide +kernel
theorem dX2_turn_44 : decode cX2_turn 44 = .ok (.ireturn, 1) := by decide +kernel
theorem dX2_move_0 : decode cX2_move 0 = .ok (.aload_n 0, 1) := by decide +kernel
theorem dX2_move_1 : decode cX2_move 1 = .ok (.getfield 15, 3) := by decide +kernel
theorem dX2_move_4 : decode cX2_move 4 = .ok (.iload_n 1, 1) := by decide +kernel
theorem dX2_move_5 : decode cX2_move 5 = .ok (.iaload, 1) := by decide +kernel
theorem dX2_move_6 : decode cX2_move 6 = .ok (.aload_n 0, 1) := by decide +kernel
theorem dX2_move_7 : decode cX2_move 7 = .ok (.getfield 21, 3) := by decide +kernel
theorem dX2_move_10 : decode cX2_move 10 = .ok (.iload_n 1, 1) := by decide +kernel
theorem dX2_move_11 : decode cX2_move 11 = .ok (.iaload, 1) := by decide +kernel
theorem dX2_move_12 : decode cX2_move 12 = .ok (.iadd, 1) := by decide +kernel
theorem dX2_move_13 : decode cX2_move 13 = .ok (.istore_n 2, 1) := by decide +kernel
theorem dX2_move_14 : decode cX2_move 14 = .ok (.iload_n 2, 1) := by decide +kernel
theorem dX2_move_15 : decode cX2_move 15 = .ok (.iconst 0, 1) := by decide +kernel
theorem dX2_move_16 : decode cX2_move 16 = .ok (.bipush 63, 2) := by decide +kernel
theorem dX2_move_18 : decode cX2_move 18 = .ok (.invokestatic 92, 3) := by decide +kernel
theorem dX2_move_21 : decode cX2_move 21 = .ok (.ifCond .eq 13, 3) := by decide +kernel
theorem dX2_move_24 : decode cX2_move 24 = .ok (.aload_n 0, 1) := by decide +kernel
theorem dX2_move_25 : decode cX2_move 25 = .ok (.getfield 15, 3) := by decide +kernel
theorem dX2_move_28 : decode cX2_move 28 = .ok (.iload_n 1, 1) := by decide +kernel
theorem dX2_move_29 : decode cX2_move 29 = .ok (.iload_n 2, 1) := by decide +kernel
theorem dX2_move_30 : decode cX2_move 30 = .ok (.iastore, 1) := by decide +kernel
theorem dX2_move_31 : decode cX2_move 31 = .ok (.goto 16, 3) := by decide +kernel
theorem dX2_move_34 : decode cX2_move 34 = .ok (.aload_n 0, 1) := by decide +kernel
theorem dX2_move_35 : decode cX2_move 35 = .ok (.getfield 21, 3) := by decide +kernel
theorem dX2_move_38 : decode cX2_move 38 = .ok (.iload_n 1, 1) := by decide +kernel
theorem dX2_move_39 : decode cX2_move 39 = .ok (.aload_n 0, 1) := by decide +kernel
theorem dX2_move_40 : decode cX2_move 40 = .ok (.getfield 21, 3) := by decide +kernel
theorem dX2_move_43 : decode cX2_move 43 = .ok (.iload_n 1, 1) := by decide +kernel
theorem dX2_move_44 : decode cX2_move 44 = .ok (.iaload, 1) := by decide +kernel
theorem dX2_move_45 : decode cX2_move 45 = .ok (.ineg, 1) := by decide +kernel
theorem dX2_move_46 : decode cX2_move 46 = .ok (.iastore, 1) := by decide +kernel
theorem dX2_move_47 : decode cX2_move 47 = .ok (.aload_n 0, 1) := by decide +kernel
theorem dX2_move_48 : decode cX2_move 48 = .ok (.getfield 18, 3) := by decide +kernel
theorem dX2_move_51 : decode cX2_move 51 = .ok (.iload_n 1, 1) := by decide +kernel
theorem dX2_move_52 : decode cX2_move 52 = .ok (.iaload, 1) := by decide +kernel
theorem dX2_move_53 : decode cX2_move 53 = .ok (.aload_n 0, 1) := by decide +kernel
theorem dX2_move_54 : decode cX2_move 54 = .ok (.getfield 24, 3) := by decide +kernel
theorem dX2_move_57 : decode cX2_move 57 = .ok (.iload_n 1, 1) := by decide +kernel
theorem dX2_move_58 : decode cX2_move 58 = .ok (.iaload, 1) := by decide +kernel
theorem dX2_move_59 : decode cX2_move 59 = .ok (.iadd, 1) := by decide +kernel
theorem dX2_move_60 : decode cX2_move 60 = .ok (.istore_n 3, 1) := by decide +kernel
theorem dX2_move_61 : decode cX2_move 61 = .ok (.iload_n 3, 1) := by decide +kernel
theorem dX2_move_62 : decode cX2_move 62 = .ok (.iconst 1, 1) := by decide +kernel
theorem dX2_move_63 : decode cX2_move 63 = .ok (.bipush 47, 2) := by decide +kernel
theorem dX2_move_65 : decode cX2_move 65 = .ok (.invokestatic 92, 3) := by decide +kernel
theorem dX2_move_68 : decode cX2_move 68 = .ok (.ifCond .eq 13, 3) := by decide +kernel
theorem dX2_move_71 : decode cX2_move 71 = .ok (.aload_n 0, 1) := by decide +kernel
theorem dX2_move_72 : decode cX2_move 72 = .ok (.getfield 18, 3) := by decide +kernel
theorem dX2_move_75 : decode cX2_move 75 = .ok (.iload_n 1, 1) := by decide +kernel
theorem dX2_move_76 : decode cX2_move 76 = .ok (.iload_n 3, 1) := by decide +kernel
theorem dX2_move_77 : decode cX2_move 77 = .ok (.iastore, 1) := by decide +kernel
theorem dX2_move_78 : decode cX2_move 78 = .ok (.goto 16, 3) := by decide +kernel
theorem dX2_move_81 : decode cX2_move 81 = .ok (.aload_n 0, 1) := by decide +kernel
theorem dX2_move_82 : decode cX2_move 82 = .ok (.getfield 24, 3) := by decide +kernel
theorem dX2_move_85 : decode cX2_move 85 = .ok (.iload_n 1, 1) := by decide +kernel
theorem dX2_move_86 : decode cX2_move 86 = .ok (.aload_n 0, 1) := by decide +kernel
theorem dX2_move_87 : decode cX2_move 87 = .ok (.getfield 24, 3) := by decide +kernel
theorem dX2_move_90 : decode cX2_move 90 = .ok (.iload_n 1, 1) := by decide +kernel
theorem dX2_move_91 : decode cX2_move 91 = .ok (.iaload, 1) := by decide +kernel
theorem dX2_move_92 : decode cX2_move 92 = .ok (.ineg, 1) := by decide +kernel
theorem dX2_move_93 : decode cX2_move 93 = .ok (.iastore, 1) := by decide +kernel
theorem dX2_move_94 : decode cX2_move 94 = .ok (.return_, 1) := by decide +kernel
theorem dX2_sliding_0 : decode cX2_sliding 0 = .ok (.iconst 1, 1) := by decide +kernel
theorem dX2_sliding_1 : decode cX2_sliding 1 = .ok (.aload_n 0, 1) := by decide +kernel
theorem dX2_sliding_2 : decode cX2_sliding 2 = .ok (.getfield 21, 3) := by decide +kernel
theorem dX2_sliding_5 : decode cX2_sliding 5 = .ok (.iload_n 1, 1) := by decide +kernel
theorem dX2_sliding_6 : decode cX2_sliding 6 = .ok (.iaload, 1) := by decide +kernel
theorem dX2_sliding_7 : decode cX2_sliding 7 = .ok (.aload_n 0, 1) := by decide +kernel
theorem dX2_sliding_8 : decode cX2_sliding 8 = .ok (.getfield 21, 3) := by decide +kernel
theorem dX2_sliding_11 : decode cX2_sliding 11 = .ok (.iload_n 2, 1) := by decide +kernel
theorem dX2_sliding_12 : decode cX2_sliding 12 = .ok (.iaload, 1) := by decide +kernel
theorem dX2_sliding_13 : decode cX2_sliding 13 = .ok (.isub, 1) := by decide +kernel
theorem dX2_sliding_14 : decode cX2_sliding 14 = .ok (.invokestatic 88, 3) := by decide +kernel
theorem dX2_sliding_17 : decode cX2_sliding 17 = .ok (.iadd, 1) := by decide +kernel
theorem dX2_sliding_18 : decode cX2_sliding 18 = .ok (.aload_n 0, 1) := by decide +kernel
theorem dX2_sliding_19 : decode cX2_sliding 19 = .ok (.getfield 24, 3) := by decide +kernel
theorem dX2_sliding_22 : decode cX2_sliding 22 = .ok (.iload_n 1, 1) := by decide +kernel
theorem dX2_sliding_23 : decode cX2_sliding 23 = .ok (.iaload, 1) := by decide +kernel
theorem dX2_sliding_24 : decode cX2_sliding 24 = .ok (.aload_n 0, 1) := by decide +kernel
theorem dX2_sliding_25 : decode cX2_sliding 25 = .ok (.getfield 24, 3) := by decide +kernel
theorem dX2_sliding_28 : decode cX2_sliding 28 = .ok (.iload_n 2, 1) := by decide +kernel
theorem dX2_sliding_29 : decode cX2_sliding 29 = .ok (.iaload, 1) := by decide +kernel
theorem dX2_sliding_30 : decode cX2_sliding 30 = .ok (.isub, 1) := by decide +kernel
theorem dX2_sliding_31 : decode cX2_sliding 31 = .ok (.invokestatic 88, 3) := by decide +kernel
theorem dX2_sliding_34 : decode cX2_sliding 34 = .ok (.iadd, 1) := by decide +kernel
theorem dX2_sliding_35 : decode cX2_sliding 35 = .ok (.ireturn, 1) := by decide +kernel
theorem dX2_rubbing_0 : decode cX2_rubbing 0 = .ok (.aload_n 0, 1) := by decide +kernel
theorem dX2_rubbing_1 : decode cX2_rubbing 1 = .ok (.getfield 27, 3) := by decide +kernel
theorem dX2_rubbing_4 : decode cX2_rubbing 4 = .ok (.iload_n 2, 1) := by decide +kernel
theorem dX2_rubbing_5 : decode cX2_rubbing 5 = .ok (.iaload, 1) := by decide +kernel
theorem dX2_rubbing_6 : decode cX2_rubbing 6 = .ok (.aload_n 0, 1) := by decide +kernel
theorem dX2_rubbing_7 : decode cX2_rubbing 7 = .ok (.iload_n 1, 1) := by decide +kernel
theorem dX2_rubbing_8 : decode cX2_rubbing 8 = .ok (.iload_n 2, 1) := by decide +kernel
theorem dX2_rubbing_9 : decode cX2_rubbing 9 = .ok (.invokevirtual 96, 3) := by decide +kernel
theorem dX2_rubbing_12 : decode cX2_rubbing 12 = .ok (.imul, 1) := by decide +kernel
theorem dX2_rubbing_13 : decode cX2_rubbing 13 = .ok (.istore 4, 2) := by decide +kernel
theorem dX2_rubbing_15 : decode cX2_rubbing 15 = .ok (.iload_n 3, 1) := by decide +kernel
theorem dX2_rubbing_16 : decode cX2_rubbing 16 = .ok (.ifCond .eq 10, 3) := by decide +kernel
theorem dX2_rubbing_19 : decode cX2_rubbing 19 = .ok (.iconst 2, 1) := by decide +kernel
theorem dX2_rubbing_20 : decode cX2_rubbing 20 = .ok (.iload 4, 2) := by decide +kernel
theorem dX2_rubbing_22 : decode cX2_rubbing 22 = .ok (.imul, 1) := by decide +kernel
theorem dX2_rubbing_23 : decode cX2_rubbing 23 = .ok (.goto 5, 3) := by decide +kernel
theorem dX2_rubbing_26 : decode cX2_rubbing 26 = .ok (.iload 4, 2) := by decide +kernel
theorem dX2_rubbing_28 : decode cX2_rubbing 28 = .ok (.ireturn, 1) := by decide +kernel
theorem dX2_wearAt_0 : decode cX2_wearAt 0 = .ok (.aload_n 0, 1) := by decide +kernel
theorem dX2_wearAt_1 : decode cX2_wearAt 1 = .ok (.getfield 48, 3) := by decide +kernel
theorem dX2_wearAt_4 : decode cX2_wearAt 4 = .ok (.iload_n 1, 1) := by decide +kernel
theorem dX2_wearAt_5 : decode cX2_wearAt 5 = .ok (.bipush 32, 2) := by decide +kernel
theorem dX2_wearAt_7 : decode cX2_wearAt 7 = .ok (.imul, 1) := by decide +kernel
theorem dX2_wearAt_8 : decode cX2_wearAt 8 = .ok (.iload_n 2, 1) := by decide +kernel
theorem dX2_wearAt_9 : decode cX2_wearAt 9 = .ok (.iadd, 1) := by decide +kernel
theorem dX2_wearAt_10 : decode cX2_wearAt 10 = .ok (.iaload, 1) := by decide +kernel
theorem dX2_wearAt_11 : decode cX2_wearAt 11 = .ok (.ireturn, 1) := by decide +kernel
theorem dX2_wearDown_0 : decode cX2_wearDown 0 = .ok (.aload_n 0, 1) := by decide +kernel
theorem dX2_wearDown_1 : decode cX2_wearDown 1 = .ok (.getfield 48, 3) := by decide +kernel
theorem dX2_wearDown_4 : decode cX2_wearDown 4 = .ok (.iload_n 1, 1) := by decide +kernel
theorem dX2_wearDown_5 : decode cX2_wearDown 5 = .ok (.bipush 32, 2) := by decide +kernel
theorem dX2_wearDown_7 : decode cX2_wearDown 7 = .ok (.imul, 1) := by decide +kernel
theorem dX2_wearDown_8 : decode cX2_wearDown 8 = .ok (.iload_n 2, 1) := by decide +kernel
theorem dX2_wearDown_9 : decode cX2_wearDown 9 = .ok (.iadd, 1) := by decide +kernel
theorem dX2_wearDown_10 : decode cX2_wearDown 10 = .ok (.dup2, 1) := by decide +kernel
theorem dX2_wearDown_11 : decode cX2_wearDown 11 = .ok (.iaload, 1) := by decide +kernel
theorem dX2_wearDown_12 : decode cX2_wearDown 12 = .ok (.iload_n 3, 1) := by decide +kernel
theorem dX2_wearDown_13 : decode cX2_wearDown 13 = .ok (.iadd, 1) := by decide +kernel
theorem dX2_wearDown_14 : decode cX2_wearDown 14 = .ok (.iastore, 1) := by decide +kernel
theorem dX2_wearDown_15 : decode cX2_wearDown 15 = .ok (.return_, 1) := by decide +kernel
theorem dX2_isWornThrough_0 : decode cX2_isWornThrough 0 = .ok (.aload_n 0, 1) := by decide +kernel
theorem dX2_isWornThrough_1 : decode cX2_isWornThrough 1 = .ok (.iload_n 1, 1) := by decide +kernel
theorem dX2_isWornThrough_2 : decode cX2_isWornThrough 2 = .ok (.iload_n 2, 1) := by decide +kernel
theorem dX2_isWornThrough_3 : decode cX2_isWornThrough 3 = .ok (.invokevirtual 99, 3) := by decide +kernel
theorem dX2_isWornThrough_6 : decode cX2_isWornThrough 6 = .ok (.aload_n 0, 1) := by decide +kernel
theorem dX2_isWornThrough_7 : decode cX2_isWornThrough 7 = .ok (.getfield 30, 3) := by decide +kernel
theorem dX2_isWornThrough_10 : decode cX2_isWornThrough 10 = .ok (.iload_n 1, 1) := by decide +kernel
theorem dX2_isWornThrough_11 : decode cX2_isWornThrough 11 = .ok (.iaload, 1) := by decide +kernel
theorem dX2_isWornThrough_12 : decode cX2_isWornThrough 12 = .ok (.if_icmp .lt 7, 3) := by decide +kernel
theorem dX2_isWornThrough_15 : decode cX2_isWornThrough 15 = .ok (.iconst 1, 1) := by decide +kernel
theorem dX2_isWornThrough_16 : decode cX2_isWornThrough 16 = .ok (.goto 4, 3) := by decide +kernel
theorem dX2_isWornThrough_19 : decode cX2_isWornThrough 19 = .ok (.iconst 0, 1) := by decide +kernel
theorem dX2_isWornThrough_20 : decode cX2_isWornThrough 20 = .ok (.ireturn, 1) := by decide +kernel
theorem dX2_mostWornPlace_0 : decode cX2_mostWornPlace 0 = .ok (.iconst 0, 1) := by decide +kernel
theorem dX2_mostWornPlace_1 : decode cX2_mostWornPlace 1 = .ok (.istore_n 2, 1) := by decide +kernel
theorem dX2_mostWornPlace_2 : decode cX2_mostWornPlace 2 = .ok (.iconst 1, 1) := by decide +kernel
theorem dX2_mostWornPlace_3 : decode cX2_mostWornPlace 3 = .ok (.istore_n 3, 1) := by decide +kernel
theorem dX2_mostWornPlace_4 : decode cX2_mostWornPlace 4 = .ok (.iload_n 3, 1) := by decide +kernel
theorem dX2_mostWornPlace_5 : decode cX2_mostWornPlace 5 = .ok (.bipush 32, 2) := by decide +kernel
theorem dX2_mostWornPlace_7 : decode cX2_mostWornPlace 7 = .ok (.if_icmp .ge 26, 3) := by decide +kernel
theorem dX2_mostWornPlace_10 : decode cX2_mostWornPlace 10 = .ok (.aload_n 0, 1) := by decide +kernel
theorem dX2_mostWornPlace_11 : decode cX2_mostWornPlace 11 = .ok (.iload_n 1, 1) := by decide +kernel
theorem dX2_mostWornPlace_12 : decode cX2_mostWornPlace 12 = .ok (.iload_n 3, 1) := by decide +kernel
theorem dX2_mostWornPlace_13 : decode cX2_mostWornPlace 13 = .ok (.invokevirtual 99, 3) := by decide +kernel
theorem dX2_mostWornPlace_16 : decode cX2_mostWornPlace 16 = .ok (.aload_n 0, 1) := by decide +kernel
theorem dX2_mostWornPlace_17 : decode cX2_mostWornPlace 17 = .ok (.iload_n 1, 1) := by decide +kernel
theorem dX2_mostWornPlace_18 : decode cX2_mostWornPlace 18 = .ok (.iload_n 2, 1) := by decide +kernel
theorem dX2_mostWornPlace_19 : decode cX2_mostWornPlace 19 = .ok (.invokevirtual 99, 3) := by decide +kernel
theorem dX2_mostWornPlace_22 : decode cX2_mostWornPlace 22 = .ok (.if_icmp .le 5, 3) := by decide +kernel
theorem dX2_mostWornPlace_25 : decode cX2_mostWornPlace 25 = .ok (.iload_n 3, 1) := by decide +kernel
theorem dX2_mostWornPlace_26 : decode cX2_mostWornPlace 26 = .ok (.istore_n 2, 1) := by decide +kernel
theorem dX2_mostWornPlace_27 : decode cX2_mostWornPlace 27 = .ok (.iinc 3 1, 3) := by decide +kernel
theorem dX2_mostWornPlace_30 : decode cX2_mostWornPlace 30 = .ok (.goto (-26), 3) := by decide +kernel
theorem dX2_mostWornPlace_33 : decode cX2_mostWornPlace 33 = .ok (.iload_n 2, 1) := by decide +kernel
theorem dX2_mostWornPlace_34 : decode cX2_mostWornPlace 34 = .ok (.ireturn, 1) := by decide +kernel
theorem dX2_flyingKites_0 : decode cX2_flyingKites 0 = .ok (.iconst 0, 1) := by decide +kernel
theorem dX2_flyingKites_1 : decode cX2_flyingKites 1 = .ok (.istore_n 1, 1) := by decide +kernel
theorem dX2_flyingKites_2 : decode cX2_flyingKites 2 = .ok (.iconst 0, 1) := by decide +kernel
theorem dX2_flyingKites_3 : decode cX2_flyingKites 3 = .ok (.istore_n 2, 1) := by decide +kernel
theorem dX2_flyingKites_4 : decode cX2_flyingKites 4 = .ok (.iload_n 2, 1) := by decide +kernel
theorem dX2_flyingKites_5 : decode cX2_flyingKites 5 = .ok (.bipush 6, 2) := by decide +kernel
theorem dX2_flyingKites_7 : decode cX2_flyingKites 7 = .ok (.if_icmp .ge 23, 3) := by decide +kernel
theorem dX2_flyingKites_10 : decode cX2_flyingKites 10 = .ok (.aload_n 0, 1) := by decide +kernel
theorem dX2_flyingKites_11 : decode cX2_flyingKites 11 = .ok (.iload_n 2, 1) := by decide +kernel
theorem dX2_flyingKites_12 : decode cX2_flyingKites 12 = .ok (.invokevirtual 102, 3) := by decide +kernel
theorem dX2_flyingKites_15 : decode cX2_flyingKites 15 = .ok (.ifCond .eq 9, 3) := by decide +kernel
theorem dX2_flyingKites_18 : decode cX2_flyingKites 18 = .ok (.iload_n 1, 1) := by decide +kernel
theorem dX2_flyingKites_19 : decode cX2_flyingKites 19 = .ok (.iconst 1, 1) := by decide +kernel
theorem dX2_flyingKites_20 : decode cX2_flyingKites 20 = .ok (.iload_n 2, 1) := by decide +kernel
theorem dX2_flyingKites_21 : decode cX2_flyingKites 21 = .ok (.ishl, 1) := by decide +kernel
theorem dX2_flyingKites_22 : decode cX2_flyingKites 22 = .ok (.ior, 1) := by decide +kernel
theorem dX2_flyingKites_23 : decode cX2_flyingKites 23 = .ok (.istore_n 1, 1) := by decide +kernel
theorem dX2_flyingKites_24 : decode cX2_flyingKites 24 = .ok (.iinc 2 1, 3) := by decide +kernel
theorem dX2_flyingKites_27 : decode cX2_flyingKites 27 = .ok (.goto (-23), 3) := by decide +kernel
theorem dX2_flyingKites_30 : decode cX2_flyingKites 30 = .ok (.iload_n 1, 1) := by decide +kernel
theorem dX2_flyingKites_31 : decode cX2_flyingKites 31 = .ok (.ireturn, 1) := by decide +kernel
theorem dX2_leader_0 : decode cX2_leader 0 = .ok (.aload_n 0, 1) := by decide +kernel
theorem dX2_leader_1 : decode cX2_leader 1 = .ok (.getfield 51, 3) := by decide +kernel
theorem dX2_leader_4 : decode cX2_leader 4 = .ok (.ifCond .ne 6, 3) := by decide +kernel
theorem dX2_leader_7 : decode cX2_leader 7 = .ok (.bipush (-6), 2) := by decide +kernel
theorem dX2_leader_9 : decode cX2_leader 9 = .ok (.ireturn, 1) := by decide +kernel
theorem dX2_leader_10 : decode cX2_leader 10 = .ok (.iconst 0, 1) := by decide +kernel
theorem dX2_leader_11 : decode cX2_leader 11 = .ok (.istore_n 1, 1) := by decide +kernel
theorem dX2_leader_12 : decode cX2_leader 12 = .ok (.iconst 1, 1) := by decide +kernel
theorem dX2_leader_13 : decode cX2_leader 13 = .ok (.istore_n 2, 1) := by decide +kernel
theorem dX2_leader_14 : decode cX2_leader 14 = .ok (.iload_n 2, 1) := by decide +kernel
theorem dX2_leader_15 : decode cX2_leader 15 = .ok (.bipush 6, 2) := by decide +kernel
theorem dX2_leader_17 : decode cX2_leader 17 = .ok (.if_icmp .ge 34, 3) := by decide +kernel
theorem dX2_leader_20 : decode cX2_leader 20 = .ok (.aload_n 0, 1) := by decide +kernel
theorem dX2_leader_21 : decode cX2_leader 21 = .ok (.iload_n 2, 1) := by decide +kernel
theorem dX2_leader_22 : decode cX2_leader 22 = .ok (.invokevirtual 80, 3) := by decide +kernel
theorem dX2_leader_25 : decode cX2_leader 25 = .ok (.ifCond .eq 20, 3) := by decide +kernel
theorem dX2_leader_28 : decode cX2_leader 28 = .ok (.aload_n 0, 1) := by decide +kernel
theorem dX2_leader_29 : decode cX2_leader 29 = .ok (.getfield 33, 3) := by decide +kernel
theorem dX2_leader_32 : decode cX2_leader 32 = .ok (.iload_n 2, 1) := by decide +kernel
theorem dX2_leader_33 : decode cX2_leader 33 = .ok (.iaload, 1) := by decide +kernel
theorem dX2_leader_34 : decode cX2_leader 34 = .ok (.aload_n 0, 1) := by decide +kernel
theorem dX2_leader_35 : decode cX2_leader 35 = .ok (.getfield 33, 3) := by decide +kernel
theorem dX2_leader_38 : decode cX2_leader 38 = .ok (.iload_n 1, 1) := by decide +kernel
theorem dX2_leader_39 : decode cX2_leader 39 = .ok (.iaload, 1) := by decide +kernel
theorem dX2_leader_40 : decode cX2_leader 40 = .ok (.if_icmp .le 5, 3) := by decide +kernel
theorem dX2_leader_43 : decode cX2_leader 43 = .ok (.iload_n 2, 1) := by decide +kernel
theorem dX2_leader_44 : decode cX2_leader 44 = .ok (.istore_n 1, 1) := by decide +kernel
theorem dX2_leader_45 : decode cX2_leader 45 = .ok (.iinc 2 1, 3) := by decide +kernel
theorem dX2_leader_48 : decode cX2_leader 48 = .ok (.goto (-34), 3) := by decide +kernel
theorem dX2_leader_51 : decode cX2_leader 51 = .ok (.iload_n 1, 1) := by decide +kernel
theorem dX2_leader_52 : decode cX2_leader 52 = .ok (.ireturn, 1) := by decide +kernel
theorem dX2_allPoints_0 : decode cX2_allPoints 0 = .ok (.iconst 0, 1) := by decide +kernel
theorem dX2_allPoints_1 : decode cX2_allPoints 1 = .ok (.istore_n 1, 1) := by decide +kernel
theorem dX2_allPoints_2 : decode cX2_allPoints 2 = .ok (.iconst 0, 1) := by decide +kernel
theorem dX2_allPoints_3 : decode cX2_allPoints 3 = .ok (.istore_n 2, 1) := by decide +kernel
theorem dX2_allPoints_4 : decode cX2_allPoints 4 = .ok (.iload_n 2, 1) := by decide +kernel
theorem dX2_allPoints_5 : decode cX2_allPoints 5 = .ok (.bipush 6, 2) := by decide +kernel
theorem dX2_allPoints_7 : decode cX2_allPoints 7 = .ok (.if_icmp .ge 26, 3) := by decide +kernel
theorem dX2_allPoints_10 : decode cX2_allPoints 10 = .ok (.aload_n 0, 1) := by decide +kernel
theorem dX2_allPoints_11 : decode cX2_allPoints 11 = .ok (.iload_n 2, 1) := by decide +kernel
theorem dX2_allPoints_12 : decode cX2_allPoints 12 = .ok (.invokevirtual 80, 3) := by decide +kernel
theorem dX2_allPoints_15 : decode cX2_allPoints 15 = .ok (.ifCond .eq 12, 3) := by decide +kernel
theorem dX2_allPoints_18 : decode cX2_allPoints 18 = .ok (.iload_n 1, 1) := by decide +kernel
theorem dX2_allPoints_19 : decode cX2_allPoints 19 = .ok (.aload_n 0, 1) := by decide +kernel
theorem dX2_allPoints_20 : decode cX2_allPoints 20 = .ok (.getfield 33, 3) := by decide +kernel
theorem dX2_allPoints_23 : decode cX2_allPoints 23 = .ok (.iload_n 2, 1) := by decide +kernel
theorem dX2_allPoints_24 : decode cX2_allPoints 24 = .ok (.iaload, 1) := by decide +kernel
theorem dX2_allPoints_25 : decode cX2_allPoints 25 = .ok (.iadd, 1) := by decide +kernel
theorem dX2_allPoints_26 : decode cX2_allPoints 26 = .ok (.istore_n 1, 1) := by decide +kernel
theorem dX2_allPoints_27 : decode cX2_allPoints 27 = .ok (.iinc 2 1, 3) := by decide +kernel
theorem dX2_allPoints_30 : decode cX2_allPoints 30 = .ok (.goto (-26), 3) := by decide +kernel
theorem dX2_allPoints_33 : decode cX2_allPoints 33 = .ok (.iload_n 1, 1) := by decide +kernel
theorem dX2_allPoints_34 : decode cX2_allPoints 34 = .ok (.ireturn, 1) := by decide +kernel
theorem dX4_init_0 : decode cX4_init 0 = .ok (.aload_n 0, 1) := by decide +kernel
theorem dX4_init_1 : decode cX4_init 1 = .ok (.invokespecial 3, 3) := by decide +kernel
theorem dX4_init_4 : decode cX4_init 4 = .ok (.aload_n 0, 1) := by decide +kernel
theorem dX4_init_5 : decode cX4_init 5 = .ok (.new 9, 3) := by decide +kernel
theorem dX4_init_8 : decode cX4_init 8 = .ok (.dup, 1) := by decide +kernel
theorem dX4_init_9 : decode cX4_init 9 = .ok (.invokespecial 11, 3) := by decide +kernel
theorem dX4_init_12 : decode cX4_init 12 = .ok (.putfield 12, 3) := by decide +kernel
theorem dX4_init_15 : decode cX4_init 15 = .ok (.return_, 1) := by decide +kernel
theorem dX4_happenIn_0 : decode cX4_happenIn 0 = .ok (.iconst 0, 1) := by decide +kernel
theorem dX4_happenIn_1 : decode cX4_happenIn 1 = .ok (.istore_n 2, 1) := by decide +kernel
theorem dX4_happenIn_2 : decode cX4_happenIn 2 = .ok (.iload_n 2, 1) := by decide +kernel
theorem dX4_happenIn_3 : decode cX4_happenIn 3 = .ok (.bipush 6, 2) := by decide +kernel
theorem dX4_happenIn_5 : decode cX4_happenIn 5 = .ok (.if_icmp .ge 22, 3) := by decide +kernel
theorem dX4_happenIn_8 : decode cX4_happenIn 8 = .ok (.aload_n 1, 1) := by decide +kernel
theorem dX4_happenIn_9 : decode cX4_happenIn 9 = .ok (.iload_n 2, 1) := by decide +kernel
theorem dX4_happenIn_10 : decode cX4_happenIn 10 = .ok (.invokevirtual 18, 3) := by decide +kernel
theorem dX4_happenIn_13 : decode cX4_happenIn 13 = .ok (.ifCond .eq 8, 3) := by decide +kernel
theorem dX4_happenIn_16 : decode cX4_happenIn 16 = .ok (.aload_n 1, 1) := by decide +kernel
theorem dX4_happenIn_17 : decode cX4_happenIn 17 = .ok (.iload_n 2, 1) := by decide +kernel
theorem dX4_happenIn_18 : decode cX4_happenIn 18 = .ok (.invokevirtual 24, 3) := by decide +kernel
theorem dX4_happenIn_21 : decode cX4_happenIn 21 = .ok (.iinc 2 1, 3) := by decide +kernel
theorem dX4_happenIn_24 : decode cX4_happenIn 24 = .ok (.goto (-22), 3) := by decide +kernel
theorem dX4_happenIn_27 : decode cX4_happenIn 27 = .ok (.aload_n 1, 1) := by decide +kernel
theorem dX4_happenIn_28 : decode cX4_happenIn 28 = .ok (.dup, 1) := by decide +kernel
theorem dX4_happenIn_29 : decode cX4_happenIn 29 = .ok (.getfield 28, 3) := by decide +kernel
theorem dX4_happenIn_32 : decode cX4_happenIn 32 = .ok (.iconst 1, 1) := by decide +kernel
theorem dX4_happenIn_33 : decode cX4_happenIn 33 = .ok (.iadd, 1) := by decide +kernel
theorem dX4_happenIn_34 : decode cX4_happenIn 34 = .ok (.putfield 28, 3) := by decide +kernel
theorem dX4_happenIn_37 : decode cX4_happenIn 37 = .ok (.aload_n 0, 1) := by decide +kernel
theorem dX4_happenIn_38 : decode cX4_happenIn 38 = .ok (.iconst 0, 1) := by decide +kernel
theorem dX4_happenIn_39 : decode cX4_happenIn 39 = .ok (.putfield 32, 3) := by decide +kernel
theorem dX4_happenIn_42 : decode cX4_happenIn 42 = .ok (.aload_n 0, 1) := by decide +kernel
theorem dX4_happenIn_43 : decode cX4_happenIn 43 = .ok (.iconst 0, 1) := by decide +kernel
theorem dX4_happenIn_44 : decode cX4_happenIn 44 = .ok (.putfield 35, 3) := by decide +kernel
theorem dX4_happenIn_47 : decode cX4_happenIn 47 = .ok (.aload_n 0, 1) := by decide +kernel
theorem dX4_happenIn_48 : decode cX4_happenIn 48 = .ok (.getfield 12, 3) := by decide +kernel
theorem dX4_happenIn_51 : decode cX4_happenIn 51 = .ok (.aload_n 1, 1) := by decide +kernel
theorem dX4_happenIn_52 : decode cX4_happenIn 52 = .ok (.invokevirtual 38, 3) := by decide +kernel
theorem dX4_happenIn_55 : decode cX4_happenIn 55 = .ok (.aload_n 0, 1) := by decide +kernel
theorem dX4_happenIn_56 : decode cX4_happenIn 56 = .ok (.aload_n 1, 1) := by decide +kernel
theorem dX4_happenIn_57 : decode cX4_happenIn 57 = .ok (.invokevirtual 42, 3) := by decide +kernel
theorem dX4_happenIn_60 : decode cX4_happenIn 60 = .ok (.aload_n 0, 1) := by decide +kernel
theorem dX4_happenIn_61 : decode cX4_happenIn 61 = .ok (.aload_n 1, 1) := by decide +kernel
theorem dX4_happenIn_62 : decode cX4_happenIn 62 = .ok (.invokevirtual 45, 3) := by decide +kernel
theorem dX4_happenIn_65 : decode cX4_happenIn 65 = .ok (.aload_n 0, 1) := by decide +kernel
theorem dX4_happenIn_66 : decode cX4_happenIn 66 = .ok (.getfield 32, 3) := by decide +kernel
theorem dX4_happenIn_69 : decode cX4_happenIn 69 = .ok (.ifCond .eq 8, 3) := by decide +kernel
theorem dX4_happenIn_72 : decode cX4_happenIn 72 = .ok (.aload_n 0, 1) := by decide +kernel
theorem dX4_happenIn_73 : decode cX4_happenIn 73 = .ok (.aload_n 1, 1) := by decide +kernel
theorem dX4_happenIn_74 : decode cX4_happenIn 74 = .ok (.invokevirtual 48, 3) := by decide +kernel
theorem dX4_happenIn_77 : decode cX4_happenIn 77 = .ok (.return_, 1) := by decide +kernel
theorem dX4_wearStrings_0 : decode cX4_wearStrings 0 = .ok (.iconst 0, 1) := by decide +kernel
theorem dX4_wearStrings_1 : decode cX4_wearStrings 1 = .ok (.istore_n 2, 1) := by decide +kernel
theorem dX4_wearStrings_2 : decode cX4_wearStrings 2 = .ok (.iload_n 2, 1) := by decide +kernel
theorem dX4_wearStrings_3 : decode cX4_wearStrings 3 = .ok (.aload_n 0, 1) := by decide +kernel
theorem dX4_wearStrings_4 : decode cX4_wearStrings 4 = .ok (.getfield 12, 3) := by decide +kernel
theorem dX4_wearStrings_7 : decode cX4_wearStrings 7 = .ok (.getfield 51, 3) := by decide +kernel
theorem dX4_wearStrings_10 : decode cX4_wearStrings 10 = .ok (.if_icmp .ge 60, 3) := by decide +kernel
theorem dX4_wearStrings_13 : decode cX4_wearStrings 13 = .ok (.aload_n 0, 1) := by decide +kernel
theorem dX4_wearStrings_14 : decode cX4_wearStrings 14 = .ok (.getfield 12, 3) := by decide +kernel
theorem dX4_wearStrings_17 : decode cX4_wearStrings 17 = .ok (.getfield 54, 3) := by decide +kernel
theorem dX4_wearStrings_20 : decode cX4_wearStrings 20 = .ok (.iload_n 2, 1) := by decide +kernel
theorem dX4_wearStrings_21 : decode cX4_wearStrings 21 = .ok (.iaload, 1) := by decide +kernel
theorem dX4_wearStrings_22 : decode cX4_wearStrings 22 = .ok (.istore_n 3, 1) := by decide +kernel
theorem dX4_wearStrings_23 : decode cX4_wearStrings 23 = .ok (.aload_n 1, 1) := by decide +kernel
theorem dX4_wearStrings_24 : decode cX4_wearStrings 24 = .ok (.iload_n 3, 1) := by decide +kernel
theorem dX4_wearStrings_25 : decode cX4_wearStrings 25 = .ok (.aload_n 0, 1) := by decide +kernel
theorem dX4_wearStrings_26 : decode cX4_wearStrings 26 = .ok (.getfield 12, 3) := by decide +kernel
theorem dX4_wearStrings_29 : decode cX4_wearStrings 29 = .ok (.getfield 58, 3) := by decide +kernel
theorem dX4_wearStrings_32 : decode cX4_wearStrings 32 = .ok (.iload_n 2, 1) := by decide +kernel
theorem dX4_wearStrings_33 : decode cX4_wearStrings 33 = .ok (.iaload, 1) := by decide +kernel
theorem dX4_wearStrings_34 : decode cX4_wearStrings 34 = .ok (.aload_n 0, 1) := by decide +kernel
theorem dX4_wearStrings_35 : decode cX4_wearStrings 35 = .ok (.getfield 12, 3) := by decide +kernel
theorem dX4_wearStrings_38 : decode cX4_wearStrings 38 = .ok (.getfield 61, 3) := by decide +kernel
theorem dX4_wearStrings_41 : decode cX4_wearStrings 41 = .ok (.iload_n 2, 1) := by decide +kernel
theorem dX4_wearStrings_42 : decode cX4_wearStrings 42 = .ok (.baload, 1) := by decide +kernel
theorem dX4_wearStrings_43 : decode cX4_wearStrings 43 = .ok (.invokevirtual 65, 3) := by decide +kernel
theorem dX4_wearStrings_46 : decode cX4_wearStrings 46 = .ok (.istore 4, 2) := by decide +kernel
theorem dX4_wearStrings_48 : decode cX4_wearStrings 48 = .ok (.aload_n 1, 1) := by decide +kernel
theorem dX4_wearStrings_49 : decode cX4_wearStrings 49 = .ok (.iload_n 3, 1) := by decide +kernel
theorem dX4_wearStrings_50 : decode cX4_wearStrings 50 = .ok (.aload_n 0, 1) := by decide +kernel
theorem dX4_wearStrings_51 : decode cX4_wearStrings 51 = .ok (.getfield 12, 3) := by decide +kernel
theorem dX4_wearStrings_54 : decode cX4_wearStrings 54 = .ok (.getfield 69, 3) := by decide +kernel
theorem dX4_wearStrings_57 : decode cX4_wearStrings 57 = .ok (.iload_n 2, 1) := by decide +kernel
theorem dX4_wearStrings_58 : decode cX4_wearStrings 58 = .ok (.iaload, 1) := by decide +kernel
theorem dX4_wearStrings_59 : decode cX4_wearStrings 59 = .ok (.iload 4, 2) := by decide +kernel
theorem dX4_wearStrings_61 : decode cX4_wearStrings 61 = .ok (.invokevirtual 72, 3) := by decide +kernel
theorem dX4_wearStrings_64 : decode cX4_wearStrings 64 = .ok (.iinc 2 1, 3) := by decide +kernel
theorem dX4_wearStrings_67 : decode cX4_wearStrings 67 = .ok (.goto (-65), 3) := by decide +kernel
theorem dX4_wearStrings_70 : decode cX4_wearStrings 70 = .ok (.return_, 1) := by decide +kernel
theorem dX4_givePoints_0 : decode cX4_givePoints 0 = .ok (.iconst 0, 1) := by decide +kernel
theorem dX4_givePoints_1 : decode cX4_givePoints 1 = .ok (.istore_n 2, 1) := by decide +kernel
theorem dX4_givePoints_2 : decode cX4_givePoints 2 = .ok (.iload_n 2, 1) := by decide +kernel
theorem dX4_givePoints_3 : decode cX4_givePoints 3 = .ok (.aload_n 0, 1) := by decide +kernel
theorem dX4_givePoints_4 : decode cX4_givePoints 4 = .ok (.getfield 12, 3) := by decide +kernel
theorem dX4_givePoints_7 : decode cX4_givePoints 7 = .ok (.getfield 51, 3) := by decide +kernel
theorem dX4_givePoints_10 : decode cX4_givePoints 10 = .ok (.if_icmp .ge 83, 3) := by decide +kernel
theorem dX4_givePoints_13 : decode cX4_givePoints 13 = .ok (.aload_n 0, 1) := by decide +kernel
theorem dX4_givePoints_14 : decode cX4_givePoints 14 = .ok (.getfield 12, 3) := by decide +kernel
theorem dX4_givePoints_17 : decode cX4_givePoints 17 = .ok (.getfield 54, 3) := by decide +kernel
theorem dX4_givePoints_20 : decode cX4_givePoints 20 = .ok (.iload_n 2, 1) := by decide +kernel
theorem dX4_givePoints_21 : decode cX4_givePoints 21 = .ok (.iaload, 1) := by decide +kernel
theorem dX4_givePoints_22 : decode cX4_givePoints 22 = .ok (.istore_n 3, 1) := by decide +kernel
theorem dX4_givePoints_23 : decode cX4_givePoints 23 = .ok (.aload_n 1, 1) := by decide +kernel
theorem dX4_givePoints_24 : decode cX4_givePoints 24 = .ok (.iload_n 3, 1) := by decide +kernel
theorem dX4_givePoints_25 : decode cX4_givePoints 25 = .ok (.aload_n 0, 1) := by decide +kernel
theorem dX4_givePoints_26 : decode cX4_givePoints 26 = .ok (.getfield 12, 3) := by decide +kernel
theorem dX4_givePoints_29 : decode cX4_givePoints 29 = .ok (.getfield 69, 3) := by decide +kernel
theorem dX4_givePoints_32 : decode cX4_givePoints 32 = .ok (.iload_n 2, 1) := by decide +kernel
theorem dX4_givePoints_33 : decode cX4_givePoints 33 = .ok (.iaload, 1) := by decide +kernel
theorem dX4_givePoints_34 : decode cX4_givePoints 34 = .ok (.invokevirtual 76, 3) := by decide +kernel
theorem dX4_givePoints_37 : decode cX4_givePoints 37 = .ok (.ifCond .eq 50, 3) := by decide +kernel
theorem dX4_givePoints_40 : decode cX4_givePoints 40 = .ok (.aload_n 0, 1) := by decide +kernel
theorem dX4_givePoints_41 : decode cX4_givePoints 41 = .ok (.getfield 12, 3) := by decide +kernel
theorem dX4_givePoints_44 : decode cX4_givePoints 44 = .ok (.getfield 58, 3) := by decide +kernel
theorem dX4_givePoints_47 : decode cX4_givePoints 47 = .ok (.iload_n 2, 1) := by decide +kernel
theorem dX4_givePoints_48 : decode cX4_givePoints 48 = .ok (.iaload, 1) := by decide +kernel
theorem dX4_givePoints_49 : decode cX4_givePoints 49 = .ok (.istore 4, 2) := by decide +kernel
theorem dX4_givePoints_51 : decode cX4_givePoints 51 = .ok (.aload_n 1, 1) := by decide +kernel
theorem dX4_givePoints_52 : decode cX4_givePoints 52 = .ok (.getfield 80, 3) := by decide +kernel
theorem dX4_givePoints_55 : decode cX4_givePoints 55 = .ok (.iload 4, 2) := by decide +kernel
theorem dX4_givePoints_57 : decode cX4_givePoints 57 = .ok (.dup2, 1) := by decide +kernel
theorem dX4_givePoints_58 : decode cX4_givePoints 58 = .ok (.iaload, 1) := by decide +kernel
theorem dX4_givePoints_59 : decode cX4_givePoints 59 = .ok (.iconst 1, 1) := by decide +kernel
theorem dX4_givePoints_60 : decode cX4_givePoints 60 = .ok (.iadd, 1) := by decide +kernel
theorem dX4_givePoints_61 : decode cX4_givePoints 61 = .ok (.iastore, 1) := by decide +kernel
theorem dX4_givePoints_62 : decode cX4_givePoints 62 = .ok (.aload_n 0, 1) := by decide +kernel
theorem dX4_givePoints_63 : decode cX4_givePoints 63 = .ok (.dup, 1) := by decide +kernel
theorem dX4_givePoints_64 : decode cX4_givePoints 64 = .ok (.getfield 35, 3) := by decide +kernel
theorem dX4_givePoints_67 : decode cX4_givePoints 67 = .ok (.iconst 1, 1) := by decide +kernel
theorem dX4_givePoints_68 : decode cX4_givePoints 68 = .ok (.iload 4, 2) := by decide +kernel
theorem dX4_givePoints_70 : decode cX4_givePoints 70 = .ok (.ishl, 1) := by decide +kernel
theorem dX4_givePoints_71 : decode cX4_givePoints 71 = .ok (.ior, 1) := by decide +kernel
theorem dX4_givePoints_72 : decode cX4_givePoints 72 = .ok (.putfield 35, 3) := by decide +kernel
theorem dX4_givePoints_75 : decode cX4_givePoints 75 = .ok (.aload_n 0, 1) := by decide +kernel
theorem dX4_givePoints_76 : decode cX4_givePoints 76 = .ok (.dup, 1) := by decide +kernel
theorem dX4_givePoints_77 : decode cX4_givePoints 77 = .ok (.getfield 32, 3) := by decide +kernel
theorem dX4_givePoints_80 : decode cX4_givePoints 80 = .ok (.iconst 1, 1) := by decide +kernel
theorem dX4_givePoints_81 : decode cX4_givePoints 81 = .ok (.iload_n 3, 1) := by decide +kernel
theorem dX4_givePoints_82 : decode cX4_givePoints 82 = .ok (.ishl, 1) := by decide +kernel
theorem dX4_givePoints_83 : decode cX4_givePoints 83 = .ok (.ior, 1) := by decide +kernel
theorem dX4_givePoints_84 : decode cX4_givePoints 84 = .ok (.putfield 32, 3) := by decide +kernel
theorem dX4_givePoints_87 : decode cX4_givePoints 87 = .ok (.iinc 2 1, 3) := by decide +kernel
theorem dX4_givePoints_90 : decode cX4_givePoints 90 = .ok (.goto (-88), 3) := by decide +kernel
theorem dX4_givePoints_93 : decode cX4_givePoints 93 = .ok (.return_, 1) := by decide +kernel
theorem dX4_cutStrings_0 : decode cX4_cutStrings 0 = .ok (.iconst 0, 1) := by decide +kernel
theorem dX4_cutStrings_1 : decode cX4_cutStrings 1 = .ok (.istore_n 2, 1) := by decide +kernel
theorem dX4_cutStrings_2 : decode cX4_cutStrings 2 = .ok (.iload_n 2, 1) := by decide +kernel
theorem dX4_cutStrings_3 : decode cX4_cutStrings 3 = .ok (.bipush 6, 2) := by decide +kernel
theorem dX4_cutStrings_5 : decode cX4_cutStrings 5 = .ok (.if_icmp .ge 38, 3) := by decide +kernel
theorem dX4_cutStrings_8 : decode cX4_cutStrings 8 = .ok (.aload_n 0, 1) := by decide +kernel
theorem dX4_cutStrings_9 : decode cX4_cutStrings 9 = .ok (.getfield 32, 3) := by decide +kernel
theorem dX4_cutStrings_12 : decode cX4_cutStrings 12 = .ok (.iload_n 2, 1) := by decide +kernel
theorem dX4_cutStrings_13 : decode cX4_cutStrings 13 = .ok (.ishr, 1) := by decide +kernel
theorem dX4_cutStrings_14 : decode cX4_cutStrings 14 = .ok (.iconst 1, 1) := by decide +kernel
theorem dX4_cutStrings_15 : decode cX4_cutStrings 15 = .ok (.iand, 1) := by decide +kernel
theorem dX4_cutStrings_16 : decode cX4_cutStrings 16 = .ok (.iconst 1, 1) := by decide +kernel
theorem dX4_cutStrings_17 : decode cX4_cutStrings 17 = .ok (.if_icmp .ne 20, 3) := by decide +kernel
theorem dX4_cutStrings_20 : decode cX4_cutStrings 20 = .ok (.aload_n 1, 1) := by decide +kernel
theorem dX4_cutStrings_21 : decode cX4_cutStrings 21 = .ok (.getfield 83, 3) := by decide +kernel
theorem dX4_cutStrings_24 : decode cX4_cutStrings 24 = .ok (.iload_n 2, 1) := by decide +kernel
theorem dX4_cutStrings_25 : decode cX4_cutStrings 25 = .ok (.iconst 1, 1) := by decide +kernel
theorem dX4_cutStrings_26 : decode cX4_cutStrings 26 = .ok (.iastore, 1) := by decide +kernel
theorem dX4_cutStrings_27 : decode cX4_cutStrings 27 = .ok (.aload_n 1, 1) := by decide +kernel
theorem dX4_cutStrings_28 : decode cX4_cutStrings 28 = .ok (.dup, 1) := by decide +kernel
theorem dX4_cutStrings_29 : decode cX4_cutStrings 29 = .ok (.getfield 86, 3) := by decide +kernel
theorem dX4_cutStrings_32 : decode cX4_cutStrings 32 = .ok (.iconst 1, 1) := by decide +kernel
theorem dX4_cutStrings_33 : decode cX4_cutStrings 33 = .ok (.iadd, 1) := by decide +kernel
theorem dX4_cutStrings_34 : decode cX4_cutStrings 34 = .ok (.putfield 86, 3) := by decide +kernel
theorem dX4_cutStrings_37 : decode cX4_cutStrings 37 = .ok (.iinc 2 1, 3) := by decide +kernel
theorem dX4_cutStrings_40 : decode cX4_cutStrings 40 = .ok (.goto (-38), 3) := by decide +kernel
theorem dX4_cutStrings_43 : decode cX4_cutStrings 43 = .ok (.return_, 1) := by decide +kernel
theorem dX5_init_0 : decode cX5_init 0 = .ok (.aload_n 0, 1) := by decide +kernel
theorem dX5_init_1 : decode cX5_init 1 = .ok (.invokespecial 3, 3) := by decide +kernel
theorem dX5_init_4 : decode cX5_init 4 = .ok (.aload_n 0, 1) := by decide +kernel
theorem dX5_init_5 : decode cX5_init 5 = .ok (.bipush 30, 2) := by decide +kernel
theorem dX5_init_7 : decode cX5_init 7 = .ok (.newarray .int, 2) := by decide +kernel
theorem dX5_init_9 : decode cX5_init 9 = .ok (.putfield 11, 3) := by decide +kernel
theorem dX5_init_12 : decode cX5_init 12 = .ok (.aload_n 0, 1) := by decide +kernel
theorem dX5_init_13 : decode cX5_init 13 = .ok (.bipush 30, 2) := by decide +kernel
theorem dX5_init_15 : decode cX5_init 15 = .ok (.newarray .int, 2) := by decide +kernel
theorem dX5_init_17 : decode cX5_init 17 = .ok (.putfield 15, 3) := by decide +kernel
theorem dX5_init_20 : decode cX5_init 20 = .ok (.aload_n 0, 1) := by decide +kernel
theorem dX5_init_21 : decode cX5_init 21 = .ok (.bipush 30, 2) := by decide +kernel
theorem dX5_init_23 : decode cX5_init 23 = .ok (.newarray .int, 2) := by decide +kernel
theorem dX5_init_25 : decode cX5_init 25 = .ok (.putfield 18, 3) := by decide +kernel
theorem dX5_init_28 : decode cX5_init 28 = .ok (.aload_n 0, 1) := by decide +kernel
theorem dX5_init_29 : decode cX5_init 29 = .ok (.bipush 30, 2) := by decide +kernel
theorem dX5_init_31 : decode cX5_init 31 = .ok (.newarray .boolean, 2) := by decide +kernel
theorem dX5_init_33 : decode cX5_init 33 = .ok (.putfield 21, 3) := by decide +kernel
theorem dX5_init_36 : decode cX5_init 36 = .ok (.return_, 1) := by decide +kernel
theorem dX5_measure_0 : decode cX5_measure 0 = .ok (.aload_n 0, 1) := by decide +kernel
theorem dX5_measure_1 : decode cX5_measure 1 = .ok (.iconst 0, 1) := by decide +kernel
theorem dX5_measure_2 : decode cX5_measure 2 = .ok (.putfield 25, 3) := by decide +kernel
theorem dX5_measure_5 : decode cX5_measure 5 = .ok (.iconst 0, 1) := by decide +kernel
theorem dX5_measure_6 : decode cX5_measure 6 = .ok (.istore_n 2, 1) := by decide +kernel
theorem dX5_measure_7 : decode cX5_measure 7 = .ok (.iload_n 2, 1) := by decide +kernel
theorem dX5_measure_8 : decode cX5_measure 8 = .ok (.bipush 6, 2) := by decide +kernel
theorem dX5_measure_10 : decode cX5_measure 10 = .ok (.if_icmp .ge 48, 3) := by decide +kernel
theorem dX5_measure_13 : decode cX5_measure 13 = .ok (.aload_n 1, 1) := by decide +kernel
theorem dX5_measure_14 : decode cX5_measure 14 = .ok (.iload_n 2, 1) := by decide +kernel
theorem dX5_measure_15 : decode cX5_measure 15 = .ok (.invokevirtual 29, 3) := by decide +kernel
theorem dX5_measure_18 : decode cX5_measure 18 = .ok (.ifCond .eq 34, 3) := by decide +kernel
theorem dX5_measure_21 : decode cX5_measure 21 = .ok (.iload_n 2, 1) := by decide +kernel
theorem dX5_measure_22 : decode cX5_measure 22 = .ok (.iconst 1, 1) := by decide +kernel
theorem dX5_measure_23 : decode cX5_measure 23 = .ok (.iadd, 1) := by decide +kernel
theorem dX5_measure_24 : decode cX5_measure 24 = .ok (.istore_n 3, 1) := by decide +kernel
theorem dX5_measure_25 : decode cX5_measure 25 = .ok (.iload_n 3, 1) := by decide +kernel
theorem dX5_measure_26 : decode cX5_measure 26 = .ok (.bipush 6, 2) := by decide +kernel
theorem dX5_measure_28 : decode cX5_measure 28 = .ok (.if_icmp .ge 24, 3) := by decide +kernel
theorem dX5_measure_31 : decode cX5_measure 31 = .ok (.aload_n 1, 1) := by decide +kernel
theorem dX5_measure_32 : decode cX5_measure 32 = .ok (.iload_n 3, 1) := by decide +kernel
theorem dX5_measure_33 : decode cX5_measure 33 = .ok (.invokevirtual 29, 3) := by decide +kernel
theorem dX5_measure_36 : decode cX5_measure 36 = .ok (.ifCond .eq 10, 3) := by decide +kernel
theorem dX5_measure_39 : decode cX5_measure 39 = .ok (.aload_n 0, 1) := by decide +kernel
theorem dX5_measure_40 : decode cX5_measure 40 = .ok (.aload_n 1, 1) := by decide +kernel
theorem dX5_measure_41 : decode cX5_measure 41 = .ok (.iload_n 2, 1) := by decide +kernel
theorem dX5_measure_42 : decode cX5_measure 42 = .ok (.iload_n 3, 1) := by decide +kernel
theorem dX5_measure_43 : decode cX5_measure 43 = .ok (.invokevirtual 35, 3) := by decide +kernel
theorem dX5_measure_46 : decode cX5_measure 46 = .ok (.iinc 3 1, 3) := by decide +kernel
theorem dX5_measure_49 : decode cX5_measure 49 = .ok (.goto (-24), 3) := by decide +kernel
theorem dX5_measure_52 : decode cX5_measure 52 = .ok (.iinc 2 1, 3) := by decide +kernel
theorem dX5_measure_55 : decode cX5_measure 55 = .ok (.goto (-48), 3) := by decide +kernel
theorem dX5_measure_58 : decode cX5_measure 58 = .ok (.return_, 1) := by decide +kernel
theorem dX5_measurePair_0 : decode cX5_measurePair 0 = .ok (.aload_n 1, 1) := by decide +kernel
theorem dX5_measurePair_1 : decode cX5_measurePair 1 = .ok (.getfield 39, 3) := by decide +kernel
theorem dX5_measurePair_4 : decode cX5_measurePair 4 = .ok (.iload_n 2, 1) := by decide +kernel
theorem dX5_measurePair_5 : decode cX5_measurePair 5 = .ok (.iaload, 1) := by decide +kernel
theorem dX5_measurePair_6 : decode cX5_measurePair 6 = .ok (.aload_n 1, 1) := by decide +kernel
theorem dX5_measurePair_7 : decode cX5_measurePair 7 = .ok (.getfield 42, 3) := by decide +kernel
theorem dX5_measurePair_10 : decode cX5_measurePair 10 = .ok (.iload_n 2, 1) := by decide +kernel
theorem dX5_measurePair_11 : decode cX5_measurePair 11 = .ok (.iaload, 1) := by decide +kernel
theorem dX5_measurePair_12 : decode cX5_measurePair 12 = .ok (.isub, 1) := by decide +kernel
theorem dX5_measurePair_13 : decode cX5_measurePair 13 = .ok (.istore 4, 2) := by decide +kernel
theorem dX5_measurePair_15 : decode cX5_measurePair 15 = .ok (.aload_n 1, 1) := by decide +kernel
theorem dX5_measurePair_16 : decode cX5_measurePair 16 = .ok (.getfield 45, 3) := by decide +kernel
theorem dX5_measurePair_19 : decode cX5_measurePair 19 = .ok (.iload_n 2, 1) := by decide +kernel
theorem dX5_measurePair_20 : decode cX5_measurePair 20 = .ok (.iaload, 1) := by decide +kernel
theorem dX5_measurePair_21 : decode cX5_measurePair 21 = .ok (.istore 5, 2) := by decide +kernel
theorem dX5_measurePair_23 : decode cX5_measurePair 23 = .ok (.aload_n 1, 1) := by decide +kernel
theorem dX5_measurePair_24 : decode cX5_measurePair 24 = .ok (.getfield 39, 3) := by decide +kernel
theorem dX5_measurePair_27 : decode cX5_measurePair 27 = .ok (.iload_n 3, 1) := by decide +kernel
theorem dX5_measurePair_28 : decode cX5_measurePair 28 = .ok (.iaload, 1) := by decide +kernel
theorem dX5_measurePair_29 : decode cX5_measurePair 29 = .ok (.aload_n 1, 1) := by decide +kernel
theorem dX5_measurePair_30 : decode cX5_measurePair 30 = .ok (.getfield 42, 3) := by decide +kernel
theorem dX5_measurePair_33 : decode cX5_measurePair 33 = .ok (.iload_n 3, 1) := by decide +kernel
theorem dX5_measurePair_34 : decode cX5_measurePair 34 = .ok (.iaload, 1) := by decide +kernel
theorem dX5_measurePair_35 : decode cX5_measurePair 35 = .ok (.isub, 1) := by decide +kernel
theorem dX5_measurePair_36 : decode cX5_measurePair 36 = .ok (.istore 6, 2) := by decide +kernel
theorem dX5_measurePair_38 : decode cX5_measurePair 38 = .ok (.aload_n 1, 1) := by decide +kernel
theorem dX5_measurePair_39 : decode cX5_measurePair 39 = .ok (.getfield 45, 3) := by decide +kernel
theorem dX5_measurePair_42 : decode cX5_measurePair 42 = .ok (.iload_n 3, 1) := by decide +kernel
theorem dX5_measurePair_43 : decode cX5_measurePair 43 = .ok (.iaload, 1) := by decide +kernel
theorem dX5_measurePair_44 : decode cX5_measurePair 44 = .ok (.istore 7, 2) := by decide +kernel
theorem dX5_measurePair_46 : decode cX5_measurePair 46 = .ok (.aload_n 1, 1) := by decide +kernel
theorem dX5_measurePair_47 : decode cX5_measurePair 47 = .ok (.getfield 42, 3) := by decide +kernel
theorem dX5_measurePair_50 : decode cX5_measurePair 50 = .ok (.iload_n 3, 1) := by decide +kernel
theorem dX5_measurePair_51 : decode cX5_measurePair 51 = .ok (.iaload, 1) := by decide +kernel
theorem dX5_measurePair_52 : decode cX5_measurePair 52 = .ok (.aload_n 1, 1) := by decide +kernel
theorem dX5_measurePair_53 : decode cX5_measurePair 53 = .ok (.getfield 42, 3) := by decide +kernel
theorem dX5_measurePair_56 : decode cX5_measurePair 56 = .ok (.iload_n 2, 1) := by decide +kernel
theorem dX5_measurePair_57 : decode cX5_measurePair 57 = .ok (.iaload, 1) := by decide +kernel
theorem dX5_measurePair_58 : decode cX5_measurePair 58 = .ok (.isub, 1) := by decide +kernel
theorem dX5_measurePair_59 : decode cX5_measurePair 59 = .ok (.istore 8, 2) := by decide +kernel
theorem dX5_measurePair_61 : decode cX5_measurePair 61 = .ok (.iload 4, 2) := by decide +kernel
theorem dX5_measurePair_63 : decode cX5_measurePair 63 = .ok (.iload 7, 2) := by decide +kernel
theorem dX5_measurePair_65 : decode cX5_measurePair 65 = .ok (.imul, 1) := by decide +kernel
theorem dX5_measurePair_66 : decode cX5_measurePair 66 = .ok (.iload 5, 2) := by decide +kernel
theorem dX5_measurePair_68 : decode cX5_measurePair 68 = .ok (.iload 6, 2) := by decide +kernel
theorem dX5_measurePair_70 : decode cX5_measurePair 70 = .ok (.imul, 1) := by decide +kernel
theorem dX5_measurePair_71 : decode cX5_measurePair 71 = .ok (.isub, 1) := by decide +kernel
theorem dX5_measurePair_72 : decode cX5_measurePair 72 = .ok (.istore 9, 2) := by decide +kernel
theorem dX5_measurePair_74 : decode cX5_measurePair 74 = .ok (.iload 8, 2) := by decide +kernel
theorem dX5_measurePair_76 : decode cX5_measurePair 76 = .ok (.iload 9, 2) := by decide +kernel
theorem dX5_measurePair_78 : decode cX5_measurePair 78 = .ok (.imul, 1) := by decide +kernel
theorem dX5_measurePair_79 : decode cX5_measurePair 79 = .ok (.ifCond .gt 4, 3) := by decide +kernel
theorem dX5_measurePair_82 : decode cX5_measurePair 82 = .ok (.return_, 1) := by decide +kernel
theorem dX5_measurePair_83 : decode cX5_measurePair 83 = .ok (.iload 9, 2) := by decide +kernel
theorem dX5_measurePair_85 : decode cX5_measurePair 85 = .ok (.invokestatic 48, 3) := by decide +kernel
theorem dX5_measurePair_88 : decode cX5_measurePair 88 = .ok (.istore 10, 2) := by decide +kernel
theorem dX5_measurePair_90 : decode cX5_measurePair 90 = .ok (.iload 8, 2) := by decide +kernel
theorem dX5_measurePair_92 : decode cX5_measurePair 92 = .ok (.invokestatic 48, 3) := by decide +kernel
theorem dX5_measurePair_95 : decode cX5_measurePair 95 = .ok (.iload 7, 2) := by decide +kernel
theorem dX5_measurePair_97 : decode cX5_measurePair 97 = .ok (.imul, 1) := by decide +kernel
theorem dX5_measurePair_98 : decode cX5_measurePair 98 = .ok (.istore 11, 2) := by decide +kernel
theorem dX5_measurePair_100 : decode cX5_measurePair 100 = .ok (.iload 8, 2) := by decide +kernel
theorem dX5_measurePair_102 : decode cX5_measurePair 102 = .ok (.invokestatic 48, 3) := by decide +kernel
theorem dX5_measurePair_105 : decode cX5_measurePair 105 = .ok (.iload 5, 2) := by decide +kernel
theorem dX5_measurePair_107 : decode cX5_measurePair 107 = .ok (.imul, 1) := by decide +kernel
theorem dX5_measurePair_108 : decode cX5_measurePair 108 = .ok (.istore 12, 2) := by decide +kernel
theorem dX5_measurePair_110 : decode cX5_measurePair 110 = .ok (.iload 11, 2) := by decide +kernel
theorem dX5_measurePair_112 : decode cX5_measurePair 112 = .ok (.iload 10, 2) := by decide +kernel
theorem dX5_measurePair_114 : decode cX5_measurePair 114 = .ok (.if_icmp .ge 10, 3) := by decide +kernel
theorem dX5_measurePair_117 : decode cX5_measurePair 117 = .ok (.iload 12, 2) := by decide +kernel
theorem dX5_measurePair_119 : decode cX5_measurePair 119 = .ok (.iload 10, 2) := by decide +kernel
theorem dX5_measurePair_121 : decode cX5_measurePair 121 = .ok (.if_icmp .lt 4, 3) := by decide +kernel
theorem dX5_measurePair_124 : decode cX5_measurePair 124 = .ok (.return_, 1) := by decide +kernel
theorem dX5_measurePair_125 : decode cX5_measurePair 125 = .ok (.iload 10, 2) := by decide +kernel
theorem dX5_measurePair_127 : decode cX5_measurePair 127 = .ok (.iload 4, 2) := by decide +kernel
theorem dX5_measurePair_129 : decode cX5_measurePair 129 = .ok (.iload 6, 2) := by decide +kernel
theorem dX5_measurePair_131 : decode cX5_measurePair 131 = .ok (.imul, 1) := by decide +kernel
theorem dX5_measurePair_132 : decode cX5_measurePair 132 = .ok (.iload 5, 2) := by decide +kernel
theorem dX5_measurePair_134 : decode cX5_measurePair 134 = .ok (.iload 7, 2) := by decide +kernel
theorem dX5_measurePair_136 : decode cX5_measurePair 136 = .ok (.imul, 1) := by decide +kernel
theorem dX5_measurePair_137 : decode cX5_measurePair 137 = .ok (.iadd, 1) := by decide +kernel
theorem dX5_measurePair_138 : decode cX5_measurePair 138 = .ok (.invokestatic 48, 3) := by decide +kernel
theorem dX5_measurePair_141 : decode cX5_measurePair 141 = .ok (.if_icmp .lt 7, 3) := by decide +kernel
theorem dX5_measurePair_144 : decode cX5_measurePair 144 = .ok (.iconst 1, 1) := by decide +kernel
theorem dX5_measurePair_145 : decode cX5_measurePair 145 = .ok (.goto 4, 3) := by decide +kernel
theorem dX5_measurePair_148 : decode cX5_measurePair 148 = .ok (.iconst 0, 1) := by decide +kernel
theorem dX5_measurePair_149 : decode cX5_measurePair 149 = .ok (.istore 13, 2) := by decide +kernel
theorem dX5_measurePair_151 : decode cX5_measurePair 151 = .ok (.aload_n 0, 1) := by decide +kernel
theorem dX5_measurePair_152 : decode cX5_measurePair 152 = .ok (.iload_n 2, 1) := by decide +kernel
theorem dX5_measurePair_153 : decode cX5_measurePair 153 = .ok (.iload_n 3, 1) := by decide +kernel
theorem dX5_measurePair_154 : decode cX5_measurePair 154 = .ok (.bipush 32, 2) := by decide +kernel
theorem dX5_measurePair_156 : decode cX5_measurePair 156 = .ok (.iload 11, 2) := by decide +kernel
theorem dX5_measurePair_158 : decode cX5_measurePair 158 = .ok (.imul, 1) := by decide +kernel
theorem dX5_measurePair_159 : decode cX5_measurePair 159 = .ok (.iload 10, 2) := by decide +kernel
theorem dX5_measurePair_161 : decode cX5_measurePair 161 = .ok (.idiv, 1) := by decide +kernel
theorem dX5_measurePair_162 : decode cX5_measurePair 162 = .ok (.iload 13, 2) := by decide +kernel
theorem dX5_measurePair_164 : decode cX5_measurePair 164 = .ok (.invokevirtual 54, 3) := by decide +kernel
theorem dX5_measurePair_167 : decode cX5_measurePair 167 = .ok (.aload_n 0, 1) := by decide +kernel
theorem dX5_measurePair_168 : decode cX5_measurePair 168 = .ok (.iload_n 3, 1) := by decide +kernel
theorem dX5_measurePair_169 : decode cX5_measurePair 169 = .ok (.iload_n 2, 1) := by decide +kernel
theorem dX5_measurePair_170 : decode cX5_measurePair 170 = .ok (.bipush 32, 2) := by decide +kernel
theorem dX5_measurePair_172 : decode cX5_measurePair 172 = .ok (.iload 12, 2) := by decide +kernel
theorem dX5_measurePair_174 : decode cX5_measurePair 174 = .ok (.imul, 1) := by decide +kernel
theorem dX5_measurePair_175 : decode cX5_measurePair 175 = .ok (.iload 10, 2) := by decide +kernel
theorem dX5_measurePair_177 : decode cX5_measurePair 177 = .ok (.idiv, 1) := by decide +kernel
theorem dX5_measurePair_178 : decode cX5_measurePair 178 = .ok (.iload 13, 2) := by decide +kernel
theorem dX5_measurePair_180 : decode cX5_measurePair 180 = .ok (.invokevirtual 54, 3) := by decide +kernel
theorem dX5_measurePair_183 : decode cX5_measurePair 183 = .ok (.return_, 1) := by decide +kernel
theorem dX5_note_0 : decode cX5_note 0 = .ok (.aload_n 0, 1) := by decide +kernel
theorem dX5_note_1 : decode cX5_note 1 = .ok (.getfield 25, 3) := by decide +kernel
theorem dX5_note_4 : decode cX5_note 4 = .ok (.ifCond .lt 12, 3) := by decide +kernel
theorem dX5_note_7 : decode cX5_note 7 = .ok (.aload_n 0, 1) := by decide +kernel
theorem dX5_note_8 : decode cX5_note 8 = .ok (.getfield 25, 3) := by decide +kernel
theorem dX5_note_11 : decode cX5_note 11 = .ok (.bipush 30, 2) := by decide +kernel
theorem dX5_note_13 : decode cX5_note 13 = .ok (.if_icmp .lt 4, 3) := by decide +kernel
theorem dX5_note_16 : decode cX5_note 16 = .ok (.return_, 1) := by decide +kernel
theorem dX5_note_17 : decode cX5_note 17 = .ok (.aload_n 0, 1) := by decide +kernel
theorem dX5_note_18 : decode cX5_note 18 = .ok (.getfield 11, 3) := by decide +kernel
theorem dX5_note_21 : decode cX5_note 21 = .ok (.aload_n 0, 1) := by decide +kernel
theorem dX5_note_22 : decode cX5_note 22 = .ok (.getfield 25, 3) := by decide +kernel
theorem dX5_note_25 : decode cX5_note 25 = .ok (.iload_n 1, 1) := by decide +kernel
theorem dX5_note_26 : decode cX5_note 26 = .ok (.iastore, 1) := by decide +kernel
theorem dX5_note_27 : decode cX5_note 27 = .ok (.aload_n 0, 1) := by decide +kernel
theorem dX5_note_28 : decode cX5_note 28 = .ok (.getfield 15, 3) := by decide +kernel
theorem dX5_note_31 : decode cX5_note 31 = .ok (.aload_n 0, 1) := by decide +kernel
theorem dX5_note_32 : decode cX5_note 32 = .ok (.getfield 25, 3) := by decide +kernel
theorem dX5_note_35 : decode cX5_note 35 = .ok (.iload_n 2, 1) := by decide +kernel
theorem dX5_note_36 : decode cX5_note 36 = .ok (.iastore, 1) := by decide +kernel
theorem dX5_note_37 : decode cX5_note 37 = .ok (.aload_n 0, 1) := by decide +kernel
theorem dX5_note_38 : decode cX5_note 38 = .ok (.getfield 18, 3) := by decide +kernel
theorem dX5_note_41 : decode cX5_note 41 = .ok (.aload_n 0, 1) := by decide +kernel
theorem dX5_note_42 : decode cX5_note 42 = .ok (.getfield 25, 3) := by decide +kernel
theorem dX5_note_45 : decode cX5_note 45 = .ok (.iload_n 3, 1) := by decide +kernel
theorem dX5_note_46 : decode cX5_note 46 = .ok (.iastore, 1) := by decide +kernel
theorem dX5_note_47 : decode cX5_note 47 = .ok (.aload_n 0, 1) := by decide +kernel
theorem dX5_note_48 : decode cX5_note 48 = .ok (.getfield 21, 3) := by decide +kernel
theorem dX5_note_51 : decode cX5_note 51 = .ok (.aload_n 0, 1) := by decide +kernel
theorem dX5_note_52 : decode cX5_note 52 = .ok (.getfield 25, 3) := by decide +kernel
theorem dX5_note_55 : decode cX5_note 55 = .ok (.iload 4, 2) := by decide +kernel
theorem dX5_note_57 : decode cX5_note 57 = .ok (.bastore, 1) := by decide +kernel
theorem dX5_note_58 : decode cX5_note 58 = .ok (.aload_n 0, 1) := by decide +kernel
theorem dX5_note_59 : decode cX5_note 59 = .ok (.dup, 1) := by decide +kernel
theorem dX5_note_60 : decode cX5_note 60 = .ok (.getfield 25, 3) := by decide +kernel
theorem dX5_note_63 : decode cX5_note 63 = .ok (.iconst 1, 1) := by decide +kernel
theorem dX5_note_64 : decode cX5_note 64 = .ok (.iadd, 1) := by decide +kernel
theorem dX5_note_65 : decode cX5_note 65 = .ok (.putfield 25, 3) := by decide +kernel
theorem dX5_note_68 : decode cX5_note 68 = .ok (.return_, 1) := by decide +kernel
theorem dX5_crossings_0 : decode cX5_crossings 0 = .ok (.aload_n 0, 1) := by decide +kernel
theorem dX5_crossings_1 : decode cX5_crossings 1 = .ok (.getfield 25, 3) := by decide +kernel
theorem dX5_crossings_4 : decode cX5_crossings 4 = .ok (.iconst 2, 1) := by decide +kernel
theorem dX5_crossings_5 : decode cX5_crossings 5 = .ok (.idiv, 1) := by decide +kernel
theorem dX5_crossings_6 : decode cX5_crossings 6 = .ok (.ireturn, 1) := by decide +kernel
theorem dX5_noteOf_0 : decode cX5_noteOf 0 = .ok (.iconst 0, 1) := by decide +kernel
theorem dX5_noteOf_1 : decode cX5_noteOf 1 = .ok (.istore_n 3, 1) := by decide +kernel
theorem dX5_noteOf_2 : decode cX5_noteOf 2 = .ok (.iload_n 3, 1) := by decide +kernel
theorem dX5_noteOf_3 : decode cX5_noteOf 3 = .ok (.aload_n 0, 1) := by decide +kernel
theorem dX5_noteOf_4 : decode cX5_noteOf 4 = .ok (.getfield 25, 3) := by decide +kernel
theorem dX5_noteOf_7 : decode cX5_noteOf 7 = .ok (.if_icmp .ge 37, 3) := by decide +kernel
theorem dX5_noteOf_10 : decode cX5_noteOf 10 = .ok (.iload_n 3, 1) := by decide +kernel
theorem dX5_noteOf_11 : decode cX5_noteOf 11 = .ok (.bipush 30, 2) := by decide +kernel
theorem dX5_noteOf_13 : decode cX5_noteOf 13 = .ok (.if_icmp .ge 31, 3) := by decide +kernel
theorem dX5_noteOf_16 : decode cX5_noteOf 16 = .ok (.aload_n 0, 1) := by decide +kernel
theorem dX5_noteOf_17 : decode cX5_noteOf 17 = .ok (.getfield 11, 3) := by decide +kernel
theorem dX5_noteOf_20 : decode cX5_noteOf 20 = .ok (.iload_n 3, 1) := by decide +kernel
theorem dX5_noteOf_21 : decode cX5_noteOf 21 = .ok (.iaload, 1) := by decide +kernel
theorem dX5_noteOf_22 : decode cX5_noteOf 22 = .ok (.iload_n 1, 1) := by decide +kernel
theorem dX5_noteOf_23 : decode cX5_noteOf 23 = .ok (.if_icmp .ne 15, 3) := by decide +kernel
theorem dX5_noteOf_26 : decode cX5_noteOf 26 = .ok (.aload_n 0, 1) := by decide +kernel
theorem dX5_noteOf_27 : decode cX5_noteOf 27 = .ok (.getfield 15, 3) := by decide +kernel
theorem dX5_noteOf_30 : decode cX5_noteOf 30 = .ok (.iload_n 3, 1) := by decide +kernel
theorem dX5_noteOf_31 : decode cX5_noteOf 31 = .ok (.iaload, 1) := by decide +kernel
theorem dX5_noteOf_32 : decode cX5_noteOf 32 = .ok (.iload_n 2, 1) := by decide +kernel
theorem dX5_noteOf_33 : decode cX5_noteOf 33 = .ok (.if_icmp .ne 5, 3) := by decide +kernel
theorem dX5_noteOf_36 : decode cX5_noteOf 36 = .ok (.iload_n 3, 1) := by decide +kernel
theorem dX5_noteOf_37 : decode cX5_noteOf 37 = .ok (.ireturn, 1) := by decide +kernel
theorem dX5_noteOf_38 : decode cX5_noteOf 38 = .ok (.iinc 3 1, 3) := by decide +kernel
theorem dX5_noteOf_41 : decode cX5_noteOf 41 = .ok (.goto (-39), 3) := by decide +kernel
theorem dX5_noteOf_44 : decode cX5_noteOf 44 = .ok (.bipush (-6), 2) := by decide +kernel
theorem dX5_noteOf_46 : decode cX5_noteOf 46 = .ok (.ireturn, 1) := by decide +kernel
theorem dX5_cross_0 : decode cX5_cross 0 = .ok (.aload_n 0, 1) := by decide +kernel
theorem dX5_cross_1 : decode cX5_cross 1 = .ok (.iload_n 1, 1) := by decide +kernel
theorem dX5_cross_2 : decode cX5_cross 2 = .ok (.iload_n 2, 1) := by decide +kernel
theorem dX5_cross_3 : decode cX5_cross 3 = .ok (.invokevirtual 58, 3) := by decide +kernel
theorem dX5_cross_6 : decode cX5_cross 6 = .ok (.bipush (-6), 2) := by decide +kernel
theorem dX5_cross_8 : decode cX5_cross 8 = .ok (.if_icmp .eq 7, 3) := by decide +kernel
theorem dX5_cross_11 : decode cX5_cross 11 = .ok (.iconst 1, 1) := by decide +kernel
theorem dX5_cross_12 : decode cX5_cross 12 = .ok (.goto 4, 3) := by decide +kernel
theorem dX5_cross_15 : decode cX5_cross 15 = .ok (.iconst 0, 1) := by decide +kernel
theorem dX5_cross_16 : decode cX5_cross 16 = .ok (.ireturn, 1) := by decide +kernel
theorem dX5_placeOn_0 : decode cX5_placeOn 0 = .ok (.aload_n 0, 1) := by decide +kernel
theorem dX5_placeOn_1 : decode cX5_placeOn 1 = .ok (.iload_n 1, 1) := by decide +kernel
theorem dX5_placeOn_2 : decode cX5_placeOn 2 = .ok (.iload_n 2, 1) := by decide +kernel
theorem dX5_placeOn_3 : decode cX5_placeOn 3 = .ok (.invokevirtual 58, 3) := by decide +kernel
theorem dX5_placeOn_6 : decode cX5_placeOn 6 = .ok (.istore_n 3, 1) := by decide +kernel
theorem dX5_placeOn_7 : decode cX5_placeOn 7 = .ok (.iload_n 3, 1) := by decide +kernel
theorem dX5_placeOn_8 : decode cX5_placeOn 8 = .ok (.bipush (-6), 2) := by decide +kernel
theorem dX5_placeOn_10 : decode cX5_placeOn 10 = .ok (.if_icmp .ne 8, 3) := by decide +kernel
theorem dX5_placeOn_13 : decode cX5_placeOn 13 = .ok (.bipush (-6), 2) := by decide +kernel
theorem dX5_placeOn_15 : decode cX5_placeOn 15 = .ok (.goto 9, 3) := by decide +kernel
theorem dX5_placeOn_18 : decode cX5_placeOn 18 = .ok (.aload_n 0, 1) := by decide +kernel
theorem dX5_placeOn_19 : decode cX5_placeOn 19 = .ok (.getfield 18, 3) := by decide +kernel
theorem dX5_placeOn_22 : decode cX5_placeOn 22 = .ok (.iload_n 3, 1) := by decide +kernel
theorem dX5_placeOn_23 : decode cX5_placeOn 23 = .ok (.iaload, 1) := by decide +kernel
theorem dX5_placeOn_24 : decode cX5_placeOn 24 = .ok (.ireturn, 1) := by decide +kernel
theorem dX5_isSteep_0 : decode cX5_isSteep 0 = .ok (.aload_n 0, 1) := by decide +kernel
theorem dX5_isSteep_1 : decode cX5_isSteep 1 = .ok (.iload_n 1, 1) := by decide +kernel
theorem dX5_isSteep_2 : decode cX5_isSteep 2 = .ok (.iload_n 2, 1) := by decide +kernel
theorem dX5_isSteep_3 : decode cX5_isSteep 3 = .ok (.invokevirtual 58, 3) := by decide +kernel
theorem dX5_isSteep_6 : decode cX5_isSteep 6 = .ok (.istore_n 3, 1) := by decide +kernel
theorem dX5_isSteep_7 : decode cX5_isSteep 7 = .ok (.iload_n 3, 1) := by decide +kernel
theorem dX5_isSteep_8 : decode cX5_isSteep 8 = .ok (.bipush (-6), 2) := by decide +kernel
theorem dX5_isSteep_10 : decode cX5_isSteep 10 = .ok (.if_icmp .eq 16, 3) := by decide +kernel
theorem dX5_isSteep_13 : decode cX5_isSteep 13 = .ok (.aload_n 0, 1) := by decide +kernel
theorem dX5_isSteep_14 : decode cX5_isSteep 14 = .ok (.getfield 21, 3) := by decide +kernel
theorem dX5_isSteep_17 : decode cX5_isSteep 17 = .ok (.iload_n 3, 1) := by decide +kernel
theorem dX5_isSteep_18 : decode cX5_isSteep 18 = .ok (.baload, 1) := by decide +kernel
theorem dX5_isSteep_19 : decode cX5_isSteep 19 = .ok (.ifCond .eq 7, 3) := by decide +kernel
theorem dX5_isSteep_22 : decode cX5_isSteep 22 = .ok (.iconst 1, 1) := by decide +kernel
theorem dX5_isSteep_23 : decode cX5_isSteep 23 = .ok (.goto 4, 3) := by decide +kernel
theorem dX5_isSteep_26 : decode cX5_isSteep 26 = .ok (.iconst 0, 1) := by decide +kernel
theorem dX5_isSteep_27 : decode cX5_isSteep 27 = .ok (.ireturn, 1) := by decide +kernel
theorem dX5_crossersOf_0 : decode cX5_crossersOf 0 = .ok (.iconst 0, 1) := by decide +kernel
theorem dX5_crossersOf_1 : decode cX5_crossersOf 1 = .ok (.istore_n 2, 1) := by decide +kernel
theorem dX5_crossersOf_2 : decode cX5_crossersOf 2 = .ok (.iconst 0, 1) := by decide +kernel
theorem dX5_crossersOf_3 : decode cX5_crossersOf 3 = .ok (.istore_n 3, 1) := by decide +kernel
theorem dX5_crossersOf_4 : decode cX5_crossersOf 4 = .ok (.iload_n 3, 1) := by decide +kernel
theorem dX5_crossersOf_5 : decode cX5_crossersOf 5 = .ok (.aload_n 0, 1) := by decide +kernel
theorem dX5_crossersOf_6 : decode cX5_crossersOf 6 = .ok (.getfield 25, 3) := by decide +kernel
theorem dX5_crossersOf_9 : decode cX5_crossersOf 9 = .ok (.if_icmp .ge 36, 3) := by decide +kernel
theorem dX5_crossersOf_12 : decode cX5_crossersOf 12 = .ok (.iload_n 3, 1) := by decide +kernel
theorem dX5_crossersOf_13 : decode cX5_crossersOf 13 = .ok (.bipush 30, 2) := by decide +kernel
theorem dX5_crossersOf_15 : decode cX5_crossersOf 15 = .ok (.if_icmp .ge 30, 3) := by decide +kernel
theorem dX5_crossersOf_18 : decode cX5_crossersOf 18 = .ok (.aload_n 0, 1) := by decide +kernel
theorem dX5_crossersOf_19 : decode cX5_crossersOf 19 = .ok (.getfield 11, 3) := by decide +kernel
theorem dX5_crossersOf_22 : decode cX5_crossersOf 22 = .ok (.iload_n 3, 1) := by decide +kernel
theorem dX5_crossersOf_23 : decode cX5_crossersOf 23 = .ok (.iaload, 1) := by decide +kernel
theorem dX5_crossersOf_24 : decode cX5_crossersOf 24 = .ok (.iload_n 1, 1) := by decide +kernel
theorem dX5_crossersOf_25 : decode cX5_crossersOf 25 = .ok (.if_icmp .ne 14, 3) := by decide +kernel
theorem dX5_crossersOf_28 : decode cX5_crossersOf 28 = .ok (.iload_n 2, 1) := by decide +kernel
theorem dX5_crossersOf_29 : decode cX5_crossersOf 29 = .ok (.iconst 1, 1) := by decide +kernel
theorem dX5_crossersOf_30 : decode cX5_crossersOf 30 = .ok (.aload_n 0, 1) := by decide +kernel
theorem dX5_crossersOf_31 : decode cX5_crossersOf 31 = .ok (.getfield 15, 3) := by decide +kernel
theorem dX5_crossersOf_34 : decode cX5_crossersOf 34 = .ok (.iload_n 3, 1) := by decide +kernel
theorem dX5_crossersOf_35 : decode cX5_crossersOf 35 = .ok (.iaload, 1) := by decide +kernel
theorem dX5_crossersOf_36 : decode cX5_crossersOf 36 = .ok (.ishl, 1) := by decide +kernel
theorem dX5_crossersOf_37 : decode cX5_crossersOf 37 = .ok (.ior, 1) := by decide +kernel
theorem dX5_crossersOf_38 : decode cX5_crossersOf 38 = .ok (.istore_n 2, 1) := by decide +kernel
theorem dX5_crossersOf_39 : decode cX5_crossersOf 39 = .ok (.iinc 3 1, 3) := by decide +kernel
theorem dX5_crossersOf_42 : decode cX5_crossersOf 42 = .ok (.goto (-38), 3) := by decide +kernel
theorem dX5_crossersOf_45 : decode cX5_crossersOf 45 = .ok (.iload_n 2, 1) := by decide +kernel
theorem dX5_crossersOf_46 : decode cX5_crossersOf 46 = .ok (.ireturn, 1) := by decide +kernel
theorem dX6_init_0 : decode cX6_init 0 = .ok (.aload_n 0, 1) := by decide +kernel
theorem dX6_init_1 : decode cX6_init 1 = .ok (.invokespecial 1, 3) := by decide +kernel
theorem dX6_init_4 : decode cX6_init 4 = .ok (.aload_n 0, 1) := by decide +kernel
theorem dX6_init_5 : decode cX6_init 5 = .ok (.new 7, 3) := by decide +kernel
theorem dX6_init_8 : decode cX6_init 8 = .ok (.dup, 1) := by decide +kernel
theorem dX6_init_9 : decode cX6_init 9 = .ok (.invokespecial 9, 3) := by decide +kernel
theorem dX6_init_12 : decode cX6_init 12 = .ok (.putfield 10, 3) := by decide +kernel
theorem dX6_init_15 : decode cX6_init 15 = .ok (.aload_n 0, 1) := by decide +kernel
theorem dX6_init_16 : decode cX6_init 16 = .ok (.new 7, 3) := by decide +kernel
theorem dX6_init_19 : decode cX6_init 19 = .ok (.dup, 1) := by decide +kernel
theorem dX6_init_20 : decode cX6_init 20 = .ok (.invokespecial 9, 3) := by decide +kernel
theorem dX6_init_23 : decode cX6_init 23 = .ok (.putfield 16, 3) := by decide +kernel
theorem dX6_init_26 : decode cX6_init 26 = .ok (.aload_n 0, 1) := by decide +kernel
theorem dX6_init_27 : decode cX6_init 27 = .ok (.new 19, 3) := by decide +kernel
theorem dX6_init_30 : decode cX6_init 30 = .ok (.dup, 1) := by decide +kernel
theorem dX6_init_31 : decode cX6_init 31 = .ok (.invokespecial 21, 3) := by decide +kernel
theorem dX6_init_34 : decode cX6_init 34 = .ok (.putfield 22, 3) := by decide +kernel
theorem dX6_init_37 : decode cX6_init 37 = .ok (.aload_n 0, 1) := by decide +kernel
theorem dX6_init_38 : decode cX6_init 38 = .ok (.new 26, 3) := by decide +kernel
theorem dX6_init_41 : decode cX6_init 41 = .ok (.dup, 1) := by decide +kernel
theorem dX6_init_42 : decode cX6_init 42 = .ok (.invokespecial 28, 3) := by decide +kernel
theorem dX6_init_45 : decode cX6_init 45 = .ok (.putfield 29, 3) := by decide +kernel
theorem dX6_init_48 : decode cX6_init 48 = .ok (.aload_n 0, 1) := by decide +kernel
theorem dX6_init_49 : decode cX6_init 49 = .ok (.new 33, 3) := by decide +kernel
theorem dX6_init_52 : decode cX6_init 52 = .ok (.dup, 1) := by decide +kernel
theorem dX6_init_53 : decode cX6_init 53 = .ok (.invokespecial 35, 3) := by decide +kernel
theorem dX6_init_56 : decode cX6_init 56 = .ok (.putfield 36, 3) := by decide +kernel
theorem dX6_init_59 : decode cX6_init 59 = .ok (.aload_n 0, 1) := by decide +kernel
theorem dX6_init_60 : decode cX6_init 60 = .ok (.new 40, 3) := by decide +kernel
theorem dX6_init_63 : decode cX6_init 63 = .ok (.dup, 1) := by decide +kernel
theorem dX6_init_64 : decode cX6_init 64 = .ok (.invokespecial 42, 3) := by decide +kernel
theorem dX6_init_67 : decode cX6_init 67 = .ok (.putfield 43, 3) := by decide +kernel
theorem dX6_init_70 : decode cX6_init 70 = .ok (.aload_n 0, 1) := by decide +kernel
theorem dX6_init_71 : decode cX6_init 71 = .ok (.new 40, 3) := by decide +kernel
theorem dX6_init_74 : decode cX6_init 74 = .ok (.dup, 1) := by decide +kernel
theorem dX6_init_75 : decode cX6_init 75 = .ok (.invokespecial 42, 3) := by decide +kernel
theorem dX6_init_78 : decode cX6_init 78 = .ok (.putfield 47, 3) := by decide +kernel
theorem dX6_init_81 : decode cX6_init 81 = .ok (.aload_n 0, 1) := by decide +kernel
theorem dX6_init_82 : decode cX6_init 82 = .ok (.new 50, 3) := by decide +kernel
theorem dX6_init_85 : decode cX6_init 85 = .ok (.dup, 1) := by decide +kernel
theorem dX6_init_86 : decode cX6_init 86 = .ok (.invokespecial 52, 3) := by decide +kernel
theorem dX6_init_89 : decode cX6_init 89 = .ok (.putfield 53, 3) := by decide +kernel
theorem dX6_init_92 : decode cX6_init 92 = .ok (.return_, 1) := by decide +kernel
theorem dX6_launch_0 : decode cX6_launch 0 = .ok (.iload_n 1, 1) := by decide +kernel
theorem dX6_launch_1 : decode cX6_launch 1 = .ok (.iconst 0, 1) := by decide +kernel
theorem dX6_launch_2 : decode cX6_launch 2 = .ok (.bipush 63, 2) := by decide +kernel
theorem dX6_launch_4 : decode cX6_launch 4 = .ok (.invokestatic 57, 3) := by decide +kernel
theorem dX6_launch_7 : decode cX6_launch 7 = .ok (.ifCond .eq 46, 3) := by decide +kernel
theorem dX6_launch_10 : decode cX6_launch 10 = .ok (.iload_n 2, 1) := by decide +kernel
theorem dX6_launch_11 : decode cX6_launch 11 = .ok (.iconst 0, 1) := by decide +kernel
theorem dX6_launch_12 : decode cX6_launch 12 = .ok (.bipush 63, 2) := by decide +kernel
theorem dX6_launch_14 : decode cX6_launch 14 = .ok (.invokestatic 57, 3) := by decide +kernel
theorem dX6_launch_17 : decode cX6_launch 17 = .ok (.ifCond .eq 36, 3) := by decide +kernel
theorem dX6_launch_20 : decode cX6_launch 20 = .ok (.iload_n 3, 1) := by decide +kernel
theorem dX6_launch_21 : decode cX6_launch 21 = .ok (.iconst 1, 1) := by decide +kernel
theorem dX6_launch_22 : decode cX6_launch 22 = .ok (.bipush 47, 2) := by decide +kernel
theorem dX6_launch_24 : decode cX6_launch 24 = .ok (.invokestatic 57, 3) := by decide +kernel
theorem dX6_launch_27 : decode cX6_launch 27 = .ok (.ifCond .eq 26, 3) := by decide +kernel
theorem dX6_launch_30 : decode cX6_launch 30 = .ok (.iload 4, 2) := by decide +kernel
theorem dX6_launch_32 : decode cX6_launch 32 = .ok (.iconst 0, 1) := by decide +kernel
theorem dX6_launch_33 : decode cX6_launch 33 = .ok (.iconst 5, 1) := by decide +kernel
theorem dX6_launch_34 : decode cX6_launch 34 = .ok (.invokestatic 57, 3) := by decide +kernel
theorem dX6_launch_37 : decode cX6_launch 37 = .ok (.ifCond .eq 16, 3) := by decide +kernel
theorem dX6_launch_40 : decode cX6_launch 40 = .ok (.iload 5, 2) := by decide +kernel
theorem dX6_launch_42 : decode cX6_launch 42 = .ok (.bipush 10, 2) := by decide +kernel
theorem dX6_launch_44 : decode cX6_launch 44 = .ok (.sipush 200, 3) := by decide +kernel
theorem dX6_launch_47 : decode cX6_launch 47 = .ok (.invokestatic 57, 3) := by decide +kernel
theorem dX6_launch_50 : decode cX6_launch 50 = .ok (.ifCond .ne 6, 3) := by decide +kernel
theorem dX6_launch_53 : decode cX6_launch 53 = .ok (.bipush (-2), 2) := by decide +kernel
theorem dX6_launch_55 : decode cX6_launch 55 = .ok (.ireturn, 1) := by decide +kernel
theorem dX6_launch_56 : decode cX6_launch 56 = .ok (.aload_n 0, 1) := by decide +kernel
theorem dX6_launch_57 : decode cX6_launch 57 = .ok (.getfield 10, 3) := by decide +kernel
theorem dX6_launch_60 : decode cX6_launch 60 = .ok (.getfield 61, 3) := by decide +kernel
theorem dX6_launch_63 : decode cX6_launch 63 = .ok (.bipush 6, 2) := by decide +kernel
theorem dX6_launch_65 : decode cX6_launch 65 = .ok (.if_icmp .lt 6, 3) := by decide +kernel
theorem dX6_launch_68 : decode cX6_launch 68 = .ok (.bipush (-4), 2) := by decide +kernel
theorem dX6_launch_70 : decode cX6_launch 70 = .ok (.ireturn, 1) := by decide +kernel
theorem dX6_launch_71 : decode cX6_launch 71 = .ok (.aload_n 0, 1) := by decide +kernel
theorem dX6_launch_72 : decode cX6_launch 72 = .ok (.getfield 36, 3) := by decide +kernel
theorem dX6_launch_75 : decode cX6_launch 75 = .ok (.aload_n 0, 1) := by decide +kernel
theorem dX6_launch_76 : decode cX6_launch 76 = .ok (.getfield 10, 3) := by decide +kernel
theorem dX6_launch_79 : decode cX6_launch 79 = .ok (.invokevirtual 65, 3) := by decide +kernel
theorem dX6_launch_82 : decode cX6_launch 82 = .ok (.aload_n 0, 1) := by decide +kernel
theorem dX6_launch_83 : decode cX6_launch 83 = .ok (.getfield 10, 3) := by decide +kernel
theorem dX6_launch_86 : decode cX6_launch 86 = .ok (.iload_n 1, 1) := by decide +kernel
theorem dX6_launch_87 : decode cX6_launch 87 = .ok (.iload_n 2, 1) := by decide +kernel
theorem dX6_launch_88 : decode cX6_launch 88 = .ok (.iload_n 3, 1) := by decide +kernel
theorem dX6_launch_89 : decode cX6_launch 89 = .ok (.iload 4, 2) := by decide +kernel
theorem dX6_launch_91 : decode cX6_launch 91 = .ok (.iload 5, 2) := by decide +kernel
theorem dX6_launch_93 : decode cX6_launch 93 = .ok (.invokevirtual 69, 3) := by decide +kernel
theorem dX6_launch_96 : decode cX6_launch 96 = .ok (.ireturn, 1) := by decide +kernel
theorem dX6_order_0 : decode cX6_order 0 = .ok (.aload_n 0, 1) := by decide +kernel
theorem dX6_order_1 : decode cX6_order 1 = .ok (.iload_n 1, 1) := by decide +kernel
theorem dX6_order_2 : decode cX6_order 2 = .ok (.iload_n 2, 1) := by decide +kernel
theorem dX6_order_3 : decode cX6_order 3 = .ok (.iload_n 3, 1) := by decide +kernel
theorem dX6_order_4 : decode cX6_order 4 = .ok (.invokevirtual 73, 3) := by decide +kernel
theorem dX6_order_7 : decode cX6_order 7 = .ok (.istore 4, 2) := by decide +kernel
theorem dX6_order_9 : decode cX6_order 9 = .ok (.iload 4, 2) := by decide +kernel
theorem dX6_order_11 : decode cX6_order 11 = .ok (.ifCond .eq 6, 3) := by decide +kernel
theorem dX6_order_14 : decode cX6_order 14 = .ok (.iload 4, 2) := by decide +kernel
theorem dX6_order_16 : decode cX6_order 16 = .ok (.ireturn, 1) := by decide +kernel
theorem dX6_order_17 : decode cX6_order 17 = .ok (.aload_n 0, 1) := by decide +kernel
theorem dX6_order_18 : decode cX6_order 18 = .ok (.getfield 36, 3) := by decide +kernel
theorem dX6_order_21 : decode cX6_order 21 = .ok (.aload_n 0, 1) := by decide +kernel
theorem dX6_order_22 : decode cX6_order 22 = .ok (.getfield 10, 3) := by decide +kernel
theorem dX6_order_25 : decode cX6_order 25 = .ok (.invokevirtual 65, 3) := by decide +kernel
theorem dX6_order_28 : decode cX6_order 28 = .ok (.aload_n 0, 1) := by decide +kernel
theorem dX6_order_29 : decode cX6_order 29 = .ok (.getfield 10, 3) := by decide +kernel
theorem dX6_order_32 : decode cX6_order 32 = .ok (.iload_n 1, 1) := by decide +kernel
theorem dX6_order_33 : decode cX6_order 33 = .ok (.iload_n 2, 1) := by decide +kernel
theorem dX6_order_34 : decode cX6_order 34 = .ok (.iload_n 3, 1) := by decide +kernel
theorem dX6_order_35 : decode cX6_order 35 = .ok (.invokevirtual 77, 3) := by decide +kernel
theorem dX6_order_38 : decode cX6_order 38 = .ok (.ireturn, 1) := by decide +kernel
theorem dX6_step_0 : decode cX6_step 0 = .ok (.aload_n 0, 1) := by decide +kernel
theorem dX6_step_1 : decode cX6_step 1 = .ok (.getfield 10, 3) := by decide +kernel
theorem dX6_step_4 : decode cX6_step 4 = .ok (.iload_n 1, 1) := by decide +kernel
theorem dX6_step_5 : decode cX6_step 5 = .ok (.invokevirtual 80, 3) := by decide +kernel
theorem dX6_step_8 : decode cX6_step 8 = .ok (.ifCond .ne 5, 3) := by decide +kernel
theorem dX6_step_11 : decode cX6_step 11 = .ok (.iconst (-1), 1) := by decide +kernel
theorem dX6_step_12 : decode cX6_step 12 = .ok (.ireturn, 1) := by decide +kernel
theorem dX6_step_13 : decode cX6_step 13 = .ok (.iload_n 2, 1) := by decide +kernel
theorem dX6_step_14 : decode cX6_step 14 = .ok (.iconst 0, 1) := by decide +kernel
theorem dX6_step_15 : decode cX6_step 15 = .ok (.bipush 63, 2) := by decide +kernel
theorem dX6_step_17 : decode cX6_step 17 = .ok (.invokestatic 57, 3) := by decide +kernel
theorem dX6_step_20 : decode cX6_step 20 = .ok (.ifCond .ne 6, 3) := by decide +kernel
theorem dX6_step_23 : decode cX6_step 23 = .ok (.bipush (-2), 2) := by decide +kernel
theorem dX6_step_25 : decode cX6_step 25 = .ok (.ireturn, 1) := by decide +kernel
theorem dX6_step_26 : decode cX6_step 26 = .ok (.aload_n 0, 1) := by decide +kernel
theorem dX6_step_27 : decode cX6_step 27 = .ok (.getfield 10, 3) := by decide +kernel
theorem dX6_step_30 : decode cX6_step 30 = .ok (.iload_n 1, 1) := by decide +kernel
theorem dX6_step_31 : decode cX6_step 31 = .ok (.invokevirtual 84, 3) := by decide +kernel
theorem dX6_step_34 : decode cX6_step 34 = .ok (.ifCond .ne 6, 3) := by decide +kernel
theorem dX6_step_37 : decode cX6_step 37 = .ok (.bipush (-5), 2) := by decide +kernel
theorem dX6_step_39 : decode cX6_step 39 = .ok (.ireturn, 1) := by decide +kernel
theorem dX6_step_40 : decode cX6_step 40 = .ok (.aload_n 0, 1) := by decide +kernel
theorem dX6_step_41 : decode cX6_step 41 = .ok (.getfield 36, 3) := by decide +kernel
theorem dX6_step_44 : decode cX6_step 44 = .ok (.aload_n 0, 1) := by decide +kernel
theorem dX6_step_45 : decode cX6_step 45 = .ok (.getfield 10, 3) := by decide +kernel
theorem dX6_step_48 : decode cX6_step 48 = .ok (.invokevirtual 65, 3) := by decide +kernel
theorem dX6_step_51 : decode cX6_step 51 = .ok (.aload_n 0, 1) := by decide +kernel
theorem dX6_step_52 : decode cX6_step 52 = .ok (.getfield 10, 3) := by decide +kernel
theorem dX6_step_55 : decode cX6_step 55 = .ok (.getfield 87, 3) := by decide +kernel
theorem dX6_step_58 : decode cX6_step 58 = .ok (.iload_n 1, 1) := by decide +kernel
theorem dX6_step_59 : decode cX6_step 59 = .ok (.iaload, 1) := by decide +kernel
theorem dX6_step_60 : decode cX6_step 60 = .ok (.istore_n 3, 1) := by decide +kernel
theorem dX6_step_61 : decode cX6_step 61 = .ok (.aload_n 0, 1) := by decide +kernel
theorem dX6_step_62 : decode cX6_step 62 = .ok (.getfield 10, 3) := by decide +kernel
theorem dX6_step_65 : decode cX6_step 65 = .ok (.getfield 87, 3) := by decide +kernel
theorem dX6_step_68 : decode cX6_step 68 = .ok (.iload_n 1, 1) := by decide +kernel
theorem dX6_step_69 : decode cX6_step 69 = .ok (.iload_n 2, 1) := by decide +kernel
theorem dX6_step_70 : decode cX6_step 70 = .ok (.iastore, 1) := by decide +kernel
theorem dX6_step_71 : decode cX6_step 71 = .ok (.iload_n 3, 1) := by decide +kernel
theorem dX6_step_72 : decode cX6_step 72 = .ok (.ireturn, 1) := by decide +kernel
theorem dX6_land_0 : decode cX6_land 0 = .ok (.aload_n 0, 1) := by decide +kernel
theorem dX6_land_1 : decode cX6_land 1 = .ok (.getfield 10, 3) := by decide +kernel
theorem dX6_land_4 : decode cX6_land 4 = .ok (.iload_n 1, 1) := by decide +kernel
theorem dX6_land_5 : decode cX6_land 5 = .ok (.invokevirtual 80, 3) := by decide +kernel
theorem dX6_land_8 : decode cX6_land 8 = .ok (.ifCond .ne 5, 3) := by decide +kernel
theorem dX6_land_11 : decode cX6_land 11 = .ok (.iconst (-1), 1) := by decide +kernel
theorem dX6_land_12 : decode cX6_land 12 = .ok (.ireturn, 1) := by decide +kernel
theorem dX6_land_13 : decode cX6_land 13 = .ok (.aload_n 0, 1) := by decide +kernel
theorem dX6_land_14 : decode cX6_land 14 = .ok (.getfield 10, 3) := by decide +kernel
theorem dX6_land_17 : decode cX6_land 17 = .ok (.iload_n 1, 1) := by decide +kernel
theorem dX6_land_18 : decode cX6_land 18 = .ok (.invokevirtual 84, 3) := by decide +kernel
theorem dX6_land_21 : decode cX6_land 21 = .ok (.ifCond .ne 6, 3) := by decide +kernel
theorem dX6_land_24 : decode cX6_land 24 = .ok (.bipush (-5), 2) := by decide +kernel
theorem dX6_land_26 : decode cX6_land 26 = .ok (.ireturn, 1) := by decide +kernel
theorem dX6_land_27 : decode cX6_land 27 = .ok (.aload_n 0, 1) := by decide +kernel
theorem dX6_land_28 : decode cX6_land 28 = .ok (.getfield 36, 3) := by decide +kernel
theorem dX6_land_31 : decode cX6_land 31 = .ok (.aload_n 0, 1) := by decide +kernel
theorem dX6_land_32 : decode cX6_land 32 = .ok (.getfield 10, 3) := by decide +kernel
theorem dX6_land_35 : decode cX6_land 35 = .ok (.invokevirtual 65, 3) := by decide +kernel
theorem dX6_land_38 : decode cX6_land 38 = .ok (.aload_n 0, 1) := by decide +kernel
theorem dX6_land_39 : decode cX6_land 39 = .ok (.getfield 10, 3) := by decide +kernel
theorem dX6_land_42 : decode cX6_land 42 = .ok (.getfield 91, 3) := by decide +kernel
theorem dX6_land_45 : decode cX6_land 45 = .ok (.iload_n 1, 1) := by decide +kernel
theorem dX6_land_46 : decode cX6_land 46 = .ok (.iconst 2, 1) := by decide +kernel
theorem dX6_land_47 : decode cX6_land 47 = .ok (.iastore, 1) := by decide +kernel
theorem dX6_land_48 : decode cX6_land 48 = .ok (.aload_n 0, 1) := by decide +kernel
theorem dX6_land_49 : decode cX6_land 49 = .ok (.getfield 10, 3) := by decide +kernel
theorem dX6_land_52 : decode cX6_land 52 = .ok (.iload_n 1, 1) := by decide +kernel
theorem dX6_land_53 : decode cX6_land 53 = .ok (.aload_n 0, 1) := by decide +kernel
theorem dX6_land_54 : decode cX6_land 54 = .ok (.getfield 10, 3) := by decide +kernel
theorem dX6_land_57 : decode cX6_land 57 = .ok (.iload_n 1, 1) := by decide +kernel
theorem dX6_land_58 : decode cX6_land 58 = .ok (.invokevirtual 94, 3) := by decide +kernel
theorem dX6_land_61 : decode cX6_land 61 = .ok (.invokevirtual 98, 3) := by decide +kernel
theorem dX6_land_64 : decode cX6_land 64 = .ok (.ireturn, 1) := by decide +kernel
theorem dX6_pass_0 : decode cX6_pass 0 = .ok (.iload_n 1, 1) := by decide +kernel
theorem dX6_pass_1 : decode cX6_pass 1 = .ok (.iconst 1, 1) := by decide +kernel
theorem dX6_pass_2 : decode cX6_pass 2 = .ok (.sipush 200, 3) := by decide +kernel
theorem dX6_pass_5 : decode cX6_pass 5 = .ok (.invokestatic 57, 3) := by decide +kernel
theorem dX6_pass_8 : decode cX6_pass 8 = .ok (.ifCond .ne 6, 3) := by decide +kernel
theorem dX6_pass_11 : decode cX6_pass 11 = .ok (.bipush (-2), 2) := by decide +kernel
theorem dX6_pass_13 : decode cX6_pass 13 = .ok (.ireturn, 1) := by decide +kernel
theorem dX6_pass_14 : decode cX6_pass 14 = .ok (.aload_n 0, 1) := by decide +kernel
theorem dX6_pass_15 : decode cX6_pass 15 = .ok (.getfield 36, 3) := by decide +kernel
theorem dX6_pass_18 : decode cX6_pass 18 = .ok (.aload_n 0, 1) := by decide +kernel
theorem dX6_pass_19 : decode cX6_pass 19 = .ok (.getfield 10, 3) := by decide +kernel
theorem dX6_pass_22 : decode cX6_pass 22 = .ok (.invokevirtual 65, 3) := by decide +kernel
theorem dX6_pass_25 : decode cX6_pass 25 = .ok (.iconst 0, 1) := by decide +kernel
theorem dX6_pass_26 : decode cX6_pass 26 = .ok (.istore_n 2, 1) := by decide +kernel
theorem dX6_pass_27 : decode cX6_pass 27 = .ok (.iconst 0, 1) := by decide +kernel
theorem dX6_pass_28 : decode cX6_pass 28 = .ok (.istore_n 3, 1) := by decide +kernel
theorem dX6_pass_29 : decode cX6_pass 29 = .ok (.iload_n 3, 1) := by decide +kernel
theorem dX6_pass_30 : decode cX6_pass 30 = .ok (.iload_n 1, 1) := by decide +kernel
theorem dX6_pass_31 : decode cX6_pass 31 = .ok (.if_icmp .ge 30, 3) := by decide +kernel
theorem dX6_pass_34 : decode cX6_pass 34 = .ok (.aload_n 0, 1) := by decide +kernel
theorem dX6_pass_35 : decode cX6_pass 35 = .ok (.getfield 29, 3) := by decide +kernel
theorem dX6_pass_38 : decode cX6_pass 38 = .ok (.aload_n 0, 1) := by decide +kernel
theorem dX6_pass_39 : decode cX6_pass 39 = .ok (.getfield 10, 3) := by decide +kernel
theorem dX6_pass_42 : decode cX6_pass 42 = .ok (.invokevirtual 102, 3) := by decide +kernel
theorem dX6_pass_45 : decode cX6_pass 45 = .ok (.iload_n 2, 1) := by decide +kernel
theorem dX6_pass_46 : decode cX6_pass 46 = .ok (.aload_n 0, 1) := by decide +kernel
theorem dX6_pass_47 : decode cX6_pass 47 = .ok (.getfield 29, 3) := by decide +kernel
theorem dX6_pass_50 : decode cX6_pass 50 = .ok (.getfield 105, 3) := by decide +kernel
theorem dX6_pass_53 : decode cX6_pass 53 = .ok (.ior, 1) := by decide +kernel
theorem dX6_pass_54 : decode cX6_pass 54 = .ok (.istore_n 2, 1) := by decide +kernel
theorem dX6_pass_55 : decode cX6_pass 55 = .ok (.iinc 3 1, 3) := by decide +kernel
theorem dX6_pass_58 : decode cX6_pass 58 = .ok (.goto (-29), 3) := by decide +kernel
theorem dX6_pass_61 : decode cX6_pass 61 = .ok (.iload_n 2, 1) := by decide +kernel
theorem dX6_pass_62 : decode cX6_pass 62 = .ok (.ireturn, 1) := by decide +kernel
theorem dX6_round_0 : decode cX6_round 0 = .ok (.aload_n 0, 1) := by decide +kernel
theorem dX6_round_1 : decode cX6_round 1 = .ok (.getfield 36, 3) := by decide +kernel
theorem dX6_round_4 : decode cX6_round 4 = .ok (.aload_n 0, 1) := by decide +kernel
theorem dX6_round_5 : decode cX6_round 5 = .ok (.getfield 10, 3) := by decide +kernel
theorem dX6_round_8 : decode cX6_round 8 = .ok (.invokevirtual 65, 3) := by decide +kernel
theorem dX6_round_11 : decode cX6_round 11 = .ok (.aload_n 0, 1) := by decide +kernel
theorem dX6_round_12 : decode cX6_round 12 = .ok (.getfield 10, 3) := by decide +kernel
theorem dX6_round_15 : decode cX6_round 15 = .ok (.invokevirtual 108, 3) := by decide +kernel
theorem dX6_round_18 : decode cX6_round 18 = .ok (.aload_n 0, 1) := by decide +kernel
theorem dX6_round_19 : decode cX6_round 19 = .ok (.getfield 10, 3) := by decide +kernel
theorem dX6_round_22 : decode cX6_round 22 = .ok (.getfield 111, 3) := by decide +kernel
theorem dX6_round_25 : decode cX6_round 25 = .ok (.ireturn, 1) := by decide +kernel
theorem dX6_carryOut_0 : decode cX6_carryOut 0 = .ok (.aload_n 0, 1) := by decide +kernel
theorem dX6_carryOut_1 : decode cX6_carryOut 1 = .ok (.getfield 53, 3) := by decide +kernel
theorem dX6_carryOut_4 : decode cX6_carryOut 4 = .ok (.invokevirtual 114, 3) := by decide +kernel
theorem dX6_carryOut_7 : decode cX6_carryOut 7 = .ok (.bipush (-6), 2) := by decide +kernel
theorem dX6_carryOut_9 : decode cX6_carryOut 9 = .ok (.if_icmp .eq 6, 3) := by decide +kernel
theorem dX6_carryOut_12 : decode cX6_carryOut 12 = .ok (.bipush (-3), 2) := by decide +kernel
theorem dX6_carryOut_14 : decode cX6_carryOut 14 = .ok (.ireturn, 1) := by decide +kernel
theorem dX6_carryOut_15 : decode cX6_carryOut 15 = .ok (.aload_n 0, 1) := by decide +kernel
theorem dX6_carryOut_16 : decode cX6_carryOut 16 = .ok (.getfield 36, 3) := by decide +kernel
theorem dX6_carryOut_19 : decode cX6_carryOut 19 = .ok (.aload_n 0, 1) := by decide +kernel
theorem dX6_carryOut_20 : decode cX6_carryOut 20 = .ok (.getfield 10, 3) := by decide +kernel
theorem dX6_carryOut_23 : decode cX6_carryOut 23 = .ok (.invokevirtual 65, 3) := by decide +kernel
theorem dX6_carryOut_26 : decode cX6_carryOut 26 = .ok (.aload_n 0, 1) := by decide +kernel
theorem dX6_carryOut_27 : decode cX6_carryOut 27 = .ok (.invokevirtual 118, 3) := by decide +kernel
theorem dX6_carryOut_30 : decode cX6_carryOut 30 = .ok (.istore_n 1, 1) := by decide +kernel
theorem dX6_carryOut_31 : decode cX6_carryOut 31 = .ok (.aload_n 0, 1) := by decide +kernel
theorem dX6_carryOut_32 : decode cX6_carryOut 32 = .ok (.getfield 53, 3) := by decide +kernel
theorem dX6_carryOut_35 : decode cX6_carryOut 35 = .ok (.invokevirtual 121, 3) := by decide +kernel
theorem dX6_carryOut_38 : decode cX6_carryOut 38 = .ok (.iload_n 1, 1) := by decide +kernel
theorem dX6_carryOut_39 : decode cX6_carryOut 39 = .ok (.ireturn, 1) := by decide +kernel
theorem dX6_giveOrdersOfPad_0 : decode cX6_giveOrdersOfPad 0 = .ok (.iconst 0, 1) := by decide +kernel
theorem dX6_giveOrdersOfPad_1 : decode cX6_giveOrdersOfPad 1 = .ok (.istore_n 1, 1) := by decide +kernel
theorem dX6_giveOrdersOfPad_2 : decode cX6_giveOrdersOfPad 2 = .ok (.iconst 0, 1) := by decide +kernel
theorem dX6_giveOrdersOfPad_3 : decode cX6_giveOrdersOfPad 3 = .ok (.istore_n 2, 1) := by decide +kernel
theorem dX6_giveOrdersOfPad_4 : decode cX6_giveOrdersOfPad 4 = .ok (.iconst 0, 1) := by decide +kernel
theorem dX6_giveOrdersOfPad_5 : decode cX6_giveOrdersOfPad 5 = .ok (.istore_n 3, 1) := by decide +kernel
theorem dX6_giveOrdersOfPad_6 : decode cX6_giveOrdersOfPad 6 = .ok (.iload_n 3, 1) := by decide +kernel
theorem dX6_giveOrdersOfPad_7 : decode cX6_giveOrdersOfPad 7 = .ok (.bipush 60, 2) := by decide +kernel
theorem dX6_giveOrdersOfPad_9 : decode cX6_giveOrdersOfPad 9 = .ok (.if_icmp .ge 122, 3) := by decide +kernel
theorem dX6_giveOrdersOfPad_12 : decode cX6_giveOrdersOfPad 12 = .ok (.iload_n 2, 1) := by decide +kernel
theorem dX6_giveOrdersOfPad_13 : decode cX6_giveOrdersOfPad 13 = .ok (.aload_n 0, 1) := by decide +kernel
theorem dX6_giveOrdersOfPad_14 : decode cX6_giveOrdersOfPad 14 = .ok (.getfield 53, 3) := by decide +kernel
theorem dX6_giveOrdersOfPad_17 : decode cX6_giveOrdersOfPad 17 = .ok (.getfield 124, 3) := by decide +kernel
theorem dX6_giveOrdersOfPad_20 : decode cX6_giveOrdersOfPad 20 = .ok (.if_icmp .ge 111, 3) := by decide +kernel
theorem dX6_giveOrdersOfPad_23 : decode cX6_giveOrdersOfPad 23 = .ok (.aload_n 0, 1) := by decide +kernel
theorem dX6_giveOrdersOfPad_24 : decode cX6_giveOrdersOfPad 24 = .ok (.getfield 53, 3) := by decide +kernel
theorem dX6_giveOrdersOfPad_27 : decode cX6_giveOrdersOfPad 27 = .ok (.iload_n 2, 1) := by decide +kernel
theorem dX6_giveOrdersOfPad_28 : decode cX6_giveOrdersOfPad 28 = .ok (.invokevirtual 127, 3) := by decide +kernel
theorem dX6_giveOrdersOfPad_31 : decode cX6_giveOrdersOfPad 31 = .ok (.istore 4, 2) := by decide +kernel
theorem dX6_giveOrdersOfPad_33 : decode cX6_giveOrdersOfPad 33 = .ok (.aload_n 0, 1) := by decide +kernel
theorem dX6_giveOrdersOfPad_34 : decode cX6_giveOrdersOfPad 34 = .ok (.getfield 53, 3) := by decide +kernel
theorem dX6_giveOrdersOfPad_37 : decode cX6_giveOrdersOfPad 37 = .ok (.iload 4, 2) := by decide +kernel
theorem dX6_giveOrdersOfPad_39 : decode cX6_giveOrdersOfPad 39 = .ok (.invokevirtual 130, 3) := by decide +kernel
theorem dX6_giveOrdersOfPad_42 : decode cX6_giveOrdersOfPad 42 = .ok (.istore 5, 2) := by decide +kernel
theorem dX6_giveOrdersOfPad_44 : decode cX6_giveOrdersOfPad 44 = .ok (.aload_n 0, 1) := by decide +kernel
theorem dX6_giveOrdersOfPad_45 : decode cX6_giveOrdersOfPad 45 = .ok (.getfield 53, 3) := by decide +kernel
theorem dX6_giveOrdersOfPad_48 : decode cX6_giveOrdersOfPad 48 = .ok (.iload_n 2, 1) := by decide +kernel
theorem dX6_giveOrdersOfPad_49 : decode cX6_giveOrdersOfPad 49 = .ok (.invokevirtual 133, 3) := by decide +kernel
theorem dX6_giveOrdersOfPad_52 : decode cX6_giveOrdersOfPad 52 = .ok (.istore 6, 2) := by decide +kernel
theorem dX6_giveOrdersOfPad_54 : decode cX6_giveOrdersOfPad 54 = .ok (.aload_n 0, 1) := by decide +kernel
theorem dX6_giveOrdersOfPad_55 : decode cX6_giveOrdersOfPad 55 = .ok (.getfield 53, 3) := by decide +kernel
theorem dX6_giveOrdersOfPad_58 : decode cX6_giveOrdersOfPad 58 = .ok (.iload 4, 2) := by decide +kernel
theorem dX6_giveOrdersOfPad_60 : decode cX6_giveOrdersOfPad 60 = .ok (.invokevirtual 136, 3) := by decide +kernel
theorem dX6_giveOrdersOfPad_63 : decode cX6_giveOrdersOfPad 63 = .ok (.istore 7, 2) := by decide +kernel
theorem dX6_giveOrdersOfPad_65 : decode cX6_giveOrdersOfPad 65 = .ok (.aload_n 0, 1) := by decide +kernel
theorem dX6_giveOrdersOfPad_66 : decode cX6_giveOrdersOfPad 66 = .ok (.getfield 53, 3) := by decide +kernel
theorem dX6_giveOrdersOfPad_69 : decode cX6_giveOrdersOfPad 69 = .ok (.iload 5, 2) := by decide +kernel
theorem dX6_giveOrdersOfPad_71 : decode cX6_giveOrdersOfPad 71 = .ok (.invokevirtual 136, 3) := by decide +kernel
theorem dX6_giveOrdersOfPad_74 : decode cX6_giveOrdersOfPad 74 = .ok (.istore 8, 2) := by decide +kernel
theorem dX6_giveOrdersOfPad_76 : decode cX6_giveOrdersOfPad 76 = .ok (.aload_n 0, 1) := by decide +kernel
theorem dX6_giveOrdersOfPad_77 : decode cX6_giveOrdersOfPad 77 = .ok (.iload 6, 2) := by decide +kernel
theorem dX6_giveOrdersOfPad_79 : decode cX6_giveOrdersOfPad 79 = .ok (.iload 7, 2) := by decide +kernel
theorem dX6_giveOrdersOfPad_81 : decode cX6_giveOrdersOfPad 81 = .ok (.iload 8, 2) := by decide +kernel
theorem dX6_giveOrdersOfPad_83 : decode cX6_giveOrdersOfPad 83 = .ok (.invokevirtual 73, 3) := by decide +kernel
theorem dX6_giveOrdersOfPad_86 : decode cX6_giveOrdersOfPad 86 = .ok (.ifCond .eq 5, 3) := by decide +kernel
theorem dX6_giveOrdersOfPad_89 : decode cX6_giveOrdersOfPad 89 = .ok (.iload_n 1, 1) := by decide +kernel
theorem dX6_giveOrdersOfPad_90 : decode cX6_giveOrdersOfPad 90 = .ok (.ireturn, 1) := by decide +kernel
theorem dX6_giveOrdersOfPad_91 : decode cX6_giveOrdersOfPad 91 = .ok (.aload_n 0, 1) := by decide +kernel
theorem dX6_giveOrdersOfPad_92 : decode cX6_giveOrdersOfPad 92 = .ok (.getfield 10, 3) := by decide +kernel
theorem dX6_giveOrdersOfPad_95 : decode cX6_giveOrdersOfPad 95 = .ok (.iload 6, 2) := by decide +kernel
theorem dX6_giveOrdersOfPad_97 : decode cX6_giveOrdersOfPad 97 = .ok (.iload 7, 2) := by decide +kernel
theorem dX6_giveOrdersOfPad_99 : decode cX6_giveOrdersOfPad 99 = .ok (.iload 8, 2) := by decide +kernel
theorem dX6_giveOrdersOfPad_101 : decode cX6_giveOrdersOfPad 101 = .ok (.invokevirtual 77, 3) := by decide +kernel
theorem dX6_giveOrdersOfPad_104 : decode cX6_giveOrdersOfPad 104 = .ok (.pop, 1) := by decide +kernel
theorem dX6_giveOrdersOfPad_105 : decode cX6_giveOrdersOfPad 105 = .ok (.iinc 1 1, 3) := by decide +kernel
theorem dX6_giveOrdersOfPad_108 : decode cX6_giveOrdersOfPad 108 = .ok (.aload_n 0, 1) := by decide +kernel
theorem dX6_giveOrdersOfPad_109 : decode cX6_giveOrdersOfPad 109 = .ok (.getfield 53, 3) := by decide +kernel
theorem dX6_giveOrdersOfPad_112 : decode cX6_giveOrdersOfPad 112 = .ok (.aload_n 0, 1) := by decide +kernel
theorem dX6_giveOrdersOfPad_113 : decode cX6_giveOrdersOfPad 113 = .ok (.getfield 53, 3) := by decide +kernel
theorem dX6_giveOrdersOfPad_116 : decode cX6_giveOrdersOfPad 116 = .ok (.iload 5, 2) := by decide +kernel
theorem dX6_giveOrdersOfPad_118 : decode cX6_giveOrdersOfPad 118 = .ok (.invokevirtual 130, 3) := by decide +kernel
theorem dX6_giveOrdersOfPad_121 : decode cX6_giveOrdersOfPad 121 = .ok (.invokevirtual 139, 3) := by decide +kernel
theorem dX6_giveOrdersOfPad_124 : decode cX6_giveOrdersOfPad 124 = .ok (.istore_n 2, 1) := by decide +kernel
theorem dX6_giveOrdersOfPad_125 : decode cX6_giveOrdersOfPad 125 = .ok (.iinc 3 1, 3) := by decide +kernel
theorem dX6_giveOrdersOfPad_128 : decode cX6_giveOrdersOfPad 128 = .ok (.goto (-122), 3) := by decide +kernel
theorem dX6_giveOrdersOfPad_131 : decode cX6_giveOrdersOfPad 131 = .ok (.iload_n 1, 1) := by decide +kernel
theorem dX6_giveOrdersOfPad_132 : decode cX6_giveOrdersOfPad 132 = .ok (.ireturn, 1) := by decide +kernel
theorem dX6_errorOfOrder_0 : decode cX6_errorOfOrder 0 = .ok (.aload_n 0, 1) := by decide +kernel
theorem dX6_errorOfOrder_1 : decode cX6_errorOfOrder 1 = .ok (.getfield 10, 3) := by decide +kernel
theorem dX6_errorOfOrder_4 : decode cX6_errorOfOrder 4 = .ok (.iload_n 1, 1) := by decide +kernel
theorem dX6_errorOfOrder_5 : decode cX6_errorOfOrder 5 = .ok (.invokevirtual 80, 3) := by decide +kernel
theorem dX6_errorOfOrder_8 : decode cX6_errorOfOrder 8 = .ok (.ifCond .ne 5, 3) := by decide +kernel
theorem dX6_errorOfOrder_11 : decode cX6_errorOfOrder 11 = .ok (.iconst (-1), 1) := by decide +kernel
theorem dX6_errorOfOrder_12 : decode cX6_errorOfOrder 12 = .ok (.ireturn, 1) := by decide +kernel
theorem dX6_errorOfOrder_13 : decode cX6_errorOfOrder 13 = .ok (.iload_n 2, 1) := by decide +kernel
theorem dX6_errorOfOrder_14 : decode cX6_errorOfOrder 14 = .ok (.bipush (-3), 2) := by decide +kernel
theorem dX6_errorOfOrder_16 : decode cX6_errorOfOrder 16 = .ok (.iconst 3, 1) := by decide +kernel
theorem dX6_errorOfOrder_17 : decode cX6_errorOfOrder 17 = .ok (.invokestatic 57, 3) := by decide +kernel
theorem dX6_errorOfOrder_20 : decode cX6_errorOfOrder 20 = .ok (.ifCond .eq 13, 3) := by decide +kernel
theorem dX6_errorOfOrder_23 : decode cX6_errorOfOrder 23 = .ok (.iload_n 3, 1) := by decide +kernel
theorem dX6_errorOfOrder_24 : decode cX6_errorOfOrder 24 = .ok (.bipush (-3), 2) := by decide +kernel
theorem dX6_errorOfOrder_26 : decode cX6_errorOfOrder 26 = .ok (.iconst 3, 1) := by decide +kernel
theorem dX6_errorOfOrder_27 : decode cX6_errorOfOrder 27 = .ok (.invokestatic 57, 3) := by decide +kernel
theorem dX6_errorOfOrder_30 : decode cX6_errorOfOrder 30 = .ok (.ifCond .ne 6, 3) := by decide +kernel
theorem dX6_errorOfOrder_33 : decode cX6_errorOfOrder 33 = .ok (.bipush (-2), 2) := by decide +kernel
theorem dX6_errorOfOrder_35 : decode cX6_errorOfOrder 35 = .ok (.ireturn, 1) := by decide +kernel
theorem dX6_errorOfOrder_36 : decode cX6_errorOfOrder 36 = .ok (.aload_n 0, 1) := by decide +kernel
theorem dX6_errorOfOrder_37 : decode cX6_errorOfOrder 37 = .ok (.getfield 10, 3) := by decide +kernel
theorem dX6_errorOfOrder_40 : decode cX6_errorOfOrder 40 = .ok (.iload_n 1, 1) := by decide +kernel
theorem dX6_errorOfOrder_41 : decode cX6_errorOfOrder 41 = .ok (.invokevirtual 84, 3) := by decide +kernel
theorem dX6_errorOfOrder_44 : decode cX6_errorOfOrder 44 = .ok (.ifCond .eq 7, 3) := by decide +kernel
theorem dX6_errorOfOrder_47 : decode cX6_errorOfOrder 47 = .ok (.iconst 0, 1) := by decide +kernel
theorem dX6_errorOfOrder_48 : decode cX6_errorOfOrder 48 = .ok (.goto 5, 3) := by decide +kernel
theorem dX6_errorOfOrder_51 : decode cX6_errorOfOrder 51 = .ok (.bipush (-5), 2) := by decide +kernel
theorem dX6_errorOfOrder_53 : decode cX6_errorOfOrder 53 = .ok (.ireturn, 1) := by decide +kernel
theorem dX6_kite_0 : decode cX6_kite 0 = .ok (.aload_n 0, 1) := by decide +kernel
theorem dX6_kite_1 : decode cX6_kite 1 = .ok (.getfield 10, 3) := by decide +kernel
theorem dX6_kite_4 : decode cX6_kite 4 = .ok (.iload_n 1, 1) := by decide +kernel
theorem dX6_kite_5 : decode cX6_kite 5 = .ok (.invokevirtual 80, 3) := by decide +kernel
theorem dX6_kite_8 : decode cX6_kite 8 = .ok (.ifCond .ne 5, 3) := by decide +kernel
theorem dX6_kite_11 : decode cX6_kite 11 = .ok (.iconst (-1), 1) := by decide +kernel
theorem dX6_kite_12 : decode cX6_kite 12 = .ok (.ireturn, 1) := by decide +kernel
theorem dX6_kite_13 : decode cX6_kite 13 = .ok (.iload_n 2, 1) := by decide +kernel
theorem dX6_kite_14 : decode cX6_kite 14 = .ok (.iconst 0, 1) := by decide +kernel
theorem dX6_kite_15 : decode cX6_kite 15 = .ok (.bipush 11, 2) := by decide +kernel
theorem dX6_kite_17 : decode cX6_kite 17 = .ok (.invokestatic 57, 3) := by decide +kernel
theorem dX6_kite_20 : decode cX6_kite 20 = .ok (.ifCond .ne 6, 3) := by decide +kernel
theorem dX6_kite_23 : decode cX6_kite 23 = .ok (.bipush (-2), 2) := by decide +kernel
theorem dX6_kite_25 : decode cX6_kite 25 = .ok (.ireturn, 1) := by decide +kernel
theorem dX6_kite_26 : decode cX6_kite 26 = .ok (.iload_n 2, 1) := by decide +kernel
theorem dX6_kite_27 : decode cX6_kite 27 = .ok (.bipush 9, 2) := by decide +kernel
theorem dX6_kite_29 : decode cX6_kite 29 = .ok (.if_icmp .ge 12, 3) := by decide +kernel
theorem dX6_kite_32 : decode cX6_kite 32 = .ok (.aload_n 0, 1) := by decide +kernel
theorem dX6_kite_33 : decode cX6_kite 33 = .ok (.iload_n 1, 1) := by decide +kernel
theorem dX6_kite_34 : decode cX6_kite 34 = .ok (.iload_n 2, 1) := by decide +kernel
theorem dX6_kite_35 : decode cX6_kite 35 = .ok (.invokevirtual 142, 3) := by decide +kernel
theorem dX6_kite_38 : decode cX6_kite 38 = .ok (.goto 9, 3) := by decide +kernel
theorem dX6_kite_41 : decode cX6_kite 41 = .ok (.aload_n 0, 1) := by decide +kernel
theorem dX6_kite_42 : decode cX6_kite 42 = .ok (.iload_n 1, 1) := by decide +kernel
theorem dX6_kite_43 : decode cX6_kite 43 = .ok (.iload_n 2, 1) := by decide +kernel
theorem dX6_kite_44 : decode cX6_kite 44 = .ok (.invokevirtual 145, 3) := by decide +kernel
theorem dX6_kite_47 : decode cX6_kite 47 = .ok (.ireturn, 1) := by decide +kernel
theorem dX6_aboutKite_0 : decode cX6_aboutKite 0 = .ok (.iload_n 2, 1) := by decide +kernel
theorem dX6_aboutKite_1 : decode cX6_aboutKite 1 = .ok (.tableswitch 133 0 7 #[47, 57, 67, 77, 90, 103, 113, 123], 47) := by decide +kernel
theorem dX6_aboutKite_48 : decode cX6_aboutKite 48 = .ok (.aload_n 0, 1) := by decide +kernel
theorem dX6_aboutKite_49 : decode cX6_aboutKite 49 = .ok (.getfield 10, 3) := by decide +kernel
theorem dX6_aboutKite_52 : decode cX6_aboutKite 52 = .ok (.getfield 87, 3) := by decide +kernel
theorem dX6_aboutKite_55 : decode cX6_aboutKite 55 = .ok (.iload_n 1, 1) := by decide +kernel
theorem dX6_aboutKite_56 : decode cX6_aboutKite 56 = .ok (.iaload, 1) := by decide +kernel
theorem dX6_aboutKite_57 : decode cX6_aboutKite 57 = .ok (.ireturn, 1) := by decide +kernel
theorem dX6_aboutKite_58 : decode cX6_aboutKite 58 = .ok (.aload_n 0, 1) := by decide +kernel
theorem dX6_aboutKite_59 : decode cX6_aboutKite 59 = .ok (.getfield 10, 3) := by decide +kernel
theorem dX6_aboutKite_62 : decode cX6_aboutKite 62 = .ok (.getfield 148, 3) := by decide +kernel
theorem dX6_aboutKite_65 : decode cX6_aboutKite 65 = .ok (.iload_n 1, 1) := by decide +kernel
theorem dX6_aboutKite_66 : decode cX6_aboutKite 66 = .ok (.iaload, 1) := by decide +kernel
theorem dX6_aboutKite_67 : decode cX6_aboutKite 67 = .ok (.ireturn, 1) := by decide +kernel
theorem dX6_aboutKite_68 : decode cX6_aboutKite 68 = .ok (.aload_n 0, 1) := by decide +kernel
theorem dX6_aboutKite_69 : decode cX6_aboutKite 69 = .ok (.getfield 10, 3) := by decide +kernel
theorem dX6_aboutKite_72 : decode cX6_aboutKite 72 = .ok (.getfield 151, 3) := by decide +kernel
theorem dX6_aboutKite_75 : decode cX6_aboutKite 75 = .ok (.iload_n 1, 1) := by decide +kernel
theorem dX6_aboutKite_76 : decode cX6_aboutKite 76 = .ok (.iaload, 1) := by decide +kernel
theorem dX6_aboutKite_77 : decode cX6_aboutKite 77 = .ok (.ireturn, 1) := by decide +kernel
theorem dX6_aboutKite_78 : decode cX6_aboutKite 78 = .ok (.aload_n 0, 1) := by decide +kernel
theorem dX6_aboutKite_79 : decode cX6_aboutKite 79 = .ok (.getfield 10, 3) := by decide +kernel
theorem dX6_aboutKite_82 : decode cX6_aboutKite 82 = .ok (.getfield 154, 3) := by decide +kernel
theorem dX6_aboutKite_85 : decode cX6_aboutKite 85 = .ok (.iload_n 1, 1) := by decide +kernel
theorem dX6_aboutKite_86 : decode cX6_aboutKite 86 = .ok (.iaload, 1) := by decide +kernel
theorem dX6_aboutKite_87 : decode cX6_aboutKite 87 = .ok (.bipush 10, 2) := by decide +kernel
theorem dX6_aboutKite_89 : decode cX6_aboutKite 89 = .ok (.iadd, 1) := by decide +kernel
theorem dX6_aboutKite_90 : decode cX6_aboutKite 90 = .ok (.ireturn, 1) := by decide +kernel
theorem dX6_aboutKite_91 : decode cX6_aboutKite 91 = .ok (.aload_n 0, 1) := by decide +kernel
theorem dX6_aboutKite_92 : decode cX6_aboutKite 92 = .ok (.getfield 10, 3) := by decide +kernel
theorem dX6_aboutKite_95 : decode cX6_aboutKite 95 = .ok (.getfield 157, 3) := by decide +kernel
theorem dX6_aboutKite_98 : decode cX6_aboutKite 98 = .ok (.iload_n 1, 1) := by decide +kernel
theorem dX6_aboutKite_99 : decode cX6_aboutKite 99 = .ok (.iaload, 1) := by decide +kernel
theorem dX6_aboutKite_100 : decode cX6_aboutKite 100 = .ok (.bipush 10, 2) := by decide +kernel
theorem dX6_aboutKite_102 : decode cX6_aboutKite 102 = .ok (.iadd, 1) := by decide +kernel
theorem dX6_aboutKite_103 : decode cX6_aboutKite 103 = .ok (.ireturn, 1) := by decide +kernel
theorem dX6_aboutKite_104 : decode cX6_aboutKite 104 = .ok (.aload_n 0, 1) := by decide +kernel
theorem dX6_aboutKite_105 : decode cX6_aboutKite 105 = .ok (.getfield 10, 3) := by decide +kernel
theorem dX6_aboutKite_108 : decode cX6_aboutKite 108 = .ok (.getfield 160, 3) := by decide +kernel
theorem dX6_aboutKite_111 : decode cX6_aboutKite 111 = .ok (.iload_n 1, 1) := by decide +kernel
theorem dX6_aboutKite_112 : decode cX6_aboutKite 112 = .ok (.iaload, 1) := by decide +kernel
theorem dX6_aboutKite_113 : decode cX6_aboutKite 113 = .ok (.ireturn, 1) := by decide +kernel
theorem dX6_aboutKite_114 : decode cX6_aboutKite 114 = .ok (.aload_n 0, 1) := by decide +kernel
theorem dX6_aboutKite_115 : decode cX6_aboutKite 115 = .ok (.getfield 10, 3) := by decide +kernel
theorem dX6_aboutKite_118 : decode cX6_aboutKite 118 = .ok (.getfield 163, 3) := by decide +kernel
theorem dX6_aboutKite_121 : decode cX6_aboutKite 121 = .ok (.iload_n 1, 1) := by decide +kernel
theorem dX6_aboutKite_122 : decode cX6_aboutKite 122 = .ok (.iaload, 1) := by decide +kernel
theorem dX6_aboutKite_123 : decode cX6_aboutKite 123 = .ok (.ireturn, 1) := by decide +kernel
theorem dX6_aboutKite_124 : decode cX6_aboutKite 124 = .ok (.aload_n 0, 1) := by decide +kernel
theorem dX6_aboutKite_125 : decode cX6_aboutKite 125 = .ok (.getfield 10, 3) := by decide +kernel
theorem dX6_aboutKite_128 : decode cX6_aboutKite 128 = .ok (.getfield 166, 3) := by decide +kernel
theorem dX6_aboutKite_131 : decode cX6_aboutKite 131 = .ok (.iload_n 1, 1) := by decide +kernel
theorem dX6_aboutKite_132 : decode cX6_aboutKite 132 = .ok (.iaload, 1) := by decide +kernel
theorem dX6_aboutKite_133 : decode cX6_aboutKite 133 = .ok (.ireturn, 1) := by decide +kernel
theorem dX6_aboutKite_134 : decode cX6_aboutKite 134 = .ok (.aload_n 0, 1) := by decide +kernel
theorem dX6_aboutKite_135 : decode cX6_aboutKite 135 = .ok (.getfield 10, 3) := by decide +kernel
theorem dX6_aboutKite_138 : decode cX6_aboutKite 138 = .ok (.getfield 91, 3) := by decide +kernel
theorem dX6_aboutKite_141 : decode cX6_aboutKite 141 = .ok (.iload_n 1, 1) := by decide +kernel
theorem dX6_aboutKite_142 : decode cX6_aboutKite 142 = .ok (.iaload, 1) := by decide +kernel
theorem dX6_aboutKite_143 : decode cX6_aboutKite 143 = .ok (.ireturn, 1) := by decide +kernel
theorem dX6_aboutString_0 : decode cX6_aboutString 0 = .ok (.aload_n 0, 1) := by decide +kernel
theorem dX6_aboutString_1 : decode cX6_aboutString 1 = .ok (.getfield 10, 3) := by decide +kernel
theorem dX6_aboutString_4 : decode cX6_aboutString 4 = .ok (.iload_n 1, 1) := by decide +kernel
theorem dX6_aboutString_5 : decode cX6_aboutString 5 = .ok (.invokevirtual 84, 3) := by decide +kernel
theorem dX6_aboutString_8 : decode cX6_aboutString 8 = .ok (.ifCond .ne 5, 3) := by decide +kernel
theorem dX6_aboutString_11 : decode cX6_aboutString 11 = .ok (.iconst 0, 1) := by decide +kernel
theorem dX6_aboutString_12 : decode cX6_aboutString 12 = .ok (.ireturn, 1) := by decide +kernel
theorem dX6_aboutString_13 : decode cX6_aboutString 13 = .ok (.aload_n 0, 1) := by decide +kernel
theorem dX6_aboutString_14 : decode cX6_aboutString 14 = .ok (.getfield 10, 3) := by decide +kernel
theorem dX6_aboutString_17 : decode cX6_aboutString 17 = .ok (.iload_n 1, 1) := by decide +kernel
theorem dX6_aboutString_18 : decode cX6_aboutString 18 = .ok (.invokevirtual 94, 3) := by decide +kernel
theorem dX6_aboutString_21 : decode cX6_aboutString 21 = .ok (.istore_n 3, 1) := by decide +kernel
theorem dX6_aboutString_22 : decode cX6_aboutString 22 = .ok (.iload_n 2, 1) := by decide +kernel
theorem dX6_aboutString_23 : decode cX6_aboutString 23 = .ok (.lookupswitch 37 #[(9, 25), (10, 35)], 25) := by decide +kernel
theorem dX6_aboutString_48 : decode cX6_aboutString 48 = .ok (.aload_n 0, 1) := by decide +kernel
theorem dX6_aboutString_49 : decode cX6_aboutString 49 = .ok (.getfield 10, 3) := by decide +kernel
theorem dX6_aboutString_52 : decode cX6_aboutString 52 = .ok (.iload_n 1, 1) := by decide +kernel
theorem dX6_aboutString_53 : decode cX6_aboutString 53 = .ok (.iload_n 3, 1) := by decide +kernel
theorem dX6_aboutString_54 : decode cX6_aboutString 54 = .ok (.invokevirtual 98, 3) := by decide +kernel
theorem dX6_aboutString_57 : decode cX6_aboutString 57 = .ok (.ireturn, 1) := by decide +kernel
theorem dX6_aboutString_58 : decode cX6_aboutString 58 = .ok (.iload_n 3, 1) := by decide +kernel
theorem dX6_aboutString_59 : decode cX6_aboutString 59 = .ok (.ireturn, 1) := by decide +kernel
theorem dX6_aboutString_60 : decode cX6_aboutString 60 = .ok (.aload_n 0, 1) := by decide +kernel
theorem dX6_aboutString_61 : decode cX6_aboutString 61 = .ok (.getfield 22, 3) := by decide +kernel
theorem dX6_aboutString_64 : decode cX6_aboutString 64 = .ok (.aload_n 0, 1) := by decide +kernel
theorem dX6_aboutString_65 : decode cX6_aboutString 65 = .ok (.getfield 10, 3) := by decide +kernel
theorem dX6_aboutString_68 : decode cX6_aboutString 68 = .ok (.invokevirtual 169, 3) := by decide +kernel
theorem dX6_aboutString_71 : decode cX6_aboutString 71 = .ok (.aload_n 0, 1) := by decide +kernel
theorem dX6_aboutString_72 : decode cX6_aboutString 72 = .ok (.getfield 22, 3) := by decide +kernel
theorem dX6_aboutString_75 : decode cX6_aboutString 75 = .ok (.iload_n 1, 1) := by decide +kernel
theorem dX6_aboutString_76 : decode cX6_aboutString 76 = .ok (.invokevirtual 172, 3) := by decide +kernel
theorem dX6_aboutString_79 : decode cX6_aboutString 79 = .ok (.ireturn, 1) := by decide +kernel
theorem dX6_wear_0 : decode cX6_wear 0 = .ok (.aload_n 0, 1) := by decide +kernel
theorem dX6_wear_1 : decode cX6_wear 1 = .ok (.getfield 10, 3) := by decide +kernel
theorem dX6_wear_4 : decode cX6_wear 4 = .ok (.iload_n 1, 1) := by decide +kernel
theorem dX6_wear_5 : decode cX6_wear 5 = .ok (.invokevirtual 80, 3) := by decide +kernel
theorem dX6_wear_8 : decode cX6_wear 8 = .ok (.ifCond .eq 13, 3) := by decide +kernel
theorem dX6_wear_11 : decode cX6_wear 11 = .ok (.iload_n 2, 1) := by decide +kernel
theorem dX6_wear_12 : decode cX6_wear 12 = .ok (.iconst 0, 1) := by decide +kernel
theorem dX6_wear_13 : decode cX6_wear 13 = .ok (.bipush 31, 2) := by decide +kernel
theorem dX6_wear_15 : decode cX6_wear 15 = .ok (.invokestatic 57, 3) := by decide +kernel
theorem dX6_wear_18 : decode cX6_wear 18 = .ok (.ifCond .ne 5, 3) := by decide +kernel
theorem dX6_wear_21 : decode cX6_wear 21 = .ok (.iconst (-1), 1) := by decide +kernel
theorem dX6_wear_22 : decode cX6_wear 22 = .ok (.ireturn, 1) := by decide +kernel
theorem dX6_wear_23 : decode cX6_wear 23 = .ok (.aload_n 0, 1) := by decide +kernel
theorem dX6_wear_24 : decode cX6_wear 24 = .ok (.getfield 10, 3) := by decide +kernel
theorem dX6_wear_27 : decode cX6_wear 27 = .ok (.iload_n 1, 1) := by decide +kernel
theorem dX6_wear_28 : decode cX6_wear 28 = .ok (.invokevirtual 84, 3) := by decide +kernel
theorem dX6_wear_31 : decode cX6_wear 31 = .ok (.ifCond .eq 15, 3) := by decide +kernel
theorem dX6_wear_34 : decode cX6_wear 34 = .ok (.aload_n 0, 1) := by decide +kernel
theorem dX6_wear_35 : decode cX6_wear 35 = .ok (.getfield 10, 3) := by decide +kernel
theorem dX6_wear_38 : decode cX6_wear 38 = .ok (.iload_n 1, 1) := by decide +kernel
theorem dX6_wear_39 : decode cX6_wear 39 = .ok (.iload_n 2, 1) := by decide +kernel
theorem dX6_wear_40 : decode cX6_wear 40 = .ok (.invokevirtual 98, 3) := by decide +kernel
theorem dX6_wear_43 : decode cX6_wear 43 = .ok (.goto 5, 3) := by decide +kernel
theorem dX6_wear_46 : decode cX6_wear 46 = .ok (.bipush (-5), 2) := by decide +kernel
theorem dX6_wear_48 : decode cX6_wear 48 = .ok (.ireturn, 1) := by decide +kernel
theorem dX6_crossing_0 : decode cX6_crossing 0 = .ok (.aload_n 0, 1) := by decide +kernel
theorem dX6_crossing_1 : decode cX6_crossing 1 = .ok (.getfield 10, 3) := by decide +kernel
theorem dX6_crossing_4 : decode cX6_crossing 4 = .ok (.iload_n 1, 1) := by decide +kernel
theorem dX6_crossing_5 : decode cX6_crossing 5 = .ok (.invokevirtual 80, 3) := by decide +kernel
theorem dX6_crossing_8 : decode cX6_crossing 8 = .ok (.ifCond .eq 14, 3) := by decide +kernel
theorem dX6_crossing_11 : decode cX6_crossing 11 = .ok (.aload_n 0, 1) := by decide +kernel
theorem dX6_crossing_12 : decode cX6_crossing 12 = .ok (.getfield 10, 3) := by decide +kernel
theorem dX6_crossing_15 : decode cX6_crossing 15 = .ok (.iload_n 2, 1) := by decide +kernel
theorem dX6_crossing_16 : decode cX6_crossing 16 = .ok (.invokevirtual 80, 3) := by decide +kernel
theorem dX6_crossing_19 : decode cX6_crossing 19 = .ok (.ifCond .ne 5, 3) := by decide +kernel
theorem dX6_crossing_22 : decode cX6_crossing 22 = .ok (.iconst (-1), 1) := by decide +kernel
theorem dX6_crossing_23 : decode cX6_crossing 23 = .ok (.ireturn, 1) := by decide +kernel
theorem dX6_crossing_24 : decode cX6_crossing 24 = .ok (.iload_n 1, 1) := by decide +kernel
theorem dX6_crossing_25 : decode cX6_crossing 25 = .ok (.iload_n 2, 1) := by decide +kernel
theorem dX6_crossing_26 : decode cX6_crossing 26 = .ok (.if_icmp .eq 12, 3) := by decide +kernel
theorem dX6_crossing_29 : decode cX6_crossing 29 = .ok (.iload_n 3, 1) := by decide +kernel
theorem dX6_crossing_30 : decode cX6_crossing 30 = .ok (.iconst 0, 1) := by decide +kernel
theorem dX6_crossing_31 : decode cX6_crossing 31 = .ok (.iconst 5, 1) := by decide +kernel
theorem dX6_crossing_32 : decode cX6_crossing 32 = .ok (.invokestatic 57, 3) := by decide +kernel
theorem dX6_crossing_35 : decode cX6_crossing 35 = .ok (.ifCond .ne 6, 3) := by decide +kernel
theorem dX6_crossing_38 : decode cX6_crossing 38 = .ok (.bipush (-2), 2) := by decide +kernel
theorem dX6_crossing_40 : decode cX6_crossing 40 = .ok (.ireturn, 1) := by decide +kernel
theorem dX6_crossing_41 : decode cX6_crossing 41 = .ok (.aload_n 0, 1) := by decide +kernel
theorem dX6_crossing_42 : decode cX6_crossing 42 = .ok (.getfield 10, 3) := by decide +kernel
theorem dX6_crossing_45 : decode cX6_crossing 45 = .ok (.iload_n 1, 1) := by decide +kernel
theorem dX6_crossing_46 : decode cX6_crossing 46 = .ok (.invokevirtual 84, 3) := by decide +kernel
theorem dX6_crossing_49 : decode cX6_crossing 49 = .ok (.ifCond .eq 14, 3) := by decide +kernel
theorem dX6_crossing_52 : decode cX6_crossing 52 = .ok (.aload_n 0, 1) := by decide +kernel
theorem dX6_crossing_53 : decode cX6_crossing 53 = .ok (.getfield 10, 3) := by decide +kernel
theorem dX6_crossing_56 : decode cX6_crossing 56 = .ok (.iload_n 2, 1) := by decide +kernel
theorem dX6_crossing_57 : decode cX6_crossing 57 = .ok (.invokevirtual 84, 3) := by decide +kernel
theorem dX6_crossing_60 : decode cX6_crossing 60 = .ok (.ifCond .ne 6, 3) := by decide +kernel
theorem dX6_crossing_63 : decode cX6_crossing 63 = .ok (.bipush (-5), 2) := by decide +kernel
theorem dX6_crossing_65 : decode cX6_crossing 65 = .ok (.ireturn, 1) := by decide +kernel
theorem dX6_crossing_66 : decode cX6_crossing 66 = .ok (.aload_n 0, 1) := by decide +kernel
theorem dX6_crossing_67 : decode cX6_crossing 67 = .ok (.getfield 22, 3) := by decide +kernel
theorem dX6_crossing_70 : decode cX6_crossing 70 = .ok (.aload_n 0, 1) := by decide +kernel
theorem dX6_crossing_71 : decode cX6_crossing 71 = .ok (.getfield 10, 3) := by decide +kernel
theorem dX6_crossing_74 : decode cX6_crossing 74 = .ok (.invokevirtual 169, 3) := by decide +kernel
theorem dX6_crossing_77 : decode cX6_crossing 77 = .ok (.aload_n 0, 1) := by decide +kernel
theorem dX6_crossing_78 : decode cX6_crossing 78 = .ok (.iload_n 1, 1) := by decide +kernel
theorem dX6_crossing_79 : decode cX6_crossing 79 = .ok (.iload_n 2, 1) := by decide +kernel
theorem dX6_crossing_80 : decode cX6_crossing 80 = .ok (.iload_n 3, 1) := by decide +kernel
theorem dX6_crossing_81 : decode cX6_crossing 81 = .ok (.invokevirtual 175, 3) := by decide +kernel
theorem dX6_crossing_84 : decode cX6_crossing 84 = .ok (.ireturn, 1) := by decide +kernel
theorem dX6_aboutCrossing_0 : decode cX6_aboutCrossing 0 = .ok (.aload_n 0, 1) := by decide +kernel
theorem dX6_aboutCrossing_1 : decode cX6_aboutCrossing 1 = .ok (.getfield 22, 3) := by decide +kernel
theorem dX6_aboutCrossing_4 : decode cX6_aboutCrossing 4 = .ok (.iload_n 1, 1) := by decide +kernel
theorem dX6_aboutCrossing_5 : decode cX6_aboutCrossing 5 = .ok (.iload_n 2, 1) := by decide +kernel
theorem dX6_aboutCrossing_6 : decode cX6_aboutCrossing 6 = .ok (.invokevirtual 178, 3) := by decide +kernel
theorem dX6_aboutCrossing_9 : decode cX6_aboutCrossing 9 = .ok (.istore 4, 2) := by decide +kernel
theorem dX6_aboutCrossing_11 : decode cX6_aboutCrossing 11 = .ok (.iload_n 3, 1) := by decide +kernel
theorem dX6_aboutCrossing_12 : decode cX6_aboutCrossing 12 = .ok (.tableswitch 105 0 4 #[36, 47, 57, 67, 95], 36) := by decide +kernel
theorem dX6_aboutCrossing_48 : decode cX6_aboutCrossing 48 = .ok (.iload 4, 2) := by decide +kernel
theorem dX6_aboutCrossing_50 : decode cX6_aboutCrossing 50 = .ok (.ifCond .eq 7, 3) := by decide +kernel
theorem dX6_aboutCrossing_53 : decode cX6_aboutCrossing 53 = .ok (.iconst 1, 1) := by decide +kernel
theorem dX6_aboutCrossing_54 : decode cX6_aboutCrossing 54 = .ok (.goto 4, 3) := by decide +kernel
theorem dX6_aboutCrossing_57 : decode cX6_aboutCrossing 57 = .ok (.iconst 0, 1) := by decide +kernel
theorem dX6_aboutCrossing_58 : decode cX6_aboutCrossing 58 = .ok (.ireturn, 1) := by decide +kernel
theorem dX6_aboutCrossing_59 : decode cX6_aboutCrossing 59 = .ok (.aload_n 0, 1) := by decide +kernel
theorem dX6_aboutCrossing_60 : decode cX6_aboutCrossing 60 = .ok (.getfield 22, 3) := by decide +kernel
theorem dX6_aboutCrossing_63 : decode cX6_aboutCrossing 63 = .ok (.iload_n 1, 1) := by decide +kernel
theorem dX6_aboutCrossing_64 : decode cX6_aboutCrossing 64 = .ok (.iload_n 2, 1) := by decide +kernel
theorem dX6_aboutCrossing_65 : decode cX6_aboutCrossing 65 = .ok (.invokevirtual 182, 3) := by decide +kernel
theorem dX6_aboutCrossing_68 : decode cX6_aboutCrossing 68 = .ok (.ireturn, 1) := by decide +kernel
theorem dX6_aboutCrossing_69 : decode cX6_aboutCrossing 69 = .ok (.aload_n 0, 1) := by decide +kernel
theorem dX6_aboutCrossing_70 : decode cX6_aboutCrossing 70 = .ok (.getfield 22, 3) := by decide +kernel
theorem dX6_aboutCrossing_73 : decode cX6_aboutCrossing 73 = .ok (.iload_n 2, 1) := by decide +kernel
theorem dX6_aboutCrossing_74 : decode cX6_aboutCrossing 74 = .ok (.iload_n 1, 1) := by decide +kernel
theorem dX6_aboutCrossing_75 : decode cX6_aboutCrossing 75 = .ok (.invokevirtual 182, 3) := by decide +kernel
theorem dX6_aboutCrossing_78 : decode cX6_aboutCrossing 78 = .ok (.ireturn, 1) := by decide +kernel
theorem dX6_aboutCrossing_79 : decode cX6_aboutCrossing 79 = .ok (.iload 4, 2) := by decide +kernel
theorem dX6_aboutCrossing_81 : decode cX6_aboutCrossing 81 = .ok (.ifCond .ne 8, 3) := by decide +kernel
theorem dX6_aboutCrossing_84 : decode cX6_aboutCrossing 84 = .ok (.bipush (-6), 2) := by decide +kernel
theorem dX6_aboutCrossing_86 : decode cX6_aboutCrossing 86 = .ok (.goto 20, 3) := by decide +kernel
theorem dX6_aboutCrossing_89 : decode cX6_aboutCrossing 89 = .ok (.aload_n 0, 1) := by decide +kernel
theorem dX6_aboutCrossing_90 : decode cX6_aboutCrossing 90 = .ok (.getfield 22, 3) := by decide +kernel
theorem dX6_aboutCrossing_93 : decode cX6_aboutCrossing 93 = .ok (.iload_n 1, 1) := by decide +kernel
theorem dX6_aboutCrossing_94 : decode cX6_aboutCrossing 94 = .ok (.iload_n 2, 1) := by decide +kernel
theorem dX6_aboutCrossing_95 : decode cX6_aboutCrossing 95 = .ok (.invokevirtual 185, 3) := by decide +kernel
theorem dX6_aboutCrossing_98 : decode cX6_aboutCrossing 98 = .ok (.ifCond .eq 7, 3) := by decide +kernel
theorem dX6_aboutCrossing_101 : decode cX6_aboutCrossing 101 = .ok (.iconst 1, 1) := by decide +kernel
theorem dX6_aboutCrossing_102 : decode cX6_aboutCrossing 102 = .ok (.goto 4, 3) := by decide +kernel
theorem dX6_aboutCrossing_105 : decode cX6_aboutCrossing 105 = .ok (.iconst 0, 1) := by decide +kernel
theorem dX6_aboutCrossing_106 : decode cX6_aboutCrossing 106 = .ok (.ireturn, 1) := by decide +kernel
theorem dX6_aboutCrossing_107 : decode cX6_aboutCrossing 107 = .ok (.aload_n 0, 1) := by decide +kernel
theorem dX6_aboutCrossing_108 : decode cX6_aboutCrossing 108 = .ok (.getfield 10, 3) := by decide +kernel
theorem dX6_aboutCrossing_111 : decode cX6_aboutCrossing 111 = .ok (.iload_n 1, 1) := by decide +kernel
theorem dX6_aboutCrossing_112 : decode cX6_aboutCrossing 112 = .ok (.iload_n 2, 1) := by decide +kernel
theorem dX6_aboutCrossing_113 : decode cX6_aboutCrossing 113 = .ok (.invokevirtual 188, 3) := by decide +kernel
theorem dX6_aboutCrossing_116 : decode cX6_aboutCrossing 116 = .ok (.ireturn, 1) := by decide +kernel
theorem dX6_aboutCrossing_117 : decode cX6_aboutCrossing 117 = .ok (.iload 4, 2) := by decide +kernel
theorem dX6_aboutCrossing_119 : decode cX6_aboutCrossing 119 = .ok (.ifCond .eq 24, 3) := by decide +kernel
theorem dX6_aboutCrossing_122 : decode cX6_aboutCrossing 122 = .ok (.aload_n 0, 1) := by decide +kernel
theorem dX6_aboutCrossing_123 : decode cX6_aboutCrossing 123 = .ok (.getfield 10, 3) := by decide +kernel
theorem dX6_aboutCrossing_126 : decode cX6_aboutCrossing 126 = .ok (.iload_n 1, 1) := by decide +kernel
theorem dX6_aboutCrossing_127 : decode cX6_aboutCrossing 127 = .ok (.iload_n 2, 1) := by decide +kernel
theorem dX6_aboutCrossing_128 : decode cX6_aboutCrossing 128 = .ok (.aload_n 0, 1) := by decide +kernel
theorem dX6_aboutCrossing_129 : decode cX6_aboutCrossing 129 = .ok (.getfield 22, 3) := by decide +kernel
theorem dX6_aboutCrossing_132 : decode cX6_aboutCrossing 132 = .ok (.iload_n 1, 1) := by decide +kernel
theorem dX6_aboutCrossing_133 : decode cX6_aboutCrossing 133 = .ok (.iload_n 2, 1) := by decide +kernel
theorem dX6_aboutCrossing_134 : decode cX6_aboutCrossing 134 = .ok (.invokevirtual 185, 3) := by decide +kernel
theorem dX6_aboutCrossing_137 : decode cX6_aboutCrossing 137 = .ok (.invokevirtual 191, 3) := by decide +kernel
theorem dX6_aboutCrossing_140 : decode cX6_aboutCrossing 140 = .ok (.goto 4, 3) := by decide +kernel
theorem dX6_aboutCrossing_143 : decode cX6_aboutCrossing 143 = .ok (.iconst 0, 1) := by decide +kernel
theorem dX6_aboutCrossing_144 : decode cX6_aboutCrossing 144 = .ok (.ireturn, 1) := by decide +kernel
theorem dX6_count_0 : decode cX6_count 0 = .ok (.iload_n 1, 1) := by decide +kernel
theorem dX6_count_1 : decode cX6_count 1 = .ok (.tableswitch 146 0 9 #[55, 63, 71, 90, 98, 106, 114, 122, 130, 138], 55) := by decide +kernel
theorem dX6_count_56 : decode cX6_count 56 = .ok (.aload_n 0, 1) := by decide +kernel
theorem dX6_count_57 : decode cX6_count 57 = .ok (.getfield 10, 3) := by decide +kernel
theorem dX6_count_60 : decode cX6_count 60 = .ok (.getfield 61, 3) := by decide +kernel
theorem dX6_count_63 : decode cX6_count 63 = .ok (.ireturn, 1) := by decide +kernel
theorem dX6_count_64 : decode cX6_count 64 = .ok (.aload_n 0, 1) := by decide +kernel
theorem dX6_count_65 : decode cX6_count 65 = .ok (.getfield 10, 3) := by decide +kernel
theorem dX6_count_68 : decode cX6_count 68 = .ok (.invokevirtual 195, 3) := by decide +kernel
theorem dX6_count_71 : decode cX6_count 71 = .ok (.ireturn, 1) := by decide +kernel
theorem dX6_count_72 : decode cX6_count 72 = .ok (.aload_n 0, 1) := by decide +kernel
theorem dX6_count_73 : decode cX6_count 73 = .ok (.getfield 22, 3) := by decide +kernel
theorem dX6_count_76 : decode cX6_count 76 = .ok (.aload_n 0, 1) := by decide +kernel
theorem dX6_count_77 : decode cX6_count 77 = .ok (.getfield 10, 3) := by decide +kernel
theorem dX6_count_80 : decode cX6_count 80 = .ok (.invokevirtual 169, 3) := by decide +kernel
theorem dX6_count_83 : decode cX6_count 83 = .ok (.aload_n 0, 1) := by decide +kernel
theorem dX6_count_84 : decode cX6_count 84 = .ok (.getfield 22, 3) := by decide +kernel
theorem dX6_count_87 : decode cX6_count 87 = .ok (.invokevirtual 198, 3) := by decide +kernel
theorem dX6_count_90 : decode cX6_count 90 = .ok (.ireturn, 1) := by decide +kernel
theorem dX6_count_91 : decode cX6_count 91 = .ok (.aload_n 0, 1) := by decide +kernel
theorem dX6_count_92 : decode cX6_count 92 = .ok (.getfield 10, 3) := by decide +kernel
theorem dX6_count_95 : decode cX6_count 95 = .ok (.getfield 201, 3) := by decide +kernel
theorem dX6_count_98 : decode cX6_count 98 = .ok (.ireturn, 1) := by decide +kernel
theorem dX6_count_99 : decode cX6_count 99 = .ok (.aload_n 0, 1) := by decide +kernel
theorem dX6_count_100 : decode cX6_count 100 = .ok (.getfield 10, 3) := by decide +kernel
theorem dX6_count_103 : decode cX6_count 103 = .ok (.getfield 111, 3) := by decide +kernel
theorem dX6_count_106 : decode cX6_count 106 = .ok (.ireturn, 1) := by decide +kernel
theorem dX6_count_107 : decode cX6_count 107 = .ok (.aload_n 0, 1) := by decide +kernel
theorem dX6_count_108 : decode cX6_count 108 = .ok (.getfield 10, 3) := by decide +kernel
theorem dX6_count_111 : decode cX6_count 111 = .ok (.invokevirtual 204, 3) := by decide +kernel
theorem dX6_count_114 : decode cX6_count 114 = .ok (.ireturn, 1) := by decide +kernel
theorem dX6_count_115 : decode cX6_count 115 = .ok (.aload_n 0, 1) := by decide +kernel
theorem dX6_count_116 : decode cX6_count 116 = .ok (.getfield 10, 3) := by decide +kernel
theorem dX6_count_119 : decode cX6_count 119 = .ok (.invokevirtual 207, 3) := by decide +kernel
theorem dX6_count_122 : decode cX6_count 122 = .ok (.ireturn, 1) := by decide +kernel
theorem dX6_count_123 : decode cX6_count 123 = .ok (.aload_n 0, 1) := by decide +kernel
theorem dX6_count_124 : decode cX6_count 124 = .ok (.getfield 10, 3) := by decide +kernel
theorem dX6_count_127 : decode cX6_count 127 = .ok (.getfield 210, 3) := by decide +kernel
theorem dX6_count_130 : decode cX6_count 130 = .ok (.ireturn, 1) := by decide +kernel
theorem dX6_count_131 : decode cX6_count 131 = .ok (.aload_n 0, 1) := by decide +kernel
theorem dX6_count_132 : decode cX6_count 132 = .ok (.getfield 53, 3) := by decide +kernel
theorem dX6_count_135 : decode cX6_count 135 = .ok (.getfield 124, 3) := by decide +kernel
theorem dX6_count_138 : decode cX6_count 138 = .ok (.ireturn, 1) := by decide +kernel
theorem dX6_count_139 : decode cX6_count 139 = .ok (.aload_n 0, 1) := by decide +kernel
theorem dX6_count_140 : decode cX6_count 140 = .ok (.getfield 36, 3) := by decide +kernel
theorem dX6_count_143 : decode cX6_count 143 = .ok (.getfield 213, 3) := by decide +kernel
theorem dX6_count_146 : decode cX6_count 146 = .ok (.ireturn, 1) := by decide +kernel
theorem dX6_count_147 : decode cX6_count 147 = .ok (.bipush (-2), 2) := by decide +kernel
theorem dX6_count_149 : decode cX6_count 149 = .ok (.ireturn, 1) := by decide +kernel
theorem dX6_ifPassed_0 : decode cX6_ifPassed 0 = .ok (.iload_n 1, 1) := by decide +kernel
theorem dX6_ifPassed_1 : decode cX6_ifPassed 1 = .ok (.iconst 1, 1) := by decide +kernel
theorem dX6_ifPassed_2 : decode cX6_ifPassed 2 = .ok (.sipush 200, 3) := by decide +kernel
theorem dX6_ifPassed_5 : decode cX6_ifPassed 5 = .ok (.invokestatic 57, 3) := by decide +kernel
theorem dX6_ifPassed_8 : decode cX6_ifPassed 8 = .ok (.ifCond .eq 12, 3) := by decide +kernel
theorem dX6_ifPassed_11 : decode cX6_ifPassed 11 = .ok (.iload_n 2, 1) := by decide +kernel
theorem dX6_ifPassed_12 : decode cX6_ifPassed 12 = .ok (.iconst 0, 1) := by decide +kernel
theorem dX6_ifPassed_13 : decode cX6_ifPassed 13 = .ok (.iconst 2, 1) := by decide +kernel
theorem dX6_ifPassed_14 : decode cX6_ifPassed 14 = .ok (.invokestatic 57, 3) := by decide +kernel
theorem dX6_ifPassed_17 : decode cX6_ifPassed 17 = .ok (.ifCond .ne 6, 3) := by decide +kernel
theorem dX6_ifPassed_20 : decode cX6_ifPassed 20 = .ok (.bipush (-2), 2) := by decide +kernel
theorem dX6_ifPassed_22 : decode cX6_ifPassed 22 = .ok (.ireturn, 1) := by decide +kernel
theorem dX6_ifPassed_23 : decode cX6_ifPassed 23 = .ok (.aload_n 0, 1) := by decide +kernel
theorem dX6_ifPassed_24 : decode cX6_ifPassed 24 = .ok (.getfield 16, 3) := by decide +kernel
theorem dX6_ifPassed_27 : decode cX6_ifPassed 27 = .ok (.aload_n 0, 1) := by decide +kernel
theorem dX6_ifPassed_28 : decode cX6_ifPassed 28 = .ok (.getfield 10, 3) := by decide +kernel
theorem dX6_ifPassed_31 : decode cX6_ifPassed 31 = .ok (.invokevirtual 216, 3) := by decide +kernel
theorem dX6_ifPassed_34 : decode cX6_ifPassed 34 = .ok (.iconst 0, 1) := by decide +kernel
theorem dX6_ifPassed_35 : decode cX6_ifPassed 35 = .ok (.istore_n 3, 1) := by decide +kernel
theorem dX6_ifPassed_36 : decode cX6_ifPassed 36 = .ok (.iconst 0, 1) := by decide +kernel
theorem dX6_ifPassed_37 : decode cX6_ifPassed 37 = .ok (.istore 4, 2) := by decide +kernel
theorem dX6_ifPassed_39 : decode cX6_ifPassed 39 = .ok (.iload 4, 2) := by decide +kernel
theorem dX6_ifPassed_41 : decode cX6_ifPassed 41 = .ok (.iload_n 1, 1) := by decide +kernel
theorem dX6_ifPassed_42 : decode cX6_ifPassed 42 = .ok (.if_icmp .ge 30, 3) := by decide +kernel
theorem dX6_ifPassed_45 : decode cX6_ifPassed 45 = .ok (.aload_n 0, 1) := by decide +kernel
theorem dX6_ifPassed_46 : decode cX6_ifPassed 46 = .ok (.getfield 29, 3) := by decide +kernel
theorem dX6_ifPassed_49 : decode cX6_ifPassed 49 = .ok (.aload_n 0, 1) := by decide +kernel
theorem dX6_ifPassed_50 : decode cX6_ifPassed 50 = .ok (.getfield 16, 3) := by decide +kernel
theorem dX6_ifPassed_53 : decode cX6_ifPassed 53 = .ok (.invokevirtual 102, 3) := by decide +kernel
theorem dX6_ifPassed_56 : decode cX6_ifPassed 56 = .ok (.iload_n 3, 1) := by decide +kernel
theorem dX6_ifPassed_57 : decode cX6_ifPassed 57 = .ok (.aload_n 0, 1) := by decide +kernel
theorem dX6_ifPassed_58 : decode cX6_ifPassed 58 = .ok (.getfield 29, 3) := by decide +kernel
theorem dX6_ifPassed_61 : decode cX6_ifPassed 61 = .ok (.getfield 105, 3) := by decide +kernel
theorem dX6_ifPassed_64 : decode cX6_ifPassed 64 = .ok (.ior, 1) := by decide +kernel
theorem dX6_ifPassed_65 : decode cX6_ifPassed 65 = .ok (.istore_n 3, 1) := by decide +kernel
theorem dX6_ifPassed_66 : decode cX6_ifPassed 66 = .ok (.iinc 4 1, 3) := by decide +kernel
theorem dX6_ifPassed_69 : decode cX6_ifPassed 69 = .ok (.goto (-30), 3) := by decide +kernel
theorem dX6_ifPassed_72 : decode cX6_ifPassed 72 = .ok (.iload_n 2, 1) := by decide +kernel
theorem dX6_ifPassed_73 : decode cX6_ifPassed 73 = .ok (.lookupswitch 45 #[(0, 27), (1, 29)], 27) := by decide +kernel
theorem dX6_ifPassed_100 : decode cX6_ifPassed 100 = .ok (.iload_n 3, 1) := by decide +kernel
theorem dX6_ifPassed_101 : decode cX6_ifPassed 101 = .ok (.ireturn, 1) := by decide +kernel
theorem dX6_ifPassed_102 : decode cX6_ifPassed 102 = .ok (.aload_n 0, 1) := by decide +kernel
theorem dX6_ifPassed_103 : decode cX6_ifPassed 103 = .ok (.getfield 16, 3) := by decide +kernel
theorem dX6_ifPassed_106 : decode cX6_ifPassed 106 = .ok (.invokevirtual 207, 3) := by decide +kernel
theorem dX6_ifPassed_109 : decode cX6_ifPassed 109 = .ok (.aload_n 0, 1) := by decide +kernel
theorem dX6_ifPassed_110 : decode cX6_ifPassed 110 = .ok (.getfield 10, 3) := by decide +kernel
theorem dX6_ifPassed_113 : decode cX6_ifPassed 113 = .ok (.invokevirtual 207, 3) := by decide +kernel
theorem dX6_ifPassed_116 : decode cX6_ifPassed 116 = .ok (.isub, 1) := by decide +kernel
theorem dX6_ifPassed_117 : decode cX6_ifPassed 117 = .ok (.ireturn, 1) := by decide +kernel
theorem dX6_ifPassed_118 : decode cX6_ifPassed 118 = .ok (.aload_n 0, 1) := by decide +kernel
theorem dX6_ifPassed_119 : decode cX6_ifPassed 119 = .ok (.getfield 22, 3) := by decide +kernel
theorem dX6_ifPassed_122 : decode cX6_ifPassed 122 = .ok (.aload_n 0, 1) := by decide +kernel
theorem dX6_ifPassed_123 : decode cX6_ifPassed 123 = .ok (.getfield 16, 3) := by decide +kernel
theorem dX6_ifPassed_126 : decode cX6_ifPassed 126 = .ok (.invokevirtual 169, 3) := by decide +kernel
theorem dX6_ifPassed_129 : decode cX6_ifPassed 129 = .ok (.aload_n 0, 1) := by decide +kernel
theorem dX6_ifPassed_130 : decode cX6_ifPassed 130 = .ok (.getfield 22, 3) := by decide +kernel
theorem dX6_ifPassed_133 : decode cX6_ifPassed 133 = .ok (.invokevirtual 198, 3) := by decide +kernel
theorem dX6_ifPassed_136 : decode cX6_ifPassed 136 = .ok (.ireturn, 1) := by decide +kernel
theorem dX6_firstCut_0 : decode cX6_firstCut 0 = .ok (.iload_n 1, 1) := by decide +kernel
theorem dX6_firstCut_1 : decode cX6_firstCut 1 = .ok (.iconst 0, 1) := by decide +kernel
theorem dX6_firstCut_2 : decode cX6_firstCut 2 = .ok (.iconst 2, 1) := by decide +kernel
theorem dX6_firstCut_3 : decode cX6_firstCut 3 = .ok (.invokestatic 57, 3) := by decide +kernel
theorem dX6_firstCut_6 : decode cX6_firstCut 6 = .ok (.ifCond .ne 6, 3) := by decide +kernel
theorem dX6_firstCut_9 : decode cX6_firstCut 9 = .ok (.bipush (-2), 2) := by decide +kernel
theorem dX6_firstCut_11 : decode cX6_firstCut 11 = .ok (.ireturn, 1) := by decide +kernel
theorem dX6_firstCut_12 : decode cX6_firstCut 12 = .ok (.aload_n 0, 1) := by decide +kernel
theorem dX6_firstCut_13 : decode cX6_firstCut 13 = .ok (.getfield 16, 3) := by decide +kernel
theorem dX6_firstCut_16 : decode cX6_firstCut 16 = .ok (.aload_n 0, 1) := by decide +kernel
theorem dX6_firstCut_17 : decode cX6_firstCut 17 = .ok (.getfield 10, 3) := by decide +kernel
theorem dX6_firstCut_20 : decode cX6_firstCut 20 = .ok (.invokevirtual 216, 3) := by decide +kernel
theorem dX6_firstCut_23 : decode cX6_firstCut 23 = .ok (.iconst 1, 1) := by decide +kernel
theorem dX6_firstCut_24 : decode cX6_firstCut 24 = .ok (.istore_n 2, 1) := by decide +kernel
theorem dX6_firstCut_25 : decode cX6_firstCut 25 = .ok (.iload_n 2, 1) := by decide +kernel
theorem dX6_firstCut_26 : decode cX6_firstCut 26 = .ok (.sipush 300, 3) := by decide +kernel
theorem dX6_firstCut_29 : decode cX6_firstCut 29 = .ok (.if_icmp .gt 37, 3) := by decide +kernel
theorem dX6_firstCut_32 : decode cX6_firstCut 32 = .ok (.aload_n 0, 1) := by decide +kernel
theorem dX6_firstCut_33 : decode cX6_firstCut 33 = .ok (.getfield 29, 3) := by decide +kernel
theorem dX6_firstCut_36 : decode cX6_firstCut 36 = .ok (.aload_n 0, 1) := by decide +kernel
theorem dX6_firstCut_37 : decode cX6_firstCut 37 = .ok (.getfield 16, 3) := by decide +kernel
theorem dX6_firstCut_40 : decode cX6_firstCut 40 = .ok (.invokevirtual 102, 3) := by decide +kernel
theorem dX6_firstCut_43 : decode cX6_firstCut 43 = .ok (.aload_n 0, 1) := by decide +kernel
theorem dX6_firstCut_44 : decode cX6_firstCut 44 = .ok (.getfield 29, 3) := by decide +kernel
theorem dX6_firstCut_47 : decode cX6_firstCut 47 = .ok (.getfield 105, 3) := by decide +kernel
theorem dX6_firstCut_50 : decode cX6_firstCut 50 = .ok (.ifCond .eq 10, 3) := by decide +kernel
theorem dX6_firstCut_53 : decode cX6_firstCut 53 = .ok (.aload_n 0, 1) := by decide +kernel
theorem dX6_firstCut_54 : decode cX6_firstCut 54 = .ok (.iload_n 2, 1) := by decide +kernel
theorem dX6_firstCut_55 : decode cX6_firstCut 55 = .ok (.iload_n 1, 1) := by decide +kernel
theorem dX6_firstCut_56 : decode cX6_firstCut 56 = .ok (.invokevirtual 219, 3) := by decide +kernel
theorem dX6_firstCut_59 : decode cX6_firstCut 59 = .ok (.ireturn, 1) := by decide +kernel
theorem dX6_firstCut_60 : decode cX6_firstCut 60 = .ok (.iinc 2 1, 3) := by decide +kernel
theorem dX6_firstCut_63 : decode cX6_firstCut 63 = .ok (.goto (-38), 3) := by decide +kernel
theorem dX6_firstCut_66 : decode cX6_firstCut 66 = .ok (.bipush (-6), 2) := by decide +kernel
theorem dX6_firstCut_68 : decode cX6_firstCut 68 = .ok (.ireturn, 1) := by decide +kernel
theorem dX6_aboutCut_0 : decode cX6_aboutCut 0 = .ok (.iload_n 2, 1) := by decide +kernel
theorem dX6_aboutCut_1 : decode cX6_aboutCut 1 = .ok (.lookupswitch 40 #[(0, 27), (1, 29)], 27) := by decide +kernel
theorem dX6_aboutCut_28 : decode cX6_aboutCut 28 = .ok (.iload_n 1, 1) := by decide +kernel
theorem dX6_aboutCut_29 : decode cX6_aboutCut 29 = .ok (.ireturn, 1) := by decide +kernel
theorem dX6_aboutCut_30 : decode cX6_aboutCut 30 = .ok (.aload_n 0, 1) := by decide +kernel
theorem dX6_aboutCut_31 : decode cX6_aboutCut 31 = .ok (.getfield 29, 3) := by decide +kernel
theorem dX6_aboutCut_34 : decode cX6_aboutCut 34 = .ok (.getfield 105, 3) := by decide +kernel
theorem dX6_aboutCut_37 : decode cX6_aboutCut 37 = .ok (.invokestatic 222, 3) := by decide +kernel
theorem dX6_aboutCut_40 : decode cX6_aboutCut 40 = .ok (.ireturn, 1) := by decide +kernel
theorem dX6_aboutCut_41 : decode cX6_aboutCut 41 = .ok (.aload_n 0, 1) := by decide +kernel
theorem dX6_aboutCut_42 : decode cX6_aboutCut 42 = .ok (.getfield 29, 3) := by decide +kernel
theorem dX6_aboutCut_45 : decode cX6_aboutCut 45 = .ok (.getfield 225, 3) := by decide +kernel
theorem dX6_aboutCut_48 : decode cX6_aboutCut 48 = .ok (.ireturn, 1) := by decide +kernel
theorem dX6_meets_0 : decode cX6_meets 0 = .ok (.aload_n 0, 1) := by decide +kernel
theorem dX6_meets_1 : decode cX6_meets 1 = .ok (.getfield 10, 3) := by decide +kernel
theorem dX6_meets_4 : decode cX6_meets 4 = .ok (.iload_n 1, 1) := by decide +kernel
theorem dX6_meets_5 : decode cX6_meets 5 = .ok (.invokevirtual 80, 3) := by decide +kernel
theorem dX6_meets_8 : decode cX6_meets 8 = .ok (.ifCond .eq 14, 3) := by decide +kernel
theorem dX6_meets_11 : decode cX6_meets 11 = .ok (.aload_n 0, 1) := by decide +kernel
theorem dX6_meets_12 : decode cX6_meets 12 = .ok (.getfield 10, 3) := by decide +kernel
theorem dX6_meets_15 : decode cX6_meets 15 = .ok (.iload_n 2, 1) := by decide +kernel
theorem dX6_meets_16 : decode cX6_meets 16 = .ok (.invokevirtual 80, 3) := by decide +kernel
theorem dX6_meets_19 : decode cX6_meets 19 = .ok (.ifCond .ne 5, 3) := by decide +kernel
theorem dX6_meets_22 : decode cX6_meets 22 = .ok (.iconst (-1), 1) := by decide +kernel
theorem dX6_meets_23 : decode cX6_meets 23 = .ok (.ireturn, 1) := by decide +kernel
theorem dX6_meets_24 : decode cX6_meets 24 = .ok (.iload_n 1, 1) := by decide +kernel
theorem dX6_meets_25 : decode cX6_meets 25 = .ok (.iload_n 2, 1) := by decide +kernel
theorem dX6_meets_26 : decode cX6_meets 26 = .ok (.if_icmp .ne 6, 3) := by decide +kernel
theorem dX6_meets_29 : decode cX6_meets 29 = .ok (.bipush (-2), 2) := by decide +kernel
theorem dX6_meets_31 : decode cX6_meets 31 = .ok (.ireturn, 1) := by decide +kernel
theorem dX6_meets_32 : decode cX6_meets 32 = .ok (.aload_n 0, 1) := by decide +kernel
theorem dX6_meets_33 : decode cX6_meets 33 = .ok (.getfield 10, 3) := by decide +kernel
theorem dX6_meets_36 : decode cX6_meets 36 = .ok (.iload_n 1, 1) := by decide +kernel
theorem dX6_meets_37 : decode cX6_meets 37 = .ok (.invokevirtual 84, 3) := by decide +kernel
theorem dX6_meets_40 : decode cX6_meets 40 = .ok (.ifCond .eq 14, 3) := by decide +kernel
theorem dX6_meets_43 : decode cX6_meets 43 = .ok (.aload_n 0, 1) := by decide +kernel
theorem dX6_meets_44 : decode cX6_meets 44 = .ok (.getfield 10, 3) := by decide +kernel
theorem dX6_meets_47 : decode cX6_meets 47 = .ok (.iload_n 2, 1) := by decide +kernel
theorem dX6_meets_48 : decode cX6_meets 48 = .ok (.invokevirtual 84, 3) := by decide +kernel
theorem dX6_meets_51 : decode cX6_meets 51 = .ok (.ifCond .ne 6, 3) := by decide +kernel
theorem dX6_meets_54 : decode cX6_meets 54 = .ok (.bipush (-5), 2) := by decide +kernel
theorem dX6_meets_56 : decode cX6_meets 56 = .ok (.ireturn, 1) := by decide +kernel
theorem dX6_meets_57 : decode cX6_meets 57 = .ok (.aload_n 0, 1) := by decide +kernel
theorem dX6_meets_58 : decode cX6_meets 58 = .ok (.getfield 22, 3) := by decide +kernel
theorem dX6_meets_61 : decode cX6_meets 61 = .ok (.aload_n 0, 1) := by decide +kernel
theorem dX6_meets_62 : decode cX6_meets 62 = .ok (.getfield 10, 3) := by decide +kernel
theorem dX6_meets_65 : decode cX6_meets 65 = .ok (.invokevirtual 169, 3) := by decide +kernel
theorem dX6_meets_68 : decode cX6_meets 68 = .ok (.aload_n 0, 1) := by decide +kernel
theorem dX6_meets_69 : decode cX6_meets 69 = .ok (.getfield 22, 3) := by decide +kernel
theorem dX6_meets_72 : decode cX6_meets 72 = .ok (.iload_n 1, 1) := by decide +kernel
theorem dX6_meets_73 : decode cX6_meets 73 = .ok (.iload_n 2, 1) := by decide +kernel
theorem dX6_meets_74 : decode cX6_meets 74 = .ok (.invokevirtual 178, 3) := by decide +kernel
theorem dX6_meets_77 : decode cX6_meets 77 = .ok (.ifCond .eq 5, 3) := by decide +kernel
theorem dX6_meets_80 : decode cX6_meets 80 = .ok (.iconst 0, 1) := by decide +kernel
theorem dX6_meets_81 : decode cX6_meets 81 = .ok (.ireturn, 1) := by decide +kernel
theorem dX6_meets_82 : decode cX6_meets 82 = .ok (.aload_n 0, 1) := by decide +kernel
theorem dX6_meets_83 : decode cX6_meets 83 = .ok (.getfield 16, 3) := by decide +kernel
theorem dX6_meets_86 : decode cX6_meets 86 = .ok (.aload_n 0, 1) := by decide +kernel
theorem dX6_meets_87 : decode cX6_meets 87 = .ok (.getfield 10, 3) := by decide +kernel
theorem dX6_meets_90 : decode cX6_meets 90 = .ok (.invokevirtual 216, 3) := by decide +kernel
theorem dX6_meets_93 : decode cX6_meets 93 = .ok (.iconst 1, 1) := by decide +kernel
theorem dX6_meets_94 : decode cX6_meets 94 = .ok (.istore_n 3, 1) := by decide +kernel
theorem dX6_meets_95 : decode cX6_meets 95 = .ok (.iload_n 3, 1) := by decide +kernel
theorem dX6_meets_96 : decode cX6_meets 96 = .ok (.sipush 300, 3) := by decide +kernel
theorem dX6_meets_99 : decode cX6_meets 99 = .ok (.if_icmp .gt 37, 3) := by decide +kernel
theorem dX6_meets_102 : decode cX6_meets 102 = .ok (.aload_n 0, 1) := by decide +kernel
theorem dX6_meets_103 : decode cX6_meets 103 = .ok (.getfield 29, 3) := by decide +kernel
theorem dX6_meets_106 : decode cX6_meets 106 = .ok (.aload_n 0, 1) := by decide +kernel
theorem dX6_meets_107 : decode cX6_meets 107 = .ok (.getfield 16, 3) := by decide +kernel
theorem dX6_meets_110 : decode cX6_meets 110 = .ok (.invokevirtual 102, 3) := by decide +kernel
theorem dX6_meets_113 : decode cX6_meets 113 = .ok (.aload_n 0, 1) := by decide +kernel
theorem dX6_meets_114 : decode cX6_meets 114 = .ok (.getfield 29, 3) := by decide +kernel
theorem dX6_meets_117 : decode cX6_meets 117 = .ok (.getfield 228, 3) := by decide +kernel
theorem dX6_meets_120 : decode cX6_meets 120 = .ok (.iload_n 1, 1) := by decide +kernel
theorem dX6_meets_121 : decode cX6_meets 121 = .ok (.iload_n 2, 1) := by decide +kernel
theorem dX6_meets_122 : decode cX6_meets 122 = .ok (.invokevirtual 178, 3) := by decide +kernel
theorem dX6_meets_125 : decode cX6_meets 125 = .ok (.ifCond .eq 5, 3) := by decide +kernel
theorem dX6_meets_128 : decode cX6_meets 128 = .ok (.iload_n 3, 1) := by decide +kernel
theorem dX6_meets_129 : decode cX6_meets 129 = .ok (.ireturn, 1) := by decide +kernel
theorem dX6_meets_130 : decode cX6_meets 130 = .ok (.iinc 3 1, 3) := by decide +kernel
theorem dX6_meets_133 : decode cX6_meets 133 = .ok (.goto (-38), 3) := by decide +kernel
theorem dX6_meets_136 : decode cX6_meets 136 = .ok (.bipush (-6), 2) := by decide +kernel
theorem dX6_meets_138 : decode cX6_meets 138 = .ok (.ireturn, 1) := by decide +kernel
theorem dX6_bestOrder_0 : decode cX6_bestOrder 0 = .ok (.aload_n 0, 1) := by decide +kernel
theorem dX6_bestOrder_1 : decode cX6_bestOrder 1 = .ok (.getfield 10, 3) := by decide +kernel
theorem dX6_bestOrder_4 : decode cX6_bestOrder 4 = .ok (.iload_n 1, 1) := by decide +kernel
theorem dX6_bestOrder_5 : decode cX6_bestOrder 5 = .ok (.invokevirtual 80, 3) := by decide +kernel
theorem dX6_bestOrder_8 : decode cX6_bestOrder 8 = .ok (.ifCond .ne 5, 3) := by decide +kernel
theorem dX6_bestOrder_11 : decode cX6_bestOrder 11 = .ok (.iconst (-1), 1) := by decide +kernel
theorem dX6_bestOrder_12 : decode cX6_bestOrder 12 = .ok (.ireturn, 1) := by decide +kernel
theorem dX6_bestOrder_13 : decode cX6_bestOrder 13 = .ok (.iload_n 2, 1) := by decide +kernel
theorem dX6_bestOrder_14 : decode cX6_bestOrder 14 = .ok (.iconst 1, 1) := by decide +kernel
theorem dX6_bestOrder_15 : decode cX6_bestOrder 15 = .ok (.bipush 50, 2) := by decide +kernel
theorem dX6_bestOrder_17 : decode cX6_bestOrder 17 = .ok (.invokestatic 57, 3) := by decide +kernel
theorem dX6_bestOrder_20 : decode cX6_bestOrder 20 = .ok (.ifCond .eq 12, 3) := by decide +kernel
theorem dX6_bestOrder_23 : decode cX6_bestOrder 23 = .ok (.iload_n 3, 1) := by decide +kernel
theorem dX6_bestOrder_24 : decode cX6_bestOrder 24 = .ok (.iconst 0, 1) := by decide +kernel
theorem dX6_bestOrder_25 : decode cX6_bestOrder 25 = .ok (.iconst 2, 1) := by decide +kernel
theorem dX6_bestOrder_26 : decode cX6_bestOrder 26 = .ok (.invokestatic 57, 3) := by decide +kernel
theorem dX6_bestOrder_29 : decode cX6_bestOrder 29 = .ok (.ifCond .ne 6, 3) := by decide +kernel
theorem dX6_bestOrder_32 : decode cX6_bestOrder 32 = .ok (.bipush (-2), 2) := by decide +kernel
theorem dX6_bestOrder_34 : decode cX6_bestOrder 34 = .ok (.ireturn, 1) := by decide +kernel
theorem dX6_bestOrder_35 : decode cX6_bestOrder 35 = .ok (.aload_n 0, 1) := by decide +kernel
theorem dX6_bestOrder_36 : decode cX6_bestOrder 36 = .ok (.getfield 10, 3) := by decide +kernel
theorem dX6_bestOrder_39 : decode cX6_bestOrder 39 = .ok (.iload_n 1, 1) := by decide +kernel
theorem dX6_bestOrder_40 : decode cX6_bestOrder 40 = .ok (.invokevirtual 84, 3) := by decide +kernel
theorem dX6_bestOrder_43 : decode cX6_bestOrder 43 = .ok (.ifCond .ne 6, 3) := by decide +kernel
theorem dX6_bestOrder_46 : decode cX6_bestOrder 46 = .ok (.bipush (-5), 2) := by decide +kernel
theorem dX6_bestOrder_48 : decode cX6_bestOrder 48 = .ok (.ireturn, 1) := by decide +kernel
theorem dX6_bestOrder_49 : decode cX6_bestOrder 49 = .ok (.bipush (-3), 2) := by decide +kernel
theorem dX6_bestOrder_51 : decode cX6_bestOrder 51 = .ok (.istore 4, 2) := by decide +kernel
theorem dX6_bestOrder_53 : decode cX6_bestOrder 53 = .ok (.bipush (-3), 2) := by decide +kernel
theorem dX6_bestOrder_55 : decode cX6_bestOrder 55 = .ok (.istore 5, 2) := by decide +kernel
theorem dX6_bestOrder_57 : decode cX6_bestOrder 57 = .ok (.bipush (-3), 2) := by decide +kernel
theorem dX6_bestOrder_59 : decode cX6_bestOrder 59 = .ok (.istore 6, 2) := by decide +kernel
theorem dX6_bestOrder_61 : decode cX6_bestOrder 61 = .ok (.bipush (-3), 2) := by decide +kernel
theorem dX6_bestOrder_63 : decode cX6_bestOrder 63 = .ok (.istore 7, 2) := by decide +kernel
theorem dX6_bestOrder_65 : decode cX6_bestOrder 65 = .ok (.iload 7, 2) := by decide +kernel
theorem dX6_bestOrder_67 : decode cX6_bestOrder 67 = .ok (.iconst 3, 1) := by decide +kernel
theorem dX6_bestOrder_68 : decode cX6_bestOrder 68 = .ok (.if_icmp .gt 56, 3) := by decide +kernel
theorem dX6_bestOrder_71 : decode cX6_bestOrder 71 = .ok (.bipush (-3), 2) := by decide +kernel
theorem dX6_bestOrder_73 : decode cX6_bestOrder 73 = .ok (.istore 8, 2) := by decide +kernel
theorem dX6_bestOrder_75 : decode cX6_bestOrder 75 = .ok (.iload 8, 2) := by decide +kernel
theorem dX6_bestOrder_77 : decode cX6_bestOrder 77 = .ok (.iconst 3, 1) := by decide +kernel
theorem dX6_bestOrder_78 : decode cX6_bestOrder 78 = .ok (.if_icmp .gt 40, 3) := by decide +kernel
theorem dX6_bestOrder_81 : decode cX6_bestOrder 81 = .ok (.aload_n 0, 1) := by decide +kernel
theorem dX6_bestOrder_82 : decode cX6_bestOrder 82 = .ok (.iload_n 1, 1) := by decide +kernel
theorem dX6_bestOrder_83 : decode cX6_bestOrder 83 = .ok (.iload 7, 2) := by decide +kernel
theorem dX6_bestOrder_85 : decode cX6_bestOrder 85 = .ok (.iload 8, 2) := by decide +kernel
theorem dX6_bestOrder_87 : decode cX6_bestOrder 87 = .ok (.iload_n 2, 1) := by decide +kernel
theorem dX6_bestOrder_88 : decode cX6_bestOrder 88 = .ok (.invokevirtual 229, 3) := by decide +kernel
theorem dX6_bestOrder_91 : decode cX6_bestOrder 91 = .ok (.istore 9, 2) := by decide +kernel
theorem dX6_bestOrder_93 : decode cX6_bestOrder 93 = .ok (.iload 9, 2) := by decide +kernel
theorem dX6_bestOrder_95 : decode cX6_bestOrder 95 = .ok (.iload 6, 2) := by decide +kernel
theorem dX6_bestOrder_97 : decode cX6_bestOrder 97 = .ok (.if_icmp .le 15, 3) := by decide +kernel
theorem dX6_bestOrder_100 : decode cX6_bestOrder 100 = .ok (.iload 9, 2) := by decide +kernel
theorem dX6_bestOrder_102 : decode cX6_bestOrder 102 = .ok (.istore 6, 2) := by decide +kernel
theorem dX6_bestOrder_104 : decode cX6_bestOrder 104 = .ok (.iload 7, 2) := by decide +kernel
theorem dX6_bestOrder_106 : decode cX6_bestOrder 106 = .ok (.istore 4, 2) := by decide +kernel
theorem dX6_bestOrder_108 : decode cX6_bestOrder 108 = .ok (.iload 8, 2) := by decide +kernel
theorem dX6_bestOrder_110 : decode cX6_bestOrder 110 = .ok (.istore 5, 2) := by decide +kernel
theorem dX6_bestOrder_112 : decode cX6_bestOrder 112 = .ok (.iinc 8 1, 3) := by decide +kernel
theorem dX6_bestOrder_115 : decode cX6_bestOrder 115 = .ok (.goto (-40), 3) := by decide +kernel
theorem dX6_bestOrder_118 : decode cX6_bestOrder 118 = .ok (.iinc 7 1, 3) := by decide +kernel
theorem dX6_bestOrder_121 : decode cX6_bestOrder 121 = .ok (.goto (-56), 3) := by decide +kernel
theorem dX6_bestOrder_124 : decode cX6_bestOrder 124 = .ok (.iload_n 3, 1) := by decide +kernel
theorem dX6_bestOrder_125 : decode cX6_bestOrder 125 = .ok (.lookupswitch 39 #[(0, 27), (1, 33)], 27) := by decide +kernel
theorem dX6_bestOrder_152 : decode cX6_bestOrder 152 = .ok (.iload 4, 2) := by decide +kernel
theorem dX6_bestOrder_154 : decode cX6_bestOrder 154 = .ok (.bipush 10, 2) := by decide +kernel
theorem dX6_bestOrder_156 : decode cX6_bestOrder 156 = .ok (.iadd, 1) := by decide +kernel
theorem dX6_bestOrder_157 : decode cX6_bestOrder 157 = .ok (.ireturn, 1) := by decide +kernel
theorem dX6_bestOrder_158 : decode cX6_bestOrder 158 = .ok (.iload 5, 2) := by decide +kernel
theorem dX6_bestOrder_160 : decode cX6_bestOrder 160 = .ok (.bipush 10, 2) := by decide +kernel
theorem dX6_bestOrder_162 : decode cX6_bestOrder 162 = .ok (.iadd, 1) := by decide +kernel
theorem dX6_bestOrder_163 : decode cX6_bestOrder 163 = .ok (.ireturn, 1) := by decide +kernel
theorem dX6_bestOrder_164 : decode cX6_bestOrder 164 = .ok (.iload 6, 2) := by decide +kernel
theorem dX6_bestOrder_166 : decode cX6_bestOrder 166 = .ok (.bipush 10, 2) := by decide +kernel
theorem dX6_bestOrder_168 : decode cX6_bestOrder 168 = .ok (.iadd, 1) := by decide +kernel
theorem dX6_bestOrder_169 : decode cX6_bestOrder 169 = .ok (.ireturn, 1) := by decide +kernel
theorem dX6_gainWith_0 : decode cX6_gainWith 0 = .ok (.aload_n 0, 1) := by decide +kernel
theorem dX6_gainWith_1 : decode cX6_gainWith 1 = .ok (.getfield 16, 3) := by decide +kernel
theorem dX6_gainWith_4 : decode cX6_gainWith 4 = .ok (.aload_n 0, 1) := by decide +kernel
theorem dX6_gainWith_5 : decode cX6_gainWith 5 = .ok (.getfield 10, 3) := by decide +kernel
theorem dX6_gainWith_8 : decode cX6_gainWith 8 = .ok (.invokevirtual 216, 3) := by decide +kernel
theorem dX6_gainWith_11 : decode cX6_gainWith 11 = .ok (.aload_n 0, 1) := by decide +kernel
theorem dX6_gainWith_12 : decode cX6_gainWith 12 = .ok (.getfield 16, 3) := by decide +kernel
theorem dX6_gainWith_15 : decode cX6_gainWith 15 = .ok (.iload_n 1, 1) := by decide +kernel
theorem dX6_gainWith_16 : decode cX6_gainWith 16 = .ok (.iload_n 2, 1) := by decide +kernel
theorem dX6_gainWith_17 : decode cX6_gainWith 17 = .ok (.iload_n 3, 1) := by decide +kernel
theorem dX6_gainWith_18 : decode cX6_gainWith 18 = .ok (.invokevirtual 77, 3) := by decide +kernel
theorem dX6_gainWith_21 : decode cX6_gainWith 21 = .ok (.pop, 1) := by decide +kernel
theorem dX6_gainWith_22 : decode cX6_gainWith 22 = .ok (.iconst 0, 1) := by decide +kernel
theorem dX6_gainWith_23 : decode cX6_gainWith 23 = .ok (.istore 5, 2) := by decide +kernel
theorem dX6_gainWith_25 : decode cX6_gainWith 25 = .ok (.iload 5, 2) := by decide +kernel
theorem dX6_gainWith_27 : decode cX6_gainWith 27 = .ok (.iload 4, 2) := by decide +kernel
theorem dX6_gainWith_29 : decode cX6_gainWith 29 = .ok (.if_icmp .ge 31, 3) := by decide +kernel
theorem dX6_gainWith_32 : decode cX6_gainWith 32 = .ok (.aload_n 0, 1) := by decide +kernel
theorem dX6_gainWith_33 : decode cX6_gainWith 33 = .ok (.getfield 16, 3) := by decide +kernel
theorem dX6_gainWith_36 : decode cX6_gainWith 36 = .ok (.iload_n 1, 1) := by decide +kernel
theorem dX6_gainWith_37 : decode cX6_gainWith 37 = .ok (.invokevirtual 84, 3) := by decide +kernel
theorem dX6_gainWith_40 : decode cX6_gainWith 40 = .ok (.ifCond .eq 20, 3) := by decide +kernel
theorem dX6_gainWith_43 : decode cX6_gainWith 43 = .ok (.aload_n 0, 1) := by decide +kernel
theorem dX6_gainWith_44 : decode cX6_gainWith 44 = .ok (.getfield 29, 3) := by decide +kernel
theorem dX6_gainWith_47 : decode cX6_gainWith 47 = .ok (.aload_n 0, 1) := by decide +kernel
theorem dX6_gainWith_48 : decode cX6_gainWith 48 = .ok (.getfield 16, 3) := by decide +kernel
theorem dX6_gainWith_51 : decode cX6_gainWith 51 = .ok (.invokevirtual 102, 3) := by decide +kernel
theorem dX6_gainWith_54 : decode cX6_gainWith 54 = .ok (.iinc 5 1, 3) := by decide +kernel
theorem dX6_gainWith_57 : decode cX6_gainWith 57 = .ok (.goto (-32), 3) := by decide +kernel
theorem dX6_gainWith_60 : decode cX6_gainWith 60 = .ok (.aload_n 0, 1) := by decide +kernel
theorem dX6_gainWith_61 : decode cX6_gainWith 61 = .ok (.getfield 16, 3) := by decide +kernel
theorem dX6_gainWith_64 : decode cX6_gainWith 64 = .ok (.getfield 166, 3) := by decide +kernel
theorem dX6_gainWith_67 : decode cX6_gainWith 67 = .ok (.iload_n 1, 1) := by decide +kernel
theorem dX6_gainWith_68 : decode cX6_gainWith 68 = .ok (.iaload, 1) := by decide +kernel
theorem dX6_gainWith_69 : decode cX6_gainWith 69 = .ok (.aload_n 0, 1) := by decide +kernel
theorem dX6_gainWith_70 : decode cX6_gainWith 70 = .ok (.getfield 10, 3) := by decide +kernel
theorem dX6_gainWith_73 : decode cX6_gainWith 73 = .ok (.getfield 166, 3) := by decide +kernel
theorem dX6_gainWith_76 : decode cX6_gainWith 76 = .ok (.iload_n 1, 1) := by decide +kernel
theorem dX6_gainWith_77 : decode cX6_gainWith 77 = .ok (.iaload, 1) := by decide +kernel
theorem dX6_gainWith_78 : decode cX6_gainWith 78 = .ok (.isub, 1) := by decide +kernel
theorem dX6_gainWith_79 : decode cX6_gainWith 79 = .ok (.istore 5, 2) := by decide +kernel
theorem dX6_gainWith_81 : decode cX6_gainWith 81 = .ok (.aload_n 0, 1) := by decide +kernel
theorem dX6_gainWith_82 : decode cX6_gainWith 82 = .ok (.getfield 16, 3) := by decide +kernel
theorem dX6_gainWith_85 : decode cX6_gainWith 85 = .ok (.iload_n 1, 1) := by decide +kernel
theorem dX6_gainWith_86 : decode cX6_gainWith 86 = .ok (.invokevirtual 84, 3) := by decide +kernel
theorem dX6_gainWith_89 : decode cX6_gainWith 89 = .ok (.ifCond .eq 8, 3) := by decide +kernel
theorem dX6_gainWith_92 : decode cX6_gainWith 92 = .ok (.iload 5, 2) := by decide +kernel
theorem dX6_gainWith_94 : decode cX6_gainWith 94 = .ok (.goto 7, 3) := by decide +kernel
theorem dX6_gainWith_97 : decode cX6_gainWith 97 = .ok (.iload 5, 2) := by decide +kernel
theorem dX6_gainWith_99 : decode cX6_gainWith 99 = .ok (.iconst 2, 1) := by decide +kernel
theorem dX6_gainWith_100 : decode cX6_gainWith 100 = .ok (.isub, 1) := by decide +kernel
theorem dX6_gainWith_101 : decode cX6_gainWith 101 = .ok (.ireturn, 1) := by decide +kernel
theorem dX6_put_0 : decode cX6_put 0 = .ok (.lload_n 1, 1) := by decide +kernel
theorem dX6_put_1 : decode cX6_put 1 = .ok (.invokestatic 233, 3) := by decide +kernel
theorem dX6_put_4 : decode cX6_put 4 = .ok (.istore_n 3, 1) := by decide +kernel
theorem dX6_put_5 : decode cX6_put 5 = .ok (.iload_n 3, 1) := by decide +kernel
theorem dX6_put_6 : decode cX6_put 6 = .ok (.ifCond .ne 6, 3) := by decide +kernel
theorem dX6_put_9 : decode cX6_put 9 = .ok (.bipush (-2), 2) := by decide +kernel
theorem dX6_put_11 : decode cX6_put 11 = .ok (.ireturn, 1) := by decide +kernel
theorem dX6_put_12 : decode cX6_put 12 = .ok (.aload_n 0, 1) := by decide +kernel
theorem dX6_put_13 : decode cX6_put 13 = .ok (.getfield 53, 3) := by decide +kernel
theorem dX6_put_16 : decode cX6_put 16 = .ok (.getfield 124, 3) := by decide +kernel
theorem dX6_put_19 : decode cX6_put 19 = .ok (.iload_n 3, 1) := by decide +kernel
theorem dX6_put_20 : decode cX6_put 20 = .ok (.iadd, 1) := by decide +kernel
theorem dX6_put_21 : decode cX6_put 21 = .ok (.bipush 60, 2) := by decide +kernel
theorem dX6_put_23 : decode cX6_put 23 = .ok (.if_icmp .le 6, 3) := by decide +kernel
theorem dX6_put_26 : decode cX6_put 26 = .ok (.bipush (-4), 2) := by decide +kernel
theorem dX6_put_28 : decode cX6_put 28 = .ok (.ireturn, 1) := by decide +kernel
theorem dX6_put_29 : decode cX6_put 29 = .ok (.iload_n 3, 1) := by decide +kernel
theorem dX6_put_30 : decode cX6_put 30 = .ok (.iconst 1, 1) := by decide +kernel
theorem dX6_put_31 : decode cX6_put 31 = .ok (.isub, 1) := by decide +kernel
theorem dX6_put_32 : decode cX6_put 32 = .ok (.istore 4, 2) := by decide +kernel
theorem dX6_put_34 : decode cX6_put 34 = .ok (.iload 4, 2) := by decide +kernel
theorem dX6_put_36 : decode cX6_put 36 = .ok (.ifCond .lt 22, 3) := by decide +kernel
theorem dX6_put_39 : decode cX6_put 39 = .ok (.aload_n 0, 1) := by decide +kernel
theorem dX6_put_40 : decode cX6_put 40 = .ok (.getfield 53, 3) := by decide +kernel
theorem dX6_put_43 : decode cX6_put 43 = .ok (.lload_n 1, 1) := by decide +kernel
theorem dX6_put_44 : decode cX6_put 44 = .ok (.iload 4, 2) := by decide +kernel
theorem dX6_put_46 : decode cX6_put 46 = .ok (.invokestatic 237, 3) := by decide +kernel
theorem dX6_put_49 : decode cX6_put 49 = .ok (.invokevirtual 241, 3) := by decide +kernel
theorem dX6_put_52 : decode cX6_put 52 = .ok (.iinc 4 (-1), 3) := by decide +kernel
theorem dX6_put_55 : decode cX6_put 55 = .ok (.goto (-21), 3) := by decide +kernel
theorem dX6_put_58 : decode cX6_put 58 = .ok (.aload_n 0, 1) := by decide +kernel
theorem dX6_put_59 : decode cX6_put 59 = .ok (.getfield 53, 3) := by decide +kernel
theorem dX6_put_62 : decode cX6_put 62 = .ok (.getfield 124, 3) := by decide +kernel
theorem dX6_put_65 : decode cX6_put 65 = .ok (.ireturn, 1) := by decide +kernel
theorem dX6_signsIn_0 : decode cX6_signsIn 0 = .ok (.iconst 0, 1) := by decide +kernel
theorem dX6_signsIn_1 : decode cX6_signsIn 1 = .ok (.istore_n 2, 1) := by decide +kernel
theorem dX6_signsIn_2 : decode cX6_signsIn 2 = .ok (.iload_n 2, 1) := by decide +kernel
theorem dX6_signsIn_3 : decode cX6_signsIn 3 = .ok (.bipush 8, 2) := by decide +kernel
theorem dX6_signsIn_5 : decode cX6_signsIn 5 = .ok (.if_icmp .ge 49, 3) := by decide +kernel
theorem dX6_signsIn_8 : decode cX6_signsIn 8 = .ok (.lload_n 0, 1) := by decide +kernel
theorem dX6_signsIn_9 : decode cX6_signsIn 9 = .ok (.iload_n 2, 1) := by decide +kernel
theorem dX6_signsIn_10 : decode cX6_signsIn 10 = .ok (.invokestatic 237, 3) := by decide +kernel
theorem dX6_signsIn_13 : decode cX6_signsIn 13 = .ok (.istore_n 3, 1) := by decide +kernel
theorem dX6_signsIn_14 : decode cX6_signsIn 14 = .ok (.iload_n 3, 1) := by decide +kernel
theorem dX6_signsIn_15 : decode cX6_signsIn 15 = .ok (.ifCond .ne 20, 3) := by decide +kernel
theorem dX6_signsIn_18 : decode cX6_signsIn 18 = .ok (.lload_n 0, 1) := by decide +kernel
theorem dX6_signsIn_19 : decode cX6_signsIn 19 = .ok (.bipush 8, 2) := by decide +kernel
theorem dX6_signsIn_21 : decode cX6_signsIn 21 = .ok (.iload_n 2, 1) := by decide +kernel
theorem dX6_signsIn_22 : decode cX6_signsIn 22 = .ok (.imul, 1) := by decide +kernel
theorem dX6_signsIn_23 : decode cX6_signsIn 23 = .ok (.lushr, 1) := by decide +kernel
theorem dX6_signsIn_24 : decode cX6_signsIn 24 = .ok (.lconst 0, 1) := by decide +kernel
theorem dX6_signsIn_25 : decode cX6_signsIn 25 = .ok (.lcmp, 1) := by decide +kernel
theorem dX6_signsIn_26 : decode cX6_signsIn 26 = .ok (.ifCond .ne 7, 3) := by decide +kernel
theorem dX6_signsIn_29 : decode cX6_signsIn 29 = .ok (.iload_n 2, 1) := by decide +kernel
theorem dX6_signsIn_30 : decode cX6_signsIn 30 = .ok (.goto 4, 3) := by decide +kernel
theorem dX6_signsIn_33 : decode cX6_signsIn 33 = .ok (.iconst 0, 1) := by decide +kernel
theorem dX6_signsIn_34 : decode cX6_signsIn 34 = .ok (.ireturn, 1) := by decide +kernel
theorem dX6_signsIn_35 : decode cX6_signsIn 35 = .ok (.iload_n 3, 1) := by decide +kernel
theorem dX6_signsIn_36 : decode cX6_signsIn 36 = .ok (.bipush 33, 2) := by decide +kernel
theorem dX6_signsIn_38 : decode cX6_signsIn 38 = .ok (.bipush 126, 2) := by decide +kernel
theorem dX6_signsIn_40 : decode cX6_signsIn 40 = .ok (.invokestatic 57, 3) := by decide +kernel
theorem dX6_signsIn_43 : decode cX6_signsIn 43 = .ok (.ifCond .ne 5, 3) := by decide +kernel
theorem dX6_signsIn_46 : decode cX6_signsIn 46 = .ok (.iconst 0, 1) := by decide +kernel
theorem dX6_signsIn_47 : decode cX6_signsIn 47 = .ok (.ireturn, 1) := by decide +kernel
theorem dX6_signsIn_48 : decode cX6_signsIn 48 = .ok (.iinc 2 1, 3) := by decide +kernel
theorem dX6_signsIn_51 : decode cX6_signsIn 51 = .ok (.goto (-49), 3) := by decide +kernel
theorem dX6_signsIn_54 : decode cX6_signsIn 54 = .ok (.bipush 8, 2) := by decide +kernel
theorem dX6_signsIn_56 : decode cX6_signsIn 56 = .ok (.ireturn, 1) := by decide +kernel
theorem dX6_signAt_0 : decode cX6_signAt 0 = .ok (.lload_n 0, 1) := by decide +kernel
theorem dX6_signAt_1 : decode cX6_signAt 1 = .ok (.bipush 8, 2) := by decide +kernel
theorem dX6_signAt_3 : decode cX6_signAt 3 = .ok (.iload_n 2, 1) := by decide +kernel
theorem dX6_signAt_4 : decode cX6_signAt 4 = .ok (.imul, 1) := by decide +kernel
theorem dX6_signAt_5 : decode cX6_signAt 5 = .ok (.lushr, 1) := by decide +kernel
theorem dX6_signAt_6 : decode cX6_signAt 6 = .ok (.ldc2_w 245, 3) := by decide +kernel
theorem dX6_signAt_9 : decode cX6_signAt 9 = .ok (.land, 1) := by decide +kernel
theorem dX6_signAt_10 : decode cX6_signAt 10 = .ok (.l2i, 1) := by decide +kernel
theorem dX6_signAt_11 : decode cX6_signAt 11 = .ok (.ireturn, 1) := by decide +kernel
theorem dX6_wipe_0 : decode cX6_wipe 0 = .ok (.aload_n 0, 1) := by decide +kernel
theorem dX6_wipe_1 : decode cX6_wipe 1 = .ok (.getfield 53, 3) := by decide +kernel
theorem dX6_wipe_4 : decode cX6_wipe 4 = .ok (.getfield 124, 3) := by decide +kernel
theorem dX6_wipe_7 : decode cX6_wipe 7 = .ok (.istore_n 1, 1) := by decide +kernel
theorem dX6_wipe_8 : decode cX6_wipe 8 = .ok (.aload_n 0, 1) := by decide +kernel
theorem dX6_wipe_9 : decode cX6_wipe 9 = .ok (.getfield 53, 3) := by decide +kernel
theorem dX6_wipe_12 : decode cX6_wipe 12 = .ok (.invokevirtual 121, 3) := by decide +kernel
theorem dX6_wipe_15 : decode cX6_wipe 15 = .ok (.iload_n 1, 1) := by decide +kernel
theorem dX6_wipe_16 : decode cX6_wipe 16 = .ok (.ireturn, 1) := by decide +kernel
theorem dX6_fault_0 : decode cX6_fault 0 = .ok (.aload_n 0, 1) := by decide +kernel
theorem dX6_fault_1 : decode cX6_fault 1 = .ok (.getfield 53, 3) := by decide +kernel
theorem dX6_fault_4 : decode cX6_fault 4 = .ok (.invokevirtual 114, 3) := by decide +kernel
theorem dX6_fault_7 : decode cX6_fault 7 = .ok (.ireturn, 1) := by decide +kernel
theorem dX6_undo_0 : decode cX6_undo 0 = .ok (.aload_n 0, 1) := by decide +kernel
theorem dX6_undo_1 : decode cX6_undo 1 = .ok (.getfield 36, 3) := by decide +kernel
theorem dX6_undo_4 : decode cX6_undo 4 = .ok (.getfield 213, 3) := by decide +kernel
theorem dX6_undo_7 : decode cX6_undo 7 = .ok (.ifCond .ne 6, 3) := by decide +kernel
theorem dX6_undo_10 : decode cX6_undo 10 = .ok (.bipush (-5), 2) := by decide +kernel
theorem dX6_undo_12 : decode cX6_undo 12 = .ok (.ireturn, 1) := by decide +kernel
theorem dX6_undo_13 : decode cX6_undo 13 = .ok (.aload_n 0, 1) := by decide +kernel
theorem dX6_undo_14 : decode cX6_undo 14 = .ok (.getfield 36, 3) := by decide +kernel
theorem dX6_undo_17 : decode cX6_undo 17 = .ok (.aload_n 0, 1) := by decide +kernel
theorem dX6_undo_18 : decode cX6_undo 18 = .ok (.getfield 10, 3) := by decide +kernel
theorem dX6_undo_21 : decode cX6_undo 21 = .ok (.invokevirtual 247, 3) := by decide +kernel
theorem dX6_undo_24 : decode cX6_undo 24 = .ok (.aload_n 0, 1) := by decide +kernel
theorem dX6_undo_25 : decode cX6_undo 25 = .ok (.getfield 36, 3) := by decide +kernel
theorem dX6_undo_28 : decode cX6_undo 28 = .ok (.getfield 213, 3) := by decide +kernel
theorem dX6_undo_31 : decode cX6_undo 31 = .ok (.ireturn, 1) := by decide +kernel
theorem dX6_save_0 : decode cX6_save 0 = .ok (.iload_n 1, 1) := by decide +kernel
theorem dX6_save_1 : decode cX6_save 1 = .ok (.iconst 0, 1) := by decide +kernel
theorem dX6_save_2 : decode cX6_save 2 = .ok (.iconst 1, 1) := by decide +kernel
theorem dX6_save_3 : decode cX6_save 3 = .ok (.invokestatic 57, 3) := by decide +kernel
theorem dX6_save_6 : decode cX6_save 6 = .ok (.ifCond .ne 6, 3) := by decide +kernel
theorem dX6_save_9 : decode cX6_save 9 = .ok (.bipush (-2), 2) := by decide +kernel
theorem dX6_save_11 : decode cX6_save 11 = .ok (.ireturn, 1) := by decide +kernel
theorem dX6_save_12 : decode cX6_save 12 = .ok (.aload_n 0, 1) := by decide +kernel
theorem dX6_save_13 : decode cX6_save 13 = .ok (.iload_n 1, 1) := by decide +kernel
theorem dX6_save_14 : decode cX6_save 14 = .ok (.invokevirtual 250, 3) := by decide +kernel
theorem dX6_save_17 : decode cX6_save 17 = .ok (.astore_n 2, 1) := by decide +kernel
theorem dX6_save_18 : decode cX6_save 18 = .ok (.aload_n 2, 1) := by decide +kernel
theorem dX6_save_19 : decode cX6_save 19 = .ok (.getfield 254, 3) := by decide +kernel
theorem dX6_save_22 : decode cX6_save 22 = .ok (.aload_n 0, 1) := by decide +kernel
theorem dX6_save_23 : decode cX6_save 23 = .ok (.getfield 10, 3) := by decide +kernel
theorem dX6_save_26 : decode cX6_save 26 = .ok (.invokevirtual 216, 3) := by decide +kernel
theorem dX6_save_29 : decode cX6_save 29 = .ok (.aload_n 2, 1) := by decide +kernel
theorem dX6_save_30 : decode cX6_save 30 = .ok (.iconst 1, 1) := by decide +kernel
theorem dX6_save_31 : decode cX6_save 31 = .ok (.putfield 257, 3) := by decide +kernel
theorem dX6_save_34 : decode cX6_save 34 = .ok (.aload_n 0, 1) := by decide +kernel
theorem dX6_save_35 : decode cX6_save 35 = .ok (.getfield 10, 3) := by decide +kernel
theorem dX6_save_38 : decode cX6_save 38 = .ok (.getfield 61, 3) := by decide +kernel
theorem dX6_save_41 : decode cX6_save 41 = .ok (.ireturn, 1) := by decide +kernel
theorem dX6_restore_0 : decode cX6_restore 0 = .ok (.iload_n 1, 1) := by decide +kernel
theorem dX6_restore_1 : decode cX6_restore 1 = .ok (.iconst 0, 1) := by decide +kernel
theorem dX6_restore_2 : decode cX6_restore 2 = .ok (.iconst 1, 1) := by decide +kernel
theorem dX6_restore_3 : decode cX6_restore 3 = .ok (.invokestatic 57, 3) := by decide +kernel
theorem dX6_restore_6 : decode cX6_restore 6 = .ok (.ifCond .ne 6, 3) := by decide +kernel
theorem dX6_restore_9 : decode cX6_restore 9 = .ok (.bipush (-2), 2) := by decide +kernel
theorem dX6_restore_11 : decode cX6_restore 11 = .ok (.ireturn, 1) := by decide +kernel
theorem dX6_restore_12 : decode cX6_restore 12 = .ok (.aload_n 0, 1) := by decide +kernel
theorem dX6_restore_13 : decode cX6_restore 13 = .ok (.iload_n 1, 1) := by decide +kernel
theorem dX6_restore_14 : decode cX6_restore 14 = .ok (.invokevirtual 250, 3) := by decide +kernel
theorem dX6_restore_17 : decode cX6_restore 17 = .ok (.astore_n 2, 1) := by decide +kernel
theorem dX6_restore_18 : decode cX6_restore 18 = .ok (.aload_n 2, 1) := by decide +kernel
theorem dX6_restore_19 : decode cX6_restore 19 = .ok (.getfield 257, 3) := by decide +kernel
theorem dX6_restore_22 : decode cX6_restore 22 = .ok (.ifCond .ne 6, 3) := by decide +kernel
theorem dX6_restore_25 : decode cX6_restore 25 = .ok (.bipush (-5), 2) := by decide +kernel
theorem dX6_restore_27 : decode cX6_restore 27 = .ok (.ireturn, 1) := by decide +kernel
theorem dX6_restore_28 : decode cX6_restore 28 = .ok (.aload_n 0, 1) := by decide +kernel
theorem dX6_restore_29 : decode cX6_restore 29 = .ok (.getfield 36, 3) := by decide +kernel
theorem dX6_restore_32 : decode cX6_restore 32 = .ok (.aload_n 0, 1) := by decide +kernel
theorem dX6_restore_33 : decode cX6_restore 33 = .ok (.getfield 10, 3) := by decide +kernel
theorem dX6_restore_36 : decode cX6_restore 36 = .ok (.invokevirtual 65, 3) := by decide +kernel
theorem dX6_restore_39 : decode cX6_restore 39 = .ok (.aload_n 0, 1) := by decide +kernel
theorem dX6_restore_40 : decode cX6_restore 40 = .ok (.getfield 10, 3) := by decide +kernel
theorem dX6_restore_43 : decode cX6_restore 43 = .ok (.aload_n 2, 1) := by decide +kernel
theorem dX6_restore_44 : decode cX6_restore 44 = .ok (.getfield 254, 3) := by decide +kernel
theorem dX6_restore_47 : decode cX6_restore 47 = .ok (.invokevirtual 216, 3) := by decide +kernel
theorem dX6_restore_50 : decode cX6_restore 50 = .ok (.aload_n 0, 1) := by decide +kernel
theorem dX6_restore_51 : decode cX6_restore 51 = .ok (.getfield 10, 3) := by decide +kernel
theorem dX6_restore_54 : decode cX6_restore 54 = .ok (.getfield 61, 3) := by decide +kernel
theorem dX6_restore_57 : decode cX6_restore 57 = .ok (.ireturn, 1) := by decide +kernel
theorem dX6_slotOf_0 : decode cX6_slotOf 0 = .ok (.iload_n 1, 1) := by decide +kernel
theorem dX6_slotOf_1 : decode cX6_slotOf 1 = .ok (.ifCond .ne 10, 3) := by decide +kernel
theorem dX6_slotOf_4 : decode cX6_slotOf 4 = .ok (.aload_n 0, 1) := by decide +kernel
theorem dX6_slotOf_5 : decode cX6_slotOf 5 = .ok (.getfield 43, 3) := by decide +kernel
theorem dX6_slotOf_8 : decode cX6_slotOf 8 = .ok (.goto 7, 3) := by decide +kernel
theorem dX6_slotOf_11 : decode cX6_slotOf 11 = .ok (.aload_n 0, 1) := by decide +kernel
theorem dX6_slotOf_12 : decode cX6_slotOf 12 = .ok (.getfield 47, 3) := by decide +kernel
theorem dX6_slotOf_15 : decode cX6_slotOf 15 = .ok (.areturn, 1) := by decide +kernel
theorem dX6_isWithin_0 : decode cX6_isWithin 0 = .ok (.iload_n 0, 1) := by decide +kernel
theorem dX6_isWithin_1 : decode cX6_isWithin 1 = .ok (.iload_n 1, 1) := by decide +kernel
theorem dX6_isWithin_2 : decode cX6_isWithin 2 = .ok (.if_icmp .lt 12, 3) := by decide +kernel
theorem dX6_isWithin_5 : decode cX6_isWithin 5 = .ok (.iload_n 0, 1) := by decide +kernel
theorem dX6_isWithin_6 : decode cX6_isWithin 6 = .ok (.iload_n 2, 1) := by decide +kernel
theorem dX6_isWithin_7 : decode cX6_isWithin 7 = .ok (.if_icmp .gt 7, 3) := by decide +kernel
theorem dX6_isWithin_10 : decode cX6_isWithin 10 = .ok (.iconst 1, 1) := by decide +kernel
theorem dX6_isWithin_11 : decode cX6_isWithin 11 = .ok (.goto 4, 3) := by decide +kernel
theorem dX6_isWithin_14 : decode cX6_isWithin 14 = .ok (.iconst 0, 1) := by decide +kernel
theorem dX6_isWithin_15 : decode cX6_isWithin 15 = .ok (.ireturn, 1) := by decide +kernel
theorem dX6_lowestOf_0 : decode cX6_lowestOf 0 = .ok (.iconst 0, 1) := by decide +kernel
theorem dX6_lowestOf_1 : decode cX6_lowestOf 1 = .ok (.istore_n 1, 1) := by decide +kernel
theorem dX6_lowestOf_2 : decode cX6_lowestOf 2 = .ok (.iload_n 1, 1) := by decide +kernel
theorem dX6_lowestOf_3 : decode cX6_lowestOf 3 = .ok (.bipush 6, 2) := by decide +kernel
theorem dX6_lowestOf_5 : decode cX6_lowestOf 5 = .ok (.if_icmp .ge 20, 3) := by decide +kernel
theorem dX6_lowestOf_8 : decode cX6_lowestOf 8 = .ok (.iload_n 0, 1) := by decide +kernel
theorem dX6_lowestOf_9 : decode cX6_lowestOf 9 = .ok (.iload_n 1, 1) := by decide +kernel
theorem dX6_lowestOf_10 : decode cX6_lowestOf 10 = .ok (.ishr, 1) := by decide +kernel
theorem dX6_lowestOf_11 : decode cX6_lowestOf 11 = .ok (.iconst 1, 1) := by decide +kernel
theorem dX6_lowestOf_12 : decode cX6_lowestOf 12 = .ok (.iand, 1) := by decide +kernel
theorem dX6_lowestOf_13 : decode cX6_lowestOf 13 = .ok (.iconst 1, 1) := by decide +kernel
theorem dX6_lowestOf_14 : decode cX6_lowestOf 14 = .ok (.if_icmp .ne 5, 3) := by decide +kernel
theorem dX6_lowestOf_17 : decode cX6_lowestOf 17 = .ok (.iload_n 1, 1) := by decide +kernel
theorem dX6_lowestOf_18 : decode cX6_lowestOf 18 = .ok (.ireturn, 1) := by decide +kernel
theorem dX6_lowestOf_19 : decode cX6_lowestOf 19 = .ok (.iinc 1 1, 3) := by decide +kernel
theorem dX6_lowestOf_22 : decode cX6_lowestOf 22 = .ok (.goto (-20), 3) := by decide +kernel
theorem dX6_lowestOf_25 : decode cX6_lowestOf 25 = .ok (.bipush (-6), 2) := by decide +kernel
theorem dX6_lowestOf_27 : decode cX6_lowestOf 27 = .ok (.ireturn, 1) := by decide +kernel
end
section
def fX2_copyRow (M : zM) (k i1 i2 : Nat) : Option (Unit × zM) := if i1 = i2 then none else some ((), zcp M k i1 i2)
def fX2_copyFrom (M : zM) (j : Nat) (j1 : Nat) : Option (Unit × zM) :=
  zL (zw M 1 j 0 (M 1 j1 0)) fun M21 =>
  zL (zw M21 1 j 1 (M21 1 j1 1)) fun M22 =>
  zL (zw M22 1 j 2 (M22 1 j1 2)) fun M23 =>
  zL (zw M23 1 j 3 (M23 1 j1 3)) fun M24 =>
  zC (fX2_copyRow M24 2 j1 j) fun _ M25 =>
  zC (fX2_copyRow M25 3 j1 j) fun _ M26 =>
  zC (fX2_copyRow M26 4 j1 j) fun _ M27 =>
  zC (fX2_copyRow M27 5 j1 j) fun _ M28 =>
  zC (fX2_copyRow M28 6 j1 j) fun _ M29 =>
  zC (fX2_copyRow M29 7 j1 j) fun _ M30 =>
  zC (fX2_copyRow M30 8 j1 j) fun _ M31 =>
  zC (fX2_copyRow M31 9 j1 j) fun _ M32 =>
  zC (fX2_copyRow M32 10 j1 j) fun _ M33 =>
  zC (fX2_copyRow M33 11 j1 j) fun _ M34 =>
  zC (fX2_copyRow M34 12 j1 j) fun _ M35 =>
  zC (fX2_copyRow M35 13 j1 j) fun _ M36 =>
  zC (fX2_copyRow M36 14 j1 j) fun _ M37 =>
  some ((), M37)
def fX2_has (M : zM) (j : Nat) (v1 : Int32) : Option (Int32 × zM) :=
  if v1 < 0 then
    some (0, M)
  else
    if (M 1 j 0) ≤ v1 then
      some (0, M)
    else
      if 6 ≤ v1 then
        some (0, M)
      else
        some (1, M)
def fX2_isFlying (M : zM) (j : Nat) (v1 : Int32) : Option (Int32 × zM) :=
  zC (fX2_has M j v1) fun r22 M21 =>
  if r22 = 0 then
    some (0, M21)
  else
    zI v1 6 <|
    if (M21 10 j (zN v1)) = 0 then
      some (1, M21)
    else
      some (0, M21)
def fX2_sendUp_L59 (k : zM → Int32 → Option (Unit × zM)) (j : Nat) (a1 : Int32) : Nat → zM → Int32 → Option (Unit × zM)
  | 0 => fun _ _ => none
  | n + 1 => fun M a2 =>
    if 32 ≤ a2 then
      k M a2
    else
      zI ((a1 * 32) + a2) 192 <| zL (zw M 14 j (zN ((a1 * 32) + a2)) 0) fun M27 =>
      zL (a2 + 1) fun v28 =>
      fX2_sendUp_L59 k j a1 n M27 v28
def fX2_sendUp (M : zM) (j : Nat) (v1 : Int32) : Option (Unit × zM) :=
  zI v1 6 <|
  zI v1 6 <| zL (zw M 2 j (zN v1) (M 11 j (zN v1))) fun M21 =>
  zI v1 6 <|
  zI v1 6 <| zL (zw M21 3 j (zN v1) (M21 12 j (zN v1))) fun M22 =>
  zI v1 6 <|
  zI v1 6 <| zL (zw M22 4 j (zN v1) (M22 13 j (zN v1))) fun M23 =>
  zI v1 6 <| zL (zw M23 5 j (zN v1) 0) fun M24 =>
  zI v1 6 <| zL (zw M24 6 j (zN v1) 0) fun M25 =>
  zI v1 6 <| zL (zw M25 10 j (zN v1) 0) fun M26 =>
  fX2_sendUp_L59 (fun M29 v30 => 
    some ((), M29)) j v1 2000 M26 0
def fX2_addKite (M : zM) (j : Nat) (v1 : Int32) (v2 : Int32) (v3 : Int32) (v4 : Int32) (v5 : Int32) : Option (Int32 × zM) :=
  zL (M 1 j 0) fun v21 =>
  zI v21 6 <| zL (zw M 11 j (zN v21) v1) fun M22 =>
  zI v21 6 <| zL (zw M22 12 j (zN v21) v2) fun M23 =>
  zI v21 6 <| zL (zw M23 13 j (zN v21) v3) fun M24 =>
  zI v21 6 <| zL (zw M24 7 j (zN v21) v4) fun M25 =>
  zI v21 6 <| zL (zw M25 8 j (zN v21) v5) fun M26 =>
  zI v21 6 <| zL (zw M26 9 j (zN v21) 0) fun M27 =>
  zC (fX2_sendUp M27 j v21) fun _ M28 =>
  zL (zw M28 1 j 0 ((M28 1 j 0) + 1)) fun M29 =>
  some (v21, M29)
def fX2_beginAnew_L2 (k : zM → Int32 → Option (Unit × zM)) (j : Nat) : Nat → zM → Int32 → Option (Unit × zM)
  | 0 => fun _ _ => none
  | n + 1 => fun M a1 =>
    if 6 ≤ a1 then
      k M a1
    else
      zC (fX2_has M j a1) fun r22 M21 =>
      if r22 = 0 then
        zL (a1 + 1) fun v23 =>
        fX2_beginAnew_L2 k j n M21 v23
      else
        zC (fX2_sendUp M21 j a1) fun _ M24 =>
        zL (a1 + 1) fun v25 =>
        fX2_beginAnew_L2 k j n M24 v25
def fX2_beginAnew (M : zM) (j : Nat) : Option (Unit × zM) :=
  fX2_beginAnew_L2 (fun M26 v27 => 
    zL (zw M26 1 j 2 ((M26 1 j 2) + 1)) fun M28 =>
    some ((), M28)) j 2000 M 0
def fX2_turn (M : zM) (j : Nat) (v1 : Int32) (v2 : Int32) (v3 : Int32) : Option (Int32 × zM) :=
  zI v1 6 <|
  zI v1 6 <|
  zL ((10 * (zabs (v2 - (M 5 j (zN v1))))) + (zabs (v3 - (M 6 j (zN v1))))) fun v21 =>
  zI v1 6 <| zL (zw M 5 j (zN v1) v2) fun M22 =>
  zI v1 6 <| zL (zw M22 6 j (zN v1) v3) fun M23 =>
  some (v21, M23)
def fX6_isWithin (M : zM) (v0 : Int32) (v1 : Int32) (v2 : Int32) : Option (Int32 × zM) :=
  if v0 < v1 then
    some (0, M)
  else
    if v2 < v0 then
      some (0, M)
    else
      some (1, M)
def fX2_move (M : zM) (j : Nat) (v1 : Int32) : Option (Unit × zM) :=
  zI v1 6 <|
  zI v1 6 <|
  zL ((M 3 j (zN v1)) + (M 5 j (zN v1))) fun v21 =>
  zC (fX6_isWithin M v21 0 63) fun r23 M22 =>
  if r23 = 0 then
    zI v1 6 <|
    zI v1 6 <| zL (zw M22 5 j (zN v1) (-(M22 5 j (zN v1)))) fun M24 =>
    zI v1 6 <|
    zI v1 6 <|
    zL ((M24 4 j (zN v1)) + (M24 6 j (zN v1))) fun v25 =>
    zC (fX6_isWithin M24 v25 1 47) fun r27 M26 =>
    if r27 = 0 then
      zI v1 6 <|
      zI v1 6 <| zL (zw M26 6 j (zN v1) (-(M26 6 j (zN v1)))) fun M28 =>
      some ((), M28)
    else
      zI v1 6 <| zL (zw M26 4 j (zN v1) v25) fun M29 =>
      some ((), M29)
  else
    zI v1 6 <| zL (zw M22 3 j (zN v1) v21) fun M30 =>
    zI v1 6 <|
    zI v1 6 <|
    zL ((M30 4 j (zN v1)) + (M30 6 j (zN v1))) fun v31 =>
    zC (fX6_isWithin M30 v31 1 47) fun r33 M32 =>
    if r33 = 0 then
      zI v1 6 <|
      zI v1 6 <| zL (zw M32 6 j (zN v1) (-(M32 6 j (zN v1)))) fun M34 =>
      some ((), M34)
    else
      zI v1 6 <| zL (zw M32 4 j (zN v1) v31) fun M35 =>
      some ((), M35)
def fX2_sliding (M : zM) (j : Nat) (v1 : Int32) (v2 : Int32) : Option (Int32 × zM) :=
  zI v1 6 <|
  zI v2 6 <|
  zI v1 6 <|
  zI v2 6 <|
  some ((1 + (zabs ((M 5 j (zN v1)) - (M 5 j (zN v2))))) + (zabs ((M 6 j (zN v1)) - (M 6 j (zN v2)))), M)
def fX2_rubbing (M : zM) (j : Nat) (v1 : Int32) (v2 : Int32) (v3 : Int32) : Option (Int32 × zM) :=
  zI v2 6 <|
  zC (fX2_sliding M j v1 v2) fun r22 M21 =>
  zL ((M 7 j (zN v2)) * r22) fun v23 =>
  if v3 = 0 then
    some (v23, M21)
  else
    some (2 * v23, M21)
def fX2_wearAt (M : zM) (j : Nat) (v1 : Int32) (v2 : Int32) : Option (Int32 × zM) :=
  zI ((v1 * 32) + v2) 192 <|
  some (M 14 j (zN ((v1 * 32) + v2)), M)
def fX2_wearDown (M : zM) (j : Nat) (v1 : Int32) (v2 : Int32) (v3 : Int32) : Option (Unit × zM) :=
  zI ((v1 * 32) + v2) 192 <|
  zI ((v1 * 32) + v2) 192 <| zL (zw M 14 j (zN ((v1 * 32) + v2)) ((M 14 j (zN ((v1 * 32) + v2))) + v3)) fun M21 =>
  some ((), M21)
def fX2_isWornThrough (M : zM) (j : Nat) (v1 : Int32) (v2 : Int32) : Option (Int32 × zM) :=
  zC (fX2_wearAt M j v1 v2) fun r22 M21 =>
  zI v1 6 <|
  if r22 < (M21 8 j (zN v1)) then
    some (0, M21)
  else
    some (1, M21)
def fX2_mostWornPlace_L4 (k : zM → Int32 → Int32 → Option (Int32 × zM)) (j : Nat) (a1 : Int32) : Nat → zM → Int32 → Int32 → Option (Int32 × zM)
  | 0 => fun _ _ _ => none
  | n + 1 => fun M a2 a3 =>
    if 32 ≤ a3 then
      k M a2 a3
    else
      zC (fX2_wearAt M j a1 a3) fun r22 M21 =>
      zC (fX2_wearAt M21 j a1 a2) fun r24 M23 =>
      if r22 ≤ r24 then
        zL (a3 + 1) fun v25 =>
        fX2_mostWornPlace_L4 k j a1 n M23 a2 v25
      else
        zL (a3 + 1) fun v26 =>
        fX2_mostWornPlace_L4 k j a1 n M23 a3 v26
def fX2_mostWornPlace (M : zM) (j : Nat) (v1 : Int32) : Option (Int32 × zM) :=
  fX2_mostWornPlace_L4 (fun M27 v28 v29 => 
    some (v28, M27)) j v1 2000 M 0 1
def fX2_flyingKites_L4 (k : zM → Int32 → Int32 → Option (Int32 × zM)) (j : Nat) : Nat → zM → Int32 → Int32 → Option (Int32 × zM)
  | 0 => fun _ _ _ => none
  | n + 1 => fun M a1 a2 =>
    if 6 ≤ a2 then
      k M a1 a2
    else
      zC (fX2_isFlying M j a2) fun r22 M21 =>
      if r22 = 0 then
        zL (a2 + 1) fun v23 =>
        fX2_flyingKites_L4 k j n M21 a1 v23
      else
        zL (a1 ||| (1 <<< (a2 &&& 31))) fun v24 =>
        zL (a2 + 1) fun v25 =>
        fX2_flyingKites_L4 k j n M21 v24 v25
def fX2_flyingKites (M : zM) (j : Nat) : Option (Int32 × zM) :=
  fX2_flyingKites_L4 (fun M26 v27 v28 => 
    some (v27, M26)) j 2000 M 0 0
def fX2_leader_L14 (k : zM → Int32 → Int32 → Option (Int32 × zM)) (j : Nat) : Nat → zM → Int32 → Int32 → Option (Int32 × zM)
  | 0 => fun _ _ _ => none
  | n + 1 => fun M a1 a2 =>
    if 6 ≤ a2 then
      k M a1 a2
    else
      zC (fX2_has M j a2) fun r22 M21 =>
      if r22 = 0 then
        zL (a2 + 1) fun v23 =>
        fX2_leader_L14 k j n M21 a1 v23
      else
        zI a2 6 <|
        zI a1 6 <|
        if (M21 9 j (zN a2)) ≤ (M21 9 j (zN a1)) then
          zL (a2 + 1) fun v24 =>
          fX2_leader_L14 k j n M21 a1 v24
        else
          zL (a2 + 1) fun v25 =>
          fX2_leader_L14 k j n M21 a2 v25
def fX2_leader (M : zM) (j : Nat) : Option (Int32 × zM) :=
  if (M 1 j 0) = 0 then
    some ((-6), M)
  else
    fX2_leader_L14 (fun M26 v27 v28 => 
      some (v27, M26)) j 2000 M 0 1
def fX2_allPoints_L4 (k : zM → Int32 → Int32 → Option (Int32 × zM)) (j : Nat) : Nat → zM → Int32 → Int32 → Option (Int32 × zM)
  | 0 => fun _ _ _ => none
  | n + 1 => fun M a1 a2 =>
    if 6 ≤ a2 then
      k M a1 a2
    else
      zC (fX2_has M j a2) fun r22 M21 =>
      if r22 = 0 then
        zL (a2 + 1) fun v23 =>
        fX2_allPoints_L4 k j n M21 a1 v23
      else
        zI a2 6 <|
        zL (a1 + (M21 9 j (zN a2))) fun v24 =>
        zL (a2 + 1) fun v25 =>
        fX2_allPoints_L4 k j n M21 v24 v25
def fX2_allPoints (M : zM) (j : Nat) : Option (Int32 × zM) :=
  fX2_allPoints_L4 (fun M26 v27 v28 => 
    some (v27, M26)) j 2000 M 0 0
def fX5_note (M : zM) (j : Nat) (v1 : Int32) (v2 : Int32) (v3 : Int32) (v4 : Int32) : Option (Unit × zM) :=
  if (M 15 j 4) < 0 then
    some ((), M)
  else
    if (M 15 j 4) < 30 then
      zI (M 15 j 4) 30 <| zL (zw M 16 j (zN (M 15 j 4)) v1) fun M21 =>
      zI (M21 15 j 4) 30 <| zL (zw M21 17 j (zN (M21 15 j 4)) v2) fun M22 =>
      zI (M22 15 j 4) 30 <| zL (zw M22 18 j (zN (M22 15 j 4)) v3) fun M23 =>
      zI (M23 15 j 4) 30 <| zL (zw M23 19 j (zN (M23 15 j 4)) (vp_nar .boolean v4)) fun M24 =>
      zL (zw M24 15 j 4 ((M24 15 j 4) + 1)) fun M25 =>
      some ((), M25)
    else
      some ((), M)
def fX5_measurePair (M : zM) (j : Nat) (j1 : Nat) (v2 : Int32) (v3 : Int32) : Option (Unit × zM) :=
  zI v2 6 <|
  zI v2 6 <|
  zL ((M 3 j1 (zN v2)) - (M 2 j1 (zN v2))) fun v21 =>
  zI v2 6 <|
  zL (M 4 j1 (zN v2)) fun v22 =>
  zI v3 6 <|
  zI v3 6 <|
  zL ((M 3 j1 (zN v3)) - (M 2 j1 (zN v3))) fun v23 =>
  zI v3 6 <|
  zL (M 4 j1 (zN v3)) fun v24 =>
  zI v3 6 <|
  zI v2 6 <|
  zL ((M 2 j1 (zN v3)) - (M 2 j1 (zN v2))) fun v25 =>
  zL ((v21 * v24) - (v22 * v23)) fun v26 =>
  if 0 < (v25 * v26) then
    zL (zabs v26) fun v27 =>
    zL ((zabs v25) * v24) fun v28 =>
    zL ((zabs v25) * v22) fun v29 =>
    if v27 ≤ v28 then
      some ((), M)
    else
      if v29 < v27 then
        if v27 < (zabs ((v21 * v23) + (v22 * v24))) then
          zV v27 <|
          zC (fX5_note M j v2 v3 ((32 * v28) / v27) 0) fun _ M30 =>
          zV v27 <|
          zC (fX5_note M30 j v3 v2 ((32 * v29) / v27) 0) fun _ M31 =>
          some ((), M31)
        else
          zV v27 <|
          zC (fX5_note M j v2 v3 ((32 * v28) / v27) 1) fun _ M32 =>
          zV v27 <|
          zC (fX5_note M32 j v3 v2 ((32 * v29) / v27) 1) fun _ M33 =>
          some ((), M33)
      else
        some ((), M)
  else
    some ((), M)
def fX5_measure_L25 (k : zM → Int32 → Option (Unit × zM)) (j : Nat) (j1 : Nat) (a2 : Int32) : Nat → zM → Int32 → Option (Unit × zM)
  | 0 => fun _ _ => none
  | n + 1 => fun M a3 =>
    if 6 ≤ a3 then
      k M a3
    else
      zC (fX2_isFlying M j1 a3) fun r27 M26 =>
      if r27 = 0 then
        zL (a3 + 1) fun v28 =>
        fX5_measure_L25 k j j1 a2 n M26 v28
      else
        zC (fX5_measurePair M26 j j1 a2 a3) fun _ M29 =>
        zL (a3 + 1) fun v30 =>
        fX5_measure_L25 k j j1 a2 n M29 v30
def fX5_measure_L7 (k : zM → Int32 → Option (Unit × zM)) (j : Nat) (j1 : Nat) : Nat → zM → Int32 → Option (Unit × zM)
  | 0 => fun _ _ => none
  | n + 1 => fun M a2 =>
    if 6 ≤ a2 then
      k M a2
    else
      zC (fX2_isFlying M j1 a2) fun r23 M22 =>
      if r23 = 0 then
        zL (a2 + 1) fun v24 =>
        fX5_measure_L7 k j j1 n M22 v24
      else
        zL (a2 + 1) fun v25 =>
        fX5_measure_L25 (fun M31 v32 => 
          zL (a2 + 1) fun v33 =>
          fX5_measure_L7 k j j1 n M31 v33) j j1 a2 2000 M22 v25
def fX5_measure (M : zM) (j : Nat) (j1 : Nat) : Option (Unit × zM) :=
  zL (zw M 15 j 4 0) fun M21 =>
  fX5_measure_L7 (fun M34 v35 => 
    some ((), M34)) j j1 2000 M21 0
def fX5_crossings (M : zM) (j : Nat) : Option (Int32 × zM) :=
  zV 2 <|
  some ((M 15 j 4) / 2, M)
def fX5_noteOf_L2 (k : zM → Int32 → Option (Int32 × zM)) (j : Nat) (a1 : Int32) (a2 : Int32) : Nat → zM → Int32 → Option (Int32 × zM)
  | 0 => fun _ _ => none
  | n + 1 => fun M a3 =>
    if (M 15 j 4) ≤ a3 then
      k M a3
    else
      if 30 ≤ a3 then
        k M a3
      else
        zI a3 30 <|
        if (M 16 j (zN a3)) = a1 then
          zI a3 30 <|
          if (M 17 j (zN a3)) = a2 then
            some (a3, M)
          else
            zL (a3 + 1) fun v22 =>
            fX5_noteOf_L2 k j a1 a2 n M v22
        else
          zL (a3 + 1) fun v21 =>
          fX5_noteOf_L2 k j a1 a2 n M v21
def fX5_noteOf (M : zM) (j : Nat) (v1 : Int32) (v2 : Int32) : Option (Int32 × zM) :=
  fX5_noteOf_L2 (fun M23 v24 => 
    some ((-6), M23)) j v1 v2 2000 M 0
def fX5_cross (M : zM) (j : Nat) (v1 : Int32) (v2 : Int32) : Option (Int32 × zM) :=
  zC (fX5_noteOf M j v1 v2) fun r22 M21 =>
  if r22 = (-6) then
    some (0, M21)
  else
    some (1, M21)
def fX5_placeOn (M : zM) (j : Nat) (v1 : Int32) (v2 : Int32) : Option (Int32 × zM) :=
  zC (fX5_noteOf M j v1 v2) fun r22 M21 =>
  if r22 = (-6) then
    some ((-6), M21)
  else
    zI r22 30 <|
    some (M21 18 j (zN r22), M21)
def fX5_isSteep (M : zM) (j : Nat) (v1 : Int32) (v2 : Int32) : Option (Int32 × zM) :=
  zC (fX5_noteOf M j v1 v2) fun r22 M21 =>
  if r22 = (-6) then
    some (0, M21)
  else
    zI r22 30 <|
    if (M21 19 j (zN r22)) = 0 then
      some (0, M21)
    else
      some (1, M21)
def fX5_crossersOf_L4 (k : zM → Int32 → Int32 → Option (Int32 × zM)) (j : Nat) (a1 : Int32) : Nat → zM → Int32 → Int32 → Option (Int32 × zM)
  | 0 => fun _ _ _ => none
  | n + 1 => fun M a2 a3 =>
    if (M 15 j 4) ≤ a3 then
      k M a2 a3
    else
      if 30 ≤ a3 then
        k M a2 a3
      else
        zI a3 30 <|
        if (M 16 j (zN a3)) = a1 then
          zI a3 30 <|
          zL (a2 ||| (1 <<< ((M 17 j (zN a3)) &&& 31))) fun v22 =>
          zL (a3 + 1) fun v23 =>
          fX5_crossersOf_L4 k j a1 n M v22 v23
        else
          zL (a3 + 1) fun v21 =>
          fX5_crossersOf_L4 k j a1 n M a2 v21
def fX5_crossersOf (M : zM) (j : Nat) (v1 : Int32) : Option (Int32 × zM) :=
  fX5_crossersOf_L4 (fun M24 v25 v26 => 
    some (v25, M24)) j v1 2000 M 0 0
def fX4_wearStrings_L2 (k : zM → Int32 → Option (Unit × zM)) (j1 : Nat) : Nat → zM → Int32 → Option (Unit × zM)
  | 0 => fun _ _ => none
  | n + 1 => fun M a2 =>
    if (M 15 1 4) ≤ a2 then
      k M a2
    else
      zI a2 30 <|
      zL (M 16 1 (zN a2)) fun v21 =>
      zI a2 30 <|
      zI a2 30 <|
      zC (fX2_rubbing M j1 v21 (M 17 1 (zN a2)) (M 19 1 (zN a2))) fun r23 M22 =>
      zI a2 30 <|
      zC (fX2_wearDown M22 j1 v21 (M22 18 1 (zN a2)) r23) fun _ M24 =>
      zL (a2 + 1) fun v25 =>
      fX4_wearStrings_L2 k j1 n M24 v25
def fX4_wearStrings (M : zM) (j1 : Nat) : Option (Unit × zM) :=
  fX4_wearStrings_L2 (fun M26 v27 => 
    some ((), M26)) j1 2000 M 0
def fX4_givePoints_L2 (k : zM → Int32 → Option (Unit × zM)) (j1 : Nat) : Nat → zM → Int32 → Option (Unit × zM)
  | 0 => fun _ _ => none
  | n + 1 => fun M a2 =>
    if (M 15 1 4) ≤ a2 then
      k M a2
    else
      zI a2 30 <|
      zL (M 16 1 (zN a2)) fun v21 =>
      zI a2 30 <|
      zC (fX2_isWornThrough M j1 v21 (M 18 1 (zN a2))) fun r23 M22 =>
      if r23 = 0 then
        zL (a2 + 1) fun v24 =>
        fX4_givePoints_L2 k j1 n M22 v24
      else
        zI a2 30 <|
        zL (M22 17 1 (zN a2)) fun v25 =>
        zI v25 6 <|
        zI v25 6 <| zL (zw M22 9 j1 (zN v25) ((M22 9 j1 (zN v25)) + 1)) fun M26 =>
        zL (zw M26 20 0 2 ((M26 20 0 2) ||| (1 <<< (v25 &&& 31)))) fun M27 =>
        zL (zw M27 20 0 1 ((M27 20 0 1) ||| (1 <<< (v21 &&& 31)))) fun M28 =>
        zL (a2 + 1) fun v29 =>
        fX4_givePoints_L2 k j1 n M28 v29
def fX4_givePoints (M : zM) (j1 : Nat) : Option (Unit × zM) :=
  fX4_givePoints_L2 (fun M30 v31 => 
    some ((), M30)) j1 2000 M 0
def fX4_cutStrings_L2 (k : zM → Int32 → Option (Unit × zM)) (j1 : Nat) : Nat → zM → Int32 → Option (Unit × zM)
  | 0 => fun _ _ => none
  | n + 1 => fun M a2 =>
    if 6 ≤ a2 then
      k M a2
    else
      if (((M 20 0 1) >>> (a2 &&& 31)) &&& 1) = 1 then
        zI a2 6 <| zL (zw M 10 j1 (zN a2) 1) fun M22 =>
        zL (zw M22 1 j1 3 ((M22 1 j1 3) + 1)) fun M23 =>
        zL (a2 + 1) fun v24 =>
        fX4_cutStrings_L2 k j1 n M23 v24
      else
        zL (a2 + 1) fun v21 =>
        fX4_cutStrings_L2 k j1 n M v21
def fX4_cutStrings (M : zM) (j1 : Nat) : Option (Unit × zM) :=
  fX4_cutStrings_L2 (fun M25 v26 => 
    some ((), M25)) j1 2000 M 0
def fX4_happenIn_L2 (k : zM → Int32 → Option (Unit × zM)) (j1 : Nat) : Nat → zM → Int32 → Option (Unit × zM)
  | 0 => fun _ _ => none
  | n + 1 => fun M a2 =>
    if 6 ≤ a2 then
      k M a2
    else
      zC (fX2_isFlying M j1 a2) fun r22 M21 =>
      if r22 = 0 then
        zL (a2 + 1) fun v23 =>
        fX4_happenIn_L2 k j1 n M21 v23
      else
        zC (fX2_move M21 j1 a2) fun _ M24 =>
        zL (a2 + 1) fun v25 =>
        fX4_happenIn_L2 k j1 n M24 v25
def fX4_happenIn (M : zM) (j1 : Nat) : Option (Unit × zM) :=
  fX4_happenIn_L2 (fun M26 v27 => 
    zL (zw M26 1 j1 1 ((M26 1 j1 1) + 1)) fun M28 =>
    zL (zw M28 20 0 1 0) fun M29 =>
    zL (zw M29 20 0 2 0) fun M30 =>
    zC (fX5_measure M30 1 j1) fun _ M31 =>
    zC (fX4_wearStrings M31 j1) fun _ M32 =>
    zC (fX4_givePoints M32 j1) fun _ M33 =>
    if (M33 20 0 1) = 0 then
      some ((), M33)
    else
      zC (fX4_cutStrings M33 j1) fun _ M34 =>
      some ((), M34)) j1 2000 M 0
def fX0_stateAt (M : zM) (v1 : Int32) : Option (Nat × zM) :=
  if v1 < 0 then
    none
  else
    if 6 ≤ v1 then
      none
    else
      zI v1 6 <|
      some ((2 + zN v1), M)
def fX0_record (M : zM) (j1 : Nat) : Option (Unit × zM) :=
  zC (fX0_stateAt M (M 21 0 1)) fun q22 M21 =>
  zC (fX2_copyFrom M21 q22 j1) fun _ M24 =>
  if 6 ≤ ((M24 21 0 1) + 1) then
    zL (zw M24 21 0 1 0) fun M25 =>
    zL (zw M25 21 0 2 (zmin ((M25 21 0 2) + 1) 6)) fun M26 =>
    some ((), M26)
  else
    zL (zw M24 21 0 1 ((M24 21 0 1) + 1)) fun M27 =>
    zL (zw M27 21 0 2 (zmin ((M27 21 0 2) + 1) 6)) fun M28 =>
    some ((), M28)
def fX0_takeBack (M : zM) (j1 : Nat) : Option (Unit × zM) :=
  if (M 21 0 1) ≤ 0 then
    zC (fX0_stateAt M 5) fun q22 M21 =>
    if (M21 21 0 2) = 0 then
      some ((), M21)
    else
      zC (fX2_copyFrom M21 j1 q22) fun _ M24 =>
      zL (zw M24 21 0 1 5) fun M25 =>
      zL (zw M25 21 0 2 ((M25 21 0 2) - 1)) fun M26 =>
      some ((), M26)
  else
    zL ((M 21 0 1) - 1) fun v27 =>
    zC (fX0_stateAt M v27) fun q29 M28 =>
    if (M28 21 0 2) = 0 then
      some ((), M28)
    else
      zC (fX2_copyFrom M28 j1 q29) fun _ M31 =>
      zL (zw M31 21 0 1 v27) fun M32 =>
      zL (zw M32 21 0 2 ((M32 21 0 2) - 1)) fun M33 =>
      some ((), M33)
def fX1_append (M : zM) (v1 : Int32) : Option (Unit × zM) :=
  if (M 24 0 1) < 0 then
    some ((), M)
  else
    if 60 ≤ (M 24 0 1) then
      some ((), M)
    else
      zI (M 24 0 1) 60 <| zL (zw M 25 0 (zN (M 24 0 1)) (vp_nar .char ((v1.toUInt32 % 65536).toInt32))) fun M21 =>
      zL (zw M21 24 0 1 ((M21 24 0 1) + 1)) fun M22 =>
      some ((), M22)
def fX1_clear (M : zM) : Option (Unit × zM) :=
  zL (zw M 24 0 1 0) fun M21 =>
  some ((), M21)
def fX1_signAt (M : zM) (v1 : Int32) : Option (Int32 × zM) :=
  if v1 < 0 then
    some (0, M)
  else
    if (M 24 0 1) ≤ v1 then
      some (0, M)
    else
      if 60 ≤ v1 then
        some (0, M)
      else
        zI v1 60 <|
        some (M 25 0 (zN v1), M)
def fX1_afterStartOfStep (M : zM) (v0 : Int32) (v1 : Int32) (v2 : Int32) : Option (Int32 × zM) :=
  if v0 = 48 then
    some (v2, M)
  else
    if v0 = 43 then
      some (v1, M)
    else
      if v0 = 45 then
        some (v1, M)
      else
        some ((-6), M)
def fX1_expectedAfter (M : zM) (v0 : Int32) (v1 : Int32) : Option (Int32 × zM) :=
  if v0 = 0 then
    zC (fX6_isWithin M v1 48 53) fun r22 M21 =>
    if r22 = 0 then
      some ((-6), M21)
    else
      some (1, M21)
  else
  if v0 = 1 then
    if v1 = 58 then
      some (2, M)
    else
      some ((-6), M)
  else
  if v0 = 2 then
    zC (fX1_afterStartOfStep M v1 3 4) fun r24 M23 =>
    some (r24, M23)
  else
  if v0 = 3 then
    zC (fX6_isWithin M v1 49 51) fun r26 M25 =>
    if r26 = 0 then
      some ((-6), M25)
    else
      some (4, M25)
  else
  if v0 = 4 then
    zC (fX1_afterStartOfStep M v1 5 6) fun r28 M27 =>
    some (r28, M27)
  else
  if v0 = 5 then
    zC (fX6_isWithin M v1 49 51) fun r30 M29 =>
    if r30 = 0 then
      some ((-6), M29)
    else
      some (6, M29)
  else
  if v1 = 59 then
    some (0, M)
  else
    some ((-6), M)
def fX1_firstFault_L4 (k : zM → Int32 → Int32 → Option (Int32 × zM))  : Nat → zM → Int32 → Int32 → Option (Int32 × zM)
  | 0 => fun _ _ _ => none
  | n + 1 => fun M a1 a2 =>
    if (M 24 0 1) ≤ a2 then
      k M a1 a2
    else
      zC (fX1_signAt M a2) fun r22 M21 =>
      zC (fX1_expectedAfter M21 a1 r22) fun r24 M23 =>
      if r24 = (-6) then
        some (a2, M23)
      else
        zL (a2 + 1) fun v25 =>
        fX1_firstFault_L4 k n M23 r24 v25
def fX1_firstFault (M : zM) : Option (Int32 × zM) :=
  fX1_firstFault_L4 (fun M26 v27 v28 => 
    if v27 = 6 then
      some ((-6), M26)
    else
      some (M26 24 0 1, M26))  2000 M 0 0
def fX1_digitAt (M : zM) (v1 : Int32) : Option (Int32 × zM) :=
  zC (fX1_signAt M v1) fun r22 M21 =>
  some (r22 - 48, M21)
def fX1_stepAt (M : zM) (v1 : Int32) : Option (Int32 × zM) :=
  zC (fX1_signAt M v1) fun r22 M21 =>
  if r22 = 48 then
    some (0, M21)
  else
    if r22 = 45 then
      zC (fX1_digitAt M21 (v1 + 1)) fun r26 M25 =>
      some (-r26, M25)
    else
      zC (fX1_digitAt M21 (v1 + 1)) fun r24 M23 =>
      some (r24, M23)
def fX1_afterKite (M : zM) (v1 : Int32) : Option (Int32 × zM) :=
  some (v1 + 2, M)
def fX1_afterStep (M : zM) (v1 : Int32) : Option (Int32 × zM) :=
  zC (fX1_signAt M v1) fun r22 M21 =>
  if r22 = 48 then
    some (v1 + 1, M21)
  else
    some (v1 + 2, M21)
def fX1_afterSemicolon (M : zM) (v1 : Int32) : Option (Int32 × zM) :=
  some (v1 + 1, M)
def fX6_launch (M : zM) (v1 : Int32) (v2 : Int32) (v3 : Int32) (v4 : Int32) (v5 : Int32) : Option (Int32 × zM) :=
  zC (fX6_isWithin M v1 0 63) fun r22 M21 =>
  if r22 = 0 then
    some ((-2), M21)
  else
    zC (fX6_isWithin M21 v2 0 63) fun r24 M23 =>
    if r24 = 0 then
      some ((-2), M23)
    else
      zC (fX6_isWithin M23 v3 1 47) fun r26 M25 =>
      if r26 = 0 then
        some ((-2), M25)
      else
        zC (fX6_isWithin M25 v4 0 5) fun r28 M27 =>
        if r28 = 0 then
          some ((-2), M27)
        else
          zC (fX6_isWithin M27 v5 10 200) fun r30 M29 =>
          if r30 = 0 then
            some ((-2), M29)
          else
            if (M29 1 0 0) < 6 then
              zC (fX0_record M29 0) fun _ M31 =>
              zC (fX2_addKite M31 0 v1 v2 v3 v4 v5) fun r33 M32 =>
              some (r33, M32)
            else
              some ((-4), M29)
def fX6_errorOfOrder (M : zM) (v1 : Int32) (v2 : Int32) (v3 : Int32) : Option (Int32 × zM) :=
  zC (fX2_has M 0 v1) fun r22 M21 =>
  if r22 = 0 then
    some ((-1), M21)
  else
    zC (fX6_isWithin M21 v2 (-3) 3) fun r24 M23 =>
    if r24 = 0 then
      some ((-2), M23)
    else
      zC (fX6_isWithin M23 v3 (-3) 3) fun r26 M25 =>
      if r26 = 0 then
        some ((-2), M25)
      else
        zC (fX2_isFlying M25 0 v1) fun r28 M27 =>
        if r28 = 0 then
          some ((-5), M27)
        else
          some (0, M27)
def fX6_order (M : zM) (v1 : Int32) (v2 : Int32) (v3 : Int32) : Option (Int32 × zM) :=
  zC (fX6_errorOfOrder M v1 v2 v3) fun r22 M21 =>
  if r22 = 0 then
    zC (fX0_record M21 0) fun _ M23 =>
    zC (fX2_turn M23 0 v1 v2 v3) fun r25 M24 =>
    some (r25, M24)
  else
    some (r22, M21)
def fX6_step (M : zM) (v1 : Int32) (v2 : Int32) : Option (Int32 × zM) :=
  zC (fX2_has M 0 v1) fun r22 M21 =>
  if r22 = 0 then
    some ((-1), M21)
  else
    zC (fX6_isWithin M21 v2 0 63) fun r24 M23 =>
    if r24 = 0 then
      some ((-2), M23)
    else
      zC (fX2_isFlying M23 0 v1) fun r26 M25 =>
      if r26 = 0 then
        some ((-5), M25)
      else
        zC (fX0_record M25 0) fun _ M27 =>
        zI v1 6 <|
        zL (M27 2 0 (zN v1)) fun v28 =>
        zI v1 6 <| zL (zw M27 2 0 (zN v1) v2) fun M29 =>
        some (v28, M29)
def fX6_land (M : zM) (v1 : Int32) : Option (Int32 × zM) :=
  zC (fX2_has M 0 v1) fun r22 M21 =>
  if r22 = 0 then
    some ((-1), M21)
  else
    zC (fX2_isFlying M21 0 v1) fun r24 M23 =>
    if r24 = 0 then
      some ((-5), M23)
    else
      zC (fX0_record M23 0) fun _ M25 =>
      zI v1 6 <| zL (zw M25 10 0 (zN v1) 2) fun M26 =>
      zC (fX2_mostWornPlace M26 0 v1) fun r28 M27 =>
      zC (fX2_wearAt M27 0 v1 r28) fun r30 M29 =>
      some (r30, M29)
def fX6_pass_L29 (k : zM → Int32 → Int32 → Option (Int32 × zM))  (a1 : Int32) : Nat → zM → Int32 → Int32 → Option (Int32 × zM)
  | 0 => fun _ _ _ => none
  | n + 1 => fun M a2 a3 =>
    if a1 ≤ a3 then
      k M a2 a3
    else
      zC (fX4_happenIn M 0) fun _ M24 =>
      zL (a2 ||| (M24 20 0 1)) fun v25 =>
      zL (a3 + 1) fun v26 =>
      fX6_pass_L29 k a1 n M24 v25 v26
def fX6_pass (M : zM) (v1 : Int32) : Option (Int32 × zM) :=
  zC (fX6_isWithin M v1 1 200) fun r22 M21 =>
  if r22 = 0 then
    some ((-2), M21)
  else
    zC (fX0_record M21 0) fun _ M23 =>
    fX6_pass_L29 (fun M27 v28 v29 => 
      some (v28, M27)) v1 2000 M23 0 0
def fX6_round (M : zM) : Option (Int32 × zM) :=
  zC (fX0_record M 0) fun _ M21 =>
  zC (fX2_beginAnew M21 0) fun _ M22 =>
  some (M22 1 0 2, M22)
def fX6_giveOrdersOfPad_L6 (k : zM → Int32 → Int32 → Int32 → Option (Int32 × zM))  : Nat → zM → Int32 → Int32 → Int32 → Option (Int32 × zM)
  | 0 => fun _ _ _ _ => none
  | n + 1 => fun M a1 a2 a3 =>
    if 60 ≤ a3 then
      k M a1 a2 a3
    else
      if (M 24 0 1) ≤ a2 then
        k M a1 a2 a3
      else
        zC (fX1_afterKite M a2) fun r22 M21 =>
        zC (fX1_afterStep M21 r22) fun r24 M23 =>
        zC (fX1_digitAt M23 a2) fun r26 M25 =>
        zC (fX1_stepAt M25 r22) fun r28 M27 =>
        zC (fX1_stepAt M27 r24) fun r30 M29 =>
        zC (fX6_errorOfOrder M29 r26 r28 r30) fun r32 M31 =>
        if r32 = 0 then
          zC (fX2_turn M31 0 r26 r28 r30) fun r34 M33 =>
          zL (a1 + 1) fun v35 =>
          zC (fX1_afterStep M33 r24) fun r37 M36 =>
          zC (fX1_afterSemicolon M36 r37) fun r39 M38 =>
          zL (a3 + 1) fun v40 =>
          fX6_giveOrdersOfPad_L6 k n M38 v35 r39 v40
        else
          some (a1, M31)
def fX6_giveOrdersOfPad (M : zM) : Option (Int32 × zM) :=
  fX6_giveOrdersOfPad_L6 (fun M41 v42 v43 v44 => 
    some (v42, M41))  2000 M 0 0 0
def fX6_carryOut (M : zM) : Option (Int32 × zM) :=
  zC (fX1_firstFault M) fun r22 M21 =>
  if r22 = (-6) then
    zC (fX0_record M21 0) fun _ M23 =>
    zC (fX6_giveOrdersOfPad M23) fun r25 M24 =>
    zC (fX1_clear M24) fun _ M26 =>
    some (r25, M26)
  else
    some ((-3), M21)
def fX6_aboutKite (M : zM) (v1 : Int32) (v2 : Int32) : Option (Int32 × zM) :=
  if v2 = 0 then
    zI v1 6 <|
    some (M 2 0 (zN v1), M)
  else
  if v2 = 1 then
    zI v1 6 <|
    some (M 3 0 (zN v1), M)
  else
  if v2 = 2 then
    zI v1 6 <|
    some (M 4 0 (zN v1), M)
  else
  if v2 = 3 then
    zI v1 6 <|
    some ((M 5 0 (zN v1)) + 10, M)
  else
  if v2 = 4 then
    zI v1 6 <|
    some ((M 6 0 (zN v1)) + 10, M)
  else
  if v2 = 5 then
    zI v1 6 <|
    some (M 7 0 (zN v1), M)
  else
  if v2 = 6 then
    zI v1 6 <|
    some (M 8 0 (zN v1), M)
  else
  if v2 = 7 then
    zI v1 6 <|
    some (M 9 0 (zN v1), M)
  else
  zI v1 6 <|
  some (M 10 0 (zN v1), M)
def fX6_aboutString (M : zM) (v1 : Int32) (v2 : Int32) : Option (Int32 × zM) :=
  zC (fX2_isFlying M 0 v1) fun r22 M21 =>
  if r22 = 0 then
    some (0, M21)
  else
    zC (fX2_mostWornPlace M21 0 v1) fun r24 M23 =>
    if v2 = 9 then
      zC (fX2_wearAt M23 0 v1 r24) fun r26 M25 =>
      some (r26, M25)
    else
    if v2 = 10 then
      some (r24, M23)
    else
    zC (fX5_measure M23 0 0) fun _ M27 =>
    zC (fX5_crossersOf M27 0 v1) fun r29 M28 =>
    some (r29, M28)
def fX6_kite (M : zM) (v1 : Int32) (v2 : Int32) : Option (Int32 × zM) :=
  zC (fX2_has M 0 v1) fun r22 M21 =>
  if r22 = 0 then
    some ((-1), M21)
  else
    zC (fX6_isWithin M21 v2 0 11) fun r24 M23 =>
    if r24 = 0 then
      some ((-2), M23)
    else
      if 9 ≤ v2 then
        zC (fX6_aboutString M23 v1 v2) fun r26 M25 =>
        some (r26, M25)
      else
        zC (fX6_aboutKite M23 v1 v2) fun r28 M27 =>
        some (r28, M27)
def fX6_wear (M : zM) (v1 : Int32) (v2 : Int32) : Option (Int32 × zM) :=
  zC (fX2_has M 0 v1) fun r22 M21 =>
  if r22 = 0 then
    some ((-1), M21)
  else
    zC (fX6_isWithin M21 v2 0 31) fun r24 M23 =>
    if r24 = 0 then
      some ((-1), M23)
    else
      zC (fX2_isFlying M23 0 v1) fun r26 M25 =>
      if r26 = 0 then
        some ((-5), M25)
      else
        zC (fX2_wearAt M25 0 v1 v2) fun r28 M27 =>
        some (r28, M27)
def fX6_aboutCrossing (M : zM) (v1 : Int32) (v2 : Int32) (v3 : Int32) : Option (Int32 × zM) :=
  zC (fX5_cross M 0 v1 v2) fun r22 M21 =>
  if v3 = 0 then
    if r22 = 0 then
      some (0, M21)
    else
      some (1, M21)
  else
  if v3 = 1 then
    zC (fX5_placeOn M21 0 v1 v2) fun r24 M23 =>
    some (r24, M23)
  else
  if v3 = 2 then
    zC (fX5_placeOn M21 0 v2 v1) fun r26 M25 =>
    some (r26, M25)
  else
  if v3 = 3 then
    if r22 = 0 then
      some ((-6), M21)
    else
      zC (fX5_isSteep M21 0 v1 v2) fun r28 M27 =>
      if r28 = 0 then
        some (0, M27)
      else
        some (1, M27)
  else
  if v3 = 4 then
    zC (fX2_sliding M21 0 v1 v2) fun r30 M29 =>
    some (r30, M29)
  else
  if r22 = 0 then
    some (0, M21)
  else
    zC (fX5_isSteep M21 0 v1 v2) fun r32 M31 =>
    zC (fX2_rubbing M31 0 v1 v2 r32) fun r34 M33 =>
    some (r34, M33)
def fX6_crossing (M : zM) (v1 : Int32) (v2 : Int32) (v3 : Int32) : Option (Int32 × zM) :=
  zC (fX2_has M 0 v1) fun r22 M21 =>
  if r22 = 0 then
    some ((-1), M21)
  else
    zC (fX2_has M21 0 v2) fun r24 M23 =>
    if r24 = 0 then
      some ((-1), M23)
    else
      if v1 = v2 then
        some ((-2), M23)
      else
        zC (fX6_isWithin M23 v3 0 5) fun r26 M25 =>
        if r26 = 0 then
          some ((-2), M25)
        else
          zC (fX2_isFlying M25 0 v1) fun r28 M27 =>
          if r28 = 0 then
            some ((-5), M27)
          else
            zC (fX2_isFlying M27 0 v2) fun r30 M29 =>
            if r30 = 0 then
              some ((-5), M29)
            else
              zC (fX5_measure M29 0 0) fun _ M31 =>
              zC (fX6_aboutCrossing M31 v1 v2 v3) fun r33 M32 =>
              some (r33, M32)
def fX6_count (M : zM) (v1 : Int32) : Option (Int32 × zM) :=
  if v1 = 0 then
    some (M 1 0 0, M)
  else
  if v1 = 1 then
    zC (fX2_flyingKites M 0) fun r22 M21 =>
    some (r22, M21)
  else
  if v1 = 2 then
    zC (fX5_measure M 0 0) fun _ M23 =>
    zC (fX5_crossings M23 0) fun r25 M24 =>
    some (r25, M24)
  else
  if v1 = 3 then
    some (M 1 0 1, M)
  else
  if v1 = 4 then
    some (M 1 0 2, M)
  else
  if v1 = 5 then
    zC (fX2_leader M 0) fun r27 M26 =>
    some (r27, M26)
  else
  if v1 = 6 then
    zC (fX2_allPoints M 0) fun r29 M28 =>
    some (r29, M28)
  else
  if v1 = 7 then
    some (M 1 0 3, M)
  else
  if v1 = 8 then
    some (M 24 0 1, M)
  else
  if v1 = 9 then
    some (M 21 0 2, M)
  else
  some ((-2), M)
def fX6_ifPassed_L39 (k : zM → Int32 → Int32 → Option (Int32 × zM))  (a1 : Int32) (a2 : Int32) : Nat → zM → Int32 → Int32 → Option (Int32 × zM)
  | 0 => fun _ _ _ => none
  | n + 1 => fun M a3 a4 =>
    if a1 ≤ a4 then
      k M a3 a4
    else
      zC (fX4_happenIn M 1) fun _ M26 =>
      zL (a3 ||| (M26 20 0 1)) fun v27 =>
      zL (a4 + 1) fun v28 =>
      fX6_ifPassed_L39 k a1 a2 n M26 v27 v28
def fX6_ifPassed (M : zM) (v1 : Int32) (v2 : Int32) : Option (Int32 × zM) :=
  zC (fX6_isWithin M v1 1 200) fun r22 M21 =>
  if r22 = 0 then
    some ((-2), M21)
  else
    zC (fX6_isWithin M21 v2 0 2) fun r24 M23 =>
    if r24 = 0 then
      some ((-2), M23)
    else
      zC (fX2_copyFrom M23 1 0) fun _ M25 =>
      fX6_ifPassed_L39 (fun M29 v30 v31 => 
        if v2 = 0 then
          some (v30, M29)
        else
        if v2 = 1 then
          zC (fX2_allPoints M29 1) fun r33 M32 =>
          zC (fX2_allPoints M32 0) fun r35 M34 =>
          some (r33 - r35, M34)
        else
        zC (fX5_measure M29 0 1) fun _ M36 =>
        zC (fX5_crossings M36 0) fun r38 M37 =>
        some (r38, M37)) v1 v2 2000 M25 0 0
def fX6_lowestOf_L2 (k : zM → Int32 → Option (Int32 × zM))  (a0 : Int32) : Nat → zM → Int32 → Option (Int32 × zM)
  | 0 => fun _ _ => none
  | n + 1 => fun M a1 =>
    if 6 ≤ a1 then
      k M a1
    else
      if ((a0 >>> (a1 &&& 31)) &&& 1) = 1 then
        some (a1, M)
      else
        zL (a1 + 1) fun v21 =>
        fX6_lowestOf_L2 k a0 n M v21
def fX6_lowestOf (M : zM) (v0 : Int32) : Option (Int32 × zM) :=
  fX6_lowestOf_L2 (fun M22 v23 => 
    some ((-6), M22)) v0 2000 M 0
def fX6_aboutCut (M : zM) (v1 : Int32) (v2 : Int32) : Option (Int32 × zM) :=
  if v2 = 0 then
    some (v1, M)
  else
  if v2 = 1 then
    zC (fX6_lowestOf M (M 20 0 1)) fun r22 M21 =>
    some (r22, M21)
  else
  some (M 20 0 2, M)
def fX6_firstCut_L25 (k : zM → Int32 → Option (Int32 × zM))  (a1 : Int32) : Nat → zM → Int32 → Option (Int32 × zM)
  | 0 => fun _ _ => none
  | n + 1 => fun M a2 =>
    if 300 < a2 then
      k M a2
    else
      zC (fX4_happenIn M 1) fun _ M24 =>
      if (M24 20 0 1) = 0 then
        zL (a2 + 1) fun v25 =>
        fX6_firstCut_L25 k a1 n M24 v25
      else
        zC (fX6_aboutCut M24 a2 a1) fun r27 M26 =>
        some (r27, M26)
def fX6_firstCut (M : zM) (v1 : Int32) : Option (Int32 × zM) :=
  zC (fX6_isWithin M v1 0 2) fun r22 M21 =>
  if r22 = 0 then
    some ((-2), M21)
  else
    zC (fX2_copyFrom M21 1 0) fun _ M23 =>
    fX6_firstCut_L25 (fun M28 v29 => 
      some ((-6), M28)) v1 2000 M23 1
def fX6_meets_L95 (k : zM → Int32 → Option (Int32 × zM))  (a1 : Int32) (a2 : Int32) : Nat → zM → Int32 → Option (Int32 × zM)
  | 0 => fun _ _ => none
  | n + 1 => fun M a3 =>
    if 300 < a3 then
      k M a3
    else
      zC (fX4_happenIn M 1) fun _ M33 =>
      zC (fX5_cross M33 1 a1 a2) fun r35 M34 =>
      if r35 = 0 then
        zL (a3 + 1) fun v36 =>
        fX6_meets_L95 k a1 a2 n M34 v36
      else
        some (a3, M34)
def fX6_meets (M : zM) (v1 : Int32) (v2 : Int32) : Option (Int32 × zM) :=
  zC (fX2_has M 0 v1) fun r22 M21 =>
  if r22 = 0 then
    some ((-1), M21)
  else
    zC (fX2_has M21 0 v2) fun r24 M23 =>
    if r24 = 0 then
      some ((-1), M23)
    else
      if v1 = v2 then
        some ((-2), M23)
      else
        zC (fX2_isFlying M23 0 v1) fun r26 M25 =>
        if r26 = 0 then
          some ((-5), M25)
        else
          zC (fX2_isFlying M25 0 v2) fun r28 M27 =>
          if r28 = 0 then
            some ((-5), M27)
          else
            zC (fX5_measure M27 0 0) fun _ M29 =>
            zC (fX5_cross M29 0 v1 v2) fun r31 M30 =>
            if r31 = 0 then
              zC (fX2_copyFrom M30 1 0) fun _ M32 =>
              fX6_meets_L95 (fun M37 v38 => 
                some ((-6), M37)) v1 v2 2000 M32 1
            else
              some (0, M30)
def fX6_gainWith_L25 (k : zM → Int32 → Option (Int32 × zM))  (a1 : Int32) (a2 : Int32) (a3 : Int32) (a4 : Int32) : Nat → zM → Int32 → Option (Int32 × zM)
  | 0 => fun _ _ => none
  | n + 1 => fun M a5 =>
    if a4 ≤ a5 then
      k M a5
    else
      zC (fX2_isFlying M 1 a1) fun r25 M24 =>
      if r25 = 0 then
        k M24 a5
      else
        zC (fX4_happenIn M24 1) fun _ M26 =>
        zL (a5 + 1) fun v27 =>
        fX6_gainWith_L25 k a1 a2 a3 a4 n M26 v27
def fX6_gainWith (M : zM) (v1 : Int32) (v2 : Int32) (v3 : Int32) (v4 : Int32) : Option (Int32 × zM) :=
  zC (fX2_copyFrom M 1 0) fun _ M21 =>
  zC (fX2_turn M21 1 v1 v2 v3) fun r23 M22 =>
  fX6_gainWith_L25 (fun M28 v29 => 
    zI v1 6 <|
    zI v1 6 <|
    zL ((M28 9 1 (zN v1)) - (M28 9 0 (zN v1))) fun v30 =>
    zC (fX2_isFlying M28 1 v1) fun r32 M31 =>
    if r32 = 0 then
      some (v30 - 2, M31)
    else
      some (v30, M31)) v1 v2 v3 v4 2000 M22 0
def fX6_bestOrder_L75 (k : zM → Int32 → Int32 → Int32 → Int32 → Option (Int32 × zM))  (a1 : Int32) (a2 : Int32) (a3 : Int32) (a7 : Int32) : Nat → zM → Int32 → Int32 → Int32 → Int32 → Option (Int32 × zM)
  | 0 => fun _ _ _ _ _ => none
  | n + 1 => fun M a4 a5 a6 a8 =>
    if 3 < a8 then
      k M a4 a5 a6 a8
    else
      zC (fX6_gainWith M a1 a7 a8 a2) fun r30 M29 =>
      if r30 ≤ a6 then
        zL (a8 + 1) fun v31 =>
        fX6_bestOrder_L75 k a1 a2 a3 a7 n M29 a4 a5 a6 v31
      else
        zL (a8 + 1) fun v32 =>
        fX6_bestOrder_L75 k a1 a2 a3 a7 n M29 a7 a8 r30 v32
def fX6_bestOrder_L65 (k : zM → Int32 → Int32 → Int32 → Int32 → Option (Int32 × zM))  (a1 : Int32) (a2 : Int32) (a3 : Int32) : Nat → zM → Int32 → Int32 → Int32 → Int32 → Option (Int32 × zM)
  | 0 => fun _ _ _ _ _ => none
  | n + 1 => fun M a4 a5 a6 a7 =>
    if 3 < a7 then
      k M a4 a5 a6 a7
    else
      fX6_bestOrder_L75 (fun M33 v34 v35 v36 v37 => 
        zL (a7 + 1) fun v38 =>
        fX6_bestOrder_L65 k a1 a2 a3 n M33 v34 v35 v36 v38) a1 a2 a3 a7 2000 M a4 a5 a6 (-3)
def fX6_bestOrder (M : zM) (v1 : Int32) (v2 : Int32) (v3 : Int32) : Option (Int32 × zM) :=
  zC (fX2_has M 0 v1) fun r22 M21 =>
  if r22 = 0 then
    some ((-1), M21)
  else
    zC (fX6_isWithin M21 v2 1 50) fun r24 M23 =>
    if r24 = 0 then
      some ((-2), M23)
    else
      zC (fX6_isWithin M23 v3 0 2) fun r26 M25 =>
      if r26 = 0 then
        some ((-2), M25)
      else
        zC (fX2_isFlying M25 0 v1) fun r28 M27 =>
        if r28 = 0 then
          some ((-5), M27)
        else
          fX6_bestOrder_L65 (fun M39 v40 v41 v42 v43 => 
            if v3 = 0 then
              some (v40 + 10, M39)
            else
            if v3 = 1 then
              some (v41 + 10, M39)
            else
            some (v42 + 10, M39)) v1 v2 v3 2000 M27 (-3) (-3) (-3) (-3)
def fX6_signAt (M : zM) (v0 : Int64) (v2 : Int32) : Option (Int32 × zM) :=
  some ((((v0.toUInt64 >>> ((8 * v2).toInt64.toUInt64 &&& Int64.toUInt64 63)).toInt64) &&& 255).toInt32, M)
def fX6_signsIn_L2 (k : zM → Int32 → Option (Int32 × zM))  (a0 : Int64) : Nat → zM → Int32 → Option (Int32 × zM)
  | 0 => fun _ _ => none
  | n + 1 => fun M a2 =>
    if 8 ≤ a2 then
      k M a2
    else
      zC (fX6_signAt M a0 a2) fun r22 M21 =>
      if r22 = 0 then
        if (lg_cmp ((a0.toUInt64 >>> ((8 * a2).toInt64.toUInt64 &&& Int64.toUInt64 63)).toInt64) 0) = 0 then
          some (a2, M21)
        else
          some (0, M21)
      else
        zC (fX6_isWithin M21 r22 33 126) fun r24 M23 =>
        if r24 = 0 then
          some (0, M23)
        else
          zL (a2 + 1) fun v25 =>
          fX6_signsIn_L2 k a0 n M23 v25
def fX6_signsIn (M : zM) (v0 : Int64) : Option (Int32 × zM) :=
  fX6_signsIn_L2 (fun M26 v27 => 
    some (8, M26)) v0 2000 M 0
def fX6_put_L34 (k : zM → Int32 → Option (Int32 × zM))  (a1 : Int64) (a3 : Int32) : Nat → zM → Int32 → Option (Int32 × zM)
  | 0 => fun _ _ => none
  | n + 1 => fun M a4 =>
    if a4 < 0 then
      k M a4
    else
      zC (fX6_signAt M a1 a4) fun r25 M24 =>
      zC (fX1_append M24 r25) fun _ M26 =>
      zL (a4 + (-1)) fun v27 =>
      fX6_put_L34 k a1 a3 n M26 v27
def fX6_put (M : zM) (v1 : Int64) : Option (Int32 × zM) :=
  zC (fX6_signsIn M v1) fun r22 M21 =>
  if r22 = 0 then
    some ((-2), M21)
  else
    if ((M21 24 0 1) + r22) ≤ 60 then
      zL (r22 - 1) fun v23 =>
      fX6_put_L34 (fun M28 v29 => 
        some (M28 24 0 1, M28)) v1 r22 2000 M21 v23
    else
      some ((-4), M21)
def fX6_wipe (M : zM) : Option (Int32 × zM) :=
  zL (M 24 0 1) fun v21 =>
  zC (fX1_clear M) fun _ M22 =>
  some (v21, M22)
def fX6_fault (M : zM) : Option (Int32 × zM) :=
  zC (fX1_firstFault M) fun r22 M21 =>
  some (r22, M21)
def fX6_undo (M : zM) : Option (Int32 × zM) :=
  if (M 21 0 2) = 0 then
    some ((-5), M)
  else
    zC (fX0_takeBack M 0) fun _ M21 =>
    some (M21 21 0 2, M21)
def fX6_slotOf (M : zM) (v1 : Int32) : Option (Nat × zM) :=
  if v1 = 0 then
    some (0, M)
  else
    some (1, M)
def fX6_save (M : zM) (v1 : Int32) : Option (Int32 × zM) :=
  zC (fX6_isWithin M v1 0 1) fun r22 M21 =>
  if r22 = 0 then
    some ((-2), M21)
  else
    zC (fX6_slotOf M21 v1) fun q24 M23 =>
    zC (fX2_copyFrom M23 (8 + q24) 0) fun _ M26 =>
    zL (zw M26 23 q24 1 1) fun M27 =>
    some (M27 1 0 0, M27)
def fX6_restore (M : zM) (v1 : Int32) : Option (Int32 × zM) :=
  zC (fX6_isWithin M v1 0 1) fun r22 M21 =>
  if r22 = 0 then
    some ((-2), M21)
  else
    zC (fX6_slotOf M21 v1) fun q24 M23 =>
    if (M23 23 q24 1) = 0 then
      some ((-5), M23)
    else
      zC (fX0_record M23 0) fun _ M26 =>
      zC (fX2_copyFrom M26 0 (8 + q24)) fun _ M27 =>
      some (M27 1 0 0, M27)
def fX7_moves_L3 (k : zM → Int32 → Option (Unit × zM)) (kf0 : Nat) (nf0 : Nat) (kf2 : Nat) (nf2 : Nat) (a1 : Int32) (a3 : Int32) : Nat → zM → Int32 → Option (Unit × zM)
  | 0 => fun _ _ => none
  | n + 1 => fun M a4 =>
    if 268 ≤ a4 then
      k M a4
    else
      zI (a1 + a4) nf0 <|
      zI (a3 + a4) nf2 <| zL (zw M kf2 0 (zN (a3 + a4)) (M kf0 0 (zN (a1 + a4)))) fun M21 =>
      zL (a4 + 1) fun v22 =>
      fX7_moves_L3 k kf0 nf0 kf2 nf2 a1 a3 n M21 v22
def fX7_moves (M : zM) (kf0 : Nat) (nf0 : Nat) (v1 : Int32) (kf2 : Nat) (nf2 : Nat) (v3 : Int32) : Option (Unit × zM) :=
  fX7_moves_L3 (fun M23 v24 => 
    some ((), M23)) kf0 nf0 kf2 nf2 v1 v3 2000 M 0
def fX7_within (M : zM) (v0 : Int32) (v1 : Int32) (v2 : Int32) : Option (Int32 × zM) :=
  if v0 < v1 then
    some (0, M)
  else
    if v2 < v0 then
      some (0, M)
    else
      some (1, M)
def fX7_size (M : zM) (v0 : Int32) : Option (Int32 × zM) :=
  if 0 ≤ v0 then
    some (v0, M)
  else
    some (-v0, M)
def fX7_record_L11 (k : zM → Int32 → Option (Unit × zM))  : Nat → zM → Int32 → Option (Unit × zM)
  | 0 => fun _ _ => none
  | n + 1 => fun M a1 =>
    if 1340 ≤ a1 then
      k M a1
    else
      zI (a1 + 268) 1608 <|
      zI a1 1608 <| zL (zw M 29 0 (zN a1) (M 29 0 (zN (a1 + 268)))) fun M23 =>
      zL (a1 + 1) fun v24 =>
      fX7_record_L11 k n M23 v24
def fX7_record (M : zM) : Option (Unit × zM) :=
  if (M 26 0 3) = 6 then
    fX7_record_L11 (fun M25 v26 => 
      zL (zw M25 26 0 3 ((M25 26 0 3) - 1)) fun M27 =>
      zC (fX7_moves M27 27 268 0 29 1608 ((M27 26 0 3) * 268)) fun _ M28 =>
      zL (zw M28 26 0 3 ((M28 26 0 3) + 1)) fun M29 =>
      some ((), M29))  2000 M 0
  else
    zC (fX7_moves M 27 268 0 29 1608 ((M 26 0 3) * 268)) fun _ M21 =>
    zL (zw M21 26 0 3 ((M21 26 0 3) + 1)) fun M22 =>
    some ((), M22)
def fX7_isKite (M : zM) (v1 : Int32) : Option (Int32 × zM) :=
  zI 0 268 <|
  zC (fX7_within M v1 0 ((M 27 0 (zN 0)) - 1)) fun r22 M21 =>
  zB r22 (some (r22, M21))
def fX7_part (M : zM) (v1 : Int32) (v2 : Int32) : Option (Int32 × zM) :=
  zI ((4 + (44 * v1)) + v2) 268 <|
  some (M 27 0 (zN ((4 + (44 * v1)) + v2)), M)
def fX7_setPart (M : zM) (v1 : Int32) (v2 : Int32) (v3 : Int32) : Option (Unit × zM) :=
  zI ((4 + (44 * v1)) + v2) 268 <| zL (zw M 27 0 (zN ((4 + (44 * v1)) + v2)) v3) fun M21 =>
  some ((), M21)
def fX7_flies (M : zM) (v1 : Int32) : Option (Int32 × zM) :=
  zC (fX7_part M v1 8) fun r22 M21 =>
  if r22 = 0 then
    some (1, M21)
  else
    some (0, M21)
def fX7_greatestWear_L4 (k : zM → Int32 → Int32 → Option (Int32 × zM))  (a1 : Int32) : Nat → zM → Int32 → Int32 → Option (Int32 × zM)
  | 0 => fun _ _ _ => none
  | n + 1 => fun M a2 a3 =>
    if 32 ≤ a3 then
      k M a2 a3
    else
      zC (fX7_part M a1 (12 + a3)) fun r22 M21 =>
      if r22 ≤ a2 then
        zL (a3 + 1) fun v23 =>
        fX7_greatestWear_L4 k a1 n M21 a2 v23
      else
        zC (fX7_part M21 a1 (12 + a3)) fun r25 M24 =>
        zL (a3 + 1) fun v26 =>
        fX7_greatestWear_L4 k a1 n M24 r25 v26
def fX7_greatestWear (M : zM) (v1 : Int32) : Option (Int32 × zM) :=
  fX7_greatestWear_L4 (fun M27 v28 v29 => 
    some (v28, M27)) v1 2000 M 0 0
def fX7_placeOfGreatest_L12 (k : zM → Int32 → Int32 → Option (Int32 × zM))  (a1 : Int32) (a2 : Int32) : Nat → zM → Int32 → Int32 → Option (Int32 × zM)
  | 0 => fun _ _ _ => none
  | n + 1 => fun M a3 a4 =>
    if a4 < 0 then
      k M a3 a4
    else
      zC (fX7_part M a1 (12 + a4)) fun r24 M23 =>
      if r24 = a2 then
        zL (a4 + (-1)) fun v26 =>
        fX7_placeOfGreatest_L12 k a1 a2 n M23 a4 v26
      else
        zL (a4 + (-1)) fun v25 =>
        fX7_placeOfGreatest_L12 k a1 a2 n M23 a3 v25
def fX7_placeOfGreatest (M : zM) (v1 : Int32) : Option (Int32 × zM) :=
  zC (fX7_greatestWear M v1) fun r22 M21 =>
  fX7_placeOfGreatest_L12 (fun M27 v28 v29 => 
    some (v28, M27)) v1 r22 2000 M21 0 31
def fX7_sideOf (M : zM) (v1 : Int32) (v2 : Int32) (v3 : Int32) : Option (Int32 × zM) :=
  zC (fX7_part M v1 1) fun r22 M21 =>
  zC (fX7_part M21 v1 0) fun r24 M23 =>
  zC (fX7_part M23 v1 2) fun r26 M25 =>
  zC (fX7_part M25 v1 0) fun r28 M27 =>
  some (((r22 - r24) * v3) - (r26 * (v2 - r28)), M27)
def fX7_areApart (M : zM) (v0 : Int32) (v1 : Int32) : Option (Int32 × zM) :=
  if 0 ≤ v0 then
    if v0 ≤ 0 then
      some (0, M)
    else
      if 0 ≤ v1 then
        some (0, M)
      else
        some (1, M)
  else
    if 0 < v1 then
      some (1, M)
    else
      if v0 ≤ 0 then
        some (0, M)
      else
        if 0 ≤ v1 then
          some (0, M)
        else
          some (1, M)
def fX7_cross (M : zM) (v1 : Int32) (v2 : Int32) : Option (Int32 × zM) :=
  zC (fX7_part M v2 0) fun r22 M21 =>
  zC (fX7_sideOf M21 v1 r22 0) fun r24 M23 =>
  zC (fX7_part M23 v1 0) fun r26 M25 =>
  zC (fX7_sideOf M25 v2 r26 0) fun r28 M27 =>
  zC (fX7_part M27 v2 1) fun r30 M29 =>
  zC (fX7_part M29 v2 2) fun r32 M31 =>
  zC (fX7_sideOf M31 v1 r30 r32) fun r34 M33 =>
  zC (fX7_part M33 v1 1) fun r36 M35 =>
  zC (fX7_part M35 v1 2) fun r38 M37 =>
  zC (fX7_sideOf M37 v2 r36 r38) fun r40 M39 =>
  zC (fX7_flies M39 v1) fun r42 M41 =>
  if r42 = 0 then
    some (0, M41)
  else
    zC (fX7_flies M41 v2) fun r44 M43 =>
    if r44 = 0 then
      some (0, M43)
    else
      zC (fX7_areApart M43 r24 r34) fun r46 M45 =>
      if r46 = 0 then
        some (0, M45)
      else
        zC (fX7_areApart M45 r28 r40) fun r48 M47 =>
        if r48 = 0 then
          some (0, M47)
        else
          zC (fX7_part M47 v1 1) fun r50 M49 =>
          zC (fX7_part M49 v1 0) fun r52 M51 =>
          zL (r50 - r52) fun v53 =>
          zC (fX7_part M51 v2 1) fun r55 M54 =>
          zC (fX7_part M54 v2 0) fun r57 M56 =>
          zL (r55 - r57) fun v58 =>
          zC (fX7_part M56 v1 2) fun r60 M59 =>
          zC (fX7_part M59 v2 2) fun r62 M61 =>
          zC (fX7_size M61 r28) fun r64 M63 =>
          zC (fX7_size M63 r28) fun r66 M65 =>
          zC (fX7_size M65 r40) fun r68 M67 =>
          zV (r66 + r68) <|
          zL (zw M67 26 0 9 ((32 * r64) / (r66 + r68))) fun M69 =>
          zC (fX7_size M69 r24) fun r71 M70 =>
          zC (fX7_size M70 r24) fun r73 M72 =>
          zC (fX7_size M72 r34) fun r75 M74 =>
          zV (r73 + r75) <|
          zL (zw M74 26 0 10 ((32 * r71) / (r73 + r75))) fun M76 =>
          zC (fX7_size M76 ((v53 * r62) - (r60 * v58))) fun r78 M77 =>
          zC (fX7_size M77 ((v53 * v58) + (r60 * r62))) fun r80 M79 =>
          if r78 < r80 then
            zL (zw M79 26 0 11 0) fun M81 =>
            some (1, M81)
          else
            zL (zw M79 26 0 11 1) fun M82 =>
            some (1, M82)
def fX7_sliding (M : zM) (v1 : Int32) (v2 : Int32) : Option (Int32 × zM) :=
  zC (fX7_part M v1 3) fun r22 M21 =>
  zC (fX7_part M21 v2 3) fun r24 M23 =>
  zC (fX7_size M23 (r22 - r24)) fun r26 M25 =>
  zC (fX7_part M25 v1 4) fun r28 M27 =>
  zC (fX7_part M27 v2 4) fun r30 M29 =>
  zC (fX7_size M29 (r28 - r30)) fun r32 M31 =>
  some ((1 + r26) + r32, M31)
def fX7_more (M : zM) (v1 : Int32) (v2 : Int32) : Option (Int32 × zM) :=
  zC (fX7_part M v2 5) fun r22 M21 =>
  zC (fX7_sliding M21 v1 v2) fun r24 M23 =>
  if (M23 26 0 11) = 0 then
    some ((r22 * r24) * 1, M23)
  else
    some ((r22 * r24) * 2, M23)
def fX7_crossingsMany_L16 (k : zM → Int32 → Int32 → Option (Int32 × zM))  (a2 : Int32) : Nat → zM → Int32 → Int32 → Option (Int32 × zM)
  | 0 => fun _ _ _ => none
  | n + 1 => fun M a1 a3 =>
    if a2 ≤ a3 then
      k M a1 a3
    else
      zC (fX7_cross M a2 a3) fun r22 M21 =>
      if r22 = 0 then
        zL (a1 + 0) fun v23 =>
        zL (a3 + 1) fun v24 =>
        fX7_crossingsMany_L16 k a2 n M21 v23 v24
      else
        zL (a1 + 1) fun v25 =>
        zL (a3 + 1) fun v26 =>
        fX7_crossingsMany_L16 k a2 n M21 v25 v26
def fX7_crossingsMany_L4 (k : zM → Int32 → Int32 → Option (Int32 × zM))  : Nat → zM → Int32 → Int32 → Option (Int32 × zM)
  | 0 => fun _ _ _ => none
  | n + 1 => fun M a1 a2 =>
    zI 0 268 <|
    if (M 27 0 (zN 0)) ≤ a2 then
      k M a1 a2
    else
      fX7_crossingsMany_L16 (fun M27 v28 v29 => 
        zL (a2 + 1) fun v30 =>
        fX7_crossingsMany_L4 k n M27 v28 v30) a2 2000 M a1 0
def fX7_crossingsMany (M : zM) : Option (Int32 × zM) :=
  fX7_crossingsMany_L4 (fun M31 v32 v33 => 
    some (v32, M31))  2000 M 0 0
def fX7_crossingOnes_L4 (k : zM → Int32 → Int32 → Option (Int32 × zM))  (a1 : Int32) : Nat → zM → Int32 → Int32 → Option (Int32 × zM)
  | 0 => fun _ _ _ => none
  | n + 1 => fun M a2 a3 =>
    zI 0 268 <|
    if (M 27 0 (zN 0)) ≤ a3 then
      k M a2 a3
    else
      if a3 = a1 then
        zL (a2 ||| 0) fun v21 =>
        zL (a3 + 1) fun v22 =>
        fX7_crossingOnes_L4 k a1 n M v21 v22
      else
        zC (fX7_cross M a1 a3) fun r24 M23 =>
        if r24 = 0 then
          zL (a2 ||| 0) fun v25 =>
          zL (a3 + 1) fun v26 =>
          fX7_crossingOnes_L4 k a1 n M23 v25 v26
        else
          zL (a2 ||| (1 <<< (a3 &&& 31))) fun v27 =>
          zL (a3 + 1) fun v28 =>
          fX7_crossingOnes_L4 k a1 n M23 v27 v28
def fX7_crossingOnes (M : zM) (v1 : Int32) : Option (Int32 × zM) :=
  fX7_crossingOnes_L4 (fun M29 v30 v31 => 
    some (v30, M29)) v1 2000 M 0 0
def fX7_flyOn (M : zM) (v1 : Int32) : Option (Unit × zM) :=
  zC (fX7_part M v1 1) fun r22 M21 =>
  zC (fX7_part M21 v1 3) fun r24 M23 =>
  zL (r22 + r24) fun v25 =>
  zC (fX7_part M23 v1 2) fun r27 M26 =>
  zC (fX7_part M26 v1 4) fun r29 M28 =>
  zL (r27 + r29) fun v30 =>
  zC (fX7_within M28 v25 0 63) fun r32 M31 =>
  if r32 = 0 then
    zC (fX7_part M31 v1 3) fun r34 M33 =>
    zC (fX7_setPart M33 v1 3 (-r34)) fun _ M35 =>
    zC (fX7_within M35 v30 1 47) fun r37 M36 =>
    if r37 = 0 then
      zC (fX7_part M36 v1 4) fun r39 M38 =>
      zC (fX7_setPart M38 v1 4 (-r39)) fun _ M40 =>
      some ((), M40)
    else
      zC (fX7_setPart M36 v1 2 v30) fun _ M41 =>
      some ((), M41)
  else
    zC (fX7_setPart M31 v1 1 v25) fun _ M42 =>
    zC (fX7_within M42 v30 1 47) fun r44 M43 =>
    if r44 = 0 then
      zC (fX7_part M43 v1 4) fun r46 M45 =>
      zC (fX7_setPart M45 v1 4 (-r46)) fun _ M47 =>
      some ((), M47)
    else
      zC (fX7_setPart M43 v1 2 v30) fun _ M48 =>
      some ((), M48)
def fX7_wearOut_L14 (k : zM → Int32 → Option (Unit × zM))  (a1 : Int32) : Nat → zM → Int32 → Option (Unit × zM)
  | 0 => fun _ _ => none
  | n + 1 => fun M a2 =>
    zI 0 268 <|
    if (M 27 0 (zN 0)) ≤ a2 then
      k M a2
    else
      zI ((6 * a1) + a2) 36 <| zL (zw M 33 0 (zN ((6 * a1) + a2)) (-6)) fun M21 =>
      if a1 = a2 then
        zL (a2 + 1) fun v22 =>
        fX7_wearOut_L14 k a1 n M21 v22
      else
        zC (fX7_cross M21 a1 a2) fun r24 M23 =>
        if r24 = 0 then
          zL (a2 + 1) fun v25 =>
          fX7_wearOut_L14 k a1 n M23 v25
        else
          zI ((6 * a1) + a2) 36 <| zL (zw M23 33 0 (zN ((6 * a1) + a2)) (M23 26 0 9)) fun M26 =>
          zC (fX7_part M26 a1 (12 + (M26 26 0 9))) fun r28 M27 =>
          zC (fX7_more M27 a1 a2) fun r30 M29 =>
          zC (fX7_setPart M29 a1 (12 + (M26 26 0 9)) (r28 + r30)) fun _ M31 =>
          zL (a2 + 1) fun v32 =>
          fX7_wearOut_L14 k a1 n M31 v32
def fX7_wearOut_L2 (k : zM → Int32 → Option (Unit × zM))  : Nat → zM → Int32 → Option (Unit × zM)
  | 0 => fun _ _ => none
  | n + 1 => fun M a1 =>
    zI 0 268 <|
    if (M 27 0 (zN 0)) ≤ a1 then
      k M a1
    else
      fX7_wearOut_L14 (fun M33 v34 => 
        zL (a1 + 1) fun v35 =>
        fX7_wearOut_L2 k n M33 v35) a1 2000 M 0
def fX7_wearOut (M : zM) : Option (Unit × zM) :=
  fX7_wearOut_L2 (fun M36 v37 => 
    some ((), M36))  2000 M 0
def fX7_isWornAt (M : zM) (v1 : Int32) (v2 : Int32) : Option (Int32 × zM) :=
  zC (fX7_part M v1 (12 + v2)) fun r22 M21 =>
  zC (fX7_part M21 v1 6) fun r24 M23 =>
  if r22 < r24 then
    some (0, M23)
  else
    some (1, M23)
def fX7_cutThrough_L12 (k : zM → Int32 → Option (Unit × zM))  : Nat → zM → Int32 → Option (Unit × zM)
  | 0 => fun _ _ => none
  | n + 1 => fun M a1 =>
    zI 0 268 <|
    if (M 27 0 (zN 0)) ≤ a1 then
      k M a1
    else
      zC (fX7_flies M a1) fun r24 M23 =>
      if r24 = 0 then
        zL (zw M23 26 0 12 ((M 26 0 12) ||| 0)) fun M25 =>
        zL (a1 + 1) fun v26 =>
        fX7_cutThrough_L12 k n M25 v26
      else
        zC (fX7_greatestWear M23 a1) fun r28 M27 =>
        zC (fX7_part M27 a1 6) fun r30 M29 =>
        if r28 < r30 then
          zL (zw M29 26 0 12 ((M 26 0 12) ||| 0)) fun M31 =>
          zL (a1 + 1) fun v32 =>
          fX7_cutThrough_L12 k n M31 v32
        else
          zL (zw M29 26 0 12 ((M 26 0 12) ||| (1 <<< (a1 &&& 31)))) fun M33 =>
          zL (a1 + 1) fun v34 =>
          fX7_cutThrough_L12 k n M33 v34
def fX7_cutThrough_L81 (k : zM → Int32 → Option (Unit × zM))  (a1 : Int32) : Nat → zM → Int32 → Option (Unit × zM)
  | 0 => fun _ _ => none
  | n + 1 => fun M a2 =>
    zI 0 268 <|
    if (M 27 0 (zN 0)) ≤ a2 then
      k M a2
    else
      zI ((6 * a2) + a1) 36 <|
      zL (M 33 0 (zN ((6 * a2) + a1))) fun v37 =>
      if v37 = (-6) then
        zL (a2 + 1) fun v38 =>
        fX7_cutThrough_L81 k a1 n M v38
      else
        if (((M 26 0 12) >>> (a2 &&& 31)) &&& 1) = 1 then
          zC (fX7_isWornAt M a2 v37) fun r41 M40 =>
          if r41 = 0 then
            zL (a2 + 1) fun v42 =>
            fX7_cutThrough_L81 k a1 n M40 v42
          else
            zC (fX7_part M40 a1 7) fun r44 M43 =>
            zC (fX7_setPart M43 a1 7 (r44 + 1)) fun _ M45 =>
            zL (zw M45 26 0 13 ((M45 26 0 13) ||| (1 <<< (a1 &&& 31)))) fun M46 =>
            zL (a2 + 1) fun v47 =>
            fX7_cutThrough_L81 k a1 n M46 v47
        else
          zL (a2 + 1) fun v39 =>
          fX7_cutThrough_L81 k a1 n M v39
def fX7_cutThrough_L69 (k : zM → Int32 → Option (Unit × zM))  : Nat → zM → Int32 → Option (Unit × zM)
  | 0 => fun _ _ => none
  | n + 1 => fun M a1 =>
    zI 0 268 <|
    if (M 27 0 (zN 0)) ≤ a1 then
      k M a1
    else
      fX7_cutThrough_L81 (fun M48 v49 => 
        zL (a1 + 1) fun v50 =>
        fX7_cutThrough_L69 k n M48 v50) a1 2000 M 0
def fX7_cutThrough_L172 (k : zM → Int32 → Option (Unit × zM))  : Nat → zM → Int32 → Option (Unit × zM)
  | 0 => fun _ _ => none
  | n + 1 => fun M a1 =>
    zI 0 268 <|
    if (M 27 0 (zN 0)) ≤ a1 then
      k M a1
    else
      if (((M 26 0 12) >>> (a1 &&& 31)) &&& 1) = 1 then
        zC (fX7_setPart M a1 8 1) fun _ M54 =>
        zI 3 268 <|
        zI 3 268 <| zL (zw M54 27 0 (zN 3) ((M54 27 0 (zN 3)) + 1)) fun M55 =>
        zL (a1 + 1) fun v56 =>
        fX7_cutThrough_L172 k n M55 v56
      else
        zL (a1 + 1) fun v53 =>
        fX7_cutThrough_L172 k n M v53
def fX7_cutThrough (M : zM) : Option (Unit × zM) :=
  zL (zw M 26 0 12 0) fun M21 =>
  zL (zw M21 26 0 13 0) fun M22 =>
  fX7_cutThrough_L12 (fun M35 v36 => 
    fX7_cutThrough_L69 (fun M51 v52 => 
      fX7_cutThrough_L172 (fun M57 v58 => 
        some ((), M57))  2000 M51 0)  2000 M35 0)  2000 M22 0
def fX7_tick_L2 (k : zM → Int32 → Option (Unit × zM))  : Nat → zM → Int32 → Option (Unit × zM)
  | 0 => fun _ _ => none
  | n + 1 => fun M a1 =>
    zI 0 268 <|
    if (M 27 0 (zN 0)) ≤ a1 then
      k M a1
    else
      zC (fX7_flies M a1) fun r22 M21 =>
      if r22 = 0 then
        zL (a1 + 1) fun v23 =>
        fX7_tick_L2 k n M21 v23
      else
        zC (fX7_flyOn M21 a1) fun _ M24 =>
        zL (a1 + 1) fun v25 =>
        fX7_tick_L2 k n M24 v25
def fX7_tick (M : zM) : Option (Unit × zM) :=
  fX7_tick_L2 (fun M26 v27 => 
    zC (fX7_wearOut M26) fun _ M28 =>
    zC (fX7_cutThrough M28) fun _ M29 =>
    zI 2 268 <|
    zI 2 268 <| zL (zw M29 27 0 (zN 2) ((M29 27 0 (zN 2)) + 1)) fun M30 =>
    some ((), M30))  2000 M 0
def fX7_passes_L4 (k : zM → Int32 → Int32 → Option (Int32 × zM))  (a1 : Int32) : Nat → zM → Int32 → Int32 → Option (Int32 × zM)
  | 0 => fun _ _ _ => none
  | n + 1 => fun M a2 a3 =>
    if a1 ≤ a3 then
      k M a2 a3
    else
      zC (fX7_tick M) fun _ M21 =>
      zL (a2 ||| (M21 26 0 12)) fun v22 =>
      zL (a3 + 1) fun v23 =>
      fX7_passes_L4 k a1 n M21 v22 v23
def fX7_passes (M : zM) (v1 : Int32) : Option (Int32 × zM) :=
  fX7_passes_L4 (fun M24 v25 v26 => 
    some (v25, M24)) v1 2000 M 0 0
def fX7_launch_L85 (k : zM → Int32 → Option (Int32 × zM))  (a1 : Int32) (a2 : Int32) (a3 : Int32) (a4 : Int32) (a5 : Int32) (a6 : Int32) : Nat → zM → Int32 → Option (Int32 × zM)
  | 0 => fun _ _ => none
  | n + 1 => fun M a7 =>
    if 44 ≤ a7 then
      k M a7
    else
      zC (fX7_setPart M a6 a7 0) fun _ M33 =>
      zL (a7 + 1) fun v34 =>
      fX7_launch_L85 k a1 a2 a3 a4 a5 a6 n M33 v34
def fX7_launch (M : zM) (v1 : Int32) (v2 : Int32) (v3 : Int32) (v4 : Int32) (v5 : Int32) : Option (Int32 × zM) :=
  zC (fX7_within M v1 0 63) fun r22 M21 =>
  if r22 = 0 then
    some ((-2), M21)
  else
    zC (fX7_within M21 v2 0 63) fun r24 M23 =>
    if r24 = 0 then
      some ((-2), M23)
    else
      zC (fX7_within M23 v3 1 47) fun r26 M25 =>
      if r26 = 0 then
        some ((-2), M25)
      else
        zC (fX7_within M25 v4 0 5) fun r28 M27 =>
        if r28 = 0 then
          some ((-2), M27)
        else
          zC (fX7_within M27 v5 10 200) fun r30 M29 =>
          if r30 = 0 then
            some ((-2), M29)
          else
            zI 0 268 <|
            if (M29 27 0 (zN 0)) = 6 then
              some ((-4), M29)
            else
              zC (fX7_record M29) fun _ M31 =>
              zI 0 268 <|
              zL (M31 27 0 (zN 0)) fun v32 =>
              fX7_launch_L85 (fun M35 v36 => 
                zC (fX7_setPart M35 v32 0 v1) fun _ M37 =>
                zC (fX7_setPart M37 v32 1 v2) fun _ M38 =>
                zC (fX7_setPart M38 v32 2 v3) fun _ M39 =>
                zC (fX7_setPart M39 v32 5 v4) fun _ M40 =>
                zC (fX7_setPart M40 v32 6 v5) fun _ M41 =>
                zC (fX7_setPart M41 v32 9 v1) fun _ M42 =>
                zC (fX7_setPart M42 v32 10 v2) fun _ M43 =>
                zC (fX7_setPart M43 v32 11 v3) fun _ M44 =>
                zI 0 268 <|
                zI 0 268 <| zL (zw M44 27 0 (zN 0) ((M44 27 0 (zN 0)) + 1)) fun M45 =>
                some (v32, M45)) v1 v2 v3 v4 v5 v32 2000 M31 0
def fX7_isStep (M : zM) (v0 : Int32) : Option (Int32 × zM) :=
  zC (fX7_within M v0 (-3) 3) fun r22 M21 =>
  zB r22 (some (r22, M21))
def fX7_whyNotOrdered (M : zM) (v1 : Int32) (v2 : Int32) (v3 : Int32) : Option (Int32 × zM) :=
  zC (fX7_isKite M v1) fun r22 M21 =>
  if r22 = 0 then
    some ((-1), M21)
  else
    zC (fX7_isStep M21 v2) fun r24 M23 =>
    if r24 = 0 then
      some ((-2), M23)
    else
      zC (fX7_isStep M23 v3) fun r26 M25 =>
      if r26 = 0 then
        some ((-2), M25)
      else
        zC (fX7_flies M25 v1) fun r28 M27 =>
        if r28 = 0 then
          some ((-5), M27)
        else
          some (0, M27)
def fX7_orders (M : zM) (v1 : Int32) (v2 : Int32) (v3 : Int32) : Option (Int32 × zM) :=
  zC (fX7_part M v1 3) fun r22 M21 =>
  zC (fX7_size M21 (r22 - v2)) fun r24 M23 =>
  zC (fX7_part M23 v1 4) fun r26 M25 =>
  zC (fX7_size M25 (r26 - v3)) fun r28 M27 =>
  zL ((10 * r24) + r28) fun v29 =>
  zC (fX7_setPart M27 v1 3 v2) fun _ M30 =>
  zC (fX7_setPart M30 v1 4 v3) fun _ M31 =>
  some (v29, M31)
def fX7_order (M : zM) (v1 : Int32) (v2 : Int32) (v3 : Int32) : Option (Int32 × zM) :=
  zC (fX7_whyNotOrdered M v1 v2 v3) fun r22 M21 =>
  if 0 ≤ r22 then
    zC (fX7_record M21) fun _ M23 =>
    zC (fX7_orders M23 v1 v2 v3) fun r25 M24 =>
    some (r25, M24)
  else
    some (r22, M21)
def fX7_step (M : zM) (v1 : Int32) (v2 : Int32) : Option (Int32 × zM) :=
  zC (fX7_isKite M v1) fun r22 M21 =>
  if r22 = 0 then
    some ((-1), M21)
  else
    zC (fX7_within M21 v2 0 63) fun r24 M23 =>
    if r24 = 0 then
      some ((-2), M23)
    else
      zC (fX7_flies M23 v1) fun r26 M25 =>
      if r26 = 0 then
        some ((-5), M25)
      else
        zC (fX7_record M25) fun _ M27 =>
        zC (fX7_part M27 v1 0) fun r29 M28 =>
        zC (fX7_setPart M28 v1 0 v2) fun _ M30 =>
        some (r29, M30)
def fX7_land (M : zM) (v1 : Int32) : Option (Int32 × zM) :=
  zC (fX7_isKite M v1) fun r22 M21 =>
  if r22 = 0 then
    some ((-1), M21)
  else
    zC (fX7_flies M21 v1) fun r24 M23 =>
    if r24 = 0 then
      some ((-5), M23)
    else
      zC (fX7_record M23) fun _ M25 =>
      zC (fX7_setPart M25 v1 8 2) fun _ M26 =>
      zC (fX7_greatestWear M26 v1) fun r28 M27 =>
      some (r28, M27)
def fX7_pass (M : zM) (v1 : Int32) : Option (Int32 × zM) :=
  zC (fX7_within M v1 1 200) fun r22 M21 =>
  if r22 = 0 then
    some ((-2), M21)
  else
    zC (fX7_record M21) fun _ M23 =>
    zC (fX7_passes M23 v1) fun r25 M24 =>
    some (r25, M24)
def fX7_round_L79 (k : zM → Int32 → Option (Int32 × zM))  (a1 : Int32) : Nat → zM → Int32 → Option (Int32 × zM)
  | 0 => fun _ _ => none
  | n + 1 => fun M a2 =>
    if 32 ≤ a2 then
      k M a2
    else
      zC (fX7_setPart M a1 (12 + a2) 0) fun _ M34 =>
      zL (a2 + 1) fun v35 =>
      fX7_round_L79 k a1 n M34 v35
def fX7_round_L6 (k : zM → Int32 → Option (Int32 × zM))  : Nat → zM → Int32 → Option (Int32 × zM)
  | 0 => fun _ _ => none
  | n + 1 => fun M a1 =>
    zI 0 268 <|
    if (M 27 0 (zN 0)) ≤ a1 then
      k M a1
    else
      zC (fX7_part M a1 9) fun r23 M22 =>
      zC (fX7_setPart M22 a1 0 r23) fun _ M24 =>
      zC (fX7_part M24 a1 10) fun r26 M25 =>
      zC (fX7_setPart M25 a1 1 r26) fun _ M27 =>
      zC (fX7_part M27 a1 11) fun r29 M28 =>
      zC (fX7_setPart M28 a1 2 r29) fun _ M30 =>
      zC (fX7_setPart M30 a1 3 0) fun _ M31 =>
      zC (fX7_setPart M31 a1 4 0) fun _ M32 =>
      zC (fX7_setPart M32 a1 8 0) fun _ M33 =>
      fX7_round_L79 (fun M36 v37 => 
        zL (a1 + 1) fun v38 =>
        fX7_round_L6 k n M36 v38) a1 2000 M33 0
def fX7_round (M : zM) : Option (Int32 × zM) :=
  zC (fX7_record M) fun _ M21 =>
  fX7_round_L6 (fun M39 v40 => 
    zI 1 268 <|
    zI 1 268 <| zL (zw M39 27 0 (zN 1) ((M39 27 0 (zN 1)) + 1)) fun M41 =>
    zI 1 268 <|
    some (M41 27 0 (zN 1), M41))  2000 M21 0
def fX7_kite (M : zM) (v1 : Int32) (v2 : Int32) : Option (Int32 × zM) :=
  zC (fX7_isKite M v1) fun r22 M21 =>
  if r22 = 0 then
    some ((-1), M21)
  else
    if v2 = 0 then
      zC (fX7_part M21 v1 v2) fun r24 M23 =>
      some (r24, M23)
    else
    if v2 = 1 then
      zC (fX7_part M21 v1 v2) fun r26 M25 =>
      some (r26, M25)
    else
    if v2 = 2 then
      zC (fX7_part M21 v1 v2) fun r28 M27 =>
      some (r28, M27)
    else
    if v2 = 3 then
      zC (fX7_part M21 v1 v2) fun r30 M29 =>
      some (r30 + 10, M29)
    else
    if v2 = 4 then
      zC (fX7_part M21 v1 v2) fun r32 M31 =>
      some (r32 + 10, M31)
    else
    if v2 = 5 then
      zC (fX7_part M21 v1 v2) fun r34 M33 =>
      some (r34, M33)
    else
    if v2 = 6 then
      zC (fX7_part M21 v1 v2) fun r36 M35 =>
      some (r36, M35)
    else
    if v2 = 7 then
      zC (fX7_part M21 v1 v2) fun r38 M37 =>
      some (r38, M37)
    else
    if v2 = 8 then
      zC (fX7_part M21 v1 v2) fun r40 M39 =>
      some (r40, M39)
    else
    if v2 = 9 then
      zC (fX7_flies M21 v1) fun r42 M41 =>
      if r42 = 0 then
        some (0, M41)
      else
        zC (fX7_greatestWear M41 v1) fun r44 M43 =>
        some (r44, M43)
    else
    if v2 = 10 then
      zC (fX7_flies M21 v1) fun r46 M45 =>
      if r46 = 0 then
        some (0, M45)
      else
        zC (fX7_placeOfGreatest M45 v1) fun r48 M47 =>
        some (r48, M47)
    else
    if v2 = 11 then
      zC (fX7_flies M21 v1) fun r50 M49 =>
      if r50 = 0 then
        some (0, M49)
      else
        zC (fX7_crossingOnes M49 v1) fun r52 M51 =>
        some (r52, M51)
    else
    some ((-2), M21)
def fX7_wear (M : zM) (v1 : Int32) (v2 : Int32) : Option (Int32 × zM) :=
  zC (fX7_isKite M v1) fun r22 M21 =>
  if r22 = 0 then
    some ((-1), M21)
  else
    zC (fX7_within M21 v2 0 31) fun r24 M23 =>
    if r24 = 0 then
      some ((-1), M23)
    else
      zC (fX7_flies M23 v1) fun r26 M25 =>
      if r26 = 0 then
        some ((-5), M25)
      else
        zC (fX7_part M25 v1 (12 + v2)) fun r28 M27 =>
        some (r28, M27)
def fX7_crossing (M : zM) (v1 : Int32) (v2 : Int32) (v3 : Int32) : Option (Int32 × zM) :=
  zC (fX7_isKite M v1) fun r22 M21 =>
  if r22 = 0 then
    some ((-1), M21)
  else
    zC (fX7_isKite M21 v2) fun r24 M23 =>
    if r24 = 0 then
      some ((-1), M23)
    else
      if v1 = v2 then
        some ((-2), M23)
      else
        zC (fX7_within M23 v3 0 5) fun r26 M25 =>
        if r26 = 0 then
          some ((-2), M25)
        else
          zC (fX7_flies M25 v1) fun r28 M27 =>
          if r28 = 0 then
            some ((-5), M27)
          else
            zC (fX7_flies M27 v2) fun r30 M29 =>
            if r30 = 0 then
              some ((-5), M29)
            else
              zC (fX7_cross M29 v1 v2) fun r32 M31 =>
              if v3 = 0 then
                if r32 = 0 then
                  some (0, M31)
                else
                  some (1, M31)
              else
              if v3 = 1 then
                if r32 = 0 then
                  some ((-6), M31)
                else
                  some (M31 26 0 9, M31)
              else
              if v3 = 2 then
                if r32 = 0 then
                  some ((-6), M31)
                else
                  some (M31 26 0 10, M31)
              else
              if v3 = 3 then
                if r32 = 0 then
                  some ((-6), M31)
                else
                  if (M31 26 0 11) = 0 then
                    some (0, M31)
                  else
                    some (1, M31)
              else
              if v3 = 4 then
                zC (fX7_sliding M31 v1 v2) fun r34 M33 =>
                some (r34, M33)
              else
              if r32 = 0 then
                some (0, M31)
              else
                zC (fX7_more M31 v1 v2) fun r36 M35 =>
                some (r36, M35)
def fX7_inTheAir_L4 (k : zM → Int32 → Int32 → Option (Int32 × zM))  : Nat → zM → Int32 → Int32 → Option (Int32 × zM)
  | 0 => fun _ _ _ => none
  | n + 1 => fun M a1 a2 =>
    zI 0 268 <|
    if (M 27 0 (zN 0)) ≤ a2 then
      k M a1 a2
    else
      zC (fX7_flies M a2) fun r22 M21 =>
      if r22 = 0 then
        zL (a1 ||| 0) fun v23 =>
        zL (a2 + 1) fun v24 =>
        fX7_inTheAir_L4 k n M21 v23 v24
      else
        zL (a1 ||| (1 <<< (a2 &&& 31))) fun v25 =>
        zL (a2 + 1) fun v26 =>
        fX7_inTheAir_L4 k n M21 v25 v26
def fX7_inTheAir (M : zM) : Option (Int32 × zM) :=
  fX7_inTheAir_L4 (fun M27 v28 v29 => 
    some (v28, M27))  2000 M 0 0
def fX7_leader_L5 (k : zM → Int32 → Int32 → Option (Int32 × zM))  : Nat → zM → Int32 → Int32 → Option (Int32 × zM)
  | 0 => fun _ _ _ => none
  | n + 1 => fun M a1 a2 =>
    zI 0 268 <|
    if (M 27 0 (zN 0)) ≤ a2 then
      k M a1 a2
    else
      if a1 = (-6) then
        zL (a2 + 1) fun v21 =>
        fX7_leader_L5 k n M a2 v21
      else
        zC (fX7_part M a2 7) fun r23 M22 =>
        zC (fX7_part M22 a1 7) fun r25 M24 =>
        if r23 ≤ r25 then
          zL (a2 + 1) fun v26 =>
          fX7_leader_L5 k n M24 a1 v26
        else
          zL (a2 + 1) fun v27 =>
          fX7_leader_L5 k n M24 a2 v27
def fX7_leader (M : zM) : Option (Int32 × zM) :=
  fX7_leader_L5 (fun M28 v29 v30 => 
    some (v29, M28))  2000 M (-6) 0
def fX7_allPoints_L4 (k : zM → Int32 → Int32 → Option (Int32 × zM))  : Nat → zM → Int32 → Int32 → Option (Int32 × zM)
  | 0 => fun _ _ _ => none
  | n + 1 => fun M a1 a2 =>
    zI 0 268 <|
    if (M 27 0 (zN 0)) ≤ a2 then
      k M a1 a2
    else
      zC (fX7_part M a2 7) fun r22 M21 =>
      zL (a1 + r22) fun v23 =>
      zL (a2 + 1) fun v24 =>
      fX7_allPoints_L4 k n M21 v23 v24
def fX7_allPoints (M : zM) : Option (Int32 × zM) :=
  fX7_allPoints_L4 (fun M25 v26 v27 => 
    some (v26, M25))  2000 M 0 0
def fX7_count (M : zM) (v1 : Int32) : Option (Int32 × zM) :=
  if v1 = 0 then
    zI 0 268 <|
    some (M 27 0 (zN 0), M)
  else
  if v1 = 1 then
    zC (fX7_inTheAir M) fun r22 M21 =>
    some (r22, M21)
  else
  if v1 = 2 then
    zC (fX7_crossingsMany M) fun r24 M23 =>
    some (r24, M23)
  else
  if v1 = 3 then
    zI 2 268 <|
    some (M 27 0 (zN 2), M)
  else
  if v1 = 4 then
    zI 1 268 <|
    some (M 27 0 (zN 1), M)
  else
  if v1 = 5 then
    zC (fX7_leader M) fun r26 M25 =>
    some (r26, M25)
  else
  if v1 = 6 then
    zC (fX7_allPoints M) fun r28 M27 =>
    some (r28, M27)
  else
  if v1 = 7 then
    zI 3 268 <|
    some (M 27 0 (zN 3), M)
  else
  if v1 = 8 then
    some (M 26 0 7, M)
  else
  if v1 = 9 then
    some (M 26 0 3, M)
  else
  some ((-2), M)
def fX7_ifPassed (M : zM) (v1 : Int32) (v2 : Int32) : Option (Int32 × zM) :=
  zC (fX7_within M v1 1 200) fun r22 M21 =>
  if r22 = 0 then
    some ((-2), M21)
  else
    zC (fX7_within M21 v2 0 2) fun r24 M23 =>
    if r24 = 0 then
      some ((-2), M23)
    else
      zC (fX7_moves M23 27 268 0 28 268 0) fun _ M25 =>
      zC (fX7_allPoints M25) fun r27 M26 =>
      zC (fX7_passes M26 v1) fun r29 M28 =>
      if v2 = 0 then
        zC (fX7_moves M28 28 268 0 27 268 0) fun _ M37 =>
        some (r29, M37)
      else
        if v2 = 1 then
          zC (fX7_allPoints M28) fun r34 M33 =>
          zL (r34 - r27) fun v35 =>
          zC (fX7_moves M33 28 268 0 27 268 0) fun _ M36 =>
          some (v35, M36)
        else
          zC (fX7_crossingsMany M28) fun r31 M30 =>
          zC (fX7_moves M30 28 268 0 27 268 0) fun _ M32 =>
          some (r31, M32)
def fX7_lowest_L5 (k : zM → Int32 → Int32 → Option (Int32 × zM))  (a0 : Int32) : Nat → zM → Int32 → Int32 → Option (Int32 × zM)
  | 0 => fun _ _ _ => none
  | n + 1 => fun M a1 a2 =>
    if a2 < 0 then
      k M a1 a2
    else
      if ((a0 >>> (a2 &&& 31)) &&& 1) = 1 then
        zL (a2 + (-1)) fun v22 =>
        fX7_lowest_L5 k a0 n M a2 v22
      else
        zL (a2 + (-1)) fun v21 =>
        fX7_lowest_L5 k a0 n M a1 v21
def fX7_lowest (M : zM) (v0 : Int32) : Option (Int32 × zM) :=
  fX7_lowest_L5 (fun M23 v24 v25 => 
    some (v24, M23)) v0 2000 M (-6) 5
def fX7_firstCut_L32 (k : zM → Int32 → Option (Int32 × zM))  (a1 : Int32) : Nat → zM → Int32 → Option (Int32 × zM)
  | 0 => fun _ _ => none
  | n + 1 => fun M a2 =>
    if 300 ≤ a2 then
      k M a2
    else
      if (M 26 0 12) = 0 then
        zC (fX7_tick M) fun _ M25 =>
        zL (a2 + 1) fun v26 =>
        fX7_firstCut_L32 k a1 n M25 v26
      else
        k M a2
def fX7_firstCut (M : zM) (v1 : Int32) : Option (Int32 × zM) :=
  zC (fX7_within M v1 0 2) fun r22 M21 =>
  if r22 = 0 then
    some ((-2), M21)
  else
    zC (fX7_moves M21 27 268 0 28 268 0) fun _ M23 =>
    zL (zw M23 26 0 12 0) fun M24 =>
    fX7_firstCut_L32 (fun M27 v28 => 
      zC (fX7_moves M27 28 268 0 27 268 0) fun _ M29 =>
      if (M29 26 0 12) = 0 then
        some ((-6), M29)
      else
        if v1 = 0 then
          some (v28, M29)
        else
          if v1 = 1 then
            zC (fX7_lowest M29 (M29 26 0 12)) fun r31 M30 =>
            some (r31, M30)
          else
            some (M29 26 0 13, M29)) v1 2000 M24 0
def fX7_meets_L74 (k : zM → Int32 → Int32 → Option (Int32 × zM))  (a1 : Int32) (a2 : Int32) : Nat → zM → Int32 → Int32 → Option (Int32 × zM)
  | 0 => fun _ _ _ => none
  | n + 1 => fun M a3 a4 =>
    if 300 ≤ a3 then
      k M a3 a4
    else
      if a4 = 0 then
        zC (fX7_tick M) fun _ M32 =>
        zL (a3 + 1) fun v33 =>
        zI ((6 * a1) + a2) 36 <|
        if (M32 33 0 (zN ((6 * a1) + a2))) = (-6) then
          fX7_meets_L74 k a1 a2 n M32 v33 0
        else
          fX7_meets_L74 k a1 a2 n M32 v33 1
      else
        k M a3 a4
def fX7_meets (M : zM) (v1 : Int32) (v2 : Int32) : Option (Int32 × zM) :=
  zC (fX7_isKite M v1) fun r22 M21 =>
  if r22 = 0 then
    some ((-1), M21)
  else
    zC (fX7_isKite M21 v2) fun r24 M23 =>
    if r24 = 0 then
      some ((-1), M23)
    else
      if v1 = v2 then
        some ((-2), M23)
      else
        zC (fX7_flies M23 v1) fun r26 M25 =>
        if r26 = 0 then
          some ((-5), M25)
        else
          zC (fX7_flies M25 v2) fun r28 M27 =>
          if r28 = 0 then
            some ((-5), M27)
          else
            zC (fX7_cross M27 v1 v2) fun r30 M29 =>
            if r30 = 0 then
              zC (fX7_moves M29 27 268 0 28 268 0) fun _ M31 =>
              fX7_meets_L74 (fun M34 v35 v36 => 
                zC (fX7_moves M34 28 268 0 27 268 0) fun _ M37 =>
                if v36 = 0 then
                  some ((-6), M37)
                else
                  some (v35, M37)) v1 v2 2000 M31 0 0
            else
              some (0, M29)
def fX7_getsWith (M : zM) (v1 : Int32) (v2 : Int32) (v3 : Int32) (v4 : Int32) : Option (Int32 × zM) :=
  zC (fX7_moves M 27 268 0 28 268 0) fun _ M21 =>
  zC (fX7_orders M21 v1 v2 v3) fun r23 M22 =>
  zC (fX7_passes M22 v4) fun r25 M24 =>
  zC (fX7_part M24 v1 7) fun r27 M26 =>
  if ((r25 >>> (v1 &&& 31)) &&& 1) = 1 then
    zL (r27 - 2) fun v32 =>
    zC (fX7_moves M26 28 268 0 27 268 0) fun _ M33 =>
    zC (fX7_part M33 v1 7) fun r35 M34 =>
    some (v32 - r35, M34)
  else
    zL (r27 - 0) fun v28 =>
    zC (fX7_moves M26 28 268 0 27 268 0) fun _ M29 =>
    zC (fX7_part M29 v1 7) fun r31 M30 =>
    some (v28 - r31, M30)
def fX7_bestOrder_L68 (k : zM → Int32 → Int32 → Int32 → Int32 → Option (Int32 × zM))  (a1 : Int32) (a2 : Int32) (a3 : Int32) (a7 : Int32) : Nat → zM → Int32 → Int32 → Int32 → Int32 → Option (Int32 × zM)
  | 0 => fun _ _ _ _ _ => none
  | n + 1 => fun M a4 a5 a6 a8 =>
    if 3 < a8 then
      k M a4 a5 a6 a8
    else
      zC (fX7_getsWith M a1 a7 a8 a2) fun r30 M29 =>
      if a4 = (-6) then
        zL (a8 + 1) fun v31 =>
        fX7_bestOrder_L68 k a1 a2 a3 a7 n M29 a7 a8 r30 v31
      else
        if r30 ≤ a6 then
          zL (a8 + 1) fun v32 =>
          fX7_bestOrder_L68 k a1 a2 a3 a7 n M29 a4 a5 a6 v32
        else
          zL (a8 + 1) fun v33 =>
          fX7_bestOrder_L68 k a1 a2 a3 a7 n M29 a7 a8 r30 v33
def fX7_bestOrder_L58 (k : zM → Int32 → Int32 → Int32 → Int32 → Option (Int32 × zM))  (a1 : Int32) (a2 : Int32) (a3 : Int32) : Nat → zM → Int32 → Int32 → Int32 → Int32 → Option (Int32 × zM)
  | 0 => fun _ _ _ _ _ => none
  | n + 1 => fun M a4 a5 a6 a7 =>
    if 3 < a7 then
      k M a4 a5 a6 a7
    else
      fX7_bestOrder_L68 (fun M34 v35 v36 v37 v38 => 
        zL (a7 + 1) fun v39 =>
        fX7_bestOrder_L58 k a1 a2 a3 n M34 v35 v36 v37 v39) a1 a2 a3 a7 2000 M a4 a5 a6 (-3)
def fX7_bestOrder (M : zM) (v1 : Int32) (v2 : Int32) (v3 : Int32) : Option (Int32 × zM) :=
  zC (fX7_isKite M v1) fun r22 M21 =>
  if r22 = 0 then
    some ((-1), M21)
  else
    zC (fX7_within M21 v2 1 50) fun r24 M23 =>
    if r24 = 0 then
      some ((-2), M23)
    else
      zC (fX7_within M23 v3 0 2) fun r26 M25 =>
      if r26 = 0 then
        some ((-2), M25)
      else
        zC (fX7_flies M25 v1) fun r28 M27 =>
        if r28 = 0 then
          some ((-5), M27)
        else
          fX7_bestOrder_L58 (fun M40 v41 v42 v43 v44 => 
            if v3 = 0 then
              some (v41 + 10, M40)
            else
              if v3 = 1 then
                some (v42 + 10, M40)
              else
                some (v43 + 10, M40)) v1 v2 v3 2000 M27 (-6) (-6) 0 (-3)
def fX7_put_L8 (k : zM → Int32 → Int64 → Int32 → Option (Int32 × zM))  (a1 : Int64) : Nat → zM → Int32 → Int64 → Int32 → Option (Int32 × zM)
  | 0 => fun _ _ _ _ => none
  | n + 1 => fun M a3 a4 a6 =>
    if 8 ≤ a3 then
      k M a3 a4 a6
    else
      if (lg_cmp (a4 &&& 255) 0) = 0 then
        k M a3 a4 a6
      else
        if a6 = 0 then
          zL ((a4.toUInt64 >>> ((8 : Int32).toInt64.toUInt64 &&& Int64.toUInt64 63)).toInt64) fun v21 =>
          zL (a3 + 1) fun v22 =>
          fX7_put_L8 k a1 n M v22 v21 0
        else
          zC (fX7_within M ((a4 &&& 255).toInt32) 33 126) fun r24 M23 =>
          if r24 = 0 then
            zL ((a4.toUInt64 >>> ((8 : Int32).toInt64.toUInt64 &&& Int64.toUInt64 63)).toInt64) fun v25 =>
            zL (a3 + 1) fun v26 =>
            fX7_put_L8 k a1 n M23 v26 v25 0
          else
            zL ((a4.toUInt64 >>> ((8 : Int32).toInt64.toUInt64 &&& Int64.toUInt64 63)).toInt64) fun v27 =>
            zL (a3 + 1) fun v28 =>
            fX7_put_L8 k a1 n M23 v28 v27 1
def fX7_put_L105 (k : zM → Int32 → Option (Int32 × zM))  (a1 : Int64) (a3 : Int32) (a4 : Int64) (a6 : Int32) : Nat → zM → Int32 → Option (Int32 × zM)
  | 0 => fun _ _ => none
  | n + 1 => fun M a7 =>
    if a7 < 0 then
      k M a7
    else
      zI (M 26 0 7) 60 <| zL (zw M 32 0 (zN (M 26 0 7)) ((((a1.toUInt64 >>> ((8 * a7).toInt64.toUInt64 &&& Int64.toUInt64 63)).toInt64) &&& 255).toInt32)) fun M34 =>
      zL (zw M34 26 0 7 ((M34 26 0 7) + 1)) fun M35 =>
      zL (a7 + (-1)) fun v36 =>
      fX7_put_L105 k a1 a3 a4 a6 n M35 v36
def fX7_put (M : zM) (v1 : Int64) : Option (Int32 × zM) :=
  fX7_put_L8 (fun M29 v30 v31 v32 => 
    if v30 = 0 then
      some ((-2), M29)
    else
      if v32 = 0 then
        some ((-2), M29)
      else
        if (lg_cmp v31 0) = 0 then
          if ((M29 26 0 7) + v30) ≤ 60 then
            zL (v30 - 1) fun v33 =>
            fX7_put_L105 (fun M37 v38 => 
              some (M37 26 0 7, M37)) v1 v30 v31 v32 2000 M29 v33
          else
            some ((-4), M29)
        else
          some ((-2), M29)) v1 2000 M 0 v1 1
def fX7_wipe (M : zM) : Option (Int32 × zM) :=
  zL (M 26 0 7) fun v21 =>
  zL (zw M 26 0 7 0) fun M22 =>
  some (v21, M22)
def fX7_character (M : zM) (v1 : Int32) : Option (Int32 × zM) :=
  if (M 26 0 7) ≤ v1 then
    some ((-1), M)
  else
    zI v1 60 <|
    some (M 32 0 (zN v1), M)
def fX7_isNext (M : zM) (v1 : Int32) : Option (Int32 × zM) :=
  zC (fX7_character M (M 26 0 14)) fun r22 M21 =>
  if r22 = v1 then
    zL (zw M21 26 0 14 ((M21 26 0 14) + 1)) fun M24 =>
    some (1, M24)
  else
    zL (zw M21 26 0 14 ((M21 26 0 14) + 0)) fun M23 =>
    some (0, M23)
def fX7_takeDigit (M : zM) (v1 : Int32) (v2 : Int32) : Option (Int32 × zM) :=
  zC (fX7_character M (M 26 0 14)) fun r22 M21 =>
  zL (r22 - 48) fun v23 =>
  zC (fX7_within M21 v23 v1 v2) fun r25 M24 =>
  if r25 = 0 then
    some ((-1), M24)
  else
    zL (zw M24 26 0 14 ((M24 26 0 14) + 1)) fun M26 =>
    some (v23, M26)
def fX7_takeStep (M : zM) : Option (Int32 × zM) :=
  zC (fX7_isNext M 48) fun r22 M21 =>
  if r22 = 0 then
    zC (fX7_isNext M21 43) fun r24 M23 =>
    if r24 = 0 then
      zC (fX7_isNext M23 45) fun r26 M25 =>
      if r26 = 0 then
        some ((-6), M25)
      else
        zC (fX7_takeDigit M25 1 3) fun r28 M27 =>
        if 0 ≤ r28 then
          some ((-1) * r28, M27)
        else
          some ((-6), M27)
    else
      zC (fX7_takeDigit M23 1 3) fun r30 M29 =>
      if 0 ≤ r30 then
        some (1 * r30, M29)
      else
        some ((-6), M29)
  else
    some (0, M21)
def fX7_readsOrder (M : zM) : Option (Int32 × zM) :=
  zC (fX7_takeDigit M 0 5) fun r22 M21 =>
  zL (zw M21 26 0 15 r22) fun M23 =>
  if (M23 26 0 15) < 0 then
    zL (zw M23 26 0 16 (-6)) fun M24 =>
    if (M24 26 0 16) = (-6) then
      zL (zw M24 26 0 17 (-6)) fun M28 =>
      if (M28 26 0 17) = (-6) then
        some (0, M28)
      else
        some (1, M28)
    else
      zC (fX7_takeStep M24) fun r26 M25 =>
      zL (zw M25 26 0 17 r26) fun M27 =>
      if (M27 26 0 17) = (-6) then
        some (0, M27)
      else
        some (1, M27)
  else
    zC (fX7_isNext M23 58) fun r30 M29 =>
    if r30 = 0 then
      zL (zw M29 26 0 16 (-6)) fun M31 =>
      if (M31 26 0 16) = (-6) then
        zL (zw M31 26 0 17 (-6)) fun M35 =>
        if (M35 26 0 17) = (-6) then
          some (0, M35)
        else
          some (1, M35)
      else
        zC (fX7_takeStep M31) fun r33 M32 =>
        zL (zw M32 26 0 17 r33) fun M34 =>
        if (M34 26 0 17) = (-6) then
          some (0, M34)
        else
          some (1, M34)
    else
      zC (fX7_takeStep M29) fun r37 M36 =>
      zL (zw M36 26 0 16 r37) fun M38 =>
      if (M38 26 0 16) = (-6) then
        zL (zw M38 26 0 17 (-6)) fun M42 =>
        if (M42 26 0 17) = (-6) then
          some (0, M42)
        else
          some (1, M42)
      else
        zC (fX7_takeStep M38) fun r40 M39 =>
        zL (zw M39 26 0 17 r40) fun M41 =>
        if (M41 26 0 17) = (-6) then
          some (0, M41)
        else
          some (1, M41)
def fX7_findFault_L5 (k : zM → Option (Int32 × zM))  : Nat → zM → Option (Int32 × zM)
  | 0 => fun _ => none
  | n + 1 => fun M =>
    zC (fX7_readsOrder M) fun r23 M22 =>
    if r23 = 0 then
      some (M22 26 0 14, M22)
    else
      if (M22 26 0 14) = (M22 26 0 7) then
        some ((-6), M22)
      else
        zC (fX7_isNext M22 59) fun r25 M24 =>
        if r25 = 0 then
          k M24
        else
          fX7_findFault_L5 k n M24
def fX7_findFault (M : zM) : Option (Int32 × zM) :=
  zL (zw M 26 0 14 0) fun M21 =>
  fX7_findFault_L5 (fun M26 => 
    some (M26 26 0 14, M26))  2000 M21 
def fX7_fault (M : zM) : Option (Int32 × zM) :=
  zC (fX7_findFault M) fun r22 M21 =>
  some (r22, M21)
def fX7_carryOut_L25 (k : zM → Int32 → Int32 → Option (Int32 × zM))  : Nat → zM → Int32 → Int32 → Option (Int32 × zM)
  | 0 => fun _ _ _ => none
  | n + 1 => fun M a1 a2 =>
    if a2 = 0 then
      k M a1 a2
    else
      if (M 26 0 7) ≤ (M 26 0 14) then
        k M a1 a2
      else
        zC (fX7_readsOrder M) fun r26 M25 =>
        zC (fX7_isNext M25 59) fun r28 M27 =>
        zC (fX7_whyNotOrdered M27 (M27 26 0 15) (M27 26 0 16) (M27 26 0 17)) fun r30 M29 =>
        if r30 = 0 then
          zC (fX7_orders M29 (M29 26 0 15) (M29 26 0 16) (M29 26 0 17)) fun r32 M31 =>
          zL (a1 + 1) fun v33 =>
          fX7_carryOut_L25 k n M31 v33 1
        else
          fX7_carryOut_L25 k n M29 a1 0
def fX7_carryOut (M : zM) : Option (Int32 × zM) :=
  zC (fX7_findFault M) fun r22 M21 =>
  if r22 = (-6) then
    zC (fX7_record M21) fun _ M23 =>
    zL (zw M23 26 0 14 0) fun M24 =>
    fX7_carryOut_L25 (fun M34 v35 v36 => 
      zL (zw M34 26 0 7 0) fun M37 =>
      some (v35, M37))  2000 M24 0 1
  else
    some ((-3), M21)
def fX7_undo (M : zM) : Option (Int32 × zM) :=
  if (M 26 0 3) = 0 then
    some ((-5), M)
  else
    zL (zw M 26 0 3 ((M 26 0 3) - 1)) fun M21 =>
    zC (fX7_moves M21 29 1608 ((M21 26 0 3) * 268) 27 268 0) fun _ M22 =>
    some (M22 26 0 3, M22)
def fX7_save (M : zM) (v1 : Int32) : Option (Int32 × zM) :=
  zC (fX7_within M v1 0 1) fun r22 M21 =>
  if r22 = 0 then
    some ((-2), M21)
  else
    zC (fX7_moves M21 27 268 0 30 536 (268 * v1)) fun _ M23 =>
    zI v1 2 <| zL (zw M23 31 0 (zN v1) 1) fun M24 =>
    zI 0 268 <|
    some (M24 27 0 (zN 0), M24)
def fX7_restore (M : zM) (v1 : Int32) : Option (Int32 × zM) :=
  zC (fX7_within M v1 0 1) fun r22 M21 =>
  if r22 = 0 then
    some ((-2), M21)
  else
    zI v1 2 <|
    if (M21 31 0 (zN v1)) = 0 then
      some ((-5), M21)
    else
      zC (fX7_record M21) fun _ M23 =>
      zC (fX7_moves M23 30 536 (268 * v1) 27 268 0) fun _ M24 =>
      zI 0 268 <|
      some (M24 27 0 (zN 0), M24)
end
section
theorem z_kind {k : Nat} (h2 : 2 ≤ k) (h14 : k ≤ 14) : zcnt k = 10 ∧ ∃ n, zarr k = some (0, n) ∧ n < 2 ^ 31 := by
  have h : k = 2 ∨ k = 3 ∨ k = 4 ∨ k = 5 ∨ k = 6 ∨ k = 7 ∨ k = 8 ∨ k = 9 ∨ k = 10 ∨ k = 11 ∨ k = 12 ∨ k = 13 ∨ k = 14 := by omega
  rcases h with rfl | rfl | rfl | rfl | rfl | rfl | rfl | rfl | rfl | rfl | rfl | rfl | rfl <;> exact ⟨rfl, _, rfl, by decide⟩
theorem zmin_self (x : Int32) : zmin x x = x := by unfold zmin; split <;> rfl
theorem hX2_copyRow : yX2_copyRow.cls = RX2 ∧ yX2_copyRow.cls ≠ "java/lang/invoke/MethodHandle" ∧ yX2_copyRow.cls ≠ "java/lang/invoke/VarHandle" ∧ (parseMethodDescriptor yX2_copyRow.desc).map (fun d => d.parameters.length) = some 2 := by decide +kernel
theorem oX2_copyRow : Cond.static yX2_copyRow ∈ zT ∧ Cond.initialized RX2 ∈ zT ∧ Cond.code yX2_copyRow cX2_copyRow 2 none ∈ zT := ⟨ws_X2_copyRow, wi_X2, wk_X2_copyRow⟩
set_option maxRecDepth 100000 in
set_option maxHeartbeats 4000000 in
theorem kX2_copyRow (l : Launch) {g : zGeo} {z : Nat} (hg : zAd g z) {M M' : zM} {k : Nat} (h2 : 2 ≤ k) (h14 : k ≤ 14) {i1 i2 : Nat} (h1 : i1 < 10) (h3 : i2 < 10) {r : Unit} (hF : fX2_copyRow M k i1 i2 = some (r, M')) : Met l yX2_copyRow [.code yX2_copyRow cX2_copyRow 2 none] { frames := 2, cells := 0, slots := 0, locals := 60 } (zPc g M [.ref (g.1 k i1), .ref (g.1 k i2)]) (zQv g z M') 0 0 (zS z) := by
  obtain ⟨hcnt, n, ha, hn⟩ := z_kind h2 h14
  have c1 : i1 < zcnt k := by rw [hcnt]; exact h1
  have c2 : i2 < zcnt k := by rw [hcnt]; exact h3
  refine z_enter (cc := cX2_copyRow) (maxL := 2) (ret := none) (by decide) rfl (Nat.le_of_ble_eq_true rfl) ?_
  intro p e s m below meth c S hr hlk hK hR hS ls hl
  have S : CallFix p m c cX2_copyRow 2 s _ zT RX2 := S
  have hl : lv_has ls 2 [(0, .ref (g.1 k i1)), (1, .ref (g.1 k i2))] := hl
  unfold fX2_copyRow at hF
  split at hF
  · cases hF
  refine lv_aload_n S.1 S.2.1 dX2_copyRow_0 rfl (lv_at hl 0 rfl) ?_
  refine lv_iconst (v := 0) S.1 S.2.1 dX2_copyRow_1 (by decide) ?_
  refine lv_aload_n S.1 S.2.1 dX2_copyRow_2 rfl (lv_at hl 1 rfl) ?_
  refine lv_iconst (v := 0) S.1 S.2.1 dX2_copyRow_3 (by decide) ?_
  refine lv_aload_n S.1 S.2.1 dX2_copyRow_4 rfl (lv_at hl 0 rfl) ?_
  refine z_alen (v := nI n) S hK hR c1 ha (by decide) rfl dX2_copyRow_5 ?_
  refine lv_aload_n S.1 S.2.1 dX2_copyRow_6 rfl (lv_at hl 1 rfl) ?_
  refine z_alen (v := nI n) S hK hR c2 ha (by decide) rfl dX2_copyRow_7 ?_
  refine z_mmin S hl (S.2.2.2.2 _ wm_X2_68) (S.2.2.2.2 _ ws_JM_min) (S.2.2.2.2 _ wi_JM) (S.2.2.2.2 _ wk_min) (Nat.le_of_ble_eq_true rfl) (Nat.le_of_ble_eq_true rfl) (Nat.zero_le _) (Nat.zero_le _) dX2_copyRow_8 ?_
  rw [zmin_self]
  refine z_acopy S hg hK hR hS hl wm_X2_74 wx_JS_arraycopy ws_JS_arraycopy wi_JS ha hn c1 c2 (Nat.le_of_ble_eq_true rfl) (Nat.le_of_ble_eq_true rfl) dX2_copyRow_11 (fun H locs hR hS => ?_)
  exact z_vret S hr hlk hR hS hF dX2_copyRow_14

theorem hX2_copyFrom : yX2_copyFrom.cls = RX2 ∧ yX2_copyFrom.cls ≠ "java/lang/invoke/MethodHandle" ∧ yX2_copyFrom.cls ≠ "java/lang/invoke/VarHandle" ∧ (parseMethodDescriptor yX2_copyFrom.desc).map (fun d => d.parameters.length) = some 1 := by decide +kernel
theorem oX2_copyFrom : Cond.instanceMethod yX2_copyFrom ∈ zT ∧ Cond.selects RX2 yX2_copyFrom yX2_copyFrom ∈ zT ∧ Cond.initialized RX2 ∈ zT ∧ Cond.code yX2_copyFrom cX2_copyFrom 2 none ∈ zT := ⟨wv_X2_copyFrom, we_X2_copyFrom, wi_X2, wk_X2_copyFrom⟩
set_option maxRecDepth 100000 in
set_option maxHeartbeats 4000000 in
theorem kX2_copyFrom (l : Launch) {g : zGeo} {z : Nat} (hg : zAd g z) {M M' : zM} {j : Nat} (hj : j < 10) {j1 : Nat} (hj1 : j1 < 10) {r : Unit} (hF : fX2_copyFrom M j j1 = some (r, M')) : Met l yX2_copyFrom [.code yX2_copyFrom cX2_copyFrom 2 none] { frames := 3, cells := 0, slots := 0, locals := 81 } (zPc g M [.ref (g.1 1 j), .ref (g.1 1 j1)]) (zQv g z M') 0 0 (zS z) := by
  refine z_enter (cc := cX2_copyFrom) (maxL := 2) (ret := none) (by decide) rfl (Nat.le_of_ble_eq_true rfl) ?_
  intro p e s m below meth c S hr hlk hK hR hS ls hl
  have S : CallFix p m c cX2_copyFrom 2 s _ zT RX2 := S
  have hl : lv_has ls 2 [(0, .ref (g.1 1 j)), (1, .ref (g.1 1 j1))] := hl
  unfold fX2_copyFrom at hF
  refine lv_aload_n S.1 S.2.1 dX2_copyFrom_0 rfl (lv_at hl 0 rfl) ?_
  refine lv_aload_n S.1 S.2.1 dX2_copyFrom_1 rfl (lv_at hl 1 rfl) ?_
  refine z_get (k := 1) (i := j1) (f := 0) (v := .int (M 1 j1 0)) S hK hR hj1 rfl rfl (by decide) wf_X2_51 rfl dX2_copyFrom_2 ?_
  refine z_put (k := 1) (i := j) (f := 0) (ty := .int) S hg hK hR hS hF hj rfl rfl rfl (by decide) wf_X2_51 rfl (by decide +kernel) rfl rfl (Nat.le_of_ble_eq_true rfl) dX2_copyFrom_5 (fun H locs M21 hR hS hF => ?_)
  refine lv_aload_n S.1 S.2.1 dX2_copyFrom_8 rfl (lv_at hl 0 rfl) ?_
  refine lv_aload_n S.1 S.2.1 dX2_copyFrom_9 rfl (lv_at hl 1 rfl) ?_
  refine z_get (k := 1) (i := j1) (f := 1) (v := .int (M21 1 j1 1)) S hK hR hj1 rfl rfl (by decide) wf_X2_55 rfl dX2_copyFrom_10 ?_
  refine z_put (k := 1) (i := j) (f := 1) (ty := .int) S hg hK hR hS hF hj rfl rfl rfl (by decide) wf_X2_55 rfl (by decide +kernel) rfl rfl (Nat.le_of_ble_eq_true rfl) dX2_copyFrom_13 (fun H locs M22 hR hS hF => ?_)
  refine lv_aload_n S.1 S.2.1 dX2_copyFrom_16 rfl (lv_at hl 0 rfl) ?_
  refine lv_aload_n S.1 S.2.1 dX2_copyFrom_17 rfl (lv_at hl 1 rfl) ?_
  refine z_get (k := 1) (i := j1) (f := 2) (v := .int (M22 1 j1 2)) S hK hR hj1 rfl rfl (by decide) wf_X2_58 rfl dX2_copyFrom_18 ?_
  refine z_put (k := 1) (i := j) (f := 2) (ty := .int) S hg hK hR hS hF hj rfl rfl rfl (by decide) wf_X2_58 rfl (by decide +kernel) rfl rfl (Nat.le_of_ble_eq_true rfl) dX2_copyFrom_21 (fun H locs M23 hR hS hF => ?_)
  refine lv_aload_n S.1 S.2.1 dX2_copyFrom_24 rfl (lv_at hl 0 rfl) ?_
  refine lv_aload_n S.1 S.2.1 dX2_copyFrom_25 rfl (lv_at hl 1 rfl) ?_
  refine z_get (k := 1) (i := j1) (f := 3) (v := .int (M23 1 j1 3)) S hK hR hj1 rfl rfl (by decide) wf_X2_61 rfl dX2_copyFrom_26 ?_
  refine z_put (k := 1) (i := j) (f := 3) (ty := .int) S hg hK hR hS hF hj rfl rfl rfl (by decide) wf_X2_61 rfl (by decide +kernel) rfl rfl (Nat.le_of_ble_eq_true rfl) dX2_copyFrom_29 (fun H locs M24 hR hS hF => ?_)
  refine lv_aload_n S.1 S.2.1 dX2_copyFrom_32 rfl (lv_at hl 1 rfl) ?_
  refine z_get (k := 1) (i := j1) (f := 4) (v := .ref (g.1 2 j1)) S hK hR hj1 rfl rfl (by decide) wf_X2_9 rfl dX2_copyFrom_33 ?_
  refine lv_aload_n S.1 S.2.1 dX2_copyFrom_36 rfl (lv_at hl 0 rfl) ?_
  refine z_get (k := 1) (i := j) (f := 4) (v := .ref (g.1 2 j)) S hK hR hj rfl rfl (by decide) wf_X2_9 rfl dX2_copyFrom_37 ?_
  refine z_gov hS hF (fun _ _ ho => va_runS (n := 2) (As := [.ref (g.1 2 j1), .ref (g.1 2 j)]) (rest := []) S (kX2_copyRow l hg (by decide) (by decide) hj1 hj ho) (va_cwS 2 S.2.2.2.2 (zgS wm_X2_64 oX2_copyRow) rfl rfl rfl hX2_copyRow.2 ⟨Nat.le_of_ble_eq_true rfl, Nat.le_of_ble_eq_true rfl⟩) ⟨zPc_blind, z_pre hK hR⟩ rfl rfl hl.1 rfl (lv_room (Nat.le_of_ble_eq_true rfl)) dX2_copyFrom_40 ⟨Nat.zero_le _, Nat.zero_le _⟩) (fun M25 H locs hR hS hF => ?_)
  refine lv_aload_n S.1 S.2.1 dX2_copyFrom_43 rfl (lv_at hl 1 rfl) ?_
  refine z_get (k := 1) (i := j1) (f := 5) (v := .ref (g.1 3 j1)) S hK hR hj1 rfl rfl (by decide) wf_X2_15 rfl dX2_copyFrom_44 ?_
  refine lv_aload_n S.1 S.2.1 dX2_copyFrom_47 rfl (lv_at hl 0 rfl) ?_
  refine z_get (k := 1) (i := j) (f := 5) (v := .ref (g.1 3 j)) S hK hR hj rfl rfl (by decide) wf_X2_15 rfl dX2_copyFrom_48 ?_
  refine z_gov hS hF (fun _ _ ho => va_runS (n := 2) (As := [.ref (g.1 3 j1), .ref (g.1 3 j)]) (rest := []) S (kX2_copyRow l hg (by decide) (by decide) hj1 hj ho) (va_cwS 2 S.2.2.2.2 (zgS wm_X2_64 oX2_copyRow) rfl rfl rfl hX2_copyRow.2 ⟨Nat.le_of_ble_eq_true rfl, Nat.le_of_ble_eq_true rfl⟩) ⟨zPc_blind, z_pre hK hR⟩ rfl rfl hl.1 rfl (lv_room (Nat.le_of_ble_eq_true rfl)) dX2_copyFrom_51 ⟨Nat.zero_le _, Nat.zero_le _⟩) (fun M26 H locs hR hS hF => ?_)
  refine lv_aload_n S.1 S.2.1 dX2_copyFrom_54 rfl (lv_at hl 1 rfl) ?_
  refine z_get (k := 1) (i := j1) (f := 6) (v := .ref (g.1 4 j1)) S hK hR hj1 rfl rfl (by decide) wf_X2_18 rfl dX2_copyFrom_55 ?_
  refine lv_aload_n S.1 S.2.1 dX2_copyFrom_58 rfl (lv_at hl 0 rfl) ?_
  refine z_get (k := 1) (i := j) (f := 6) (v := .ref (g.1 4 j)) S hK hR hj rfl rfl (by decide) wf_X2_18 rfl dX2_copyFrom_59 ?_
  refine z_gov hS hF (fun _ _ ho => va_runS (n := 2) (As := [.ref (g.1 4 j1), .ref (g.1 4 j)]) (rest := []) S (kX2_copyRow l hg (by decide) (by decide) hj1 hj ho) (va_cwS 2 S.2.2.2.2 (zgS wm_X2_64 oX2_copyRow) rfl rfl rfl hX2_copyRow.2 ⟨Nat.le_of_ble_eq_true rfl, Nat.le_of_ble_eq_true rfl⟩) ⟨zPc_blind, z_pre hK hR⟩ rfl rfl hl.1 rfl (lv_room (Nat.le_of_ble_eq_true rfl)) dX2_copyFrom_62 ⟨Nat.zero_le _, Nat.zero_le _⟩) (fun M27 H locs hR hS hF => ?_)
  refine lv_aload_n S.1 S.2.1 dX2_copyFrom_65 rfl (lv_at hl 1 rfl) ?_
  refine z_get (k := 1) (i := j1) (f := 7) (v := .ref (g.1 5 j1)) S hK hR hj1 rfl rfl (by decide) wf_X2_21 rfl dX2_copyFrom_66 ?_
  refine lv_aload_n S.1 S.2.1 dX2_copyFrom_69 rfl (lv_at hl 0 rfl) ?_
  refine z_get (k := 1) (i := j) (f := 7) (v := .ref (g.1 5 j)) S hK hR hj rfl rfl (by decide) wf_X2_21 rfl dX2_copyFrom_70 ?_
  refine z_gov hS hF (fun _ _ ho => va_runS (n := 2) (As := [.ref (g.1 5 j1), .ref (g.1 5 j)]) (rest := []) S (kX2_copyRow l hg (by decide) (by decide) hj1 hj ho) (va_cwS 2 S.2.2.2.2 (zgS wm_X2_64 oX2_copyRow) rfl rfl rfl hX2_copyRow.2 ⟨Nat.le_of_ble_eq_true rfl, Nat.le_of_ble_eq_true rfl⟩) ⟨zPc_blind, z_pre hK hR⟩ rfl rfl hl.1 rfl (lv_room (Nat.le_of_ble_eq_true rfl)) dX2_copyFrom_73 ⟨Nat.zero_le _, Nat.zero_le _⟩) (fun M28 H locs hR hS hF => ?_)
  refine lv_aload_n S.1 S.2.1 dX2_copyFrom_76 rfl (lv_at hl 1 rfl) ?_
  refine z_get (k := 1) (i := j1) (f := 8) (v := .ref (g.1 6 j1)) S hK hR hj1 rfl rfl (by decide) wf_X2_24 rfl dX2_copyFrom_77 ?_
  refine lv_aload_n S.1 S.2.1 dX2_copyFrom_80 rfl (lv_at hl 0 rfl) ?_
  refine z_get (k := 1) (i := j) (f := 8) (v := .ref (g.1 6 j)) S hK hR hj rfl rfl (by decide) wf_X2_24 rfl dX2_copyFrom_81 ?_
  refine z_gov hS hF (fun _ _ ho => va_runS (n := 2) (As := [.ref (g.1 6 j1), .ref (g.1 6 j)]) (rest := []) S (kX2_copyRow l hg (by decide) (by decide) hj1 hj ho) (va_cwS 2 S.2.2.2.2 (zgS wm_X2_64 oX2_copyRow) rfl rfl rfl hX2_copyRow.2 ⟨Nat.le_of_ble_eq_true rfl, Nat.le_of_ble_eq_true rfl⟩) ⟨zPc_blind, z_pre hK hR⟩ rfl rfl hl.1 rfl (lv_room (Nat.le_of_ble_eq_true rfl)) dX2_copyFrom_84 ⟨Nat.zero_le _, Nat.zero_le _⟩) (fun M29 H locs hR hS hF => ?_)
  refine lv_aload_n S.1 S.2.1 dX2_copyFrom_87 rfl (lv_at hl 1 rfl) ?_
  refine z_get (k := 1) (i := j1) (f := 9) (v := .ref (g.1 7 j1)) S hK hR hj1 rfl rfl (by decide) wf_X2_27 rfl dX2_copyFrom_88 ?_
  refine lv_aload_n S.1 S.2.1 dX2_copyFrom_91 rfl (lv_at hl 0 rfl) ?_
  refine z_get (k := 1) (i := j) (f := 9) (v := .ref (g.1 7 j)) S hK hR hj rfl rfl (by decide) wf_X2_27 rfl dX2_copyFrom_92 ?_
  refine z_gov hS hF (fun _ _ ho => va_runS (n := 2) (As := [.ref (g.1 7 j1), .ref (g.1 7 j)]) (rest := []) S (kX2_copyRow l hg (by decide) (by decide) hj1 hj ho) (va_cwS 2 S.2.2.2.2 (zgS wm_X2_64 oX2_copyRow) rfl rfl rfl hX2_copyRow.2 ⟨Nat.le_of_ble_eq_true rfl, Nat.le_of_ble_eq_true rfl⟩) ⟨zPc_blind, z_pre hK hR⟩ rfl rfl hl.1 rfl (lv_room (Nat.le_of_ble_eq_true rfl)) dX2_copyFrom_95 ⟨Nat.zero_le _, Nat.zero_le _⟩) (fun M30 H locs hR hS hF => ?_)
  refine lv_aload_n S.1 S.2.1 dX2_copyFrom_98 rfl (lv_at hl 1 rfl) ?_
  refine z_get (k := 1) (i := j1) (f := 10) (v := .ref (g.1 8 j1)) S hK hR hj1 rfl rfl (by decide) wf_X2_30 rfl dX2_copyFrom_99 ?_
  refine lv_aload_n S.1 S.2.1 dX2_copyFrom_102 rfl (lv_at hl 0 rfl) ?_
  refine z_get (k := 1) (i := j) (f := 10) (v := .ref (g.1 8 j)) S hK hR hj rfl rfl (by decide) wf_X2_30 rfl dX2_copyFrom_103 ?_
  refine z_gov hS hF (fun _ _ ho => va_runS (n := 2) (As := [.ref (g.1 8 j1), .ref (g.1 8 j)]) (rest := []) S (kX2_copyRow l hg (by decide) (by decide) hj1 hj ho) (va_cwS 2 S.2.2.2.2 (zgS wm_X2_64 oX2_copyRow) rfl rfl rfl hX2_copyRow.2 ⟨Nat.le_of_ble_eq_true rfl, Nat.le_of_ble_eq_true rfl⟩) ⟨zPc_blind, z_pre hK hR⟩ rfl rfl hl.1 rfl (lv_room (Nat.le_of_ble_eq_true rfl)) dX2_copyFrom_106 ⟨Nat.zero_le _, Nat.zero_le _⟩) (fun M31 H locs hR hS hF => ?_)
  refine lv_aload_n S.1 S.2.1 dX2_copyFrom_109 rfl (lv_at hl 1 rfl) ?_
  refine z_get (k := 1) (i := j1) (f := 11) (v := .ref (g.1 9 j1)) S hK hR hj1 rfl rfl (by decide) wf_X2_33 rfl dX2_copyFrom_110 ?_
  refine lv_aload_n S.1 S.2.1 dX2_copyFrom_113 rfl (lv_at hl 0 rfl) ?_
  refine z_get (k := 1) (i := j) (f := 11) (v := .ref (g.1 9 j)) S hK hR hj rfl rfl (by decide) wf_X2_33 rfl dX2_copyFrom_114 ?_
  refine z_gov hS hF (fun _ _ ho => va_runS (n := 2) (As := [.ref (g.1 9 j1), .ref (g.1 9 j)]) (rest := []) S (kX2_copyRow l hg (by decide) (by decide) hj1 hj ho) (va_cwS 2 S.2.2.2.2 (zgS wm_X2_64 oX2_copyRow) rfl rfl rfl hX2_copyRow.2 ⟨Nat.le_of_ble_eq_true rfl, Nat.le_of_ble_eq_true rfl⟩) ⟨zPc_blind, z_pre hK hR⟩ rfl rfl hl.1 rfl (lv_room (Nat.le_of_ble_eq_true rfl)) dX2_copyFrom_117 ⟨Nat.zero_le _, Nat.zero_le _⟩) (fun M32 H locs hR hS hF => ?_)
  refine lv_aload_n S.1 S.2.1 dX2_copyFrom_120 rfl (lv_at hl 1 rfl) ?_
  refine z_get (k := 1) (i := j1) (f := 12) (v := .ref (g.1 10 j1)) S hK hR hj1 rfl rfl (by decide) wf_X2_36 rfl dX2_copyFrom_121 ?_
  refine lv_aload_n S.1 S.2.1 dX2_copyFrom_124 rfl (lv_at hl 0 rfl) ?_
  refine z_get (k := 1) (i := j) (f := 12) (v := .ref (g.1 10 j)) S hK hR hj rfl rfl (by decide) wf_X2_36 rfl dX2_copyFrom_125 ?_
  refine z_gov hS hF (fun _ _ ho => va_runS (n := 2) (As := [.ref (g.1 10 j1), .ref (g.1 10 j)]) (rest := []) S (kX2_copyRow l hg (by decide) (by decide) hj1 hj ho) (va_cwS 2 S.2.2.2.2 (zgS wm_X2_64 oX2_copyRow) rfl rfl rfl hX2_copyRow.2 ⟨Nat.le_of_ble_eq_true rfl, Nat.le_of_ble_eq_true rfl⟩) ⟨zPc_blind, z_pre hK hR⟩ rfl rfl hl.1 rfl (lv_room (Nat.le_of_ble_eq_true rfl)) dX2_copyFrom_128 ⟨Nat.zero_le _, Nat.zero_le _⟩) (fun M33 H locs hR hS hF => ?_)
  refine lv_aload_n S.1 S.2.1 dX2_copyFrom_131 rfl (lv_at hl 1 rfl) ?_
  refine z_get (k := 1) (i := j1) (f := 13) (v := .ref (g.1 11 j1)) S hK hR hj1 rfl rfl (by decide) wf_X2_39 rfl dX2_copyFrom_132 ?_
  refine lv_aload_n S.1 S.2.1 dX2_copyFrom_135 rfl (lv_at hl 0 rfl) ?_
  refine z_get (k := 1) (i := j) (f := 13) (v := .ref (g.1 11 j)) S hK hR hj rfl rfl (by decide) wf_X2_39 rfl dX2_copyFrom_136 ?_
  refine z_gov hS hF (fun _ _ ho => va_runS (n := 2) (As := [.ref (g.1 11 j1), .ref (g.1 11 j)]) (rest := []) S (kX2_copyRow l hg (by decide) (by decide) hj1 hj ho) (va_cwS 2 S.2.2.2.2 (zgS wm_X2_64 oX2_copyRow) rfl rfl rfl hX2_copyRow.2 ⟨Nat.le_of_ble_eq_true rfl, Nat.le_of_ble_eq_true rfl⟩) ⟨zPc_blind, z_pre hK hR⟩ rfl rfl hl.1 rfl (lv_room (Nat.le_of_ble_eq_true rfl)) dX2_copyFrom_139 ⟨Nat.zero_le _, Nat.zero_le _⟩) (fun M34 H locs hR hS hF => ?_)
  refine lv_aload_n S.1 S.2.1 dX2_copyFrom_142 rfl (lv_at hl 1 rfl) ?_
  refine z_get (k := 1) (i := j1) (f := 14) (v := .ref (g.1 12 j1)) S hK hR hj1 rfl rfl (by decide) wf_X2_42 rfl dX2_copyFrom_143 ?_
  refine lv_aload_n S.1 S.2.1 dX2_copyFrom_146 rfl (lv_at hl 0 rfl) ?_
  refine z_get (k := 1) (i := j) (f := 14) (v := .ref (g.1 12 j)) S hK hR hj rfl rfl (by decide) wf_X2_42 rfl dX2_copyFrom_147 ?_
  refine z_gov hS hF (fun _ _ ho => va_runS (n := 2) (As := [.ref (g.1 12 j1), .ref (g.1 12 j)]) (rest := []) S (kX2_copyRow l hg (by decide) (by decide) hj1 hj ho) (va_cwS 2 S.2.2.2.2 (zgS wm_X2_64 oX2_copyRow) rfl rfl rfl hX2_copyRow.2 ⟨Nat.le_of_ble_eq_true rfl, Nat.le_of_ble_eq_true rfl⟩) ⟨zPc_blind, z_pre hK hR⟩ rfl rfl hl.1 rfl (lv_room (Nat.le_of_ble_eq_true rfl)) dX2_copyFrom_150 ⟨Nat.zero_le _, Nat.zero_le _⟩) (fun M35 H locs hR hS hF => ?_)
  refine lv_aload_n S.1 S.2.1 dX2_copyFrom_153 rfl (lv_at hl 1 rfl) ?_
  refine z_get (k := 1) (i := j1) (f := 15) (v := .ref (g.1 13 j1)) S hK hR hj1 rfl rfl (by decide) wf_X2_45 rfl dX2_copyFrom_154 ?_
  refine lv_aload_n S.1 S.2.1 dX2_copyFrom_157 rfl (lv_at hl 0 rfl) ?_
  refine z_get (k := 1) (i := j) (f := 15) (v := .ref (g.1 13 j)) S hK hR hj rfl rfl (by decide) wf_X2_45 rfl dX2_copyFrom_158 ?_
  refine z_gov hS hF (fun _ _ ho => va_runS (n := 2) (As := [.ref (g.1 13 j1), .ref (g.1 13 j)]) (rest := []) S (kX2_copyRow l hg (by decide) (by decide) hj1 hj ho) (va_cwS 2 S.2.2.2.2 (zgS wm_X2_64 oX2_copyRow) rfl rfl rfl hX2_copyRow.2 ⟨Nat.le_of_ble_eq_true rfl, Nat.le_of_ble_eq_true rfl⟩) ⟨zPc_blind, z_pre hK hR⟩ rfl rfl hl.1 rfl (lv_room (Nat.le_of_ble_eq_true rfl)) dX2_copyFrom_161 ⟨Nat.zero_le _, Nat.zero_le _⟩) (fun M36 H locs hR hS hF => ?_)
  refine lv_aload_n S.1 S.2.1 dX2_copyFrom_164 rfl (lv_at hl 1 rfl) ?_
  refine z_get (k := 1) (i := j1) (f := 16) (v := .ref (g.1 14 j1)) S hK hR hj1 rfl rfl (by decide) wf_X2_48 rfl dX2_copyFrom_165 ?_
  refine lv_aload_n S.1 S.2.1 dX2_copyFrom_168 rfl (lv_at hl 0 rfl) ?_
  refine z_get (k := 1) (i := j) (f := 16) (v := .ref (g.1 14 j)) S hK hR hj rfl rfl (by decide) wf_X2_48 rfl dX2_copyFrom_169 ?_
  refine z_gov hS hF (fun _ _ ho => va_runS (n := 2) (As := [.ref (g.1 14 j1), .ref (g.1 14 j)]) (rest := []) S (kX2_copyRow l hg (by decide) (by decide) hj1 hj ho) (va_cwS 2 S.2.2.2.2 (zgS wm_X2_64 oX2_copyRow) rfl rfl rfl hX2_copyRow.2 ⟨Nat.le_of_ble_eq_true rfl, Nat.le_of_ble_eq_true rfl⟩) ⟨zPc_blind, z_pre hK hR⟩ rfl rfl hl.1 rfl (lv_room (Nat.le_of_ble_eq_true rfl)) dX2_copyFrom_172 ⟨Nat.zero_le _, Nat.zero_le _⟩) (fun M37 H locs hR hS hF => ?_)
  exact z_vret S hr hlk hR hS hF dX2_copyFrom_175
theorem hX2_has : yX2_has.cls = RX2 ∧ yX2_has.cls ≠ "java/lang/invoke/MethodHandle" ∧ yX2_has.cls ≠ "java/lang/invoke/VarHandle" ∧ (parseMethodDescriptor yX2_has.desc).map (fun d => d.parameters.length) = some 1 := by decide +kernel
theorem oX2_has : Cond.instanceMethod yX2_has ∈ zT ∧ Cond.selects RX2 yX2_has yX2_has ∈ zT ∧ Cond.initialized RX2 ∈ zT ∧ Cond.code yX2_has cX2_has 2 (some .boolean) ∈ zT := ⟨wv_X2_has, we_X2_has, wi_X2, wk_X2_has⟩
set_option maxRecDepth 100000 in
set_option maxHeartbeats 4000000 in
theorem kX2_has (l : Launch) {g : zGeo} {z : Nat} (hg : zAd g z) {M M' : zM} {j : Nat} (hj : j < 10) {v1 : Int32} {r : Int32} (hF : fX2_has M j v1 = some (r, M')) : Met l yX2_has [.code yX2_has cX2_has 2 (some .boolean)] { frames := 0, cells := 0, slots := 0, locals := 0 } (zPc g M [.ref (g.1 1 j), .int v1]) (zQi g z r M') 0 0 (zS z) := by
  refine z_enter (cc := cX2_has) (maxL := 2) (ret := (some .boolean)) (by decide) rfl (Nat.le_of_ble_eq_true rfl) ?_
  intro p e s m below meth c S hr hlk hK hR hS ls hl
  have S : CallFix p m c cX2_has 2 s _ zT RX2 := S
  have hl : lv_has ls 2 [(0, .ref (g.1 1 j)), (1, .int v1)] := hl
  unfold fX2_has at hF
  refine lv_iload_n S.1 S.2.1 dX2_has_0 rfl (lv_at hl 1 rfl) ?_
  refine lv_if_lt (tgt := 22) S.1 S.2.1 dX2_has_1 (by decide) (fun hc => ?_) (fun hc => ?_)
  · replace hF := z_ct hF hc
    refine lv_iconst (v := 0) S.1 S.2.1 dX2_has_22 (by decide) ?_
    exact z_zretc S hr hlk hR hS (by decide) hF dX2_has_23
  · replace hF := z_cf hF hc
    refine lv_iload_n S.1 S.2.1 dX2_has_4 rfl (lv_at hl 1 rfl) ?_
    refine lv_aload_n S.1 S.2.1 dX2_has_5 rfl (lv_at hl 0 rfl) ?_
    refine z_get (k := 1) (i := j) (f := 0) (v := .int (M 1 j 0)) S hK hR hj rfl rfl (by decide) wf_X2_51 rfl dX2_has_6 ?_
    refine lv_icmp_ge (tgt := 22) S.1 S.2.1 dX2_has_9 (by decide) (fun hc => ?_) (fun hc => ?_)
    · replace hF := z_ct hF hc
      refine lv_iconst (v := 0) S.1 S.2.1 dX2_has_22 (by decide) ?_
      exact z_zretc S hr hlk hR hS (by decide) hF dX2_has_23
    · replace hF := z_cf hF hc
      refine lv_iload_n S.1 S.2.1 dX2_has_12 rfl (lv_at hl 1 rfl) ?_
      refine lv_bipush (v := 6) S.1 S.2.1 dX2_has_13 (by decide) ?_
      refine lv_icmp_ge (tgt := 22) S.1 S.2.1 dX2_has_15 (by decide) (fun hc => ?_) (fun hc => ?_)
      · replace hF := z_ct hF hc
        refine lv_iconst (v := 0) S.1 S.2.1 dX2_has_22 (by decide) ?_
        exact z_zretc S hr hlk hR hS (by decide) hF dX2_has_23
      · replace hF := z_cf hF hc
        refine lv_iconst (v := 1) S.1 S.2.1 dX2_has_18 (by decide) ?_
        refine lv_goto (tgt := 23) S.1 S.2.1 dX2_has_19 (by decide) ?_
        exact z_zretc S hr hlk hR hS (by decide) hF dX2_has_23
theorem hX2_isFlying : yX2_isFlying.cls = RX2 ∧ yX2_isFlying.cls ≠ "java/lang/invoke/MethodHandle" ∧ yX2_isFlying.cls ≠ "java/lang/invoke/VarHandle" ∧ (parseMethodDescriptor yX2_isFlying.desc).map (fun d => d.parameters.length) = some 1 := by decide +kernel
theorem oX2_isFlying : Cond.instanceMethod yX2_isFlying ∈ zT ∧ Cond.selects RX2 yX2_isFlying yX2_isFlying ∈ zT ∧ Cond.initialized RX2 ∈ zT ∧ Cond.code yX2_isFlying cX2_isFlying 2 (some .boolean) ∈ zT := ⟨wv_X2_isFlying, we_X2_isFlying, wi_X2, wk_X2_isFlying⟩
set_option maxRecDepth 100000 in
set_option maxHeartbeats 4000000 in
theorem kX2_isFlying (l : Launch) {g : zGeo} {z : Nat} (hg : zAd g z) {M M' : zM} {j : Nat} (hj : j < 10) {v1 : Int32} {r : Int32} (hF : fX2_isFlying M j v1 = some (r, M')) : Met l yX2_isFlying [.code yX2_isFlying cX2_isFlying 2 (some .boolean)] { frames := 1, cells := 0, slots := 0, locals := 21 } (zPc g M [.ref (g.1 1 j), .int v1]) (zQi g z r M') 0 0 (zS z) := by
  refine z_enter (cc := cX2_isFlying) (maxL := 2) (ret := (some .boolean)) (by decide) rfl (Nat.le_of_ble_eq_true rfl) ?_
  intro p e s m below meth c S hr hlk hK hR hS ls hl
  have S : CallFix p m c cX2_isFlying 2 s _ zT RX2 := S
  have hl : lv_has ls 2 [(0, .ref (g.1 1 j)), (1, .int v1)] := hl
  unfold fX2_isFlying at hF
  refine lv_aload_n S.1 S.2.1 dX2_isFlying_0 rfl (lv_at hl 0 rfl) ?_
  refine lv_iload_n S.1 S.2.1 dX2_isFlying_1 rfl (lv_at hl 1 rfl) ?_
  refine z_goi hS hF (fun _ _ ho => va_runV (C := RX2) (n := 1) (As := [.int v1]) (rest := []) S (kX2_has l hg hj ho) (cwV 1 S.2.2.2.2 (zgV wm_X2_80 oX2_has) rfl rfl rfl hX2_has ⟨Nat.le_of_ble_eq_true rfl, Nat.le_of_ble_eq_true rfl⟩) ⟨zPc_blind, z_recv hK hR hj rfl rfl, z_pre hK hR⟩ rfl rfl hl.1 rfl (lv_room (Nat.le_of_ble_eq_true rfl)) dX2_isFlying_2 ⟨Nat.zero_le _, Nat.zero_le _⟩) (fun r22 M21 H locs hR hS hF => ?_)
  refine lv_if_eq (tgt := 21) S.1 S.2.1 dX2_isFlying_5 (by decide) (fun hc => ?_) (fun hc => ?_)
  · replace hF := z_ct hF hc
    refine lv_iconst (v := 0) S.1 S.2.1 dX2_isFlying_21 (by decide) ?_
    exact z_zretc S hr hlk hR hS (by decide) hF dX2_isFlying_22
  · replace hF := z_cf hF hc
    refine lv_aload_n S.1 S.2.1 dX2_isFlying_8 rfl (lv_at hl 0 rfl) ?_
    refine z_get (k := 1) (i := j) (f := 12) (v := .ref (g.1 10 j)) S hK hR hj rfl rfl (by decide) wf_X2_36 rfl dX2_isFlying_9 ?_
    refine lv_iload_n S.1 S.2.1 dX2_isFlying_12 rfl (lv_at hl 1 rfl) ?_
    refine z_iald (k := 10) (i := j) (n := 6) S hK hR hF hj rfl dX2_isFlying_13 (fun hF => ?_)
    refine lv_if_ne (tgt := 21) S.1 S.2.1 dX2_isFlying_14 (by decide) (fun hc => ?_) (fun hc => ?_)
    · replace hF := z_cf hF hc
      refine lv_iconst (v := 0) S.1 S.2.1 dX2_isFlying_21 (by decide) ?_
      exact z_zretc S hr hlk hR hS (by decide) hF dX2_isFlying_22
    · replace hF := z_ct hF hc
      refine lv_iconst (v := 1) S.1 S.2.1 dX2_isFlying_17 (by decide) ?_
      refine lv_goto (tgt := 22) S.1 S.2.1 dX2_isFlying_18 (by decide) ?_
      exact z_zretc S hr hlk hR hS (by decide) hF dX2_isFlying_22
theorem hX2_sendUp : yX2_sendUp.cls = RX2 ∧ yX2_sendUp.cls ≠ "java/lang/invoke/MethodHandle" ∧ yX2_sendUp.cls ≠ "java/lang/invoke/VarHandle" ∧ (parseMethodDescriptor yX2_sendUp.desc).map (fun d => d.parameters.length) = some 1 := by decide +kernel
theorem oX2_sendUp : Cond.instanceMethod yX2_sendUp ∈ zT ∧ Cond.selects RX2 yX2_sendUp yX2_sendUp ∈ zT ∧ Cond.initialized RX2 ∈ zT ∧ Cond.code yX2_sendUp cX2_sendUp 3 none ∈ zT := ⟨wv_X2_sendUp, we_X2_sendUp, wi_X2, wk_X2_sendUp⟩
set_option maxRecDepth 100000 in
set_option maxHeartbeats 4000000 in
theorem kX2_sendUp (l : Launch) {g : zGeo} {z : Nat} (hg : zAd g z) {M M' : zM} {j : Nat} (hj : j < 10) {v1 : Int32} {r : Unit} (hF : fX2_sendUp M j v1 = some (r, M')) : Met l yX2_sendUp [.code yX2_sendUp cX2_sendUp 3 none] { frames := 0, cells := 0, slots := 0, locals := 0 } (zPc g M [.ref (g.1 1 j), .int v1]) (zQv g z M') 0 0 (zS z) := by
  refine z_enter (cc := cX2_sendUp) (maxL := 3) (ret := none) (by decide) rfl (Nat.le_of_ble_eq_true rfl) ?_
  intro p e s m below meth c S hr hlk hK hR hS ls hl
  have S : CallFix p m c cX2_sendUp 3 s _ zT RX2 := S
  have hl : lv_has ls 3 [(0, .ref (g.1 1 j)), (1, .int v1)] := hl
  have L59 : ∀ (k : zM → Int32 → Option (Unit × zM)) (a1 : Int32), (∀ (M : zM) (a2 : Int32) (H : Heap) (locs : List Loc), zR g M H → va_S (zS z) s.heap H locs → ∀ ls : Array Slot, lv_has ls 3 [(0, .ref (g.1 1 j)), (1, .int a1), (2, .int a2)] → k M a2 = some (r, M') → W p l e { frames := 0, cells := 0, slots := 0, locals := 0 } s m ([.ref (g.1 1 j), .int v1] : List Value).toArray below meth c H locs 0 0 (MQ below (zQv g z M') ([.ref (g.1 1 j), .int v1] : List Value).toArray s 0 0 (zS z)) (F0 m 83 ls [])) → ∀ (n : Nat) (M : zM) (a2 : Int32) (H : Heap) (locs : List Loc), zR g M H → va_S (zS z) s.heap H locs → ∀ ls : Array Slot, lv_has ls 3 [(0, .ref (g.1 1 j)), (1, .int a1), (2, .int a2)] → fX2_sendUp_L59 k j a1 n M a2 = some (r, M') → W p l e { frames := 0, cells := 0, slots := 0, locals := 0 } s m ([.ref (g.1 1 j), .int v1] : List Value).toArray below meth c H locs 0 0 (MQ below (zQv g z M') ([.ref (g.1 1 j), .int v1] : List Value).toArray s 0 0 (zS z)) (F0 m 59 ls []) := by
    intro k a1 hk n
    induction n with
    | zero =>
      intro M a2 H locs hR hS ls hl hF
      cases hF
    | succ n ih =>
      intro M a2 H locs hR hS ls hl hF
      unfold fX2_sendUp_L59 at hF
      refine lv_iload_n S.1 S.2.1 dX2_sendUp_59 rfl (lv_at hl 2 rfl) ?_
      refine lv_bipush (v := 32) S.1 S.2.1 dX2_sendUp_60 (by decide) ?_
      refine lv_icmp_ge (tgt := 83) S.1 S.2.1 dX2_sendUp_62 (by decide) (fun hc => ?_) (fun hc => ?_)
      · replace hF := z_ct hF hc
        exact hk _ _ _ _ hR hS _ (lv_sub hl [0, 1, 2] rfl) hF
      · replace hF := z_cf hF hc
        refine lv_aload_n S.1 S.2.1 dX2_sendUp_65 rfl (lv_at hl 0 rfl) ?_
        refine z_get (k := 1) (i := j) (f := 16) (v := .ref (g.1 14 j)) S hK hR hj rfl rfl (by decide) wf_X2_48 rfl dX2_sendUp_66 ?_
        refine lv_iload_n S.1 S.2.1 dX2_sendUp_69 rfl (lv_at hl 1 rfl) ?_
        refine lv_bipush (v := 32) S.1 S.2.1 dX2_sendUp_70 (by decide) ?_
        refine lv_imul S.1 S.2.1 dX2_sendUp_72 ?_
        refine lv_iload_n S.1 S.2.1 dX2_sendUp_73 rfl (lv_at hl 2 rfl) ?_
        refine lv_iadd S.1 S.2.1 dX2_sendUp_74 ?_
        refine lv_iconst (v := 0) S.1 S.2.1 dX2_sendUp_75 (by decide) ?_
        refine z_iast (k := 14) (i := j) (n := 192) S hg hK hR hS hF hj rfl dX2_sendUp_76 (fun H locs M27 hR hS hF => ?_)
        obtain ⟨v28, ev28, hF⟩ := zL_out hF
        refine lv_iinc (v := v28) (lv' := [(2, .int v28), (0, .ref (g.1 1 j)), (1, .int a1)]) S.1 S.2.1 dX2_sendUp_77 hl (k := 2) rfl (by rw [← ev28]; rfl) (by decide) rfl (fun ls hl => ?_)
        refine lv_goto (tgt := 59) S.1 S.2.1 dX2_sendUp_80 (by decide) ?_
        exact ih _ _ _ _ hR hS _ (lv_sub hl [1, 2, 0] rfl) hF
  unfold fX2_sendUp at hF
  refine lv_aload_n S.1 S.2.1 dX2_sendUp_0 rfl (lv_at hl 0 rfl) ?_
  refine z_get (k := 1) (i := j) (f := 4) (v := .ref (g.1 2 j)) S hK hR hj rfl rfl (by decide) wf_X2_9 rfl dX2_sendUp_1 ?_
  refine lv_iload_n S.1 S.2.1 dX2_sendUp_4 rfl (lv_at hl 1 rfl) ?_
  refine lv_aload_n S.1 S.2.1 dX2_sendUp_5 rfl (lv_at hl 0 rfl) ?_
  refine z_get (k := 1) (i := j) (f := 13) (v := .ref (g.1 11 j)) S hK hR hj rfl rfl (by decide) wf_X2_39 rfl dX2_sendUp_6 ?_
  refine lv_iload_n S.1 S.2.1 dX2_sendUp_9 rfl (lv_at hl 1 rfl) ?_
  refine z_iald (k := 11) (i := j) (n := 6) S hK hR hF hj rfl dX2_sendUp_10 (fun hF => ?_)
  refine z_iast (k := 2) (i := j) (n := 6) S hg hK hR hS hF hj rfl dX2_sendUp_11 (fun H locs M21 hR hS hF => ?_)
  refine lv_aload_n S.1 S.2.1 dX2_sendUp_12 rfl (lv_at hl 0 rfl) ?_
  refine z_get (k := 1) (i := j) (f := 5) (v := .ref (g.1 3 j)) S hK hR hj rfl rfl (by decide) wf_X2_15 rfl dX2_sendUp_13 ?_
  refine lv_iload_n S.1 S.2.1 dX2_sendUp_16 rfl (lv_at hl 1 rfl) ?_
  refine lv_aload_n S.1 S.2.1 dX2_sendUp_17 rfl (lv_at hl 0 rfl) ?_
  refine z_get (k := 1) (i := j) (f := 14) (v := .ref (g.1 12 j)) S hK hR hj rfl rfl (by decide) wf_X2_42 rfl dX2_sendUp_18 ?_
  refine lv_iload_n S.1 S.2.1 dX2_sendUp_21 rfl (lv_at hl 1 rfl) ?_
  refine z_iald (k := 12) (i := j) (n := 6) S hK hR hF hj rfl dX2_sendUp_22 (fun hF => ?_)
  refine z_iast (k := 3) (i := j) (n := 6) S hg hK hR hS hF hj rfl dX2_sendUp_23 (fun H locs M22 hR hS hF => ?_)
  refine lv_aload_n S.1 S.2.1 dX2_sendUp_24 rfl (lv_at hl 0 rfl) ?_
  refine z_get (k := 1) (i := j) (f := 6) (v := .ref (g.1 4 j)) S hK hR hj rfl rfl (by decide) wf_X2_18 rfl dX2_sendUp_25 ?_
  refine lv_iload_n S.1 S.2.1 dX2_sendUp_28 rfl (lv_at hl 1 rfl) ?_
  refine lv_aload_n S.1 S.2.1 dX2_sendUp_29 rfl (lv_at hl 0 rfl) ?_
  refine z_get (k := 1) (i := j) (f := 15) (v := .ref (g.1 13 j)) S hK hR hj rfl rfl (by decide) wf_X2_45 rfl dX2_sendUp_30 ?_
  refine lv_iload_n S.1 S.2.1 dX2_sendUp_33 rfl (lv_at hl 1 rfl) ?_
  refine z_iald (k := 13) (i := j) (n := 6) S hK hR hF hj rfl dX2_sendUp_34 (fun hF => ?_)
  refine z_iast (k := 4) (i := j) (n := 6) S hg hK hR hS hF hj rfl dX2_sendUp_35 (fun H locs M23 hR hS hF => ?_)
  refine lv_aload_n S.1 S.2.1 dX2_sendUp_36 rfl (lv_at hl 0 rfl) ?_
  refine z_get (k := 1) (i := j) (f := 7) (v := .ref (g.1 5 j)) S hK hR hj rfl rfl (by decide) wf_X2_21 rfl dX2_sendUp_37 ?_
  refine lv_iload_n S.1 S.2.1 dX2_sendUp_40 rfl (lv_at hl 1 rfl) ?_
  refine lv_iconst (v := 0) S.1 S.2.1 dX2_sendUp_41 (by decide) ?_
  refine z_iast (k := 5) (i := j) (n := 6) S hg hK hR hS hF hj rfl dX2_sendUp_42 (fun H locs M24 hR hS hF => ?_)
  refine lv_aload_n S.1 S.2.1 dX2_sendUp_43 rfl (lv_at hl 0 rfl) ?_
  refine z_get (k := 1) (i := j) (f := 8) (v := .ref (g.1 6 j)) S hK hR hj rfl rfl (by decide) wf_X2_24 rfl dX2_sendUp_44 ?_
  refine lv_iload_n S.1 S.2.1 dX2_sendUp_47 rfl (lv_at hl 1 rfl) ?_
  refine lv_iconst (v := 0) S.1 S.2.1 dX2_sendUp_48 (by decide) ?_
  refine z_iast (k := 6) (i := j) (n := 6) S hg hK hR hS hF hj rfl dX2_sendUp_49 (fun H locs M25 hR hS hF => ?_)
  refine lv_aload_n S.1 S.2.1 dX2_sendUp_50 rfl (lv_at hl 0 rfl) ?_
  refine z_get (k := 1) (i := j) (f := 12) (v := .ref (g.1 10 j)) S hK hR hj rfl rfl (by decide) wf_X2_36 rfl dX2_sendUp_51 ?_
  refine lv_iload_n S.1 S.2.1 dX2_sendUp_54 rfl (lv_at hl 1 rfl) ?_
  refine lv_iconst (v := 0) S.1 S.2.1 dX2_sendUp_55 (by decide) ?_
  refine z_iast (k := 10) (i := j) (n := 6) S hg hK hR hS hF hj rfl dX2_sendUp_56 (fun H locs M26 hR hS hF => ?_)
  refine lv_iconst (v := 0) S.1 S.2.1 dX2_sendUp_57 (by decide) ?_
  refine lv_istore_n (lv' := [(2, .int 0), (0, .ref (g.1 1 j)), (1, .int v1)]) S.1 S.2.1 dX2_sendUp_58 rfl hl (by decide) rfl (fun ls hl => ?_)
  refine L59 _ _ (fun M29 v30 H locs hR hS ls hl hF => ?_) _ _ _ _ _ hR hS _ (lv_sub hl [1, 2, 0] rfl) hF
  exact z_vret S hr hlk hR hS hF dX2_sendUp_83
theorem hX2_addKite : yX2_addKite.cls = RX2 ∧ yX2_addKite.cls ≠ "java/lang/invoke/MethodHandle" ∧ yX2_addKite.cls ≠ "java/lang/invoke/VarHandle" ∧ (parseMethodDescriptor yX2_addKite.desc).map (fun d => d.parameters.length) = some 5 := by decide +kernel
theorem oX2_addKite : Cond.instanceMethod yX2_addKite ∈ zT ∧ Cond.selects RX2 yX2_addKite yX2_addKite ∈ zT ∧ Cond.initialized RX2 ∈ zT ∧ Cond.code yX2_addKite cX2_addKite 7 (some .int) ∈ zT := ⟨wv_X2_addKite, we_X2_addKite, wi_X2, wk_X2_addKite⟩
set_option maxRecDepth 100000 in
set_option maxHeartbeats 4000000 in
theorem kX2_addKite (l : Launch) {g : zGeo} {z : Nat} (hg : zAd g z) {M M' : zM} {j : Nat} (hj : j < 10) {v1 : Int32} {v2 : Int32} {v3 : Int32} {v4 : Int32} {v5 : Int32} {r : Int32} (hF : fX2_addKite M j v1 v2 v3 v4 v5 = some (r, M')) : Met l yX2_addKite [.code yX2_addKite cX2_addKite 7 (some .int)] { frames := 1, cells := 0, slots := 0, locals := 22 } (zPc g M [.ref (g.1 1 j), .int v1, .int v2, .int v3, .int v4, .int v5]) (zQi g z r M') 0 0 (zS z) := by
  refine z_enter (cc := cX2_addKite) (maxL := 7) (ret := (some .int)) (by decide) rfl (Nat.le_of_ble_eq_true rfl) ?_
  intro p e s m below meth c S hr hlk hK hR hS ls hl
  have S : CallFix p m c cX2_addKite 7 s _ zT RX2 := S
  have hl : lv_has ls 7 [(0, .ref (g.1 1 j)), (1, .int v1), (2, .int v2), (3, .int v3), (4, .int v4), (5, .int v5)] := hl
  unfold fX2_addKite at hF
  refine lv_aload_n S.1 S.2.1 dX2_addKite_0 rfl (lv_at hl 0 rfl) ?_
  refine z_get (k := 1) (i := j) (f := 0) (v := .int (M 1 j 0)) S hK hR hj rfl rfl (by decide) wf_X2_51 rfl dX2_addKite_1 ?_
  refine z_nm hF (fun v21 hF => ?_)
  refine lv_istore (lv' := [(6, .int v21), (0, .ref (g.1 1 j)), (1, .int v1), (2, .int v2), (3, .int v3), (4, .int v4), (5, .int v5)]) S.1 S.2.1 dX2_addKite_4 hl (by decide) rfl (fun ls hl => ?_)
  refine lv_aload_n S.1 S.2.1 dX2_addKite_6 rfl (lv_at hl 1 rfl) ?_
  refine z_get (k := 1) (i := j) (f := 13) (v := .ref (g.1 11 j)) S hK hR hj rfl rfl (by decide) wf_X2_39 rfl dX2_addKite_7 ?_
  refine lv_iload S.1 S.2.1 dX2_addKite_10 (lv_at hl 0 rfl) ?_
  refine lv_iload_n S.1 S.2.1 dX2_addKite_12 rfl (lv_at hl 2 rfl) ?_
  refine z_iast (k := 11) (i := j) (n := 6) S hg hK hR hS hF hj rfl dX2_addKite_13 (fun H locs M22 hR hS hF => ?_)
  refine lv_aload_n S.1 S.2.1 dX2_addKite_14 rfl (lv_at hl 1 rfl) ?_
  refine z_get (k := 1) (i := j) (f := 14) (v := .ref (g.1 12 j)) S hK hR hj rfl rfl (by decide) wf_X2_42 rfl dX2_addKite_15 ?_
  refine lv_iload S.1 S.2.1 dX2_addKite_18 (lv_at hl 0 rfl) ?_
  refine lv_iload_n S.1 S.2.1 dX2_addKite_20 rfl (lv_at hl 3 rfl) ?_
  refine z_iast (k := 12) (i := j) (n := 6) S hg hK hR hS hF hj rfl dX2_addKite_21 (fun H locs M23 hR hS hF => ?_)
  refine lv_aload_n S.1 S.2.1 dX2_addKite_22 rfl (lv_at hl 1 rfl) ?_
  refine z_get (k := 1) (i := j) (f := 15) (v := .ref (g.1 13 j)) S hK hR hj rfl rfl (by decide) wf_X2_45 rfl dX2_addKite_23 ?_
  refine lv_iload S.1 S.2.1 dX2_addKite_26 (lv_at hl 0 rfl) ?_
  refine lv_iload_n S.1 S.2.1 dX2_addKite_28 rfl (lv_at hl 4 rfl) ?_
  refine z_iast (k := 13) (i := j) (n := 6) S hg hK hR hS hF hj rfl dX2_addKite_29 (fun H locs M24 hR hS hF => ?_)
  refine lv_aload_n S.1 S.2.1 dX2_addKite_30 rfl (lv_at hl 1 rfl) ?_
  refine z_get (k := 1) (i := j) (f := 9) (v := .ref (g.1 7 j)) S hK hR hj rfl rfl (by decide) wf_X2_27 rfl dX2_addKite_31 ?_
  refine lv_iload S.1 S.2.1 dX2_addKite_34 (lv_at hl 0 rfl) ?_
  refine lv_iload S.1 S.2.1 dX2_addKite_36 (lv_at hl 5 rfl) ?_
  refine z_iast (k := 7) (i := j) (n := 6) S hg hK hR hS hF hj rfl dX2_addKite_38 (fun H locs M25 hR hS hF => ?_)
  refine lv_aload_n S.1 S.2.1 dX2_addKite_39 rfl (lv_at hl 1 rfl) ?_
  refine z_get (k := 1) (i := j) (f := 10) (v := .ref (g.1 8 j)) S hK hR hj rfl rfl (by decide) wf_X2_30 rfl dX2_addKite_40 ?_
  refine lv_iload S.1 S.2.1 dX2_addKite_43 (lv_at hl 0 rfl) ?_
  refine lv_iload S.1 S.2.1 dX2_addKite_45 (lv_at hl 6 rfl) ?_
  refine z_iast (k := 8) (i := j) (n := 6) S hg hK hR hS hF hj rfl dX2_addKite_47 (fun H locs M26 hR hS hF => ?_)
  refine lv_aload_n S.1 S.2.1 dX2_addKite_48 rfl (lv_at hl 1 rfl) ?_
  refine z_get (k := 1) (i := j) (f := 11) (v := .ref (g.1 9 j)) S hK hR hj rfl rfl (by decide) wf_X2_33 rfl dX2_addKite_49 ?_
  refine lv_iload S.1 S.2.1 dX2_addKite_52 (lv_at hl 0 rfl) ?_
  refine lv_iconst (v := 0) S.1 S.2.1 dX2_addKite_54 (by decide) ?_
  refine z_iast (k := 9) (i := j) (n := 6) S hg hK hR hS hF hj rfl dX2_addKite_55 (fun H locs M27 hR hS hF => ?_)
  refine lv_aload_n S.1 S.2.1 dX2_addKite_56 rfl (lv_at hl 1 rfl) ?_
  refine lv_iload S.1 S.2.1 dX2_addKite_57 (lv_at hl 0 rfl) ?_
  refine z_gov hS hF (fun _ _ ho => va_runV (C := RX2) (n := 1) (As := [.int v21]) (rest := []) S (kX2_sendUp l hg hj ho) (cwV 1 S.2.2.2.2 (zgV wm_X2_84 oX2_sendUp) rfl rfl rfl hX2_sendUp ⟨Nat.le_of_ble_eq_true rfl, Nat.le_of_ble_eq_true rfl⟩) ⟨zPc_blind, z_recv hK hR hj rfl rfl, z_pre hK hR⟩ rfl rfl hl.1 rfl (lv_room (Nat.le_of_ble_eq_true rfl)) dX2_addKite_59 ⟨Nat.zero_le _, Nat.zero_le _⟩) (fun M28 H locs hR hS hF => ?_)
  refine lv_aload_n S.1 S.2.1 dX2_addKite_62 rfl (lv_at hl 1 rfl) ?_
  refine lv_dup S.1 S.2.1 dX2_addKite_63 rfl ?_
  refine z_get (k := 1) (i := j) (f := 0) (v := .int (M28 1 j 0)) S hK hR hj rfl rfl (by decide) wf_X2_51 rfl dX2_addKite_64 ?_
  refine lv_iconst (v := 1) S.1 S.2.1 dX2_addKite_67 (by decide) ?_
  refine lv_iadd S.1 S.2.1 dX2_addKite_68 ?_
  refine z_put (k := 1) (i := j) (f := 0) (ty := .int) S hg hK hR hS hF hj rfl rfl rfl (by decide) wf_X2_51 rfl (by decide +kernel) rfl rfl (Nat.le_of_ble_eq_true rfl) dX2_addKite_69 (fun H locs M29 hR hS hF => ?_)
  refine lv_iload S.1 S.2.1 dX2_addKite_72 (lv_at hl 0 rfl) ?_
  exact z_iret S hr hlk hR hS hF dX2_addKite_74
theorem hX2_beginAnew : yX2_beginAnew.cls = RX2 ∧ yX2_beginAnew.cls ≠ "java/lang/invoke/MethodHandle" ∧ yX2_beginAnew.cls ≠ "java/lang/invoke/VarHandle" ∧ (parseMethodDescriptor yX2_beginAnew.desc).map (fun d => d.parameters.length) = some 0 := by decide +kernel
theorem oX2_beginAnew : Cond.instanceMethod yX2_beginAnew ∈ zT ∧ Cond.selects RX2 yX2_beginAnew yX2_beginAnew ∈ zT ∧ Cond.initialized RX2 ∈ zT ∧ Cond.code yX2_beginAnew cX2_beginAnew 2 none ∈ zT := ⟨wv_X2_beginAnew, we_X2_beginAnew, wi_X2, wk_X2_beginAnew⟩
set_option maxRecDepth 100000 in
set_option maxHeartbeats 4000000 in
theorem kX2_beginAnew (l : Launch) {g : zGeo} {z : Nat} (hg : zAd g z) {M M' : zM} {j : Nat} (hj : j < 10) {r : Unit} (hF : fX2_beginAnew M j = some (r, M')) : Met l yX2_beginAnew [.code yX2_beginAnew cX2_beginAnew 2 none] { frames := 1, cells := 0, slots := 0, locals := 22 } (zPc g M [.ref (g.1 1 j)]) (zQv g z M') 0 0 (zS z) := by
  refine z_enter (cc := cX2_beginAnew) (maxL := 2) (ret := none) (by decide) rfl (Nat.le_of_ble_eq_true rfl) ?_
  intro p e s m below meth c S hr hlk hK hR hS ls hl
  have S : CallFix p m c cX2_beginAnew 2 s _ zT RX2 := S
  have hl : lv_has ls 2 [(0, .ref (g.1 1 j))] := hl
  have L2 : ∀ (k : zM → Int32 → Option (Unit × zM)) , (∀ (M : zM) (a1 : Int32) (H : Heap) (locs : List Loc), zR g M H → va_S (zS z) s.heap H locs → ∀ ls : Array Slot, lv_has ls 2 [(0, .ref (g.1 1 j)), (1, .int a1)] → k M a1 = some (r, M') → W p l e { frames := 1, cells := 0, slots := 0, locals := 22 } s m ([.ref (g.1 1 j)] : List Value).toArray below meth c H locs 0 0 (MQ below (zQv g z M') ([.ref (g.1 1 j)] : List Value).toArray s 0 0 (zS z)) (F0 m 27 ls [])) → ∀ (n : Nat) (M : zM) (a1 : Int32) (H : Heap) (locs : List Loc), zR g M H → va_S (zS z) s.heap H locs → ∀ ls : Array Slot, lv_has ls 2 [(0, .ref (g.1 1 j)), (1, .int a1)] → fX2_beginAnew_L2 k j n M a1 = some (r, M') → W p l e { frames := 1, cells := 0, slots := 0, locals := 22 } s m ([.ref (g.1 1 j)] : List Value).toArray below meth c H locs 0 0 (MQ below (zQv g z M') ([.ref (g.1 1 j)] : List Value).toArray s 0 0 (zS z)) (F0 m 2 ls []) := by
    intro k  hk n
    induction n with
    | zero =>
      intro M a1 H locs hR hS ls hl hF
      cases hF
    | succ n ih =>
      intro M a1 H locs hR hS ls hl hF
      unfold fX2_beginAnew_L2 at hF
      refine lv_iload_n S.1 S.2.1 dX2_beginAnew_2 rfl (lv_at hl 1 rfl) ?_
      refine lv_bipush (v := 6) S.1 S.2.1 dX2_beginAnew_3 (by decide) ?_
      refine lv_icmp_ge (tgt := 27) S.1 S.2.1 dX2_beginAnew_5 (by decide) (fun hc => ?_) (fun hc => ?_)
      · replace hF := z_ct hF hc
        exact hk _ _ _ _ hR hS _ (lv_sub hl [0, 1] rfl) hF
      · replace hF := z_cf hF hc
        refine lv_aload_n S.1 S.2.1 dX2_beginAnew_8 rfl (lv_at hl 0 rfl) ?_
        refine lv_iload_n S.1 S.2.1 dX2_beginAnew_9 rfl (lv_at hl 1 rfl) ?_
        refine z_goi hS hF (fun _ _ ho => va_runV (C := RX2) (n := 1) (As := [.int a1]) (rest := []) S (kX2_has l hg hj ho) (cwV 1 S.2.2.2.2 (zgV wm_X2_80 oX2_has) rfl rfl rfl hX2_has ⟨Nat.le_of_ble_eq_true rfl, Nat.le_of_ble_eq_true rfl⟩) ⟨zPc_blind, z_recv hK hR hj rfl rfl, z_pre hK hR⟩ rfl rfl hl.1 rfl (lv_room (Nat.le_of_ble_eq_true rfl)) dX2_beginAnew_10 ⟨Nat.zero_le _, Nat.zero_le _⟩) (fun r22 M21 H locs hR hS hF => ?_)
        refine lv_if_eq (tgt := 21) S.1 S.2.1 dX2_beginAnew_13 (by decide) (fun hc => ?_) (fun hc => ?_)
        · replace hF := z_ct hF hc
          obtain ⟨v23, ev23, hF⟩ := zL_out hF
          refine lv_iinc (v := v23) (lv' := [(1, .int v23), (0, .ref (g.1 1 j))]) S.1 S.2.1 dX2_beginAnew_21 hl (k := 1) rfl (by rw [← ev23]; rfl) (by decide) rfl (fun ls hl => ?_)
          refine lv_goto (tgt := 2) S.1 S.2.1 dX2_beginAnew_24 (by decide) ?_
          exact ih _ _ _ _ hR hS _ (lv_sub hl [1, 0] rfl) hF
        · replace hF := z_cf hF hc
          refine lv_aload_n S.1 S.2.1 dX2_beginAnew_16 rfl (lv_at hl 0 rfl) ?_
          refine lv_iload_n S.1 S.2.1 dX2_beginAnew_17 rfl (lv_at hl 1 rfl) ?_
          refine z_gov hS hF (fun _ _ ho => va_runV (C := RX2) (n := 1) (As := [.int a1]) (rest := []) S (kX2_sendUp l hg hj ho) (cwV 1 S.2.2.2.2 (zgV wm_X2_84 oX2_sendUp) rfl rfl rfl hX2_sendUp ⟨Nat.le_of_ble_eq_true rfl, Nat.le_of_ble_eq_true rfl⟩) ⟨zPc_blind, z_recv hK hR hj rfl rfl, z_pre hK hR⟩ rfl rfl hl.1 rfl (lv_room (Nat.le_of_ble_eq_true rfl)) dX2_beginAnew_18 ⟨Nat.zero_le _, Nat.zero_le _⟩) (fun M24 H locs hR hS hF => ?_)
          obtain ⟨v25, ev25, hF⟩ := zL_out hF
          refine lv_iinc (v := v25) (lv' := [(1, .int v25), (0, .ref (g.1 1 j))]) S.1 S.2.1 dX2_beginAnew_21 hl (k := 1) rfl (by rw [← ev25]; rfl) (by decide) rfl (fun ls hl => ?_)
          refine lv_goto (tgt := 2) S.1 S.2.1 dX2_beginAnew_24 (by decide) ?_
          exact ih _ _ _ _ hR hS _ (lv_sub hl [1, 0] rfl) hF
  unfold fX2_beginAnew at hF
  refine lv_iconst (v := 0) S.1 S.2.1 dX2_beginAnew_0 (by decide) ?_
  refine lv_istore_n (lv' := [(1, .int 0), (0, .ref (g.1 1 j))]) S.1 S.2.1 dX2_beginAnew_1 rfl hl (by decide) rfl (fun ls hl => ?_)
  refine L2 _ (fun M26 v27 H locs hR hS ls hl hF => ?_) _ _ _ _ _ hR hS _ (lv_sub hl [1, 0] rfl) hF
  refine lv_aload_n S.1 S.2.1 dX2_beginAnew_27 rfl (lv_at hl 0 rfl) ?_
  refine lv_dup S.1 S.2.1 dX2_beginAnew_28 rfl ?_
  refine z_get (k := 1) (i := j) (f := 2) (v := .int (M26 1 j 2)) S hK hR hj rfl rfl (by decide) wf_X2_58 rfl dX2_beginAnew_29 ?_
  refine lv_iconst (v := 1) S.1 S.2.1 dX2_beginAnew_32 (by decide) ?_
  refine lv_iadd S.1 S.2.1 dX2_beginAnew_33 ?_
  refine z_put (k := 1) (i := j) (f := 2) (ty := .int) S hg hK hR hS hF hj rfl rfl rfl (by decide) wf_X2_58 rfl (by decide +kernel) rfl rfl (Nat.le_of_ble_eq_true rfl) dX2_beginAnew_34 (fun H locs M28 hR hS hF => ?_)
  exact z_vret S hr hlk hR hS hF dX2_beginAnew_37
theorem hX2_turn : yX2_turn.cls = RX2 ∧ yX2_turn.cls ≠ "java/lang/invoke/MethodHandle" ∧ yX2_turn.cls ≠ "java/lang/invoke/VarHandle" ∧ (parseMethodDescriptor yX2_turn.desc).map (fun d => d.parameters.length) = some 3 := by decide +kernel
theorem oX2_turn : Cond.instanceMethod yX2_turn ∈ zT ∧ Cond.selects RX2 yX2_turn yX2_turn ∈ zT ∧ Cond.initialized RX2 ∈ zT ∧ Cond.code yX2_turn cX2_turn 5 (some .int) ∈ zT := ⟨wv_X2_turn, we_X2_turn, wi_X2, wk_X2_turn⟩
set_option maxRecDepth 100000 in
set_option maxHeartbeats 4000000 in
theorem kX2_turn (l : Launch) {g : zGeo} {z : Nat} (hg : zAd g z) {M M' : zM} {j : Nat} (hj : j < 10) {v1 : Int32} {v2 : Int32} {v3 : Int32} {r : Int32} (hF : fX2_turn M j v1 v2 v3 = some (r, M')) : Met l yX2_turn [.code yX2_turn cX2_turn 5 (some .int)] { frames := 1, cells := 0, slots := 0, locals := 21 } (zPc g M [.ref (g.1 1 j), .int v1, .int v2, .int v3]) (zQi g z r M') 0 0 (zS z) := by
  refine z_enter (cc := cX2_turn) (maxL := 5) (ret := (some .int)) (by decide) rfl (Nat.le_of_ble_eq_true rfl) ?_
  intro p e s m below meth c S hr hlk hK hR hS ls hl
  have S : CallFix p m c cX2_turn 5 s _ zT RX2 := S
  have hl : lv_has ls 5 [(0, .ref (g.1 1 j)), (1, .int v1), (2, .int v2), (3, .int v3)] := hl
  unfold fX2_turn at hF
  refine lv_bipush (v := 10) S.1 S.2.1 dX2_turn_0 (by decide) ?_
  refine lv_iload_n S.1 S.2.1 dX2_turn_2 rfl (lv_at hl 2 rfl) ?_
  refine lv_aload_n S.1 S.2.1 dX2_turn_3 rfl (lv_at hl 0 rfl) ?_
  refine z_get (k := 1) (i := j) (f := 7) (v := .ref (g.1 5 j)) S hK hR hj rfl rfl (by decide) wf_X2_21 rfl dX2_turn_4 ?_
  refine lv_iload_n S.1 S.2.1 dX2_turn_7 rfl (lv_at hl 1 rfl) ?_
  refine z_iald (k := 5) (i := j) (n := 6) S hK hR hF hj rfl dX2_turn_8 (fun hF => ?_)
  refine lv_isub S.1 S.2.1 dX2_turn_9 ?_
  refine z_mabs S hl (S.2.2.2.2 _ wm_X2_88) (S.2.2.2.2 _ ws_JM_abs) (S.2.2.2.2 _ wi_JM) (S.2.2.2.2 _ wk_abs) (Nat.le_of_ble_eq_true rfl) (Nat.le_of_ble_eq_true rfl) (Nat.zero_le _) (Nat.zero_le _) dX2_turn_10 ?_
  refine lv_imul S.1 S.2.1 dX2_turn_13 ?_
  refine lv_iload_n S.1 S.2.1 dX2_turn_14 rfl (lv_at hl 3 rfl) ?_
  refine lv_aload_n S.1 S.2.1 dX2_turn_15 rfl (lv_at hl 0 rfl) ?_
  refine z_get (k := 1) (i := j) (f := 8) (v := .ref (g.1 6 j)) S hK hR hj rfl rfl (by decide) wf_X2_24 rfl dX2_turn_16 ?_
  refine lv_iload_n S.1 S.2.1 dX2_turn_19 rfl (lv_at hl 1 rfl) ?_
  refine z_iald (k := 6) (i := j) (n := 6) S hK hR hF hj rfl dX2_turn_20 (fun hF => ?_)
  refine lv_isub S.1 S.2.1 dX2_turn_21 ?_
  refine z_mabs S hl (S.2.2.2.2 _ wm_X2_88) (S.2.2.2.2 _ ws_JM_abs) (S.2.2.2.2 _ wi_JM) (S.2.2.2.2 _ wk_abs) (Nat.le_of_ble_eq_true rfl) (Nat.le_of_ble_eq_true rfl) (Nat.zero_le _) (Nat.zero_le _) dX2_turn_22 ?_
  refine lv_iadd S.1 S.2.1 dX2_turn_25 ?_
  refine z_nm hF (fun v21 hF => ?_)
  refine lv_istore (lv' := [(4, .int v21), (0, .ref (g.1 1 j)), (1, .int v1), (2, .int v2), (3, .int v3)]) S.1 S.2.1 dX2_turn_26 hl (by decide) rfl (fun ls hl => ?_)
  refine lv_aload_n S.1 S.2.1 dX2_turn_28 rfl (lv_at hl 1 rfl) ?_
  refine z_get (k := 1) (i := j) (f := 7) (v := .ref (g.1 5 j)) S hK hR hj rfl rfl (by decide) wf_X2_21 rfl dX2_turn_29 ?_
  refine lv_iload_n S.1 S.2.1 dX2_turn_32 rfl (lv_at hl 2 rfl) ?_
  refine lv_iload_n S.1 S.2.1 dX2_turn_33 rfl (lv_at hl 3 rfl) ?_
  refine z_iast (k := 5) (i := j) (n := 6) S hg hK hR hS hF hj rfl dX2_turn_34 (fun H locs M22 hR hS hF => ?_)
  refine lv_aload_n S.1 S.2.1 dX2_turn_35 rfl (lv_at hl 1 rfl) ?_
  refine z_get (k := 1) (i := j) (f := 8) (v := .ref (g.1 6 j)) S hK hR hj rfl rfl (by decide) wf_X2_24 rfl dX2_turn_36 ?_
  refine lv_iload_n S.1 S.2.1 dX2_turn_39 rfl (lv_at hl 2 rfl) ?_
  refine lv_iload_n S.1 S.2.1 dX2_turn_40 rfl (lv_at hl 4 rfl) ?_
  refine z_iast (k := 6) (i := j) (n := 6) S hg hK hR hS hF hj rfl dX2_turn_41 (fun H locs M23 hR hS hF => ?_)
  refine lv_iload S.1 S.2.1 dX2_turn_42 (lv_at hl 0 rfl) ?_
  exact z_iret S hr hlk hR hS hF dX2_turn_44
theorem hX6_isWithin : yX6_isWithin.cls = RX6 ∧ yX6_isWithin.cls ≠ "java/lang/invoke/MethodHandle" ∧ yX6_isWithin.cls ≠ "java/lang/invoke/VarHandle" ∧ (parseMethodDescriptor yX6_isWithin.desc).map (fun d => d.parameters.length) = some 3 := by decide +kernel
theorem oX6_isWithin : Cond.static yX6_isWithin ∈ zT ∧ Cond.initialized RX6 ∈ zT ∧ Cond.code yX6_isWithin cX6_isWithin 3 (some .boolean) ∈ zT := ⟨ws_X6_isWithin, wi_X6, wk_X6_isWithin⟩
set_option maxRecDepth 100000 in
set_option maxHeartbeats 4000000 in
theorem kX6_isWithin (l : Launch) {g : zGeo} {z : Nat} (hg : zAd g z) {M M' : zM} {v0 : Int32} {v1 : Int32} {v2 : Int32} {r : Int32} (hF : fX6_isWithin M v0 v1 v2 = some (r, M')) : Met l yX6_isWithin [.code yX6_isWithin cX6_isWithin 3 (some .boolean)] { frames := 0, cells := 0, slots := 0, locals := 0 } (zPc g M [.int v0, .int v1, .int v2]) (zQi g z r M') 0 0 (zS z) := by
  refine z_enter (cc := cX6_isWithin) (maxL := 3) (ret := (some .boolean)) (by decide) rfl (Nat.le_of_ble_eq_true rfl) ?_
  intro p e s m below meth c S hr hlk hK hR hS ls hl
  have S : CallFix p m c cX6_isWithin 3 s _ zT RX6 := S
  have hl : lv_has ls 3 [(0, .int v0), (1, .int v1), (2, .int v2)] := hl
  unfold fX6_isWithin at hF
  refine lv_iload_n S.1 S.2.1 dX6_isWithin_0 rfl (lv_at hl 0 rfl) ?_
  refine lv_iload_n S.1 S.2.1 dX6_isWithin_1 rfl (lv_at hl 1 rfl) ?_
  refine lv_icmp_lt (tgt := 14) S.1 S.2.1 dX6_isWithin_2 (by decide) (fun hc => ?_) (fun hc => ?_)
  · replace hF := z_ct hF hc
    refine lv_iconst (v := 0) S.1 S.2.1 dX6_isWithin_14 (by decide) ?_
    exact z_zretc S hr hlk hR hS (by decide) hF dX6_isWithin_15
  · replace hF := z_cf hF hc
    refine lv_iload_n S.1 S.2.1 dX6_isWithin_5 rfl (lv_at hl 0 rfl) ?_
    refine lv_iload_n S.1 S.2.1 dX6_isWithin_6 rfl (lv_at hl 2 rfl) ?_
    refine lv_icmp_gt (tgt := 14) S.1 S.2.1 dX6_isWithin_7 (by decide) (fun hc => ?_) (fun hc => ?_)
    · replace hF := z_ct hF hc
      refine lv_iconst (v := 0) S.1 S.2.1 dX6_isWithin_14 (by decide) ?_
      exact z_zretc S hr hlk hR hS (by decide) hF dX6_isWithin_15
    · replace hF := z_cf hF hc
      refine lv_iconst (v := 1) S.1 S.2.1 dX6_isWithin_10 (by decide) ?_
      refine lv_goto (tgt := 15) S.1 S.2.1 dX6_isWithin_11 (by decide) ?_
      exact z_zretc S hr hlk hR hS (by decide) hF dX6_isWithin_15
theorem hX2_move : yX2_move.cls = RX2 ∧ yX2_move.cls ≠ "java/lang/invoke/MethodHandle" ∧ yX2_move.cls ≠ "java/lang/invoke/VarHandle" ∧ (parseMethodDescriptor yX2_move.desc).map (fun d => d.parameters.length) = some 1 := by decide +kernel
theorem oX2_move : Cond.instanceMethod yX2_move ∈ zT ∧ Cond.selects RX2 yX2_move yX2_move ∈ zT ∧ Cond.initialized RX2 ∈ zT ∧ Cond.code yX2_move cX2_move 4 none ∈ zT := ⟨wv_X2_move, we_X2_move, wi_X2, wk_X2_move⟩
set_option maxRecDepth 100000 in
set_option maxHeartbeats 4000000 in
theorem kX2_move (l : Launch) {g : zGeo} {z : Nat} (hg : zAd g z) {M M' : zM} {j : Nat} (hj : j < 10) {v1 : Int32} {r : Unit} (hF : fX2_move M j v1 = some (r, M')) : Met l yX2_move [.code yX2_move cX2_move 4 none] { frames := 1, cells := 0, slots := 0, locals := 22 } (zPc g M [.ref (g.1 1 j), .int v1]) (zQv g z M') 0 0 (zS z) := by
  refine z_enter (cc := cX2_move) (maxL := 4) (ret := none) (by decide) rfl (Nat.le_of_ble_eq_true rfl) ?_
  intro p e s m below meth c S hr hlk hK hR hS ls hl
  have S : CallFix p m c cX2_move 4 s _ zT RX2 := S
  have hl : lv_has ls 4 [(0, .ref (g.1 1 j)), (1, .int v1)] := hl
  unfold fX2_move at hF
  refine lv_aload_n S.1 S.2.1 dX2_move_0 rfl (lv_at hl 0 rfl) ?_
  refine z_get (k := 1) (i := j) (f := 5) (v := .ref (g.1 3 j)) S hK hR hj rfl rfl (by decide) wf_X2_15 rfl dX2_move_1 ?_
  refine lv_iload_n S.1 S.2.1 dX2_move_4 rfl (lv_at hl 1 rfl) ?_
  refine z_iald (k := 3) (i := j) (n := 6) S hK hR hF hj rfl dX2_move_5 (fun hF => ?_)
  refine lv_aload_n S.1 S.2.1 dX2_move_6 rfl (lv_at hl 0 rfl) ?_
  refine z_get (k := 1) (i := j) (f := 7) (v := .ref (g.1 5 j)) S hK hR hj rfl rfl (by decide) wf_X2_21 rfl dX2_move_7 ?_
  refine lv_iload_n S.1 S.2.1 dX2_move_10 rfl (lv_at hl 1 rfl) ?_
  refine z_iald (k := 5) (i := j) (n := 6) S hK hR hF hj rfl dX2_move_11 (fun hF => ?_)
  refine lv_iadd S.1 S.2.1 dX2_move_12 ?_
  refine z_nm hF (fun v21 hF => ?_)
  refine lv_istore_n (lv' := [(2, .int v21), (0, .ref (g.1 1 j)), (1, .int v1)]) S.1 S.2.1 dX2_move_13 rfl hl (by decide) rfl (fun ls hl => ?_)
  refine lv_iload_n S.1 S.2.1 dX2_move_14 rfl (lv_at hl 0 rfl) ?_
  refine lv_iconst (v := 0) S.1 S.2.1 dX2_move_15 (by decide) ?_
  refine lv_bipush (v := 63) S.1 S.2.1 dX2_move_16 (by decide) ?_
  refine z_goi hS hF (fun _ _ ho => va_runSN (n := 3) (As := [.int v21, .int 0, .int 63]) (rest := []) S (kX6_isWithin l hg ho) ⟨va_cnB 3 S.2.2.2.2 (zgN wk_X6_isWithin) rfl rfl rfl (hK.2.2 _ zNest_1) (S.2.2.2.2 _ wi_X6) hX6_isWithin.2 ⟨Nat.le_of_ble_eq_true rfl, Nat.le_of_ble_eq_true rfl⟩, S.2.2.2.2 _ ws_X6_isWithin, trivial⟩ ⟨zPc_blind, z_pre hK hR⟩ rfl rfl hl.1 rfl (lv_room (Nat.le_of_ble_eq_true rfl)) dX2_move_18 ⟨Nat.zero_le _, Nat.zero_le _⟩) (fun r23 M22 H locs hR hS hF => ?_)
  refine lv_if_eq (tgt := 34) S.1 S.2.1 dX2_move_21 (by decide) (fun hc => ?_) (fun hc => ?_)
  · replace hF := z_ct hF hc
    refine lv_aload_n S.1 S.2.1 dX2_move_34 rfl (lv_at hl 1 rfl) ?_
    refine z_get (k := 1) (i := j) (f := 7) (v := .ref (g.1 5 j)) S hK hR hj rfl rfl (by decide) wf_X2_21 rfl dX2_move_35 ?_
    refine lv_iload_n S.1 S.2.1 dX2_move_38 rfl (lv_at hl 2 rfl) ?_
    refine lv_aload_n S.1 S.2.1 dX2_move_39 rfl (lv_at hl 1 rfl) ?_
    refine z_get (k := 1) (i := j) (f := 7) (v := .ref (g.1 5 j)) S hK hR hj rfl rfl (by decide) wf_X2_21 rfl dX2_move_40 ?_
    refine lv_iload_n S.1 S.2.1 dX2_move_43 rfl (lv_at hl 2 rfl) ?_
    refine z_iald (k := 5) (i := j) (n := 6) S hK hR hF hj rfl dX2_move_44 (fun hF => ?_)
    refine lv_ineg S.1 S.2.1 dX2_move_45 ?_
    refine z_iast (k := 5) (i := j) (n := 6) S hg hK hR hS hF hj rfl dX2_move_46 (fun H locs M24 hR hS hF => ?_)
    refine lv_aload_n S.1 S.2.1 dX2_move_47 rfl (lv_at hl 1 rfl) ?_
    refine z_get (k := 1) (i := j) (f := 6) (v := .ref (g.1 4 j)) S hK hR hj rfl rfl (by decide) wf_X2_18 rfl dX2_move_48 ?_
    refine lv_iload_n S.1 S.2.1 dX2_move_51 rfl (lv_at hl 2 rfl) ?_
    refine z_iald (k := 4) (i := j) (n := 6) S hK hR hF hj rfl dX2_move_52 (fun hF => ?_)
    refine lv_aload_n S.1 S.2.1 dX2_move_53 rfl (lv_at hl 1 rfl) ?_
    refine z_get (k := 1) (i := j) (f := 8) (v := .ref (g.1 6 j)) S hK hR hj rfl rfl (by decide) wf_X2_24 rfl dX2_move_54 ?_
    refine lv_iload_n S.1 S.2.1 dX2_move_57 rfl (lv_at hl 2 rfl) ?_
    refine z_iald (k := 6) (i := j) (n := 6) S hK hR hF hj rfl dX2_move_58 (fun hF => ?_)
    refine lv_iadd S.1 S.2.1 dX2_move_59 ?_
    refine z_nm hF (fun v25 hF => ?_)
    refine lv_istore_n (lv' := [(3, .int v25), (2, .int v21), (0, .ref (g.1 1 j)), (1, .int v1)]) S.1 S.2.1 dX2_move_60 rfl hl (by decide) rfl (fun ls hl => ?_)
    refine lv_iload_n S.1 S.2.1 dX2_move_61 rfl (lv_at hl 0 rfl) ?_
    refine lv_iconst (v := 1) S.1 S.2.1 dX2_move_62 (by decide) ?_
    refine lv_bipush (v := 47) S.1 S.2.1 dX2_move_63 (by decide) ?_
    refine z_goi hS hF (fun _ _ ho => va_runSN (n := 3) (As := [.int v25, .int 1, .int 47]) (rest := []) S (kX6_isWithin l hg ho) ⟨va_cnB 3 S.2.2.2.2 (zgN wk_X6_isWithin) rfl rfl rfl (hK.2.2 _ zNest_1) (S.2.2.2.2 _ wi_X6) hX6_isWithin.2 ⟨Nat.le_of_ble_eq_true rfl, Nat.le_of_ble_eq_true rfl⟩, S.2.2.2.2 _ ws_X6_isWithin, trivial⟩ ⟨zPc_blind, z_pre hK hR⟩ rfl rfl hl.1 rfl (lv_room (Nat.le_of_ble_eq_true rfl)) dX2_move_65 ⟨Nat.zero_le _, Nat.zero_le _⟩) (fun r27 M26 H locs hR hS hF => ?_)
    refine lv_if_eq (tgt := 81) S.1 S.2.1 dX2_move_68 (by decide) (fun hc => ?_) (fun hc => ?_)
    · replace hF := z_ct hF hc
      refine lv_aload_n S.1 S.2.1 dX2_move_81 rfl (lv_at hl 2 rfl) ?_
      refine z_get (k := 1) (i := j) (f := 8) (v := .ref (g.1 6 j)) S hK hR hj rfl rfl (by decide) wf_X2_24 rfl dX2_move_82 ?_
      refine lv_iload_n S.1 S.2.1 dX2_move_85 rfl (lv_at hl 3 rfl) ?_
      refine lv_aload_n S.1 S.2.1 dX2_move_86 rfl (lv_at hl 2 rfl) ?_
      refine z_get (k := 1) (i := j) (f := 8) (v := .ref (g.1 6 j)) S hK hR hj rfl rfl (by decide) wf_X2_24 rfl dX2_move_87 ?_
      refine lv_iload_n S.1 S.2.1 dX2_move_90 rfl (lv_at hl 3 rfl) ?_
      refine z_iald (k := 6) (i := j) (n := 6) S hK hR hF hj rfl dX2_move_91 (fun hF => ?_)
      refine lv_ineg S.1 S.2.1 dX2_move_92 ?_
      refine z_iast (k := 6) (i := j) (n := 6) S hg hK hR hS hF hj rfl dX2_move_93 (fun H locs M28 hR hS hF => ?_)
      exact z_vret S hr hlk hR hS hF dX2_move_94
    · replace hF := z_cf hF hc
      refine lv_aload_n S.1 S.2.1 dX2_move_71 rfl (lv_at hl 2 rfl) ?_
      refine z_get (k := 1) (i := j) (f := 6) (v := .ref (g.1 4 j)) S hK hR hj rfl rfl (by decide) wf_X2_18 rfl dX2_move_72 ?_
      refine lv_iload_n S.1 S.2.1 dX2_move_75 rfl (lv_at hl 3 rfl) ?_
      refine lv_iload_n S.1 S.2.1 dX2_move_76 rfl (lv_at hl 0 rfl) ?_
      refine z_iast (k := 4) (i := j) (n := 6) S hg hK hR hS hF hj rfl dX2_move_77 (fun H locs M29 hR hS hF => ?_)
      refine lv_goto (tgt := 94) S.1 S.2.1 dX2_move_78 (by decide) ?_
      exact z_vret S hr hlk hR hS hF dX2_move_94
  · replace hF := z_cf hF hc
    refine lv_aload_n S.1 S.2.1 dX2_move_24 rfl (lv_at hl 1 rfl) ?_
    refine z_get (k := 1) (i := j) (f := 5) (v := .ref (g.1 3 j)) S hK hR hj rfl rfl (by decide) wf_X2_15 rfl dX2_move_25 ?_
    refine lv_iload_n S.1 S.2.1 dX2_move_28 rfl (lv_at hl 2 rfl) ?_
    refine lv_iload_n S.1 S.2.1 dX2_move_29 rfl (lv_at hl 0 rfl) ?_
    refine z_iast (k := 3) (i := j) (n := 6) S hg hK hR hS hF hj rfl dX2_move_30 (fun H locs M30 hR hS hF => ?_)
    refine lv_goto (tgt := 47) S.1 S.2.1 dX2_move_31 (by decide) ?_
    refine lv_aload_n S.1 S.2.1 dX2_move_47 rfl (lv_at hl 1 rfl) ?_
    refine z_get (k := 1) (i := j) (f := 6) (v := .ref (g.1 4 j)) S hK hR hj rfl rfl (by decide) wf_X2_18 rfl dX2_move_48 ?_
    refine lv_iload_n S.1 S.2.1 dX2_move_51 rfl (lv_at hl 2 rfl) ?_
    refine z_iald (k := 4) (i := j) (n := 6) S hK hR hF hj rfl dX2_move_52 (fun hF => ?_)
    refine lv_aload_n S.1 S.2.1 dX2_move_53 rfl (lv_at hl 1 rfl) ?_
    refine z_get (k := 1) (i := j) (f := 8) (v := .ref (g.1 6 j)) S hK hR hj rfl rfl (by decide) wf_X2_24 rfl dX2_move_54 ?_
    refine lv_iload_n S.1 S.2.1 dX2_move_57 rfl (lv_at hl 2 rfl) ?_
    refine z_iald (k := 6) (i := j) (n := 6) S hK hR hF hj rfl dX2_move_58 (fun hF => ?_)
    refine lv_iadd S.1 S.2.1 dX2_move_59 ?_
    refine z_nm hF (fun v31 hF => ?_)
    refine lv_istore_n (lv' := [(3, .int v31), (2, .int v21), (0, .ref (g.1 1 j)), (1, .int v1)]) S.1 S.2.1 dX2_move_60 rfl hl (by decide) rfl (fun ls hl => ?_)
    refine lv_iload_n S.1 S.2.1 dX2_move_61 rfl (lv_at hl 0 rfl) ?_
    refine lv_iconst (v := 1) S.1 S.2.1 dX2_move_62 (by decide) ?_
    refine lv_bipush (v := 47) S.1 S.2.1 dX2_move_63 (by decide) ?_
    refine z_goi hS hF (fun _ _ ho => va_runSN (n := 3) (As := [.int v31, .int 1, .int 47]) (rest := []) S (kX6_isWithin l hg ho) ⟨va_cnB 3 S.2.2.2.2 (zgN wk_X6_isWithin) rfl rfl rfl (hK.2.2 _ zNest_1) (S.2.2.2.2 _ wi_X6) hX6_isWithin.2 ⟨Nat.le_of_ble_eq_true rfl, Nat.le_of_ble_eq_true rfl⟩, S.2.2.2.2 _ ws_X6_isWithin, trivial⟩ ⟨zPc_blind, z_pre hK hR⟩ rfl rfl hl.1 rfl (lv_room (Nat.le_of_ble_eq_true rfl)) dX2_move_65 ⟨Nat.zero_le _, Nat.zero_le _⟩) (fun r33 M32 H locs hR hS hF => ?_)
    refine lv_if_eq (tgt := 81) S.1 S.2.1 dX2_move_68 (by decide) (fun hc => ?_) (fun hc => ?_)
    · replace hF := z_ct hF hc
      refine lv_aload_n S.1 S.2.1 dX2_move_81 rfl (lv_at hl 2 rfl) ?_
      refine z_get (k := 1) (i := j) (f := 8) (v := .ref (g.1 6 j)) S hK hR hj rfl rfl (by decide) wf_X2_24 rfl dX2_move_82 ?_
      refine lv_iload_n S.1 S.2.1 dX2_move_85 rfl (lv_at hl 3 rfl) ?_
      refine lv_aload_n S.1 S.2.1 dX2_move_86 rfl (lv_at hl 2 rfl) ?_
      refine z_get (k := 1) (i := j) (f := 8) (v := .ref (g.1 6 j)) S hK hR hj rfl rfl (by decide) wf_X2_24 rfl dX2_move_87 ?_
      refine lv_iload_n S.1 S.2.1 dX2_move_90 rfl (lv_at hl 3 rfl) ?_
      refine z_iald (k := 6) (i := j) (n := 6) S hK hR hF hj rfl dX2_move_91 (fun hF => ?_)
      refine lv_ineg S.1 S.2.1 dX2_move_92 ?_
      refine z_iast (k := 6) (i := j) (n := 6) S hg hK hR hS hF hj rfl dX2_move_93 (fun H locs M34 hR hS hF => ?_)
      exact z_vret S hr hlk hR hS hF dX2_move_94
    · replace hF := z_cf hF hc
      refine lv_aload_n S.1 S.2.1 dX2_move_71 rfl (lv_at hl 2 rfl) ?_
      refine z_get (k := 1) (i := j) (f := 6) (v := .ref (g.1 4 j)) S hK hR hj rfl rfl (by decide) wf_X2_18 rfl dX2_move_72 ?_
      refine lv_iload_n S.1 S.2.1 dX2_move_75 rfl (lv_at hl 3 rfl) ?_
      refine lv_iload_n S.1 S.2.1 dX2_move_76 rfl (lv_at hl 0 rfl) ?_
      refine z_iast (k := 4) (i := j) (n := 6) S hg hK hR hS hF hj rfl dX2_move_77 (fun H locs M35 hR hS hF => ?_)
      refine lv_goto (tgt := 94) S.1 S.2.1 dX2_move_78 (by decide) ?_
      exact z_vret S hr hlk hR hS hF dX2_move_94
theorem hX2_sliding : yX2_sliding.cls = RX2 ∧ yX2_sliding.cls ≠ "java/lang/invoke/MethodHandle" ∧ yX2_sliding.cls ≠ "java/lang/invoke/VarHandle" ∧ (parseMethodDescriptor yX2_sliding.desc).map (fun d => d.parameters.length) = some 2 := by decide +kernel
theorem oX2_sliding : Cond.instanceMethod yX2_sliding ∈ zT ∧ Cond.selects RX2 yX2_sliding yX2_sliding ∈ zT ∧ Cond.initialized RX2 ∈ zT ∧ Cond.code yX2_sliding cX2_sliding 3 (some .int) ∈ zT := ⟨wv_X2_sliding, we_X2_sliding, wi_X2, wk_X2_sliding⟩
set_option maxRecDepth 100000 in
set_option maxHeartbeats 4000000 in
theorem kX2_sliding (l : Launch) {g : zGeo} {z : Nat} (hg : zAd g z) {M M' : zM} {j : Nat} (hj : j < 10) {v1 : Int32} {v2 : Int32} {r : Int32} (hF : fX2_sliding M j v1 v2 = some (r, M')) : Met l yX2_sliding [.code yX2_sliding cX2_sliding 3 (some .int)] { frames := 1, cells := 0, slots := 0, locals := 21 } (zPc g M [.ref (g.1 1 j), .int v1, .int v2]) (zQi g z r M') 0 0 (zS z) := by
  refine z_enter (cc := cX2_sliding) (maxL := 3) (ret := (some .int)) (by decide) rfl (Nat.le_of_ble_eq_true rfl) ?_
  intro p e s m below meth c S hr hlk hK hR hS ls hl
  have S : CallFix p m c cX2_sliding 3 s _ zT RX2 := S
  have hl : lv_has ls 3 [(0, .ref (g.1 1 j)), (1, .int v1), (2, .int v2)] := hl
  unfold fX2_sliding at hF
  refine lv_iconst (v := 1) S.1 S.2.1 dX2_sliding_0 (by decide) ?_
  refine lv_aload_n S.1 S.2.1 dX2_sliding_1 rfl (lv_at hl 0 rfl) ?_
  refine z_get (k := 1) (i := j) (f := 7) (v := .ref (g.1 5 j)) S hK hR hj rfl rfl (by decide) wf_X2_21 rfl dX2_sliding_2 ?_
  refine lv_iload_n S.1 S.2.1 dX2_sliding_5 rfl (lv_at hl 1 rfl) ?_
  refine z_iald (k := 5) (i := j) (n := 6) S hK hR hF hj rfl dX2_sliding_6 (fun hF => ?_)
  refine lv_aload_n S.1 S.2.1 dX2_sliding_7 rfl (lv_at hl 0 rfl) ?_
  refine z_get (k := 1) (i := j) (f := 7) (v := .ref (g.1 5 j)) S hK hR hj rfl rfl (by decide) wf_X2_21 rfl dX2_sliding_8 ?_
  refine lv_iload_n S.1 S.2.1 dX2_sliding_11 rfl (lv_at hl 2 rfl) ?_
  refine z_iald (k := 5) (i := j) (n := 6) S hK hR hF hj rfl dX2_sliding_12 (fun hF => ?_)
  refine lv_isub S.1 S.2.1 dX2_sliding_13 ?_
  refine z_mabs S hl (S.2.2.2.2 _ wm_X2_88) (S.2.2.2.2 _ ws_JM_abs) (S.2.2.2.2 _ wi_JM) (S.2.2.2.2 _ wk_abs) (Nat.le_of_ble_eq_true rfl) (Nat.le_of_ble_eq_true rfl) (Nat.zero_le _) (Nat.zero_le _) dX2_sliding_14 ?_
  refine lv_iadd S.1 S.2.1 dX2_sliding_17 ?_
  refine lv_aload_n S.1 S.2.1 dX2_sliding_18 rfl (lv_at hl 0 rfl) ?_
  refine z_get (k := 1) (i := j) (f := 8) (v := .ref (g.1 6 j)) S hK hR hj rfl rfl (by decide) wf_X2_24 rfl dX2_sliding_19 ?_
  refine lv_iload_n S.1 S.2.1 dX2_sliding_22 rfl (lv_at hl 1 rfl) ?_
  refine z_iald (k := 6) (i := j) (n := 6) S hK hR hF hj rfl dX2_sliding_23 (fun hF => ?_)
  refine lv_aload_n S.1 S.2.1 dX2_sliding_24 rfl (lv_at hl 0 rfl) ?_
  refine z_get (k := 1) (i := j) (f := 8) (v := .ref (g.1 6 j)) S hK hR hj rfl rfl (by decide) wf_X2_24 rfl dX2_sliding_25 ?_
  refine lv_iload_n S.1 S.2.1 dX2_sliding_28 rfl (lv_at hl 2 rfl) ?_
  refine z_iald (k := 6) (i := j) (n := 6) S hK hR hF hj rfl dX2_sliding_29 (fun hF => ?_)
  refine lv_isub S.1 S.2.1 dX2_sliding_30 ?_
  refine z_mabs S hl (S.2.2.2.2 _ wm_X2_88) (S.2.2.2.2 _ ws_JM_abs) (S.2.2.2.2 _ wi_JM) (S.2.2.2.2 _ wk_abs) (Nat.le_of_ble_eq_true rfl) (Nat.le_of_ble_eq_true rfl) (Nat.zero_le _) (Nat.zero_le _) dX2_sliding_31 ?_
  refine lv_iadd S.1 S.2.1 dX2_sliding_34 ?_
  exact z_iret S hr hlk hR hS hF dX2_sliding_35
theorem hX2_rubbing : yX2_rubbing.cls = RX2 ∧ yX2_rubbing.cls ≠ "java/lang/invoke/MethodHandle" ∧ yX2_rubbing.cls ≠ "java/lang/invoke/VarHandle" ∧ (parseMethodDescriptor yX2_rubbing.desc).map (fun d => d.parameters.length) = some 3 := by decide +kernel
theorem oX2_rubbing : Cond.instanceMethod yX2_rubbing ∈ zT ∧ Cond.selects RX2 yX2_rubbing yX2_rubbing ∈ zT ∧ Cond.initialized RX2 ∈ zT ∧ Cond.code yX2_rubbing cX2_rubbing 5 (some .int) ∈ zT := ⟨wv_X2_rubbing, we_X2_rubbing, wi_X2, wk_X2_rubbing⟩
set_option maxRecDepth 100000 in
set_option maxHeartbeats 4000000 in
theorem kX2_rubbing (l : Launch) {g : zGeo} {z : Nat} (hg : zAd g z) {M M' : zM} {j : Nat} (hj : j < 10) {v1 : Int32} {v2 : Int32} {v3 : Int32} {r : Int32} (hF : fX2_rubbing M j v1 v2 v3 = some (r, M')) : Met l yX2_rubbing [.code yX2_rubbing cX2_rubbing 5 (some .int)] { frames := 2, cells := 0, slots := 0, locals := 43 } (zPc g M [.ref (g.1 1 j), .int v1, .int v2, .int v3]) (zQi g z r M') 0 0 (zS z) := by
  refine z_enter (cc := cX2_rubbing) (maxL := 5) (ret := (some .int)) (by decide) rfl (Nat.le_of_ble_eq_true rfl) ?_
  intro p e s m below meth c S hr hlk hK hR hS ls hl
  have S : CallFix p m c cX2_rubbing 5 s _ zT RX2 := S
  have hl : lv_has ls 5 [(0, .ref (g.1 1 j)), (1, .int v1), (2, .int v2), (3, .int v3)] := hl
  unfold fX2_rubbing at hF
  refine lv_aload_n S.1 S.2.1 dX2_rubbing_0 rfl (lv_at hl 0 rfl) ?_
  refine z_get (k := 1) (i := j) (f := 9) (v := .ref (g.1 7 j)) S hK hR hj rfl rfl (by decide) wf_X2_27 rfl dX2_rubbing_1 ?_
  refine lv_iload_n S.1 S.2.1 dX2_rubbing_4 rfl (lv_at hl 2 rfl) ?_
  refine z_iald (k := 7) (i := j) (n := 6) S hK hR hF hj rfl dX2_rubbing_5 (fun hF => ?_)
  refine lv_aload_n S.1 S.2.1 dX2_rubbing_6 rfl (lv_at hl 0 rfl) ?_
  refine lv_iload_n S.1 S.2.1 dX2_rubbing_7 rfl (lv_at hl 1 rfl) ?_
  refine lv_iload_n S.1 S.2.1 dX2_rubbing_8 rfl (lv_at hl 2 rfl) ?_
  refine z_goi hS hF (fun _ _ ho => va_runV (C := RX2) (n := 2) (As := [.int v1, .int v2]) (rest := [.int (M 7 j (zN v2))]) S (kX2_sliding l hg hj ho) (cwV 2 S.2.2.2.2 (zgV wm_X2_96 oX2_sliding) rfl rfl rfl hX2_sliding ⟨Nat.le_of_ble_eq_true rfl, Nat.le_of_ble_eq_true rfl⟩) ⟨zPc_blind, z_recv hK hR hj rfl rfl, z_pre hK hR⟩ rfl rfl hl.1 rfl (lv_room (Nat.le_of_ble_eq_true rfl)) dX2_rubbing_9 ⟨Nat.zero_le _, Nat.zero_le _⟩) (fun r22 M21 H locs hR hS hF => ?_)
  refine lv_imul S.1 S.2.1 dX2_rubbing_12 ?_
  refine z_nm hF (fun v23 hF => ?_)
  refine lv_istore (lv' := [(4, .int v23), (0, .ref (g.1 1 j)), (1, .int v1), (2, .int v2), (3, .int v3)]) S.1 S.2.1 dX2_rubbing_13 hl (by decide) rfl (fun ls hl => ?_)
  refine lv_iload_n S.1 S.2.1 dX2_rubbing_15 rfl (lv_at hl 4 rfl) ?_
  refine lv_if_eq (tgt := 26) S.1 S.2.1 dX2_rubbing_16 (by decide) (fun hc => ?_) (fun hc => ?_)
  · replace hF := z_ct hF hc
    refine lv_iload S.1 S.2.1 dX2_rubbing_26 (lv_at hl 0 rfl) ?_
    exact z_iret S hr hlk hR hS hF dX2_rubbing_28
  · replace hF := z_cf hF hc
    refine lv_iconst (v := 2) S.1 S.2.1 dX2_rubbing_19 (by decide) ?_
    refine lv_iload S.1 S.2.1 dX2_rubbing_20 (lv_at hl 0 rfl) ?_
    refine lv_imul S.1 S.2.1 dX2_rubbing_22 ?_
    refine lv_goto (tgt := 28) S.1 S.2.1 dX2_rubbing_23 (by decide) ?_
    exact z_iret S hr hlk hR hS hF dX2_rubbing_28
theorem hX2_wearAt : yX2_wearAt.cls = RX2 ∧ yX2_wearAt.cls ≠ "java/lang/invoke/MethodHandle" ∧ yX2_wearAt.cls ≠ "java/lang/invoke/VarHandle" ∧ (parseMethodDescriptor yX2_wearAt.desc).map (fun d => d.parameters.length) = some 2 := by decide +kernel
theorem oX2_wearAt : Cond.instanceMethod yX2_wearAt ∈ zT ∧ Cond.selects RX2 yX2_wearAt yX2_wearAt ∈ zT ∧ Cond.initialized RX2 ∈ zT ∧ Cond.code yX2_wearAt cX2_wearAt 3 (some .int) ∈ zT := ⟨wv_X2_wearAt, we_X2_wearAt, wi_X2, wk_X2_wearAt⟩
set_option maxRecDepth 100000 in
set_option maxHeartbeats 4000000 in
theorem kX2_wearAt (l : Launch) {g : zGeo} {z : Nat} (hg : zAd g z) {M M' : zM} {j : Nat} (hj : j < 10) {v1 : Int32} {v2 : Int32} {r : Int32} (hF : fX2_wearAt M j v1 v2 = some (r, M')) : Met l yX2_wearAt [.code yX2_wearAt cX2_wearAt 3 (some .int)] { frames := 0, cells := 0, slots := 0, locals := 0 } (zPc g M [.ref (g.1 1 j), .int v1, .int v2]) (zQi g z r M') 0 0 (zS z) := by
  refine z_enter (cc := cX2_wearAt) (maxL := 3) (ret := (some .int)) (by decide) rfl (Nat.le_of_ble_eq_true rfl) ?_
  intro p e s m below meth c S hr hlk hK hR hS ls hl
  have S : CallFix p m c cX2_wearAt 3 s _ zT RX2 := S
  have hl : lv_has ls 3 [(0, .ref (g.1 1 j)), (1, .int v1), (2, .int v2)] := hl
  unfold fX2_wearAt at hF
  refine lv_aload_n S.1 S.2.1 dX2_wearAt_0 rfl (lv_at hl 0 rfl) ?_
  refine z_get (k := 1) (i := j) (f := 16) (v := .ref (g.1 14 j)) S hK hR hj rfl rfl (by decide) wf_X2_48 rfl dX2_wearAt_1 ?_
  refine lv_iload_n S.1 S.2.1 dX2_wearAt_4 rfl (lv_at hl 1 rfl) ?_
  refine lv_bipush (v := 32) S.1 S.2.1 dX2_wearAt_5 (by decide) ?_
  refine lv_imul S.1 S.2.1 dX2_wearAt_7 ?_
  refine lv_iload_n S.1 S.2.1 dX2_wearAt_8 rfl (lv_at hl 2 rfl) ?_
  refine lv_iadd S.1 S.2.1 dX2_wearAt_9 ?_
  refine z_iald (k := 14) (i := j) (n := 192) S hK hR hF hj rfl dX2_wearAt_10 (fun hF => ?_)
  exact z_iret S hr hlk hR hS hF dX2_wearAt_11
theorem hX2_wearDown : yX2_wearDown.cls = RX2 ∧ yX2_wearDown.cls ≠ "java/lang/invoke/MethodHandle" ∧ yX2_wearDown.cls ≠ "java/lang/invoke/VarHandle" ∧ (parseMethodDescriptor yX2_wearDown.desc).map (fun d => d.parameters.length) = some 3 := by decide +kernel
theorem oX2_wearDown : Cond.instanceMethod yX2_wearDown ∈ zT ∧ Cond.selects RX2 yX2_wearDown yX2_wearDown ∈ zT ∧ Cond.initialized RX2 ∈ zT ∧ Cond.code yX2_wearDown cX2_wearDown 4 none ∈ zT := ⟨wv_X2_wearDown, we_X2_wearDown, wi_X2, wk_X2_wearDown⟩
set_option maxRecDepth 100000 in
set_option maxHeartbeats 4000000 in
theorem kX2_wearDown (l : Launch) {g : zGeo} {z : Nat} (hg : zAd g z) {M M' : zM} {j : Nat} (hj : j < 10) {v1 : Int32} {v2 : Int32} {v3 : Int32} {r : Unit} (hF : fX2_wearDown M j v1 v2 v3 = some (r, M')) : Met l yX2_wearDown [.code yX2_wearDown cX2_wearDown 4 none] { frames := 0, cells := 0, slots := 0, locals := 0 } (zPc g M [.ref (g.1 1 j), .int v1, .int v2, .int v3]) (zQv g z M') 0 0 (zS z) := by
  refine z_enter (cc := cX2_wearDown) (maxL := 4) (ret := none) (by decide) rfl (Nat.le_of_ble_eq_true rfl) ?_
  intro p e s m below meth c S hr hlk hK hR hS ls hl
  have S : CallFix p m c cX2_wearDown 4 s _ zT RX2 := S
  have hl : lv_has ls 4 [(0, .ref (g.1 1 j)), (1, .int v1), (2, .int v2), (3, .int v3)] := hl
  unfold fX2_wearDown at hF
  refine lv_aload_n S.1 S.2.1 dX2_wearDown_0 rfl (lv_at hl 0 rfl) ?_
  refine z_get (k := 1) (i := j) (f := 16) (v := .ref (g.1 14 j)) S hK hR hj rfl rfl (by decide) wf_X2_48 rfl dX2_wearDown_1 ?_
  refine lv_iload_n S.1 S.2.1 dX2_wearDown_4 rfl (lv_at hl 1 rfl) ?_
  refine lv_bipush (v := 32) S.1 S.2.1 dX2_wearDown_5 (by decide) ?_
  refine lv_imul S.1 S.2.1 dX2_wearDown_7 ?_
  refine lv_iload_n S.1 S.2.1 dX2_wearDown_8 rfl (lv_at hl 2 rfl) ?_
  refine lv_iadd S.1 S.2.1 dX2_wearDown_9 ?_
  refine lv_dup2_11 S.1 S.2.1 dX2_wearDown_10 rfl rfl ?_
  refine z_iald (k := 14) (i := j) (n := 192) S hK hR hF hj rfl dX2_wearDown_11 (fun hF => ?_)
  refine lv_iload_n S.1 S.2.1 dX2_wearDown_12 rfl (lv_at hl 3 rfl) ?_
  refine lv_iadd S.1 S.2.1 dX2_wearDown_13 ?_
  refine z_iast (k := 14) (i := j) (n := 192) S hg hK hR hS hF hj rfl dX2_wearDown_14 (fun H locs M21 hR hS hF => ?_)
  exact z_vret S hr hlk hR hS hF dX2_wearDown_15
theorem hX2_isWornThrough : yX2_isWornThrough.cls = RX2 ∧ yX2_isWornThrough.cls ≠ "java/lang/invoke/MethodHandle" ∧ yX2_isWornThrough.cls ≠ "java/lang/invoke/VarHandle" ∧ (parseMethodDescriptor yX2_isWornThrough.desc).map (fun d => d.parameters.length) = some 2 := by decide +kernel
theorem oX2_isWornThrough : Cond.instanceMethod yX2_isWornThrough ∈ zT ∧ Cond.selects RX2 yX2_isWornThrough yX2_isWornThrough ∈ zT ∧ Cond.initialized RX2 ∈ zT ∧ Cond.code yX2_isWornThrough cX2_isWornThrough 3 (some .boolean) ∈ zT := ⟨wv_X2_isWornThrough, we_X2_isWornThrough, wi_X2, wk_X2_isWornThrough⟩
set_option maxRecDepth 100000 in
set_option maxHeartbeats 4000000 in
theorem kX2_isWornThrough (l : Launch) {g : zGeo} {z : Nat} (hg : zAd g z) {M M' : zM} {j : Nat} (hj : j < 10) {v1 : Int32} {v2 : Int32} {r : Int32} (hF : fX2_isWornThrough M j v1 v2 = some (r, M')) : Met l yX2_isWornThrough [.code yX2_isWornThrough cX2_isWornThrough 3 (some .boolean)] { frames := 1, cells := 0, slots := 0, locals := 22 } (zPc g M [.ref (g.1 1 j), .int v1, .int v2]) (zQi g z r M') 0 0 (zS z) := by
  refine z_enter (cc := cX2_isWornThrough) (maxL := 3) (ret := (some .boolean)) (by decide) rfl (Nat.le_of_ble_eq_true rfl) ?_
  intro p e s m below meth c S hr hlk hK hR hS ls hl
  have S : CallFix p m c cX2_isWornThrough 3 s _ zT RX2 := S
  have hl : lv_has ls 3 [(0, .ref (g.1 1 j)), (1, .int v1), (2, .int v2)] := hl
  unfold fX2_isWornThrough at hF
  refine lv_aload_n S.1 S.2.1 dX2_isWornThrough_0 rfl (lv_at hl 0 rfl) ?_
  refine lv_iload_n S.1 S.2.1 dX2_isWornThrough_1 rfl (lv_at hl 1 rfl) ?_
  refine lv_iload_n S.1 S.2.1 dX2_isWornThrough_2 rfl (lv_at hl 2 rfl) ?_
  refine z_goi hS hF (fun _ _ ho => va_runV (C := RX2) (n := 2) (As := [.int v1, .int v2]) (rest := []) S (kX2_wearAt l hg hj ho) (cwV 2 S.2.2.2.2 (zgV wm_X2_99 oX2_wearAt) rfl rfl rfl hX2_wearAt ⟨Nat.le_of_ble_eq_true rfl, Nat.le_of_ble_eq_true rfl⟩) ⟨zPc_blind, z_recv hK hR hj rfl rfl, z_pre hK hR⟩ rfl rfl hl.1 rfl (lv_room (Nat.le_of_ble_eq_true rfl)) dX2_isWornThrough_3 ⟨Nat.zero_le _, Nat.zero_le _⟩) (fun r22 M21 H locs hR hS hF => ?_)
  refine lv_aload_n S.1 S.2.1 dX2_isWornThrough_6 rfl (lv_at hl 0 rfl) ?_
  refine z_get (k := 1) (i := j) (f := 10) (v := .ref (g.1 8 j)) S hK hR hj rfl rfl (by decide) wf_X2_30 rfl dX2_isWornThrough_7 ?_
  refine lv_iload_n S.1 S.2.1 dX2_isWornThrough_10 rfl (lv_at hl 1 rfl) ?_
  refine z_iald (k := 8) (i := j) (n := 6) S hK hR hF hj rfl dX2_isWornThrough_11 (fun hF => ?_)
  refine lv_icmp_lt (tgt := 19) S.1 S.2.1 dX2_isWornThrough_12 (by decide) (fun hc => ?_) (fun hc => ?_)
  · replace hF := z_ct hF hc
    refine lv_iconst (v := 0) S.1 S.2.1 dX2_isWornThrough_19 (by decide) ?_
    exact z_zretc S hr hlk hR hS (by decide) hF dX2_isWornThrough_20
  · replace hF := z_cf hF hc
    refine lv_iconst (v := 1) S.1 S.2.1 dX2_isWornThrough_15 (by decide) ?_
    refine lv_goto (tgt := 20) S.1 S.2.1 dX2_isWornThrough_16 (by decide) ?_
    exact z_zretc S hr hlk hR hS (by decide) hF dX2_isWornThrough_20
theorem hX2_mostWornPlace : yX2_mostWornPlace.cls = RX2 ∧ yX2_mostWornPlace.cls ≠ "java/lang/invoke/MethodHandle" ∧ yX2_mostWornPlace.cls ≠ "java/lang/invoke/VarHandle" ∧ (parseMethodDescriptor yX2_mostWornPlace.desc).map (fun d => d.parameters.length) = some 1 := by decide +kernel
theorem oX2_mostWornPlace : Cond.instanceMethod yX2_mostWornPlace ∈ zT ∧ Cond.selects RX2 yX2_mostWornPlace yX2_mostWornPlace ∈ zT ∧ Cond.initialized RX2 ∈ zT ∧ Cond.code yX2_mostWornPlace cX2_mostWornPlace 4 (some .int) ∈ zT := ⟨wv_X2_mostWornPlace, we_X2_mostWornPlace, wi_X2, wk_X2_mostWornPlace⟩
set_option maxRecDepth 100000 in
set_option maxHeartbeats 4000000 in
theorem kX2_mostWornPlace (l : Launch) {g : zGeo} {z : Nat} (hg : zAd g z) {M M' : zM} {j : Nat} (hj : j < 10) {v1 : Int32} {r : Int32} (hF : fX2_mostWornPlace M j v1 = some (r, M')) : Met l yX2_mostWornPlace [.code yX2_mostWornPlace cX2_mostWornPlace 4 (some .int)] { frames := 1, cells := 0, slots := 0, locals := 22 } (zPc g M [.ref (g.1 1 j), .int v1]) (zQi g z r M') 0 0 (zS z) := by
  refine z_enter (cc := cX2_mostWornPlace) (maxL := 4) (ret := (some .int)) (by decide) rfl (Nat.le_of_ble_eq_true rfl) ?_
  intro p e s m below meth c S hr hlk hK hR hS ls hl
  have S : CallFix p m c cX2_mostWornPlace 4 s _ zT RX2 := S
  have hl : lv_has ls 4 [(0, .ref (g.1 1 j)), (1, .int v1)] := hl
  have L4 : ∀ (k : zM → Int32 → Int32 → Option (Int32 × zM)) (a1 : Int32), (∀ (M : zM) (a2 : Int32) (a3 : Int32) (H : Heap) (locs : List Loc), zR g M H → va_S (zS z) s.heap H locs → ∀ ls : Array Slot, lv_has ls 4 [(0, .ref (g.1 1 j)), (1, .int a1), (2, .int a2), (3, .int a3)] → k M a2 a3 = some (r, M') → W p l e { frames := 1, cells := 0, slots := 0, locals := 22 } s m ([.ref (g.1 1 j), .int v1] : List Value).toArray below meth c H locs 0 0 (MQ below (zQi g z r M') ([.ref (g.1 1 j), .int v1] : List Value).toArray s 0 0 (zS z)) (F0 m 33 ls [])) → ∀ (n : Nat) (M : zM) (a2 : Int32) (a3 : Int32) (H : Heap) (locs : List Loc), zR g M H → va_S (zS z) s.heap H locs → ∀ ls : Array Slot, lv_has ls 4 [(0, .ref (g.1 1 j)), (1, .int a1), (2, .int a2), (3, .int a3)] → fX2_mostWornPlace_L4 k j a1 n M a2 a3 = some (r, M') → W p l e { frames := 1, cells := 0, slots := 0, locals := 22 } s m ([.ref (g.1 1 j), .int v1] : List Value).toArray below meth c H locs 0 0 (MQ below (zQi g z r M') ([.ref (g.1 1 j), .int v1] : List Value).toArray s 0 0 (zS z)) (F0 m 4 ls []) := by
    intro k a1 hk n
    induction n with
    | zero =>
      intro M a2 a3 H locs hR hS ls hl hF
      cases hF
    | succ n ih =>
      intro M a2 a3 H locs hR hS ls hl hF
      unfold fX2_mostWornPlace_L4 at hF
      refine lv_iload_n S.1 S.2.1 dX2_mostWornPlace_4 rfl (lv_at hl 3 rfl) ?_
      refine lv_bipush (v := 32) S.1 S.2.1 dX2_mostWornPlace_5 (by decide) ?_
      refine lv_icmp_ge (tgt := 33) S.1 S.2.1 dX2_mostWornPlace_7 (by decide) (fun hc => ?_) (fun hc => ?_)
      · replace hF := z_ct hF hc
        exact hk _ _ _ _ _ hR hS _ (lv_sub hl [0, 1, 2, 3] rfl) hF
      · replace hF := z_cf hF hc
        refine lv_aload_n S.1 S.2.1 dX2_mostWornPlace_10 rfl (lv_at hl 0 rfl) ?_
        refine lv_iload_n S.1 S.2.1 dX2_mostWornPlace_11 rfl (lv_at hl 1 rfl) ?_
        refine lv_iload_n S.1 S.2.1 dX2_mostWornPlace_12 rfl (lv_at hl 3 rfl) ?_
        refine z_goi hS hF (fun _ _ ho => va_runV (C := RX2) (n := 2) (As := [.int a1, .int a3]) (rest := []) S (kX2_wearAt l hg hj ho) (cwV 2 S.2.2.2.2 (zgV wm_X2_99 oX2_wearAt) rfl rfl rfl hX2_wearAt ⟨Nat.le_of_ble_eq_true rfl, Nat.le_of_ble_eq_true rfl⟩) ⟨zPc_blind, z_recv hK hR hj rfl rfl, z_pre hK hR⟩ rfl rfl hl.1 rfl (lv_room (Nat.le_of_ble_eq_true rfl)) dX2_mostWornPlace_13 ⟨Nat.zero_le _, Nat.zero_le _⟩) (fun r22 M21 H locs hR hS hF => ?_)
        refine lv_aload_n S.1 S.2.1 dX2_mostWornPlace_16 rfl (lv_at hl 0 rfl) ?_
        refine lv_iload_n S.1 S.2.1 dX2_mostWornPlace_17 rfl (lv_at hl 1 rfl) ?_
        refine lv_iload_n S.1 S.2.1 dX2_mostWornPlace_18 rfl (lv_at hl 2 rfl) ?_
        refine z_goi hS hF (fun _ _ ho => va_runV (C := RX2) (n := 2) (As := [.int a1, .int a2]) (rest := [.int r22]) S (kX2_wearAt l hg hj ho) (cwV 2 S.2.2.2.2 (zgV wm_X2_99 oX2_wearAt) rfl rfl rfl hX2_wearAt ⟨Nat.le_of_ble_eq_true rfl, Nat.le_of_ble_eq_true rfl⟩) ⟨zPc_blind, z_recv hK hR hj rfl rfl, z_pre hK hR⟩ rfl rfl hl.1 rfl (lv_room (Nat.le_of_ble_eq_true rfl)) dX2_mostWornPlace_19 ⟨Nat.zero_le _, Nat.zero_le _⟩) (fun r24 M23 H locs hR hS hF => ?_)
        refine lv_icmp_le (tgt := 27) S.1 S.2.1 dX2_mostWornPlace_22 (by decide) (fun hc => ?_) (fun hc => ?_)
        · replace hF := z_ct hF hc
          obtain ⟨v25, ev25, hF⟩ := zL_out hF
          refine lv_iinc (v := v25) (lv' := [(3, .int v25), (0, .ref (g.1 1 j)), (1, .int a1), (2, .int a2)]) S.1 S.2.1 dX2_mostWornPlace_27 hl (k := 3) rfl (by rw [← ev25]; rfl) (by decide) rfl (fun ls hl => ?_)
          refine lv_goto (tgt := 4) S.1 S.2.1 dX2_mostWornPlace_30 (by decide) ?_
          exact ih _ _ _ _ _ hR hS _ (lv_sub hl [1, 2, 3, 0] rfl) hF
        · replace hF := z_cf hF hc
          refine lv_iload_n S.1 S.2.1 dX2_mostWornPlace_25 rfl (lv_at hl 3 rfl) ?_
          refine lv_istore_n (lv' := [(2, .int a3), (0, .ref (g.1 1 j)), (1, .int a1), (3, .int a3)]) S.1 S.2.1 dX2_mostWornPlace_26 rfl hl (by decide) rfl (fun ls hl => ?_)
          obtain ⟨v26, ev26, hF⟩ := zL_out hF
          refine lv_iinc (v := v26) (lv' := [(3, .int v26), (2, .int a3), (0, .ref (g.1 1 j)), (1, .int a1)]) S.1 S.2.1 dX2_mostWornPlace_27 hl (k := 3) rfl (by rw [← ev26]; rfl) (by decide) rfl (fun ls hl => ?_)
          refine lv_goto (tgt := 4) S.1 S.2.1 dX2_mostWornPlace_30 (by decide) ?_
          exact ih _ _ _ _ _ hR hS _ (lv_sub hl [2, 3, 1, 0] rfl) hF
  unfold fX2_mostWornPlace at hF
  refine lv_iconst (v := 0) S.1 S.2.1 dX2_mostWornPlace_0 (by decide) ?_
  refine lv_istore_n (lv' := [(2, .int 0), (0, .ref (g.1 1 j)), (1, .int v1)]) S.1 S.2.1 dX2_mostWornPlace_1 rfl hl (by decide) rfl (fun ls hl => ?_)
  refine lv_iconst (v := 1) S.1 S.2.1 dX2_mostWornPlace_2 (by decide) ?_
  refine lv_istore_n (lv' := [(3, .int 1), (2, .int 0), (0, .ref (g.1 1 j)), (1, .int v1)]) S.1 S.2.1 dX2_mostWornPlace_3 rfl hl (by decide) rfl (fun ls hl => ?_)
  refine L4 _ _ (fun M27 v28 v29 H locs hR hS ls hl hF => ?_) _ _ _ _ _ _ hR hS _ (lv_sub hl [2, 3, 1, 0] rfl) hF
  refine lv_iload_n S.1 S.2.1 dX2_mostWornPlace_33 rfl (lv_at hl 2 rfl) ?_
  exact z_iret S hr hlk hR hS hF dX2_mostWornPlace_34
theorem hX2_flyingKites : yX2_flyingKites.cls = RX2 ∧ yX2_flyingKites.cls ≠ "java/lang/invoke/MethodHandle" ∧ yX2_flyingKites.cls ≠ "java/lang/invoke/VarHandle" ∧ (parseMethodDescriptor yX2_flyingKites.desc).map (fun d => d.parameters.length) = some 0 := by decide +kernel
theorem oX2_flyingKites : Cond.instanceMethod yX2_flyingKites ∈ zT ∧ Cond.selects RX2 yX2_flyingKites yX2_flyingKites ∈ zT ∧ Cond.initialized RX2 ∈ zT ∧ Cond.code yX2_flyingKites cX2_flyingKites 3 (some .int) ∈ zT := ⟨wv_X2_flyingKites, we_X2_flyingKites, wi_X2, wk_X2_flyingKites⟩
set_option maxRecDepth 100000 in
set_option maxHeartbeats 4000000 in
theorem kX2_flyingKites (l : Launch) {g : zGeo} {z : Nat} (hg : zAd g z) {M M' : zM} {j : Nat} (hj : j < 10) {r : Int32} (hF : fX2_flyingKites M j = some (r, M')) : Met l yX2_flyingKites [.code yX2_flyingKites cX2_flyingKites 3 (some .int)] { frames := 2, cells := 0, slots := 0, locals := 42 } (zPc g M [.ref (g.1 1 j)]) (zQi g z r M') 0 0 (zS z) := by
  refine z_enter (cc := cX2_flyingKites) (maxL := 3) (ret := (some .int)) (by decide) rfl (Nat.le_of_ble_eq_true rfl) ?_
  intro p e s m below meth c S hr hlk hK hR hS ls hl
  have S : CallFix p m c cX2_flyingKites 3 s _ zT RX2 := S
  have hl : lv_has ls 3 [(0, .ref (g.1 1 j))] := hl
  have L4 : ∀ (k : zM → Int32 → Int32 → Option (Int32 × zM)) , (∀ (M : zM) (a1 : Int32) (a2 : Int32) (H : Heap) (locs : List Loc), zR g M H → va_S (zS z) s.heap H locs → ∀ ls : Array Slot, lv_has ls 3 [(0, .ref (g.1 1 j)), (1, .int a1), (2, .int a2)] → k M a1 a2 = some (r, M') → W p l e { frames := 2, cells := 0, slots := 0, locals := 42 } s m ([.ref (g.1 1 j)] : List Value).toArray below meth c H locs 0 0 (MQ below (zQi g z r M') ([.ref (g.1 1 j)] : List Value).toArray s 0 0 (zS z)) (F0 m 30 ls [])) → ∀ (n : Nat) (M : zM) (a1 : Int32) (a2 : Int32) (H : Heap) (locs : List Loc), zR g M H → va_S (zS z) s.heap H locs → ∀ ls : Array Slot, lv_has ls 3 [(0, .ref (g.1 1 j)), (1, .int a1), (2, .int a2)] → fX2_flyingKites_L4 k j n M a1 a2 = some (r, M') → W p l e { frames := 2, cells := 0, slots := 0, locals := 42 } s m ([.ref (g.1 1 j)] : List Value).toArray below meth c H locs 0 0 (MQ below (zQi g z r M') ([.ref (g.1 1 j)] : List Value).toArray s 0 0 (zS z)) (F0 m 4 ls []) := by
    intro k  hk n
    induction n with
    | zero =>
      intro M a1 a2 H locs hR hS ls hl hF
      cases hF
    | succ n ih =>
      intro M a1 a2 H locs hR hS ls hl hF
      unfold fX2_flyingKites_L4 at hF
      refine lv_iload_n S.1 S.2.1 dX2_flyingKites_4 rfl (lv_at hl 2 rfl) ?_
      refine lv_bipush (v := 6) S.1 S.2.1 dX2_flyingKites_5 (by decide) ?_
      refine lv_icmp_ge (tgt := 30) S.1 S.2.1 dX2_flyingKites_7 (by decide) (fun hc => ?_) (fun hc => ?_)
      · replace hF := z_ct hF hc
        exact hk _ _ _ _ _ hR hS _ (lv_sub hl [0, 1, 2] rfl) hF
      · replace hF := z_cf hF hc
        refine lv_aload_n S.1 S.2.1 dX2_flyingKites_10 rfl (lv_at hl 0 rfl) ?_
        refine lv_iload_n S.1 S.2.1 dX2_flyingKites_11 rfl (lv_at hl 2 rfl) ?_
        refine z_goi hS hF (fun _ _ ho => va_runV (C := RX2) (n := 1) (As := [.int a2]) (rest := []) S (kX2_isFlying l hg hj ho) (cwV 1 S.2.2.2.2 (zgV wm_X2_102 oX2_isFlying) rfl rfl rfl hX2_isFlying ⟨Nat.le_of_ble_eq_true rfl, Nat.le_of_ble_eq_true rfl⟩) ⟨zPc_blind, z_recv hK hR hj rfl rfl, z_pre hK hR⟩ rfl rfl hl.1 rfl (lv_room (Nat.le_of_ble_eq_true rfl)) dX2_flyingKites_12 ⟨Nat.zero_le _, Nat.zero_le _⟩) (fun r22 M21 H locs hR hS hF => ?_)
        refine lv_if_eq (tgt := 24) S.1 S.2.1 dX2_flyingKites_15 (by decide) (fun hc => ?_) (fun hc => ?_)
        · replace hF := z_ct hF hc
          obtain ⟨v23, ev23, hF⟩ := zL_out hF
          refine lv_iinc (v := v23) (lv' := [(2, .int v23), (0, .ref (g.1 1 j)), (1, .int a1)]) S.1 S.2.1 dX2_flyingKites_24 hl (k := 2) rfl (by rw [← ev23]; rfl) (by decide) rfl (fun ls hl => ?_)
          refine lv_goto (tgt := 4) S.1 S.2.1 dX2_flyingKites_27 (by decide) ?_
          exact ih _ _ _ _ _ hR hS _ (lv_sub hl [1, 2, 0] rfl) hF
        · replace hF := z_cf hF hc
          refine lv_iload_n S.1 S.2.1 dX2_flyingKites_18 rfl (lv_at hl 1 rfl) ?_
          refine lv_iconst (v := 1) S.1 S.2.1 dX2_flyingKites_19 (by decide) ?_
          refine lv_iload_n S.1 S.2.1 dX2_flyingKites_20 rfl (lv_at hl 2 rfl) ?_
          refine lv_ishl S.1 S.2.1 dX2_flyingKites_21 ?_
          refine lv_ior S.1 S.2.1 dX2_flyingKites_22 ?_
          refine z_nm hF (fun v24 hF => ?_)
          refine lv_istore_n (lv' := [(1, .int v24), (0, .ref (g.1 1 j)), (2, .int a2)]) S.1 S.2.1 dX2_flyingKites_23 rfl hl (by decide) rfl (fun ls hl => ?_)
          obtain ⟨v25, ev25, hF⟩ := zL_out hF
          refine lv_iinc (v := v25) (lv' := [(2, .int v25), (1, .int v24), (0, .ref (g.1 1 j))]) S.1 S.2.1 dX2_flyingKites_24 hl (k := 2) rfl (by rw [← ev25]; rfl) (by decide) rfl (fun ls hl => ?_)
          refine lv_goto (tgt := 4) S.1 S.2.1 dX2_flyingKites_27 (by decide) ?_
          exact ih _ _ _ _ _ hR hS _ (lv_sub hl [2, 1, 0] rfl) hF
  unfold fX2_flyingKites at hF
  refine lv_iconst (v := 0) S.1 S.2.1 dX2_flyingKites_0 (by decide) ?_
  refine lv_istore_n (lv' := [(1, .int 0), (0, .ref (g.1 1 j))]) S.1 S.2.1 dX2_flyingKites_1 rfl hl (by decide) rfl (fun ls hl => ?_)
  refine lv_iconst (v := 0) S.1 S.2.1 dX2_flyingKites_2 (by decide) ?_
  refine lv_istore_n (lv' := [(2, .int 0), (1, .int 0), (0, .ref (g.1 1 j))]) S.1 S.2.1 dX2_flyingKites_3 rfl hl (by decide) rfl (fun ls hl => ?_)
  refine L4 _ (fun M26 v27 v28 H locs hR hS ls hl hF => ?_) _ _ _ _ _ _ hR hS _ (lv_sub hl [2, 1, 0] rfl) hF
  refine lv_iload_n S.1 S.2.1 dX2_flyingKites_30 rfl (lv_at hl 1 rfl) ?_
  exact z_iret S hr hlk hR hS hF dX2_flyingKites_31
theorem hX2_leader : yX2_leader.cls = RX2 ∧ yX2_leader.cls ≠ "java/lang/invoke/MethodHandle" ∧ yX2_leader.cls ≠ "java/lang/invoke/VarHandle" ∧ (parseMethodDescriptor yX2_leader.desc).map (fun d => d.parameters.length) = some 0 := by decide +kernel
theorem oX2_leader : Cond.instanceMethod yX2_leader ∈ zT ∧ Cond.selects RX2 yX2_leader yX2_leader ∈ zT ∧ Cond.initialized RX2 ∈ zT ∧ Cond.code yX2_leader cX2_leader 3 (some .int) ∈ zT := ⟨wv_X2_leader, we_X2_leader, wi_X2, wk_X2_leader⟩
set_option maxRecDepth 100000 in
set_option maxHeartbeats 4000000 in
theorem kX2_leader (l : Launch) {g : zGeo} {z : Nat} (hg : zAd g z) {M M' : zM} {j : Nat} (hj : j < 10) {r : Int32} (hF : fX2_leader M j = some (r, M')) : Met l yX2_leader [.code yX2_leader cX2_leader 3 (some .int)] { frames := 1, cells := 0, slots := 0, locals := 21 } (zPc g M [.ref (g.1 1 j)]) (zQi g z r M') 0 0 (zS z) := by
  refine z_enter (cc := cX2_leader) (maxL := 3) (ret := (some .int)) (by decide) rfl (Nat.le_of_ble_eq_true rfl) ?_
  intro p e s m below meth c S hr hlk hK hR hS ls hl
  have S : CallFix p m c cX2_leader 3 s _ zT RX2 := S
  have hl : lv_has ls 3 [(0, .ref (g.1 1 j))] := hl
  have L14 : ∀ (k : zM → Int32 → Int32 → Option (Int32 × zM)) , (∀ (M : zM) (a1 : Int32) (a2 : Int32) (H : Heap) (locs : List Loc), zR g M H → va_S (zS z) s.heap H locs → ∀ ls : Array Slot, lv_has ls 3 [(0, .ref (g.1 1 j)), (1, .int a1), (2, .int a2)] → k M a1 a2 = some (r, M') → W p l e { frames := 1, cells := 0, slots := 0, locals := 21 } s m ([.ref (g.1 1 j)] : List Value).toArray below meth c H locs 0 0 (MQ below (zQi g z r M') ([.ref (g.1 1 j)] : List Value).toArray s 0 0 (zS z)) (F0 m 51 ls [])) → ∀ (n : Nat) (M : zM) (a1 : Int32) (a2 : Int32) (H : Heap) (locs : List Loc), zR g M H → va_S (zS z) s.heap H locs → ∀ ls : Array Slot, lv_has ls 3 [(0, .ref (g.1 1 j)), (1, .int a1), (2, .int a2)] → fX2_leader_L14 k j n M a1 a2 = some (r, M') → W p l e { frames := 1, cells := 0, slots := 0, locals := 21 } s m ([.ref (g.1 1 j)] : List Value).toArray below meth c H locs 0 0 (MQ below (zQi g z r M') ([.ref (g.1 1 j)] : List Value).toArray s 0 0 (zS z)) (F0 m 14 ls []) := by
    intro k  hk n
    induction n with
    | zero =>
      intro M a1 a2 H locs hR hS ls hl hF
      cases hF
    | succ n ih =>
      intro M a1 a2 H locs hR hS ls hl hF
      unfold fX2_leader_L14 at hF
      refine lv_iload_n S.1 S.2.1 dX2_leader_14 rfl (lv_at hl 2 rfl) ?_
      refine lv_bipush (v := 6) S.1 S.2.1 dX2_leader_15 (by decide) ?_
      refine lv_icmp_ge (tgt := 51) S.1 S.2.1 dX2_leader_17 (by decide) (fun hc => ?_) (fun hc => ?_)
      · replace hF := z_ct hF hc
        exact hk _ _ _ _ _ hR hS _ (lv_sub hl [0, 1, 2] rfl) hF
      · replace hF := z_cf hF hc
        refine lv_aload_n S.1 S.2.1 dX2_leader_20 rfl (lv_at hl 0 rfl) ?_
        refine lv_iload_n S.1 S.2.1 dX2_leader_21 rfl (lv_at hl 2 rfl) ?_
        refine z_goi hS hF (fun _ _ ho => va_runV (C := RX2) (n := 1) (As := [.int a2]) (rest := []) S (kX2_has l hg hj ho) (cwV 1 S.2.2.2.2 (zgV wm_X2_80 oX2_has) rfl rfl rfl hX2_has ⟨Nat.le_of_ble_eq_true rfl, Nat.le_of_ble_eq_true rfl⟩) ⟨zPc_blind, z_recv hK hR hj rfl rfl, z_pre hK hR⟩ rfl rfl hl.1 rfl (lv_room (Nat.le_of_ble_eq_true rfl)) dX2_leader_22 ⟨Nat.zero_le _, Nat.zero_le _⟩) (fun r22 M21 H locs hR hS hF => ?_)
        refine lv_if_eq (tgt := 45) S.1 S.2.1 dX2_leader_25 (by decide) (fun hc => ?_) (fun hc => ?_)
        · replace hF := z_ct hF hc
          obtain ⟨v23, ev23, hF⟩ := zL_out hF
          refine lv_iinc (v := v23) (lv' := [(2, .int v23), (0, .ref (g.1 1 j)), (1, .int a1)]) S.1 S.2.1 dX2_leader_45 hl (k := 2) rfl (by rw [← ev23]; rfl) (by decide) rfl (fun ls hl => ?_)
          refine lv_goto (tgt := 14) S.1 S.2.1 dX2_leader_48 (by decide) ?_
          exact ih _ _ _ _ _ hR hS _ (lv_sub hl [1, 2, 0] rfl) hF
        · replace hF := z_cf hF hc
          refine lv_aload_n S.1 S.2.1 dX2_leader_28 rfl (lv_at hl 0 rfl) ?_
          refine z_get (k := 1) (i := j) (f := 11) (v := .ref (g.1 9 j)) S hK hR hj rfl rfl (by decide) wf_X2_33 rfl dX2_leader_29 ?_
          refine lv_iload_n S.1 S.2.1 dX2_leader_32 rfl (lv_at hl 2 rfl) ?_
          refine z_iald (k := 9) (i := j) (n := 6) S hK hR hF hj rfl dX2_leader_33 (fun hF => ?_)
          refine lv_aload_n S.1 S.2.1 dX2_leader_34 rfl (lv_at hl 0 rfl) ?_
          refine z_get (k := 1) (i := j) (f := 11) (v := .ref (g.1 9 j)) S hK hR hj rfl rfl (by decide) wf_X2_33 rfl dX2_leader_35 ?_
          refine lv_iload_n S.1 S.2.1 dX2_leader_38 rfl (lv_at hl 1 rfl) ?_
          refine z_iald (k := 9) (i := j) (n := 6) S hK hR hF hj rfl dX2_leader_39 (fun hF => ?_)
          refine lv_icmp_le (tgt := 45) S.1 S.2.1 dX2_leader_40 (by decide) (fun hc => ?_) (fun hc => ?_)
          · replace hF := z_ct hF hc
            obtain ⟨v24, ev24, hF⟩ := zL_out hF
            refine lv_iinc (v := v24) (lv' := [(2, .int v24), (0, .ref (g.1 1 j)), (1, .int a1)]) S.1 S.2.1 dX2_leader_45 hl (k := 2) rfl (by rw [← ev24]; rfl) (by decide) rfl (fun ls hl => ?_)
            refine lv_goto (tgt := 14) S.1 S.2.1 dX2_leader_48 (by decide) ?_
            exact ih _ _ _ _ _ hR hS _ (lv_sub hl [1, 2, 0] rfl) hF
          · replace hF := z_cf hF hc
            refine lv_iload_n S.1 S.2.1 dX2_leader_43 rfl (lv_at hl 2 rfl) ?_
            refine lv_istore_n (lv' := [(1, .int a2), (0, .ref (g.1 1 j)), (2, .int a2)]) S.1 S.2.1 dX2_leader_44 rfl hl (by decide) rfl (fun ls hl => ?_)
            obtain ⟨v25, ev25, hF⟩ := zL_out hF
            refine lv_iinc (v := v25) (lv' := [(2, .int v25), (1, .int a2), (0, .ref (g.1 1 j))]) S.1 S.2.1 dX2_leader_45 hl (k := 2) rfl (by rw [← ev25]; rfl) (by decide) rfl (fun ls hl => ?_)
            refine lv_goto (tgt := 14) S.1 S.2.1 dX2_leader_48 (by decide) ?_
            exact ih _ _ _ _ _ hR hS _ (lv_sub hl [2, 1, 0] rfl) hF
  unfold fX2_leader at hF
  refine lv_aload_n S.1 S.2.1 dX2_leader_0 rfl (lv_at hl 0 rfl) ?_
  refine z_get (k := 1) (i := j) (f := 0) (v := .int (M 1 j 0)) S hK hR hj rfl rfl (by decide) wf_X2_51 rfl dX2_leader_1 ?_
  refine lv_if_ne (tgt := 10) S.1 S.2.1 dX2_leader_4 (by decide) (fun hc => ?_) (fun hc => ?_)
  · replace hF := z_cf hF hc
    refine lv_iconst (v := 0) S.1 S.2.1 dX2_leader_10 (by decide) ?_
    refine lv_istore_n (lv' := [(1, .int 0), (0, .ref (g.1 1 j))]) S.1 S.2.1 dX2_leader_11 rfl hl (by decide) rfl (fun ls hl => ?_)
    refine lv_iconst (v := 1) S.1 S.2.1 dX2_leader_12 (by decide) ?_
    refine lv_istore_n (lv' := [(2, .int 1), (1, .int 0), (0, .ref (g.1 1 j))]) S.1 S.2.1 dX2_leader_13 rfl hl (by decide) rfl (fun ls hl => ?_)
    refine L14 _ (fun M26 v27 v28 H locs hR hS ls hl hF => ?_) _ _ _ _ _ _ hR hS _ (lv_sub hl [2, 1, 0] rfl) hF
    refine lv_iload_n S.1 S.2.1 dX2_leader_51 rfl (lv_at hl 1 rfl) ?_
    exact z_iret S hr hlk hR hS hF dX2_leader_52
  · replace hF := z_ct hF hc
    refine lv_bipush (v := (-6)) S.1 S.2.1 dX2_leader_7 (by decide) ?_
    exact z_iret S hr hlk hR hS hF dX2_leader_9
theorem hX2_allPoints : yX2_allPoints.cls = RX2 ∧ yX2_allPoints.cls ≠ "java/lang/invoke/MethodHandle" ∧ yX2_allPoints.cls ≠ "java/lang/invoke/VarHandle" ∧ (parseMethodDescriptor yX2_allPoints.desc).map (fun d => d.parameters.length) = some 0 := by decide +kernel
theorem oX2_allPoints : Cond.instanceMethod yX2_allPoints ∈ zT ∧ Cond.selects RX2 yX2_allPoints yX2_allPoints ∈ zT ∧ Cond.initialized RX2 ∈ zT ∧ Cond.code yX2_allPoints cX2_allPoints 3 (some .int) ∈ zT := ⟨wv_X2_allPoints, we_X2_allPoints, wi_X2, wk_X2_allPoints⟩
set_option maxRecDepth 100000 in
set_option maxHeartbeats 4000000 in
theorem kX2_allPoints (l : Launch) {g : zGeo} {z : Nat} (hg : zAd g z) {M M' : zM} {j : Nat} (hj : j < 10) {r : Int32} (hF : fX2_allPoints M j = some (r, M')) : Met l yX2_allPoints [.code yX2_allPoints cX2_allPoints 3 (some .int)] { frames := 1, cells := 0, slots := 0, locals := 21 } (zPc g M [.ref (g.1 1 j)]) (zQi g z r M') 0 0 (zS z) := by
  refine z_enter (cc := cX2_allPoints) (maxL := 3) (ret := (some .int)) (by decide) rfl (Nat.le_of_ble_eq_true rfl) ?_
  intro p e s m below meth c S hr hlk hK hR hS ls hl
  have S : CallFix p m c cX2_allPoints 3 s _ zT RX2 := S
  have hl : lv_has ls 3 [(0, .ref (g.1 1 j))] := hl
  have L4 : ∀ (k : zM → Int32 → Int32 → Option (Int32 × zM)) , (∀ (M : zM) (a1 : Int32) (a2 : Int32) (H : Heap) (locs : List Loc), zR g M H → va_S (zS z) s.heap H locs → ∀ ls : Array Slot, lv_has ls 3 [(0, .ref (g.1 1 j)), (1, .int a1), (2, .int a2)] → k M a1 a2 = some (r, M') → W p l e { frames := 1, cells := 0, slots := 0, locals := 21 } s m ([.ref (g.1 1 j)] : List Value).toArray below meth c H locs 0 0 (MQ below (zQi g z r M') ([.ref (g.1 1 j)] : List Value).toArray s 0 0 (zS z)) (F0 m 33 ls [])) → ∀ (n : Nat) (M : zM) (a1 : Int32) (a2 : Int32) (H : Heap) (locs : List Loc), zR g M H → va_S (zS z) s.heap H locs → ∀ ls : Array Slot, lv_has ls 3 [(0, .ref (g.1 1 j)), (1, .int a1), (2, .int a2)] → fX2_allPoints_L4 k j n M a1 a2 = some (r, M') → W p l e { frames := 1, cells := 0, slots := 0, locals := 21 } s m ([.ref (g.1 1 j)] : List Value).toArray below meth c H locs 0 0 (MQ below (zQi g z r M') ([.ref (g.1 1 j)] : List Value).toArray s 0 0 (zS z)) (F0 m 4 ls []) := by
    intro k  hk n
    induction n with
    | zero =>
      intro M a1 a2 H locs hR hS ls hl hF
      cases hF
    | succ n ih =>
      intro M a1 a2 H locs hR hS ls hl hF
      unfold fX2_allPoints_L4 at hF
      refine lv_iload_n S.1 S.2.1 dX2_allPoints_4 rfl (lv_at hl 2 rfl) ?_
      refine lv_bipush (v := 6) S.1 S.2.1 dX2_allPoints_5 (by decide) ?_
      refine lv_icmp_ge (tgt := 33) S.1 S.2.1 dX2_allPoints_7 (by decide) (fun hc => ?_) (fun hc => ?_)
      · replace hF := z_ct hF hc
        exact hk _ _ _ _ _ hR hS _ (lv_sub hl [0, 1, 2] rfl) hF
      · replace hF := z_cf hF hc
        refine lv_aload_n S.1 S.2.1 dX2_allPoints_10 rfl (lv_at hl 0 rfl) ?_
        refine lv_iload_n S.1 S.2.1 dX2_allPoints_11 rfl (lv_at hl 2 rfl) ?_
        refine z_goi hS hF (fun _ _ ho => va_runV (C := RX2) (n := 1) (As := [.int a2]) (rest := []) S (kX2_has l hg hj ho) (cwV 1 S.2.2.2.2 (zgV wm_X2_80 oX2_has) rfl rfl rfl hX2_has ⟨Nat.le_of_ble_eq_true rfl, Nat.le_of_ble_eq_true rfl⟩) ⟨zPc_blind, z_recv hK hR hj rfl rfl, z_pre hK hR⟩ rfl rfl hl.1 rfl (lv_room (Nat.le_of_ble_eq_true rfl)) dX2_allPoints_12 ⟨Nat.zero_le _, Nat.zero_le _⟩) (fun r22 M21 H locs hR hS hF => ?_)
        refine lv_if_eq (tgt := 27) S.1 S.2.1 dX2_allPoints_15 (by decide) (fun hc => ?_) (fun hc => ?_)
        · replace hF := z_ct hF hc
          obtain ⟨v23, ev23, hF⟩ := zL_out hF
          refine lv_iinc (v := v23) (lv' := [(2, .int v23), (0, .ref (g.1 1 j)), (1, .int a1)]) S.1 S.2.1 dX2_allPoints_27 hl (k := 2) rfl (by rw [← ev23]; rfl) (by decide) rfl (fun ls hl => ?_)
          refine lv_goto (tgt := 4) S.1 S.2.1 dX2_allPoints_30 (by decide) ?_
          exact ih _ _ _ _ _ hR hS _ (lv_sub hl [1, 2, 0] rfl) hF
        · replace hF := z_cf hF hc
          refine lv_iload_n S.1 S.2.1 dX2_allPoints_18 rfl (lv_at hl 1 rfl) ?_
          refine lv_aload_n S.1 S.2.1 dX2_allPoints_19 rfl (lv_at hl 0 rfl) ?_
          refine z_get (k := 1) (i := j) (f := 11) (v := .ref (g.1 9 j)) S hK hR hj rfl rfl (by decide) wf_X2_33 rfl dX2_allPoints_20 ?_
          refine lv_iload_n S.1 S.2.1 dX2_allPoints_23 rfl (lv_at hl 2 rfl) ?_
          refine z_iald (k := 9) (i := j) (n := 6) S hK hR hF hj rfl dX2_allPoints_24 (fun hF => ?_)
          refine lv_iadd S.1 S.2.1 dX2_allPoints_25 ?_
          refine z_nm hF (fun v24 hF => ?_)
          refine lv_istore_n (lv' := [(1, .int v24), (0, .ref (g.1 1 j)), (2, .int a2)]) S.1 S.2.1 dX2_allPoints_26 rfl hl (by decide) rfl (fun ls hl => ?_)
          obtain ⟨v25, ev25, hF⟩ := zL_out hF
          refine lv_iinc (v := v25) (lv' := [(2, .int v25), (1, .int v24), (0, .ref (g.1 1 j))]) S.1 S.2.1 dX2_allPoints_27 hl (k := 2) rfl (by rw [← ev25]; rfl) (by decide) rfl (fun ls hl => ?_)
          refine lv_goto (tgt := 4) S.1 S.2.1 dX2_allPoints_30 (by decide) ?_
          exact ih _ _ _ _ _ hR hS _ (lv_sub hl [2, 1, 0] rfl) hF
  unfold fX2_allPoints at hF
  refine lv_iconst (v := 0) S.1 S.2.1 dX2_allPoints_0 (by decide) ?_
  refine lv_istore_n (lv' := [(1, .int 0), (0, .ref (g.1 1 j))]) S.1 S.2.1 dX2_allPoints_1 rfl hl (by decide) rfl (fun ls hl => ?_)
  refine lv_iconst (v := 0) S.1 S.2.1 dX2_allPoints_2 (by decide) ?_
  refine lv_istore_n (lv' := [(2, .int 0), (1, .int 0), (0, .ref (g.1 1 j))]) S.1 S.2.1 dX2_allPoints_3 rfl hl (by decide) rfl (fun ls hl => ?_)
  refine L4 _ (fun M26 v27 v28 H locs hR hS ls hl hF => ?_) _ _ _ _ _ _ hR hS _ (lv_sub hl [2, 1, 0] rfl) hF
  refine lv_iload_n S.1 S.2.1 dX2_allPoints_33 rfl (lv_at hl 1 rfl) ?_
  exact z_iret S hr hlk hR hS hF dX2_allPoints_34
end
section
theorem hX5_note : yX5_note.cls = RX5 ∧ yX5_note.cls ≠ "java/lang/invoke/MethodHandle" ∧ yX5_note.cls ≠ "java/lang/invoke/VarHandle" ∧ (parseMethodDescriptor yX5_note.desc).map (fun d => d.parameters.length) = some 4 := by decide +kernel
theorem oX5_note : Cond.instanceMethod yX5_note ∈ zT ∧ Cond.selects RX5 yX5_note yX5_note ∈ zT ∧ Cond.initialized RX5 ∈ zT ∧ Cond.code yX5_note cX5_note 5 none ∈ zT := ⟨wv_X5_note, we_X5_note, wi_X5, wk_X5_note⟩
set_option maxRecDepth 100000 in
set_option maxHeartbeats 4000000 in
theorem kX5_note (l : Launch) {g : zGeo} {z : Nat} (hg : zAd g z) {M M' : zM} {j : Nat} (hj : j < 2) {v1 : Int32} {v2 : Int32} {v3 : Int32} {v4 : Int32} {r : Unit} (hF : fX5_note M j v1 v2 v3 v4 = some (r, M')) : Met l yX5_note [.code yX5_note cX5_note 5 none] { frames := 0, cells := 0, slots := 0, locals := 0 } (zPc g M [.ref (g.1 15 j), .int v1, .int v2, .int v3, .int v4]) (zQv g z M') 0 0 (zS z) := by
  refine z_enter (cc := cX5_note) (maxL := 5) (ret := none) (by decide) rfl (Nat.le_of_ble_eq_true rfl) ?_
  intro p e s m below meth c S hr hlk hK hR hS ls hl
  have S : CallFix p m c cX5_note 5 s _ zT RX5 := S
  have hl : lv_has ls 5 [(0, .ref (g.1 15 j)), (1, .int v1), (2, .int v2), (3, .int v3), (4, .int v4)] := hl
  unfold fX5_note at hF
  refine lv_aload_n S.1 S.2.1 dX5_note_0 rfl (lv_at hl 0 rfl) ?_
  refine z_get (k := 15) (i := j) (f := 4) (v := .int (M 15 j 4)) S hK hR hj rfl rfl (by decide) wf_X5_25 rfl dX5_note_1 ?_
  refine lv_if_lt (tgt := 16) S.1 S.2.1 dX5_note_4 (by decide) (fun hc => ?_) (fun hc => ?_)
  · replace hF := z_ct hF hc
    exact z_vret S hr hlk hR hS hF dX5_note_16
  · replace hF := z_cf hF hc
    refine lv_aload_n S.1 S.2.1 dX5_note_7 rfl (lv_at hl 0 rfl) ?_
    refine z_get (k := 15) (i := j) (f := 4) (v := .int (M 15 j 4)) S hK hR hj rfl rfl (by decide) wf_X5_25 rfl dX5_note_8 ?_
    refine lv_bipush (v := 30) S.1 S.2.1 dX5_note_11 (by decide) ?_
    refine lv_icmp_lt (tgt := 17) S.1 S.2.1 dX5_note_13 (by decide) (fun hc => ?_) (fun hc => ?_)
    · replace hF := z_ct hF hc
      refine lv_aload_n S.1 S.2.1 dX5_note_17 rfl (lv_at hl 0 rfl) ?_
      refine z_get (k := 15) (i := j) (f := 0) (v := .ref (g.1 16 j)) S hK hR hj rfl rfl (by decide) wf_X5_11 rfl dX5_note_18 ?_
      refine lv_aload_n S.1 S.2.1 dX5_note_21 rfl (lv_at hl 0 rfl) ?_
      refine z_get (k := 15) (i := j) (f := 4) (v := .int (M 15 j 4)) S hK hR hj rfl rfl (by decide) wf_X5_25 rfl dX5_note_22 ?_
      refine lv_iload_n S.1 S.2.1 dX5_note_25 rfl (lv_at hl 1 rfl) ?_
      refine z_iast (k := 16) (i := j) (n := 30) S hg hK hR hS hF hj rfl dX5_note_26 (fun H locs M21 hR hS hF => ?_)
      refine lv_aload_n S.1 S.2.1 dX5_note_27 rfl (lv_at hl 0 rfl) ?_
      refine z_get (k := 15) (i := j) (f := 1) (v := .ref (g.1 17 j)) S hK hR hj rfl rfl (by decide) wf_X5_15 rfl dX5_note_28 ?_
      refine lv_aload_n S.1 S.2.1 dX5_note_31 rfl (lv_at hl 0 rfl) ?_
      refine z_get (k := 15) (i := j) (f := 4) (v := .int (M21 15 j 4)) S hK hR hj rfl rfl (by decide) wf_X5_25 rfl dX5_note_32 ?_
      refine lv_iload_n S.1 S.2.1 dX5_note_35 rfl (lv_at hl 2 rfl) ?_
      refine z_iast (k := 17) (i := j) (n := 30) S hg hK hR hS hF hj rfl dX5_note_36 (fun H locs M22 hR hS hF => ?_)
      refine lv_aload_n S.1 S.2.1 dX5_note_37 rfl (lv_at hl 0 rfl) ?_
      refine z_get (k := 15) (i := j) (f := 2) (v := .ref (g.1 18 j)) S hK hR hj rfl rfl (by decide) wf_X5_18 rfl dX5_note_38 ?_
      refine lv_aload_n S.1 S.2.1 dX5_note_41 rfl (lv_at hl 0 rfl) ?_
      refine z_get (k := 15) (i := j) (f := 4) (v := .int (M22 15 j 4)) S hK hR hj rfl rfl (by decide) wf_X5_25 rfl dX5_note_42 ?_
      refine lv_iload_n S.1 S.2.1 dX5_note_45 rfl (lv_at hl 3 rfl) ?_
      refine z_iast (k := 18) (i := j) (n := 30) S hg hK hR hS hF hj rfl dX5_note_46 (fun H locs M23 hR hS hF => ?_)
      refine lv_aload_n S.1 S.2.1 dX5_note_47 rfl (lv_at hl 0 rfl) ?_
      refine z_get (k := 15) (i := j) (f := 3) (v := .ref (g.1 19 j)) S hK hR hj rfl rfl (by decide) wf_X5_21 rfl dX5_note_48 ?_
      refine lv_aload_n S.1 S.2.1 dX5_note_51 rfl (lv_at hl 0 rfl) ?_
      refine z_get (k := 15) (i := j) (f := 4) (v := .int (M23 15 j 4)) S hK hR hj rfl rfl (by decide) wf_X5_25 rfl dX5_note_52 ?_
      refine lv_iload S.1 S.2.1 dX5_note_55 (lv_at hl 4 rfl) ?_
      refine z_zast (k := 19) (i := j) (n := 30) S hg hK hR hS hF hj rfl dX5_note_57 (fun H locs M24 hR hS hF => ?_)
      refine lv_aload_n S.1 S.2.1 dX5_note_58 rfl (lv_at hl 0 rfl) ?_
      refine lv_dup S.1 S.2.1 dX5_note_59 rfl ?_
      refine z_get (k := 15) (i := j) (f := 4) (v := .int (M24 15 j 4)) S hK hR hj rfl rfl (by decide) wf_X5_25 rfl dX5_note_60 ?_
      refine lv_iconst (v := 1) S.1 S.2.1 dX5_note_63 (by decide) ?_
      refine lv_iadd S.1 S.2.1 dX5_note_64 ?_
      refine z_put (k := 15) (i := j) (f := 4) (ty := .int) S hg hK hR hS hF hj rfl rfl rfl (by decide) wf_X5_25 rfl (by decide +kernel) rfl rfl (Nat.le_of_ble_eq_true rfl) dX5_note_65 (fun H locs M25 hR hS hF => ?_)
      exact z_vret S hr hlk hR hS hF dX5_note_68
    · replace hF := z_cf hF hc
      exact z_vret S hr hlk hR hS hF dX5_note_16
theorem hX5_measurePair : yX5_measurePair.cls = RX5 ∧ yX5_measurePair.cls ≠ "java/lang/invoke/MethodHandle" ∧ yX5_measurePair.cls ≠ "java/lang/invoke/VarHandle" ∧ (parseMethodDescriptor yX5_measurePair.desc).map (fun d => d.parameters.length) = some 3 := by decide +kernel
theorem oX5_measurePair : Cond.instanceMethod yX5_measurePair ∈ zT ∧ Cond.selects RX5 yX5_measurePair yX5_measurePair ∈ zT ∧ Cond.initialized RX5 ∈ zT ∧ Cond.code yX5_measurePair cX5_measurePair 14 none ∈ zT := ⟨wv_X5_measurePair, we_X5_measurePair, wi_X5, wk_X5_measurePair⟩
set_option maxRecDepth 100000 in
set_option maxHeartbeats 4000000 in
theorem kX5_measurePair (l : Launch) {g : zGeo} {z : Nat} (hg : zAd g z) {M M' : zM} {j : Nat} (hj : j < 2) {j1 : Nat} (hj1 : j1 < 10) {v2 : Int32} {v3 : Int32} {r : Unit} (hF : fX5_measurePair M j j1 v2 v3 = some (r, M')) : Met l yX5_measurePair [.code yX5_measurePair cX5_measurePair 14 none] { frames := 1, cells := 0, slots := 0, locals := 24 } (zPc g M [.ref (g.1 15 j), .ref (g.1 1 j1), .int v2, .int v3]) (zQv g z M') 0 0 (zS z) := by
  refine z_enter (cc := cX5_measurePair) (maxL := 14) (ret := none) (by decide) rfl (Nat.le_of_ble_eq_true rfl) ?_
  intro p e s m below meth c S hr hlk hK hR hS ls hl
  have S : CallFix p m c cX5_measurePair 14 s _ zT RX5 := S
  have hl : lv_has ls 14 [(0, .ref (g.1 15 j)), (1, .ref (g.1 1 j1)), (2, .int v2), (3, .int v3)] := hl
  unfold fX5_measurePair at hF
  refine lv_aload_n S.1 S.2.1 dX5_measurePair_0 rfl (lv_at hl 1 rfl) ?_
  refine z_get (k := 1) (i := j1) (f := 5) (v := .ref (g.1 3 j1)) S hK hR hj1 rfl rfl (by decide) wf_X5_39 rfl dX5_measurePair_1 ?_
  refine lv_iload_n S.1 S.2.1 dX5_measurePair_4 rfl (lv_at hl 2 rfl) ?_
  refine z_iald (k := 3) (i := j1) (n := 6) S hK hR hF hj1 rfl dX5_measurePair_5 (fun hF => ?_)
  refine lv_aload_n S.1 S.2.1 dX5_measurePair_6 rfl (lv_at hl 1 rfl) ?_
  refine z_get (k := 1) (i := j1) (f := 4) (v := .ref (g.1 2 j1)) S hK hR hj1 rfl rfl (by decide) wf_X5_42 rfl dX5_measurePair_7 ?_
  refine lv_iload_n S.1 S.2.1 dX5_measurePair_10 rfl (lv_at hl 2 rfl) ?_
  refine z_iald (k := 2) (i := j1) (n := 6) S hK hR hF hj1 rfl dX5_measurePair_11 (fun hF => ?_)
  refine lv_isub S.1 S.2.1 dX5_measurePair_12 ?_
  refine z_nm hF (fun v21 hF => ?_)
  refine lv_istore (lv' := [(4, .int v21), (0, .ref (g.1 15 j)), (1, .ref (g.1 1 j1)), (2, .int v2), (3, .int v3)]) S.1 S.2.1 dX5_measurePair_13 hl (by decide) rfl (fun ls hl => ?_)
  refine lv_aload_n S.1 S.2.1 dX5_measurePair_15 rfl (lv_at hl 2 rfl) ?_
  refine z_get (k := 1) (i := j1) (f := 6) (v := .ref (g.1 4 j1)) S hK hR hj1 rfl rfl (by decide) wf_X5_45 rfl dX5_measurePair_16 ?_
  refine lv_iload_n S.1 S.2.1 dX5_measurePair_19 rfl (lv_at hl 3 rfl) ?_
  refine z_iald (k := 4) (i := j1) (n := 6) S hK hR hF hj1 rfl dX5_measurePair_20 (fun hF => ?_)
  refine z_nm hF (fun v22 hF => ?_)
  refine lv_istore (lv' := [(5, .int v22), (4, .int v21), (0, .ref (g.1 15 j)), (1, .ref (g.1 1 j1)), (2, .int v2), (3, .int v3)]) S.1 S.2.1 dX5_measurePair_21 hl (by decide) rfl (fun ls hl => ?_)
  refine lv_aload_n S.1 S.2.1 dX5_measurePair_23 rfl (lv_at hl 3 rfl) ?_
  refine z_get (k := 1) (i := j1) (f := 5) (v := .ref (g.1 3 j1)) S hK hR hj1 rfl rfl (by decide) wf_X5_39 rfl dX5_measurePair_24 ?_
  refine lv_iload_n S.1 S.2.1 dX5_measurePair_27 rfl (lv_at hl 5 rfl) ?_
  refine z_iald (k := 3) (i := j1) (n := 6) S hK hR hF hj1 rfl dX5_measurePair_28 (fun hF => ?_)
  refine lv_aload_n S.1 S.2.1 dX5_measurePair_29 rfl (lv_at hl 3 rfl) ?_
  refine z_get (k := 1) (i := j1) (f := 4) (v := .ref (g.1 2 j1)) S hK hR hj1 rfl rfl (by decide) wf_X5_42 rfl dX5_measurePair_30 ?_
  refine lv_iload_n S.1 S.2.1 dX5_measurePair_33 rfl (lv_at hl 5 rfl) ?_
  refine z_iald (k := 2) (i := j1) (n := 6) S hK hR hF hj1 rfl dX5_measurePair_34 (fun hF => ?_)
  refine lv_isub S.1 S.2.1 dX5_measurePair_35 ?_
  refine z_nm hF (fun v23 hF => ?_)
  refine lv_istore (lv' := [(6, .int v23), (5, .int v22), (4, .int v21), (0, .ref (g.1 15 j)), (1, .ref (g.1 1 j1)), (2, .int v2), (3, .int v3)]) S.1 S.2.1 dX5_measurePair_36 hl (by decide) rfl (fun ls hl => ?_)
  refine lv_aload_n S.1 S.2.1 dX5_measurePair_38 rfl (lv_at hl 4 rfl) ?_
  refine z_get (k := 1) (i := j1) (f := 6) (v := .ref (g.1 4 j1)) S hK hR hj1 rfl rfl (by decide) wf_X5_45 rfl dX5_measurePair_39 ?_
  refine lv_iload_n S.1 S.2.1 dX5_measurePair_42 rfl (lv_at hl 6 rfl) ?_
  refine z_iald (k := 4) (i := j1) (n := 6) S hK hR hF hj1 rfl dX5_measurePair_43 (fun hF => ?_)
  refine z_nm hF (fun v24 hF => ?_)
  refine lv_istore (lv' := [(7, .int v24), (6, .int v23), (5, .int v22), (4, .int v21), (0, .ref (g.1 15 j)), (1, .ref (g.1 1 j1)), (2, .int v2), (3, .int v3)]) S.1 S.2.1 dX5_measurePair_44 hl (by decide) rfl (fun ls hl => ?_)
  refine lv_aload_n S.1 S.2.1 dX5_measurePair_46 rfl (lv_at hl 5 rfl) ?_
  refine z_get (k := 1) (i := j1) (f := 4) (v := .ref (g.1 2 j1)) S hK hR hj1 rfl rfl (by decide) wf_X5_42 rfl dX5_measurePair_47 ?_
  refine lv_iload_n S.1 S.2.1 dX5_measurePair_50 rfl (lv_at hl 7 rfl) ?_
  refine z_iald (k := 2) (i := j1) (n := 6) S hK hR hF hj1 rfl dX5_measurePair_51 (fun hF => ?_)
  refine lv_aload_n S.1 S.2.1 dX5_measurePair_52 rfl (lv_at hl 5 rfl) ?_
  refine z_get (k := 1) (i := j1) (f := 4) (v := .ref (g.1 2 j1)) S hK hR hj1 rfl rfl (by decide) wf_X5_42 rfl dX5_measurePair_53 ?_
  refine lv_iload_n S.1 S.2.1 dX5_measurePair_56 rfl (lv_at hl 6 rfl) ?_
  refine z_iald (k := 2) (i := j1) (n := 6) S hK hR hF hj1 rfl dX5_measurePair_57 (fun hF => ?_)
  refine lv_isub S.1 S.2.1 dX5_measurePair_58 ?_
  refine z_nm hF (fun v25 hF => ?_)
  refine lv_istore (lv' := [(8, .int v25), (7, .int v24), (6, .int v23), (5, .int v22), (4, .int v21), (0, .ref (g.1 15 j)), (1, .ref (g.1 1 j1)), (2, .int v2), (3, .int v3)]) S.1 S.2.1 dX5_measurePair_59 hl (by decide) rfl (fun ls hl => ?_)
  refine lv_iload S.1 S.2.1 dX5_measurePair_61 (lv_at hl 4 rfl) ?_
  refine lv_iload S.1 S.2.1 dX5_measurePair_63 (lv_at hl 1 rfl) ?_
  refine lv_imul S.1 S.2.1 dX5_measurePair_65 ?_
  refine lv_iload S.1 S.2.1 dX5_measurePair_66 (lv_at hl 3 rfl) ?_
  refine lv_iload S.1 S.2.1 dX5_measurePair_68 (lv_at hl 2 rfl) ?_
  refine lv_imul S.1 S.2.1 dX5_measurePair_70 ?_
  refine lv_isub S.1 S.2.1 dX5_measurePair_71 ?_
  refine z_nm hF (fun v26 hF => ?_)
  refine lv_istore (lv' := [(9, .int v26), (8, .int v25), (7, .int v24), (6, .int v23), (5, .int v22), (4, .int v21), (0, .ref (g.1 15 j)), (1, .ref (g.1 1 j1)), (2, .int v2), (3, .int v3)]) S.1 S.2.1 dX5_measurePair_72 hl (by decide) rfl (fun ls hl => ?_)
  refine lv_iload S.1 S.2.1 dX5_measurePair_74 (lv_at hl 1 rfl) ?_
  refine lv_iload S.1 S.2.1 dX5_measurePair_76 (lv_at hl 0 rfl) ?_
  refine lv_imul S.1 S.2.1 dX5_measurePair_78 ?_
  refine lv_if_gt (tgt := 83) S.1 S.2.1 dX5_measurePair_79 (by decide) (fun hc => ?_) (fun hc => ?_)
  · replace hF := z_ct hF hc
    refine lv_iload S.1 S.2.1 dX5_measurePair_83 (lv_at hl 0 rfl) ?_
    refine z_mabs S hl (S.2.2.2.2 _ wm_X5_48) (S.2.2.2.2 _ ws_JM_abs) (S.2.2.2.2 _ wi_JM) (S.2.2.2.2 _ wk_abs) (Nat.le_of_ble_eq_true rfl) (Nat.le_of_ble_eq_true rfl) (Nat.zero_le _) (Nat.zero_le _) dX5_measurePair_85 ?_
    refine z_nm hF (fun v27 hF => ?_)
    refine lv_istore (lv' := [(10, .int v27), (9, .int v26), (8, .int v25), (7, .int v24), (6, .int v23), (5, .int v22), (4, .int v21), (0, .ref (g.1 15 j)), (1, .ref (g.1 1 j1)), (2, .int v2), (3, .int v3)]) S.1 S.2.1 dX5_measurePair_88 hl (by decide) rfl (fun ls hl => ?_)
    refine lv_iload S.1 S.2.1 dX5_measurePair_90 (lv_at hl 2 rfl) ?_
    refine z_mabs S hl (S.2.2.2.2 _ wm_X5_48) (S.2.2.2.2 _ ws_JM_abs) (S.2.2.2.2 _ wi_JM) (S.2.2.2.2 _ wk_abs) (Nat.le_of_ble_eq_true rfl) (Nat.le_of_ble_eq_true rfl) (Nat.zero_le _) (Nat.zero_le _) dX5_measurePair_92 ?_
    refine lv_iload S.1 S.2.1 dX5_measurePair_95 (lv_at hl 3 rfl) ?_
    refine lv_imul S.1 S.2.1 dX5_measurePair_97 ?_
    refine z_nm hF (fun v28 hF => ?_)
    refine lv_istore (lv' := [(11, .int v28), (10, .int v27), (9, .int v26), (8, .int v25), (7, .int v24), (6, .int v23), (5, .int v22), (4, .int v21), (0, .ref (g.1 15 j)), (1, .ref (g.1 1 j1)), (2, .int v2), (3, .int v3)]) S.1 S.2.1 dX5_measurePair_98 hl (by decide) rfl (fun ls hl => ?_)
    refine lv_iload S.1 S.2.1 dX5_measurePair_100 (lv_at hl 3 rfl) ?_
    refine z_mabs S hl (S.2.2.2.2 _ wm_X5_48) (S.2.2.2.2 _ ws_JM_abs) (S.2.2.2.2 _ wi_JM) (S.2.2.2.2 _ wk_abs) (Nat.le_of_ble_eq_true rfl) (Nat.le_of_ble_eq_true rfl) (Nat.zero_le _) (Nat.zero_le _) dX5_measurePair_102 ?_
    refine lv_iload S.1 S.2.1 dX5_measurePair_105 (lv_at hl 6 rfl) ?_
    refine lv_imul S.1 S.2.1 dX5_measurePair_107 ?_
    refine z_nm hF (fun v29 hF => ?_)
    refine lv_istore (lv' := [(12, .int v29), (11, .int v28), (10, .int v27), (9, .int v26), (8, .int v25), (7, .int v24), (6, .int v23), (5, .int v22), (4, .int v21), (0, .ref (g.1 15 j)), (1, .ref (g.1 1 j1)), (2, .int v2), (3, .int v3)]) S.1 S.2.1 dX5_measurePair_108 hl (by decide) rfl (fun ls hl => ?_)
    refine lv_iload S.1 S.2.1 dX5_measurePair_110 (lv_at hl 1 rfl) ?_
    refine lv_iload S.1 S.2.1 dX5_measurePair_112 (lv_at hl 2 rfl) ?_
    refine lv_icmp_ge (tgt := 124) S.1 S.2.1 dX5_measurePair_114 (by decide) (fun hc => ?_) (fun hc => ?_)
    · replace hF := z_ct hF hc
      exact z_vret S hr hlk hR hS hF dX5_measurePair_124
    · replace hF := z_cf hF hc
      refine lv_iload S.1 S.2.1 dX5_measurePair_117 (lv_at hl 0 rfl) ?_
      refine lv_iload S.1 S.2.1 dX5_measurePair_119 (lv_at hl 2 rfl) ?_
      refine lv_icmp_lt (tgt := 125) S.1 S.2.1 dX5_measurePair_121 (by decide) (fun hc => ?_) (fun hc => ?_)
      · replace hF := z_ct hF hc
        refine lv_iload S.1 S.2.1 dX5_measurePair_125 (lv_at hl 2 rfl) ?_
        refine lv_iload S.1 S.2.1 dX5_measurePair_127 (lv_at hl 8 rfl) ?_
        refine lv_iload S.1 S.2.1 dX5_measurePair_129 (lv_at hl 6 rfl) ?_
        refine lv_imul S.1 S.2.1 dX5_measurePair_131 ?_
        refine lv_iload S.1 S.2.1 dX5_measurePair_132 (lv_at hl 7 rfl) ?_
        refine lv_iload S.1 S.2.1 dX5_measurePair_134 (lv_at hl 5 rfl) ?_
        refine lv_imul S.1 S.2.1 dX5_measurePair_136 ?_
        refine lv_iadd S.1 S.2.1 dX5_measurePair_137 ?_
        refine z_mabs S hl (S.2.2.2.2 _ wm_X5_48) (S.2.2.2.2 _ ws_JM_abs) (S.2.2.2.2 _ wi_JM) (S.2.2.2.2 _ wk_abs) (Nat.le_of_ble_eq_true rfl) (Nat.le_of_ble_eq_true rfl) (Nat.zero_le _) (Nat.zero_le _) dX5_measurePair_138 ?_
        refine lv_icmp_lt (tgt := 148) S.1 S.2.1 dX5_measurePair_141 (by decide) (fun hc => ?_) (fun hc => ?_)
        · replace hF := z_ct hF hc
          refine lv_iconst (v := 0) S.1 S.2.1 dX5_measurePair_148 (by decide) ?_
          refine lv_istore (lv' := [(13, .int 0), (12, .int v29), (11, .int v28), (10, .int v27), (9, .int v26), (8, .int v25), (7, .int v24), (6, .int v23), (5, .int v22), (4, .int v21), (0, .ref (g.1 15 j)), (1, .ref (g.1 1 j1)), (2, .int v2), (3, .int v3)]) S.1 S.2.1 dX5_measurePair_149 hl (by decide) rfl (fun ls hl => ?_)
          refine lv_aload_n S.1 S.2.1 dX5_measurePair_151 rfl (lv_at hl 10 rfl) ?_
          refine lv_iload_n S.1 S.2.1 dX5_measurePair_152 rfl (lv_at hl 12 rfl) ?_
          refine lv_iload_n S.1 S.2.1 dX5_measurePair_153 rfl (lv_at hl 13 rfl) ?_
          refine lv_bipush (v := 32) S.1 S.2.1 dX5_measurePair_154 (by decide) ?_
          refine lv_iload S.1 S.2.1 dX5_measurePair_156 (lv_at hl 2 rfl) ?_
          refine lv_imul S.1 S.2.1 dX5_measurePair_158 ?_
          refine lv_iload S.1 S.2.1 dX5_measurePair_159 (lv_at hl 3 rfl) ?_
          obtain ⟨hne, hF⟩ := zV_out hF
          refine lv_idiv S.1 S.2.1 dX5_measurePair_161 hne ?_
          refine lv_iload S.1 S.2.1 dX5_measurePair_162 (lv_at hl 0 rfl) ?_
          refine z_gov hS hF (fun _ _ ho => va_runV (C := RX5) (n := 4) (As := [.int v2, .int v3, .int ((32 * v28) / v27), .int 0]) (rest := []) S (kX5_note l hg hj ho) (cwV 4 S.2.2.2.2 (zgV wm_X5_54 oX5_note) rfl rfl rfl hX5_note ⟨Nat.le_of_ble_eq_true rfl, Nat.le_of_ble_eq_true rfl⟩) ⟨zPc_blind, z_recv hK hR hj rfl rfl, z_pre hK hR⟩ rfl rfl hl.1 rfl (lv_room (Nat.le_of_ble_eq_true rfl)) dX5_measurePair_164 ⟨Nat.zero_le _, Nat.zero_le _⟩) (fun M30 H locs hR hS hF => ?_)
          refine lv_aload_n S.1 S.2.1 dX5_measurePair_167 rfl (lv_at hl 10 rfl) ?_
          refine lv_iload_n S.1 S.2.1 dX5_measurePair_168 rfl (lv_at hl 13 rfl) ?_
          refine lv_iload_n S.1 S.2.1 dX5_measurePair_169 rfl (lv_at hl 12 rfl) ?_
          refine lv_bipush (v := 32) S.1 S.2.1 dX5_measurePair_170 (by decide) ?_
          refine lv_iload S.1 S.2.1 dX5_measurePair_172 (lv_at hl 1 rfl) ?_
          refine lv_imul S.1 S.2.1 dX5_measurePair_174 ?_
          refine lv_iload S.1 S.2.1 dX5_measurePair_175 (lv_at hl 3 rfl) ?_
          obtain ⟨hne, hF⟩ := zV_out hF
          refine lv_idiv S.1 S.2.1 dX5_measurePair_177 hne ?_
          refine lv_iload S.1 S.2.1 dX5_measurePair_178 (lv_at hl 0 rfl) ?_
          refine z_gov hS hF (fun _ _ ho => va_runV (C := RX5) (n := 4) (As := [.int v3, .int v2, .int ((32 * v29) / v27), .int 0]) (rest := []) S (kX5_note l hg hj ho) (cwV 4 S.2.2.2.2 (zgV wm_X5_54 oX5_note) rfl rfl rfl hX5_note ⟨Nat.le_of_ble_eq_true rfl, Nat.le_of_ble_eq_true rfl⟩) ⟨zPc_blind, z_recv hK hR hj rfl rfl, z_pre hK hR⟩ rfl rfl hl.1 rfl (lv_room (Nat.le_of_ble_eq_true rfl)) dX5_measurePair_180 ⟨Nat.zero_le _, Nat.zero_le _⟩) (fun M31 H locs hR hS hF => ?_)
          exact z_vret S hr hlk hR hS hF dX5_measurePair_183
        · replace hF := z_cf hF hc
          refine lv_iconst (v := 1) S.1 S.2.1 dX5_measurePair_144 (by decide) ?_
          refine lv_goto (tgt := 149) S.1 S.2.1 dX5_measurePair_145 (by decide) ?_
          refine lv_istore (lv' := [(13, .int 1), (12, .int v29), (11, .int v28), (10, .int v27), (9, .int v26), (8, .int v25), (7, .int v24), (6, .int v23), (5, .int v22), (4, .int v21), (0, .ref (g.1 15 j)), (1, .ref (g.1 1 j1)), (2, .int v2), (3, .int v3)]) S.1 S.2.1 dX5_measurePair_149 hl (by decide) rfl (fun ls hl => ?_)
          refine lv_aload_n S.1 S.2.1 dX5_measurePair_151 rfl (lv_at hl 10 rfl) ?_
          refine lv_iload_n S.1 S.2.1 dX5_measurePair_152 rfl (lv_at hl 12 rfl) ?_
          refine lv_iload_n S.1 S.2.1 dX5_measurePair_153 rfl (lv_at hl 13 rfl) ?_
          refine lv_bipush (v := 32) S.1 S.2.1 dX5_measurePair_154 (by decide) ?_
          refine lv_iload S.1 S.2.1 dX5_measurePair_156 (lv_at hl 2 rfl) ?_
          refine lv_imul S.1 S.2.1 dX5_measurePair_158 ?_
          refine lv_iload S.1 S.2.1 dX5_measurePair_159 (lv_at hl 3 rfl) ?_
          obtain ⟨hne, hF⟩ := zV_out hF
          refine lv_idiv S.1 S.2.1 dX5_measurePair_161 hne ?_
          refine lv_iload S.1 S.2.1 dX5_measurePair_162 (lv_at hl 0 rfl) ?_
          refine z_gov hS hF (fun _ _ ho => va_runV (C := RX5) (n := 4) (As := [.int v2, .int v3, .int ((32 * v28) / v27), .int 1]) (rest := []) S (kX5_note l hg hj ho) (cwV 4 S.2.2.2.2 (zgV wm_X5_54 oX5_note) rfl rfl rfl hX5_note ⟨Nat.le_of_ble_eq_true rfl, Nat.le_of_ble_eq_true rfl⟩) ⟨zPc_blind, z_recv hK hR hj rfl rfl, z_pre hK hR⟩ rfl rfl hl.1 rfl (lv_room (Nat.le_of_ble_eq_true rfl)) dX5_measurePair_164 ⟨Nat.zero_le _, Nat.zero_le _⟩) (fun M32 H locs hR hS hF => ?_)
          refine lv_aload_n S.1 S.2.1 dX5_measurePair_167 rfl (lv_at hl 10 rfl) ?_
          refine lv_iload_n S.1 S.2.1 dX5_measurePair_168 rfl (lv_at hl 13 rfl) ?_
          refine lv_iload_n S.1 S.2.1 dX5_measurePair_169 rfl (lv_at hl 12 rfl) ?_
          refine lv_bipush (v := 32) S.1 S.2.1 dX5_measurePair_170 (by decide) ?_
          refine lv_iload S.1 S.2.1 dX5_measurePair_172 (lv_at hl 1 rfl) ?_
          refine lv_imul S.1 S.2.1 dX5_measurePair_174 ?_
          refine lv_iload S.1 S.2.1 dX5_measurePair_175 (lv_at hl 3 rfl) ?_
          obtain ⟨hne, hF⟩ := zV_out hF
          refine lv_idiv S.1 S.2.1 dX5_measurePair_177 hne ?_
          refine lv_iload S.1 S.2.1 dX5_measurePair_178 (lv_at hl 0 rfl) ?_
          refine z_gov hS hF (fun _ _ ho => va_runV (C := RX5) (n := 4) (As := [.int v3, .int v2, .int ((32 * v29) / v27), .int 1]) (rest := []) S (kX5_note l hg hj ho) (cwV 4 S.2.2.2.2 (zgV wm_X5_54 oX5_note) rfl rfl rfl hX5_note ⟨Nat.le_of_ble_eq_true rfl, Nat.le_of_ble_eq_true rfl⟩) ⟨zPc_blind, z_recv hK hR hj rfl rfl, z_pre hK hR⟩ rfl rfl hl.1 rfl (lv_room (Nat.le_of_ble_eq_true rfl)) dX5_measurePair_180 ⟨Nat.zero_le _, Nat.zero_le _⟩) (fun M33 H locs hR hS hF => ?_)
          exact z_vret S hr hlk hR hS hF dX5_measurePair_183
      · replace hF := z_cf hF hc
        exact z_vret S hr hlk hR hS hF dX5_measurePair_124
  · replace hF := z_cf hF hc
    exact z_vret S hr hlk hR hS hF dX5_measurePair_82
theorem hX5_measure : yX5_measure.cls = RX5 ∧ yX5_measure.cls ≠ "java/lang/invoke/MethodHandle" ∧ yX5_measure.cls ≠ "java/lang/invoke/VarHandle" ∧ (parseMethodDescriptor yX5_measure.desc).map (fun d => d.parameters.length) = some 1 := by decide +kernel
theorem oX5_measure : Cond.instanceMethod yX5_measure ∈ zT ∧ Cond.selects RX5 yX5_measure yX5_measure ∈ zT ∧ Cond.initialized RX5 ∈ zT ∧ Cond.code yX5_measure cX5_measure 4 none ∈ zT := ⟨wv_X5_measure, we_X5_measure, wi_X5, wk_X5_measure⟩
set_option maxRecDepth 100000 in
set_option maxHeartbeats 4000000 in
theorem kX5_measure (l : Launch) {g : zGeo} {z : Nat} (hg : zAd g z) {M M' : zM} {j : Nat} (hj : j < 2) {j1 : Nat} (hj1 : j1 < 10) {r : Unit} (hF : fX5_measure M j j1 = some (r, M')) : Met l yX5_measure [.code yX5_measure cX5_measure 4 none] { frames := 2, cells := 0, slots := 0, locals := 57 } (zPc g M [.ref (g.1 15 j), .ref (g.1 1 j1)]) (zQv g z M') 0 0 (zS z) := by
  refine z_enter (cc := cX5_measure) (maxL := 4) (ret := none) (by decide) rfl (Nat.le_of_ble_eq_true rfl) ?_
  intro p e s m below meth c S hr hlk hK hR hS ls hl
  have S : CallFix p m c cX5_measure 4 s _ zT RX5 := S
  have hl : lv_has ls 4 [(0, .ref (g.1 15 j)), (1, .ref (g.1 1 j1))] := hl
  have L25 : ∀ (k : zM → Int32 → Option (Unit × zM)) (a2 : Int32), (∀ (M : zM) (a3 : Int32) (H : Heap) (locs : List Loc), zR g M H → va_S (zS z) s.heap H locs → ∀ ls : Array Slot, lv_has ls 4 [(0, .ref (g.1 15 j)), (1, .ref (g.1 1 j1)), (2, .int a2), (3, .int a3)] → k M a3 = some (r, M') → W p l e { frames := 2, cells := 0, slots := 0, locals := 57 } s m ([.ref (g.1 15 j), .ref (g.1 1 j1)] : List Value).toArray below meth c H locs 0 0 (MQ below (zQv g z M') ([.ref (g.1 15 j), .ref (g.1 1 j1)] : List Value).toArray s 0 0 (zS z)) (F0 m 52 ls [])) → ∀ (n : Nat) (M : zM) (a3 : Int32) (H : Heap) (locs : List Loc), zR g M H → va_S (zS z) s.heap H locs → ∀ ls : Array Slot, lv_has ls 4 [(0, .ref (g.1 15 j)), (1, .ref (g.1 1 j1)), (2, .int a2), (3, .int a3)] → fX5_measure_L25 k j j1 a2 n M a3 = some (r, M') → W p l e { frames := 2, cells := 0, slots := 0, locals := 57 } s m ([.ref (g.1 15 j), .ref (g.1 1 j1)] : List Value).toArray below meth c H locs 0 0 (MQ below (zQv g z M') ([.ref (g.1 15 j), .ref (g.1 1 j1)] : List Value).toArray s 0 0 (zS z)) (F0 m 25 ls []) := by
    intro k a2 hk n
    induction n with
    | zero =>
      intro M a3 H locs hR hS ls hl hF
      cases hF
    | succ n ih =>
      intro M a3 H locs hR hS ls hl hF
      unfold fX5_measure_L25 at hF
      refine lv_iload_n S.1 S.2.1 dX5_measure_25 rfl (lv_at hl 3 rfl) ?_
      refine lv_bipush (v := 6) S.1 S.2.1 dX5_measure_26 (by decide) ?_
      refine lv_icmp_ge (tgt := 52) S.1 S.2.1 dX5_measure_28 (by decide) (fun hc => ?_) (fun hc => ?_)
      · replace hF := z_ct hF hc
        exact hk _ _ _ _ hR hS _ (lv_sub hl [0, 1, 2, 3] rfl) hF
      · replace hF := z_cf hF hc
        refine lv_aload_n S.1 S.2.1 dX5_measure_31 rfl (lv_at hl 1 rfl) ?_
        refine lv_iload_n S.1 S.2.1 dX5_measure_32 rfl (lv_at hl 3 rfl) ?_
        refine z_goi hS hF (fun _ _ ho => va_runV (C := RX2) (n := 1) (As := [.int a3]) (rest := []) S (kX2_isFlying l hg hj1 ho) (cwV 1 S.2.2.2.2 (zgV wm_X5_29 oX2_isFlying) rfl rfl rfl hX2_isFlying ⟨Nat.le_of_ble_eq_true rfl, Nat.le_of_ble_eq_true rfl⟩) ⟨zPc_blind, z_recv hK hR hj1 rfl rfl, z_pre hK hR⟩ rfl rfl hl.1 rfl (lv_room (Nat.le_of_ble_eq_true rfl)) dX5_measure_33 ⟨Nat.zero_le _, Nat.zero_le _⟩) (fun r27 M26 H locs hR hS hF => ?_)
        refine lv_if_eq (tgt := 46) S.1 S.2.1 dX5_measure_36 (by decide) (fun hc => ?_) (fun hc => ?_)
        · replace hF := z_ct hF hc
          obtain ⟨v28, ev28, hF⟩ := zL_out hF
          refine lv_iinc (v := v28) (lv' := [(3, .int v28), (0, .ref (g.1 15 j)), (1, .ref (g.1 1 j1)), (2, .int a2)]) S.1 S.2.1 dX5_measure_46 hl (k := 3) rfl (by rw [← ev28]; rfl) (by decide) rfl (fun ls hl => ?_)
          refine lv_goto (tgt := 25) S.1 S.2.1 dX5_measure_49 (by decide) ?_
          exact ih _ _ _ _ hR hS _ (lv_sub hl [1, 2, 3, 0] rfl) hF
        · replace hF := z_cf hF hc
          refine lv_aload_n S.1 S.2.1 dX5_measure_39 rfl (lv_at hl 0 rfl) ?_
          refine lv_aload_n S.1 S.2.1 dX5_measure_40 rfl (lv_at hl 1 rfl) ?_
          refine lv_iload_n S.1 S.2.1 dX5_measure_41 rfl (lv_at hl 2 rfl) ?_
          refine lv_iload_n S.1 S.2.1 dX5_measure_42 rfl (lv_at hl 3 rfl) ?_
          refine z_gov hS hF (fun _ _ ho => va_runV (C := RX5) (n := 3) (As := [.ref (g.1 1 j1), .int a2, .int a3]) (rest := []) S (kX5_measurePair l hg hj hj1 ho) (cwV 3 S.2.2.2.2 (zgV wm_X5_35 oX5_measurePair) rfl rfl rfl hX5_measurePair ⟨Nat.le_of_ble_eq_true rfl, Nat.le_of_ble_eq_true rfl⟩) ⟨zPc_blind, z_recv hK hR hj rfl rfl, z_pre hK hR⟩ rfl rfl hl.1 rfl (lv_room (Nat.le_of_ble_eq_true rfl)) dX5_measure_43 ⟨Nat.zero_le _, Nat.zero_le _⟩) (fun M29 H locs hR hS hF => ?_)
          obtain ⟨v30, ev30, hF⟩ := zL_out hF
          refine lv_iinc (v := v30) (lv' := [(3, .int v30), (0, .ref (g.1 15 j)), (1, .ref (g.1 1 j1)), (2, .int a2)]) S.1 S.2.1 dX5_measure_46 hl (k := 3) rfl (by rw [← ev30]; rfl) (by decide) rfl (fun ls hl => ?_)
          refine lv_goto (tgt := 25) S.1 S.2.1 dX5_measure_49 (by decide) ?_
          exact ih _ _ _ _ hR hS _ (lv_sub hl [1, 2, 3, 0] rfl) hF
  have L7 : ∀ (k : zM → Int32 → Option (Unit × zM)) , (∀ (M : zM) (a2 : Int32) (H : Heap) (locs : List Loc), zR g M H → va_S (zS z) s.heap H locs → ∀ ls : Array Slot, lv_has ls 4 [(0, .ref (g.1 15 j)), (1, .ref (g.1 1 j1)), (2, .int a2)] → k M a2 = some (r, M') → W p l e { frames := 2, cells := 0, slots := 0, locals := 57 } s m ([.ref (g.1 15 j), .ref (g.1 1 j1)] : List Value).toArray below meth c H locs 0 0 (MQ below (zQv g z M') ([.ref (g.1 15 j), .ref (g.1 1 j1)] : List Value).toArray s 0 0 (zS z)) (F0 m 58 ls [])) → ∀ (n : Nat) (M : zM) (a2 : Int32) (H : Heap) (locs : List Loc), zR g M H → va_S (zS z) s.heap H locs → ∀ ls : Array Slot, lv_has ls 4 [(0, .ref (g.1 15 j)), (1, .ref (g.1 1 j1)), (2, .int a2)] → fX5_measure_L7 k j j1 n M a2 = some (r, M') → W p l e { frames := 2, cells := 0, slots := 0, locals := 57 } s m ([.ref (g.1 15 j), .ref (g.1 1 j1)] : List Value).toArray below meth c H locs 0 0 (MQ below (zQv g z M') ([.ref (g.1 15 j), .ref (g.1 1 j1)] : List Value).toArray s 0 0 (zS z)) (F0 m 7 ls []) := by
    intro k  hk n
    induction n with
    | zero =>
      intro M a2 H locs hR hS ls hl hF
      cases hF
    | succ n ih =>
      intro M a2 H locs hR hS ls hl hF
      unfold fX5_measure_L7 at hF
      refine lv_iload_n S.1 S.2.1 dX5_measure_7 rfl (lv_at hl 2 rfl) ?_
      refine lv_bipush (v := 6) S.1 S.2.1 dX5_measure_8 (by decide) ?_
      refine lv_icmp_ge (tgt := 58) S.1 S.2.1 dX5_measure_10 (by decide) (fun hc => ?_) (fun hc => ?_)
      · replace hF := z_ct hF hc
        exact hk _ _ _ _ hR hS _ (lv_sub hl [0, 1, 2] rfl) hF
      · replace hF := z_cf hF hc
        refine lv_aload_n S.1 S.2.1 dX5_measure_13 rfl (lv_at hl 1 rfl) ?_
        refine lv_iload_n S.1 S.2.1 dX5_measure_14 rfl (lv_at hl 2 rfl) ?_
        refine z_goi hS hF (fun _ _ ho => va_runV (C := RX2) (n := 1) (As := [.int a2]) (rest := []) S (kX2_isFlying l hg hj1 ho) (cwV 1 S.2.2.2.2 (zgV wm_X5_29 oX2_isFlying) rfl rfl rfl hX2_isFlying ⟨Nat.le_of_ble_eq_true rfl, Nat.le_of_ble_eq_true rfl⟩) ⟨zPc_blind, z_recv hK hR hj1 rfl rfl, z_pre hK hR⟩ rfl rfl hl.1 rfl (lv_room (Nat.le_of_ble_eq_true rfl)) dX5_measure_15 ⟨Nat.zero_le _, Nat.zero_le _⟩) (fun r23 M22 H locs hR hS hF => ?_)
        refine lv_if_eq (tgt := 52) S.1 S.2.1 dX5_measure_18 (by decide) (fun hc => ?_) (fun hc => ?_)
        · replace hF := z_ct hF hc
          obtain ⟨v24, ev24, hF⟩ := zL_out hF
          refine lv_iinc (v := v24) (lv' := [(2, .int v24), (0, .ref (g.1 15 j)), (1, .ref (g.1 1 j1))]) S.1 S.2.1 dX5_measure_52 hl (k := 2) rfl (by rw [← ev24]; rfl) (by decide) rfl (fun ls hl => ?_)
          refine lv_goto (tgt := 7) S.1 S.2.1 dX5_measure_55 (by decide) ?_
          exact ih _ _ _ _ hR hS _ (lv_sub hl [1, 2, 0] rfl) hF
        · replace hF := z_cf hF hc
          refine lv_iload_n S.1 S.2.1 dX5_measure_21 rfl (lv_at hl 2 rfl) ?_
          refine lv_iconst (v := 1) S.1 S.2.1 dX5_measure_22 (by decide) ?_
          refine lv_iadd S.1 S.2.1 dX5_measure_23 ?_
          refine z_nm hF (fun v25 hF => ?_)
          refine lv_istore_n (lv' := [(3, .int v25), (0, .ref (g.1 15 j)), (1, .ref (g.1 1 j1)), (2, .int a2)]) S.1 S.2.1 dX5_measure_24 rfl hl (by decide) rfl (fun ls hl => ?_)
          refine L25 _ _ (fun M31 v32 H locs hR hS ls hl hF => ?_) _ _ _ _ _ hR hS _ (lv_sub hl [1, 2, 3, 0] rfl) hF
          obtain ⟨v33, ev33, hF⟩ := zL_out hF
          refine lv_iinc (v := v33) (lv' := [(2, .int v33), (0, .ref (g.1 15 j)), (1, .ref (g.1 1 j1)), (3, .int v32)]) S.1 S.2.1 dX5_measure_52 hl (k := 2) rfl (by rw [← ev33]; rfl) (by decide) rfl (fun ls hl => ?_)
          refine lv_goto (tgt := 7) S.1 S.2.1 dX5_measure_55 (by decide) ?_
          exact ih _ _ _ _ hR hS _ (lv_sub hl [1, 2, 0] rfl) hF
  unfold fX5_measure at hF
  refine lv_aload_n S.1 S.2.1 dX5_measure_0 rfl (lv_at hl 0 rfl) ?_
  refine lv_iconst (v := 0) S.1 S.2.1 dX5_measure_1 (by decide) ?_
  refine z_put (k := 15) (i := j) (f := 4) (ty := .int) S hg hK hR hS hF hj rfl rfl rfl (by decide) wf_X5_25 rfl (by decide +kernel) rfl rfl (Nat.le_of_ble_eq_true rfl) dX5_measure_2 (fun H locs M21 hR hS hF => ?_)
  refine lv_iconst (v := 0) S.1 S.2.1 dX5_measure_5 (by decide) ?_
  refine lv_istore_n (lv' := [(2, .int 0), (0, .ref (g.1 15 j)), (1, .ref (g.1 1 j1))]) S.1 S.2.1 dX5_measure_6 rfl hl (by decide) rfl (fun ls hl => ?_)
  refine L7 _ (fun M34 v35 H locs hR hS ls hl hF => ?_) _ _ _ _ _ hR hS _ (lv_sub hl [1, 2, 0] rfl) hF
  exact z_vret S hr hlk hR hS hF dX5_measure_58
theorem hX5_crossings : yX5_crossings.cls = RX5 ∧ yX5_crossings.cls ≠ "java/lang/invoke/MethodHandle" ∧ yX5_crossings.cls ≠ "java/lang/invoke/VarHandle" ∧ (parseMethodDescriptor yX5_crossings.desc).map (fun d => d.parameters.length) = some 0 := by decide +kernel
theorem oX5_crossings : Cond.instanceMethod yX5_crossings ∈ zT ∧ Cond.selects RX5 yX5_crossings yX5_crossings ∈ zT ∧ Cond.initialized RX5 ∈ zT ∧ Cond.code yX5_crossings cX5_crossings 1 (some .int) ∈ zT := ⟨wv_X5_crossings, we_X5_crossings, wi_X5, wk_X5_crossings⟩
set_option maxRecDepth 100000 in
set_option maxHeartbeats 4000000 in
theorem kX5_crossings (l : Launch) {g : zGeo} {z : Nat} (hg : zAd g z) {M M' : zM} {j : Nat} (hj : j < 2) {r : Int32} (hF : fX5_crossings M j = some (r, M')) : Met l yX5_crossings [.code yX5_crossings cX5_crossings 1 (some .int)] { frames := 0, cells := 0, slots := 0, locals := 0 } (zPc g M [.ref (g.1 15 j)]) (zQi g z r M') 0 0 (zS z) := by
  refine z_enter (cc := cX5_crossings) (maxL := 1) (ret := (some .int)) (by decide) rfl (Nat.le_of_ble_eq_true rfl) ?_
  intro p e s m below meth c S hr hlk hK hR hS ls hl
  have S : CallFix p m c cX5_crossings 1 s _ zT RX5 := S
  have hl : lv_has ls 1 [(0, .ref (g.1 15 j))] := hl
  unfold fX5_crossings at hF
  refine lv_aload_n S.1 S.2.1 dX5_crossings_0 rfl (lv_at hl 0 rfl) ?_
  refine z_get (k := 15) (i := j) (f := 4) (v := .int (M 15 j 4)) S hK hR hj rfl rfl (by decide) wf_X5_25 rfl dX5_crossings_1 ?_
  refine lv_iconst (v := 2) S.1 S.2.1 dX5_crossings_4 (by decide) ?_
  obtain ⟨hne, hF⟩ := zV_out hF
  refine lv_idiv S.1 S.2.1 dX5_crossings_5 hne ?_
  exact z_iret S hr hlk hR hS hF dX5_crossings_6
theorem hX5_noteOf : yX5_noteOf.cls = RX5 ∧ yX5_noteOf.cls ≠ "java/lang/invoke/MethodHandle" ∧ yX5_noteOf.cls ≠ "java/lang/invoke/VarHandle" ∧ (parseMethodDescriptor yX5_noteOf.desc).map (fun d => d.parameters.length) = some 2 := by decide +kernel
theorem oX5_noteOf : Cond.instanceMethod yX5_noteOf ∈ zT ∧ Cond.selects RX5 yX5_noteOf yX5_noteOf ∈ zT ∧ Cond.initialized RX5 ∈ zT ∧ Cond.code yX5_noteOf cX5_noteOf 4 (some .int) ∈ zT := ⟨wv_X5_noteOf, we_X5_noteOf, wi_X5, wk_X5_noteOf⟩
set_option maxRecDepth 100000 in
set_option maxHeartbeats 4000000 in
theorem kX5_noteOf (l : Launch) {g : zGeo} {z : Nat} (hg : zAd g z) {M M' : zM} {j : Nat} (hj : j < 2) {v1 : Int32} {v2 : Int32} {r : Int32} (hF : fX5_noteOf M j v1 v2 = some (r, M')) : Met l yX5_noteOf [.code yX5_noteOf cX5_noteOf 4 (some .int)] { frames := 0, cells := 0, slots := 0, locals := 0 } (zPc g M [.ref (g.1 15 j), .int v1, .int v2]) (zQi g z r M') 0 0 (zS z) := by
  refine z_enter (cc := cX5_noteOf) (maxL := 4) (ret := (some .int)) (by decide) rfl (Nat.le_of_ble_eq_true rfl) ?_
  intro p e s m below meth c S hr hlk hK hR hS ls hl
  have S : CallFix p m c cX5_noteOf 4 s _ zT RX5 := S
  have hl : lv_has ls 4 [(0, .ref (g.1 15 j)), (1, .int v1), (2, .int v2)] := hl
  have L2 : ∀ (k : zM → Int32 → Option (Int32 × zM)) (a1 : Int32) (a2 : Int32), (∀ (M : zM) (a3 : Int32) (H : Heap) (locs : List Loc), zR g M H → va_S (zS z) s.heap H locs → ∀ ls : Array Slot, lv_has ls 4 [(0, .ref (g.1 15 j)), (1, .int a1), (2, .int a2), (3, .int a3)] → k M a3 = some (r, M') → W p l e { frames := 0, cells := 0, slots := 0, locals := 0 } s m ([.ref (g.1 15 j), .int v1, .int v2] : List Value).toArray below meth c H locs 0 0 (MQ below (zQi g z r M') ([.ref (g.1 15 j), .int v1, .int v2] : List Value).toArray s 0 0 (zS z)) (F0 m 44 ls [])) → ∀ (n : Nat) (M : zM) (a3 : Int32) (H : Heap) (locs : List Loc), zR g M H → va_S (zS z) s.heap H locs → ∀ ls : Array Slot, lv_has ls 4 [(0, .ref (g.1 15 j)), (1, .int a1), (2, .int a2), (3, .int a3)] → fX5_noteOf_L2 k j a1 a2 n M a3 = some (r, M') → W p l e { frames := 0, cells := 0, slots := 0, locals := 0 } s m ([.ref (g.1 15 j), .int v1, .int v2] : List Value).toArray below meth c H locs 0 0 (MQ below (zQi g z r M') ([.ref (g.1 15 j), .int v1, .int v2] : List Value).toArray s 0 0 (zS z)) (F0 m 2 ls []) := by
    intro k a1 a2 hk n
    induction n with
    | zero =>
      intro M a3 H locs hR hS ls hl hF
      cases hF
    | succ n ih =>
      intro M a3 H locs hR hS ls hl hF
      unfold fX5_noteOf_L2 at hF
      refine lv_iload_n S.1 S.2.1 dX5_noteOf_2 rfl (lv_at hl 3 rfl) ?_
      refine lv_aload_n S.1 S.2.1 dX5_noteOf_3 rfl (lv_at hl 0 rfl) ?_
      refine z_get (k := 15) (i := j) (f := 4) (v := .int (M 15 j 4)) S hK hR hj rfl rfl (by decide) wf_X5_25 rfl dX5_noteOf_4 ?_
      refine lv_icmp_ge (tgt := 44) S.1 S.2.1 dX5_noteOf_7 (by decide) (fun hc => ?_) (fun hc => ?_)
      · replace hF := z_ct hF hc
        exact hk _ _ _ _ hR hS _ (lv_sub hl [0, 1, 2, 3] rfl) hF
      · replace hF := z_cf hF hc
        refine lv_iload_n S.1 S.2.1 dX5_noteOf_10 rfl (lv_at hl 3 rfl) ?_
        refine lv_bipush (v := 30) S.1 S.2.1 dX5_noteOf_11 (by decide) ?_
        refine lv_icmp_ge (tgt := 44) S.1 S.2.1 dX5_noteOf_13 (by decide) (fun hc => ?_) (fun hc => ?_)
        · replace hF := z_ct hF hc
          exact hk _ _ _ _ hR hS _ (lv_sub hl [0, 1, 2, 3] rfl) hF
        · replace hF := z_cf hF hc
          refine lv_aload_n S.1 S.2.1 dX5_noteOf_16 rfl (lv_at hl 0 rfl) ?_
          refine z_get (k := 15) (i := j) (f := 0) (v := .ref (g.1 16 j)) S hK hR hj rfl rfl (by decide) wf_X5_11 rfl dX5_noteOf_17 ?_
          refine lv_iload_n S.1 S.2.1 dX5_noteOf_20 rfl (lv_at hl 3 rfl) ?_
          refine z_iald (k := 16) (i := j) (n := 30) S hK hR hF hj rfl dX5_noteOf_21 (fun hF => ?_)
          refine lv_iload_n S.1 S.2.1 dX5_noteOf_22 rfl (lv_at hl 1 rfl) ?_
          refine lv_icmp_ne (tgt := 38) S.1 S.2.1 dX5_noteOf_23 (by decide) (fun hc => ?_) (fun hc => ?_)
          · replace hF := z_cf hF hc
            obtain ⟨v21, ev21, hF⟩ := zL_out hF
            refine lv_iinc (v := v21) (lv' := [(3, .int v21), (0, .ref (g.1 15 j)), (1, .int a1), (2, .int a2)]) S.1 S.2.1 dX5_noteOf_38 hl (k := 3) rfl (by rw [← ev21]; rfl) (by decide) rfl (fun ls hl => ?_)
            refine lv_goto (tgt := 2) S.1 S.2.1 dX5_noteOf_41 (by decide) ?_
            exact ih _ _ _ _ hR hS _ (lv_sub hl [1, 2, 3, 0] rfl) hF
          · replace hF := z_ct hF hc
            refine lv_aload_n S.1 S.2.1 dX5_noteOf_26 rfl (lv_at hl 0 rfl) ?_
            refine z_get (k := 15) (i := j) (f := 1) (v := .ref (g.1 17 j)) S hK hR hj rfl rfl (by decide) wf_X5_15 rfl dX5_noteOf_27 ?_
            refine lv_iload_n S.1 S.2.1 dX5_noteOf_30 rfl (lv_at hl 3 rfl) ?_
            refine z_iald (k := 17) (i := j) (n := 30) S hK hR hF hj rfl dX5_noteOf_31 (fun hF => ?_)
            refine lv_iload_n S.1 S.2.1 dX5_noteOf_32 rfl (lv_at hl 2 rfl) ?_
            refine lv_icmp_ne (tgt := 38) S.1 S.2.1 dX5_noteOf_33 (by decide) (fun hc => ?_) (fun hc => ?_)
            · replace hF := z_cf hF hc
              obtain ⟨v22, ev22, hF⟩ := zL_out hF
              refine lv_iinc (v := v22) (lv' := [(3, .int v22), (0, .ref (g.1 15 j)), (1, .int a1), (2, .int a2)]) S.1 S.2.1 dX5_noteOf_38 hl (k := 3) rfl (by rw [← ev22]; rfl) (by decide) rfl (fun ls hl => ?_)
              refine lv_goto (tgt := 2) S.1 S.2.1 dX5_noteOf_41 (by decide) ?_
              exact ih _ _ _ _ hR hS _ (lv_sub hl [1, 2, 3, 0] rfl) hF
            · replace hF := z_ct hF hc
              refine lv_iload_n S.1 S.2.1 dX5_noteOf_36 rfl (lv_at hl 3 rfl) ?_
              exact z_iret S hr hlk hR hS hF dX5_noteOf_37
  unfold fX5_noteOf at hF
  refine lv_iconst (v := 0) S.1 S.2.1 dX5_noteOf_0 (by decide) ?_
  refine lv_istore_n (lv' := [(3, .int 0), (0, .ref (g.1 15 j)), (1, .int v1), (2, .int v2)]) S.1 S.2.1 dX5_noteOf_1 rfl hl (by decide) rfl (fun ls hl => ?_)
  refine L2 _ _ _ (fun M23 v24 H locs hR hS ls hl hF => ?_) _ _ _ _ _ hR hS _ (lv_sub hl [1, 2, 3, 0] rfl) hF
  refine lv_bipush (v := (-6)) S.1 S.2.1 dX5_noteOf_44 (by decide) ?_
  exact z_iret S hr hlk hR hS hF dX5_noteOf_46
theorem hX5_cross : yX5_cross.cls = RX5 ∧ yX5_cross.cls ≠ "java/lang/invoke/MethodHandle" ∧ yX5_cross.cls ≠ "java/lang/invoke/VarHandle" ∧ (parseMethodDescriptor yX5_cross.desc).map (fun d => d.parameters.length) = some 2 := by decide +kernel
theorem oX5_cross : Cond.instanceMethod yX5_cross ∈ zT ∧ Cond.selects RX5 yX5_cross yX5_cross ∈ zT ∧ Cond.initialized RX5 ∈ zT ∧ Cond.code yX5_cross cX5_cross 3 (some .boolean) ∈ zT := ⟨wv_X5_cross, we_X5_cross, wi_X5, wk_X5_cross⟩
set_option maxRecDepth 100000 in
set_option maxHeartbeats 4000000 in
theorem kX5_cross (l : Launch) {g : zGeo} {z : Nat} (hg : zAd g z) {M M' : zM} {j : Nat} (hj : j < 2) {v1 : Int32} {v2 : Int32} {r : Int32} (hF : fX5_cross M j v1 v2 = some (r, M')) : Met l yX5_cross [.code yX5_cross cX5_cross 3 (some .boolean)] { frames := 1, cells := 0, slots := 0, locals := 23 } (zPc g M [.ref (g.1 15 j), .int v1, .int v2]) (zQi g z r M') 0 0 (zS z) := by
  refine z_enter (cc := cX5_cross) (maxL := 3) (ret := (some .boolean)) (by decide) rfl (Nat.le_of_ble_eq_true rfl) ?_
  intro p e s m below meth c S hr hlk hK hR hS ls hl
  have S : CallFix p m c cX5_cross 3 s _ zT RX5 := S
  have hl : lv_has ls 3 [(0, .ref (g.1 15 j)), (1, .int v1), (2, .int v2)] := hl
  unfold fX5_cross at hF
  refine lv_aload_n S.1 S.2.1 dX5_cross_0 rfl (lv_at hl 0 rfl) ?_
  refine lv_iload_n S.1 S.2.1 dX5_cross_1 rfl (lv_at hl 1 rfl) ?_
  refine lv_iload_n S.1 S.2.1 dX5_cross_2 rfl (lv_at hl 2 rfl) ?_
  refine z_goi hS hF (fun _ _ ho => va_runV (C := RX5) (n := 2) (As := [.int v1, .int v2]) (rest := []) S (kX5_noteOf l hg hj ho) (cwV 2 S.2.2.2.2 (zgV wm_X5_58 oX5_noteOf) rfl rfl rfl hX5_noteOf ⟨Nat.le_of_ble_eq_true rfl, Nat.le_of_ble_eq_true rfl⟩) ⟨zPc_blind, z_recv hK hR hj rfl rfl, z_pre hK hR⟩ rfl rfl hl.1 rfl (lv_room (Nat.le_of_ble_eq_true rfl)) dX5_cross_3 ⟨Nat.zero_le _, Nat.zero_le _⟩) (fun r22 M21 H locs hR hS hF => ?_)
  refine lv_bipush (v := (-6)) S.1 S.2.1 dX5_cross_6 (by decide) ?_
  refine lv_icmp_eq (tgt := 15) S.1 S.2.1 dX5_cross_8 (by decide) (fun hc => ?_) (fun hc => ?_)
  · replace hF := z_ct hF hc
    refine lv_iconst (v := 0) S.1 S.2.1 dX5_cross_15 (by decide) ?_
    exact z_zretc S hr hlk hR hS (by decide) hF dX5_cross_16
  · replace hF := z_cf hF hc
    refine lv_iconst (v := 1) S.1 S.2.1 dX5_cross_11 (by decide) ?_
    refine lv_goto (tgt := 16) S.1 S.2.1 dX5_cross_12 (by decide) ?_
    exact z_zretc S hr hlk hR hS (by decide) hF dX5_cross_16
theorem hX5_placeOn : yX5_placeOn.cls = RX5 ∧ yX5_placeOn.cls ≠ "java/lang/invoke/MethodHandle" ∧ yX5_placeOn.cls ≠ "java/lang/invoke/VarHandle" ∧ (parseMethodDescriptor yX5_placeOn.desc).map (fun d => d.parameters.length) = some 2 := by decide +kernel
theorem oX5_placeOn : Cond.instanceMethod yX5_placeOn ∈ zT ∧ Cond.selects RX5 yX5_placeOn yX5_placeOn ∈ zT ∧ Cond.initialized RX5 ∈ zT ∧ Cond.code yX5_placeOn cX5_placeOn 4 (some .int) ∈ zT := ⟨wv_X5_placeOn, we_X5_placeOn, wi_X5, wk_X5_placeOn⟩
set_option maxRecDepth 100000 in
set_option maxHeartbeats 4000000 in
theorem kX5_placeOn (l : Launch) {g : zGeo} {z : Nat} (hg : zAd g z) {M M' : zM} {j : Nat} (hj : j < 2) {v1 : Int32} {v2 : Int32} {r : Int32} (hF : fX5_placeOn M j v1 v2 = some (r, M')) : Met l yX5_placeOn [.code yX5_placeOn cX5_placeOn 4 (some .int)] { frames := 1, cells := 0, slots := 0, locals := 23 } (zPc g M [.ref (g.1 15 j), .int v1, .int v2]) (zQi g z r M') 0 0 (zS z) := by
  refine z_enter (cc := cX5_placeOn) (maxL := 4) (ret := (some .int)) (by decide) rfl (Nat.le_of_ble_eq_true rfl) ?_
  intro p e s m below meth c S hr hlk hK hR hS ls hl
  have S : CallFix p m c cX5_placeOn 4 s _ zT RX5 := S
  have hl : lv_has ls 4 [(0, .ref (g.1 15 j)), (1, .int v1), (2, .int v2)] := hl
  unfold fX5_placeOn at hF
  refine lv_aload_n S.1 S.2.1 dX5_placeOn_0 rfl (lv_at hl 0 rfl) ?_
  refine lv_iload_n S.1 S.2.1 dX5_placeOn_1 rfl (lv_at hl 1 rfl) ?_
  refine lv_iload_n S.1 S.2.1 dX5_placeOn_2 rfl (lv_at hl 2 rfl) ?_
  refine z_goi hS hF (fun _ _ ho => va_runV (C := RX5) (n := 2) (As := [.int v1, .int v2]) (rest := []) S (kX5_noteOf l hg hj ho) (cwV 2 S.2.2.2.2 (zgV wm_X5_58 oX5_noteOf) rfl rfl rfl hX5_noteOf ⟨Nat.le_of_ble_eq_true rfl, Nat.le_of_ble_eq_true rfl⟩) ⟨zPc_blind, z_recv hK hR hj rfl rfl, z_pre hK hR⟩ rfl rfl hl.1 rfl (lv_room (Nat.le_of_ble_eq_true rfl)) dX5_placeOn_3 ⟨Nat.zero_le _, Nat.zero_le _⟩) (fun r22 M21 H locs hR hS hF => ?_)
  refine lv_istore_n (lv' := [(3, .int r22), (0, .ref (g.1 15 j)), (1, .int v1), (2, .int v2)]) S.1 S.2.1 dX5_placeOn_6 rfl hl (by decide) rfl (fun ls hl => ?_)
  refine lv_iload_n S.1 S.2.1 dX5_placeOn_7 rfl (lv_at hl 0 rfl) ?_
  refine lv_bipush (v := (-6)) S.1 S.2.1 dX5_placeOn_8 (by decide) ?_
  refine lv_icmp_ne (tgt := 18) S.1 S.2.1 dX5_placeOn_10 (by decide) (fun hc => ?_) (fun hc => ?_)
  · replace hF := z_cf hF hc
    refine lv_aload_n S.1 S.2.1 dX5_placeOn_18 rfl (lv_at hl 1 rfl) ?_
    refine z_get (k := 15) (i := j) (f := 2) (v := .ref (g.1 18 j)) S hK hR hj rfl rfl (by decide) wf_X5_18 rfl dX5_placeOn_19 ?_
    refine lv_iload_n S.1 S.2.1 dX5_placeOn_22 rfl (lv_at hl 0 rfl) ?_
    refine z_iald (k := 18) (i := j) (n := 30) S hK hR hF hj rfl dX5_placeOn_23 (fun hF => ?_)
    exact z_iret S hr hlk hR hS hF dX5_placeOn_24
  · replace hF := z_ct hF hc
    refine lv_bipush (v := (-6)) S.1 S.2.1 dX5_placeOn_13 (by decide) ?_
    refine lv_goto (tgt := 24) S.1 S.2.1 dX5_placeOn_15 (by decide) ?_
    exact z_iret S hr hlk hR hS hF dX5_placeOn_24
theorem hX5_isSteep : yX5_isSteep.cls = RX5 ∧ yX5_isSteep.cls ≠ "java/lang/invoke/MethodHandle" ∧ yX5_isSteep.cls ≠ "java/lang/invoke/VarHandle" ∧ (parseMethodDescriptor yX5_isSteep.desc).map (fun d => d.parameters.length) = some 2 := by decide +kernel
theorem oX5_isSteep : Cond.instanceMethod yX5_isSteep ∈ zT ∧ Cond.selects RX5 yX5_isSteep yX5_isSteep ∈ zT ∧ Cond.initialized RX5 ∈ zT ∧ Cond.code yX5_isSteep cX5_isSteep 4 (some .boolean) ∈ zT := ⟨wv_X5_isSteep, we_X5_isSteep, wi_X5, wk_X5_isSteep⟩
set_option maxRecDepth 100000 in
set_option maxHeartbeats 4000000 in
theorem kX5_isSteep (l : Launch) {g : zGeo} {z : Nat} (hg : zAd g z) {M M' : zM} {j : Nat} (hj : j < 2) {v1 : Int32} {v2 : Int32} {r : Int32} (hF : fX5_isSteep M j v1 v2 = some (r, M')) : Met l yX5_isSteep [.code yX5_isSteep cX5_isSteep 4 (some .boolean)] { frames := 1, cells := 0, slots := 0, locals := 23 } (zPc g M [.ref (g.1 15 j), .int v1, .int v2]) (zQi g z r M') 0 0 (zS z) := by
  refine z_enter (cc := cX5_isSteep) (maxL := 4) (ret := (some .boolean)) (by decide) rfl (Nat.le_of_ble_eq_true rfl) ?_
  intro p e s m below meth c S hr hlk hK hR hS ls hl
  have S : CallFix p m c cX5_isSteep 4 s _ zT RX5 := S
  have hl : lv_has ls 4 [(0, .ref (g.1 15 j)), (1, .int v1), (2, .int v2)] := hl
  unfold fX5_isSteep at hF
  refine lv_aload_n S.1 S.2.1 dX5_isSteep_0 rfl (lv_at hl 0 rfl) ?_
  refine lv_iload_n S.1 S.2.1 dX5_isSteep_1 rfl (lv_at hl 1 rfl) ?_
  refine lv_iload_n S.1 S.2.1 dX5_isSteep_2 rfl (lv_at hl 2 rfl) ?_
  refine z_goi hS hF (fun _ _ ho => va_runV (C := RX5) (n := 2) (As := [.int v1, .int v2]) (rest := []) S (kX5_noteOf l hg hj ho) (cwV 2 S.2.2.2.2 (zgV wm_X5_58 oX5_noteOf) rfl rfl rfl hX5_noteOf ⟨Nat.le_of_ble_eq_true rfl, Nat.le_of_ble_eq_true rfl⟩) ⟨zPc_blind, z_recv hK hR hj rfl rfl, z_pre hK hR⟩ rfl rfl hl.1 rfl (lv_room (Nat.le_of_ble_eq_true rfl)) dX5_isSteep_3 ⟨Nat.zero_le _, Nat.zero_le _⟩) (fun r22 M21 H locs hR hS hF => ?_)
  refine lv_istore_n (lv' := [(3, .int r22), (0, .ref (g.1 15 j)), (1, .int v1), (2, .int v2)]) S.1 S.2.1 dX5_isSteep_6 rfl hl (by decide) rfl (fun ls hl => ?_)
  refine lv_iload_n S.1 S.2.1 dX5_isSteep_7 rfl (lv_at hl 0 rfl) ?_
  refine lv_bipush (v := (-6)) S.1 S.2.1 dX5_isSteep_8 (by decide) ?_
  refine lv_icmp_eq (tgt := 26) S.1 S.2.1 dX5_isSteep_10 (by decide) (fun hc => ?_) (fun hc => ?_)
  · replace hF := z_ct hF hc
    refine lv_iconst (v := 0) S.1 S.2.1 dX5_isSteep_26 (by decide) ?_
    exact z_zretc S hr hlk hR hS (by decide) hF dX5_isSteep_27
  · replace hF := z_cf hF hc
    refine lv_aload_n S.1 S.2.1 dX5_isSteep_13 rfl (lv_at hl 1 rfl) ?_
    refine z_get (k := 15) (i := j) (f := 3) (v := .ref (g.1 19 j)) S hK hR hj rfl rfl (by decide) wf_X5_21 rfl dX5_isSteep_14 ?_
    refine lv_iload_n S.1 S.2.1 dX5_isSteep_17 rfl (lv_at hl 0 rfl) ?_
    refine z_zald (k := 19) (i := j) (n := 30) S hK hR hF hj rfl dX5_isSteep_18 (fun hF => ?_)
    refine lv_if_eq (tgt := 26) S.1 S.2.1 dX5_isSteep_19 (by decide) (fun hc => ?_) (fun hc => ?_)
    · replace hF := z_ct hF hc
      refine lv_iconst (v := 0) S.1 S.2.1 dX5_isSteep_26 (by decide) ?_
      exact z_zretc S hr hlk hR hS (by decide) hF dX5_isSteep_27
    · replace hF := z_cf hF hc
      refine lv_iconst (v := 1) S.1 S.2.1 dX5_isSteep_22 (by decide) ?_
      refine lv_goto (tgt := 27) S.1 S.2.1 dX5_isSteep_23 (by decide) ?_
      exact z_zretc S hr hlk hR hS (by decide) hF dX5_isSteep_27
theorem hX5_crossersOf : yX5_crossersOf.cls = RX5 ∧ yX5_crossersOf.cls ≠ "java/lang/invoke/MethodHandle" ∧ yX5_crossersOf.cls ≠ "java/lang/invoke/VarHandle" ∧ (parseMethodDescriptor yX5_crossersOf.desc).map (fun d => d.parameters.length) = some 1 := by decide +kernel
theorem oX5_crossersOf : Cond.instanceMethod yX5_crossersOf ∈ zT ∧ Cond.selects RX5 yX5_crossersOf yX5_crossersOf ∈ zT ∧ Cond.initialized RX5 ∈ zT ∧ Cond.code yX5_crossersOf cX5_crossersOf 4 (some .int) ∈ zT := ⟨wv_X5_crossersOf, we_X5_crossersOf, wi_X5, wk_X5_crossersOf⟩
set_option maxRecDepth 100000 in
set_option maxHeartbeats 4000000 in
theorem kX5_crossersOf (l : Launch) {g : zGeo} {z : Nat} (hg : zAd g z) {M M' : zM} {j : Nat} (hj : j < 2) {v1 : Int32} {r : Int32} (hF : fX5_crossersOf M j v1 = some (r, M')) : Met l yX5_crossersOf [.code yX5_crossersOf cX5_crossersOf 4 (some .int)] { frames := 0, cells := 0, slots := 0, locals := 0 } (zPc g M [.ref (g.1 15 j), .int v1]) (zQi g z r M') 0 0 (zS z) := by
  refine z_enter (cc := cX5_crossersOf) (maxL := 4) (ret := (some .int)) (by decide) rfl (Nat.le_of_ble_eq_true rfl) ?_
  intro p e s m below meth c S hr hlk hK hR hS ls hl
  have S : CallFix p m c cX5_crossersOf 4 s _ zT RX5 := S
  have hl : lv_has ls 4 [(0, .ref (g.1 15 j)), (1, .int v1)] := hl
  have L4 : ∀ (k : zM → Int32 → Int32 → Option (Int32 × zM)) (a1 : Int32), (∀ (M : zM) (a2 : Int32) (a3 : Int32) (H : Heap) (locs : List Loc), zR g M H → va_S (zS z) s.heap H locs → ∀ ls : Array Slot, lv_has ls 4 [(0, .ref (g.1 15 j)), (1, .int a1), (2, .int a2), (3, .int a3)] → k M a2 a3 = some (r, M') → W p l e { frames := 0, cells := 0, slots := 0, locals := 0 } s m ([.ref (g.1 15 j), .int v1] : List Value).toArray below meth c H locs 0 0 (MQ below (zQi g z r M') ([.ref (g.1 15 j), .int v1] : List Value).toArray s 0 0 (zS z)) (F0 m 45 ls [])) → ∀ (n : Nat) (M : zM) (a2 : Int32) (a3 : Int32) (H : Heap) (locs : List Loc), zR g M H → va_S (zS z) s.heap H locs → ∀ ls : Array Slot, lv_has ls 4 [(0, .ref (g.1 15 j)), (1, .int a1), (2, .int a2), (3, .int a3)] → fX5_crossersOf_L4 k j a1 n M a2 a3 = some (r, M') → W p l e { frames := 0, cells := 0, slots := 0, locals := 0 } s m ([.ref (g.1 15 j), .int v1] : List Value).toArray below meth c H locs 0 0 (MQ below (zQi g z r M') ([.ref (g.1 15 j), .int v1] : List Value).toArray s 0 0 (zS z)) (F0 m 4 ls []) := by
    intro k a1 hk n
    induction n with
    | zero =>
      intro M a2 a3 H locs hR hS ls hl hF
      cases hF
    | succ n ih =>
      intro M a2 a3 H locs hR hS ls hl hF
      unfold fX5_crossersOf_L4 at hF
      refine lv_iload_n S.1 S.2.1 dX5_crossersOf_4 rfl (lv_at hl 3 rfl) ?_
      refine lv_aload_n S.1 S.2.1 dX5_crossersOf_5 rfl (lv_at hl 0 rfl) ?_
      refine z_get (k := 15) (i := j) (f := 4) (v := .int (M 15 j 4)) S hK hR hj rfl rfl (by decide) wf_X5_25 rfl dX5_crossersOf_6 ?_
      refine lv_icmp_ge (tgt := 45) S.1 S.2.1 dX5_crossersOf_9 (by decide) (fun hc => ?_) (fun hc => ?_)
      · replace hF := z_ct hF hc
        exact hk _ _ _ _ _ hR hS _ (lv_sub hl [0, 1, 2, 3] rfl) hF
      · replace hF := z_cf hF hc
        refine lv_iload_n S.1 S.2.1 dX5_crossersOf_12 rfl (lv_at hl 3 rfl) ?_
        refine lv_bipush (v := 30) S.1 S.2.1 dX5_crossersOf_13 (by decide) ?_
        refine lv_icmp_ge (tgt := 45) S.1 S.2.1 dX5_crossersOf_15 (by decide) (fun hc => ?_) (fun hc => ?_)
        · replace hF := z_ct hF hc
          exact hk _ _ _ _ _ hR hS _ (lv_sub hl [0, 1, 2, 3] rfl) hF
        · replace hF := z_cf hF hc
          refine lv_aload_n S.1 S.2.1 dX5_crossersOf_18 rfl (lv_at hl 0 rfl) ?_
          refine z_get (k := 15) (i := j) (f := 0) (v := .ref (g.1 16 j)) S hK hR hj rfl rfl (by decide) wf_X5_11 rfl dX5_crossersOf_19 ?_
          refine lv_iload_n S.1 S.2.1 dX5_crossersOf_22 rfl (lv_at hl 3 rfl) ?_
          refine z_iald (k := 16) (i := j) (n := 30) S hK hR hF hj rfl dX5_crossersOf_23 (fun hF => ?_)
          refine lv_iload_n S.1 S.2.1 dX5_crossersOf_24 rfl (lv_at hl 1 rfl) ?_
          refine lv_icmp_ne (tgt := 39) S.1 S.2.1 dX5_crossersOf_25 (by decide) (fun hc => ?_) (fun hc => ?_)
          · replace hF := z_cf hF hc
            obtain ⟨v21, ev21, hF⟩ := zL_out hF
            refine lv_iinc (v := v21) (lv' := [(3, .int v21), (0, .ref (g.1 15 j)), (1, .int a1), (2, .int a2)]) S.1 S.2.1 dX5_crossersOf_39 hl (k := 3) rfl (by rw [← ev21]; rfl) (by decide) rfl (fun ls hl => ?_)
            refine lv_goto (tgt := 4) S.1 S.2.1 dX5_crossersOf_42 (by decide) ?_
            exact ih _ _ _ _ _ hR hS _ (lv_sub hl [1, 2, 3, 0] rfl) hF
          · replace hF := z_ct hF hc
            refine lv_iload_n S.1 S.2.1 dX5_crossersOf_28 rfl (lv_at hl 2 rfl) ?_
            refine lv_iconst (v := 1) S.1 S.2.1 dX5_crossersOf_29 (by decide) ?_
            refine lv_aload_n S.1 S.2.1 dX5_crossersOf_30 rfl (lv_at hl 0 rfl) ?_
            refine z_get (k := 15) (i := j) (f := 1) (v := .ref (g.1 17 j)) S hK hR hj rfl rfl (by decide) wf_X5_15 rfl dX5_crossersOf_31 ?_
            refine lv_iload_n S.1 S.2.1 dX5_crossersOf_34 rfl (lv_at hl 3 rfl) ?_
            refine z_iald (k := 17) (i := j) (n := 30) S hK hR hF hj rfl dX5_crossersOf_35 (fun hF => ?_)
            refine lv_ishl S.1 S.2.1 dX5_crossersOf_36 ?_
            refine lv_ior S.1 S.2.1 dX5_crossersOf_37 ?_
            refine z_nm hF (fun v22 hF => ?_)
            refine lv_istore_n (lv' := [(2, .int v22), (0, .ref (g.1 15 j)), (1, .int a1), (3, .int a3)]) S.1 S.2.1 dX5_crossersOf_38 rfl hl (by decide) rfl (fun ls hl => ?_)
            obtain ⟨v23, ev23, hF⟩ := zL_out hF
            refine lv_iinc (v := v23) (lv' := [(3, .int v23), (2, .int v22), (0, .ref (g.1 15 j)), (1, .int a1)]) S.1 S.2.1 dX5_crossersOf_39 hl (k := 3) rfl (by rw [← ev23]; rfl) (by decide) rfl (fun ls hl => ?_)
            refine lv_goto (tgt := 4) S.1 S.2.1 dX5_crossersOf_42 (by decide) ?_
            exact ih _ _ _ _ _ hR hS _ (lv_sub hl [2, 3, 1, 0] rfl) hF
  unfold fX5_crossersOf at hF
  refine lv_iconst (v := 0) S.1 S.2.1 dX5_crossersOf_0 (by decide) ?_
  refine lv_istore_n (lv' := [(2, .int 0), (0, .ref (g.1 15 j)), (1, .int v1)]) S.1 S.2.1 dX5_crossersOf_1 rfl hl (by decide) rfl (fun ls hl => ?_)
  refine lv_iconst (v := 0) S.1 S.2.1 dX5_crossersOf_2 (by decide) ?_
  refine lv_istore_n (lv' := [(3, .int 0), (2, .int 0), (0, .ref (g.1 15 j)), (1, .int v1)]) S.1 S.2.1 dX5_crossersOf_3 rfl hl (by decide) rfl (fun ls hl => ?_)
  refine L4 _ _ (fun M24 v25 v26 H locs hR hS ls hl hF => ?_) _ _ _ _ _ _ hR hS _ (lv_sub hl [2, 3, 1, 0] rfl) hF
  refine lv_iload_n S.1 S.2.1 dX5_crossersOf_45 rfl (lv_at hl 2 rfl) ?_
  exact z_iret S hr hlk hR hS hF dX5_crossersOf_46
theorem hX4_wearStrings : yX4_wearStrings.cls = RX4 ∧ yX4_wearStrings.cls ≠ "java/lang/invoke/MethodHandle" ∧ yX4_wearStrings.cls ≠ "java/lang/invoke/VarHandle" ∧ (parseMethodDescriptor yX4_wearStrings.desc).map (fun d => d.parameters.length) = some 1 := by decide +kernel
theorem oX4_wearStrings : Cond.instanceMethod yX4_wearStrings ∈ zT ∧ Cond.selects RX4 yX4_wearStrings yX4_wearStrings ∈ zT ∧ Cond.initialized RX4 ∈ zT ∧ Cond.code yX4_wearStrings cX4_wearStrings 5 none ∈ zT := ⟨wv_X4_wearStrings, we_X4_wearStrings, wi_X4, wk_X4_wearStrings⟩
set_option maxRecDepth 100000 in
set_option maxHeartbeats 4000000 in
theorem kX4_wearStrings (l : Launch) {g : zGeo} {z : Nat} (hg : zAd g z) {M M' : zM} {j1 : Nat} (hj1 : j1 < 10) {r : Unit} (hF : fX4_wearStrings M j1 = some (r, M')) : Met l yX4_wearStrings [.code yX4_wearStrings cX4_wearStrings 5 none] { frames := 3, cells := 0, slots := 0, locals := 67 } (zPc g M [.ref (g.1 20 0), .ref (g.1 1 j1)]) (zQv g z M') 0 0 (zS z) := by
  refine z_enter (cc := cX4_wearStrings) (maxL := 5) (ret := none) (by decide) rfl (Nat.le_of_ble_eq_true rfl) ?_
  intro p e s m below meth c S hr hlk hK hR hS ls hl
  have S : CallFix p m c cX4_wearStrings 5 s _ zT RX4 := S
  have hl : lv_has ls 5 [(0, .ref (g.1 20 0)), (1, .ref (g.1 1 j1))] := hl
  have L2 : ∀ (k : zM → Int32 → Option (Unit × zM)) , (∀ (M : zM) (a2 : Int32) (H : Heap) (locs : List Loc), zR g M H → va_S (zS z) s.heap H locs → ∀ ls : Array Slot, lv_has ls 5 [(0, .ref (g.1 20 0)), (1, .ref (g.1 1 j1)), (2, .int a2)] → k M a2 = some (r, M') → W p l e { frames := 3, cells := 0, slots := 0, locals := 67 } s m ([.ref (g.1 20 0), .ref (g.1 1 j1)] : List Value).toArray below meth c H locs 0 0 (MQ below (zQv g z M') ([.ref (g.1 20 0), .ref (g.1 1 j1)] : List Value).toArray s 0 0 (zS z)) (F0 m 70 ls [])) → ∀ (n : Nat) (M : zM) (a2 : Int32) (H : Heap) (locs : List Loc), zR g M H → va_S (zS z) s.heap H locs → ∀ ls : Array Slot, lv_has ls 5 [(0, .ref (g.1 20 0)), (1, .ref (g.1 1 j1)), (2, .int a2)] → fX4_wearStrings_L2 k j1 n M a2 = some (r, M') → W p l e { frames := 3, cells := 0, slots := 0, locals := 67 } s m ([.ref (g.1 20 0), .ref (g.1 1 j1)] : List Value).toArray below meth c H locs 0 0 (MQ below (zQv g z M') ([.ref (g.1 20 0), .ref (g.1 1 j1)] : List Value).toArray s 0 0 (zS z)) (F0 m 2 ls []) := by
    intro k  hk n
    induction n with
    | zero =>
      intro M a2 H locs hR hS ls hl hF
      cases hF
    | succ n ih =>
      intro M a2 H locs hR hS ls hl hF
      unfold fX4_wearStrings_L2 at hF
      refine lv_iload_n S.1 S.2.1 dX4_wearStrings_2 rfl (lv_at hl 2 rfl) ?_
      refine lv_aload_n S.1 S.2.1 dX4_wearStrings_3 rfl (lv_at hl 0 rfl) ?_
      refine z_get (k := 20) (i := 0) (f := 0) (v := .ref (g.1 15 1)) S hK hR (by decide) rfl rfl (by decide) wf_X4_12 rfl dX4_wearStrings_4 ?_
      refine z_get (k := 15) (i := 1) (f := 4) (v := .int (M 15 1 4)) S hK hR (by decide) rfl rfl (by decide) wf_X4_51 rfl dX4_wearStrings_7 ?_
      refine lv_icmp_ge (tgt := 70) S.1 S.2.1 dX4_wearStrings_10 (by decide) (fun hc => ?_) (fun hc => ?_)
      · replace hF := z_ct hF hc
        exact hk _ _ _ _ hR hS _ (lv_sub hl [0, 1, 2] rfl) hF
      · replace hF := z_cf hF hc
        refine lv_aload_n S.1 S.2.1 dX4_wearStrings_13 rfl (lv_at hl 0 rfl) ?_
        refine z_get (k := 20) (i := 0) (f := 0) (v := .ref (g.1 15 1)) S hK hR (by decide) rfl rfl (by decide) wf_X4_12 rfl dX4_wearStrings_14 ?_
        refine z_get (k := 15) (i := 1) (f := 0) (v := .ref (g.1 16 1)) S hK hR (by decide) rfl rfl (by decide) wf_X4_54 rfl dX4_wearStrings_17 ?_
        refine lv_iload_n S.1 S.2.1 dX4_wearStrings_20 rfl (lv_at hl 2 rfl) ?_
        refine z_iald (k := 16) (i := 1) (n := 30) S hK hR hF (by decide) rfl dX4_wearStrings_21 (fun hF => ?_)
        refine z_nm hF (fun v21 hF => ?_)
        refine lv_istore_n (lv' := [(3, .int v21), (0, .ref (g.1 20 0)), (1, .ref (g.1 1 j1)), (2, .int a2)]) S.1 S.2.1 dX4_wearStrings_22 rfl hl (by decide) rfl (fun ls hl => ?_)
        refine lv_aload_n S.1 S.2.1 dX4_wearStrings_23 rfl (lv_at hl 2 rfl) ?_
        refine lv_iload_n S.1 S.2.1 dX4_wearStrings_24 rfl (lv_at hl 0 rfl) ?_
        refine lv_aload_n S.1 S.2.1 dX4_wearStrings_25 rfl (lv_at hl 1 rfl) ?_
        refine z_get (k := 20) (i := 0) (f := 0) (v := .ref (g.1 15 1)) S hK hR (by decide) rfl rfl (by decide) wf_X4_12 rfl dX4_wearStrings_26 ?_
        refine z_get (k := 15) (i := 1) (f := 1) (v := .ref (g.1 17 1)) S hK hR (by decide) rfl rfl (by decide) wf_X4_58 rfl dX4_wearStrings_29 ?_
        refine lv_iload_n S.1 S.2.1 dX4_wearStrings_32 rfl (lv_at hl 3 rfl) ?_
        refine z_iald (k := 17) (i := 1) (n := 30) S hK hR hF (by decide) rfl dX4_wearStrings_33 (fun hF => ?_)
        refine lv_aload_n S.1 S.2.1 dX4_wearStrings_34 rfl (lv_at hl 1 rfl) ?_
        refine z_get (k := 20) (i := 0) (f := 0) (v := .ref (g.1 15 1)) S hK hR (by decide) rfl rfl (by decide) wf_X4_12 rfl dX4_wearStrings_35 ?_
        refine z_get (k := 15) (i := 1) (f := 3) (v := .ref (g.1 19 1)) S hK hR (by decide) rfl rfl (by decide) wf_X4_61 rfl dX4_wearStrings_38 ?_
        refine lv_iload_n S.1 S.2.1 dX4_wearStrings_41 rfl (lv_at hl 3 rfl) ?_
        refine z_zald (k := 19) (i := 1) (n := 30) S hK hR hF (by decide) rfl dX4_wearStrings_42 (fun hF => ?_)
        refine z_goi hS hF (fun _ _ ho => va_runV (C := RX2) (n := 3) (As := [.int v21, .int (M 17 1 (zN a2)), .int (M 19 1 (zN a2))]) (rest := []) S (kX2_rubbing l hg hj1 ho) (cwV 3 S.2.2.2.2 (zgV wm_X4_65 oX2_rubbing) rfl rfl rfl hX2_rubbing ⟨Nat.le_of_ble_eq_true rfl, Nat.le_of_ble_eq_true rfl⟩) ⟨zPc_blind, z_recv hK hR hj1 rfl rfl, z_pre hK hR⟩ rfl rfl hl.1 rfl (lv_room (Nat.le_of_ble_eq_true rfl)) dX4_wearStrings_43 ⟨Nat.zero_le _, Nat.zero_le _⟩) (fun r23 M22 H locs hR hS hF => ?_)
        refine lv_istore (lv' := [(4, .int r23), (3, .int v21), (0, .ref (g.1 20 0)), (1, .ref (g.1 1 j1)), (2, .int a2)]) S.1 S.2.1 dX4_wearStrings_46 hl (by decide) rfl (fun ls hl => ?_)
        refine lv_aload_n S.1 S.2.1 dX4_wearStrings_48 rfl (lv_at hl 3 rfl) ?_
        refine lv_iload_n S.1 S.2.1 dX4_wearStrings_49 rfl (lv_at hl 1 rfl) ?_
        refine lv_aload_n S.1 S.2.1 dX4_wearStrings_50 rfl (lv_at hl 2 rfl) ?_
        refine z_get (k := 20) (i := 0) (f := 0) (v := .ref (g.1 15 1)) S hK hR (by decide) rfl rfl (by decide) wf_X4_12 rfl dX4_wearStrings_51 ?_
        refine z_get (k := 15) (i := 1) (f := 2) (v := .ref (g.1 18 1)) S hK hR (by decide) rfl rfl (by decide) wf_X4_69 rfl dX4_wearStrings_54 ?_
        refine lv_iload_n S.1 S.2.1 dX4_wearStrings_57 rfl (lv_at hl 4 rfl) ?_
        refine z_iald (k := 18) (i := 1) (n := 30) S hK hR hF (by decide) rfl dX4_wearStrings_58 (fun hF => ?_)
        refine lv_iload S.1 S.2.1 dX4_wearStrings_59 (lv_at hl 0 rfl) ?_
        refine z_gov hS hF (fun _ _ ho => va_runV (C := RX2) (n := 3) (As := [.int v21, .int (M22 18 1 (zN a2)), .int r23]) (rest := []) S (kX2_wearDown l hg hj1 ho) (cwV 3 S.2.2.2.2 (zgV wm_X4_72 oX2_wearDown) rfl rfl rfl hX2_wearDown ⟨Nat.le_of_ble_eq_true rfl, Nat.le_of_ble_eq_true rfl⟩) ⟨zPc_blind, z_recv hK hR hj1 rfl rfl, z_pre hK hR⟩ rfl rfl hl.1 rfl (lv_room (Nat.le_of_ble_eq_true rfl)) dX4_wearStrings_61 ⟨Nat.zero_le _, Nat.zero_le _⟩) (fun M24 H locs hR hS hF => ?_)
        obtain ⟨v25, ev25, hF⟩ := zL_out hF
        refine lv_iinc (v := v25) (lv' := [(2, .int v25), (4, .int r23), (3, .int v21), (0, .ref (g.1 20 0)), (1, .ref (g.1 1 j1))]) S.1 S.2.1 dX4_wearStrings_64 hl (k := 4) rfl (by rw [← ev25]; rfl) (by decide) rfl (fun ls hl => ?_)
        refine lv_goto (tgt := 2) S.1 S.2.1 dX4_wearStrings_67 (by decide) ?_
        exact ih _ _ _ _ hR hS _ (lv_sub hl [3, 4, 0] rfl) hF
  unfold fX4_wearStrings at hF
  refine lv_iconst (v := 0) S.1 S.2.1 dX4_wearStrings_0 (by decide) ?_
  refine lv_istore_n (lv' := [(2, .int 0), (0, .ref (g.1 20 0)), (1, .ref (g.1 1 j1))]) S.1 S.2.1 dX4_wearStrings_1 rfl hl (by decide) rfl (fun ls hl => ?_)
  refine L2 _ (fun M26 v27 H locs hR hS ls hl hF => ?_) _ _ _ _ _ hR hS _ (lv_sub hl [1, 2, 0] rfl) hF
  exact z_vret S hr hlk hR hS hF dX4_wearStrings_70
theorem hX4_givePoints : yX4_givePoints.cls = RX4 ∧ yX4_givePoints.cls ≠ "java/lang/invoke/MethodHandle" ∧ yX4_givePoints.cls ≠ "java/lang/invoke/VarHandle" ∧ (parseMethodDescriptor yX4_givePoints.desc).map (fun d => d.parameters.length) = some 1 := by decide +kernel
theorem oX4_givePoints : Cond.instanceMethod yX4_givePoints ∈ zT ∧ Cond.selects RX4 yX4_givePoints yX4_givePoints ∈ zT ∧ Cond.initialized RX4 ∈ zT ∧ Cond.code yX4_givePoints cX4_givePoints 5 none ∈ zT := ⟨wv_X4_givePoints, we_X4_givePoints, wi_X4, wk_X4_givePoints⟩
set_option maxRecDepth 100000 in
set_option maxHeartbeats 4000000 in
theorem kX4_givePoints (l : Launch) {g : zGeo} {z : Nat} (hg : zAd g z) {M M' : zM} {j1 : Nat} (hj1 : j1 < 10) {r : Unit} (hF : fX4_givePoints M j1 = some (r, M')) : Met l yX4_givePoints [.code yX4_givePoints cX4_givePoints 5 none] { frames := 2, cells := 0, slots := 0, locals := 44 } (zPc g M [.ref (g.1 20 0), .ref (g.1 1 j1)]) (zQv g z M') 0 0 (zS z) := by
  refine z_enter (cc := cX4_givePoints) (maxL := 5) (ret := none) (by decide) rfl (Nat.le_of_ble_eq_true rfl) ?_
  intro p e s m below meth c S hr hlk hK hR hS ls hl
  have S : CallFix p m c cX4_givePoints 5 s _ zT RX4 := S
  have hl : lv_has ls 5 [(0, .ref (g.1 20 0)), (1, .ref (g.1 1 j1))] := hl
  have L2 : ∀ (k : zM → Int32 → Option (Unit × zM)) , (∀ (M : zM) (a2 : Int32) (H : Heap) (locs : List Loc), zR g M H → va_S (zS z) s.heap H locs → ∀ ls : Array Slot, lv_has ls 5 [(0, .ref (g.1 20 0)), (1, .ref (g.1 1 j1)), (2, .int a2)] → k M a2 = some (r, M') → W p l e { frames := 2, cells := 0, slots := 0, locals := 44 } s m ([.ref (g.1 20 0), .ref (g.1 1 j1)] : List Value).toArray below meth c H locs 0 0 (MQ below (zQv g z M') ([.ref (g.1 20 0), .ref (g.1 1 j1)] : List Value).toArray s 0 0 (zS z)) (F0 m 93 ls [])) → ∀ (n : Nat) (M : zM) (a2 : Int32) (H : Heap) (locs : List Loc), zR g M H → va_S (zS z) s.heap H locs → ∀ ls : Array Slot, lv_has ls 5 [(0, .ref (g.1 20 0)), (1, .ref (g.1 1 j1)), (2, .int a2)] → fX4_givePoints_L2 k j1 n M a2 = some (r, M') → W p l e { frames := 2, cells := 0, slots := 0, locals := 44 } s m ([.ref (g.1 20 0), .ref (g.1 1 j1)] : List Value).toArray below meth c H locs 0 0 (MQ below (zQv g z M') ([.ref (g.1 20 0), .ref (g.1 1 j1)] : List Value).toArray s 0 0 (zS z)) (F0 m 2 ls []) := by
    intro k  hk n
    induction n with
    | zero =>
      intro M a2 H locs hR hS ls hl hF
      cases hF
    | succ n ih =>
      intro M a2 H locs hR hS ls hl hF
      unfold fX4_givePoints_L2 at hF
      refine lv_iload_n S.1 S.2.1 dX4_givePoints_2 rfl (lv_at hl 2 rfl) ?_
      refine lv_aload_n S.1 S.2.1 dX4_givePoints_3 rfl (lv_at hl 0 rfl) ?_
      refine z_get (k := 20) (i := 0) (f := 0) (v := .ref (g.1 15 1)) S hK hR (by decide) rfl rfl (by decide) wf_X4_12 rfl dX4_givePoints_4 ?_
      refine z_get (k := 15) (i := 1) (f := 4) (v := .int (M 15 1 4)) S hK hR (by decide) rfl rfl (by decide) wf_X4_51 rfl dX4_givePoints_7 ?_
      refine lv_icmp_ge (tgt := 93) S.1 S.2.1 dX4_givePoints_10 (by decide) (fun hc => ?_) (fun hc => ?_)
      · replace hF := z_ct hF hc
        exact hk _ _ _ _ hR hS _ (lv_sub hl [0, 1, 2] rfl) hF
      · replace hF := z_cf hF hc
        refine lv_aload_n S.1 S.2.1 dX4_givePoints_13 rfl (lv_at hl 0 rfl) ?_
        refine z_get (k := 20) (i := 0) (f := 0) (v := .ref (g.1 15 1)) S hK hR (by decide) rfl rfl (by decide) wf_X4_12 rfl dX4_givePoints_14 ?_
        refine z_get (k := 15) (i := 1) (f := 0) (v := .ref (g.1 16 1)) S hK hR (by decide) rfl rfl (by decide) wf_X4_54 rfl dX4_givePoints_17 ?_
        refine lv_iload_n S.1 S.2.1 dX4_givePoints_20 rfl (lv_at hl 2 rfl) ?_
        refine z_iald (k := 16) (i := 1) (n := 30) S hK hR hF (by decide) rfl dX4_givePoints_21 (fun hF => ?_)
        refine z_nm hF (fun v21 hF => ?_)
        refine lv_istore_n (lv' := [(3, .int v21), (0, .ref (g.1 20 0)), (1, .ref (g.1 1 j1)), (2, .int a2)]) S.1 S.2.1 dX4_givePoints_22 rfl hl (by decide) rfl (fun ls hl => ?_)
        refine lv_aload_n S.1 S.2.1 dX4_givePoints_23 rfl (lv_at hl 2 rfl) ?_
        refine lv_iload_n S.1 S.2.1 dX4_givePoints_24 rfl (lv_at hl 0 rfl) ?_
        refine lv_aload_n S.1 S.2.1 dX4_givePoints_25 rfl (lv_at hl 1 rfl) ?_
        refine z_get (k := 20) (i := 0) (f := 0) (v := .ref (g.1 15 1)) S hK hR (by decide) rfl rfl (by decide) wf_X4_12 rfl dX4_givePoints_26 ?_
        refine z_get (k := 15) (i := 1) (f := 2) (v := .ref (g.1 18 1)) S hK hR (by decide) rfl rfl (by decide) wf_X4_69 rfl dX4_givePoints_29 ?_
        refine lv_iload_n S.1 S.2.1 dX4_givePoints_32 rfl (lv_at hl 3 rfl) ?_
        refine z_iald (k := 18) (i := 1) (n := 30) S hK hR hF (by decide) rfl dX4_givePoints_33 (fun hF => ?_)
        refine z_goi hS hF (fun _ _ ho => va_runV (C := RX2) (n := 2) (As := [.int v21, .int (M 18 1 (zN a2))]) (rest := []) S (kX2_isWornThrough l hg hj1 ho) (cwV 2 S.2.2.2.2 (zgV wm_X4_76 oX2_isWornThrough) rfl rfl rfl hX2_isWornThrough ⟨Nat.le_of_ble_eq_true rfl, Nat.le_of_ble_eq_true rfl⟩) ⟨zPc_blind, z_recv hK hR hj1 rfl rfl, z_pre hK hR⟩ rfl rfl hl.1 rfl (lv_room (Nat.le_of_ble_eq_true rfl)) dX4_givePoints_34 ⟨Nat.zero_le _, Nat.zero_le _⟩) (fun r23 M22 H locs hR hS hF => ?_)
        refine lv_if_eq (tgt := 87) S.1 S.2.1 dX4_givePoints_37 (by decide) (fun hc => ?_) (fun hc => ?_)
        · replace hF := z_ct hF hc
          obtain ⟨v24, ev24, hF⟩ := zL_out hF
          refine lv_iinc (v := v24) (lv' := [(2, .int v24), (3, .int v21), (0, .ref (g.1 20 0)), (1, .ref (g.1 1 j1))]) S.1 S.2.1 dX4_givePoints_87 hl (k := 3) rfl (by rw [← ev24]; rfl) (by decide) rfl (fun ls hl => ?_)
          refine lv_goto (tgt := 2) S.1 S.2.1 dX4_givePoints_90 (by decide) ?_
          exact ih _ _ _ _ hR hS _ (lv_sub hl [2, 3, 0] rfl) hF
        · replace hF := z_cf hF hc
          refine lv_aload_n S.1 S.2.1 dX4_givePoints_40 rfl (lv_at hl 1 rfl) ?_
          refine z_get (k := 20) (i := 0) (f := 0) (v := .ref (g.1 15 1)) S hK hR (by decide) rfl rfl (by decide) wf_X4_12 rfl dX4_givePoints_41 ?_
          refine z_get (k := 15) (i := 1) (f := 1) (v := .ref (g.1 17 1)) S hK hR (by decide) rfl rfl (by decide) wf_X4_58 rfl dX4_givePoints_44 ?_
          refine lv_iload_n S.1 S.2.1 dX4_givePoints_47 rfl (lv_at hl 3 rfl) ?_
          refine z_iald (k := 17) (i := 1) (n := 30) S hK hR hF (by decide) rfl dX4_givePoints_48 (fun hF => ?_)
          refine z_nm hF (fun v25 hF => ?_)
          refine lv_istore (lv' := [(4, .int v25), (3, .int v21), (0, .ref (g.1 20 0)), (1, .ref (g.1 1 j1)), (2, .int a2)]) S.1 S.2.1 dX4_givePoints_49 hl (by decide) rfl (fun ls hl => ?_)
          refine lv_aload_n S.1 S.2.1 dX4_givePoints_51 rfl (lv_at hl 3 rfl) ?_
          refine z_get (k := 1) (i := j1) (f := 11) (v := .ref (g.1 9 j1)) S hK hR hj1 rfl rfl (by decide) wf_X4_80 rfl dX4_givePoints_52 ?_
          refine lv_iload S.1 S.2.1 dX4_givePoints_55 (lv_at hl 0 rfl) ?_
          refine lv_dup2_11 S.1 S.2.1 dX4_givePoints_57 rfl rfl ?_
          refine z_iald (k := 9) (i := j1) (n := 6) S hK hR hF hj1 rfl dX4_givePoints_58 (fun hF => ?_)
          refine lv_iconst (v := 1) S.1 S.2.1 dX4_givePoints_59 (by decide) ?_
          refine lv_iadd S.1 S.2.1 dX4_givePoints_60 ?_
          refine z_iast (k := 9) (i := j1) (n := 6) S hg hK hR hS hF hj1 rfl dX4_givePoints_61 (fun H locs M26 hR hS hF => ?_)
          refine lv_aload_n S.1 S.2.1 dX4_givePoints_62 rfl (lv_at hl 2 rfl) ?_
          refine lv_dup S.1 S.2.1 dX4_givePoints_63 rfl ?_
          refine z_get (k := 20) (i := 0) (f := 2) (v := .int (M26 20 0 2)) S hK hR (by decide) rfl rfl (by decide) wf_X4_35 rfl dX4_givePoints_64 ?_
          refine lv_iconst (v := 1) S.1 S.2.1 dX4_givePoints_67 (by decide) ?_
          refine lv_iload S.1 S.2.1 dX4_givePoints_68 (lv_at hl 0 rfl) ?_
          refine lv_ishl S.1 S.2.1 dX4_givePoints_70 ?_
          refine lv_ior S.1 S.2.1 dX4_givePoints_71 ?_
          refine z_put (k := 20) (i := 0) (f := 2) (ty := .int) S hg hK hR hS hF (by decide) rfl rfl rfl (by decide) wf_X4_35 rfl (by decide +kernel) rfl rfl (Nat.le_of_ble_eq_true rfl) dX4_givePoints_72 (fun H locs M27 hR hS hF => ?_)
          refine lv_aload_n S.1 S.2.1 dX4_givePoints_75 rfl (lv_at hl 2 rfl) ?_
          refine lv_dup S.1 S.2.1 dX4_givePoints_76 rfl ?_
          refine z_get (k := 20) (i := 0) (f := 1) (v := .int (M27 20 0 1)) S hK hR (by decide) rfl rfl (by decide) wf_X4_32 rfl dX4_givePoints_77 ?_
          refine lv_iconst (v := 1) S.1 S.2.1 dX4_givePoints_80 (by decide) ?_
          refine lv_iload_n S.1 S.2.1 dX4_givePoints_81 rfl (lv_at hl 1 rfl) ?_
          refine lv_ishl S.1 S.2.1 dX4_givePoints_82 ?_
          refine lv_ior S.1 S.2.1 dX4_givePoints_83 ?_
          refine z_put (k := 20) (i := 0) (f := 1) (ty := .int) S hg hK hR hS hF (by decide) rfl rfl rfl (by decide) wf_X4_32 rfl (by decide +kernel) rfl rfl (Nat.le_of_ble_eq_true rfl) dX4_givePoints_84 (fun H locs M28 hR hS hF => ?_)
          obtain ⟨v29, ev29, hF⟩ := zL_out hF
          refine lv_iinc (v := v29) (lv' := [(2, .int v29), (4, .int v25), (3, .int v21), (0, .ref (g.1 20 0)), (1, .ref (g.1 1 j1))]) S.1 S.2.1 dX4_givePoints_87 hl (k := 4) rfl (by rw [← ev29]; rfl) (by decide) rfl (fun ls hl => ?_)
          refine lv_goto (tgt := 2) S.1 S.2.1 dX4_givePoints_90 (by decide) ?_
          exact ih _ _ _ _ hR hS _ (lv_sub hl [3, 4, 0] rfl) hF
  unfold fX4_givePoints at hF
  refine lv_iconst (v := 0) S.1 S.2.1 dX4_givePoints_0 (by decide) ?_
  refine lv_istore_n (lv' := [(2, .int 0), (0, .ref (g.1 20 0)), (1, .ref (g.1 1 j1))]) S.1 S.2.1 dX4_givePoints_1 rfl hl (by decide) rfl (fun ls hl => ?_)
  refine L2 _ (fun M30 v31 H locs hR hS ls hl hF => ?_) _ _ _ _ _ hR hS _ (lv_sub hl [1, 2, 0] rfl) hF
  exact z_vret S hr hlk hR hS hF dX4_givePoints_93
theorem hX4_cutStrings : yX4_cutStrings.cls = RX4 ∧ yX4_cutStrings.cls ≠ "java/lang/invoke/MethodHandle" ∧ yX4_cutStrings.cls ≠ "java/lang/invoke/VarHandle" ∧ (parseMethodDescriptor yX4_cutStrings.desc).map (fun d => d.parameters.length) = some 1 := by decide +kernel
theorem oX4_cutStrings : Cond.instanceMethod yX4_cutStrings ∈ zT ∧ Cond.selects RX4 yX4_cutStrings yX4_cutStrings ∈ zT ∧ Cond.initialized RX4 ∈ zT ∧ Cond.code yX4_cutStrings cX4_cutStrings 3 none ∈ zT := ⟨wv_X4_cutStrings, we_X4_cutStrings, wi_X4, wk_X4_cutStrings⟩
set_option maxRecDepth 100000 in
set_option maxHeartbeats 4000000 in
theorem kX4_cutStrings (l : Launch) {g : zGeo} {z : Nat} (hg : zAd g z) {M M' : zM} {j1 : Nat} (hj1 : j1 < 10) {r : Unit} (hF : fX4_cutStrings M j1 = some (r, M')) : Met l yX4_cutStrings [.code yX4_cutStrings cX4_cutStrings 3 none] { frames := 0, cells := 0, slots := 0, locals := 0 } (zPc g M [.ref (g.1 20 0), .ref (g.1 1 j1)]) (zQv g z M') 0 0 (zS z) := by
  refine z_enter (cc := cX4_cutStrings) (maxL := 3) (ret := none) (by decide) rfl (Nat.le_of_ble_eq_true rfl) ?_
  intro p e s m below meth c S hr hlk hK hR hS ls hl
  have S : CallFix p m c cX4_cutStrings 3 s _ zT RX4 := S
  have hl : lv_has ls 3 [(0, .ref (g.1 20 0)), (1, .ref (g.1 1 j1))] := hl
  have L2 : ∀ (k : zM → Int32 → Option (Unit × zM)) , (∀ (M : zM) (a2 : Int32) (H : Heap) (locs : List Loc), zR g M H → va_S (zS z) s.heap H locs → ∀ ls : Array Slot, lv_has ls 3 [(0, .ref (g.1 20 0)), (1, .ref (g.1 1 j1)), (2, .int a2)] → k M a2 = some (r, M') → W p l e { frames := 0, cells := 0, slots := 0, locals := 0 } s m ([.ref (g.1 20 0), .ref (g.1 1 j1)] : List Value).toArray below meth c H locs 0 0 (MQ below (zQv g z M') ([.ref (g.1 20 0), .ref (g.1 1 j1)] : List Value).toArray s 0 0 (zS z)) (F0 m 43 ls [])) → ∀ (n : Nat) (M : zM) (a2 : Int32) (H : Heap) (locs : List Loc), zR g M H → va_S (zS z) s.heap H locs → ∀ ls : Array Slot, lv_has ls 3 [(0, .ref (g.1 20 0)), (1, .ref (g.1 1 j1)), (2, .int a2)] → fX4_cutStrings_L2 k j1 n M a2 = some (r, M') → W p l e { frames := 0, cells := 0, slots := 0, locals := 0 } s m ([.ref (g.1 20 0), .ref (g.1 1 j1)] : List Value).toArray below meth c H locs 0 0 (MQ below (zQv g z M') ([.ref (g.1 20 0), .ref (g.1 1 j1)] : List Value).toArray s 0 0 (zS z)) (F0 m 2 ls []) := by
    intro k  hk n
    induction n with
    | zero =>
      intro M a2 H locs hR hS ls hl hF
      cases hF
    | succ n ih =>
      intro M a2 H locs hR hS ls hl hF
      unfold fX4_cutStrings_L2 at hF
      refine lv_iload_n S.1 S.2.1 dX4_cutStrings_2 rfl (lv_at hl 2 rfl) ?_
      refine lv_bipush (v := 6) S.1 S.2.1 dX4_cutStrings_3 (by decide) ?_
      refine lv_icmp_ge (tgt := 43) S.1 S.2.1 dX4_cutStrings_5 (by decide) (fun hc => ?_) (fun hc => ?_)
      · replace hF := z_ct hF hc
        exact hk _ _ _ _ hR hS _ (lv_sub hl [0, 1, 2] rfl) hF
      · replace hF := z_cf hF hc
        refine lv_aload_n S.1 S.2.1 dX4_cutStrings_8 rfl (lv_at hl 0 rfl) ?_
        refine z_get (k := 20) (i := 0) (f := 1) (v := .int (M 20 0 1)) S hK hR (by decide) rfl rfl (by decide) wf_X4_32 rfl dX4_cutStrings_9 ?_
        refine lv_iload_n S.1 S.2.1 dX4_cutStrings_12 rfl (lv_at hl 2 rfl) ?_
        refine lv_ishr S.1 S.2.1 dX4_cutStrings_13 ?_
        refine lv_iconst (v := 1) S.1 S.2.1 dX4_cutStrings_14 (by decide) ?_
        refine lv_iand S.1 S.2.1 dX4_cutStrings_15 ?_
        refine lv_iconst (v := 1) S.1 S.2.1 dX4_cutStrings_16 (by decide) ?_
        refine lv_icmp_ne (tgt := 37) S.1 S.2.1 dX4_cutStrings_17 (by decide) (fun hc => ?_) (fun hc => ?_)
        · replace hF := z_cf hF hc
          obtain ⟨v21, ev21, hF⟩ := zL_out hF
          refine lv_iinc (v := v21) (lv' := [(2, .int v21), (0, .ref (g.1 20 0)), (1, .ref (g.1 1 j1))]) S.1 S.2.1 dX4_cutStrings_37 hl (k := 2) rfl (by rw [← ev21]; rfl) (by decide) rfl (fun ls hl => ?_)
          refine lv_goto (tgt := 2) S.1 S.2.1 dX4_cutStrings_40 (by decide) ?_
          exact ih _ _ _ _ hR hS _ (lv_sub hl [1, 2, 0] rfl) hF
        · replace hF := z_ct hF hc
          refine lv_aload_n S.1 S.2.1 dX4_cutStrings_20 rfl (lv_at hl 1 rfl) ?_
          refine z_get (k := 1) (i := j1) (f := 12) (v := .ref (g.1 10 j1)) S hK hR hj1 rfl rfl (by decide) wf_X4_83 rfl dX4_cutStrings_21 ?_
          refine lv_iload_n S.1 S.2.1 dX4_cutStrings_24 rfl (lv_at hl 2 rfl) ?_
          refine lv_iconst (v := 1) S.1 S.2.1 dX4_cutStrings_25 (by decide) ?_
          refine z_iast (k := 10) (i := j1) (n := 6) S hg hK hR hS hF hj1 rfl dX4_cutStrings_26 (fun H locs M22 hR hS hF => ?_)
          refine lv_aload_n S.1 S.2.1 dX4_cutStrings_27 rfl (lv_at hl 1 rfl) ?_
          refine lv_dup S.1 S.2.1 dX4_cutStrings_28 rfl ?_
          refine z_get (k := 1) (i := j1) (f := 3) (v := .int (M22 1 j1 3)) S hK hR hj1 rfl rfl (by decide) wf_X4_86 rfl dX4_cutStrings_29 ?_
          refine lv_iconst (v := 1) S.1 S.2.1 dX4_cutStrings_32 (by decide) ?_
          refine lv_iadd S.1 S.2.1 dX4_cutStrings_33 ?_
          refine z_put (k := 1) (i := j1) (f := 3) (ty := .int) S hg hK hR hS hF hj1 rfl rfl rfl (by decide) wf_X4_86 rfl (by decide +kernel) rfl rfl (Nat.le_of_ble_eq_true rfl) dX4_cutStrings_34 (fun H locs M23 hR hS hF => ?_)
          obtain ⟨v24, ev24, hF⟩ := zL_out hF
          refine lv_iinc (v := v24) (lv' := [(2, .int v24), (0, .ref (g.1 20 0)), (1, .ref (g.1 1 j1))]) S.1 S.2.1 dX4_cutStrings_37 hl (k := 2) rfl (by rw [← ev24]; rfl) (by decide) rfl (fun ls hl => ?_)
          refine lv_goto (tgt := 2) S.1 S.2.1 dX4_cutStrings_40 (by decide) ?_
          exact ih _ _ _ _ hR hS _ (lv_sub hl [1, 2, 0] rfl) hF
  unfold fX4_cutStrings at hF
  refine lv_iconst (v := 0) S.1 S.2.1 dX4_cutStrings_0 (by decide) ?_
  refine lv_istore_n (lv' := [(2, .int 0), (0, .ref (g.1 20 0)), (1, .ref (g.1 1 j1))]) S.1 S.2.1 dX4_cutStrings_1 rfl hl (by decide) rfl (fun ls hl => ?_)
  refine L2 _ (fun M25 v26 H locs hR hS ls hl hF => ?_) _ _ _ _ _ hR hS _ (lv_sub hl [1, 2, 0] rfl) hF
  exact z_vret S hr hlk hR hS hF dX4_cutStrings_43
theorem hX4_happenIn : yX4_happenIn.cls = RX4 ∧ yX4_happenIn.cls ≠ "java/lang/invoke/MethodHandle" ∧ yX4_happenIn.cls ≠ "java/lang/invoke/VarHandle" ∧ (parseMethodDescriptor yX4_happenIn.desc).map (fun d => d.parameters.length) = some 1 := by decide +kernel
theorem oX4_happenIn : Cond.instanceMethod yX4_happenIn ∈ zT ∧ Cond.selects RX4 yX4_happenIn yX4_happenIn ∈ zT ∧ Cond.initialized RX4 ∈ zT ∧ Cond.code yX4_happenIn cX4_happenIn 3 none ∈ zT := ⟨wv_X4_happenIn, we_X4_happenIn, wi_X4, wk_X4_happenIn⟩
set_option maxRecDepth 100000 in
set_option maxHeartbeats 4000000 in
theorem kX4_happenIn (l : Launch) {g : zGeo} {z : Nat} (hg : zAd g z) {M M' : zM} {j1 : Nat} (hj1 : j1 < 10) {r : Unit} (hF : fX4_happenIn M j1 = some (r, M')) : Met l yX4_happenIn [.code yX4_happenIn cX4_happenIn 3 none] { frames := 4, cells := 0, slots := 0, locals := 91 } (zPc g M [.ref (g.1 20 0), .ref (g.1 1 j1)]) (zQv g z M') 0 0 (zS z) := by
  refine z_enter (cc := cX4_happenIn) (maxL := 3) (ret := none) (by decide) rfl (Nat.le_of_ble_eq_true rfl) ?_
  intro p e s m below meth c S hr hlk hK hR hS ls hl
  have S : CallFix p m c cX4_happenIn 3 s _ zT RX4 := S
  have hl : lv_has ls 3 [(0, .ref (g.1 20 0)), (1, .ref (g.1 1 j1))] := hl
  have L2 : ∀ (k : zM → Int32 → Option (Unit × zM)) , (∀ (M : zM) (a2 : Int32) (H : Heap) (locs : List Loc), zR g M H → va_S (zS z) s.heap H locs → ∀ ls : Array Slot, lv_has ls 3 [(0, .ref (g.1 20 0)), (1, .ref (g.1 1 j1)), (2, .int a2)] → k M a2 = some (r, M') → W p l e { frames := 4, cells := 0, slots := 0, locals := 91 } s m ([.ref (g.1 20 0), .ref (g.1 1 j1)] : List Value).toArray below meth c H locs 0 0 (MQ below (zQv g z M') ([.ref (g.1 20 0), .ref (g.1 1 j1)] : List Value).toArray s 0 0 (zS z)) (F0 m 27 ls [])) → ∀ (n : Nat) (M : zM) (a2 : Int32) (H : Heap) (locs : List Loc), zR g M H → va_S (zS z) s.heap H locs → ∀ ls : Array Slot, lv_has ls 3 [(0, .ref (g.1 20 0)), (1, .ref (g.1 1 j1)), (2, .int a2)] → fX4_happenIn_L2 k j1 n M a2 = some (r, M') → W p l e { frames := 4, cells := 0, slots := 0, locals := 91 } s m ([.ref (g.1 20 0), .ref (g.1 1 j1)] : List Value).toArray below meth c H locs 0 0 (MQ below (zQv g z M') ([.ref (g.1 20 0), .ref (g.1 1 j1)] : List Value).toArray s 0 0 (zS z)) (F0 m 2 ls []) := by
    intro k  hk n
    induction n with
    | zero =>
      intro M a2 H locs hR hS ls hl hF
      cases hF
    | succ n ih =>
      intro M a2 H locs hR hS ls hl hF
      unfold fX4_happenIn_L2 at hF
      refine lv_iload_n S.1 S.2.1 dX4_happenIn_2 rfl (lv_at hl 2 rfl) ?_
      refine lv_bipush (v := 6) S.1 S.2.1 dX4_happenIn_3 (by decide) ?_
      refine lv_icmp_ge (tgt := 27) S.1 S.2.1 dX4_happenIn_5 (by decide) (fun hc => ?_) (fun hc => ?_)
      · replace hF := z_ct hF hc
        exact hk _ _ _ _ hR hS _ (lv_sub hl [0, 1, 2] rfl) hF
      · replace hF := z_cf hF hc
        refine lv_aload_n S.1 S.2.1 dX4_happenIn_8 rfl (lv_at hl 1 rfl) ?_
        refine lv_iload_n S.1 S.2.1 dX4_happenIn_9 rfl (lv_at hl 2 rfl) ?_
        refine z_goi hS hF (fun _ _ ho => va_runV (C := RX2) (n := 1) (As := [.int a2]) (rest := []) S (kX2_isFlying l hg hj1 ho) (cwV 1 S.2.2.2.2 (zgV wm_X4_18 oX2_isFlying) rfl rfl rfl hX2_isFlying ⟨Nat.le_of_ble_eq_true rfl, Nat.le_of_ble_eq_true rfl⟩) ⟨zPc_blind, z_recv hK hR hj1 rfl rfl, z_pre hK hR⟩ rfl rfl hl.1 rfl (lv_room (Nat.le_of_ble_eq_true rfl)) dX4_happenIn_10 ⟨Nat.zero_le _, Nat.zero_le _⟩) (fun r22 M21 H locs hR hS hF => ?_)
        refine lv_if_eq (tgt := 21) S.1 S.2.1 dX4_happenIn_13 (by decide) (fun hc => ?_) (fun hc => ?_)
        · replace hF := z_ct hF hc
          obtain ⟨v23, ev23, hF⟩ := zL_out hF
          refine lv_iinc (v := v23) (lv' := [(2, .int v23), (0, .ref (g.1 20 0)), (1, .ref (g.1 1 j1))]) S.1 S.2.1 dX4_happenIn_21 hl (k := 2) rfl (by rw [← ev23]; rfl) (by decide) rfl (fun ls hl => ?_)
          refine lv_goto (tgt := 2) S.1 S.2.1 dX4_happenIn_24 (by decide) ?_
          exact ih _ _ _ _ hR hS _ (lv_sub hl [1, 2, 0] rfl) hF
        · replace hF := z_cf hF hc
          refine lv_aload_n S.1 S.2.1 dX4_happenIn_16 rfl (lv_at hl 1 rfl) ?_
          refine lv_iload_n S.1 S.2.1 dX4_happenIn_17 rfl (lv_at hl 2 rfl) ?_
          refine z_gov hS hF (fun _ _ ho => va_runV (C := RX2) (n := 1) (As := [.int a2]) (rest := []) S (kX2_move l hg hj1 ho) (cwV 1 S.2.2.2.2 (zgV wm_X4_24 oX2_move) rfl rfl rfl hX2_move ⟨Nat.le_of_ble_eq_true rfl, Nat.le_of_ble_eq_true rfl⟩) ⟨zPc_blind, z_recv hK hR hj1 rfl rfl, z_pre hK hR⟩ rfl rfl hl.1 rfl (lv_room (Nat.le_of_ble_eq_true rfl)) dX4_happenIn_18 ⟨Nat.zero_le _, Nat.zero_le _⟩) (fun M24 H locs hR hS hF => ?_)
          obtain ⟨v25, ev25, hF⟩ := zL_out hF
          refine lv_iinc (v := v25) (lv' := [(2, .int v25), (0, .ref (g.1 20 0)), (1, .ref (g.1 1 j1))]) S.1 S.2.1 dX4_happenIn_21 hl (k := 2) rfl (by rw [← ev25]; rfl) (by decide) rfl (fun ls hl => ?_)
          refine lv_goto (tgt := 2) S.1 S.2.1 dX4_happenIn_24 (by decide) ?_
          exact ih _ _ _ _ hR hS _ (lv_sub hl [1, 2, 0] rfl) hF
  unfold fX4_happenIn at hF
  refine lv_iconst (v := 0) S.1 S.2.1 dX4_happenIn_0 (by decide) ?_
  refine lv_istore_n (lv' := [(2, .int 0), (0, .ref (g.1 20 0)), (1, .ref (g.1 1 j1))]) S.1 S.2.1 dX4_happenIn_1 rfl hl (by decide) rfl (fun ls hl => ?_)
  refine L2 _ (fun M26 v27 H locs hR hS ls hl hF => ?_) _ _ _ _ _ hR hS _ (lv_sub hl [1, 2, 0] rfl) hF
  refine lv_aload_n S.1 S.2.1 dX4_happenIn_27 rfl (lv_at hl 1 rfl) ?_
  refine lv_dup S.1 S.2.1 dX4_happenIn_28 rfl ?_
  refine z_get (k := 1) (i := j1) (f := 1) (v := .int (M26 1 j1 1)) S hK hR hj1 rfl rfl (by decide) wf_X4_28 rfl dX4_happenIn_29 ?_
  refine lv_iconst (v := 1) S.1 S.2.1 dX4_happenIn_32 (by decide) ?_
  refine lv_iadd S.1 S.2.1 dX4_happenIn_33 ?_
  refine z_put (k := 1) (i := j1) (f := 1) (ty := .int) S hg hK hR hS hF hj1 rfl rfl rfl (by decide) wf_X4_28 rfl (by decide +kernel) rfl rfl (Nat.le_of_ble_eq_true rfl) dX4_happenIn_34 (fun H locs M28 hR hS hF => ?_)
  refine lv_aload_n S.1 S.2.1 dX4_happenIn_37 rfl (lv_at hl 0 rfl) ?_
  refine lv_iconst (v := 0) S.1 S.2.1 dX4_happenIn_38 (by decide) ?_
  refine z_put (k := 20) (i := 0) (f := 1) (ty := .int) S hg hK hR hS hF (by decide) rfl rfl rfl (by decide) wf_X4_32 rfl (by decide +kernel) rfl rfl (Nat.le_of_ble_eq_true rfl) dX4_happenIn_39 (fun H locs M29 hR hS hF => ?_)
  refine lv_aload_n S.1 S.2.1 dX4_happenIn_42 rfl (lv_at hl 0 rfl) ?_
  refine lv_iconst (v := 0) S.1 S.2.1 dX4_happenIn_43 (by decide) ?_
  refine z_put (k := 20) (i := 0) (f := 2) (ty := .int) S hg hK hR hS hF (by decide) rfl rfl rfl (by decide) wf_X4_35 rfl (by decide +kernel) rfl rfl (Nat.le_of_ble_eq_true rfl) dX4_happenIn_44 (fun H locs M30 hR hS hF => ?_)
  refine lv_aload_n S.1 S.2.1 dX4_happenIn_47 rfl (lv_at hl 0 rfl) ?_
  refine z_get (k := 20) (i := 0) (f := 0) (v := .ref (g.1 15 1)) S hK hR (by decide) rfl rfl (by decide) wf_X4_12 rfl dX4_happenIn_48 ?_
  refine lv_aload_n S.1 S.2.1 dX4_happenIn_51 rfl (lv_at hl 1 rfl) ?_
  refine z_gov hS hF (fun _ _ ho => va_runV (C := RX5) (n := 1) (As := [.ref (g.1 1 j1)]) (rest := []) S (kX5_measure l hg (by decide) hj1 ho) (cwV 1 S.2.2.2.2 (zgV wm_X4_38 oX5_measure) rfl rfl rfl hX5_measure ⟨Nat.le_of_ble_eq_true rfl, Nat.le_of_ble_eq_true rfl⟩) ⟨zPc_blind, z_recv hK hR (by decide) rfl rfl, z_pre hK hR⟩ rfl rfl hl.1 rfl (lv_room (Nat.le_of_ble_eq_true rfl)) dX4_happenIn_52 ⟨Nat.zero_le _, Nat.zero_le _⟩) (fun M31 H locs hR hS hF => ?_)
  refine lv_aload_n S.1 S.2.1 dX4_happenIn_55 rfl (lv_at hl 0 rfl) ?_
  refine lv_aload_n S.1 S.2.1 dX4_happenIn_56 rfl (lv_at hl 1 rfl) ?_
  refine z_gov hS hF (fun _ _ ho => va_runV (C := RX4) (n := 1) (As := [.ref (g.1 1 j1)]) (rest := []) S (kX4_wearStrings l hg hj1 ho) (cwV 1 S.2.2.2.2 (zgV wm_X4_42 oX4_wearStrings) rfl rfl rfl hX4_wearStrings ⟨Nat.le_of_ble_eq_true rfl, Nat.le_of_ble_eq_true rfl⟩) ⟨zPc_blind, z_recv hK hR (by decide) rfl rfl, z_pre hK hR⟩ rfl rfl hl.1 rfl (lv_room (Nat.le_of_ble_eq_true rfl)) dX4_happenIn_57 ⟨Nat.zero_le _, Nat.zero_le _⟩) (fun M32 H locs hR hS hF => ?_)
  refine lv_aload_n S.1 S.2.1 dX4_happenIn_60 rfl (lv_at hl 0 rfl) ?_
  refine lv_aload_n S.1 S.2.1 dX4_happenIn_61 rfl (lv_at hl 1 rfl) ?_
  refine z_gov hS hF (fun _ _ ho => va_runV (C := RX4) (n := 1) (As := [.ref (g.1 1 j1)]) (rest := []) S (kX4_givePoints l hg hj1 ho) (cwV 1 S.2.2.2.2 (zgV wm_X4_45 oX4_givePoints) rfl rfl rfl hX4_givePoints ⟨Nat.le_of_ble_eq_true rfl, Nat.le_of_ble_eq_true rfl⟩) ⟨zPc_blind, z_recv hK hR (by decide) rfl rfl, z_pre hK hR⟩ rfl rfl hl.1 rfl (lv_room (Nat.le_of_ble_eq_true rfl)) dX4_happenIn_62 ⟨Nat.zero_le _, Nat.zero_le _⟩) (fun M33 H locs hR hS hF => ?_)
  refine lv_aload_n S.1 S.2.1 dX4_happenIn_65 rfl (lv_at hl 0 rfl) ?_
  refine z_get (k := 20) (i := 0) (f := 1) (v := .int (M33 20 0 1)) S hK hR (by decide) rfl rfl (by decide) wf_X4_32 rfl dX4_happenIn_66 ?_
  refine lv_if_eq (tgt := 77) S.1 S.2.1 dX4_happenIn_69 (by decide) (fun hc => ?_) (fun hc => ?_)
  · replace hF := z_ct hF hc
    exact z_vret S hr hlk hR hS hF dX4_happenIn_77
  · replace hF := z_cf hF hc
    refine lv_aload_n S.1 S.2.1 dX4_happenIn_72 rfl (lv_at hl 0 rfl) ?_
    refine lv_aload_n S.1 S.2.1 dX4_happenIn_73 rfl (lv_at hl 1 rfl) ?_
    refine z_gov hS hF (fun _ _ ho => va_runV (C := RX4) (n := 1) (As := [.ref (g.1 1 j1)]) (rest := []) S (kX4_cutStrings l hg hj1 ho) (cwV 1 S.2.2.2.2 (zgV wm_X4_48 oX4_cutStrings) rfl rfl rfl hX4_cutStrings ⟨Nat.le_of_ble_eq_true rfl, Nat.le_of_ble_eq_true rfl⟩) ⟨zPc_blind, z_recv hK hR (by decide) rfl rfl, z_pre hK hR⟩ rfl rfl hl.1 rfl (lv_room (Nat.le_of_ble_eq_true rfl)) dX4_happenIn_74 ⟨Nat.zero_le _, Nat.zero_le _⟩) (fun M34 H locs hR hS hF => ?_)
    exact z_vret S hr hlk hR hS hF dX4_happenIn_77
theorem hX0_stateAt : yX0_stateAt.cls = RX0 ∧ yX0_stateAt.cls ≠ "java/lang/invoke/MethodHandle" ∧ yX0_stateAt.cls ≠ "java/lang/invoke/VarHandle" ∧ (parseMethodDescriptor yX0_stateAt.desc).map (fun d => d.parameters.length) = some 1 := by decide +kernel
theorem oX0_stateAt : Cond.instanceMethod yX0_stateAt ∈ zT ∧ Cond.selects RX0 yX0_stateAt yX0_stateAt ∈ zT ∧ Cond.initialized RX0 ∈ zT ∧ Cond.code yX0_stateAt cX0_stateAt 2 (some (.object "KiteStrings$Sky")) ∈ zT := ⟨wv_X0_stateAt, we_X0_stateAt, wi_X0, wk_X0_stateAt⟩
set_option maxRecDepth 100000 in
set_option maxHeartbeats 4000000 in
theorem kX0_stateAt (l : Launch) {g : zGeo} {z : Nat} (hg : zAd g z) {M M' : zM} {v1 : Int32} {r : Nat} (hF : fX0_stateAt M v1 = some (r, M')) : Met l yX0_stateAt [.code yX0_stateAt cX0_stateAt 2 (some (.object "KiteStrings$Sky"))] { frames := 0, cells := 0, slots := 0, locals := 0 } (zPc g M [.ref (g.1 21 0), .int v1]) (zQr g z 1 r M') 0 0 (zS z) := by
  refine z_enter (cc := cX0_stateAt) (maxL := 2) (ret := (some (.object "KiteStrings$Sky"))) (by decide) rfl (Nat.le_of_ble_eq_true rfl) ?_
  intro p e s m below meth c S hr hlk hK hR hS ls hl
  have S : CallFix p m c cX0_stateAt 2 s _ zT RX0 := S
  have hl : lv_has ls 2 [(0, .ref (g.1 21 0)), (1, .int v1)] := hl
  unfold fX0_stateAt at hF
  refine lv_iload_n S.1 S.2.1 dX0_stateAt_0 rfl (lv_at hl 1 rfl) ?_
  refine lv_if_lt (tgt := 22) S.1 S.2.1 dX0_stateAt_1 (by decide) (fun hc => ?_) (fun hc => ?_)
  · replace hF := z_ct hF hc
    refine lv_null S.1 S.2.1 dX0_stateAt_22 ?_
    cases hF
  · replace hF := z_cf hF hc
    refine lv_iload_n S.1 S.2.1 dX0_stateAt_4 rfl (lv_at hl 1 rfl) ?_
    refine lv_aload_n S.1 S.2.1 dX0_stateAt_5 rfl (lv_at hl 0 rfl) ?_
    refine z_get (k := 21) (i := 0) (f := 0) (v := .ref (g.1 22 0)) S hK hR (by decide) rfl rfl (by decide) wf_X0_11 rfl dX0_stateAt_6 ?_
    refine z_alenq S hK hR dX0_stateAt_9 ?_
    refine lv_icmp_ge (tgt := 22) S.1 S.2.1 dX0_stateAt_10 (by decide) (fun hc => ?_) (fun hc => ?_)
    · replace hF := z_ct hF hc
      refine lv_null S.1 S.2.1 dX0_stateAt_22 ?_
      cases hF
    · replace hF := z_cf hF hc
      refine lv_aload_n S.1 S.2.1 dX0_stateAt_13 rfl (lv_at hl 0 rfl) ?_
      refine z_get (k := 21) (i := 0) (f := 0) (v := .ref (g.1 22 0)) S hK hR (by decide) rfl rfl (by decide) wf_X0_11 rfl dX0_stateAt_14 ?_
      refine lv_iload_n S.1 S.2.1 dX0_stateAt_17 rfl (lv_at hl 1 rfl) ?_
      refine z_aald S hK hR hF dX0_stateAt_18 (fun hb21 hF => ?_)
      refine lv_goto (tgt := 23) S.1 S.2.1 dX0_stateAt_19 (by decide) ?_
      exact z_aret (k := 1) S hr hlk hR hS hF hb21 dX0_stateAt_23
theorem hX0_record : yX0_record.cls = RX0 ∧ yX0_record.cls ≠ "java/lang/invoke/MethodHandle" ∧ yX0_record.cls ≠ "java/lang/invoke/VarHandle" ∧ (parseMethodDescriptor yX0_record.desc).map (fun d => d.parameters.length) = some 1 := by decide +kernel
theorem oX0_record : Cond.instanceMethod yX0_record ∈ zT ∧ Cond.selects RX0 yX0_record yX0_record ∈ zT ∧ Cond.initialized RX0 ∈ zT ∧ Cond.code yX0_record cX0_record 3 none ∈ zT := ⟨wv_X0_record, we_X0_record, wi_X0, wk_X0_record⟩
set_option maxRecDepth 100000 in
set_option maxHeartbeats 4000000 in
theorem kX0_record (l : Launch) {g : zGeo} {z : Nat} (hg : zAd g z) {M M' : zM} {j1 : Nat} (hj1 : j1 < 10) {r : Unit} (hF : fX0_record M j1 = some (r, M')) : Met l yX0_record [.code yX0_record cX0_record 3 none] { frames := 4, cells := 0, slots := 0, locals := 102 } (zPc g M [.ref (g.1 21 0), .ref (g.1 1 j1)]) (zQv g z M') 0 0 (zS z) := by
  refine z_enter (cc := cX0_record) (maxL := 3) (ret := none) (by decide) rfl (Nat.le_of_ble_eq_true rfl) ?_
  intro p e s m below meth c S hr hlk hK hR hS ls hl
  have S : CallFix p m c cX0_record 3 s _ zT RX0 := S
  have hl : lv_has ls 3 [(0, .ref (g.1 21 0)), (1, .ref (g.1 1 j1))] := hl
  unfold fX0_record at hF
  refine lv_aload_n S.1 S.2.1 dX0_record_0 rfl (lv_at hl 0 rfl) ?_
  refine lv_aload_n S.1 S.2.1 dX0_record_1 rfl (lv_at hl 0 rfl) ?_
  refine z_get (k := 21) (i := 0) (f := 1) (v := .int (M 21 0 1)) S hK hR (by decide) rfl rfl (by decide) wf_X0_18 rfl dX0_record_2 ?_
  refine z_gor (k := 1) hS hF (fun _ _ ho => va_runV (C := RX0) (n := 1) (As := [.int (M 21 0 1)]) (rest := []) S (kX0_stateAt l hg ho) (cwV 1 S.2.2.2.2 (zgV wm_X0_22 oX0_stateAt) rfl rfl rfl hX0_stateAt ⟨Nat.le_of_ble_eq_true rfl, Nat.le_of_ble_eq_true rfl⟩) ⟨zPc_blind, z_recv hK hR (by decide) rfl rfl, z_pre hK hR⟩ rfl rfl hl.1 rfl (lv_room (Nat.le_of_ble_eq_true rfl)) dX0_record_5 ⟨Nat.zero_le _, Nat.zero_le _⟩) (fun q22 M21 H locs hb23 hR hS hF => ?_)
  refine lv_astore_n (lv' := [(2, .ref (g.1 1 q22)), (0, .ref (g.1 21 0)), (1, .ref (g.1 1 j1))]) S.1 S.2.1 dX0_record_8 rfl hl (by decide) rfl (fun ls hl => ?_)
  refine lv_aload_n S.1 S.2.1 dX0_record_9 rfl (lv_at hl 0 rfl) ?_
  refine lv_ifnonnull (tgt := 14) S.1 S.2.1 dX0_record_10 (by decide) ?_
  refine lv_aload_n S.1 S.2.1 dX0_record_14 rfl (lv_at hl 0 rfl) ?_
  refine lv_aload_n S.1 S.2.1 dX0_record_15 rfl (lv_at hl 2 rfl) ?_
  refine z_gov hS hF (fun _ _ ho => va_runV (C := RX2) (n := 1) (As := [.ref (g.1 1 j1)]) (rest := []) S (kX2_copyFrom l hg hb23 hj1 ho) (cwV 1 S.2.2.2.2 (zgV wm_X0_26 oX2_copyFrom) rfl rfl rfl hX2_copyFrom ⟨Nat.le_of_ble_eq_true rfl, Nat.le_of_ble_eq_true rfl⟩) ⟨zPc_blind, z_recv hK hR hb23 rfl rfl, z_pre hK hR⟩ rfl rfl hl.1 rfl (lv_room (Nat.le_of_ble_eq_true rfl)) dX0_record_16 ⟨Nat.zero_le _, Nat.zero_le _⟩) (fun M24 H locs hR hS hF => ?_)
  refine lv_aload_n S.1 S.2.1 dX0_record_19 rfl (lv_at hl 1 rfl) ?_
  refine lv_aload_n S.1 S.2.1 dX0_record_20 rfl (lv_at hl 1 rfl) ?_
  refine z_get (k := 21) (i := 0) (f := 1) (v := .int (M24 21 0 1)) S hK hR (by decide) rfl rfl (by decide) wf_X0_18 rfl dX0_record_21 ?_
  refine lv_iconst (v := 1) S.1 S.2.1 dX0_record_24 (by decide) ?_
  refine lv_iadd S.1 S.2.1 dX0_record_25 ?_
  refine lv_bipush (v := 6) S.1 S.2.1 dX0_record_26 (by decide) ?_
  refine lv_icmp_ge (tgt := 40) S.1 S.2.1 dX0_record_28 (by decide) (fun hc => ?_) (fun hc => ?_)
  · replace hF := z_ct hF hc
    refine lv_iconst (v := 0) S.1 S.2.1 dX0_record_40 (by decide) ?_
    refine z_put (k := 21) (i := 0) (f := 1) (ty := .int) S hg hK hR hS hF (by decide) rfl rfl rfl (by decide) wf_X0_18 rfl (by decide +kernel) rfl rfl (Nat.le_of_ble_eq_true rfl) dX0_record_41 (fun H locs M25 hR hS hF => ?_)
    refine lv_aload_n S.1 S.2.1 dX0_record_44 rfl (lv_at hl 1 rfl) ?_
    refine lv_aload_n S.1 S.2.1 dX0_record_45 rfl (lv_at hl 1 rfl) ?_
    refine z_get (k := 21) (i := 0) (f := 2) (v := .int (M25 21 0 2)) S hK hR (by decide) rfl rfl (by decide) wf_X0_30 rfl dX0_record_46 ?_
    refine lv_iconst (v := 1) S.1 S.2.1 dX0_record_49 (by decide) ?_
    refine lv_iadd S.1 S.2.1 dX0_record_50 ?_
    refine lv_bipush (v := 6) S.1 S.2.1 dX0_record_51 (by decide) ?_
    refine z_mmin S hl (S.2.2.2.2 _ wm_X0_33) (S.2.2.2.2 _ ws_JM_min) (S.2.2.2.2 _ wi_JM) (S.2.2.2.2 _ wk_min) (Nat.le_of_ble_eq_true rfl) (Nat.le_of_ble_eq_true rfl) (Nat.zero_le _) (Nat.zero_le _) dX0_record_53 ?_
    refine z_put (k := 21) (i := 0) (f := 2) (ty := .int) S hg hK hR hS hF (by decide) rfl rfl rfl (by decide) wf_X0_30 rfl (by decide +kernel) rfl rfl (Nat.le_of_ble_eq_true rfl) dX0_record_56 (fun H locs M26 hR hS hF => ?_)
    exact z_vret S hr hlk hR hS hF dX0_record_59
  · replace hF := z_cf hF hc
    refine lv_aload_n S.1 S.2.1 dX0_record_31 rfl (lv_at hl 1 rfl) ?_
    refine z_get (k := 21) (i := 0) (f := 1) (v := .int (M24 21 0 1)) S hK hR (by decide) rfl rfl (by decide) wf_X0_18 rfl dX0_record_32 ?_
    refine lv_iconst (v := 1) S.1 S.2.1 dX0_record_35 (by decide) ?_
    refine lv_iadd S.1 S.2.1 dX0_record_36 ?_
    refine lv_goto (tgt := 41) S.1 S.2.1 dX0_record_37 (by decide) ?_
    refine z_put (k := 21) (i := 0) (f := 1) (ty := .int) S hg hK hR hS hF (by decide) rfl rfl rfl (by decide) wf_X0_18 rfl (by decide +kernel) rfl rfl (Nat.le_of_ble_eq_true rfl) dX0_record_41 (fun H locs M27 hR hS hF => ?_)
    refine lv_aload_n S.1 S.2.1 dX0_record_44 rfl (lv_at hl 1 rfl) ?_
    refine lv_aload_n S.1 S.2.1 dX0_record_45 rfl (lv_at hl 1 rfl) ?_
    refine z_get (k := 21) (i := 0) (f := 2) (v := .int (M27 21 0 2)) S hK hR (by decide) rfl rfl (by decide) wf_X0_30 rfl dX0_record_46 ?_
    refine lv_iconst (v := 1) S.1 S.2.1 dX0_record_49 (by decide) ?_
    refine lv_iadd S.1 S.2.1 dX0_record_50 ?_
    refine lv_bipush (v := 6) S.1 S.2.1 dX0_record_51 (by decide) ?_
    refine z_mmin S hl (S.2.2.2.2 _ wm_X0_33) (S.2.2.2.2 _ ws_JM_min) (S.2.2.2.2 _ wi_JM) (S.2.2.2.2 _ wk_min) (Nat.le_of_ble_eq_true rfl) (Nat.le_of_ble_eq_true rfl) (Nat.zero_le _) (Nat.zero_le _) dX0_record_53 ?_
    refine z_put (k := 21) (i := 0) (f := 2) (ty := .int) S hg hK hR hS hF (by decide) rfl rfl rfl (by decide) wf_X0_30 rfl (by decide +kernel) rfl rfl (Nat.le_of_ble_eq_true rfl) dX0_record_56 (fun H locs M28 hR hS hF => ?_)
    exact z_vret S hr hlk hR hS hF dX0_record_59
theorem hX0_takeBack : yX0_takeBack.cls = RX0 ∧ yX0_takeBack.cls ≠ "java/lang/invoke/MethodHandle" ∧ yX0_takeBack.cls ≠ "java/lang/invoke/VarHandle" ∧ (parseMethodDescriptor yX0_takeBack.desc).map (fun d => d.parameters.length) = some 1 := by decide +kernel
theorem oX0_takeBack : Cond.instanceMethod yX0_takeBack ∈ zT ∧ Cond.selects RX0 yX0_takeBack yX0_takeBack ∈ zT ∧ Cond.initialized RX0 ∈ zT ∧ Cond.code yX0_takeBack cX0_takeBack 4 none ∈ zT := ⟨wv_X0_takeBack, we_X0_takeBack, wi_X0, wk_X0_takeBack⟩
set_option maxRecDepth 100000 in
set_option maxHeartbeats 4000000 in
theorem kX0_takeBack (l : Launch) {g : zGeo} {z : Nat} (hg : zAd g z) {M M' : zM} {j1 : Nat} (hj1 : j1 < 10) {r : Unit} (hF : fX0_takeBack M j1 = some (r, M')) : Met l yX0_takeBack [.code yX0_takeBack cX0_takeBack 4 none] { frames := 4, cells := 0, slots := 0, locals := 102 } (zPc g M [.ref (g.1 21 0), .ref (g.1 1 j1)]) (zQv g z M') 0 0 (zS z) := by
  refine z_enter (cc := cX0_takeBack) (maxL := 4) (ret := none) (by decide) rfl (Nat.le_of_ble_eq_true rfl) ?_
  intro p e s m below meth c S hr hlk hK hR hS ls hl
  have S : CallFix p m c cX0_takeBack 4 s _ zT RX0 := S
  have hl : lv_has ls 4 [(0, .ref (g.1 21 0)), (1, .ref (g.1 1 j1))] := hl
  unfold fX0_takeBack at hF
  refine lv_aload_n S.1 S.2.1 dX0_takeBack_0 rfl (lv_at hl 0 rfl) ?_
  refine z_get (k := 21) (i := 0) (f := 1) (v := .int (M 21 0 1)) S hK hR (by decide) rfl rfl (by decide) wf_X0_18 rfl dX0_takeBack_1 ?_
  refine lv_if_le (tgt := 16) S.1 S.2.1 dX0_takeBack_4 (by decide) (fun hc => ?_) (fun hc => ?_)
  · replace hF := z_ct hF hc
    refine lv_iconst (v := 5) S.1 S.2.1 dX0_takeBack_16 (by decide) ?_
    refine lv_istore_n (lv' := [(2, .int 5), (0, .ref (g.1 21 0)), (1, .ref (g.1 1 j1))]) S.1 S.2.1 dX0_takeBack_17 rfl hl (by decide) rfl (fun ls hl => ?_)
    refine lv_aload_n S.1 S.2.1 dX0_takeBack_18 rfl (lv_at hl 1 rfl) ?_
    refine lv_iload_n S.1 S.2.1 dX0_takeBack_19 rfl (lv_at hl 0 rfl) ?_
    refine z_gor (k := 1) hS hF (fun _ _ ho => va_runV (C := RX0) (n := 1) (As := [.int 5]) (rest := []) S (kX0_stateAt l hg ho) (cwV 1 S.2.2.2.2 (zgV wm_X0_22 oX0_stateAt) rfl rfl rfl hX0_stateAt ⟨Nat.le_of_ble_eq_true rfl, Nat.le_of_ble_eq_true rfl⟩) ⟨zPc_blind, z_recv hK hR (by decide) rfl rfl, z_pre hK hR⟩ rfl rfl hl.1 rfl (lv_room (Nat.le_of_ble_eq_true rfl)) dX0_takeBack_20 ⟨Nat.zero_le _, Nat.zero_le _⟩) (fun q22 M21 H locs hb23 hR hS hF => ?_)
    refine lv_astore_n (lv' := [(3, .ref (g.1 1 q22)), (2, .int 5), (0, .ref (g.1 21 0)), (1, .ref (g.1 1 j1))]) S.1 S.2.1 dX0_takeBack_23 rfl hl (by decide) rfl (fun ls hl => ?_)
    refine lv_aload_n S.1 S.2.1 dX0_takeBack_24 rfl (lv_at hl 0 rfl) ?_
    refine lv_ifnull S.1 S.2.1 dX0_takeBack_25 ?_
    refine lv_aload_n S.1 S.2.1 dX0_takeBack_28 rfl (lv_at hl 2 rfl) ?_
    refine z_get (k := 21) (i := 0) (f := 2) (v := .int (M21 21 0 2)) S hK hR (by decide) rfl rfl (by decide) wf_X0_30 rfl dX0_takeBack_29 ?_
    refine lv_if_ne (tgt := 36) S.1 S.2.1 dX0_takeBack_32 (by decide) (fun hc => ?_) (fun hc => ?_)
    · replace hF := z_cf hF hc
      refine lv_aload_n S.1 S.2.1 dX0_takeBack_36 rfl (lv_at hl 3 rfl) ?_
      refine lv_aload_n S.1 S.2.1 dX0_takeBack_37 rfl (lv_at hl 0 rfl) ?_
      refine z_gov hS hF (fun _ _ ho => va_runV (C := RX2) (n := 1) (As := [.ref (g.1 1 q22)]) (rest := []) S (kX2_copyFrom l hg hj1 hb23 ho) (cwV 1 S.2.2.2.2 (zgV wm_X0_26 oX2_copyFrom) rfl rfl rfl hX2_copyFrom ⟨Nat.le_of_ble_eq_true rfl, Nat.le_of_ble_eq_true rfl⟩) ⟨zPc_blind, z_recv hK hR hj1 rfl rfl, z_pre hK hR⟩ rfl rfl hl.1 rfl (lv_room (Nat.le_of_ble_eq_true rfl)) dX0_takeBack_38 ⟨Nat.zero_le _, Nat.zero_le _⟩) (fun M24 H locs hR hS hF => ?_)
      refine lv_aload_n S.1 S.2.1 dX0_takeBack_41 rfl (lv_at hl 2 rfl) ?_
      refine lv_iload_n S.1 S.2.1 dX0_takeBack_42 rfl (lv_at hl 1 rfl) ?_
      refine z_put (k := 21) (i := 0) (f := 1) (ty := .int) S hg hK hR hS hF (by decide) rfl rfl rfl (by decide) wf_X0_18 rfl (by decide +kernel) rfl rfl (Nat.le_of_ble_eq_true rfl) dX0_takeBack_43 (fun H locs M25 hR hS hF => ?_)
      refine lv_aload_n S.1 S.2.1 dX0_takeBack_46 rfl (lv_at hl 2 rfl) ?_
      refine lv_dup S.1 S.2.1 dX0_takeBack_47 rfl ?_
      refine z_get (k := 21) (i := 0) (f := 2) (v := .int (M25 21 0 2)) S hK hR (by decide) rfl rfl (by decide) wf_X0_30 rfl dX0_takeBack_48 ?_
      refine lv_iconst (v := 1) S.1 S.2.1 dX0_takeBack_51 (by decide) ?_
      refine lv_isub S.1 S.2.1 dX0_takeBack_52 ?_
      refine z_put (k := 21) (i := 0) (f := 2) (ty := .int) S hg hK hR hS hF (by decide) rfl rfl rfl (by decide) wf_X0_30 rfl (by decide +kernel) rfl rfl (Nat.le_of_ble_eq_true rfl) dX0_takeBack_53 (fun H locs M26 hR hS hF => ?_)
      exact z_vret S hr hlk hR hS hF dX0_takeBack_56
    · replace hF := z_ct hF hc
      exact z_vret S hr hlk hR hS hF dX0_takeBack_35
  · replace hF := z_cf hF hc
    refine lv_aload_n S.1 S.2.1 dX0_takeBack_7 rfl (lv_at hl 0 rfl) ?_
    refine z_get (k := 21) (i := 0) (f := 1) (v := .int (M 21 0 1)) S hK hR (by decide) rfl rfl (by decide) wf_X0_18 rfl dX0_takeBack_8 ?_
    refine lv_iconst (v := 1) S.1 S.2.1 dX0_takeBack_11 (by decide) ?_
    refine lv_isub S.1 S.2.1 dX0_takeBack_12 ?_
    refine lv_goto (tgt := 17) S.1 S.2.1 dX0_takeBack_13 (by decide) ?_
    refine z_nm hF (fun v27 hF => ?_)
    refine lv_istore_n (lv' := [(2, .int v27), (0, .ref (g.1 21 0)), (1, .ref (g.1 1 j1))]) S.1 S.2.1 dX0_takeBack_17 rfl hl (by decide) rfl (fun ls hl => ?_)
    refine lv_aload_n S.1 S.2.1 dX0_takeBack_18 rfl (lv_at hl 1 rfl) ?_
    refine lv_iload_n S.1 S.2.1 dX0_takeBack_19 rfl (lv_at hl 0 rfl) ?_
    refine z_gor (k := 1) hS hF (fun _ _ ho => va_runV (C := RX0) (n := 1) (As := [.int v27]) (rest := []) S (kX0_stateAt l hg ho) (cwV 1 S.2.2.2.2 (zgV wm_X0_22 oX0_stateAt) rfl rfl rfl hX0_stateAt ⟨Nat.le_of_ble_eq_true rfl, Nat.le_of_ble_eq_true rfl⟩) ⟨zPc_blind, z_recv hK hR (by decide) rfl rfl, z_pre hK hR⟩ rfl rfl hl.1 rfl (lv_room (Nat.le_of_ble_eq_true rfl)) dX0_takeBack_20 ⟨Nat.zero_le _, Nat.zero_le _⟩) (fun q29 M28 H locs hb30 hR hS hF => ?_)
    refine lv_astore_n (lv' := [(3, .ref (g.1 1 q29)), (2, .int v27), (0, .ref (g.1 21 0)), (1, .ref (g.1 1 j1))]) S.1 S.2.1 dX0_takeBack_23 rfl hl (by decide) rfl (fun ls hl => ?_)
    refine lv_aload_n S.1 S.2.1 dX0_takeBack_24 rfl (lv_at hl 0 rfl) ?_
    refine lv_ifnull S.1 S.2.1 dX0_takeBack_25 ?_
    refine lv_aload_n S.1 S.2.1 dX0_takeBack_28 rfl (lv_at hl 2 rfl) ?_
    refine z_get (k := 21) (i := 0) (f := 2) (v := .int (M28 21 0 2)) S hK hR (by decide) rfl rfl (by decide) wf_X0_30 rfl dX0_takeBack_29 ?_
    refine lv_if_ne (tgt := 36) S.1 S.2.1 dX0_takeBack_32 (by decide) (fun hc => ?_) (fun hc => ?_)
    · replace hF := z_cf hF hc
      refine lv_aload_n S.1 S.2.1 dX0_takeBack_36 rfl (lv_at hl 3 rfl) ?_
      refine lv_aload_n S.1 S.2.1 dX0_takeBack_37 rfl (lv_at hl 0 rfl) ?_
      refine z_gov hS hF (fun _ _ ho => va_runV (C := RX2) (n := 1) (As := [.ref (g.1 1 q29)]) (rest := []) S (kX2_copyFrom l hg hj1 hb30 ho) (cwV 1 S.2.2.2.2 (zgV wm_X0_26 oX2_copyFrom) rfl rfl rfl hX2_copyFrom ⟨Nat.le_of_ble_eq_true rfl, Nat.le_of_ble_eq_true rfl⟩) ⟨zPc_blind, z_recv hK hR hj1 rfl rfl, z_pre hK hR⟩ rfl rfl hl.1 rfl (lv_room (Nat.le_of_ble_eq_true rfl)) dX0_takeBack_38 ⟨Nat.zero_le _, Nat.zero_le _⟩) (fun M31 H locs hR hS hF => ?_)
      refine lv_aload_n S.1 S.2.1 dX0_takeBack_41 rfl (lv_at hl 2 rfl) ?_
      refine lv_iload_n S.1 S.2.1 dX0_takeBack_42 rfl (lv_at hl 1 rfl) ?_
      refine z_put (k := 21) (i := 0) (f := 1) (ty := .int) S hg hK hR hS hF (by decide) rfl rfl rfl (by decide) wf_X0_18 rfl (by decide +kernel) rfl rfl (Nat.le_of_ble_eq_true rfl) dX0_takeBack_43 (fun H locs M32 hR hS hF => ?_)
      refine lv_aload_n S.1 S.2.1 dX0_takeBack_46 rfl (lv_at hl 2 rfl) ?_
      refine lv_dup S.1 S.2.1 dX0_takeBack_47 rfl ?_
      refine z_get (k := 21) (i := 0) (f := 2) (v := .int (M32 21 0 2)) S hK hR (by decide) rfl rfl (by decide) wf_X0_30 rfl dX0_takeBack_48 ?_
      refine lv_iconst (v := 1) S.1 S.2.1 dX0_takeBack_51 (by decide) ?_
      refine lv_isub S.1 S.2.1 dX0_takeBack_52 ?_
      refine z_put (k := 21) (i := 0) (f := 2) (ty := .int) S hg hK hR hS hF (by decide) rfl rfl rfl (by decide) wf_X0_30 rfl (by decide +kernel) rfl rfl (Nat.le_of_ble_eq_true rfl) dX0_takeBack_53 (fun H locs M33 hR hS hF => ?_)
      exact z_vret S hr hlk hR hS hF dX0_takeBack_56
    · replace hF := z_ct hF hc
      exact z_vret S hr hlk hR hS hF dX0_takeBack_35
theorem hX1_append : yX1_append.cls = RX1 ∧ yX1_append.cls ≠ "java/lang/invoke/MethodHandle" ∧ yX1_append.cls ≠ "java/lang/invoke/VarHandle" ∧ (parseMethodDescriptor yX1_append.desc).map (fun d => d.parameters.length) = some 1 := by decide +kernel
theorem oX1_append : Cond.instanceMethod yX1_append ∈ zT ∧ Cond.selects RX1 yX1_append yX1_append ∈ zT ∧ Cond.initialized RX1 ∈ zT ∧ Cond.code yX1_append cX1_append 2 none ∈ zT := ⟨wv_X1_append, we_X1_append, wi_X1, wk_X1_append⟩
set_option maxRecDepth 100000 in
set_option maxHeartbeats 4000000 in
theorem kX1_append (l : Launch) {g : zGeo} {z : Nat} (hg : zAd g z) {M M' : zM} {v1 : Int32} {r : Unit} (hF : fX1_append M v1 = some (r, M')) : Met l yX1_append [.code yX1_append cX1_append 2 none] { frames := 0, cells := 0, slots := 0, locals := 0 } (zPc g M [.ref (g.1 24 0), .int v1]) (zQv g z M') 0 0 (zS z) := by
  refine z_enter (cc := cX1_append) (maxL := 2) (ret := none) (by decide) rfl (Nat.le_of_ble_eq_true rfl) ?_
  intro p e s m below meth c S hr hlk hK hR hS ls hl
  have S : CallFix p m c cX1_append 2 s _ zT RX1 := S
  have hl : lv_has ls 2 [(0, .ref (g.1 24 0)), (1, .int v1)] := hl
  unfold fX1_append at hF
  refine lv_aload_n S.1 S.2.1 dX1_append_0 rfl (lv_at hl 0 rfl) ?_
  refine z_get (k := 24) (i := 0) (f := 1) (v := .int (M 24 0 1)) S hK hR (by decide) rfl rfl (by decide) wf_X1_15 rfl dX1_append_1 ?_
  refine lv_if_lt (tgt := 40) S.1 S.2.1 dX1_append_4 (by decide) (fun hc => ?_) (fun hc => ?_)
  · replace hF := z_ct hF hc
    exact z_vret S hr hlk hR hS hF dX1_append_40
  · replace hF := z_cf hF hc
    refine lv_aload_n S.1 S.2.1 dX1_append_7 rfl (lv_at hl 0 rfl) ?_
    refine z_get (k := 24) (i := 0) (f := 1) (v := .int (M 24 0 1)) S hK hR (by decide) rfl rfl (by decide) wf_X1_15 rfl dX1_append_8 ?_
    refine lv_aload_n S.1 S.2.1 dX1_append_11 rfl (lv_at hl 0 rfl) ?_
    refine z_get (k := 24) (i := 0) (f := 0) (v := .ref (g.1 25 0)) S hK hR (by decide) rfl rfl (by decide) wf_X1_9 rfl dX1_append_12 ?_
    refine z_alen (v := 60) S hK hR (by decide) rfl (by decide) rfl dX1_append_15 ?_
    refine lv_icmp_ge (tgt := 40) S.1 S.2.1 dX1_append_16 (by decide) (fun hc => ?_) (fun hc => ?_)
    · replace hF := z_ct hF hc
      exact z_vret S hr hlk hR hS hF dX1_append_40
    · replace hF := z_cf hF hc
      refine lv_aload_n S.1 S.2.1 dX1_append_19 rfl (lv_at hl 0 rfl) ?_
      refine z_get (k := 24) (i := 0) (f := 0) (v := .ref (g.1 25 0)) S hK hR (by decide) rfl rfl (by decide) wf_X1_9 rfl dX1_append_20 ?_
      refine lv_aload_n S.1 S.2.1 dX1_append_23 rfl (lv_at hl 0 rfl) ?_
      refine z_get (k := 24) (i := 0) (f := 1) (v := .int (M 24 0 1)) S hK hR (by decide) rfl rfl (by decide) wf_X1_15 rfl dX1_append_24 ?_
      refine lv_iload_n S.1 S.2.1 dX1_append_27 rfl (lv_at hl 1 rfl) ?_
      refine lv_i2c (v := (v1.toUInt32 % 65536).toInt32) S.1 S.2.1 dX1_append_28 rfl ?_
      refine z_cast (k := 25) (i := 0) (n := 60) S hg hK hR hS hF (by decide) rfl dX1_append_29 (fun H locs M21 hR hS hF => ?_)
      refine lv_aload_n S.1 S.2.1 dX1_append_30 rfl (lv_at hl 0 rfl) ?_
      refine lv_dup S.1 S.2.1 dX1_append_31 rfl ?_
      refine z_get (k := 24) (i := 0) (f := 1) (v := .int (M21 24 0 1)) S hK hR (by decide) rfl rfl (by decide) wf_X1_15 rfl dX1_append_32 ?_
      refine lv_iconst (v := 1) S.1 S.2.1 dX1_append_35 (by decide) ?_
      refine lv_iadd S.1 S.2.1 dX1_append_36 ?_
      refine z_put (k := 24) (i := 0) (f := 1) (ty := .int) S hg hK hR hS hF (by decide) rfl rfl rfl (by decide) wf_X1_15 rfl (by decide +kernel) rfl rfl (Nat.le_of_ble_eq_true rfl) dX1_append_37 (fun H locs M22 hR hS hF => ?_)
      exact z_vret S hr hlk hR hS hF dX1_append_40
theorem hX1_clear : yX1_clear.cls = RX1 ∧ yX1_clear.cls ≠ "java/lang/invoke/MethodHandle" ∧ yX1_clear.cls ≠ "java/lang/invoke/VarHandle" ∧ (parseMethodDescriptor yX1_clear.desc).map (fun d => d.parameters.length) = some 0 := by decide +kernel
theorem oX1_clear : Cond.instanceMethod yX1_clear ∈ zT ∧ Cond.selects RX1 yX1_clear yX1_clear ∈ zT ∧ Cond.initialized RX1 ∈ zT ∧ Cond.code yX1_clear cX1_clear 1 none ∈ zT := ⟨wv_X1_clear, we_X1_clear, wi_X1, wk_X1_clear⟩
set_option maxRecDepth 100000 in
set_option maxHeartbeats 4000000 in
theorem kX1_clear (l : Launch) {g : zGeo} {z : Nat} (hg : zAd g z) {M M' : zM}  {r : Unit} (hF : fX1_clear M = some (r, M')) : Met l yX1_clear [.code yX1_clear cX1_clear 1 none] { frames := 0, cells := 0, slots := 0, locals := 0 } (zPc g M [.ref (g.1 24 0)]) (zQv g z M') 0 0 (zS z) := by
  refine z_enter (cc := cX1_clear) (maxL := 1) (ret := none) (by decide) rfl (Nat.le_of_ble_eq_true rfl) ?_
  intro p e s m below meth c S hr hlk hK hR hS ls hl
  have S : CallFix p m c cX1_clear 1 s _ zT RX1 := S
  have hl : lv_has ls 1 [(0, .ref (g.1 24 0))] := hl
  unfold fX1_clear at hF
  refine lv_aload_n S.1 S.2.1 dX1_clear_0 rfl (lv_at hl 0 rfl) ?_
  refine lv_iconst (v := 0) S.1 S.2.1 dX1_clear_1 (by decide) ?_
  refine z_put (k := 24) (i := 0) (f := 1) (ty := .int) S hg hK hR hS hF (by decide) rfl rfl rfl (by decide) wf_X1_15 rfl (by decide +kernel) rfl rfl (Nat.le_of_ble_eq_true rfl) dX1_clear_2 (fun H locs M21 hR hS hF => ?_)
  exact z_vret S hr hlk hR hS hF dX1_clear_5
theorem hX1_signAt : yX1_signAt.cls = RX1 ∧ yX1_signAt.cls ≠ "java/lang/invoke/MethodHandle" ∧ yX1_signAt.cls ≠ "java/lang/invoke/VarHandle" ∧ (parseMethodDescriptor yX1_signAt.desc).map (fun d => d.parameters.length) = some 1 := by decide +kernel
theorem oX1_signAt : Cond.instanceMethod yX1_signAt ∈ zT ∧ Cond.selects RX1 yX1_signAt yX1_signAt ∈ zT ∧ Cond.initialized RX1 ∈ zT ∧ Cond.code yX1_signAt cX1_signAt 2 (some .int) ∈ zT := ⟨wv_X1_signAt, we_X1_signAt, wi_X1, wk_X1_signAt⟩
set_option maxRecDepth 100000 in
set_option maxHeartbeats 4000000 in
theorem kX1_signAt (l : Launch) {g : zGeo} {z : Nat} (hg : zAd g z) {M M' : zM} {v1 : Int32} {r : Int32} (hF : fX1_signAt M v1 = some (r, M')) : Met l yX1_signAt [.code yX1_signAt cX1_signAt 2 (some .int)] { frames := 0, cells := 0, slots := 0, locals := 0 } (zPc g M [.ref (g.1 24 0), .int v1]) (zQi g z r M') 0 0 (zS z) := by
  refine z_enter (cc := cX1_signAt) (maxL := 2) (ret := (some .int)) (by decide) rfl (Nat.le_of_ble_eq_true rfl) ?_
  intro p e s m below meth c S hr hlk hK hR hS ls hl
  have S : CallFix p m c cX1_signAt 2 s _ zT RX1 := S
  have hl : lv_has ls 2 [(0, .ref (g.1 24 0)), (1, .int v1)] := hl
  unfold fX1_signAt at hF
  refine lv_iload_n S.1 S.2.1 dX1_signAt_0 rfl (lv_at hl 1 rfl) ?_
  refine lv_if_lt (tgt := 30) S.1 S.2.1 dX1_signAt_1 (by decide) (fun hc => ?_) (fun hc => ?_)
  · replace hF := z_ct hF hc
    refine lv_iconst (v := 0) S.1 S.2.1 dX1_signAt_30 (by decide) ?_
    exact z_iret S hr hlk hR hS hF dX1_signAt_31
  · replace hF := z_cf hF hc
    refine lv_iload_n S.1 S.2.1 dX1_signAt_4 rfl (lv_at hl 1 rfl) ?_
    refine lv_aload_n S.1 S.2.1 dX1_signAt_5 rfl (lv_at hl 0 rfl) ?_
    refine z_get (k := 24) (i := 0) (f := 1) (v := .int (M 24 0 1)) S hK hR (by decide) rfl rfl (by decide) wf_X1_15 rfl dX1_signAt_6 ?_
    refine lv_icmp_ge (tgt := 30) S.1 S.2.1 dX1_signAt_9 (by decide) (fun hc => ?_) (fun hc => ?_)
    · replace hF := z_ct hF hc
      refine lv_iconst (v := 0) S.1 S.2.1 dX1_signAt_30 (by decide) ?_
      exact z_iret S hr hlk hR hS hF dX1_signAt_31
    · replace hF := z_cf hF hc
      refine lv_iload_n S.1 S.2.1 dX1_signAt_12 rfl (lv_at hl 1 rfl) ?_
      refine lv_aload_n S.1 S.2.1 dX1_signAt_13 rfl (lv_at hl 0 rfl) ?_
      refine z_get (k := 24) (i := 0) (f := 0) (v := .ref (g.1 25 0)) S hK hR (by decide) rfl rfl (by decide) wf_X1_9 rfl dX1_signAt_14 ?_
      refine z_alen (v := 60) S hK hR (by decide) rfl (by decide) rfl dX1_signAt_17 ?_
      refine lv_icmp_ge (tgt := 30) S.1 S.2.1 dX1_signAt_18 (by decide) (fun hc => ?_) (fun hc => ?_)
      · replace hF := z_ct hF hc
        refine lv_iconst (v := 0) S.1 S.2.1 dX1_signAt_30 (by decide) ?_
        exact z_iret S hr hlk hR hS hF dX1_signAt_31
      · replace hF := z_cf hF hc
        refine lv_aload_n S.1 S.2.1 dX1_signAt_21 rfl (lv_at hl 0 rfl) ?_
        refine z_get (k := 24) (i := 0) (f := 0) (v := .ref (g.1 25 0)) S hK hR (by decide) rfl rfl (by decide) wf_X1_9 rfl dX1_signAt_22 ?_
        refine lv_iload_n S.1 S.2.1 dX1_signAt_25 rfl (lv_at hl 1 rfl) ?_
        refine z_cald (k := 25) (i := 0) (n := 60) S hK hR hF (by decide) rfl dX1_signAt_26 (fun hF => ?_)
        refine lv_goto (tgt := 31) S.1 S.2.1 dX1_signAt_27 (by decide) ?_
        exact z_iret S hr hlk hR hS hF dX1_signAt_31
theorem hX1_afterStartOfStep : yX1_afterStartOfStep.cls = RX1 ∧ yX1_afterStartOfStep.cls ≠ "java/lang/invoke/MethodHandle" ∧ yX1_afterStartOfStep.cls ≠ "java/lang/invoke/VarHandle" ∧ (parseMethodDescriptor yX1_afterStartOfStep.desc).map (fun d => d.parameters.length) = some 3 := by decide +kernel
theorem oX1_afterStartOfStep : Cond.static yX1_afterStartOfStep ∈ zT ∧ Cond.initialized RX1 ∈ zT ∧ Cond.code yX1_afterStartOfStep cX1_afterStartOfStep 3 (some .int) ∈ zT := ⟨ws_X1_afterStartOfStep, wi_X1, wk_X1_afterStartOfStep⟩
set_option maxRecDepth 100000 in
set_option maxHeartbeats 4000000 in
theorem kX1_afterStartOfStep (l : Launch) {g : zGeo} {z : Nat} (hg : zAd g z) {M M' : zM} {v0 : Int32} {v1 : Int32} {v2 : Int32} {r : Int32} (hF : fX1_afterStartOfStep M v0 v1 v2 = some (r, M')) : Met l yX1_afterStartOfStep [.code yX1_afterStartOfStep cX1_afterStartOfStep 3 (some .int)] { frames := 0, cells := 0, slots := 0, locals := 0 } (zPc g M [.int v0, .int v1, .int v2]) (zQi g z r M') 0 0 (zS z) := by
  refine z_enter (cc := cX1_afterStartOfStep) (maxL := 3) (ret := (some .int)) (by decide) rfl (Nat.le_of_ble_eq_true rfl) ?_
  intro p e s m below meth c S hr hlk hK hR hS ls hl
  have S : CallFix p m c cX1_afterStartOfStep 3 s _ zT RX1 := S
  have hl : lv_has ls 3 [(0, .int v0), (1, .int v1), (2, .int v2)] := hl
  unfold fX1_afterStartOfStep at hF
  refine lv_iload_n S.1 S.2.1 dX1_afterStartOfStep_0 rfl (lv_at hl 0 rfl) ?_
  refine lv_bipush (v := 48) S.1 S.2.1 dX1_afterStartOfStep_1 (by decide) ?_
  refine lv_icmp_ne (tgt := 8) S.1 S.2.1 dX1_afterStartOfStep_3 (by decide) (fun hc => ?_) (fun hc => ?_)
  · replace hF := z_cf hF hc
    refine lv_iload_n S.1 S.2.1 dX1_afterStartOfStep_8 rfl (lv_at hl 0 rfl) ?_
    refine lv_bipush (v := 43) S.1 S.2.1 dX1_afterStartOfStep_9 (by decide) ?_
    refine lv_icmp_eq (tgt := 20) S.1 S.2.1 dX1_afterStartOfStep_11 (by decide) (fun hc => ?_) (fun hc => ?_)
    · replace hF := z_ct hF hc
      refine lv_iload_n S.1 S.2.1 dX1_afterStartOfStep_20 rfl (lv_at hl 1 rfl) ?_
      refine lv_goto (tgt := 26) S.1 S.2.1 dX1_afterStartOfStep_21 (by decide) ?_
      exact z_iret S hr hlk hR hS hF dX1_afterStartOfStep_26
    · replace hF := z_cf hF hc
      refine lv_iload_n S.1 S.2.1 dX1_afterStartOfStep_14 rfl (lv_at hl 0 rfl) ?_
      refine lv_bipush (v := 45) S.1 S.2.1 dX1_afterStartOfStep_15 (by decide) ?_
      refine lv_icmp_ne (tgt := 24) S.1 S.2.1 dX1_afterStartOfStep_17 (by decide) (fun hc => ?_) (fun hc => ?_)
      · replace hF := z_cf hF hc
        refine lv_bipush (v := (-6)) S.1 S.2.1 dX1_afterStartOfStep_24 (by decide) ?_
        exact z_iret S hr hlk hR hS hF dX1_afterStartOfStep_26
      · replace hF := z_ct hF hc
        refine lv_iload_n S.1 S.2.1 dX1_afterStartOfStep_20 rfl (lv_at hl 1 rfl) ?_
        refine lv_goto (tgt := 26) S.1 S.2.1 dX1_afterStartOfStep_21 (by decide) ?_
        exact z_iret S hr hlk hR hS hF dX1_afterStartOfStep_26
  · replace hF := z_ct hF hc
    refine lv_iload_n S.1 S.2.1 dX1_afterStartOfStep_6 rfl (lv_at hl 2 rfl) ?_
    exact z_iret S hr hlk hR hS hF dX1_afterStartOfStep_7
theorem hX1_expectedAfter : yX1_expectedAfter.cls = RX1 ∧ yX1_expectedAfter.cls ≠ "java/lang/invoke/MethodHandle" ∧ yX1_expectedAfter.cls ≠ "java/lang/invoke/VarHandle" ∧ (parseMethodDescriptor yX1_expectedAfter.desc).map (fun d => d.parameters.length) = some 2 := by decide +kernel
theorem oX1_expectedAfter : Cond.static yX1_expectedAfter ∈ zT ∧ Cond.initialized RX1 ∈ zT ∧ Cond.code yX1_expectedAfter cX1_expectedAfter 2 (some .int) ∈ zT := ⟨ws_X1_expectedAfter, wi_X1, wk_X1_expectedAfter⟩
set_option maxRecDepth 100000 in
set_option maxHeartbeats 4000000 in
theorem kX1_expectedAfter (l : Launch) {g : zGeo} {z : Nat} (hg : zAd g z) {M M' : zM} {v0 : Int32} {v1 : Int32} {r : Int32} (hF : fX1_expectedAfter M v0 v1 = some (r, M')) : Met l yX1_expectedAfter [.code yX1_expectedAfter cX1_expectedAfter 2 (some .int)] { frames := 1, cells := 0, slots := 0, locals := 22 } (zPc g M [.int v0, .int v1]) (zQi g z r M') 0 0 (zS z) := by
  refine z_enter (cc := cX1_expectedAfter) (maxL := 2) (ret := (some .int)) (by decide) rfl (Nat.le_of_ble_eq_true rfl) ?_
  intro p e s m below meth c S hr hlk hK hR hS ls hl
  have S : CallFix p m c cX1_expectedAfter 2 s _ zT RX1 := S
  have hl : lv_has ls 2 [(0, .int v0), (1, .int v1)] := hl
  unfold fX1_expectedAfter at hF
  refine lv_iload_n S.1 S.2.1 dX1_expectedAfter_0 rfl (lv_at hl 0 rfl) ?_
  by_cases hc0 : v0 = 0
  · replace hF := z_ct hF hc0
    refine lv_tableIn (tgt := 40) S.1 S.2.1 dX1_expectedAfter_1 (by rw [hc0]; decide) (by rw [hc0]; decide) (by rw [hc0]; rfl) (by decide) ?_
    refine lv_iload_n S.1 S.2.1 dX1_expectedAfter_40 rfl (lv_at hl 1 rfl) ?_
    refine lv_bipush (v := 48) S.1 S.2.1 dX1_expectedAfter_41 (by decide) ?_
    refine lv_bipush (v := 53) S.1 S.2.1 dX1_expectedAfter_43 (by decide) ?_
    refine z_goi hS hF (fun _ _ ho => va_runSN (n := 3) (As := [.int v1, .int 48, .int 53]) (rest := []) S (kX6_isWithin l hg ho) ⟨va_cnB 3 S.2.2.2.2 (zgN wk_X6_isWithin) rfl rfl rfl (hK.2.2 _ zNest_0) (S.2.2.2.2 _ wi_X6) hX6_isWithin.2 ⟨Nat.le_of_ble_eq_true rfl, Nat.le_of_ble_eq_true rfl⟩, S.2.2.2.2 _ ws_X6_isWithin, trivial⟩ ⟨zPc_blind, z_pre hK hR⟩ rfl rfl hl.1 rfl (lv_room (Nat.le_of_ble_eq_true rfl)) dX1_expectedAfter_45 ⟨Nat.zero_le _, Nat.zero_le _⟩) (fun r22 M21 H locs hR hS hF => ?_)
    refine lv_if_eq (tgt := 55) S.1 S.2.1 dX1_expectedAfter_48 (by decide) (fun hc => ?_) (fun hc => ?_)
    · replace hF := z_ct hF hc
      refine lv_bipush (v := (-6)) S.1 S.2.1 dX1_expectedAfter_55 (by decide) ?_
      exact z_iret S hr hlk hR hS hF dX1_expectedAfter_57
    · replace hF := z_cf hF hc
      refine lv_iconst (v := 1) S.1 S.2.1 dX1_expectedAfter_51 (by decide) ?_
      refine lv_goto (tgt := 57) S.1 S.2.1 dX1_expectedAfter_52 (by decide) ?_
      exact z_iret S hr hlk hR hS hF dX1_expectedAfter_57
  replace hF := z_cf hF hc0
  by_cases hc1 : v0 = 1
  · replace hF := z_ct hF hc1
    refine lv_tableIn (tgt := 58) S.1 S.2.1 dX1_expectedAfter_1 (by rw [hc1]; decide) (by rw [hc1]; decide) (by rw [hc1]; rfl) (by decide) ?_
    refine lv_iload_n S.1 S.2.1 dX1_expectedAfter_58 rfl (lv_at hl 1 rfl) ?_
    refine lv_bipush (v := 58) S.1 S.2.1 dX1_expectedAfter_59 (by decide) ?_
    refine lv_icmp_ne (tgt := 68) S.1 S.2.1 dX1_expectedAfter_61 (by decide) (fun hc => ?_) (fun hc => ?_)
    · replace hF := z_cf hF hc
      refine lv_bipush (v := (-6)) S.1 S.2.1 dX1_expectedAfter_68 (by decide) ?_
      exact z_iret S hr hlk hR hS hF dX1_expectedAfter_70
    · replace hF := z_ct hF hc
      refine lv_iconst (v := 2) S.1 S.2.1 dX1_expectedAfter_64 (by decide) ?_
      refine lv_goto (tgt := 70) S.1 S.2.1 dX1_expectedAfter_65 (by decide) ?_
      exact z_iret S hr hlk hR hS hF dX1_expectedAfter_70
  replace hF := z_cf hF hc1
  by_cases hc2 : v0 = 2
  · replace hF := z_ct hF hc2
    refine lv_tableIn (tgt := 71) S.1 S.2.1 dX1_expectedAfter_1 (by rw [hc2]; decide) (by rw [hc2]; decide) (by rw [hc2]; rfl) (by decide) ?_
    refine lv_iload_n S.1 S.2.1 dX1_expectedAfter_71 rfl (lv_at hl 1 rfl) ?_
    refine lv_iconst (v := 3) S.1 S.2.1 dX1_expectedAfter_72 (by decide) ?_
    refine lv_iconst (v := 4) S.1 S.2.1 dX1_expectedAfter_73 (by decide) ?_
    refine z_goi hS hF (fun _ _ ho => va_runS (n := 3) (As := [.int v1, .int 3, .int 4]) (rest := []) S (kX1_afterStartOfStep l hg ho) (va_cwS 3 S.2.2.2.2 (zgS wm_X1_31 oX1_afterStartOfStep) rfl rfl rfl hX1_afterStartOfStep.2 ⟨Nat.le_of_ble_eq_true rfl, Nat.le_of_ble_eq_true rfl⟩) ⟨zPc_blind, z_pre hK hR⟩ rfl rfl hl.1 rfl (lv_room (Nat.le_of_ble_eq_true rfl)) dX1_expectedAfter_74 ⟨Nat.zero_le _, Nat.zero_le _⟩) (fun r24 M23 H locs hR hS hF => ?_)
    exact z_iret S hr hlk hR hS hF dX1_expectedAfter_77
  replace hF := z_cf hF hc2
  by_cases hc3 : v0 = 3
  · replace hF := z_ct hF hc3
    refine lv_tableIn (tgt := 78) S.1 S.2.1 dX1_expectedAfter_1 (by rw [hc3]; decide) (by rw [hc3]; decide) (by rw [hc3]; rfl) (by decide) ?_
    refine lv_iload_n S.1 S.2.1 dX1_expectedAfter_78 rfl (lv_at hl 1 rfl) ?_
    refine lv_bipush (v := 49) S.1 S.2.1 dX1_expectedAfter_79 (by decide) ?_
    refine lv_bipush (v := 51) S.1 S.2.1 dX1_expectedAfter_81 (by decide) ?_
    refine z_goi hS hF (fun _ _ ho => va_runSN (n := 3) (As := [.int v1, .int 49, .int 51]) (rest := []) S (kX6_isWithin l hg ho) ⟨va_cnB 3 S.2.2.2.2 (zgN wk_X6_isWithin) rfl rfl rfl (hK.2.2 _ zNest_0) (S.2.2.2.2 _ wi_X6) hX6_isWithin.2 ⟨Nat.le_of_ble_eq_true rfl, Nat.le_of_ble_eq_true rfl⟩, S.2.2.2.2 _ ws_X6_isWithin, trivial⟩ ⟨zPc_blind, z_pre hK hR⟩ rfl rfl hl.1 rfl (lv_room (Nat.le_of_ble_eq_true rfl)) dX1_expectedAfter_83 ⟨Nat.zero_le _, Nat.zero_le _⟩) (fun r26 M25 H locs hR hS hF => ?_)
    refine lv_if_eq (tgt := 93) S.1 S.2.1 dX1_expectedAfter_86 (by decide) (fun hc => ?_) (fun hc => ?_)
    · replace hF := z_ct hF hc
      refine lv_bipush (v := (-6)) S.1 S.2.1 dX1_expectedAfter_93 (by decide) ?_
      exact z_iret S hr hlk hR hS hF dX1_expectedAfter_95
    · replace hF := z_cf hF hc
      refine lv_iconst (v := 4) S.1 S.2.1 dX1_expectedAfter_89 (by decide) ?_
      refine lv_goto (tgt := 95) S.1 S.2.1 dX1_expectedAfter_90 (by decide) ?_
      exact z_iret S hr hlk hR hS hF dX1_expectedAfter_95
  replace hF := z_cf hF hc3
  by_cases hc4 : v0 = 4
  · replace hF := z_ct hF hc4
    refine lv_tableIn (tgt := 96) S.1 S.2.1 dX1_expectedAfter_1 (by rw [hc4]; decide) (by rw [hc4]; decide) (by rw [hc4]; rfl) (by decide) ?_
    refine lv_iload_n S.1 S.2.1 dX1_expectedAfter_96 rfl (lv_at hl 1 rfl) ?_
    refine lv_iconst (v := 5) S.1 S.2.1 dX1_expectedAfter_97 (by decide) ?_
    refine lv_bipush (v := 6) S.1 S.2.1 dX1_expectedAfter_98 (by decide) ?_
    refine z_goi hS hF (fun _ _ ho => va_runS (n := 3) (As := [.int v1, .int 5, .int 6]) (rest := []) S (kX1_afterStartOfStep l hg ho) (va_cwS 3 S.2.2.2.2 (zgS wm_X1_31 oX1_afterStartOfStep) rfl rfl rfl hX1_afterStartOfStep.2 ⟨Nat.le_of_ble_eq_true rfl, Nat.le_of_ble_eq_true rfl⟩) ⟨zPc_blind, z_pre hK hR⟩ rfl rfl hl.1 rfl (lv_room (Nat.le_of_ble_eq_true rfl)) dX1_expectedAfter_100 ⟨Nat.zero_le _, Nat.zero_le _⟩) (fun r28 M27 H locs hR hS hF => ?_)
    exact z_iret S hr hlk hR hS hF dX1_expectedAfter_103
  replace hF := z_cf hF hc4
  by_cases hc5 : v0 = 5
  · replace hF := z_ct hF hc5
    refine lv_tableIn (tgt := 104) S.1 S.2.1 dX1_expectedAfter_1 (by rw [hc5]; decide) (by rw [hc5]; decide) (by rw [hc5]; rfl) (by decide) ?_
    refine lv_iload_n S.1 S.2.1 dX1_expectedAfter_104 rfl (lv_at hl 1 rfl) ?_
    refine lv_bipush (v := 49) S.1 S.2.1 dX1_expectedAfter_105 (by decide) ?_
    refine lv_bipush (v := 51) S.1 S.2.1 dX1_expectedAfter_107 (by decide) ?_
    refine z_goi hS hF (fun _ _ ho => va_runSN (n := 3) (As := [.int v1, .int 49, .int 51]) (rest := []) S (kX6_isWithin l hg ho) ⟨va_cnB 3 S.2.2.2.2 (zgN wk_X6_isWithin) rfl rfl rfl (hK.2.2 _ zNest_0) (S.2.2.2.2 _ wi_X6) hX6_isWithin.2 ⟨Nat.le_of_ble_eq_true rfl, Nat.le_of_ble_eq_true rfl⟩, S.2.2.2.2 _ ws_X6_isWithin, trivial⟩ ⟨zPc_blind, z_pre hK hR⟩ rfl rfl hl.1 rfl (lv_room (Nat.le_of_ble_eq_true rfl)) dX1_expectedAfter_109 ⟨Nat.zero_le _, Nat.zero_le _⟩) (fun r30 M29 H locs hR hS hF => ?_)
    refine lv_if_eq (tgt := 120) S.1 S.2.1 dX1_expectedAfter_112 (by decide) (fun hc => ?_) (fun hc => ?_)
    · replace hF := z_ct hF hc
      refine lv_bipush (v := (-6)) S.1 S.2.1 dX1_expectedAfter_120 (by decide) ?_
      exact z_iret S hr hlk hR hS hF dX1_expectedAfter_122
    · replace hF := z_cf hF hc
      refine lv_bipush (v := 6) S.1 S.2.1 dX1_expectedAfter_115 (by decide) ?_
      refine lv_goto (tgt := 122) S.1 S.2.1 dX1_expectedAfter_117 (by decide) ?_
      exact z_iret S hr hlk hR hS hF dX1_expectedAfter_122
  replace hF := z_cf hF hc5
  refine lv_tableOut (tgt := 123) S.1 S.2.1 dX1_expectedAfter_1 (by have hn0 := z_ne hc0 (n := 0) rfl; have hn1 := z_ne hc1 (n := 1) rfl; have hn2 := z_ne hc2 (n := 2) rfl; have hn3 := z_ne hc3 (n := 3) rfl; have hn4 := z_ne hc4 (n := 4) rfl; have hn5 := z_ne hc5 (n := 5) rfl; omega) (by decide) ?_
  refine lv_iload_n S.1 S.2.1 dX1_expectedAfter_123 rfl (lv_at hl 1 rfl) ?_
  refine lv_bipush (v := 59) S.1 S.2.1 dX1_expectedAfter_124 (by decide) ?_
  refine lv_icmp_ne (tgt := 133) S.1 S.2.1 dX1_expectedAfter_126 (by decide) (fun hc => ?_) (fun hc => ?_)
  · replace hF := z_cf hF hc
    refine lv_bipush (v := (-6)) S.1 S.2.1 dX1_expectedAfter_133 (by decide) ?_
    exact z_iret S hr hlk hR hS hF dX1_expectedAfter_135
  · replace hF := z_ct hF hc
    refine lv_iconst (v := 0) S.1 S.2.1 dX1_expectedAfter_129 (by decide) ?_
    refine lv_goto (tgt := 135) S.1 S.2.1 dX1_expectedAfter_130 (by decide) ?_
    exact z_iret S hr hlk hR hS hF dX1_expectedAfter_135
theorem hX1_firstFault : yX1_firstFault.cls = RX1 ∧ yX1_firstFault.cls ≠ "java/lang/invoke/MethodHandle" ∧ yX1_firstFault.cls ≠ "java/lang/invoke/VarHandle" ∧ (parseMethodDescriptor yX1_firstFault.desc).map (fun d => d.parameters.length) = some 0 := by decide +kernel
theorem oX1_firstFault : Cond.instanceMethod yX1_firstFault ∈ zT ∧ Cond.selects RX1 yX1_firstFault yX1_firstFault ∈ zT ∧ Cond.initialized RX1 ∈ zT ∧ Cond.code yX1_firstFault cX1_firstFault 3 (some .int) ∈ zT := ⟨wv_X1_firstFault, we_X1_firstFault, wi_X1, wk_X1_firstFault⟩
set_option maxRecDepth 100000 in
set_option maxHeartbeats 4000000 in
theorem kX1_firstFault (l : Launch) {g : zGeo} {z : Nat} (hg : zAd g z) {M M' : zM}  {r : Int32} (hF : fX1_firstFault M = some (r, M')) : Met l yX1_firstFault [.code yX1_firstFault cX1_firstFault 3 (some .int)] { frames := 2, cells := 0, slots := 0, locals := 43 } (zPc g M [.ref (g.1 24 0)]) (zQi g z r M') 0 0 (zS z) := by
  refine z_enter (cc := cX1_firstFault) (maxL := 3) (ret := (some .int)) (by decide) rfl (Nat.le_of_ble_eq_true rfl) ?_
  intro p e s m below meth c S hr hlk hK hR hS ls hl
  have S : CallFix p m c cX1_firstFault 3 s _ zT RX1 := S
  have hl : lv_has ls 3 [(0, .ref (g.1 24 0))] := hl
  have L4 : ∀ (k : zM → Int32 → Int32 → Option (Int32 × zM)) , (∀ (M : zM) (a1 : Int32) (a2 : Int32) (H : Heap) (locs : List Loc), zR g M H → va_S (zS z) s.heap H locs → ∀ ls : Array Slot, lv_has ls 3 [(0, .ref (g.1 24 0)), (1, .int a1), (2, .int a2)] → k M a1 a2 = some (r, M') → W p l e { frames := 2, cells := 0, slots := 0, locals := 43 } s m ([.ref (g.1 24 0)] : List Value).toArray below meth c H locs 0 0 (MQ below (zQi g z r M') ([.ref (g.1 24 0)] : List Value).toArray s 0 0 (zS z)) (F0 m 36 ls [])) → ∀ (n : Nat) (M : zM) (a1 : Int32) (a2 : Int32) (H : Heap) (locs : List Loc), zR g M H → va_S (zS z) s.heap H locs → ∀ ls : Array Slot, lv_has ls 3 [(0, .ref (g.1 24 0)), (1, .int a1), (2, .int a2)] → fX1_firstFault_L4 k n M a1 a2 = some (r, M') → W p l e { frames := 2, cells := 0, slots := 0, locals := 43 } s m ([.ref (g.1 24 0)] : List Value).toArray below meth c H locs 0 0 (MQ below (zQi g z r M') ([.ref (g.1 24 0)] : List Value).toArray s 0 0 (zS z)) (F0 m 4 ls []) := by
    intro k  hk n
    induction n with
    | zero =>
      intro M a1 a2 H locs hR hS ls hl hF
      cases hF
    | succ n ih =>
      intro M a1 a2 H locs hR hS ls hl hF
      unfold fX1_firstFault_L4 at hF
      refine lv_iload_n S.1 S.2.1 dX1_firstFault_4 rfl (lv_at hl 2 rfl) ?_
      refine lv_aload_n S.1 S.2.1 dX1_firstFault_5 rfl (lv_at hl 0 rfl) ?_
      refine z_get (k := 24) (i := 0) (f := 1) (v := .int (M 24 0 1)) S hK hR (by decide) rfl rfl (by decide) wf_X1_15 rfl dX1_firstFault_6 ?_
      refine lv_icmp_ge (tgt := 36) S.1 S.2.1 dX1_firstFault_9 (by decide) (fun hc => ?_) (fun hc => ?_)
      · replace hF := z_ct hF hc
        exact hk _ _ _ _ _ hR hS _ (lv_sub hl [0, 1, 2] rfl) hF
      · replace hF := z_cf hF hc
        refine lv_iload_n S.1 S.2.1 dX1_firstFault_12 rfl (lv_at hl 1 rfl) ?_
        refine lv_aload_n S.1 S.2.1 dX1_firstFault_13 rfl (lv_at hl 0 rfl) ?_
        refine lv_iload_n S.1 S.2.1 dX1_firstFault_14 rfl (lv_at hl 2 rfl) ?_
        refine z_goi hS hF (fun _ _ ho => va_runV (C := RX1) (n := 1) (As := [.int a2]) (rest := [.int a1]) S (kX1_signAt l hg ho) (cwV 1 S.2.2.2.2 (zgV wm_X1_19 oX1_signAt) rfl rfl rfl hX1_signAt ⟨Nat.le_of_ble_eq_true rfl, Nat.le_of_ble_eq_true rfl⟩) ⟨zPc_blind, z_recv hK hR (by decide) rfl rfl, z_pre hK hR⟩ rfl rfl hl.1 rfl (lv_room (Nat.le_of_ble_eq_true rfl)) dX1_firstFault_15 ⟨Nat.zero_le _, Nat.zero_le _⟩) (fun r22 M21 H locs hR hS hF => ?_)
        refine z_goi hS hF (fun _ _ ho => va_runS (n := 2) (As := [.int a1, .int r22]) (rest := []) S (kX1_expectedAfter l hg ho) (va_cwS 2 S.2.2.2.2 (zgS wm_X1_23 oX1_expectedAfter) rfl rfl rfl hX1_expectedAfter.2 ⟨Nat.le_of_ble_eq_true rfl, Nat.le_of_ble_eq_true rfl⟩) ⟨zPc_blind, z_pre hK hR⟩ rfl rfl hl.1 rfl (lv_room (Nat.le_of_ble_eq_true rfl)) dX1_firstFault_18 ⟨Nat.zero_le _, Nat.zero_le _⟩) (fun r24 M23 H locs hR hS hF => ?_)
        refine lv_istore_n (lv' := [(1, .int r24), (0, .ref (g.1 24 0)), (2, .int a2)]) S.1 S.2.1 dX1_firstFault_21 rfl hl (by decide) rfl (fun ls hl => ?_)
        refine lv_iload_n S.1 S.2.1 dX1_firstFault_22 rfl (lv_at hl 0 rfl) ?_
        refine lv_bipush (v := (-6)) S.1 S.2.1 dX1_firstFault_23 (by decide) ?_
        refine lv_icmp_ne (tgt := 30) S.1 S.2.1 dX1_firstFault_25 (by decide) (fun hc => ?_) (fun hc => ?_)
        · replace hF := z_cf hF hc
          obtain ⟨v25, ev25, hF⟩ := zL_out hF
          refine lv_iinc (v := v25) (lv' := [(2, .int v25), (1, .int r24), (0, .ref (g.1 24 0))]) S.1 S.2.1 dX1_firstFault_30 hl (k := 2) rfl (by rw [← ev25]; rfl) (by decide) rfl (fun ls hl => ?_)
          refine lv_goto (tgt := 4) S.1 S.2.1 dX1_firstFault_33 (by decide) ?_
          exact ih _ _ _ _ _ hR hS _ (lv_sub hl [2, 1, 0] rfl) hF
        · replace hF := z_ct hF hc
          refine lv_iload_n S.1 S.2.1 dX1_firstFault_28 rfl (lv_at hl 2 rfl) ?_
          exact z_iret S hr hlk hR hS hF dX1_firstFault_29
  unfold fX1_firstFault at hF
  refine lv_iconst (v := 0) S.1 S.2.1 dX1_firstFault_0 (by decide) ?_
  refine lv_istore_n (lv' := [(1, .int 0), (0, .ref (g.1 24 0))]) S.1 S.2.1 dX1_firstFault_1 rfl hl (by decide) rfl (fun ls hl => ?_)
  refine lv_iconst (v := 0) S.1 S.2.1 dX1_firstFault_2 (by decide) ?_
  refine lv_istore_n (lv' := [(2, .int 0), (1, .int 0), (0, .ref (g.1 24 0))]) S.1 S.2.1 dX1_firstFault_3 rfl hl (by decide) rfl (fun ls hl => ?_)
  refine L4 _ (fun M26 v27 v28 H locs hR hS ls hl hF => ?_) _ _ _ _ _ _ hR hS _ (lv_sub hl [2, 1, 0] rfl) hF
  refine lv_iload_n S.1 S.2.1 dX1_firstFault_36 rfl (lv_at hl 1 rfl) ?_
  refine lv_bipush (v := 6) S.1 S.2.1 dX1_firstFault_37 (by decide) ?_
  refine lv_icmp_ne (tgt := 47) S.1 S.2.1 dX1_firstFault_39 (by decide) (fun hc => ?_) (fun hc => ?_)
  · replace hF := z_cf hF hc
    refine lv_aload_n S.1 S.2.1 dX1_firstFault_47 rfl (lv_at hl 0 rfl) ?_
    refine z_get (k := 24) (i := 0) (f := 1) (v := .int (M26 24 0 1)) S hK hR (by decide) rfl rfl (by decide) wf_X1_15 rfl dX1_firstFault_48 ?_
    exact z_iret S hr hlk hR hS hF dX1_firstFault_51
  · replace hF := z_ct hF hc
    refine lv_bipush (v := (-6)) S.1 S.2.1 dX1_firstFault_42 (by decide) ?_
    refine lv_goto (tgt := 51) S.1 S.2.1 dX1_firstFault_44 (by decide) ?_
    exact z_iret S hr hlk hR hS hF dX1_firstFault_51
theorem hX1_digitAt : yX1_digitAt.cls = RX1 ∧ yX1_digitAt.cls ≠ "java/lang/invoke/MethodHandle" ∧ yX1_digitAt.cls ≠ "java/lang/invoke/VarHandle" ∧ (parseMethodDescriptor yX1_digitAt.desc).map (fun d => d.parameters.length) = some 1 := by decide +kernel
theorem oX1_digitAt : Cond.instanceMethod yX1_digitAt ∈ zT ∧ Cond.selects RX1 yX1_digitAt yX1_digitAt ∈ zT ∧ Cond.initialized RX1 ∈ zT ∧ Cond.code yX1_digitAt cX1_digitAt 2 (some .int) ∈ zT := ⟨wv_X1_digitAt, we_X1_digitAt, wi_X1, wk_X1_digitAt⟩
set_option maxRecDepth 100000 in
set_option maxHeartbeats 4000000 in
theorem kX1_digitAt (l : Launch) {g : zGeo} {z : Nat} (hg : zAd g z) {M M' : zM} {v1 : Int32} {r : Int32} (hF : fX1_digitAt M v1 = some (r, M')) : Met l yX1_digitAt [.code yX1_digitAt cX1_digitAt 2 (some .int)] { frames := 1, cells := 0, slots := 0, locals := 21 } (zPc g M [.ref (g.1 24 0), .int v1]) (zQi g z r M') 0 0 (zS z) := by
  refine z_enter (cc := cX1_digitAt) (maxL := 2) (ret := (some .int)) (by decide) rfl (Nat.le_of_ble_eq_true rfl) ?_
  intro p e s m below meth c S hr hlk hK hR hS ls hl
  have S : CallFix p m c cX1_digitAt 2 s _ zT RX1 := S
  have hl : lv_has ls 2 [(0, .ref (g.1 24 0)), (1, .int v1)] := hl
  unfold fX1_digitAt at hF
  refine lv_aload_n S.1 S.2.1 dX1_digitAt_0 rfl (lv_at hl 0 rfl) ?_
  refine lv_iload_n S.1 S.2.1 dX1_digitAt_1 rfl (lv_at hl 1 rfl) ?_
  refine z_goi hS hF (fun _ _ ho => va_runV (C := RX1) (n := 1) (As := [.int v1]) (rest := []) S (kX1_signAt l hg ho) (cwV 1 S.2.2.2.2 (zgV wm_X1_19 oX1_signAt) rfl rfl rfl hX1_signAt ⟨Nat.le_of_ble_eq_true rfl, Nat.le_of_ble_eq_true rfl⟩) ⟨zPc_blind, z_recv hK hR (by decide) rfl rfl, z_pre hK hR⟩ rfl rfl hl.1 rfl (lv_room (Nat.le_of_ble_eq_true rfl)) dX1_digitAt_2 ⟨Nat.zero_le _, Nat.zero_le _⟩) (fun r22 M21 H locs hR hS hF => ?_)
  refine lv_bipush (v := 48) S.1 S.2.1 dX1_digitAt_5 (by decide) ?_
  refine lv_isub S.1 S.2.1 dX1_digitAt_7 ?_
  exact z_iret S hr hlk hR hS hF dX1_digitAt_8
theorem hX1_stepAt : yX1_stepAt.cls = RX1 ∧ yX1_stepAt.cls ≠ "java/lang/invoke/MethodHandle" ∧ yX1_stepAt.cls ≠ "java/lang/invoke/VarHandle" ∧ (parseMethodDescriptor yX1_stepAt.desc).map (fun d => d.parameters.length) = some 1 := by decide +kernel
theorem oX1_stepAt : Cond.instanceMethod yX1_stepAt ∈ zT ∧ Cond.selects RX1 yX1_stepAt yX1_stepAt ∈ zT ∧ Cond.initialized RX1 ∈ zT ∧ Cond.code yX1_stepAt cX1_stepAt 3 (some .int) ∈ zT := ⟨wv_X1_stepAt, we_X1_stepAt, wi_X1, wk_X1_stepAt⟩
set_option maxRecDepth 100000 in
set_option maxHeartbeats 4000000 in
theorem kX1_stepAt (l : Launch) {g : zGeo} {z : Nat} (hg : zAd g z) {M M' : zM} {v1 : Int32} {r : Int32} (hF : fX1_stepAt M v1 = some (r, M')) : Met l yX1_stepAt [.code yX1_stepAt cX1_stepAt 3 (some .int)] { frames := 2, cells := 0, slots := 0, locals := 42 } (zPc g M [.ref (g.1 24 0), .int v1]) (zQi g z r M') 0 0 (zS z) := by
  refine z_enter (cc := cX1_stepAt) (maxL := 3) (ret := (some .int)) (by decide) rfl (Nat.le_of_ble_eq_true rfl) ?_
  intro p e s m below meth c S hr hlk hK hR hS ls hl
  have S : CallFix p m c cX1_stepAt 3 s _ zT RX1 := S
  have hl : lv_has ls 3 [(0, .ref (g.1 24 0)), (1, .int v1)] := hl
  unfold fX1_stepAt at hF
  refine lv_aload_n S.1 S.2.1 dX1_stepAt_0 rfl (lv_at hl 0 rfl) ?_
  refine lv_iload_n S.1 S.2.1 dX1_stepAt_1 rfl (lv_at hl 1 rfl) ?_
  refine z_goi hS hF (fun _ _ ho => va_runV (C := RX1) (n := 1) (As := [.int v1]) (rest := []) S (kX1_signAt l hg ho) (cwV 1 S.2.2.2.2 (zgV wm_X1_19 oX1_signAt) rfl rfl rfl hX1_signAt ⟨Nat.le_of_ble_eq_true rfl, Nat.le_of_ble_eq_true rfl⟩) ⟨zPc_blind, z_recv hK hR (by decide) rfl rfl, z_pre hK hR⟩ rfl rfl hl.1 rfl (lv_room (Nat.le_of_ble_eq_true rfl)) dX1_stepAt_2 ⟨Nat.zero_le _, Nat.zero_le _⟩) (fun r22 M21 H locs hR hS hF => ?_)
  refine lv_istore_n (lv' := [(2, .int r22), (0, .ref (g.1 24 0)), (1, .int v1)]) S.1 S.2.1 dX1_stepAt_5 rfl hl (by decide) rfl (fun ls hl => ?_)
  refine lv_iload_n S.1 S.2.1 dX1_stepAt_6 rfl (lv_at hl 0 rfl) ?_
  refine lv_bipush (v := 48) S.1 S.2.1 dX1_stepAt_7 (by decide) ?_
  refine lv_icmp_ne (tgt := 14) S.1 S.2.1 dX1_stepAt_9 (by decide) (fun hc => ?_) (fun hc => ?_)
  · replace hF := z_cf hF hc
    refine lv_iload_n S.1 S.2.1 dX1_stepAt_14 rfl (lv_at hl 0 rfl) ?_
    refine lv_bipush (v := 45) S.1 S.2.1 dX1_stepAt_15 (by decide) ?_
    refine lv_icmp_ne (tgt := 31) S.1 S.2.1 dX1_stepAt_17 (by decide) (fun hc => ?_) (fun hc => ?_)
    · replace hF := z_cf hF hc
      refine lv_aload_n S.1 S.2.1 dX1_stepAt_31 rfl (lv_at hl 1 rfl) ?_
      refine lv_iload_n S.1 S.2.1 dX1_stepAt_32 rfl (lv_at hl 2 rfl) ?_
      refine lv_iconst (v := 1) S.1 S.2.1 dX1_stepAt_33 (by decide) ?_
      refine lv_iadd S.1 S.2.1 dX1_stepAt_34 ?_
      refine z_goi hS hF (fun _ _ ho => va_runV (C := RX1) (n := 1) (As := [.int (v1 + 1)]) (rest := []) S (kX1_digitAt l hg ho) (cwV 1 S.2.2.2.2 (zgV wm_X1_35 oX1_digitAt) rfl rfl rfl hX1_digitAt ⟨Nat.le_of_ble_eq_true rfl, Nat.le_of_ble_eq_true rfl⟩) ⟨zPc_blind, z_recv hK hR (by decide) rfl rfl, z_pre hK hR⟩ rfl rfl hl.1 rfl (lv_room (Nat.le_of_ble_eq_true rfl)) dX1_stepAt_35 ⟨Nat.zero_le _, Nat.zero_le _⟩) (fun r24 M23 H locs hR hS hF => ?_)
      exact z_iret S hr hlk hR hS hF dX1_stepAt_38
    · replace hF := z_ct hF hc
      refine lv_aload_n S.1 S.2.1 dX1_stepAt_20 rfl (lv_at hl 1 rfl) ?_
      refine lv_iload_n S.1 S.2.1 dX1_stepAt_21 rfl (lv_at hl 2 rfl) ?_
      refine lv_iconst (v := 1) S.1 S.2.1 dX1_stepAt_22 (by decide) ?_
      refine lv_iadd S.1 S.2.1 dX1_stepAt_23 ?_
      refine z_goi hS hF (fun _ _ ho => va_runV (C := RX1) (n := 1) (As := [.int (v1 + 1)]) (rest := []) S (kX1_digitAt l hg ho) (cwV 1 S.2.2.2.2 (zgV wm_X1_35 oX1_digitAt) rfl rfl rfl hX1_digitAt ⟨Nat.le_of_ble_eq_true rfl, Nat.le_of_ble_eq_true rfl⟩) ⟨zPc_blind, z_recv hK hR (by decide) rfl rfl, z_pre hK hR⟩ rfl rfl hl.1 rfl (lv_room (Nat.le_of_ble_eq_true rfl)) dX1_stepAt_24 ⟨Nat.zero_le _, Nat.zero_le _⟩) (fun r26 M25 H locs hR hS hF => ?_)
      refine lv_ineg S.1 S.2.1 dX1_stepAt_27 ?_
      refine lv_goto (tgt := 38) S.1 S.2.1 dX1_stepAt_28 (by decide) ?_
      exact z_iret S hr hlk hR hS hF dX1_stepAt_38
  · replace hF := z_ct hF hc
    refine lv_iconst (v := 0) S.1 S.2.1 dX1_stepAt_12 (by decide) ?_
    exact z_iret S hr hlk hR hS hF dX1_stepAt_13
theorem hX1_afterKite : yX1_afterKite.cls = RX1 ∧ yX1_afterKite.cls ≠ "java/lang/invoke/MethodHandle" ∧ yX1_afterKite.cls ≠ "java/lang/invoke/VarHandle" ∧ (parseMethodDescriptor yX1_afterKite.desc).map (fun d => d.parameters.length) = some 1 := by decide +kernel
theorem oX1_afterKite : Cond.instanceMethod yX1_afterKite ∈ zT ∧ Cond.selects RX1 yX1_afterKite yX1_afterKite ∈ zT ∧ Cond.initialized RX1 ∈ zT ∧ Cond.code yX1_afterKite cX1_afterKite 2 (some .int) ∈ zT := ⟨wv_X1_afterKite, we_X1_afterKite, wi_X1, wk_X1_afterKite⟩
set_option maxRecDepth 100000 in
set_option maxHeartbeats 4000000 in
theorem kX1_afterKite (l : Launch) {g : zGeo} {z : Nat} (hg : zAd g z) {M M' : zM} {v1 : Int32} {r : Int32} (hF : fX1_afterKite M v1 = some (r, M')) : Met l yX1_afterKite [.code yX1_afterKite cX1_afterKite 2 (some .int)] { frames := 0, cells := 0, slots := 0, locals := 0 } (zPc g M [.ref (g.1 24 0), .int v1]) (zQi g z r M') 0 0 (zS z) := by
  refine z_enter (cc := cX1_afterKite) (maxL := 2) (ret := (some .int)) (by decide) rfl (Nat.le_of_ble_eq_true rfl) ?_
  intro p e s m below meth c S hr hlk hK hR hS ls hl
  have S : CallFix p m c cX1_afterKite 2 s _ zT RX1 := S
  have hl : lv_has ls 2 [(0, .ref (g.1 24 0)), (1, .int v1)] := hl
  unfold fX1_afterKite at hF
  refine lv_iload_n S.1 S.2.1 dX1_afterKite_0 rfl (lv_at hl 1 rfl) ?_
  refine lv_iconst (v := 2) S.1 S.2.1 dX1_afterKite_1 (by decide) ?_
  refine lv_iadd S.1 S.2.1 dX1_afterKite_2 ?_
  exact z_iret S hr hlk hR hS hF dX1_afterKite_3
theorem hX1_afterStep : yX1_afterStep.cls = RX1 ∧ yX1_afterStep.cls ≠ "java/lang/invoke/MethodHandle" ∧ yX1_afterStep.cls ≠ "java/lang/invoke/VarHandle" ∧ (parseMethodDescriptor yX1_afterStep.desc).map (fun d => d.parameters.length) = some 1 := by decide +kernel
theorem oX1_afterStep : Cond.instanceMethod yX1_afterStep ∈ zT ∧ Cond.selects RX1 yX1_afterStep yX1_afterStep ∈ zT ∧ Cond.initialized RX1 ∈ zT ∧ Cond.code yX1_afterStep cX1_afterStep 2 (some .int) ∈ zT := ⟨wv_X1_afterStep, we_X1_afterStep, wi_X1, wk_X1_afterStep⟩
set_option maxRecDepth 100000 in
set_option maxHeartbeats 4000000 in
theorem kX1_afterStep (l : Launch) {g : zGeo} {z : Nat} (hg : zAd g z) {M M' : zM} {v1 : Int32} {r : Int32} (hF : fX1_afterStep M v1 = some (r, M')) : Met l yX1_afterStep [.code yX1_afterStep cX1_afterStep 2 (some .int)] { frames := 1, cells := 0, slots := 0, locals := 21 } (zPc g M [.ref (g.1 24 0), .int v1]) (zQi g z r M') 0 0 (zS z) := by
  refine z_enter (cc := cX1_afterStep) (maxL := 2) (ret := (some .int)) (by decide) rfl (Nat.le_of_ble_eq_true rfl) ?_
  intro p e s m below meth c S hr hlk hK hR hS ls hl
  have S : CallFix p m c cX1_afterStep 2 s _ zT RX1 := S
  have hl : lv_has ls 2 [(0, .ref (g.1 24 0)), (1, .int v1)] := hl
  unfold fX1_afterStep at hF
  refine lv_aload_n S.1 S.2.1 dX1_afterStep_0 rfl (lv_at hl 0 rfl) ?_
  refine lv_iload_n S.1 S.2.1 dX1_afterStep_1 rfl (lv_at hl 1 rfl) ?_
  refine z_goi hS hF (fun _ _ ho => va_runV (C := RX1) (n := 1) (As := [.int v1]) (rest := []) S (kX1_signAt l hg ho) (cwV 1 S.2.2.2.2 (zgV wm_X1_19 oX1_signAt) rfl rfl rfl hX1_signAt ⟨Nat.le_of_ble_eq_true rfl, Nat.le_of_ble_eq_true rfl⟩) ⟨zPc_blind, z_recv hK hR (by decide) rfl rfl, z_pre hK hR⟩ rfl rfl hl.1 rfl (lv_room (Nat.le_of_ble_eq_true rfl)) dX1_afterStep_2 ⟨Nat.zero_le _, Nat.zero_le _⟩) (fun r22 M21 H locs hR hS hF => ?_)
  refine lv_bipush (v := 48) S.1 S.2.1 dX1_afterStep_5 (by decide) ?_
  refine lv_icmp_ne (tgt := 16) S.1 S.2.1 dX1_afterStep_7 (by decide) (fun hc => ?_) (fun hc => ?_)
  · replace hF := z_cf hF hc
    refine lv_iload_n S.1 S.2.1 dX1_afterStep_16 rfl (lv_at hl 1 rfl) ?_
    refine lv_iconst (v := 2) S.1 S.2.1 dX1_afterStep_17 (by decide) ?_
    refine lv_iadd S.1 S.2.1 dX1_afterStep_18 ?_
    exact z_iret S hr hlk hR hS hF dX1_afterStep_19
  · replace hF := z_ct hF hc
    refine lv_iload_n S.1 S.2.1 dX1_afterStep_10 rfl (lv_at hl 1 rfl) ?_
    refine lv_iconst (v := 1) S.1 S.2.1 dX1_afterStep_11 (by decide) ?_
    refine lv_iadd S.1 S.2.1 dX1_afterStep_12 ?_
    refine lv_goto (tgt := 19) S.1 S.2.1 dX1_afterStep_13 (by decide) ?_
    exact z_iret S hr hlk hR hS hF dX1_afterStep_19
theorem hX1_afterSemicolon : yX1_afterSemicolon.cls = RX1 ∧ yX1_afterSemicolon.cls ≠ "java/lang/invoke/MethodHandle" ∧ yX1_afterSemicolon.cls ≠ "java/lang/invoke/VarHandle" ∧ (parseMethodDescriptor yX1_afterSemicolon.desc).map (fun d => d.parameters.length) = some 1 := by decide +kernel
theorem oX1_afterSemicolon : Cond.instanceMethod yX1_afterSemicolon ∈ zT ∧ Cond.selects RX1 yX1_afterSemicolon yX1_afterSemicolon ∈ zT ∧ Cond.initialized RX1 ∈ zT ∧ Cond.code yX1_afterSemicolon cX1_afterSemicolon 2 (some .int) ∈ zT := ⟨wv_X1_afterSemicolon, we_X1_afterSemicolon, wi_X1, wk_X1_afterSemicolon⟩
set_option maxRecDepth 100000 in
set_option maxHeartbeats 4000000 in
theorem kX1_afterSemicolon (l : Launch) {g : zGeo} {z : Nat} (hg : zAd g z) {M M' : zM} {v1 : Int32} {r : Int32} (hF : fX1_afterSemicolon M v1 = some (r, M')) : Met l yX1_afterSemicolon [.code yX1_afterSemicolon cX1_afterSemicolon 2 (some .int)] { frames := 0, cells := 0, slots := 0, locals := 0 } (zPc g M [.ref (g.1 24 0), .int v1]) (zQi g z r M') 0 0 (zS z) := by
  refine z_enter (cc := cX1_afterSemicolon) (maxL := 2) (ret := (some .int)) (by decide) rfl (Nat.le_of_ble_eq_true rfl) ?_
  intro p e s m below meth c S hr hlk hK hR hS ls hl
  have S : CallFix p m c cX1_afterSemicolon 2 s _ zT RX1 := S
  have hl : lv_has ls 2 [(0, .ref (g.1 24 0)), (1, .int v1)] := hl
  unfold fX1_afterSemicolon at hF
  refine lv_iload_n S.1 S.2.1 dX1_afterSemicolon_0 rfl (lv_at hl 1 rfl) ?_
  refine lv_iconst (v := 1) S.1 S.2.1 dX1_afterSemicolon_1 (by decide) ?_
  refine lv_iadd S.1 S.2.1 dX1_afterSemicolon_2 ?_
  exact z_iret S hr hlk hR hS hF dX1_afterSemicolon_3
end
