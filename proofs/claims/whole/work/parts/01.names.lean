-- ===== PART A: goes FIRST, ahead of the names: the tables' words, and 'selects' of the private methods out of them =====
/-- a private method of a class that the tables say can be made, by its rows of tables_1 -/
def lw_okq (q : MethodName × Nat) : Prop := (q.1.cls ≠ "java/lang/invoke/MethodHandle" ∧ q.1.cls ≠ "java/lang/invoke/VarHandle") ∧ Cond.instantiable q.1.cls q.2 ∈ tables_1 ∧ Cond.privateMethod q.1 ∈ tables_1 ∧ Cond.instanceMethod q.1 ∈ tables_1
theorem lw_p0 : lw_okq (⟨"ShelfDrives", "beginAnew", "()V"⟩, 13) := ⟨⟨by decide +kernel, by decide +kernel⟩, List.mem_of_getElem? (i := 21) (by decide +kernel), List.mem_of_getElem? (i := 434) (by decide +kernel), List.mem_of_getElem? (i := 435) (by decide +kernel)⟩
theorem lw_p1 : lw_okq (⟨"ShelfDrives$Ways", "leastRest", "(II)I"⟩, 4) := ⟨⟨by decide +kernel, by decide +kernel⟩, List.mem_of_getElem? (i := 251) (by decide +kernel), List.mem_of_getElem? (i := 445) (by decide +kernel), List.mem_of_getElem? (i := 446) (by decide +kernel)⟩
theorem lw_p2 : lw_okq (⟨"ShelfDrives$Ways", "milesBy", "(III)I"⟩, 4) := ⟨⟨by decide +kernel, by decide +kernel⟩, List.mem_of_getElem? (i := 251) (by decide +kernel), List.mem_of_getElem? (i := 454) (by decide +kernel), List.mem_of_getElem? (i := 455) (by decide +kernel)⟩
theorem lw_p3 : lw_okq (⟨"ShelfDrives$Run", "runFrom", "(III)V"⟩, 11) := ⟨⟨by decide +kernel, by decide +kernel⟩, List.mem_of_getElem? (i := 322) (by decide +kernel), List.mem_of_getElem? (i := 478) (by decide +kernel), List.mem_of_getElem? (i := 479) (by decide +kernel)⟩
theorem lw_p4 : lw_okq (⟨"ShelfDrives", "putNumber", "(I)V"⟩, 13) := ⟨⟨by decide +kernel, by decide +kernel⟩, List.mem_of_getElem? (i := 21) (by decide +kernel), List.mem_of_getElem? (i := 542) (by decide +kernel), List.mem_of_getElem? (i := 543) (by decide +kernel)⟩
theorem lw_p5 : lw_okq (⟨"ShelfDrives$Reader", "scanAll", "([II)V"⟩, 15) := ⟨⟨by decide +kernel, by decide +kernel⟩, List.mem_of_getElem? (i := 141) (by decide +kernel), List.mem_of_getElem? (i := 558) (by decide +kernel), List.mem_of_getElem? (i := 559) (by decide +kernel)⟩
theorem lw_p6 : lw_okq (⟨"ShelfDrives$Reader", "scanWord", "([III)I"⟩, 15) := ⟨⟨by decide +kernel, by decide +kernel⟩, List.mem_of_getElem? (i := 141) (by decide +kernel), List.mem_of_getElem? (i := 565) (by decide +kernel), List.mem_of_getElem? (i := 566) (by decide +kernel)⟩
theorem lw_p7 : lw_okq (⟨"ShelfDrives$Reader", "kindOfWord", "(I)I"⟩, 15) := ⟨⟨by decide +kernel, by decide +kernel⟩, List.mem_of_getElem? (i := 141) (by decide +kernel), List.mem_of_getElem? (i := 569) (by decide +kernel), List.mem_of_getElem? (i := 570) (by decide +kernel)⟩
theorem lw_p8 : lw_okq (⟨"ShelfDrives$Reader", "scanNumber", "([III)I"⟩, 15) := ⟨⟨by decide +kernel, by decide +kernel⟩, List.mem_of_getElem? (i := 141) (by decide +kernel), List.mem_of_getElem? (i := 576) (by decide +kernel), List.mem_of_getElem? (i := 577) (by decide +kernel)⟩
theorem lw_p9 : lw_okq (⟨"ShelfDrives$Reader", "step", "()V"⟩, 15) := ⟨⟨by decide +kernel, by decide +kernel⟩, List.mem_of_getElem? (i := 141) (by decide +kernel), List.mem_of_getElem? (i := 581) (by decide +kernel), List.mem_of_getElem? (i := 582) (by decide +kernel)⟩
theorem lw_p10 : lw_okq (⟨"ShelfDrives$Reader", "readLine", "()Z"⟩, 15) := ⟨⟨by decide +kernel, by decide +kernel⟩, List.mem_of_getElem? (i := 141) (by decide +kernel), List.mem_of_getElem? (i := 586) (by decide +kernel), List.mem_of_getElem? (i := 587) (by decide +kernel)⟩
theorem lw_p11 : lw_okq (⟨"ShelfDrives$Reader", "isOnce", "()Z"⟩, 15) := ⟨⟨by decide +kernel, by decide +kernel⟩, List.mem_of_getElem? (i := 141) (by decide +kernel), List.mem_of_getElem? (i := 590) (by decide +kernel), List.mem_of_getElem? (i := 591) (by decide +kernel)⟩
theorem lw_p12 : lw_okq (⟨"ShelfDrives$Reader", "refuse", "(I)Z"⟩, 15) := ⟨⟨by decide +kernel, by decide +kernel⟩, List.mem_of_getElem? (i := 141) (by decide +kernel), List.mem_of_getElem? (i := 594) (by decide +kernel), List.mem_of_getElem? (i := 595) (by decide +kernel)⟩
theorem lw_p13 : lw_okq (⟨"ShelfDrives$Reader", "readDays", "()Z"⟩, 15) := ⟨⟨by decide +kernel, by decide +kernel⟩, List.mem_of_getElem? (i := 141) (by decide +kernel), List.mem_of_getElem? (i := 598) (by decide +kernel), List.mem_of_getElem? (i := 599) (by decide +kernel)⟩
theorem lw_p14 : lw_okq (⟨"ShelfDrives$Reader", "wantNumber", "(II)Z"⟩, 15) := ⟨⟨by decide +kernel, by decide +kernel⟩, List.mem_of_getElem? (i := 141) (by decide +kernel), List.mem_of_getElem? (i := 602) (by decide +kernel), List.mem_of_getElem? (i := 603) (by decide +kernel)⟩
theorem lw_p15 : lw_okq (⟨"ShelfDrives$Reader", "isNumber", "(II)Z"⟩, 15) := ⟨⟨by decide +kernel, by decide +kernel⟩, List.mem_of_getElem? (i := 141) (by decide +kernel), List.mem_of_getElem? (i := 606) (by decide +kernel), List.mem_of_getElem? (i := 607) (by decide +kernel)⟩
def lw_privs_1 : List (MethodName × Nat) := [(⟨"ShelfDrives", "beginAnew", "()V"⟩, 13), (⟨"ShelfDrives$Ways", "leastRest", "(II)I"⟩, 4), (⟨"ShelfDrives$Ways", "milesBy", "(III)I"⟩, 4), (⟨"ShelfDrives$Run", "runFrom", "(III)V"⟩, 11), (⟨"ShelfDrives", "putNumber", "(I)V"⟩, 13), (⟨"ShelfDrives$Reader", "scanAll", "([II)V"⟩, 15), (⟨"ShelfDrives$Reader", "scanWord", "([III)I"⟩, 15), (⟨"ShelfDrives$Reader", "kindOfWord", "(I)I"⟩, 15), (⟨"ShelfDrives$Reader", "scanNumber", "([III)I"⟩, 15), (⟨"ShelfDrives$Reader", "step", "()V"⟩, 15), (⟨"ShelfDrives$Reader", "readLine", "()Z"⟩, 15), (⟨"ShelfDrives$Reader", "isOnce", "()Z"⟩, 15), (⟨"ShelfDrives$Reader", "refuse", "(I)Z"⟩, 15), (⟨"ShelfDrives$Reader", "readDays", "()Z"⟩, 15), (⟨"ShelfDrives$Reader", "wantNumber", "(II)Z"⟩, 15), (⟨"ShelfDrives$Reader", "isNumber", "(II)Z"⟩, 15)]
theorem lw_r1 : ∀ q ∈ lw_privs_1, lw_okq q := List.forall_mem_cons.mpr ⟨lw_p0, List.forall_mem_cons.mpr ⟨lw_p1, List.forall_mem_cons.mpr ⟨lw_p2, List.forall_mem_cons.mpr ⟨lw_p3, List.forall_mem_cons.mpr ⟨lw_p4, List.forall_mem_cons.mpr ⟨lw_p5, List.forall_mem_cons.mpr ⟨lw_p6, List.forall_mem_cons.mpr ⟨lw_p7, List.forall_mem_cons.mpr ⟨lw_p8, List.forall_mem_cons.mpr ⟨lw_p9, List.forall_mem_cons.mpr ⟨lw_p10, List.forall_mem_cons.mpr ⟨lw_p11, List.forall_mem_cons.mpr ⟨lw_p12, List.forall_mem_cons.mpr ⟨lw_p13, List.forall_mem_cons.mpr ⟨lw_p14, List.forall_mem_cons.mpr ⟨lw_p15, fun _ h => absurd h List.not_mem_nil⟩⟩⟩⟩⟩⟩⟩⟩⟩⟩⟩⟩⟩⟩⟩⟩
theorem lw_p16 : lw_okq (⟨"ShelfDrives$Reader", "want", "(I)Z"⟩, 15) := ⟨⟨by decide +kernel, by decide +kernel⟩, List.mem_of_getElem? (i := 141) (by decide +kernel), List.mem_of_getElem? (i := 610) (by decide +kernel), List.mem_of_getElem? (i := 611) (by decide +kernel)⟩
theorem lw_p17 : lw_okq (⟨"ShelfDrives$Reader", "readDepot", "()Z"⟩, 15) := ⟨⟨by decide +kernel, by decide +kernel⟩, List.mem_of_getElem? (i := 141) (by decide +kernel), List.mem_of_getElem? (i := 614) (by decide +kernel), List.mem_of_getElem? (i := 615) (by decide +kernel)⟩
theorem lw_p18 : lw_okq (⟨"ShelfDrives$Reader", "readTruck", "()Z"⟩, 15) := ⟨⟨by decide +kernel, by decide +kernel⟩, List.mem_of_getElem? (i := 141) (by decide +kernel), List.mem_of_getElem? (i := 618) (by decide +kernel), List.mem_of_getElem? (i := 619) (by decide +kernel)⟩
theorem lw_p19 : lw_okq (⟨"ShelfDrives$Reader", "readHold", "()Z"⟩, 15) := ⟨⟨by decide +kernel, by decide +kernel⟩, List.mem_of_getElem? (i := 141) (by decide +kernel), List.mem_of_getElem? (i := 622) (by decide +kernel), List.mem_of_getElem? (i := 623) (by decide +kernel)⟩
theorem lw_p20 : lw_okq (⟨"ShelfDrives$Reader", "readLost", "()Z"⟩, 15) := ⟨⟨by decide +kernel, by decide +kernel⟩, List.mem_of_getElem? (i := 141) (by decide +kernel), List.mem_of_getElem? (i := 626) (by decide +kernel), List.mem_of_getElem? (i := 627) (by decide +kernel)⟩
theorem lw_p21 : lw_okq (⟨"ShelfDrives$Reader", "readShop", "()Z"⟩, 15) := ⟨⟨by decide +kernel, by decide +kernel⟩, List.mem_of_getElem? (i := 141) (by decide +kernel), List.mem_of_getElem? (i := 630) (by decide +kernel), List.mem_of_getElem? (i := 631) (by decide +kernel)⟩
theorem lw_p22 : lw_okq (⟨"ShelfDrives$Reader", "shopNamed", "(I)I"⟩, 15) := ⟨⟨by decide +kernel, by decide +kernel⟩, List.mem_of_getElem? (i := 141) (by decide +kernel), List.mem_of_getElem? (i := 634) (by decide +kernel), List.mem_of_getElem? (i := 635) (by decide +kernel)⟩
theorem lw_p23 : lw_okq (⟨"ShelfDrives$Reader", "readSold", "(I)Z"⟩, 15) := ⟨⟨by decide +kernel, by decide +kernel⟩, List.mem_of_getElem? (i := 141) (by decide +kernel), List.mem_of_getElem? (i := 638) (by decide +kernel), List.mem_of_getElem? (i := 639) (by decide +kernel)⟩
theorem lw_p24 : lw_okq (⟨"ShelfDrives$Reader", "readRush", "()Z"⟩, 15) := ⟨⟨by decide +kernel, by decide +kernel⟩, List.mem_of_getElem? (i := 141) (by decide +kernel), List.mem_of_getElem? (i := 643) (by decide +kernel), List.mem_of_getElem? (i := 644) (by decide +kernel)⟩
theorem lw_p25 : lw_okq (⟨"ShelfDrives", "hasCell", "(II)Z"⟩, 13) := ⟨⟨by decide +kernel, by decide +kernel⟩, List.mem_of_getElem? (i := 21) (by decide +kernel), List.mem_of_getElem? (i := 685) (by decide +kernel), List.mem_of_getElem? (i := 686) (by decide +kernel)⟩
theorem lw_p26 : lw_okq (⟨"ShelfDrives", "partDay", "(I)I"⟩, 13) := ⟨⟨by decide +kernel, by decide +kernel⟩, List.mem_of_getElem? (i := 21) (by decide +kernel), List.mem_of_getElem? (i := 749) (by decide +kernel), List.mem_of_getElem? (i := 750) (by decide +kernel)⟩
theorem lw_p27 : lw_okq (⟨"ShelfDrives$Parting", "gather", "([I)I"⟩, 7) := ⟨⟨by decide +kernel, by decide +kernel⟩, List.mem_of_getElem? (i := 271) (by decide +kernel), List.mem_of_getElem? (i := 761) (by decide +kernel), List.mem_of_getElem? (i := 762) (by decide +kernel)⟩
theorem lw_p28 : lw_okq (⟨"ShelfDrives$Parting", "partSet", "(II)V"⟩, 7) := ⟨⟨by decide +kernel, by decide +kernel⟩, List.mem_of_getElem? (i := 271) (by decide +kernel), List.mem_of_getElem? (i := 765) (by decide +kernel), List.mem_of_getElem? (i := 766) (by decide +kernel)⟩
theorem lw_p29 : lw_okq (⟨"ShelfDrives", "roundSet", "(II)I"⟩, 13) := ⟨⟨by decide +kernel, by decide +kernel⟩, List.mem_of_getElem? (i := 21) (by decide +kernel), List.mem_of_getElem? (i := 774) (by decide +kernel), List.mem_of_getElem? (i := 775) (by decide +kernel)⟩
theorem lw_p30 : lw_okq (⟨"ShelfDrives$Ways", "nextStop", "(II)I"⟩, 4) := ⟨⟨by decide +kernel, by decide +kernel⟩, List.mem_of_getElem? (i := 251) (by decide +kernel), List.mem_of_getElem? (i := 786) (by decide +kernel), List.mem_of_getElem? (i := 787) (by decide +kernel)⟩
theorem lw_p31 : lw_okq (⟨"ShelfDrives$Savings", "mergeBest", "()Z"⟩, 5) := ⟨⟨by decide +kernel, by decide +kernel⟩, List.mem_of_getElem? (i := 299) (by decide +kernel), List.mem_of_getElem? (i := 824) (by decide +kernel), List.mem_of_getElem? (i := 825) (by decide +kernel)⟩
def lw_privs_2 : List (MethodName × Nat) := [(⟨"ShelfDrives$Reader", "want", "(I)Z"⟩, 15), (⟨"ShelfDrives$Reader", "readDepot", "()Z"⟩, 15), (⟨"ShelfDrives$Reader", "readTruck", "()Z"⟩, 15), (⟨"ShelfDrives$Reader", "readHold", "()Z"⟩, 15), (⟨"ShelfDrives$Reader", "readLost", "()Z"⟩, 15), (⟨"ShelfDrives$Reader", "readShop", "()Z"⟩, 15), (⟨"ShelfDrives$Reader", "shopNamed", "(I)I"⟩, 15), (⟨"ShelfDrives$Reader", "readSold", "(I)Z"⟩, 15), (⟨"ShelfDrives$Reader", "readRush", "()Z"⟩, 15), (⟨"ShelfDrives", "hasCell", "(II)Z"⟩, 13), (⟨"ShelfDrives", "partDay", "(I)I"⟩, 13), (⟨"ShelfDrives$Parting", "gather", "([I)I"⟩, 7), (⟨"ShelfDrives$Parting", "partSet", "(II)V"⟩, 7), (⟨"ShelfDrives", "roundSet", "(II)I"⟩, 13), (⟨"ShelfDrives$Ways", "nextStop", "(II)I"⟩, 4), (⟨"ShelfDrives$Savings", "mergeBest", "()Z"⟩, 5)]
theorem lw_r2 : ∀ q ∈ lw_privs_2, lw_okq q := List.forall_mem_cons.mpr ⟨lw_p16, List.forall_mem_cons.mpr ⟨lw_p17, List.forall_mem_cons.mpr ⟨lw_p18, List.forall_mem_cons.mpr ⟨lw_p19, List.forall_mem_cons.mpr ⟨lw_p20, List.forall_mem_cons.mpr ⟨lw_p21, List.forall_mem_cons.mpr ⟨lw_p22, List.forall_mem_cons.mpr ⟨lw_p23, List.forall_mem_cons.mpr ⟨lw_p24, List.forall_mem_cons.mpr ⟨lw_p25, List.forall_mem_cons.mpr ⟨lw_p26, List.forall_mem_cons.mpr ⟨lw_p27, List.forall_mem_cons.mpr ⟨lw_p28, List.forall_mem_cons.mpr ⟨lw_p29, List.forall_mem_cons.mpr ⟨lw_p30, List.forall_mem_cons.mpr ⟨lw_p31, fun _ h => absurd h List.not_mem_nil⟩⟩⟩⟩⟩⟩⟩⟩⟩⟩⟩⟩⟩⟩⟩⟩
theorem lw_p32 : lw_okq (⟨"ShelfDrives$Savings", "removeRound", "(I)V"⟩, 5) := ⟨⟨by decide +kernel, by decide +kernel⟩, List.mem_of_getElem? (i := 299) (by decide +kernel), List.mem_of_getElem? (i := 829) (by decide +kernel), List.mem_of_getElem? (i := 830) (by decide +kernel)⟩
theorem lw_p33 : lw_okq (⟨"ShelfDrives", "leastTruck", "(II)I"⟩, 13) := ⟨⟨by decide +kernel, by decide +kernel⟩, List.mem_of_getElem? (i := 21) (by decide +kernel), List.mem_of_getElem? (i := 940) (by decide +kernel), List.mem_of_getElem? (i := 941) (by decide +kernel)⟩
theorem lw_p34 : lw_okq (⟨"ShelfDrives", "losesAt", "(I)Z"⟩, 13) := ⟨⟨by decide +kernel, by decide +kernel⟩, List.mem_of_getElem? (i := 21) (by decide +kernel), List.mem_of_getElem? (i := 948) (by decide +kernel), List.mem_of_getElem? (i := 949) (by decide +kernel)⟩
theorem lw_p35 : lw_okq (⟨"ShelfDrives", "greatestPercent", "()I"⟩, 13) := ⟨⟨by decide +kernel, by decide +kernel⟩, List.mem_of_getElem? (i := 21) (by decide +kernel), List.mem_of_getElem? (i := 952) (by decide +kernel), List.mem_of_getElem? (i := 953) (by decide +kernel)⟩
theorem lw_p36 : lw_okq (⟨"ShelfDrives$Common", "goOn", "(IIZ)V"⟩, 7) := ⟨⟨by decide +kernel, by decide +kernel⟩, List.mem_of_getElem? (i := 392) (by decide +kernel), List.mem_of_getElem? (i := 970) (by decide +kernel), List.mem_of_getElem? (i := 971) (by decide +kernel)⟩
theorem lw_p37 : lw_okq (⟨"ShelfDrives$Common", "visitPrice", "(I)I"⟩, 7) := ⟨⟨by decide +kernel, by decide +kernel⟩, List.mem_of_getElem? (i := 392) (by decide +kernel), List.mem_of_getElem? (i := 975) (by decide +kernel), List.mem_of_getElem? (i := 976) (by decide +kernel)⟩
theorem lw_p38 : lw_okq (⟨"ShelfDrives$Common", "offer", "(IIII)V"⟩, 7) := ⟨⟨by decide +kernel, by decide +kernel⟩, List.mem_of_getElem? (i := 392) (by decide +kernel), List.mem_of_getElem? (i := 980) (by decide +kernel), List.mem_of_getElem? (i := 981) (by decide +kernel)⟩
theorem lw_p39 : lw_okq (⟨"ShelfDrives$Common", "sellDay", "(II)I"⟩, 7) := ⟨⟨by decide +kernel, by decide +kernel⟩, List.mem_of_getElem? (i := 392) (by decide +kernel), List.mem_of_getElem? (i := 985) (by decide +kernel), List.mem_of_getElem? (i := 986) (by decide +kernel)⟩
theorem lw_p40 : lw_okq (⟨"ShelfDrives$Common", "stockOf", "(I)I"⟩, 7) := ⟨⟨by decide +kernel, by decide +kernel⟩, List.mem_of_getElem? (i := 392) (by decide +kernel), List.mem_of_getElem? (i := 991) (by decide +kernel), List.mem_of_getElem? (i := 992) (by decide +kernel)⟩
theorem lw_p41 : lw_okq (⟨"ShelfDrives$Planner", "daysBy", "(II)I"⟩, 4) := ⟨⟨by decide +kernel, by decide +kernel⟩, List.mem_of_getElem? (i := 370) (by decide +kernel), List.mem_of_getElem? (i := 1012) (by decide +kernel), List.mem_of_getElem? (i := 1013) (by decide +kernel)⟩
theorem lw_p42 : lw_okq (⟨"ShelfDrives", "keepAct", "()V"⟩, 13) := ⟨⟨by decide +kernel, by decide +kernel⟩, List.mem_of_getElem? (i := 21) (by decide +kernel), List.mem_of_getElem? (i := 1032) (by decide +kernel), List.mem_of_getElem? (i := 1033) (by decide +kernel)⟩
theorem lw_p43 : lw_okq (⟨"ShelfDrives$Planner", "isOneShort", "(LShelfDrives$Run;I)Z"⟩, 4) := ⟨⟨by decide +kernel, by decide +kernel⟩, List.mem_of_getElem? (i := 370) (by decide +kernel), List.mem_of_getElem? (i := 1054) (by decide +kernel), List.mem_of_getElem? (i := 1055) (by decide +kernel)⟩
theorem lw_p44 : lw_okq (⟨"ShelfDrives$Planner", "visitShort", "(LShelfDrives$Run;II)V"⟩, 4) := ⟨⟨by decide +kernel, by decide +kernel⟩, List.mem_of_getElem? (i := 370) (by decide +kernel), List.mem_of_getElem? (i := 1060) (by decide +kernel), List.mem_of_getElem? (i := 1061) (by decide +kernel)⟩
theorem lw_p45 : lw_okq (⟨"ShelfDrives$Planner", "turnIfLess", "(LShelfDrives$Run;III)Z"⟩, 4) := ⟨⟨by decide +kernel, by decide +kernel⟩, List.mem_of_getElem? (i := 370) (by decide +kernel), List.mem_of_getElem? (i := 1080) (by decide +kernel), List.mem_of_getElem? (i := 1081) (by decide +kernel)⟩
theorem lw_p46 : lw_okq (⟨"ShelfDrives", "adoptTrial", "(I)V"⟩, 13) := ⟨⟨by decide +kernel, by decide +kernel⟩, List.mem_of_getElem? (i := 21) (by decide +kernel), List.mem_of_getElem? (i := 1084) (by decide +kernel), List.mem_of_getElem? (i := 1085) (by decide +kernel)⟩
theorem lw_p47 : lw_okq (⟨"ShelfDrives$Planner", "setPlan", "(LShelfDrives$Run;I)V"⟩, 4) := ⟨⟨by decide +kernel, by decide +kernel⟩, List.mem_of_getElem? (i := 370) (by decide +kernel), List.mem_of_getElem? (i := 1104) (by decide +kernel), List.mem_of_getElem? (i := 1105) (by decide +kernel)⟩
def lw_privs_3 : List (MethodName × Nat) := [(⟨"ShelfDrives$Savings", "removeRound", "(I)V"⟩, 5), (⟨"ShelfDrives", "leastTruck", "(II)I"⟩, 13), (⟨"ShelfDrives", "losesAt", "(I)Z"⟩, 13), (⟨"ShelfDrives", "greatestPercent", "()I"⟩, 13), (⟨"ShelfDrives$Common", "goOn", "(IIZ)V"⟩, 7), (⟨"ShelfDrives$Common", "visitPrice", "(I)I"⟩, 7), (⟨"ShelfDrives$Common", "offer", "(IIII)V"⟩, 7), (⟨"ShelfDrives$Common", "sellDay", "(II)I"⟩, 7), (⟨"ShelfDrives$Common", "stockOf", "(I)I"⟩, 7), (⟨"ShelfDrives$Planner", "daysBy", "(II)I"⟩, 4), (⟨"ShelfDrives", "keepAct", "()V"⟩, 13), (⟨"ShelfDrives$Planner", "isOneShort", "(LShelfDrives$Run;I)Z"⟩, 4), (⟨"ShelfDrives$Planner", "visitShort", "(LShelfDrives$Run;II)V"⟩, 4), (⟨"ShelfDrives$Planner", "turnIfLess", "(LShelfDrives$Run;III)Z"⟩, 4), (⟨"ShelfDrives", "adoptTrial", "(I)V"⟩, 13), (⟨"ShelfDrives$Planner", "setPlan", "(LShelfDrives$Run;I)V"⟩, 4)]
theorem lw_r3 : ∀ q ∈ lw_privs_3, lw_okq q := List.forall_mem_cons.mpr ⟨lw_p32, List.forall_mem_cons.mpr ⟨lw_p33, List.forall_mem_cons.mpr ⟨lw_p34, List.forall_mem_cons.mpr ⟨lw_p35, List.forall_mem_cons.mpr ⟨lw_p36, List.forall_mem_cons.mpr ⟨lw_p37, List.forall_mem_cons.mpr ⟨lw_p38, List.forall_mem_cons.mpr ⟨lw_p39, List.forall_mem_cons.mpr ⟨lw_p40, List.forall_mem_cons.mpr ⟨lw_p41, List.forall_mem_cons.mpr ⟨lw_p42, List.forall_mem_cons.mpr ⟨lw_p43, List.forall_mem_cons.mpr ⟨lw_p44, List.forall_mem_cons.mpr ⟨lw_p45, List.forall_mem_cons.mpr ⟨lw_p46, List.forall_mem_cons.mpr ⟨lw_p47, fun _ h => absurd h List.not_mem_nil⟩⟩⟩⟩⟩⟩⟩⟩⟩⟩⟩⟩⟩⟩⟩⟩
theorem lw_p48 : lw_okq (⟨"ShelfDrivesModel", "four", "(I)V"⟩, 40) := ⟨⟨by decide +kernel, by decide +kernel⟩, List.mem_of_getElem? (i := 1145) (by decide +kernel), List.mem_of_getElem? (i := 1276) (by decide +kernel), List.mem_of_getElem? (i := 1277) (by decide +kernel)⟩
theorem lw_p49 : lw_okq (⟨"ShelfDrivesModel", "goOn", "()V"⟩, 40) := ⟨⟨by decide +kernel, by decide +kernel⟩, List.mem_of_getElem? (i := 1145) (by decide +kernel), List.mem_of_getElem? (i := 1291) (by decide +kernel), List.mem_of_getElem? (i := 1292) (by decide +kernel)⟩
theorem lw_p50 : lw_okq (⟨"ShelfDrivesModel", "isGood", "()Z"⟩, 40) := ⟨⟨by decide +kernel, by decide +kernel⟩, List.mem_of_getElem? (i := 1145) (by decide +kernel), List.mem_of_getElem? (i := 1295) (by decide +kernel), List.mem_of_getElem? (i := 1296) (by decide +kernel)⟩
theorem lw_p51 : lw_okq (⟨"ShelfDrivesModel", "byteAt", "(I)I"⟩, 40) := ⟨⟨by decide +kernel, by decide +kernel⟩, List.mem_of_getElem? (i := 1145) (by decide +kernel), List.mem_of_getElem? (i := 1299) (by decide +kernel), List.mem_of_getElem? (i := 1300) (by decide +kernel)⟩
theorem lw_p52 : lw_okq (⟨"ShelfDrivesModel", "readLine", "()V"⟩, 40) := ⟨⟨by decide +kernel, by decide +kernel⟩, List.mem_of_getElem? (i := 1145) (by decide +kernel), List.mem_of_getElem? (i := 1309) (by decide +kernel), List.mem_of_getElem? (i := 1310) (by decide +kernel)⟩
theorem lw_p53 : lw_okq (⟨"ShelfDrivesModel", "isWord", "(I)Z"⟩, 40) := ⟨⟨by decide +kernel, by decide +kernel⟩, List.mem_of_getElem? (i := 1145) (by decide +kernel), List.mem_of_getElem? (i := 1314) (by decide +kernel), List.mem_of_getElem? (i := 1315) (by decide +kernel)⟩
theorem lw_p54 : lw_okq (⟨"ShelfDrivesModel", "begins", "(I)Z"⟩, 40) := ⟨⟨by decide +kernel, by decide +kernel⟩, List.mem_of_getElem? (i := 1145) (by decide +kernel), List.mem_of_getElem? (i := 1318) (by decide +kernel), List.mem_of_getElem? (i := 1319) (by decide +kernel)⟩
theorem lw_p55 : lw_okq (⟨"ShelfDrivesModel", "fails", "(I)V"⟩, 40) := ⟨⟨by decide +kernel, by decide +kernel⟩, List.mem_of_getElem? (i := 1145) (by decide +kernel), List.mem_of_getElem? (i := 1325) (by decide +kernel), List.mem_of_getElem? (i := 1326) (by decide +kernel)⟩
theorem lw_p56 : lw_okq (⟨"ShelfDrivesModel", "reads", "(III)V"⟩, 40) := ⟨⟨by decide +kernel, by decide +kernel⟩, List.mem_of_getElem? (i := 1145) (by decide +kernel), List.mem_of_getElem? (i := 1329) (by decide +kernel), List.mem_of_getElem? (i := 1330) (by decide +kernel)⟩
theorem lw_p57 : lw_okq (⟨"ShelfDrivesModel", "readNumber", "(II)I"⟩, 40) := ⟨⟨by decide +kernel, by decide +kernel⟩, List.mem_of_getElem? (i := 1145) (by decide +kernel), List.mem_of_getElem? (i := 1333) (by decide +kernel), List.mem_of_getElem? (i := 1334) (by decide +kernel)⟩
theorem lw_p58 : lw_okq (⟨"ShelfDrivesModel", "readTruck", "()V"⟩, 40) := ⟨⟨by decide +kernel, by decide +kernel⟩, List.mem_of_getElem? (i := 1145) (by decide +kernel), List.mem_of_getElem? (i := 1339) (by decide +kernel), List.mem_of_getElem? (i := 1340) (by decide +kernel)⟩
theorem lw_p59 : lw_okq (⟨"ShelfDrivesModel", "readShop", "()V"⟩, 40) := ⟨⟨by decide +kernel, by decide +kernel⟩, List.mem_of_getElem? (i := 1145) (by decide +kernel), List.mem_of_getElem? (i := 1348) (by decide +kernel), List.mem_of_getElem? (i := 1349) (by decide +kernel)⟩
theorem lw_p60 : lw_okq (⟨"ShelfDrivesModel", "isName", "()Z"⟩, 40) := ⟨⟨by decide +kernel, by decide +kernel⟩, List.mem_of_getElem? (i := 1145) (by decide +kernel), List.mem_of_getElem? (i := 1352) (by decide +kernel), List.mem_of_getElem? (i := 1353) (by decide +kernel)⟩
theorem lw_p61 : lw_okq (⟨"ShelfDrivesModel", "called", "()I"⟩, 40) := ⟨⟨by decide +kernel, by decide +kernel⟩, List.mem_of_getElem? (i := 1145) (by decide +kernel), List.mem_of_getElem? (i := 1360) (by decide +kernel), List.mem_of_getElem? (i := 1361) (by decide +kernel)⟩
theorem lw_p62 : lw_okq (⟨"ShelfDrivesModel", "keyword", "(I)V"⟩, 40) := ⟨⟨by decide +kernel, by decide +kernel⟩, List.mem_of_getElem? (i := 1145) (by decide +kernel), List.mem_of_getElem? (i := 1364) (by decide +kernel), List.mem_of_getElem? (i := 1365) (by decide +kernel)⟩
theorem lw_p63 : lw_okq (⟨"ShelfDrivesModel", "readRush", "()V"⟩, 40) := ⟨⟨by decide +kernel, by decide +kernel⟩, List.mem_of_getElem? (i := 1145) (by decide +kernel), List.mem_of_getElem? (i := 1368) (by decide +kernel), List.mem_of_getElem? (i := 1369) (by decide +kernel)⟩
def lw_privs_4 : List (MethodName × Nat) := [(⟨"ShelfDrivesModel", "four", "(I)V"⟩, 40), (⟨"ShelfDrivesModel", "goOn", "()V"⟩, 40), (⟨"ShelfDrivesModel", "isGood", "()Z"⟩, 40), (⟨"ShelfDrivesModel", "byteAt", "(I)I"⟩, 40), (⟨"ShelfDrivesModel", "readLine", "()V"⟩, 40), (⟨"ShelfDrivesModel", "isWord", "(I)Z"⟩, 40), (⟨"ShelfDrivesModel", "begins", "(I)Z"⟩, 40), (⟨"ShelfDrivesModel", "fails", "(I)V"⟩, 40), (⟨"ShelfDrivesModel", "reads", "(III)V"⟩, 40), (⟨"ShelfDrivesModel", "readNumber", "(II)I"⟩, 40), (⟨"ShelfDrivesModel", "readTruck", "()V"⟩, 40), (⟨"ShelfDrivesModel", "readShop", "()V"⟩, 40), (⟨"ShelfDrivesModel", "isName", "()Z"⟩, 40), (⟨"ShelfDrivesModel", "called", "()I"⟩, 40), (⟨"ShelfDrivesModel", "keyword", "(I)V"⟩, 40), (⟨"ShelfDrivesModel", "readRush", "()V"⟩, 40)]
theorem lw_r4 : ∀ q ∈ lw_privs_4, lw_okq q := List.forall_mem_cons.mpr ⟨lw_p48, List.forall_mem_cons.mpr ⟨lw_p49, List.forall_mem_cons.mpr ⟨lw_p50, List.forall_mem_cons.mpr ⟨lw_p51, List.forall_mem_cons.mpr ⟨lw_p52, List.forall_mem_cons.mpr ⟨lw_p53, List.forall_mem_cons.mpr ⟨lw_p54, List.forall_mem_cons.mpr ⟨lw_p55, List.forall_mem_cons.mpr ⟨lw_p56, List.forall_mem_cons.mpr ⟨lw_p57, List.forall_mem_cons.mpr ⟨lw_p58, List.forall_mem_cons.mpr ⟨lw_p59, List.forall_mem_cons.mpr ⟨lw_p60, List.forall_mem_cons.mpr ⟨lw_p61, List.forall_mem_cons.mpr ⟨lw_p62, List.forall_mem_cons.mpr ⟨lw_p63, fun _ h => absurd h List.not_mem_nil⟩⟩⟩⟩⟩⟩⟩⟩⟩⟩⟩⟩⟩⟩⟩⟩
theorem lw_p64 : lw_okq (⟨"ShelfDrivesModel", "stands", "()V"⟩, 40) := ⟨⟨by decide +kernel, by decide +kernel⟩, List.mem_of_getElem? (i := 1145) (by decide +kernel), List.mem_of_getElem? (i := 1372) (by decide +kernel), List.mem_of_getElem? (i := 1373) (by decide +kernel)⟩
theorem lw_p65 : lw_okq (⟨"ShelfDrivesModel", "layWays", "()V"⟩, 40) := ⟨⟨by decide +kernel, by decide +kernel⟩, List.mem_of_getElem? (i := 1145) (by decide +kernel), List.mem_of_getElem? (i := 1376) (by decide +kernel), List.mem_of_getElem? (i := 1377) (by decide +kernel)⟩
theorem lw_p66 : lw_okq (⟨"ShelfDrivesModel", "shops", "()I"⟩, 40) := ⟨⟨by decide +kernel, by decide +kernel⟩, List.mem_of_getElem? (i := 1145) (by decide +kernel), List.mem_of_getElem? (i := 1380) (by decide +kernel), List.mem_of_getElem? (i := 1381) (by decide +kernel)⟩
theorem lw_p67 : lw_okq (⟨"ShelfDrivesModel", "far", "(II)I"⟩, 40) := ⟨⟨by decide +kernel, by decide +kernel⟩, List.mem_of_getElem? (i := 1145) (by decide +kernel), List.mem_of_getElem? (i := 1384) (by decide +kernel), List.mem_of_getElem? (i := 1385) (by decide +kernel)⟩
theorem lw_p68 : lw_okq (⟨"ShelfDrivesModel", "number", "(I)I"⟩, 40) := ⟨⟨by decide +kernel, by decide +kernel⟩, List.mem_of_getElem? (i := 1145) (by decide +kernel), List.mem_of_getElem? (i := 1388) (by decide +kernel), List.mem_of_getElem? (i := 1389) (by decide +kernel)⟩
theorem lw_p69 : lw_okq (⟨"ShelfDrivesModel", "days", "()I"⟩, 40) := ⟨⟨by decide +kernel, by decide +kernel⟩, List.mem_of_getElem? (i := 1145) (by decide +kernel), List.mem_of_getElem? (i := 1400) (by decide +kernel), List.mem_of_getElem? (i := 1401) (by decide +kernel)⟩
theorem lw_p70 : lw_okq (⟨"ShelfDrivesModel", "milesOf", "(I)I"⟩, 40) := ⟨⟨by decide +kernel, by decide +kernel⟩, List.mem_of_getElem? (i := 1145) (by decide +kernel), List.mem_of_getElem? (i := 1408) (by decide +kernel), List.mem_of_getElem? (i := 1409) (by decide +kernel)⟩
theorem lw_p71 : lw_okq (⟨"ShelfDrivesModel", "isShop", "(I)Z"⟩, 40) := ⟨⟨by decide +kernel, by decide +kernel⟩, List.mem_of_getElem? (i := 1145) (by decide +kernel), List.mem_of_getElem? (i := 1416) (by decide +kernel), List.mem_of_getElem? (i := 1417) (by decide +kernel)⟩
theorem lw_p72 : lw_okq (⟨"ShelfDrivesModel", "costOfSet", "(I)I"⟩, 40) := ⟨⟨by decide +kernel, by decide +kernel⟩, List.mem_of_getElem? (i := 1145) (by decide +kernel), List.mem_of_getElem? (i := 1421) (by decide +kernel), List.mem_of_getElem? (i := 1422) (by decide +kernel)⟩
theorem lw_p73 : lw_okq (⟨"ShelfDrivesModel", "askedOf", "(II)I"⟩, 40) := ⟨⟨by decide +kernel, by decide +kernel⟩, List.mem_of_getElem? (i := 1145) (by decide +kernel), List.mem_of_getElem? (i := 1429) (by decide +kernel), List.mem_of_getElem? (i := 1430) (by decide +kernel)⟩
theorem lw_p74 : lw_okq (⟨"ShelfDrivesModel", "isAt", "(II)Z"⟩, 40) := ⟨⟨by decide +kernel, by decide +kernel⟩, List.mem_of_getElem? (i := 1145) (by decide +kernel), List.mem_of_getElem? (i := 1437) (by decide +kernel), List.mem_of_getElem? (i := 1438) (by decide +kernel)⟩
theorem lw_p75 : lw_okq (⟨"ShelfDrivesModel", "isDay", "(I)Z"⟩, 40) := ⟨⟨by decide +kernel, by decide +kernel⟩, List.mem_of_getElem? (i := 1145) (by decide +kernel), List.mem_of_getElem? (i := 1441) (by decide +kernel), List.mem_of_getElem? (i := 1442) (by decide +kernel)⟩
theorem lw_p76 : lw_okq (⟨"ShelfDrivesModel", "layRun", "()V"⟩, 40) := ⟨⟨by decide +kernel, by decide +kernel⟩, List.mem_of_getElem? (i := 1145) (by decide +kernel), List.mem_of_getElem? (i := 1445) (by decide +kernel), List.mem_of_getElem? (i := 1446) (by decide +kernel)⟩
theorem lw_p77 : lw_okq (⟨"ShelfDrivesModel", "layAsked", "(I)V"⟩, 40) := ⟨⟨by decide +kernel, by decide +kernel⟩, List.mem_of_getElem? (i := 1145) (by decide +kernel), List.mem_of_getElem? (i := 1449) (by decide +kernel), List.mem_of_getElem? (i := 1450) (by decide +kernel)⟩
theorem lw_p78 : lw_okq (⟨"ShelfDrivesModel", "runAll", "()V"⟩, 40) := ⟨⟨by decide +kernel, by decide +kernel⟩, List.mem_of_getElem? (i := 1145) (by decide +kernel), List.mem_of_getElem? (i := 1453) (by decide +kernel), List.mem_of_getElem? (i := 1454) (by decide +kernel)⟩
theorem lw_p79 : lw_okq (⟨"ShelfDrivesModel", "runShop", "(II)V"⟩, 40) := ⟨⟨by decide +kernel, by decide +kernel⟩, List.mem_of_getElem? (i := 1145) (by decide +kernel), List.mem_of_getElem? (i := 1457) (by decide +kernel), List.mem_of_getElem? (i := 1458) (by decide +kernel)⟩
def lw_privs_5 : List (MethodName × Nat) := [(⟨"ShelfDrivesModel", "stands", "()V"⟩, 40), (⟨"ShelfDrivesModel", "layWays", "()V"⟩, 40), (⟨"ShelfDrivesModel", "shops", "()I"⟩, 40), (⟨"ShelfDrivesModel", "far", "(II)I"⟩, 40), (⟨"ShelfDrivesModel", "number", "(I)I"⟩, 40), (⟨"ShelfDrivesModel", "days", "()I"⟩, 40), (⟨"ShelfDrivesModel", "milesOf", "(I)I"⟩, 40), (⟨"ShelfDrivesModel", "isShop", "(I)Z"⟩, 40), (⟨"ShelfDrivesModel", "costOfSet", "(I)I"⟩, 40), (⟨"ShelfDrivesModel", "askedOf", "(II)I"⟩, 40), (⟨"ShelfDrivesModel", "isAt", "(II)Z"⟩, 40), (⟨"ShelfDrivesModel", "isDay", "(I)Z"⟩, 40), (⟨"ShelfDrivesModel", "layRun", "()V"⟩, 40), (⟨"ShelfDrivesModel", "layAsked", "(I)V"⟩, 40), (⟨"ShelfDrivesModel", "runAll", "()V"⟩, 40), (⟨"ShelfDrivesModel", "runShop", "(II)V"⟩, 40)]
theorem lw_r5 : ∀ q ∈ lw_privs_5, lw_okq q := List.forall_mem_cons.mpr ⟨lw_p64, List.forall_mem_cons.mpr ⟨lw_p65, List.forall_mem_cons.mpr ⟨lw_p66, List.forall_mem_cons.mpr ⟨lw_p67, List.forall_mem_cons.mpr ⟨lw_p68, List.forall_mem_cons.mpr ⟨lw_p69, List.forall_mem_cons.mpr ⟨lw_p70, List.forall_mem_cons.mpr ⟨lw_p71, List.forall_mem_cons.mpr ⟨lw_p72, List.forall_mem_cons.mpr ⟨lw_p73, List.forall_mem_cons.mpr ⟨lw_p74, List.forall_mem_cons.mpr ⟨lw_p75, List.forall_mem_cons.mpr ⟨lw_p76, List.forall_mem_cons.mpr ⟨lw_p77, List.forall_mem_cons.mpr ⟨lw_p78, List.forall_mem_cons.mpr ⟨lw_p79, fun _ h => absurd h List.not_mem_nil⟩⟩⟩⟩⟩⟩⟩⟩⟩⟩⟩⟩⟩⟩⟩⟩
theorem lw_p80 : lw_okq (⟨"ShelfDrivesModel", "firstLost", "(II)I"⟩, 40) := ⟨⟨by decide +kernel, by decide +kernel⟩, List.mem_of_getElem? (i := 1145) (by decide +kernel), List.mem_of_getElem? (i := 1480) (by decide +kernel), List.mem_of_getElem? (i := 1481) (by decide +kernel)⟩
theorem lw_p81 : lw_okq (⟨"ShelfDrivesModel", "lostBy", "(I)I"⟩, 40) := ⟨⟨by decide +kernel, by decide +kernel⟩, List.mem_of_getElem? (i := 1145) (by decide +kernel), List.mem_of_getElem? (i := 1488) (by decide +kernel), List.mem_of_getElem? (i := 1489) (by decide +kernel)⟩
theorem lw_p82 : lw_okq (⟨"ShelfDrivesModel", "lostByDraws", "(II)I"⟩, 40) := ⟨⟨by decide +kernel, by decide +kernel⟩, List.mem_of_getElem? (i := 1145) (by decide +kernel), List.mem_of_getElem? (i := 1500) (by decide +kernel), List.mem_of_getElem? (i := 1501) (by decide +kernel)⟩
theorem lw_p83 : lw_okq (⟨"ShelfDrivesModel", "layLoads", "(I)I"⟩, 40) := ⟨⟨by decide +kernel, by decide +kernel⟩, List.mem_of_getElem? (i := 1145) (by decide +kernel), List.mem_of_getElem? (i := 1509) (by decide +kernel), List.mem_of_getElem? (i := 1510) (by decide +kernel)⟩
theorem lw_p84 : lw_okq (⟨"ShelfDrivesModel", "layParts", "(II)I"⟩, 40) := ⟨⟨by decide +kernel, by decide +kernel⟩, List.mem_of_getElem? (i := 1145) (by decide +kernel), List.mem_of_getElem? (i := 1513) (by decide +kernel), List.mem_of_getElem? (i := 1514) (by decide +kernel)⟩
theorem lw_p85 : lw_okq (⟨"ShelfDrivesModel", "layPart", "(II)V"⟩, 40) := ⟨⟨by decide +kernel, by decide +kernel⟩, List.mem_of_getElem? (i := 1145) (by decide +kernel), List.mem_of_getElem? (i := 1517) (by decide +kernel), List.mem_of_getElem? (i := 1518) (by decide +kernel)⟩
theorem lw_p86 : lw_okq (⟨"ShelfDrivesModel", "loadsOf", "(I)I"⟩, 40) := ⟨⟨by decide +kernel, by decide +kernel⟩, List.mem_of_getElem? (i := 1145) (by decide +kernel), List.mem_of_getElem? (i := 1521) (by decide +kernel), List.mem_of_getElem? (i := 1522) (by decide +kernel)⟩
theorem lw_p87 : lw_okq (⟨"ShelfDrivesModel", "roundOf", "(II)I"⟩, 40) := ⟨⟨by decide +kernel, by decide +kernel⟩, List.mem_of_getElem? (i := 1145) (by decide +kernel), List.mem_of_getElem? (i := 1529) (by decide +kernel), List.mem_of_getElem? (i := 1530) (by decide +kernel)⟩
theorem lw_p88 : lw_okq (⟨"ShelfDrivesModel", "onWay", "(II)I"⟩, 40) := ⟨⟨by decide +kernel, by decide +kernel⟩, List.mem_of_getElem? (i := 1145) (by decide +kernel), List.mem_of_getElem? (i := 1536) (by decide +kernel), List.mem_of_getElem? (i := 1537) (by decide +kernel)⟩
theorem lw_p89 : lw_okq (⟨"ShelfDrivesModel", "joins", "(I)Z"⟩, 40) := ⟨⟨by decide +kernel, by decide +kernel⟩, List.mem_of_getElem? (i := 1145) (by decide +kernel), List.mem_of_getElem? (i := 1548) (by decide +kernel), List.mem_of_getElem? (i := 1549) (by decide +kernel)⟩
theorem lw_p90 : lw_okq (⟨"ShelfDrivesModel", "costNow", "()I"⟩, 40) := ⟨⟨by decide +kernel, by decide +kernel⟩, List.mem_of_getElem? (i := 1145) (by decide +kernel), List.mem_of_getElem? (i := 1570) (by decide +kernel), List.mem_of_getElem? (i := 1571) (by decide +kernel)⟩
theorem lw_p91 : lw_okq (⟨"ShelfDrivesModel", "allRounds", "(I)I"⟩, 40) := ⟨⟨by decide +kernel, by decide +kernel⟩, List.mem_of_getElem? (i := 1145) (by decide +kernel), List.mem_of_getElem? (i := 1574) (by decide +kernel), List.mem_of_getElem? (i := 1575) (by decide +kernel)⟩
theorem lw_p92 : lw_okq (⟨"ShelfDrivesModel", "roundsCost", "(II)I"⟩, 40) := ⟨⟨by decide +kernel, by decide +kernel⟩, List.mem_of_getElem? (i := 1145) (by decide +kernel), List.mem_of_getElem? (i := 1578) (by decide +kernel), List.mem_of_getElem? (i := 1579) (by decide +kernel)⟩
theorem lw_p93 : lw_okq (⟨"ShelfDrivesModel", "allStocks", "()I"⟩, 40) := ⟨⟨by decide +kernel, by decide +kernel⟩, List.mem_of_getElem? (i := 1145) (by decide +kernel), List.mem_of_getElem? (i := 1582) (by decide +kernel), List.mem_of_getElem? (i := 1583) (by decide +kernel)⟩
theorem lw_p94 : lw_okq (⟨"ShelfDrivesModel", "stocks", "(I)I"⟩, 40) := ⟨⟨by decide +kernel, by decide +kernel⟩, List.mem_of_getElem? (i := 1145) (by decide +kernel), List.mem_of_getElem? (i := 1586) (by decide +kernel), List.mem_of_getElem? (i := 1587) (by decide +kernel)⟩
theorem lw_p95 : lw_okq (⟨"ShelfDrivesModel", "allLost", "()I"⟩, 40) := ⟨⟨by decide +kernel, by decide +kernel⟩, List.mem_of_getElem? (i := 1145) (by decide +kernel), List.mem_of_getElem? (i := 1590) (by decide +kernel), List.mem_of_getElem? (i := 1591) (by decide +kernel)⟩
def lw_privs_6 : List (MethodName × Nat) := [(⟨"ShelfDrivesModel", "firstLost", "(II)I"⟩, 40), (⟨"ShelfDrivesModel", "lostBy", "(I)I"⟩, 40), (⟨"ShelfDrivesModel", "lostByDraws", "(II)I"⟩, 40), (⟨"ShelfDrivesModel", "layLoads", "(I)I"⟩, 40), (⟨"ShelfDrivesModel", "layParts", "(II)I"⟩, 40), (⟨"ShelfDrivesModel", "layPart", "(II)V"⟩, 40), (⟨"ShelfDrivesModel", "loadsOf", "(I)I"⟩, 40), (⟨"ShelfDrivesModel", "roundOf", "(II)I"⟩, 40), (⟨"ShelfDrivesModel", "onWay", "(II)I"⟩, 40), (⟨"ShelfDrivesModel", "joins", "(I)Z"⟩, 40), (⟨"ShelfDrivesModel", "costNow", "()I"⟩, 40), (⟨"ShelfDrivesModel", "allRounds", "(I)I"⟩, 40), (⟨"ShelfDrivesModel", "roundsCost", "(II)I"⟩, 40), (⟨"ShelfDrivesModel", "allStocks", "()I"⟩, 40), (⟨"ShelfDrivesModel", "stocks", "(I)I"⟩, 40), (⟨"ShelfDrivesModel", "allLost", "()I"⟩, 40)]
theorem lw_r6 : ∀ q ∈ lw_privs_6, lw_okq q := List.forall_mem_cons.mpr ⟨lw_p80, List.forall_mem_cons.mpr ⟨lw_p81, List.forall_mem_cons.mpr ⟨lw_p82, List.forall_mem_cons.mpr ⟨lw_p83, List.forall_mem_cons.mpr ⟨lw_p84, List.forall_mem_cons.mpr ⟨lw_p85, List.forall_mem_cons.mpr ⟨lw_p86, List.forall_mem_cons.mpr ⟨lw_p87, List.forall_mem_cons.mpr ⟨lw_p88, List.forall_mem_cons.mpr ⟨lw_p89, List.forall_mem_cons.mpr ⟨lw_p90, List.forall_mem_cons.mpr ⟨lw_p91, List.forall_mem_cons.mpr ⟨lw_p92, List.forall_mem_cons.mpr ⟨lw_p93, List.forall_mem_cons.mpr ⟨lw_p94, List.forall_mem_cons.mpr ⟨lw_p95, fun _ h => absurd h List.not_mem_nil⟩⟩⟩⟩⟩⟩⟩⟩⟩⟩⟩⟩⟩⟩⟩⟩
theorem lw_p96 : lw_okq (⟨"ShelfDrivesModel", "soloCost", "(II)I"⟩, 40) := ⟨⟨by decide +kernel, by decide +kernel⟩, List.mem_of_getElem? (i := 1145) (by decide +kernel), List.mem_of_getElem? (i := 1618) (by decide +kernel), List.mem_of_getElem? (i := 1619) (by decide +kernel)⟩
theorem lw_p97 : lw_okq (⟨"ShelfDrivesModel", "everySet", "(II)I"⟩, 40) := ⟨⟨by decide +kernel, by decide +kernel⟩, List.mem_of_getElem? (i := 1145) (by decide +kernel), List.mem_of_getElem? (i := 1626) (by decide +kernel), List.mem_of_getElem? (i := 1627) (by decide +kernel)⟩
theorem lw_p98 : lw_okq (⟨"ShelfDrivesModel", "layBetween", "()V"⟩, 40) := ⟨⟨by decide +kernel, by decide +kernel⟩, List.mem_of_getElem? (i := 1145) (by decide +kernel), List.mem_of_getElem? (i := 1634) (by decide +kernel), List.mem_of_getElem? (i := 1635) (by decide +kernel)⟩
theorem lw_p99 : lw_okq (⟨"ShelfDrivesModel", "costBy", "(I)I"⟩, 40) := ⟨⟨by decide +kernel, by decide +kernel⟩, List.mem_of_getElem? (i := 1145) (by decide +kernel), List.mem_of_getElem? (i := 1638) (by decide +kernel), List.mem_of_getElem? (i := 1639) (by decide +kernel)⟩
theorem lw_p100 : lw_okq (⟨"ShelfDrivesModel", "puts", "()V"⟩, 40) := ⟨⟨by decide +kernel, by decide +kernel⟩, List.mem_of_getElem? (i := 1145) (by decide +kernel), List.mem_of_getElem? (i := 1646) (by decide +kernel), List.mem_of_getElem? (i := 1647) (by decide +kernel)⟩
theorem lw_p101 : lw_okq (⟨"ShelfDrivesModel", "keep", "()V"⟩, 40) := ⟨⟨by decide +kernel, by decide +kernel⟩, List.mem_of_getElem? (i := 1145) (by decide +kernel), List.mem_of_getElem? (i := 1654) (by decide +kernel), List.mem_of_getElem? (i := 1655) (by decide +kernel)⟩
theorem lw_p102 : lw_okq (⟨"ShelfDrivesModel", "morning", "(II)I"⟩, 40) := ⟨⟨by decide +kernel, by decide +kernel⟩, List.mem_of_getElem? (i := 1145) (by decide +kernel), List.mem_of_getElem? (i := 1662) (by decide +kernel), List.mem_of_getElem? (i := 1663) (by decide +kernel)⟩
theorem lw_p103 : lw_okq (⟨"ShelfDrivesModel", "askedFor", "(III)I"⟩, 40) := ⟨⟨by decide +kernel, by decide +kernel⟩, List.mem_of_getElem? (i := 1145) (by decide +kernel), List.mem_of_getElem? (i := 1666) (by decide +kernel), List.mem_of_getElem? (i := 1667) (by decide +kernel)⟩
theorem lw_p104 : lw_okq (⟨"ShelfDrivesModel", "allVisits", "()I"⟩, 40) := ⟨⟨by decide +kernel, by decide +kernel⟩, List.mem_of_getElem? (i := 1145) (by decide +kernel), List.mem_of_getElem? (i := 1670) (by decide +kernel), List.mem_of_getElem? (i := 1671) (by decide +kernel)⟩
theorem lw_p105 : lw_okq (⟨"ShelfDrivesModel", "wouldChange", "(Z)Z"⟩, 40) := ⟨⟨by decide +kernel, by decide +kernel⟩, List.mem_of_getElem? (i := 1145) (by decide +kernel), List.mem_of_getElem? (i := 1678) (by decide +kernel), List.mem_of_getElem? (i := 1679) (by decide +kernel)⟩
theorem lw_p106 : lw_okq (⟨"ShelfDrivesModel", "moves", "(I)Z"⟩, 40) := ⟨⟨by decide +kernel, by decide +kernel⟩, List.mem_of_getElem? (i := 1145) (by decide +kernel), List.mem_of_getElem? (i := 1682) (by decide +kernel), List.mem_of_getElem? (i := 1683) (by decide +kernel)⟩
theorem lw_p107 : lw_okq (⟨"ShelfDrivesModel", "helps", "(III)Z"⟩, 40) := ⟨⟨by decide +kernel, by decide +kernel⟩, List.mem_of_getElem? (i := 1145) (by decide +kernel), List.mem_of_getElem? (i := 1686) (by decide +kernel), List.mem_of_getElem? (i := 1687) (by decide +kernel)⟩
theorem lw_p108 : lw_okq (⟨"ShelfDrivesModel", "tunes", "(I)Z"⟩, 40) := ⟨⟨by decide +kernel, by decide +kernel⟩, List.mem_of_getElem? (i := 1145) (by decide +kernel), List.mem_of_getElem? (i := 1690) (by decide +kernel), List.mem_of_getElem? (i := 1691) (by decide +kernel)⟩
theorem lw_p109 : lw_okq (⟨"ShelfDrivesModel", "betters", "(IZ)I"⟩, 40) := ⟨⟨by decide +kernel, by decide +kernel⟩, List.mem_of_getElem? (i := 1145) (by decide +kernel), List.mem_of_getElem? (i := 1694) (by decide +kernel), List.mem_of_getElem? (i := 1695) (by decide +kernel)⟩
theorem lw_p110 : lw_okq (⟨"ShelfDrivesModel", "plan", "(I)V"⟩, 40) := ⟨⟨by decide +kernel, by decide +kernel⟩, List.mem_of_getElem? (i := 1145) (by decide +kernel), List.mem_of_getElem? (i := 1706) (by decide +kernel), List.mem_of_getElem? (i := 1707) (by decide +kernel)⟩
def lw_privs_7 : List (MethodName × Nat) := [(⟨"ShelfDrivesModel", "soloCost", "(II)I"⟩, 40), (⟨"ShelfDrivesModel", "everySet", "(II)I"⟩, 40), (⟨"ShelfDrivesModel", "layBetween", "()V"⟩, 40), (⟨"ShelfDrivesModel", "costBy", "(I)I"⟩, 40), (⟨"ShelfDrivesModel", "puts", "()V"⟩, 40), (⟨"ShelfDrivesModel", "keep", "()V"⟩, 40), (⟨"ShelfDrivesModel", "morning", "(II)I"⟩, 40), (⟨"ShelfDrivesModel", "askedFor", "(III)I"⟩, 40), (⟨"ShelfDrivesModel", "allVisits", "()I"⟩, 40), (⟨"ShelfDrivesModel", "wouldChange", "(Z)Z"⟩, 40), (⟨"ShelfDrivesModel", "moves", "(I)Z"⟩, 40), (⟨"ShelfDrivesModel", "helps", "(III)Z"⟩, 40), (⟨"ShelfDrivesModel", "tunes", "(I)Z"⟩, 40), (⟨"ShelfDrivesModel", "betters", "(IZ)I"⟩, 40), (⟨"ShelfDrivesModel", "plan", "(I)V"⟩, 40)]
theorem lw_r7 : ∀ q ∈ lw_privs_7, lw_okq q := List.forall_mem_cons.mpr ⟨lw_p96, List.forall_mem_cons.mpr ⟨lw_p97, List.forall_mem_cons.mpr ⟨lw_p98, List.forall_mem_cons.mpr ⟨lw_p99, List.forall_mem_cons.mpr ⟨lw_p100, List.forall_mem_cons.mpr ⟨lw_p101, List.forall_mem_cons.mpr ⟨lw_p102, List.forall_mem_cons.mpr ⟨lw_p103, List.forall_mem_cons.mpr ⟨lw_p104, List.forall_mem_cons.mpr ⟨lw_p105, List.forall_mem_cons.mpr ⟨lw_p106, List.forall_mem_cons.mpr ⟨lw_p107, List.forall_mem_cons.mpr ⟨lw_p108, List.forall_mem_cons.mpr ⟨lw_p109, List.forall_mem_cons.mpr ⟨lw_p110, fun _ h => absurd h List.not_mem_nil⟩⟩⟩⟩⟩⟩⟩⟩⟩⟩⟩⟩⟩⟩⟩
def lw_privs : List (MethodName × Nat) := lw_privs_1 ++ (lw_privs_2 ++ (lw_privs_3 ++ (lw_privs_4 ++ (lw_privs_5 ++ (lw_privs_6 ++ (lw_privs_7))))))
def lw_tbl : List Cond := k2_sels lw_privs ++ tables_1
theorem lw_privs_ok : ∀ q ∈ lw_privs, lw_okq q := by
  show ∀ q ∈ lw_privs_1 ++ (lw_privs_2 ++ (lw_privs_3 ++ (lw_privs_4 ++ (lw_privs_5 ++ (lw_privs_6 ++ (lw_privs_7)))))), lw_okq q
  exact List.forall_mem_append.mpr ⟨lw_r1, List.forall_mem_append.mpr ⟨lw_r2, List.forall_mem_append.mpr ⟨lw_r3, List.forall_mem_append.mpr ⟨lw_r4, List.forall_mem_append.mpr ⟨lw_r5, List.forall_mem_append.mpr ⟨lw_r6, lw_r7⟩⟩⟩⟩⟩⟩
def RX0 : String := "ShelfDrives$Acts"
def TX0 : u_T := fun k => match k with
  | 0 => ("ShelfDrives$Acts", "kept", "I", false)
  | _ => ("ShelfDrives$Acts", "rows", "[I", true)
def tyX0 : Nat → FieldType := fun k => match k with
  | 0 => .int
  | _ => .array .int
abbrev wsX00 : List Cond := u_ws RX0 TX0 2
theorem nmX0 : ∀ a, a < 2 → ∀ b, b < 2 → a ≠ b → (TX0 a).2.1 ≠ (TX0 b).2.1 := by decide +kernel
theorem tyX0_ok : ∀ k, k < 2 → parseFieldDescriptor (TX0 k).2.2.1 = some (tyX0 k) := by decide +kernel
abbrev cX0_init : ByteArray := prog_2_method_1_code
def yX0_init : MethodName := ⟨RX0, "<init>", "()V"⟩
abbrev cX0_forget : ByteArray := prog_2_method_2_code
def yX0_forget : MethodName := ⟨RX0, "forget", "()V"⟩
abbrev cX0_keep : ByteArray := prog_2_method_3_code
def yX0_keep : MethodName := ⟨RX0, "keep", "([II)V"⟩
abbrev cX0_takeBack : ByteArray := prog_2_method_4_code
def yX0_takeBack : MethodName := ⟨RX0, "takeBack", "()Z"⟩
abbrev cX0_visitsBefore : ByteArray := prog_2_method_5_code
def yX0_visitsBefore : MethodName := ⟨RX0, "visitsBefore", "(I)I"⟩
abbrev cX0_rushesBefore : ByteArray := prog_2_method_6_code
def yX0_rushesBefore : MethodName := ⟨RX0, "rushesBefore", "()I"⟩
def RX1 : String := "ShelfDrives$Common"
def TX1 : u_T := fun k => match k with
  | 0 => ("ShelfDrives$Common", "town", "LShelfDrives$Town;", true)
  | 1 => ("ShelfDrives$Common", "parting", "LShelfDrives$Parting;", true)
  | 2 => ("ShelfDrives$Common", "cost", "[I", true)
  | 3 => ("ShelfDrives$Common", "count", "[I", true)
  | 4 => ("ShelfDrives$Common", "days", "[I", true)
  | 5 => ("ShelfDrives$Common", "there", "[I", true)
  | _ => ("ShelfDrives$Common", "lacks", "[I", true)
def tyX1 : Nat → FieldType := fun k => match k with
  | 0 => .object "ShelfDrives$Town"
  | 1 => .object "ShelfDrives$Parting"
  | 2 => .array .int
  | 3 => .array .int
  | 4 => .array .int
  | 5 => .array .int
  | _ => .array .int
abbrev wsX10 : List Cond := u_ws RX1 TX1 7
theorem nmX1 : ∀ a, a < 7 → ∀ b, b < 7 → a ≠ b → (TX1 a).2.1 ≠ (TX1 b).2.1 := by decide +kernel
theorem tyX1_ok : ∀ k, k < 7 → parseFieldDescriptor (TX1 k).2.2.1 = some (tyX1 k) := by decide +kernel
abbrev cX1_init : ByteArray := prog_3_method_1_code
def yX1_init : MethodName := ⟨RX1, "<init>", "(LShelfDrives$Town;LShelfDrives$Parting;)V"⟩
abbrev cX1_bestCost : ByteArray := prog_3_method_2_code
def yX1_bestCost : MethodName := ⟨RX1, "bestCost", "()I"⟩
abbrev cX1_bestDays : ByteArray := prog_3_method_3_code
def yX1_bestDays : MethodName := ⟨RX1, "bestDays", "()I"⟩
abbrev cX1_findDays : ByteArray := prog_3_method_4_code
def yX1_findDays : MethodName := ⟨RX1, "findDays", "(IZ)Z"⟩
abbrev cX1_goOn : ByteArray := prog_3_method_5_code
def yX1_goOn : MethodName := ⟨RX1, "goOn", "(IIZ)V"⟩
abbrev cX1_offer : ByteArray := prog_3_method_6_code
def yX1_offer : MethodName := ⟨RX1, "offer", "(IIII)V"⟩
abbrev cX1_visitPrice : ByteArray := prog_3_method_7_code
def yX1_visitPrice : MethodName := ⟨RX1, "visitPrice", "(I)I"⟩
abbrev cX1_sellDay : ByteArray := prog_3_method_8_code
def yX1_sellDay : MethodName := ⟨RX1, "sellDay", "(II)I"⟩
abbrev cX1_stockOf : ByteArray := prog_3_method_9_code
def yX1_stockOf : MethodName := ⟨RX1, "stockOf", "(I)I"⟩
def RX2 : String := "ShelfDrives$Parting"
def TX2 : u_T := fun k => match k with
  | 0 => ("ShelfDrives$Parting", "town", "LShelfDrives$Town;", true)
  | 1 => ("ShelfDrives$Parting", "roundPrices", "[I", true)
  | 2 => ("ShelfDrives$Parting", "sum", "[I", true)
  | 3 => ("ShelfDrives$Parting", "price", "[I", true)
  | 4 => ("ShelfDrives$Parting", "count", "[I", true)
  | 5 => ("ShelfDrives$Parting", "head", "[I", true)
  | _ => ("ShelfDrives$Parting", "all", "I", false)
def tyX2 : Nat → FieldType := fun k => match k with
  | 0 => .object "ShelfDrives$Town"
  | 1 => .array .int
  | 2 => .array .int
  | 3 => .array .int
  | 4 => .array .int
  | 5 => .array .int
  | _ => .int
abbrev wsX20 : List Cond := u_ws RX2 TX2 7
theorem nmX2 : ∀ a, a < 7 → ∀ b, b < 7 → a ≠ b → (TX2 a).2.1 ≠ (TX2 b).2.1 := by decide +kernel
theorem tyX2_ok : ∀ k, k < 7 → parseFieldDescriptor (TX2 k).2.2.1 = some (tyX2 k) := by decide +kernel
abbrev cX2_init : ByteArray := prog_4_method_1_code
def yX2_init : MethodName := ⟨RX2, "<init>", "(LShelfDrives$Town;)V"⟩
abbrev cX2_measure : ByteArray := prog_4_method_2_code
def yX2_measure : MethodName := ⟨RX2, "measure", "(LShelfDrives$Ways;)V"⟩
abbrev cX2_roundPrice : ByteArray := prog_4_method_3_code
def yX2_roundPrice : MethodName := ⟨RX2, "roundPrice", "(I)I"⟩
abbrev cX2_gain : ByteArray := prog_4_method_4_code
def yX2_gain : MethodName := ⟨RX2, "gain", "(II)I"⟩
abbrev cX2_priceOf : ByteArray := prog_4_method_5_code
def yX2_priceOf : MethodName := ⟨RX2, "priceOf", "([II)I"⟩
abbrev cX2_part : ByteArray := prog_4_method_6_code
def yX2_part : MethodName := ⟨RX2, "part", "([II)I"⟩
abbrev cX2_gather : ByteArray := prog_4_method_7_code
def yX2_gather : MethodName := ⟨RX2, "gather", "([I)I"⟩
abbrev cX2_partSet : ByteArray := prog_4_method_8_code
def yX2_partSet : MethodName := ⟨RX2, "partSet", "(II)V"⟩
abbrev cX2_setAt : ByteArray := prog_4_method_9_code
def yX2_setAt : MethodName := ⟨RX2, "setAt", "(I)I"⟩
abbrev cX2_loadOf : ByteArray := prog_4_method_10_code
def yX2_loadOf : MethodName := ⟨RX2, "loadOf", "(I)I"⟩
abbrev cX2_orders : ByteArray := prog_4_method_11_code
def yX2_orders : MethodName := ⟨RX2, "orders", "()I"⟩
abbrev cX2_shareSum : ByteArray := prog_4_method_12_code
def yX2_shareSum : MethodName := ⟨RX2, "shareSum", "(I)I"⟩
abbrev cX2_factorial : ByteArray := prog_4_method_13_code
def yX2_factorial : MethodName := ⟨RX2, "factorial", "(I)I"⟩
def RX3 : String := "ShelfDrives$Planner"
def TX3 : u_T := fun k => match k with
  | 0 => ("ShelfDrives$Planner", "everyStep", "I", false)
  | 1 => ("ShelfDrives$Planner", "everyFrom", "I", false)
  | 2 => ("ShelfDrives$Planner", "everyCost", "I", false)
  | _ => ("ShelfDrives$Planner", "town", "LShelfDrives$Town;", true)
def tyX3 : Nat → FieldType := fun k => match k with
  | 0 => .int
  | 1 => .int
  | 2 => .int
  | _ => .object "ShelfDrives$Town"
abbrev wsX30 : List Cond := u_ws RX3 TX3 4
theorem nmX3 : ∀ a, a < 4 → ∀ b, b < 4 → a ≠ b → (TX3 a).2.1 ≠ (TX3 b).2.1 := by decide +kernel
theorem tyX3_ok : ∀ k, k < 4 → parseFieldDescriptor (TX3 k).2.2.1 = some (tyX3 k) := by decide +kernel
abbrev cX3_init : ByteArray := prog_5_method_1_code
def yX3_init : MethodName := ⟨RX3, "<init>", "(LShelfDrives$Town;)V"⟩
abbrev cX3_visitByRule : ByteArray := prog_5_method_2_code
def yX3_visitByRule : MethodName := ⟨RX3, "visitByRule", "(LShelfDrives$Run;I)V"⟩
abbrev cX3_isOneShort : ByteArray := prog_5_method_3_code
def yX3_isOneShort : MethodName := ⟨RX3, "isOneShort", "(LShelfDrives$Run;I)Z"⟩
abbrev cX3_visitShort : ByteArray := prog_5_method_4_code
def yX3_visitShort : MethodName := ⟨RX3, "visitShort", "(LShelfDrives$Run;II)V"⟩
abbrev cX3_moveOne : ByteArray := prog_5_method_5_code
def yX3_moveOne : MethodName := ⟨RX3, "moveOne", "(LShelfDrives$Run;)Z"⟩
abbrev cX3_turnOne : ByteArray := prog_5_method_6_code
def yX3_turnOne : MethodName := ⟨RX3, "turnOne", "(LShelfDrives$Run;)Z"⟩
abbrev cX3_turnIfLess : ByteArray := prog_5_method_7_code
def yX3_turnIfLess : MethodName := ⟨RX3, "turnIfLess", "(LShelfDrives$Run;III)Z"⟩
abbrev cX3_takeLeastPlan : ByteArray := prog_5_method_8_code
def yX3_takeLeastPlan : MethodName := ⟨RX3, "takeLeastPlan", "(LShelfDrives$Run;)V"⟩
abbrev cX3_isFewer : ByteArray := prog_5_method_9_code
def yX3_isFewer : MethodName := ⟨RX3, "isFewer", "(II)Z"⟩
abbrev cX3_planBehind : ByteArray := prog_5_method_10_code
def yX3_planBehind : MethodName := ⟨RX3, "planBehind", "(II)I"⟩
abbrev cX3_setPlan : ByteArray := prog_5_method_11_code
def yX3_setPlan : MethodName := ⟨RX3, "setPlan", "(LShelfDrives$Run;I)V"⟩
abbrev cX3_findEvery : ByteArray := prog_5_method_12_code
def yX3_findEvery : MethodName := ⟨RX3, "findEvery", "(LShelfDrives$Run;I)V"⟩
abbrev cX3_daysBy : ByteArray := prog_5_method_13_code
def yX3_daysBy : MethodName := ⟨RX3, "daysBy", "(II)I"⟩
def RX4 : String := "ShelfDrives$Reader"
def TX4 : u_T := fun k => match k with
  | 0 => ("ShelfDrives$Reader", "draft", "LShelfDrives$Town;", true)
  | 1 => ("ShelfDrives$Reader", "fault", "I", false)
  | 2 => ("ShelfDrives$Reader", "faultPlace", "I", false)
  | 3 => ("ShelfDrives$Reader", "keptCodes", "[I", true)
  | 4 => ("ShelfDrives$Reader", "kinds", "[I", true)
  | 5 => ("ShelfDrives$Reader", "places", "[I", true)
  | 6 => ("ShelfDrives$Reader", "values", "[I", true)
  | 7 => ("ShelfDrives$Reader", "tokens", "I", false)
  | 8 => ("ShelfDrives$Reader", "next", "I", false)
  | 9 => ("ShelfDrives$Reader", "kind", "I", false)
  | 10 => ("ShelfDrives$Reader", "place", "I", false)
  | 11 => ("ShelfDrives$Reader", "value", "I", false)
  | 12 => ("ShelfDrives$Reader", "seen", "I", false)
  | 13 => ("ShelfDrives$Reader", "names", "[I", true)
  | _ => ("ShelfDrives$Reader", "sold", "[I", true)
def tyX4 : Nat → FieldType := fun k => match k with
  | 0 => .object "ShelfDrives$Town"
  | 1 => .int
  | 2 => .int
  | 3 => .array .int
  | 4 => .array .int
  | 5 => .array .int
  | 6 => .array .int
  | 7 => .int
  | 8 => .int
  | 9 => .int
  | 10 => .int
  | 11 => .int
  | 12 => .int
  | 13 => .array .int
  | _ => .array .int
abbrev wsX40 : List Cond := u_ws RX4 TX4 15
theorem nmX4 : ∀ a, a < 15 → ∀ b, b < 15 → a ≠ b → (TX4 a).2.1 ≠ (TX4 b).2.1 := by decide +kernel
theorem tyX4_ok : ∀ k, k < 15 → parseFieldDescriptor (TX4 k).2.2.1 = some (tyX4 k) := by decide +kernel
abbrev cX4_init : ByteArray := prog_6_method_1_code
def yX4_init : MethodName := ⟨RX4, "<init>", "()V"⟩
abbrev cX4_withLetter : ByteArray := prog_6_method_2_code
def yX4_withLetter : MethodName := ⟨RX4, "withLetter", "(II)I"⟩
abbrev cX4_readAll : ByteArray := prog_6_method_3_code
def yX4_readAll : MethodName := ⟨RX4, "readAll", "([II)Z"⟩
abbrev cX4_scanAll : ByteArray := prog_6_method_4_code
def yX4_scanAll : MethodName := ⟨RX4, "scanAll", "([II)V"⟩
abbrev cX4_scanWord : ByteArray := prog_6_method_5_code
def yX4_scanWord : MethodName := ⟨RX4, "scanWord", "([III)I"⟩
abbrev cX4_scanNumber : ByteArray := prog_6_method_6_code
def yX4_scanNumber : MethodName := ⟨RX4, "scanNumber", "([III)I"⟩
abbrev cX4_kindOfWord : ByteArray := prog_6_method_7_code
def yX4_kindOfWord : MethodName := ⟨RX4, "kindOfWord", "(I)I"⟩
abbrev cX4_isLetter : ByteArray := prog_6_method_8_code
def yX4_isLetter : MethodName := ⟨RX4, "isLetter", "(I)Z"⟩
abbrev cX4_isDigit : ByteArray := prog_6_method_9_code
def yX4_isDigit : MethodName := ⟨RX4, "isDigit", "(I)Z"⟩
abbrev cX4_step : ByteArray := prog_6_method_10_code
def yX4_step : MethodName := ⟨RX4, "step", "()V"⟩
abbrev cX4_refuse : ByteArray := prog_6_method_11_code
def yX4_refuse : MethodName := ⟨RX4, "refuse", "(I)Z"⟩
abbrev cX4_want : ByteArray := prog_6_method_12_code
def yX4_want : MethodName := ⟨RX4, "want", "(I)Z"⟩
abbrev cX4_wantNumber : ByteArray := prog_6_method_13_code
def yX4_wantNumber : MethodName := ⟨RX4, "wantNumber", "(II)Z"⟩
abbrev cX4_isNumber : ByteArray := prog_6_method_14_code
def yX4_isNumber : MethodName := ⟨RX4, "isNumber", "(II)Z"⟩
abbrev cX4_readLine : ByteArray := prog_6_method_15_code
def yX4_readLine : MethodName := ⟨RX4, "readLine", "()Z"⟩
abbrev cX4_isOnce : ByteArray := prog_6_method_16_code
def yX4_isOnce : MethodName := ⟨RX4, "isOnce", "()Z"⟩
abbrev cX4_readDays : ByteArray := prog_6_method_17_code
def yX4_readDays : MethodName := ⟨RX4, "readDays", "()Z"⟩
abbrev cX4_readDepot : ByteArray := prog_6_method_18_code
def yX4_readDepot : MethodName := ⟨RX4, "readDepot", "()Z"⟩
abbrev cX4_readHold : ByteArray := prog_6_method_19_code
def yX4_readHold : MethodName := ⟨RX4, "readHold", "()Z"⟩
abbrev cX4_readLost : ByteArray := prog_6_method_20_code
def yX4_readLost : MethodName := ⟨RX4, "readLost", "()Z"⟩
abbrev cX4_readTruck : ByteArray := prog_6_method_21_code
def yX4_readTruck : MethodName := ⟨RX4, "readTruck", "()Z"⟩
abbrev cX4_readShop : ByteArray := prog_6_method_22_code
def yX4_readShop : MethodName := ⟨RX4, "readShop", "()Z"⟩
abbrev cX4_readSold : ByteArray := prog_6_method_23_code
def yX4_readSold : MethodName := ⟨RX4, "readSold", "(I)Z"⟩
abbrev cX4_readRush : ByteArray := prog_6_method_24_code
def yX4_readRush : MethodName := ⟨RX4, "readRush", "()Z"⟩
abbrev cX4_shopNamed : ByteArray := prog_6_method_25_code
def yX4_shopNamed : MethodName := ⟨RX4, "shopNamed", "(I)I"⟩
def RX5 : String := "ShelfDrives$Run"
def TX5 : u_T := fun k => match k with
  | 0 => ("ShelfDrives$Run", "visits", "[I", true)
  | 1 => ("ShelfDrives$Run", "asked", "[I", true)
  | 2 => ("ShelfDrives$Run", "load", "[I", true)
  | 3 => ("ShelfDrives$Run", "left", "[I", true)
  | 4 => ("ShelfDrives$Run", "missed", "[I", true)
  | 5 => ("ShelfDrives$Run", "allMissed", "I", false)
  | 6 => ("ShelfDrives$Run", "allLeft", "I", false)
  | 7 => ("ShelfDrives$Run", "town", "LShelfDrives$Town;", true)
  | 8 => ("ShelfDrives$Run", "parting", "LShelfDrives$Parting;", true)
  | 9 => ("ShelfDrives$Run", "dayPrice", "[I", true)
  | _ => ("ShelfDrives$Run", "bag", "[I", true)
def tyX5 : Nat → FieldType := fun k => match k with
  | 0 => .array .int
  | 1 => .array .int
  | 2 => .array .int
  | 3 => .array .int
  | 4 => .array .int
  | 5 => .int
  | 6 => .int
  | 7 => .object "ShelfDrives$Town"
  | 8 => .object "ShelfDrives$Parting"
  | 9 => .array .int
  | _ => .array .int
abbrev wsX50 : List Cond := u_ws RX5 TX5 11
theorem nmX5 : ∀ a, a < 11 → ∀ b, b < 11 → a ≠ b → (TX5 a).2.1 ≠ (TX5 b).2.1 := by decide +kernel
theorem tyX5_ok : ∀ k, k < 11 → parseFieldDescriptor (TX5 k).2.2.1 = some (tyX5 k) := by decide +kernel
abbrev cX5_init : ByteArray := prog_7_method_1_code
def yX5_init : MethodName := ⟨RX5, "<init>", "(LShelfDrives$Town;LShelfDrives$Parting;)V"⟩
abbrev cX5_forget : ByteArray := prog_7_method_2_code
def yX5_forget : MethodName := ⟨RX5, "forget", "()V"⟩
abbrev cX5_takeOver : ByteArray := prog_7_method_3_code
def yX5_takeOver : MethodName := ⟨RX5, "takeOver", "(LShelfDrives$Run;)V"⟩
abbrev cX5_askPercent : ByteArray := prog_7_method_4_code
def yX5_askPercent : MethodName := ⟨RX5, "askPercent", "(I)V"⟩
abbrev cX5_setVisits : ByteArray := prog_7_method_5_code
def yX5_setVisits : MethodName := ⟨RX5, "setVisits", "(II)V"⟩
abbrev cX5_dropVisits : ByteArray := prog_7_method_6_code
def yX5_dropVisits : MethodName := ⟨RX5, "dropVisits", "()V"⟩
abbrev cX5_runFrom : ByteArray := prog_7_method_7_code
def yX5_runFrom : MethodName := ⟨RX5, "runFrom", "(III)V"⟩
abbrev cX5_isVisited : ByteArray := prog_7_method_8_code
def yX5_isVisited : MethodName := ⟨RX5, "isVisited", "(II)Z"⟩
abbrev cX5_morning : ByteArray := prog_7_method_9_code
def yX5_morning : MethodName := ⟨RX5, "morning", "(II)I"⟩
abbrev cX5_countVisits : ByteArray := prog_7_method_10_code
def yX5_countVisits : MethodName := ⟨RX5, "countVisits", "()I"⟩
abbrev cX5_sumOf : ByteArray := prog_7_method_11_code
def yX5_sumOf : MethodName := ⟨RX5, "sumOf", "([II)I"⟩
abbrev cX5_idleVisits : ByteArray := prog_7_method_12_code
def yX5_idleVisits : MethodName := ⟨RX5, "idleVisits", "(I)I"⟩
abbrev cX5_firstMissed : ByteArray := prog_7_method_13_code
def yX5_firstMissed : MethodName := ⟨RX5, "firstMissed", "(I)I"⟩
abbrev cX5_spareFrom : ByteArray := prog_7_method_14_code
def yX5_spareFrom : MethodName := ⟨RX5, "spareFrom", "(II)I"⟩
abbrev cX5_lastsUntil : ByteArray := prog_7_method_15_code
def yX5_lastsUntil : MethodName := ⟨RX5, "lastsUntil", "(II)I"⟩
abbrev cX5_missedByChance : ByteArray := prog_7_method_16_code
def yX5_missedByChance : MethodName := ⟨RX5, "missedByChance", "(II)I"⟩
abbrev cX5_pickLoads : ByteArray := prog_7_method_17_code
def yX5_pickLoads : MethodName := ⟨RX5, "pickLoads", "(I[I)V"⟩
abbrev cX5_loadsOn : ByteArray := prog_7_method_18_code
def yX5_loadsOn : MethodName := ⟨RX5, "loadsOn", "(I)I"⟩
abbrev cX5_fullestDay : ByteArray := prog_7_method_19_code
def yX5_fullestDay : MethodName := ⟨RX5, "fullestDay", "()I"⟩
abbrev cX5_greatestLoad : ByteArray := prog_7_method_20_code
def yX5_greatestLoad : MethodName := ⟨RX5, "greatestLoad", "()I"⟩
abbrev cX5_priceOn : ByteArray := prog_7_method_21_code
def yX5_priceOn : MethodName := ⟨RX5, "priceOn", "(I)I"⟩
abbrev cX5_roundsCostWith : ByteArray := prog_7_method_22_code
def yX5_roundsCostWith : MethodName := ⟨RX5, "roundsCostWith", "(I)I"⟩
abbrev cX5_stockCost : ByteArray := prog_7_method_23_code
def yX5_stockCost : MethodName := ⟨RX5, "stockCost", "()I"⟩
abbrev cX5_lostCost : ByteArray := prog_7_method_24_code
def yX5_lostCost : MethodName := ⟨RX5, "lostCost", "()I"⟩
abbrev cX5_roundsCost : ByteArray := prog_7_method_25_code
def yX5_roundsCost : MethodName := ⟨RX5, "roundsCost", "()I"⟩
abbrev cX5_wholeCost : ByteArray := prog_7_method_26_code
def yX5_wholeCost : MethodName := ⟨RX5, "wholeCost", "()I"⟩
abbrev cX5_costAlone : ByteArray := prog_7_method_27_code
def yX5_costAlone : MethodName := ⟨RX5, "costAlone", "(I)I"⟩
def RX6 : String := "ShelfDrives$Savings"
def TX6 : u_T := fun k => match k with
  | 0 => ("ShelfDrives$Savings", "count", "I", false)
  | 1 => ("ShelfDrives$Savings", "town", "LShelfDrives$Town;", true)
  | 2 => ("ShelfDrives$Savings", "parting", "LShelfDrives$Parting;", true)
  | 3 => ("ShelfDrives$Savings", "sets", "[I", true)
  | _ => ("ShelfDrives$Savings", "sums", "[I", true)
def tyX6 : Nat → FieldType := fun k => match k with
  | 0 => .int
  | 1 => .object "ShelfDrives$Town"
  | 2 => .object "ShelfDrives$Parting"
  | 3 => .array .int
  | _ => .array .int
abbrev wsX60 : List Cond := u_ws RX6 TX6 5
theorem nmX6 : ∀ a, a < 5 → ∀ b, b < 5 → a ≠ b → (TX6 a).2.1 ≠ (TX6 b).2.1 := by decide +kernel
theorem tyX6_ok : ∀ k, k < 5 → parseFieldDescriptor (TX6 k).2.2.1 = some (tyX6 k) := by decide +kernel
abbrev cX6_init : ByteArray := prog_8_method_1_code
def yX6_init : MethodName := ⟨RX6, "<init>", "(LShelfDrives$Town;LShelfDrives$Parting;)V"⟩
abbrev cX6_mergeAll : ByteArray := prog_8_method_2_code
def yX6_mergeAll : MethodName := ⟨RX6, "mergeAll", "([I)V"⟩
abbrev cX6_price : ByteArray := prog_8_method_3_code
def yX6_price : MethodName := ⟨RX6, "price", "()I"⟩
abbrev cX6_mergeBest : ByteArray := prog_8_method_4_code
def yX6_mergeBest : MethodName := ⟨RX6, "mergeBest", "()Z"⟩
abbrev cX6_removeRound : ByteArray := prog_8_method_5_code
def yX6_removeRound : MethodName := ⟨RX6, "removeRound", "(I)V"⟩
def RX7 : String := "ShelfDrives$Town"
def TX7 : u_T := fun k => match k with
  | 0 => ("ShelfDrives$Town", "days", "I", false)
  | 1 => ("ShelfDrives$Town", "carries", "I", false)
  | 2 => ("ShelfDrives$Town", "fixed", "I", false)
  | 3 => ("ShelfDrives$Town", "mile", "I", false)
  | 4 => ("ShelfDrives$Town", "hold", "I", false)
  | 5 => ("ShelfDrives$Town", "lostPrice", "I", false)
  | 6 => ("ShelfDrives$Town", "shops", "I", false)
  | 7 => ("ShelfDrives$Town", "rushes", "I", false)
  | 8 => ("ShelfDrives$Town", "x", "[I", true)
  | 9 => ("ShelfDrives$Town", "y", "[I", true)
  | 10 => ("ShelfDrives$Town", "shelf", "[I", true)
  | 11 => ("ShelfDrives$Town", "first", "[I", true)
  | 12 => ("ShelfDrives$Town", "asked", "[I", true)
  | 13 => ("ShelfDrives$Town", "rushCell", "[I", true)
  | _ => ("ShelfDrives$Town", "rushMore", "[I", true)
def tyX7 : Nat → FieldType := fun k => match k with
  | 0 => .int
  | 1 => .int
  | 2 => .int
  | 3 => .int
  | 4 => .int
  | 5 => .int
  | 6 => .int
  | 7 => .int
  | 8 => .array .int
  | 9 => .array .int
  | 10 => .array .int
  | 11 => .array .int
  | 12 => .array .int
  | 13 => .array .int
  | _ => .array .int
abbrev wsX70 : List Cond := u_ws RX7 TX7 15
theorem nmX7 : ∀ a, a < 15 → ∀ b, b < 15 → a ≠ b → (TX7 a).2.1 ≠ (TX7 b).2.1 := by decide +kernel
theorem tyX7_ok : ∀ k, k < 15 → parseFieldDescriptor (TX7 k).2.2.1 = some (tyX7 k) := by decide +kernel
abbrev cX7_init : ByteArray := prog_9_method_1_code
def yX7_init : MethodName := ⟨RX7, "<init>", "()V"⟩
abbrev cX7_forget : ByteArray := prog_9_method_2_code
def yX7_forget : MethodName := ⟨RX7, "forget", "()V"⟩
abbrev cX7_takeOver : ByteArray := prog_9_method_3_code
def yX7_takeOver : MethodName := ⟨RX7, "takeOver", "(LShelfDrives$Town;)V"⟩
abbrev cX7_hasShop : ByteArray := prog_9_method_4_code
def yX7_hasShop : MethodName := ⟨RX7, "hasShop", "(I)Z"⟩
abbrev cX7_hasDay : ByteArray := prog_9_method_5_code
def yX7_hasDay : MethodName := ⟨RX7, "hasDay", "(I)Z"⟩
abbrev cX7_addRush : ByteArray := prog_9_method_6_code
def yX7_addRush : MethodName := ⟨RX7, "addRush", "(III)V"⟩
abbrev cX7_keepRushes : ByteArray := prog_9_method_7_code
def yX7_keepRushes : MethodName := ⟨RX7, "keepRushes", "(I)V"⟩
def RX8 : String := "ShelfDrives$Ways"
def TX8 : u_T := fun k => match k with
  | 0 => ("ShelfDrives$Ways", "row", "[I", true)
  | 1 => ("ShelfDrives$Ways", "far", "[I", true)
  | 2 => ("ShelfDrives$Ways", "rest", "[I", true)
  | _ => ("ShelfDrives$Ways", "shops", "I", false)
def tyX8 : Nat → FieldType := fun k => match k with
  | 0 => .array .int
  | 1 => .array .int
  | 2 => .array .int
  | _ => .int
abbrev wsX80 : List Cond := u_ws RX8 TX8 4
theorem nmX8 : ∀ a, a < 4 → ∀ b, b < 4 → a ≠ b → (TX8 a).2.1 ≠ (TX8 b).2.1 := by decide +kernel
theorem tyX8_ok : ∀ k, k < 4 → parseFieldDescriptor (TX8 k).2.2.1 = some (tyX8 k) := by decide +kernel
abbrev cX8_init : ByteArray := prog_10_method_1_code
def yX8_init : MethodName := ⟨RX8, "<init>", "()V"⟩
abbrev cX8_measure : ByteArray := prog_10_method_2_code
def yX8_measure : MethodName := ⟨RX8, "measure", "(LShelfDrives$Town;)V"⟩
abbrev cX8_between : ByteArray := prog_10_method_3_code
def yX8_between : MethodName := ⟨RX8, "between", "(II)I"⟩
abbrev cX8_milesTo : ByteArray := prog_10_method_4_code
def yX8_milesTo : MethodName := ⟨RX8, "milesTo", "(I)I"⟩
abbrev cX8_trace : ByteArray := prog_10_method_5_code
def yX8_trace : MethodName := ⟨RX8, "trace", "(I)I"⟩
abbrev cX8_nextStop : ByteArray := prog_10_method_6_code
def yX8_nextStop : MethodName := ⟨RX8, "nextStop", "(II)I"⟩
abbrev cX8_leastRest : ByteArray := prog_10_method_7_code
def yX8_leastRest : MethodName := ⟨RX8, "leastRest", "(II)I"⟩
abbrev cX8_milesBy : ByteArray := prog_10_method_8_code
def yX8_milesBy : MethodName := ⟨RX8, "milesBy", "(III)I"⟩
def RX9 : String := "ShelfDrives"
def TX9 : u_T := fun k => match k with
  | 0 => ("ShelfDrives", "tape", "[I", true)
  | 1 => ("ShelfDrives", "bytes", "I", false)
  | 2 => ("ShelfDrives", "town", "LShelfDrives$Town;", true)
  | 3 => ("ShelfDrives", "reader", "LShelfDrives$Reader;", true)
  | 4 => ("ShelfDrives", "ways", "LShelfDrives$Ways;", true)
  | 5 => ("ShelfDrives", "parting", "LShelfDrives$Parting;", true)
  | 6 => ("ShelfDrives", "merging", "LShelfDrives$Savings;", true)
  | 7 => ("ShelfDrives", "now", "LShelfDrives$Run;", true)
  | 8 => ("ShelfDrives", "trial", "LShelfDrives$Run;", true)
  | 9 => ("ShelfDrives", "planner", "LShelfDrives$Planner;", true)
  | 10 => ("ShelfDrives", "common", "LShelfDrives$Common;", true)
  | 11 => ("ShelfDrives", "acts", "LShelfDrives$Acts;", true)
  | _ => ("ShelfDrives", "loads", "[I", true)
def tyX9 : Nat → FieldType := fun k => match k with
  | 0 => .array .int
  | 1 => .int
  | 2 => .object "ShelfDrives$Town"
  | 3 => .object "ShelfDrives$Reader"
  | 4 => .object "ShelfDrives$Ways"
  | 5 => .object "ShelfDrives$Parting"
  | 6 => .object "ShelfDrives$Savings"
  | 7 => .object "ShelfDrives$Run"
  | 8 => .object "ShelfDrives$Run"
  | 9 => .object "ShelfDrives$Planner"
  | 10 => .object "ShelfDrives$Common"
  | 11 => .object "ShelfDrives$Acts"
  | _ => .array .int
abbrev wsX90 : List Cond := u_ws RX9 TX9 13
theorem nmX9 : ∀ a, a < 13 → ∀ b, b < 13 → a ≠ b → (TX9 a).2.1 ≠ (TX9 b).2.1 := by decide +kernel
theorem tyX9_ok : ∀ k, k < 13 → parseFieldDescriptor (TX9 k).2.2.1 = some (tyX9 k) := by decide +kernel
abbrev cX9_init : ByteArray := prog_1_method_1_code
def yX9_init : MethodName := ⟨RX9, "<init>", "()V"⟩
abbrev cX9_feed : ByteArray := prog_1_method_2_code
def yX9_feed : MethodName := ⟨RX9, "feed", "(IIIII)I"⟩
abbrev cX9_end : ByteArray := prog_1_method_3_code
def yX9_end : MethodName := ⟨RX9, "end", "(I)I"⟩
abbrev cX9_text : ByteArray := prog_1_method_4_code
def yX9_text : MethodName := ⟨RX9, "text", "()I"⟩
abbrev cX9_fault : ByteArray := prog_1_method_5_code
def yX9_fault : MethodName := ⟨RX9, "fault", "(I)I"⟩
abbrev cX9_about : ByteArray := prog_1_method_6_code
def yX9_about : MethodName := ⟨RX9, "about", "(I)I"⟩
abbrev cX9_shop : ByteArray := prog_1_method_7_code
def yX9_shop : MethodName := ⟨RX9, "shop", "(II)I"⟩
abbrev cX9_load : ByteArray := prog_1_method_8_code
def yX9_load : MethodName := ⟨RX9, "load", "(II)I"⟩
abbrev cX9_stock : ByteArray := prog_1_method_9_code
def yX9_stock : MethodName := ⟨RX9, "stock", "(II)I"⟩
abbrev cX9_lost : ByteArray := prog_1_method_10_code
def yX9_lost : MethodName := ⟨RX9, "lost", "(II)I"⟩
abbrev cX9_of : ByteArray := prog_1_method_11_code
def yX9_of : MethodName := ⟨RX9, "of", "(II)I"⟩
abbrev cX9_empty : ByteArray := prog_1_method_12_code
def yX9_empty : MethodName := ⟨RX9, "empty", "(I)I"⟩
abbrev cX9_bears : ByteArray := prog_1_method_13_code
def yX9_bears : MethodName := ⟨RX9, "bears", "(II)I"⟩
abbrev cX9_waits : ByteArray := prog_1_method_14_code
def yX9_waits : MethodName := ⟨RX9, "waits", "(II)I"⟩
abbrev cX9_chance : ByteArray := prog_1_method_15_code
def yX9_chance : MethodName := ⟨RX9, "chance", "(IIII)I"⟩
abbrev cX9_rounds : ByteArray := prog_1_method_16_code
def yX9_rounds : MethodName := ⟨RX9, "rounds", "(I)I"⟩
abbrev cX9_round : ByteArray := prog_1_method_17_code
def yX9_round : MethodName := ⟨RX9, "round", "(III)I"⟩
abbrev cX9_aboard : ByteArray := prog_1_method_18_code
def yX9_aboard : MethodName := ⟨RX9, "aboard", "(III)I"⟩
abbrev cX9_miles : ByteArray := prog_1_method_19_code
def yX9_miles : MethodName := ⟨RX9, "miles", "(I)I"⟩
abbrev cX9_together : ByteArray := prog_1_method_20_code
def yX9_together : MethodName := ⟨RX9, "together", "(II)I"⟩
abbrev cX9_savings : ByteArray := prog_1_method_21_code
def yX9_savings : MethodName := ⟨RX9, "savings", "(II)I"⟩
abbrev cX9_share : ByteArray := prog_1_method_22_code
def yX9_share : MethodName := ⟨RX9, "share", "(III)I"⟩
abbrev cX9_peak : ByteArray := prog_1_method_23_code
def yX9_peak : MethodName := ⟨RX9, "peak", "(I)I"⟩
abbrev cX9_cost : ByteArray := prog_1_method_24_code
def yX9_cost : MethodName := ⟨RX9, "cost", "(I)I"⟩
abbrev cX9_costOf : ByteArray := prog_1_method_25_code
def yX9_costOf : MethodName := ⟨RX9, "costOf", "(I)I"⟩
abbrev cX9_worth : ByteArray := prog_1_method_26_code
def yX9_worth : MethodName := ⟨RX9, "worth", "(II)I"⟩
abbrev cX9_truck : ByteArray := prog_1_method_27_code
def yX9_truck : MethodName := ⟨RX9, "truck", "(I)I"⟩
abbrev cX9_reach : ByteArray := prog_1_method_28_code
def yX9_reach : MethodName := ⟨RX9, "reach", "()I"⟩
abbrev cX9_scaled : ByteArray := prog_1_method_29_code
def yX9_scaled : MethodName := ⟨RX9, "scaled", "(I)I"⟩
abbrev cX9_alone : ByteArray := prog_1_method_30_code
def yX9_alone : MethodName := ⟨RX9, "alone", "(II)I"⟩
abbrev cX9_every : ByteArray := prog_1_method_31_code
def yX9_every : MethodName := ⟨RX9, "every", "(II)I"⟩
abbrev cX9_joint : ByteArray := prog_1_method_32_code
def yX9_joint : MethodName := ⟨RX9, "joint", "(I)I"⟩
abbrev cX9_visit : ByteArray := prog_1_method_33_code
def yX9_visit : MethodName := ⟨RX9, "visit", "(II)I"⟩
abbrev cX9_rule : ByteArray := prog_1_method_34_code
def yX9_rule : MethodName := ⟨RX9, "rule", "(I)I"⟩
abbrev cX9_better : ByteArray := prog_1_method_35_code
def yX9_better : MethodName := ⟨RX9, "better", "(I)I"⟩
abbrev cX9_tune : ByteArray := prog_1_method_36_code
def yX9_tune : MethodName := ⟨RX9, "tune", "(I)I"⟩
abbrev cX9_least : ByteArray := prog_1_method_37_code
def yX9_least : MethodName := ⟨RX9, "least", "()I"⟩
abbrev cX9_clear : ByteArray := prog_1_method_38_code
def yX9_clear : MethodName := ⟨RX9, "clear", "()I"⟩
abbrev cX9_rush : ByteArray := prog_1_method_39_code
def yX9_rush : MethodName := ⟨RX9, "rush", "(III)I"⟩
abbrev cX9_undo : ByteArray := prog_1_method_40_code
def yX9_undo : MethodName := ⟨RX9, "undo", "()Z"⟩
abbrev cX9_putNumber : ByteArray := prog_1_method_41_code
def yX9_putNumber : MethodName := ⟨RX9, "putNumber", "(I)V"⟩
abbrev cX9_beginAnew : ByteArray := prog_1_method_42_code
def yX9_beginAnew : MethodName := ⟨RX9, "beginAnew", "()V"⟩
abbrev cX9_hasCell : ByteArray := prog_1_method_43_code
def yX9_hasCell : MethodName := ⟨RX9, "hasCell", "(II)Z"⟩
abbrev cX9_cellOf : ByteArray := prog_1_method_44_code
def yX9_cellOf : MethodName := ⟨RX9, "cellOf", "(II)I"⟩
abbrev cX9_partDay : ByteArray := prog_1_method_45_code
def yX9_partDay : MethodName := ⟨RX9, "partDay", "(I)I"⟩
abbrev cX9_roundSet : ByteArray := prog_1_method_46_code
def yX9_roundSet : MethodName := ⟨RX9, "roundSet", "(II)I"⟩
abbrev cX9_leastTruck : ByteArray := prog_1_method_47_code
def yX9_leastTruck : MethodName := ⟨RX9, "leastTruck", "(II)I"⟩
abbrev cX9_greatestPercent : ByteArray := prog_1_method_48_code
def yX9_greatestPercent : MethodName := ⟨RX9, "greatestPercent", "()I"⟩
abbrev cX9_losesAt : ByteArray := prog_1_method_49_code
def yX9_losesAt : MethodName := ⟨RX9, "losesAt", "(I)Z"⟩
abbrev cX9_keepAct : ByteArray := prog_1_method_50_code
def yX9_keepAct : MethodName := ⟨RX9, "keepAct", "()V"⟩
abbrev cX9_adoptTrial : ByteArray := prog_1_method_51_code
def yX9_adoptTrial : MethodName := ⟨RX9, "adoptTrial", "(I)V"⟩
abbrev cX9_greatestDivisor : ByteArray := prog_1_method_52_code
def yX9_greatestDivisor : MethodName := ⟨RX9, "greatestDivisor", "(II)I"⟩
def RX10 : String := "ShelfDrivesModel"
def TX10 : u_T := fun k => match k with
  | 0 => ("ShelfDrivesModel", "thrown", "I", false)
  | 1 => ("ShelfDrivesModel", "numbers", "[I", true)
  | 2 => ("ShelfDrivesModel", "shopX", "[I", true)
  | 3 => ("ShelfDrivesModel", "shopY", "[I", true)
  | 4 => ("ShelfDrivesModel", "shelf", "[I", true)
  | 5 => ("ShelfDrivesModel", "first", "[I", true)
  | 6 => ("ShelfDrivesModel", "sellMany", "[I", true)
  | 7 => ("ShelfDrivesModel", "sells", "[I", true)
  | 8 => ("ShelfDrivesModel", "rushShop", "[I", true)
  | 9 => ("ShelfDrivesModel", "rushDay", "[I", true)
  | 10 => ("ShelfDrivesModel", "rushMore", "[I", true)
  | 11 => ("ShelfDrivesModel", "nameRead", "[I", true)
  | 12 => ("ShelfDrivesModel", "told", "I", false)
  | 13 => ("ShelfDrivesModel", "tape", "[I", true)
  | 14 => ("ShelfDrivesModel", "taped", "I", false)
  | 15 => ("ShelfDrivesModel", "size", "I", false)
  | 16 => ("ShelfDrivesModel", "at", "I", false)
  | 17 => ("ShelfDrivesModel", "behind", "I", false)
  | 18 => ("ShelfDrivesModel", "token", "I", false)
  | 19 => ("ShelfDrivesModel", "value", "I", false)
  | 20 => ("ShelfDrivesModel", "faultKind", "I", false)
  | 21 => ("ShelfDrivesModel", "faultPlace", "I", false)
  | 22 => ("ShelfDrivesModel", "wrong", "I", false)
  | 23 => ("ShelfDrivesModel", "wrongAt", "I", false)
  | 24 => ("ShelfDrivesModel", "ahead", "[I", true)
  | 25 => ("ShelfDrivesModel", "visits", "[I", true)
  | 26 => ("ShelfDrivesModel", "asked", "[I", true)
  | 27 => ("ShelfDrivesModel", "load", "[I", true)
  | 28 => ("ShelfDrivesModel", "stock", "[I", true)
  | 29 => ("ShelfDrivesModel", "lost", "[I", true)
  | 30 => ("ShelfDrivesModel", "partCost", "[I", true)
  | 31 => ("ShelfDrivesModel", "partMany", "[I", true)
  | 32 => ("ShelfDrivesModel", "partFirst", "[I", true)
  | 33 => ("ShelfDrivesModel", "loadOf", "[I", true)
  | 34 => ("ShelfDrivesModel", "joined", "[I", true)
  | 35 => ("ShelfDrivesModel", "between", "[I", true)
  | 36 => ("ShelfDrivesModel", "kept", "[I", true)
  | 37 => ("ShelfDrivesModel", "keptVisits", "[I", true)
  | 38 => ("ShelfDrivesModel", "actOf", "[I", true)
  | _ => ("ShelfDrivesModel", "acts", "I", false)
def tyX10 : Nat → FieldType := fun k => match k with
  | 0 => .int
  | 1 => .array .int
  | 2 => .array .int
  | 3 => .array .int
  | 4 => .array .int
  | 5 => .array .int
  | 6 => .array .int
  | 7 => .array .int
  | 8 => .array .int
  | 9 => .array .int
  | 10 => .array .int
  | 11 => .array .int
  | 12 => .int
  | 13 => .array .int
  | 14 => .int
  | 15 => .int
  | 16 => .int
  | 17 => .int
  | 18 => .int
  | 19 => .int
  | 20 => .int
  | 21 => .int
  | 22 => .int
  | 23 => .int
  | 24 => .array .int
  | 25 => .array .int
  | 26 => .array .int
  | 27 => .array .int
  | 28 => .array .int
  | 29 => .array .int
  | 30 => .array .int
  | 31 => .array .int
  | 32 => .array .int
  | 33 => .array .int
  | 34 => .array .int
  | 35 => .array .int
  | 36 => .array .int
  | 37 => .array .int
  | 38 => .array .int
  | _ => .int
abbrev wsX100 : List Cond := u_ws RX10 TX10 40
theorem nmX10 : ∀ a, a < 40 → ∀ b, b < 40 → a ≠ b → (TX10 a).2.1 ≠ (TX10 b).2.1 := by decide +kernel
theorem tyX10_ok : ∀ k, k < 40 → parseFieldDescriptor (TX10 k).2.2.1 = some (tyX10 k) := by decide +kernel
abbrev cX10_init : ByteArray := prog_12_method_1_code
def yX10_init : MethodName := ⟨RX10, "<init>", "()V"⟩
abbrev cX10_in : ByteArray := prog_12_method_3_code
def yX10_in : MethodName := ⟨RX10, "in", "(III)Z"⟩
abbrev cX10_isOf : ByteArray := prog_12_method_4_code
def yX10_isOf : MethodName := ⟨RX10, "isOf", "(II)Z"⟩
abbrev cX10_lesser : ByteArray := prog_12_method_5_code
def yX10_lesser : MethodName := ⟨RX10, "lesser", "(II)I"⟩
abbrev cX10_bits : ByteArray := prog_12_method_6_code
def yX10_bits : MethodName := ⟨RX10, "bits", "(I)I"⟩
abbrev cX10_common : ByteArray := prog_12_method_7_code
def yX10_common : MethodName := ⟨RX10, "common", "(II)I"⟩
abbrev cX10_number : ByteArray := prog_12_method_8_code
def yX10_number : MethodName := ⟨RX10, "number", "(I)I"⟩
abbrev cX10_shops : ByteArray := prog_12_method_9_code
def yX10_shops : MethodName := ⟨RX10, "shops", "()I"⟩
abbrev cX10_days : ByteArray := prog_12_method_10_code
def yX10_days : MethodName := ⟨RX10, "days", "()I"⟩
abbrev cX10_isShop : ByteArray := prog_12_method_11_code
def yX10_isShop : MethodName := ⟨RX10, "isShop", "(I)Z"⟩
abbrev cX10_isDay : ByteArray := prog_12_method_12_code
def yX10_isDay : MethodName := ⟨RX10, "isDay", "(I)Z"⟩
abbrev cX10_four : ByteArray := prog_12_method_13_code
def yX10_four : MethodName := ⟨RX10, "four", "(I)V"⟩
abbrev cX10_feed : ByteArray := prog_12_method_14_code
def yX10_feed : MethodName := ⟨RX10, "feed", "(IIIII)I"⟩
abbrev cX10_end : ByteArray := prog_12_method_15_code
def yX10_end : MethodName := ⟨RX10, "end", "(I)I"⟩
abbrev cX10_byteAt : ByteArray := prog_12_method_16_code
def yX10_byteAt : MethodName := ⟨RX10, "byteAt", "(I)I"⟩
abbrev cX10_isSmall : ByteArray := prog_12_method_17_code
def yX10_isSmall : MethodName := ⟨RX10, "isSmall", "(I)Z"⟩
abbrev cX10_isDigit : ByteArray := prog_12_method_18_code
def yX10_isDigit : MethodName := ⟨RX10, "isDigit", "(I)Z"⟩
abbrev cX10_isGood : ByteArray := prog_12_method_19_code
def yX10_isGood : MethodName := ⟨RX10, "isGood", "()Z"⟩
abbrev cX10_fails : ByteArray := prog_12_method_20_code
def yX10_fails : MethodName := ⟨RX10, "fails", "(I)V"⟩
abbrev cX10_goOn : ByteArray := prog_12_method_21_code
def yX10_goOn : MethodName := ⟨RX10, "goOn", "()V"⟩
abbrev cX10_isWord : ByteArray := prog_12_method_22_code
def yX10_isWord : MethodName := ⟨RX10, "isWord", "(I)Z"⟩
abbrev cX10_isName : ByteArray := prog_12_method_23_code
def yX10_isName : MethodName := ⟨RX10, "isName", "()Z"⟩
abbrev cX10_called : ByteArray := prog_12_method_24_code
def yX10_called : MethodName := ⟨RX10, "called", "()I"⟩
abbrev cX10_readNumber : ByteArray := prog_12_method_25_code
def yX10_readNumber : MethodName := ⟨RX10, "readNumber", "(II)I"⟩
abbrev cX10_keyword : ByteArray := prog_12_method_26_code
def yX10_keyword : MethodName := ⟨RX10, "keyword", "(I)V"⟩
abbrev cX10_begins : ByteArray := prog_12_method_27_code
def yX10_begins : MethodName := ⟨RX10, "begins", "(I)Z"⟩
abbrev cX10_reads : ByteArray := prog_12_method_28_code
def yX10_reads : MethodName := ⟨RX10, "reads", "(III)V"⟩
abbrev cX10_readTruck : ByteArray := prog_12_method_29_code
def yX10_readTruck : MethodName := ⟨RX10, "readTruck", "()V"⟩
abbrev cX10_readShop : ByteArray := prog_12_method_30_code
def yX10_readShop : MethodName := ⟨RX10, "readShop", "()V"⟩
abbrev cX10_readRush : ByteArray := prog_12_method_31_code
def yX10_readRush : MethodName := ⟨RX10, "readRush", "()V"⟩
abbrev cX10_readLine : ByteArray := prog_12_method_32_code
def yX10_readLine : MethodName := ⟨RX10, "readLine", "()V"⟩
abbrev cX10_text : ByteArray := prog_12_method_33_code
def yX10_text : MethodName := ⟨RX10, "text", "()I"⟩
abbrev cX10_stands : ByteArray := prog_12_method_34_code
def yX10_stands : MethodName := ⟨RX10, "stands", "()V"⟩
abbrev cX10_fault : ByteArray := prog_12_method_35_code
def yX10_fault : MethodName := ⟨RX10, "fault", "(I)I"⟩
abbrev cX10_about : ByteArray := prog_12_method_36_code
def yX10_about : MethodName := ⟨RX10, "about", "(I)I"⟩
abbrev cX10_far : ByteArray := prog_12_method_37_code
def yX10_far : MethodName := ⟨RX10, "far", "(II)I"⟩
abbrev cX10_layWays : ByteArray := prog_12_method_38_code
def yX10_layWays : MethodName := ⟨RX10, "layWays", "()V"⟩
abbrev cX10_milesOf : ByteArray := prog_12_method_39_code
def yX10_milesOf : MethodName := ⟨RX10, "milesOf", "(I)I"⟩
abbrev cX10_costOfSet : ByteArray := prog_12_method_40_code
def yX10_costOfSet : MethodName := ⟨RX10, "costOfSet", "(I)I"⟩
abbrev cX10_miles : ByteArray := prog_12_method_41_code
def yX10_miles : MethodName := ⟨RX10, "miles", "(I)I"⟩
abbrev cX10_together : ByteArray := prog_12_method_42_code
def yX10_together : MethodName := ⟨RX10, "together", "(II)I"⟩
abbrev cX10_askedOf : ByteArray := prog_12_method_43_code
def yX10_askedOf : MethodName := ⟨RX10, "askedOf", "(II)I"⟩
abbrev cX10_layAsked : ByteArray := prog_12_method_44_code
def yX10_layAsked : MethodName := ⟨RX10, "layAsked", "(I)V"⟩
abbrev cX10_runShop : ByteArray := prog_12_method_45_code
def yX10_runShop : MethodName := ⟨RX10, "runShop", "(II)V"⟩
abbrev cX10_runAll : ByteArray := prog_12_method_46_code
def yX10_runAll : MethodName := ⟨RX10, "runAll", "()V"⟩
abbrev cX10_layRun : ByteArray := prog_12_method_47_code
def yX10_layRun : MethodName := ⟨RX10, "layRun", "()V"⟩
abbrev cX10_isAt : ByteArray := prog_12_method_48_code
def yX10_isAt : MethodName := ⟨RX10, "isAt", "(II)Z"⟩
abbrev cX10_shop : ByteArray := prog_12_method_49_code
def yX10_shop : MethodName := ⟨RX10, "shop", "(II)I"⟩
abbrev cX10_load : ByteArray := prog_12_method_50_code
def yX10_load : MethodName := ⟨RX10, "load", "(II)I"⟩
abbrev cX10_stock : ByteArray := prog_12_method_51_code
def yX10_stock : MethodName := ⟨RX10, "stock", "(II)I"⟩
abbrev cX10_lost : ByteArray := prog_12_method_52_code
def yX10_lost : MethodName := ⟨RX10, "lost", "(II)I"⟩
abbrev cX10_lostBy : ByteArray := prog_12_method_53_code
def yX10_lostBy : MethodName := ⟨RX10, "lostBy", "(I)I"⟩
abbrev cX10_of : ByteArray := prog_12_method_54_code
def yX10_of : MethodName := ⟨RX10, "of", "(II)I"⟩
abbrev cX10_firstLost : ByteArray := prog_12_method_55_code
def yX10_firstLost : MethodName := ⟨RX10, "firstLost", "(II)I"⟩
abbrev cX10_empty : ByteArray := prog_12_method_56_code
def yX10_empty : MethodName := ⟨RX10, "empty", "(I)I"⟩
abbrev cX10_bears : ByteArray := prog_12_method_57_code
def yX10_bears : MethodName := ⟨RX10, "bears", "(II)I"⟩
abbrev cX10_waits : ByteArray := prog_12_method_58_code
def yX10_waits : MethodName := ⟨RX10, "waits", "(II)I"⟩
abbrev cX10_chance : ByteArray := prog_12_method_59_code
def yX10_chance : MethodName := ⟨RX10, "chance", "(IIII)I"⟩
abbrev cX10_lostByDraws : ByteArray := prog_12_method_60_code
def yX10_lostByDraws : MethodName := ⟨RX10, "lostByDraws", "(II)I"⟩
abbrev cX10_loadsOf : ByteArray := prog_12_method_61_code
def yX10_loadsOf : MethodName := ⟨RX10, "loadsOf", "(I)I"⟩
abbrev cX10_layLoads : ByteArray := prog_12_method_62_code
def yX10_layLoads : MethodName := ⟨RX10, "layLoads", "(I)I"⟩
abbrev cX10_layPart : ByteArray := prog_12_method_63_code
def yX10_layPart : MethodName := ⟨RX10, "layPart", "(II)V"⟩
abbrev cX10_layParts : ByteArray := prog_12_method_64_code
def yX10_layParts : MethodName := ⟨RX10, "layParts", "(II)I"⟩
abbrev cX10_roundsCost : ByteArray := prog_12_method_65_code
def yX10_roundsCost : MethodName := ⟨RX10, "roundsCost", "(II)I"⟩
abbrev cX10_rounds : ByteArray := prog_12_method_66_code
def yX10_rounds : MethodName := ⟨RX10, "rounds", "(I)I"⟩
abbrev cX10_roundOf : ByteArray := prog_12_method_67_code
def yX10_roundOf : MethodName := ⟨RX10, "roundOf", "(II)I"⟩
abbrev cX10_onWay : ByteArray := prog_12_method_68_code
def yX10_onWay : MethodName := ⟨RX10, "onWay", "(II)I"⟩
abbrev cX10_round : ByteArray := prog_12_method_69_code
def yX10_round : MethodName := ⟨RX10, "round", "(III)I"⟩
abbrev cX10_aboard : ByteArray := prog_12_method_70_code
def yX10_aboard : MethodName := ⟨RX10, "aboard", "(III)I"⟩
abbrev cX10_joins : ByteArray := prog_12_method_71_code
def yX10_joins : MethodName := ⟨RX10, "joins", "(I)Z"⟩
abbrev cX10_savings : ByteArray := prog_12_method_72_code
def yX10_savings : MethodName := ⟨RX10, "savings", "(II)I"⟩
abbrev cX10_orders : ByteArray := prog_12_method_73_code
def yX10_orders : MethodName := ⟨RX10, "orders", "(I)I"⟩
abbrev cX10_share : ByteArray := prog_12_method_74_code
def yX10_share : MethodName := ⟨RX10, "share", "(III)I"⟩
abbrev cX10_peak : ByteArray := prog_12_method_75_code
def yX10_peak : MethodName := ⟨RX10, "peak", "(I)I"⟩
abbrev cX10_allRounds : ByteArray := prog_12_method_76_code
def yX10_allRounds : MethodName := ⟨RX10, "allRounds", "(I)I"⟩
abbrev cX10_stocks : ByteArray := prog_12_method_77_code
def yX10_stocks : MethodName := ⟨RX10, "stocks", "(I)I"⟩
abbrev cX10_allStocks : ByteArray := prog_12_method_78_code
def yX10_allStocks : MethodName := ⟨RX10, "allStocks", "()I"⟩
abbrev cX10_allLost : ByteArray := prog_12_method_79_code
def yX10_allLost : MethodName := ⟨RX10, "allLost", "()I"⟩
abbrev cX10_costNow : ByteArray := prog_12_method_80_code
def yX10_costNow : MethodName := ⟨RX10, "costNow", "()I"⟩
abbrev cX10_cost : ByteArray := prog_12_method_81_code
def yX10_cost : MethodName := ⟨RX10, "cost", "(I)I"⟩
abbrev cX10_costOf : ByteArray := prog_12_method_82_code
def yX10_costOf : MethodName := ⟨RX10, "costOf", "(I)I"⟩
abbrev cX10_worth : ByteArray := prog_12_method_83_code
def yX10_worth : MethodName := ⟨RX10, "worth", "(II)I"⟩
abbrev cX10_truck : ByteArray := prog_12_method_84_code
def yX10_truck : MethodName := ⟨RX10, "truck", "(I)I"⟩
abbrev cX10_reach : ByteArray := prog_12_method_85_code
def yX10_reach : MethodName := ⟨RX10, "reach", "()I"⟩
abbrev cX10_scaled : ByteArray := prog_12_method_86_code
def yX10_scaled : MethodName := ⟨RX10, "scaled", "(I)I"⟩
abbrev cX10_soloCost : ByteArray := prog_12_method_87_code
def yX10_soloCost : MethodName := ⟨RX10, "soloCost", "(II)I"⟩
abbrev cX10_alone : ByteArray := prog_12_method_88_code
def yX10_alone : MethodName := ⟨RX10, "alone", "(II)I"⟩
abbrev cX10_everySet : ByteArray := prog_12_method_89_code
def yX10_everySet : MethodName := ⟨RX10, "everySet", "(II)I"⟩
abbrev cX10_every : ByteArray := prog_12_method_90_code
def yX10_every : MethodName := ⟨RX10, "every", "(II)I"⟩
abbrev cX10_layBetween : ByteArray := prog_12_method_91_code
def yX10_layBetween : MethodName := ⟨RX10, "layBetween", "()V"⟩
abbrev cX10_costBy : ByteArray := prog_12_method_92_code
def yX10_costBy : MethodName := ⟨RX10, "costBy", "(I)I"⟩
abbrev cX10_joint : ByteArray := prog_12_method_93_code
def yX10_joint : MethodName := ⟨RX10, "joint", "(I)I"⟩
abbrev cX10_keep : ByteArray := prog_12_method_94_code
def yX10_keep : MethodName := ⟨RX10, "keep", "()V"⟩
abbrev cX10_puts : ByteArray := prog_12_method_95_code
def yX10_puts : MethodName := ⟨RX10, "puts", "()V"⟩
abbrev cX10_undo : ByteArray := prog_12_method_96_code
def yX10_undo : MethodName := ⟨RX10, "undo", "()Z"⟩
abbrev cX10_allVisits : ByteArray := prog_12_method_97_code
def yX10_allVisits : MethodName := ⟨RX10, "allVisits", "()I"⟩
abbrev cX10_visit : ByteArray := prog_12_method_98_code
def yX10_visit : MethodName := ⟨RX10, "visit", "(II)I"⟩
abbrev cX10_rule : ByteArray := prog_12_method_99_code
def yX10_rule : MethodName := ⟨RX10, "rule", "(I)I"⟩
abbrev cX10_morning : ByteArray := prog_12_method_100_code
def yX10_morning : MethodName := ⟨RX10, "morning", "(II)I"⟩
abbrev cX10_askedFor : ByteArray := prog_12_method_101_code
def yX10_askedFor : MethodName := ⟨RX10, "askedFor", "(III)I"⟩
abbrev cX10_helps : ByteArray := prog_12_method_102_code
def yX10_helps : MethodName := ⟨RX10, "helps", "(III)Z"⟩
abbrev cX10_moves : ByteArray := prog_12_method_103_code
def yX10_moves : MethodName := ⟨RX10, "moves", "(I)Z"⟩
abbrev cX10_tunes : ByteArray := prog_12_method_104_code
def yX10_tunes : MethodName := ⟨RX10, "tunes", "(I)Z"⟩
abbrev cX10_betters : ByteArray := prog_12_method_105_code
def yX10_betters : MethodName := ⟨RX10, "betters", "(IZ)I"⟩
abbrev cX10_better : ByteArray := prog_12_method_106_code
def yX10_better : MethodName := ⟨RX10, "better", "(I)I"⟩
abbrev cX10_tune : ByteArray := prog_12_method_107_code
def yX10_tune : MethodName := ⟨RX10, "tune", "(I)I"⟩
abbrev cX10_wouldChange : ByteArray := prog_12_method_108_code
def yX10_wouldChange : MethodName := ⟨RX10, "wouldChange", "(Z)Z"⟩
abbrev cX10_plan : ByteArray := prog_12_method_109_code
def yX10_plan : MethodName := ⟨RX10, "plan", "(I)V"⟩
abbrev cX10_least : ByteArray := prog_12_method_110_code
def yX10_least : MethodName := ⟨RX10, "least", "()I"⟩
abbrev cX10_clear : ByteArray := prog_12_method_111_code
def yX10_clear : MethodName := ⟨RX10, "clear", "()I"⟩
abbrev cX10_rush : ByteArray := prog_12_method_112_code
def yX10_rush : MethodName := ⟨RX10, "rush", "(III)I"⟩
def RJx145de : String := "java/io/Serializable"
def TJx145de : u_T := fun k => match k with
  | _ => ("", "", "", false)
def tyJx145de : Nat → FieldType := fun k => match k with
  | _ => .int
abbrev wsJx145de0 : List Cond := u_ws RJx145de TJx145de 0
theorem nmJx145de : ∀ a, a < 0 → ∀ b, b < 0 → a ≠ b → (TJx145de a).2.1 ≠ (TJx145de b).2.1 := by decide +kernel
theorem tyJx145de_ok : ∀ k, k < 0 → parseFieldDescriptor (TJx145de k).2.2.1 = some (tyJx145de k) := by decide +kernel
def RJx9f9b0 : String := "java/lang/CharSequence"
def TJx9f9b0 : u_T := fun k => match k with
  | _ => ("", "", "", false)
def tyJx9f9b0 : Nat → FieldType := fun k => match k with
  | _ => .int
abbrev wsJx9f9b00 : List Cond := u_ws RJx9f9b0 TJx9f9b0 0
theorem nmJx9f9b0 : ∀ a, a < 0 → ∀ b, b < 0 → a ≠ b → (TJx9f9b0 a).2.1 ≠ (TJx9f9b0 b).2.1 := by decide +kernel
theorem tyJx9f9b0_ok : ∀ k, k < 0 → parseFieldDescriptor (TJx9f9b0 k).2.2.1 = some (tyJx9f9b0 k) := by decide +kernel
def RJxb160c : String := "java/lang/Comparable"
def TJxb160c : u_T := fun k => match k with
  | _ => ("", "", "", false)
def tyJxb160c : Nat → FieldType := fun k => match k with
  | _ => .int
abbrev wsJxb160c0 : List Cond := u_ws RJxb160c TJxb160c 0
theorem nmJxb160c : ∀ a, a < 0 → ∀ b, b < 0 → a ≠ b → (TJxb160c a).2.1 ≠ (TJxb160c b).2.1 := by decide +kernel
theorem tyJxb160c_ok : ∀ k, k < 0 → parseFieldDescriptor (TJxb160c k).2.2.1 = some (tyJxb160c k) := by decide +kernel
def RJ6 : String := "java/lang/Integer"
def TJ6 : u_T := fun k => match k with
  | _ => ("", "", "", false)
def tyJ6 : Nat → FieldType := fun k => match k with
  | _ => .int
abbrev wsJ60 : List Cond := u_ws RJ6 TJ6 0
theorem nmJ6 : ∀ a, a < 0 → ∀ b, b < 0 → a ≠ b → (TJ6 a).2.1 ≠ (TJ6 b).2.1 := by decide +kernel
theorem tyJ6_ok : ∀ k, k < 0 → parseFieldDescriptor (TJ6 k).2.2.1 = some (tyJ6 k) := by decide +kernel
abbrev cJ6_bitCount_0f7a4 : ByteArray := prog_13_method_49_code
def yJ6_bitCount_0f7a4 : MethodName := ⟨RJ6, "bitCount", "(I)I"⟩
def RJ9 : String := "java/lang/Math"
def TJ9 : u_T := fun k => match k with
  | _ => ("", "", "", false)
def tyJ9 : Nat → FieldType := fun k => match k with
  | _ => .int
abbrev wsJ90 : List Cond := u_ws RJ9 TJ9 0
theorem nmJ9 : ∀ a, a < 0 → ∀ b, b < 0 → a ≠ b → (TJ9 a).2.1 ≠ (TJ9 b).2.1 := by decide +kernel
theorem tyJ9_ok : ∀ k, k < 0 → parseFieldDescriptor (TJ9 k).2.2.1 = some (tyJ9 k) := by decide +kernel
abbrev cJ9_abs_0f7a4 : ByteArray := prog_14_method_59_code
def yJ9_abs_0f7a4 : MethodName := ⟨RJ9, "abs", "(I)I"⟩
abbrev cJ9_max_7cf53 : ByteArray := prog_14_method_65_code
def yJ9_max_7cf53 : MethodName := ⟨RJ9, "max", "(II)I"⟩
abbrev cJ9_min_7cf53 : ByteArray := prog_14_method_69_code
def yJ9_min_7cf53 : MethodName := ⟨RJ9, "min", "(II)I"⟩
def RJ0 : String := "java/lang/String"
def TJ0 : u_T := fun k => match k with
  | _ => ("", "", "", false)
def tyJ0 : Nat → FieldType := fun k => match k with
  | _ => .int
abbrev wsJ00 : List Cond := u_ws RJ0 TJ0 0
theorem nmJ0 : ∀ a, a < 0 → ∀ b, b < 0 → a ≠ b → (TJ0 a).2.1 ≠ (TJ0 b).2.1 := by decide +kernel
theorem tyJ0_ok : ∀ k, k < 0 → parseFieldDescriptor (TJ0 k).2.2.1 = some (tyJ0 k) := by decide +kernel
abbrev cJ0_length_8abf5 : ByteArray := prog_15_method_54_code
def yJ0_length_8abf5 : MethodName := ⟨RJ0, "length", "()I"⟩
abbrev cJ0_charAt_5068e : ByteArray := prog_15_method_56_code
def yJ0_charAt_5068e : MethodName := ⟨RJ0, "charAt", "(I)C"⟩
abbrev cJ0_coder_7d493 : ByteArray := prog_15_method_152_code
def yJ0_coder_7d493 : MethodName := ⟨RJ0, "coder", "()B"⟩
abbrev cJ0_isLatin1_aae02 : ByteArray := prog_15_method_154_code
def yJ0_isLatin1_aae02 : MethodName := ⟨RJ0, "isLatin1", "()Z"⟩
abbrev cJ0_checkIndex_df160 : ByteArray := prog_15_method_155_code
def yJ0_checkIndex_df160 : MethodName := ⟨RJ0, "checkIndex", "(II)V"⟩
def RJ1 : String := "java/lang/StringLatin1"
def TJ1 : u_T := fun k => match k with
  | _ => ("", "", "", false)
def tyJ1 : Nat → FieldType := fun k => match k with
  | _ => .int
abbrev wsJ10 : List Cond := u_ws RJ1 TJ1 0
theorem nmJ1 : ∀ a, a < 0 → ∀ b, b < 0 → a ≠ b → (TJ1 a).2.1 ≠ (TJ1 b).2.1 := by decide +kernel
theorem tyJ1_ok : ∀ k, k < 0 → parseFieldDescriptor (TJ1 k).2.2.1 = some (tyJ1 k) := by decide +kernel
abbrev cJ1_charAt_3b067 : ByteArray := prog_16_method_2_code
def yJ1_charAt_3b067 : MethodName := ⟨RJ1, "charAt", "([BI)C"⟩
def RJ2 : String := "java/lang/StringUTF16"
def TJ2 : u_T := fun k => match k with
  | _ => ("", "", "", false)
def tyJ2 : Nat → FieldType := fun k => match k with
  | _ => .int
abbrev wsJ20 : List Cond := u_ws RJ2 TJ2 0
theorem nmJ2 : ∀ a, a < 0 → ∀ b, b < 0 → a ≠ b → (TJ2 a).2.1 ≠ (TJ2 b).2.1 := by decide +kernel
theorem tyJ2_ok : ∀ k, k < 0 → parseFieldDescriptor (TJ2 k).2.2.1 = some (tyJ2 k) := by decide +kernel
abbrev cJ2_getChar_3b067 : ByteArray := prog_17_method_5_code
def yJ2_getChar_3b067 : MethodName := ⟨RJ2, "getChar", "([BI)C"⟩
abbrev cJ2_length_9d52b : ByteArray := prog_17_method_6_code
def yJ2_length_9d52b : MethodName := ⟨RJ2, "length", "([B)I"⟩
abbrev cJ2_charAt_3b067 : ByteArray := prog_17_method_83_code
def yJ2_charAt_3b067 : MethodName := ⟨RJ2, "charAt", "([BI)C"⟩
abbrev cJ2_checkIndex_2214a : ByteArray := prog_17_method_91_code
def yJ2_checkIndex_2214a : MethodName := ⟨RJ2, "checkIndex", "(I[B)V"⟩
def RJ10 : String := "java/lang/System"
def TJ10 : u_T := fun k => match k with
  | _ => ("", "", "", false)
def tyJ10 : Nat → FieldType := fun k => match k with
  | _ => .int
abbrev wsJ100 : List Cond := u_ws RJ10 TJ10 0
theorem nmJ10 : ∀ a, a < 0 → ∀ b, b < 0 → a ≠ b → (TJ10 a).2.1 ≠ (TJ10 b).2.1 := by decide +kernel
theorem tyJ10_ok : ∀ k, k < 0 → parseFieldDescriptor (TJ10 k).2.2.1 = some (tyJ10 k) := by decide +kernel
def RJxfd54e : String := "java/lang/constant/Constable"
def TJxfd54e : u_T := fun k => match k with
  | _ => ("", "", "", false)
def tyJxfd54e : Nat → FieldType := fun k => match k with
  | _ => .int
abbrev wsJxfd54e0 : List Cond := u_ws RJxfd54e TJxfd54e 0
theorem nmJxfd54e : ∀ a, a < 0 → ∀ b, b < 0 → a ≠ b → (TJxfd54e a).2.1 ≠ (TJxfd54e b).2.1 := by decide +kernel
theorem tyJxfd54e_ok : ∀ k, k < 0 → parseFieldDescriptor (TJxfd54e k).2.2.1 = some (tyJxfd54e k) := by decide +kernel
def RJx3cf43 : String := "java/lang/constant/ConstantDesc"
def TJx3cf43 : u_T := fun k => match k with
  | _ => ("", "", "", false)
def tyJx3cf43 : Nat → FieldType := fun k => match k with
  | _ => .int
abbrev wsJx3cf430 : List Cond := u_ws RJx3cf43 TJx3cf43 0
theorem nmJx3cf43 : ∀ a, a < 0 → ∀ b, b < 0 → a ≠ b → (TJx3cf43 a).2.1 ≠ (TJx3cf43 b).2.1 := by decide +kernel
theorem tyJx3cf43_ok : ∀ k, k < 0 → parseFieldDescriptor (TJx3cf43 k).2.2.1 = some (tyJx3cf43 k) := by decide +kernel
def RJ7 : String := "java/util/Arrays"
def TJ7 : u_T := fun k => match k with
  | _ => ("", "", "", false)
def tyJ7 : Nat → FieldType := fun k => match k with
  | _ => .int
abbrev wsJ70 : List Cond := u_ws RJ7 TJ7 0
theorem nmJ7 : ∀ a, a < 0 → ∀ b, b < 0 → a ≠ b → (TJ7 a).2.1 ≠ (TJ7 b).2.1 := by decide +kernel
theorem tyJ7_ok : ∀ k, k < 0 → parseFieldDescriptor (TJ7 k).2.2.1 = some (tyJ7 k) := by decide +kernel
abbrev cJ7_fill_53178 : ByteArray := prog_19_method_103_code
def yJ7_fill_53178 : MethodName := ⟨RJ7, "fill", "([II)V"⟩
def RJ3 : String := "jdk/internal/util/Preconditions"
def TJ3 : u_T := fun k => match k with
  | _ => ("", "", "", false)
def tyJ3 : Nat → FieldType := fun k => match k with
  | _ => .int
abbrev wsJ30 : List Cond := u_ws RJ3 TJ3 0
theorem nmJ3 : ∀ a, a < 0 → ∀ b, b < 0 → a ≠ b → (TJ3 a).2.1 ≠ (TJ3 b).2.1 := by decide +kernel
theorem tyJ3_ok : ∀ k, k < 0 → parseFieldDescriptor (TJ3 k).2.2.1 = some (tyJ3 k) := by decide +kernel
abbrev cJ3_checkIndex_8e157 : ByteArray := prog_20_method_11_code
def yJ3_checkIndex_8e157 : MethodName := ⟨RJ3, "checkIndex", "(IILjava/util/function/BiFunction;)I"⟩
def RL : String := "ShelfDrivesLaw"
abbrev cL_law : ByteArray := code
def yL_law : MethodName := ⟨RL, "law", "([I)Z"⟩
abbrev vwCl : List vw_C := [(RX0, TX0, 2), (RX1, TX1, 7), (RX2, TX2, 7), (RX3, TX3, 4), (RX4, TX4, 15), (RX5, TX5, 11), (RX6, TX6, 5), (RX7, TX7, 15), (RX8, TX8, 4), (RX9, TX9, 13), (RX10, TX10, 40)]
/-- the words that every method of the system is given -/
def TB : List Cond := lw_tbl.filter goodWord
