section
-- ===== PART A: goes FIRST, ahead of the names: the tables' words, and 'selects' of the private methods out of them =====
/-- a private method of a class that the tables say can be made, by its rows of tables_1 -/
def lw_okq (q : MethodName × Nat) : Prop := (q.1.cls ≠ "java/lang/invoke/MethodHandle" ∧ q.1.cls ≠ "java/lang/invoke/VarHandle") ∧ Cond.instantiable q.1.cls q.2 ∈ tables_1 ∧ Cond.privateMethod q.1 ∈ tables_1 ∧ Cond.instanceMethod q.1 ∈ tables_1
theorem lw_p0 : lw_okq (⟨"MirrorGroup", "isVolume", "(I)Z"⟩, 9) := ⟨⟨by decide +kernel, by decide +kernel⟩, List.mem_of_getElem? (i := 14) (by decide +kernel), List.mem_of_getElem? (i := 65) (by decide +kernel), List.mem_of_getElem? (i := 66) (by decide +kernel)⟩
theorem lw_p1 : lw_okq (⟨"MirrorGroup", "requirePower", "()V"⟩, 9) := ⟨⟨by decide +kernel, by decide +kernel⟩, List.mem_of_getElem? (i := 14) (by decide +kernel), List.mem_of_getElem? (i := 123) (by decide +kernel), List.mem_of_getElem? (i := 124) (by decide +kernel)⟩
theorem lw_p2 : lw_okq (⟨"java/lang/Throwable", "fillInStackTrace", "(I)Ljava/lang/Throwable;"⟩, 6) := ⟨⟨by decide +kernel, by decide +kernel⟩, List.mem_of_getElem? (i := 166) (by decide +kernel), List.mem_of_getElem? (i := 164) (by decide +kernel), List.mem_of_getElem? (i := 165) (by decide +kernel)⟩
theorem lw_p3 : lw_okq (⟨"MirrorGroup", "writeHeader", "()V"⟩, 9) := ⟨⟨by decide +kernel, by decide +kernel⟩, List.mem_of_getElem? (i := 14) (by decide +kernel), List.mem_of_getElem? (i := 208) (by decide +kernel), List.mem_of_getElem? (i := 209) (by decide +kernel)⟩
theorem lw_p4 : lw_okq (⟨"MirrorGroup", "writeHeaderOn", "(I)V"⟩, 9) := ⟨⟨by decide +kernel, by decide +kernel⟩, List.mem_of_getElem? (i := 14) (by decide +kernel), List.mem_of_getElem? (i := 216) (by decide +kernel), List.mem_of_getElem? (i := 217) (by decide +kernel)⟩
theorem lw_p5 : lw_okq (⟨"MirrorGroup", "spendWrite", "()V"⟩, 9) := ⟨⟨by decide +kernel, by decide +kernel⟩, List.mem_of_getElem? (i := 14) (by decide +kernel), List.mem_of_getElem? (i := 220) (by decide +kernel), List.mem_of_getElem? (i := 221) (by decide +kernel)⟩
theorem lw_p6 : lw_okq (⟨"MirrorGroup", "headerOn", "(I)LMirrorGroup$Header;"⟩, 9) := ⟨⟨by decide +kernel, by decide +kernel⟩, List.mem_of_getElem? (i := 14) (by decide +kernel), List.mem_of_getElem? (i := 225) (by decide +kernel), List.mem_of_getElem? (i := 226) (by decide +kernel)⟩
theorem lw_p7 : lw_okq (⟨"MirrorGroup", "requireBlock", "(III)V"⟩, 9) := ⟨⟨by decide +kernel, by decide +kernel⟩, List.mem_of_getElem? (i := 14) (by decide +kernel), List.mem_of_getElem? (i := 244) (by decide +kernel), List.mem_of_getElem? (i := 245) (by decide +kernel)⟩
theorem lw_p8 : lw_okq (⟨"MirrorGroup", "requireVolume", "(I)V"⟩, 9) := ⟨⟨by decide +kernel, by decide +kernel⟩, List.mem_of_getElem? (i := 14) (by decide +kernel), List.mem_of_getElem? (i := 248) (by decide +kernel), List.mem_of_getElem? (i := 249) (by decide +kernel)⟩
theorem lw_p9 : lw_okq (⟨"MirrorGroup", "requireSide", "(I)V"⟩, 9) := ⟨⟨by decide +kernel, by decide +kernel⟩, List.mem_of_getElem? (i := 14) (by decide +kernel), List.mem_of_getElem? (i := 268) (by decide +kernel), List.mem_of_getElem? (i := 269) (by decide +kernel)⟩
theorem lw_p10 : lw_okq (⟨"MirrorGroup", "requireBlockNumber", "(I)V"⟩, 9) := ⟨⟨by decide +kernel, by decide +kernel⟩, List.mem_of_getElem? (i := 14) (by decide +kernel), List.mem_of_getElem? (i := 273) (by decide +kernel), List.mem_of_getElem? (i := 274) (by decide +kernel)⟩
theorem lw_p11 : lw_okq (⟨"MirrorGroup", "requireWord", "(I)V"⟩, 9) := ⟨⟨by decide +kernel, by decide +kernel⟩, List.mem_of_getElem? (i := 14) (by decide +kernel), List.mem_of_getElem? (i := 278) (by decide +kernel), List.mem_of_getElem? (i := 279) (by decide +kernel)⟩
theorem lw_p12 : lw_okq (⟨"MirrorGroup", "sideInUse", "(II)I"⟩, 9) := ⟨⟨by decide +kernel, by decide +kernel⟩, List.mem_of_getElem? (i := 14) (by decide +kernel), List.mem_of_getElem? (i := 283) (by decide +kernel), List.mem_of_getElem? (i := 284) (by decide +kernel)⟩
theorem lw_p13 : lw_okq (⟨"MirrorGroup", "putFresh", "(III)V"⟩, 9) := ⟨⟨by decide +kernel, by decide +kernel⟩, List.mem_of_getElem? (i := 14) (by decide +kernel), List.mem_of_getElem? (i := 291) (by decide +kernel), List.mem_of_getElem? (i := 292) (by decide +kernel)⟩
theorem lw_p14 : lw_okq (⟨"MirrorGroup", "markBeforeWrite", "(III)V"⟩, 9) := ⟨⟨by decide +kernel, by decide +kernel⟩, List.mem_of_getElem? (i := 14) (by decide +kernel), List.mem_of_getElem? (i := 295) (by decide +kernel), List.mem_of_getElem? (i := 296) (by decide +kernel)⟩
theorem lw_p15 : lw_okq (⟨"MirrorGroup", "writeFresh", "(III)V"⟩, 9) := ⟨⟨by decide +kernel, by decide +kernel⟩, List.mem_of_getElem? (i := 14) (by decide +kernel), List.mem_of_getElem? (i := 303) (by decide +kernel), List.mem_of_getElem? (i := 304) (by decide +kernel)⟩
def lw_privs_1 : List (MethodName × Nat) := [(⟨"MirrorGroup", "isVolume", "(I)Z"⟩, 9), (⟨"MirrorGroup", "requirePower", "()V"⟩, 9), (⟨"java/lang/Throwable", "fillInStackTrace", "(I)Ljava/lang/Throwable;"⟩, 6), (⟨"MirrorGroup", "writeHeader", "()V"⟩, 9), (⟨"MirrorGroup", "writeHeaderOn", "(I)V"⟩, 9), (⟨"MirrorGroup", "spendWrite", "()V"⟩, 9), (⟨"MirrorGroup", "headerOn", "(I)LMirrorGroup$Header;"⟩, 9), (⟨"MirrorGroup", "requireBlock", "(III)V"⟩, 9), (⟨"MirrorGroup", "requireVolume", "(I)V"⟩, 9), (⟨"MirrorGroup", "requireSide", "(I)V"⟩, 9), (⟨"MirrorGroup", "requireBlockNumber", "(I)V"⟩, 9), (⟨"MirrorGroup", "requireWord", "(I)V"⟩, 9), (⟨"MirrorGroup", "sideInUse", "(II)I"⟩, 9), (⟨"MirrorGroup", "putFresh", "(III)V"⟩, 9), (⟨"MirrorGroup", "markBeforeWrite", "(III)V"⟩, 9), (⟨"MirrorGroup", "writeFresh", "(III)V"⟩, 9)]
theorem lw_r1 : ∀ q ∈ lw_privs_1, lw_okq q := List.forall_mem_cons.mpr ⟨lw_p0, List.forall_mem_cons.mpr ⟨lw_p1, List.forall_mem_cons.mpr ⟨lw_p2, List.forall_mem_cons.mpr ⟨lw_p3, List.forall_mem_cons.mpr ⟨lw_p4, List.forall_mem_cons.mpr ⟨lw_p5, List.forall_mem_cons.mpr ⟨lw_p6, List.forall_mem_cons.mpr ⟨lw_p7, List.forall_mem_cons.mpr ⟨lw_p8, List.forall_mem_cons.mpr ⟨lw_p9, List.forall_mem_cons.mpr ⟨lw_p10, List.forall_mem_cons.mpr ⟨lw_p11, List.forall_mem_cons.mpr ⟨lw_p12, List.forall_mem_cons.mpr ⟨lw_p13, List.forall_mem_cons.mpr ⟨lw_p14, List.forall_mem_cons.mpr ⟨lw_p15, fun _ h => absurd h List.not_mem_nil⟩⟩⟩⟩⟩⟩⟩⟩⟩⟩⟩⟩⟩⟩⟩⟩
theorem lw_p16 : lw_okq (⟨"MirrorGroup", "enterBeforeWrite", "(II)V"⟩, 9) := ⟨⟨by decide +kernel, by decide +kernel⟩, List.mem_of_getElem? (i := 14) (by decide +kernel), List.mem_of_getElem? (i := 316) (by decide +kernel), List.mem_of_getElem? (i := 317) (by decide +kernel)⟩
theorem lw_p17 : lw_okq (⟨"MirrorGroup$Header", "windowSize", "()I"⟩, 1) := ⟨⟨by decide +kernel, by decide +kernel⟩, List.mem_of_getElem? (i := 22) (by decide +kernel), List.mem_of_getElem? (i := 329) (by decide +kernel), List.mem_of_getElem? (i := 330) (by decide +kernel)⟩
theorem lw_p18 : lw_okq (⟨"MirrorGroup", "requireRejoining", "(I)V"⟩, 9) := ⟨⟨by decide +kernel, by decide +kernel⟩, List.mem_of_getElem? (i := 14) (by decide +kernel), List.mem_of_getElem? (i := 394) (by decide +kernel), List.mem_of_getElem? (i := 395) (by decide +kernel)⟩
theorem lw_p19 : lw_okq (⟨"MirrorGroup", "isRejoining", "(I)Z"⟩, 9) := ⟨⟨by decide +kernel, by decide +kernel⟩, List.mem_of_getElem? (i := 14) (by decide +kernel), List.mem_of_getElem? (i := 398) (by decide +kernel), List.mem_of_getElem? (i := 399) (by decide +kernel)⟩
theorem lw_p20 : lw_okq (⟨"MirrorGroup", "copyNextRegion", "(I)V"⟩, 9) := ⟨⟨by decide +kernel, by decide +kernel⟩, List.mem_of_getElem? (i := 14) (by decide +kernel), List.mem_of_getElem? (i := 403) (by decide +kernel), List.mem_of_getElem? (i := 404) (by decide +kernel)⟩
theorem lw_p21 : lw_okq (⟨"MirrorGroup", "makeSame", "(II)V"⟩, 9) := ⟨⟨by decide +kernel, by decide +kernel⟩, List.mem_of_getElem? (i := 14) (by decide +kernel), List.mem_of_getElem? (i := 412) (by decide +kernel), List.mem_of_getElem? (i := 413) (by decide +kernel)⟩
theorem lw_p22 : lw_okq (⟨"MirrorGroup", "isSameOnBothSides", "(II)Z"⟩, 9) := ⟨⟨by decide +kernel, by decide +kernel⟩, List.mem_of_getElem? (i := 14) (by decide +kernel), List.mem_of_getElem? (i := 416) (by decide +kernel), List.mem_of_getElem? (i := 417) (by decide +kernel)⟩
theorem lw_p23 : lw_okq (⟨"MirrorGroup", "writeFromSide", "(III)V"⟩, 9) := ⟨⟨by decide +kernel, by decide +kernel⟩, List.mem_of_getElem? (i := 14) (by decide +kernel), List.mem_of_getElem? (i := 420) (by decide +kernel), List.mem_of_getElem? (i := 421) (by decide +kernel)⟩
theorem lw_p24 : lw_okq (⟨"MirrorGroup", "requireRoomOf", "(I)V"⟩, 9) := ⟨⟨by decide +kernel, by decide +kernel⟩, List.mem_of_getElem? (i := 14) (by decide +kernel), List.mem_of_getElem? (i := 449) (by decide +kernel), List.mem_of_getElem? (i := 450) (by decide +kernel)⟩
theorem lw_p25 : lw_okq (⟨"MirrorGroup", "takeNewerHeader", "()V"⟩, 9) := ⟨⟨by decide +kernel, by decide +kernel⟩, List.mem_of_getElem? (i := 14) (by decide +kernel), List.mem_of_getElem? (i := 505) (by decide +kernel), List.mem_of_getElem? (i := 506) (by decide +kernel)⟩
theorem lw_p26 : lw_okq (⟨"MirrorGroup", "mendWindow", "()V"⟩, 9) := ⟨⟨by decide +kernel, by decide +kernel⟩, List.mem_of_getElem? (i := 14) (by decide +kernel), List.mem_of_getElem? (i := 513) (by decide +kernel), List.mem_of_getElem? (i := 514) (by decide +kernel)⟩
theorem lw_p27 : lw_okq (⟨"MirrorGroup", "mendRegion", "(II)V"⟩, 9) := ⟨⟨by decide +kernel, by decide +kernel⟩, List.mem_of_getElem? (i := 14) (by decide +kernel), List.mem_of_getElem? (i := 517) (by decide +kernel), List.mem_of_getElem? (i := 518) (by decide +kernel)⟩
theorem lw_p28 : lw_okq (⟨"MirrorGroupModel", "next", "()Z"⟩, 10) := ⟨⟨by decide +kernel, by decide +kernel⟩, List.mem_of_getElem? (i := 525) (by decide +kernel), List.mem_of_getElem? (i := 570) (by decide +kernel), List.mem_of_getElem? (i := 571) (by decide +kernel)⟩
theorem lw_p29 : lw_okq (⟨"MirrorGroupModel", "writeHeader", "(I)Z"⟩, 10) := ⟨⟨by decide +kernel, by decide +kernel⟩, List.mem_of_getElem? (i := 525) (by decide +kernel), List.mem_of_getElem? (i := 574) (by decide +kernel), List.mem_of_getElem? (i := 575) (by decide +kernel)⟩
theorem lw_p30 : lw_okq (⟨"MirrorGroupModel", "isDone", "()Z"⟩, 10) := ⟨⟨by decide +kernel, by decide +kernel⟩, List.mem_of_getElem? (i := 525) (by decide +kernel), List.mem_of_getElem? (i := 578) (by decide +kernel), List.mem_of_getElem? (i := 579) (by decide +kernel)⟩
theorem lw_p31 : lw_okq (⟨"MirrorGroupModel", "fail", "()I"⟩, 10) := ⟨⟨by decide +kernel, by decide +kernel⟩, List.mem_of_getElem? (i := 525) (by decide +kernel), List.mem_of_getElem? (i := 585) (by decide +kernel), List.mem_of_getElem? (i := 586) (by decide +kernel)⟩
def lw_privs_2 : List (MethodName × Nat) := [(⟨"MirrorGroup", "enterBeforeWrite", "(II)V"⟩, 9), (⟨"MirrorGroup$Header", "windowSize", "()I"⟩, 1), (⟨"MirrorGroup", "requireRejoining", "(I)V"⟩, 9), (⟨"MirrorGroup", "isRejoining", "(I)Z"⟩, 9), (⟨"MirrorGroup", "copyNextRegion", "(I)V"⟩, 9), (⟨"MirrorGroup", "makeSame", "(II)V"⟩, 9), (⟨"MirrorGroup", "isSameOnBothSides", "(II)Z"⟩, 9), (⟨"MirrorGroup", "writeFromSide", "(III)V"⟩, 9), (⟨"MirrorGroup", "requireRoomOf", "(I)V"⟩, 9), (⟨"MirrorGroup", "takeNewerHeader", "()V"⟩, 9), (⟨"MirrorGroup", "mendWindow", "()V"⟩, 9), (⟨"MirrorGroup", "mendRegion", "(II)V"⟩, 9), (⟨"MirrorGroupModel", "next", "()Z"⟩, 10), (⟨"MirrorGroupModel", "writeHeader", "(I)Z"⟩, 10), (⟨"MirrorGroupModel", "isDone", "()Z"⟩, 10), (⟨"MirrorGroupModel", "fail", "()I"⟩, 10)]
theorem lw_r2 : ∀ q ∈ lw_privs_2, lw_okq q := List.forall_mem_cons.mpr ⟨lw_p16, List.forall_mem_cons.mpr ⟨lw_p17, List.forall_mem_cons.mpr ⟨lw_p18, List.forall_mem_cons.mpr ⟨lw_p19, List.forall_mem_cons.mpr ⟨lw_p20, List.forall_mem_cons.mpr ⟨lw_p21, List.forall_mem_cons.mpr ⟨lw_p22, List.forall_mem_cons.mpr ⟨lw_p23, List.forall_mem_cons.mpr ⟨lw_p24, List.forall_mem_cons.mpr ⟨lw_p25, List.forall_mem_cons.mpr ⟨lw_p26, List.forall_mem_cons.mpr ⟨lw_p27, List.forall_mem_cons.mpr ⟨lw_p28, List.forall_mem_cons.mpr ⟨lw_p29, List.forall_mem_cons.mpr ⟨lw_p30, List.forall_mem_cons.mpr ⟨lw_p31, fun _ h => absurd h List.not_mem_nil⟩⟩⟩⟩⟩⟩⟩⟩⟩⟩⟩⟩⟩⟩⟩⟩
theorem lw_p32 : lw_okq (⟨"MirrorGroupModel", "ask", "(IIII)V"⟩, 10) := ⟨⟨by decide +kernel, by decide +kernel⟩, List.mem_of_getElem? (i := 525) (by decide +kernel), List.mem_of_getElem? (i := 593) (by decide +kernel), List.mem_of_getElem? (i := 594) (by decide +kernel)⟩
theorem lw_p33 : lw_okq (⟨"MirrorGroupModel", "isPlace", "(IIII)Z"⟩, 10) := ⟨⟨by decide +kernel, by decide +kernel⟩, List.mem_of_getElem? (i := 525) (by decide +kernel), List.mem_of_getElem? (i := 597) (by decide +kernel), List.mem_of_getElem? (i := 598) (by decide +kernel)⟩
theorem lw_p34 : lw_okq (⟨"MirrorGroupModel", "isVolume", "(I)Z"⟩, 10) := ⟨⟨by decide +kernel, by decide +kernel⟩, List.mem_of_getElem? (i := 525) (by decide +kernel), List.mem_of_getElem? (i := 601) (by decide +kernel), List.mem_of_getElem? (i := 602) (by decide +kernel)⟩
theorem lw_p35 : lw_okq (⟨"MirrorGroupModel", "stateOf", "(I)I"⟩, 10) := ⟨⟨by decide +kernel, by decide +kernel⟩, List.mem_of_getElem? (i := 525) (by decide +kernel), List.mem_of_getElem? (i := 605) (by decide +kernel), List.mem_of_getElem? (i := 606) (by decide +kernel)⟩
theorem lw_p36 : lw_okq (⟨"MirrorGroupModel", "sideOf", "(II)I"⟩, 10) := ⟨⟨by decide +kernel, by decide +kernel⟩, List.mem_of_getElem? (i := 525) (by decide +kernel), List.mem_of_getElem? (i := 609) (by decide +kernel), List.mem_of_getElem? (i := 610) (by decide +kernel)⟩
theorem lw_p37 : lw_okq (⟨"MirrorGroupModel", "take", "(III)V"⟩, 10) := ⟨⟨by decide +kernel, by decide +kernel⟩, List.mem_of_getElem? (i := 525) (by decide +kernel), List.mem_of_getElem? (i := 613) (by decide +kernel), List.mem_of_getElem? (i := 614) (by decide +kernel)⟩
theorem lw_p38 : lw_okq (⟨"MirrorGroupModel", "put", "(III)Z"⟩, 10) := ⟨⟨by decide +kernel, by decide +kernel⟩, List.mem_of_getElem? (i := 525) (by decide +kernel), List.mem_of_getElem? (i := 620) (by decide +kernel), List.mem_of_getElem? (i := 621) (by decide +kernel)⟩
theorem lw_p39 : lw_okq (⟨"MirrorGroupModel", "isMarked", "(III)Z"⟩, 10) := ⟨⟨by decide +kernel, by decide +kernel⟩, List.mem_of_getElem? (i := 525) (by decide +kernel), List.mem_of_getElem? (i := 624) (by decide +kernel), List.mem_of_getElem? (i := 625) (by decide +kernel)⟩
theorem lw_p40 : lw_okq (⟨"MirrorGroupModel", "map", "(II)I"⟩, 10) := ⟨⟨by decide +kernel, by decide +kernel⟩, List.mem_of_getElem? (i := 525) (by decide +kernel), List.mem_of_getElem? (i := 628) (by decide +kernel), List.mem_of_getElem? (i := 629) (by decide +kernel)⟩
theorem lw_p41 : lw_okq (⟨"MirrorGroupModel", "writeBlock", "(III)Z"⟩, 10) := ⟨⟨by decide +kernel, by decide +kernel⟩, List.mem_of_getElem? (i := 525) (by decide +kernel), List.mem_of_getElem? (i := 632) (by decide +kernel), List.mem_of_getElem? (i := 633) (by decide +kernel)⟩
theorem lw_p42 : lw_okq (⟨"MirrorGroupModel", "isOpen", "(II)Z"⟩, 10) := ⟨⟨by decide +kernel, by decide +kernel⟩, List.mem_of_getElem? (i := 525) (by decide +kernel), List.mem_of_getElem? (i := 636) (by decide +kernel), List.mem_of_getElem? (i := 637) (by decide +kernel)⟩
theorem lw_p43 : lw_okq (⟨"MirrorGroupModel", "isWindowed", "(II)Z"⟩, 10) := ⟨⟨by decide +kernel, by decide +kernel⟩, List.mem_of_getElem? (i := 525) (by decide +kernel), List.mem_of_getElem? (i := 640) (by decide +kernel), List.mem_of_getElem? (i := 641) (by decide +kernel)⟩
theorem lw_p44 : lw_okq (⟨"MirrorGroupModel", "enter", "(II)V"⟩, 10) := ⟨⟨by decide +kernel, by decide +kernel⟩, List.mem_of_getElem? (i := 525) (by decide +kernel), List.mem_of_getElem? (i := 644) (by decide +kernel), List.mem_of_getElem? (i := 645) (by decide +kernel)⟩
theorem lw_p45 : lw_okq (⟨"MirrorGroupModel", "askStep", "(I)V"⟩, 10) := ⟨⟨by decide +kernel, by decide +kernel⟩, List.mem_of_getElem? (i := 525) (by decide +kernel), List.mem_of_getElem? (i := 668) (by decide +kernel), List.mem_of_getElem? (i := 669) (by decide +kernel)⟩
theorem lw_p46 : lw_okq (⟨"MirrorGroupModel", "goStep", "(I)Z"⟩, 10) := ⟨⟨by decide +kernel, by decide +kernel⟩, List.mem_of_getElem? (i := 525) (by decide +kernel), List.mem_of_getElem? (i := 672) (by decide +kernel), List.mem_of_getElem? (i := 673) (by decide +kernel)⟩
theorem lw_p47 : lw_okq (⟨"MirrorGroupModel", "copyRegion", "(III)Z"⟩, 10) := ⟨⟨by decide +kernel, by decide +kernel⟩, List.mem_of_getElem? (i := 525) (by decide +kernel), List.mem_of_getElem? (i := 676) (by decide +kernel), List.mem_of_getElem? (i := 677) (by decide +kernel)⟩
def lw_privs_3 : List (MethodName × Nat) := [(⟨"MirrorGroupModel", "ask", "(IIII)V"⟩, 10), (⟨"MirrorGroupModel", "isPlace", "(IIII)Z"⟩, 10), (⟨"MirrorGroupModel", "isVolume", "(I)Z"⟩, 10), (⟨"MirrorGroupModel", "stateOf", "(I)I"⟩, 10), (⟨"MirrorGroupModel", "sideOf", "(II)I"⟩, 10), (⟨"MirrorGroupModel", "take", "(III)V"⟩, 10), (⟨"MirrorGroupModel", "put", "(III)Z"⟩, 10), (⟨"MirrorGroupModel", "isMarked", "(III)Z"⟩, 10), (⟨"MirrorGroupModel", "map", "(II)I"⟩, 10), (⟨"MirrorGroupModel", "writeBlock", "(III)Z"⟩, 10), (⟨"MirrorGroupModel", "isOpen", "(II)Z"⟩, 10), (⟨"MirrorGroupModel", "isWindowed", "(II)Z"⟩, 10), (⟨"MirrorGroupModel", "enter", "(II)V"⟩, 10), (⟨"MirrorGroupModel", "askStep", "(I)V"⟩, 10), (⟨"MirrorGroupModel", "goStep", "(I)Z"⟩, 10), (⟨"MirrorGroupModel", "copyRegion", "(III)Z"⟩, 10)]
theorem lw_r3 : ∀ q ∈ lw_privs_3, lw_okq q := List.forall_mem_cons.mpr ⟨lw_p32, List.forall_mem_cons.mpr ⟨lw_p33, List.forall_mem_cons.mpr ⟨lw_p34, List.forall_mem_cons.mpr ⟨lw_p35, List.forall_mem_cons.mpr ⟨lw_p36, List.forall_mem_cons.mpr ⟨lw_p37, List.forall_mem_cons.mpr ⟨lw_p38, List.forall_mem_cons.mpr ⟨lw_p39, List.forall_mem_cons.mpr ⟨lw_p40, List.forall_mem_cons.mpr ⟨lw_p41, List.forall_mem_cons.mpr ⟨lw_p42, List.forall_mem_cons.mpr ⟨lw_p43, List.forall_mem_cons.mpr ⟨lw_p44, List.forall_mem_cons.mpr ⟨lw_p45, List.forall_mem_cons.mpr ⟨lw_p46, List.forall_mem_cons.mpr ⟨lw_p47, fun _ h => absurd h List.not_mem_nil⟩⟩⟩⟩⟩⟩⟩⟩⟩⟩⟩⟩⟩⟩⟩⟩
theorem lw_p48 : lw_okq (⟨"MirrorGroupModel", "isSame", "(II)Z"⟩, 10) := ⟨⟨by decide +kernel, by decide +kernel⟩, List.mem_of_getElem? (i := 525) (by decide +kernel), List.mem_of_getElem? (i := 680) (by decide +kernel), List.mem_of_getElem? (i := 681) (by decide +kernel)⟩
theorem lw_p49 : lw_okq (⟨"MirrorGroupModel", "marks", "(I)I"⟩, 10) := ⟨⟨by decide +kernel, by decide +kernel⟩, List.mem_of_getElem? (i := 525) (by decide +kernel), List.mem_of_getElem? (i := 684) (by decide +kernel), List.mem_of_getElem? (i := 685) (by decide +kernel)⟩
theorem lw_p50 : lw_okq (⟨"MirrorGroupModel", "goOn", "()Z"⟩, 10) := ⟨⟨by decide +kernel, by decide +kernel⟩, List.mem_of_getElem? (i := 525) (by decide +kernel), List.mem_of_getElem? (i := 741) (by decide +kernel), List.mem_of_getElem? (i := 742) (by decide +kernel)⟩
def lw_privs_4 : List (MethodName × Nat) := [(⟨"MirrorGroupModel", "isSame", "(II)Z"⟩, 10), (⟨"MirrorGroupModel", "marks", "(I)I"⟩, 10), (⟨"MirrorGroupModel", "goOn", "()Z"⟩, 10)]
theorem lw_r4 : ∀ q ∈ lw_privs_4, lw_okq q := List.forall_mem_cons.mpr ⟨lw_p48, List.forall_mem_cons.mpr ⟨lw_p49, List.forall_mem_cons.mpr ⟨lw_p50, fun _ h => absurd h List.not_mem_nil⟩⟩⟩
def lw_privs : List (MethodName × Nat) := lw_privs_1 ++ (lw_privs_2 ++ (lw_privs_3 ++ (lw_privs_4)))
def lw_tbl : List Cond := k2_sels lw_privs ++ tables_1
theorem lw_privs_ok : ∀ q ∈ lw_privs, lw_okq q := by
  show ∀ q ∈ lw_privs_1 ++ (lw_privs_2 ++ (lw_privs_3 ++ (lw_privs_4))), lw_okq q
  exact List.forall_mem_append.mpr ⟨lw_r1, List.forall_mem_append.mpr ⟨lw_r2, List.forall_mem_append.mpr ⟨lw_r3, lw_r4⟩⟩⟩
end
section
/-! ===== BEGIN words of one list among another's, by their places ===== -/
theorem goodIn_r {big : List Cond} (ws : List Cond) (ps : List Nat) (hp : ws = ps.filterMap (fun i => big[i]?)) (h : ws.all goodWord = true) : GoodIn big ws := by
  intro w hw
  have h1 := List.all_eq_true.mp h w hw
  rw [hp] at hw
  obtain ⟨i, -, hi⟩ := List.mem_filterMap.mp hw
  have hm : w ∈ big := by first | exact List.mem_of_getElem? hi | exact List.getElem?_mem hi
  exact ⟨hm, good_of_word h1⟩
theorem goodIn_app {big a b : List Cond} (ha : GoodIn big a) (hb : GoodIn big b) : GoodIn big (a ++ b) := fun w h => (List.mem_append.mp h).elim (ha w) (hb w)
theorem goodIn_ca {big a b : List Cond} {c : Cond} (ha : GoodIn big (c :: a)) (hb : GoodIn big b) : GoodIn big (c :: (a ++ b)) := fun w h => (List.mem_cons.mp h).elim (fun e => ha w (List.mem_cons.mpr (Or.inl e))) (fun h => (List.mem_append.mp h).elim (fun h => ha w (List.mem_cons.mpr (Or.inr h))) (hb w))
theorem goodIn_sub {big ws : List Cond} (hm : ∀ w ∈ ws, w ∈ big) (h : ws.all goodWord = true) : GoodIn big ws := fun w hw => ⟨hm w hw, good_of_word (List.all_eq_true.mp h w hw)⟩
/-! ===== END ===== -/

/-! ===== BEGIN exceptions that leave a method, and their catching by the caller (launches without stack traces) ===== -/
section VXA
/-- where a method has thrown q: the class by its name, the cell, what was written, the world -/
def vx_T (XC : String → State → State → Prop) (st : State) (q : Addr) (t : State) (mc ms : Nat) (free : Addr → Prop) : Prop :=
  ∃ (E : String) (ce : Cell) (L : List Loc), XC E st t ∧ t.heap[q]? = some ce ∧ ce.vm = .none ∧ st.vm.findClass E = some ce.cls ∧ st.WarmedH t.vm ∧ st.sameButNew ({ t with vm := st.vm } : State) L mc ms ∧ ∀ z ∈ L, free z.base
def vx_Q (Qc : Array Value → State → Outcome → State → Prop) (XC : String → State → State → Prop) (mc ms : Nat) (free : Addr → Prop) : Array Value → State → Outcome → State → Prop := fun a st o t =>
  (Qc a st o t ∧ ∃ L, FrameEnd st o t L mc ms ∧ ∀ q ∈ L, free q.base) ∨ ∃ q, o = .threw q ∧ vx_T XC st q t mc ms free
/-- a callee that returns or throws -/
def vx_Met (l : Launch) (y : MethodName) (ws : List Cond) (rm : Room) (Pc : Array Value → State → Prop) (Qc : Array Value → State → Outcome → State → Prop) (XC : String → State → State → Prop) (mc ms : Nat) (free : Addr → Prop) : Prop :=
  MetFree l y (headSpec ws rm) Pc (fun _ _ _ _ _ => True) (vx_Q Qc XC mc ms free)
def vx_Post (XC : String → State → State → Prop) (mc ms : Nat) (free : Addr → Prop) : Pt → Array Value → Addr → Pt → Prop := fun A a q B =>
  ∃ (g : JFrame) (mk : MethodId) (t : State) (L : List Loc) (E : String) (ce : Cell), B.U.heap = t.heap ∧ B.U.vm = t.vm ∧ XC E (A.U.calling g mk a) t ∧ t.heap[q]? = some ce ∧ ce.vm = .none ∧ A.U.vm.findClass E = some ce.cls ∧ B.locs = A.locs ++ L ∧ (∀ z ∈ L, free z.base) ∧ B.cells = A.cells + mc ∧ B.slots = A.slots + ms
def vx_Back (l : Launch) (R : Room) (p : Program) (e : Env) (below : List Frame) (s : State) (sargs : Array Value) (y : MethodName) (len W9 : Nat)
    (Pre : Pt → Array Value → Prop) (Post : Pt → Array Value → Option Value → Pt → Prop) (PostX : Pt → Array Value → Addr → Pt → Prop) : Prop :=
  ∀ (m : MethodId) (meth : Method) (c : Code) (A : Pt) (g : JFrame) (ig : Instr) (mk : MethodId) (a : Array Value),
    Stand p l e R s m sargs below meth c A.U A.locs A.cells A.slots → g.method = m → g.locals.size = c.maxLocals → decode c.code g.pc = .ok (ig, len) →
    2 * g.monitorRoom + (g.stack.map fun v => v.category).sum ≤ W9 → A.U.methodNamed? y = some mk → Pre A a →
    (∃ (v : Option Value) (B : Pt), Stand p l e R s m sargs below meth c B.U B.locs B.cells B.slots ∧ Post A a v B ∧
      Steps p.tables e below (doInvoke e (A.U.setTop g) [] mk a).1 (B.U.setTop { g with pc := g.pc + len, stack := v.toList ++ g.stack })) ∨
    (∃ (q : Addr) (B : Pt), Stand p l e R s m sargs below meth c B.U B.locs B.cells B.slots ∧ PostX A a q B ∧
      Steps p.tables e below (doInvoke e (A.U.setTop g) [] mk a).1 ((B.U.setTop g).pushFrame (.throwing q)))
section Payer
variable {l : Launch} {R : Room} {p : Program} {e : Env} {below : List Frame} {s : State} {sargs : Array Value} {y : MethodName} {len W9 : Nat}
theorem vx_back {ws : List Cond} {rm : Room} {Pc : Array Value → State → Prop} {Qc : Array Value → State → Outcome → State → Prop} {XC : String → State → State → Prop} {mc ms : Nat} {free : Addr → Prop} {bytes : ByteArray} {maxL : Nat} {ret : Option FieldType}
    (hM : vx_Met l y ws rm Pc Qc XC mc ms free) (hblind : FrameBlind Pc) (hrc : rm.cells = mc) (hrs : rm.slots = ms)
    (hframes : rm.frames + 1 ≤ R.frames) (hlocals : W9 + (maxL + 11) + rm.locals ≤ R.locals)
    (hws : ∀ w ∈ ws, ∀ a' U, s.WarmedH U.vm → w.before a' U = true) (hcode : Cond.code y bytes maxL ret ∈ ws) (hinit : ∀ a' U, s.WarmedH U.vm → (Cond.initialized y.cls).before a' U = true) :
    vx_Back l R p e below s sargs y len W9 (PreOf R mc ms Pc) (PostOf Qc mc ms free) (vx_Post XC mc ms free) := by
  intro m meth c A g ig mk a X hg hsize hdg hW hn hp
  have h1 : (headSpec ws rm).pre.before a A.U = true := atoms_intro fun w hw => hws w hw _ _ X.warmed
  have h2 : (Cond.code y bytes maxL ret).before a A.U = true := hws _ hcode _ _ X.warmed
  have h3 : (Cond.initialized y.cls).before a A.U = true := hinit _ _ X.warmed
  have h4 : A.cells + (headSpec ws rm).room.cells ≤ R.cells := by rw [show (headSpec ws rm).room.cells = mc from hrc]; exact hp.1
  have h5 : A.slots + (headSpec ws rm).room.slots ≤ R.slots := by rw [show (headSpec ws rm).room.slots = ms from hrs]; exact hp.2.1
  have hPc : Pc a (A.U.calling g mk a) := hblind _ _ _ _ hp.2.2
  obtain ⟨U, Ls, c0, s0⟩ := A
  dsimp only [Pt.U, Pt.locs, Pt.cells, Pt.slots] at h1 h2 h3 h4 h5 X hn hPc ⊢
  obtain ⟨methY, cY, hmY, hcY, -, hlY, -, -, -, -⟩ := Cond.code_spec hn h2
  obtain ⟨kY, hkY, -⟩ := className_of_methodNamed hn
  have hinitY : kY.init = .initialized := Cond.initialized_spec (findClass_of_methodNamed hn) hkY h3
  have h : At U g.method c below := by rw [hg]; exact X.here
  have hlocals9 : W9 + (maxL + 11) + (headSpec ws rm).room.locals ≤ R.locals := hlocals
  have happ : (headSpec ws rm).appliesLoose y e.platform (U.calling g mk a) = true :=
    Spec.appliesLoose_calling (g := g) h hdg hn hkY hinitY
      (X.room_calling (g := g) (R' := (headSpec ws rm).room) hsize hmY hcY hframes (by rw [hlY]; omega) h4 h5) h1
  obtain ⟨mid, hmid⟩ := h.above
  have hfr : (U.setTop g).frames = (.java g :: mid) ++ below := by rw [State.frames_setTop' g h.top, hmid]; rfl
  obtain ⟨o, s₂, hsteps, -, hend, hq⟩ := Steps.callFree hM p X.admits X.cas X.clock (acts := []) hfr happ hPc trivial
  have hq' : vx_Q Qc XC mc ms free a (U.calling g mk a) o s₂ := hq
  rw [State.frames_setTop' g h.top] at hend
  obtain ⟨g₀, hg0⟩ := Option.isSome_iff_exists.mp h.top
  obtain ⟨r, hr⟩ := State.topJava?_eq_some.mp hg0
  have hr' : (({ U with heap := s₂.heap, slotsUsed := s₂.slotsUsed } : State).setVm s₂.vm).frames = .java g₀ :: r := hr
  rcases hq' with ⟨hqc, L, hfe, hL⟩ | ⟨q, rfl, E, ce, L, hx, hce, hcv, hcl, hW₂, hsm, hL⟩
  · obtain ⟨⟨v, rfl⟩, hW₂, e2, q2, q3, q4, q5, q6⟩ := id hfe
    have e3 : s₂ = ({ (U.calling g mk a).setFrames s₂.frames with heap := s₂.heap, slotsUsed := s₂.slotsUsed } : State).setVm s₂.vm := by
      have : s₂ = ({ s₂ with vm := (U.calling g mk a).vm } : State).setVm s₂.vm := rfl
      rw [e2] at this
      exact this
    obtain ⟨c₂, i₂, len₂, hc₂, hd₂, hf₂⟩ := hend
    have hW' : U.WarmedH s₂.vm := hW₂
    have hcc : c₂ = c := by
      have h1 : s₂.code? g.method = U.code? g.method := by
        rw [State.code?_eq, State.code?_eq, hW'.alike.method?]
      exact Option.some.inj (hc₂.symm.trans (h1.trans h.code))
    subst hcc
    have hlen : len₂ = len := by rw [hdg] at hd₂; cases hd₂; rfl
    subst hlen
    have hs₂ : s₂ = (({ U with heap := s₂.heap, slotsUsed := s₂.slotsUsed } : State).setVm s₂.vm).setTop { g with pc := g.pc + len₂, stack := v.toList ++ g.stack } := by
      refine e3.trans ?_
      rw [hf₂, State.calling_eq h.top, State.setFrames_setFrames, State.setTop_of_frames _ hr', hr]
      rfl
    have hsame : U.sameButNew ({ U with heap := s₂.heap, slotsUsed := s₂.slotsUsed } : State) L mc ms := by
      refine ⟨?_, q2, q3, q4, q5, q6⟩
      obtain ⟨t, ht, -⟩ := State.frames_cons hr
      show ({ U with heap := s₂.heap, slotsUsed := s₂.slotsUsed } : State) = { U.setFrames U.frames with heap := s₂.heap, slotsUsed := s₂.slotsUsed }
      rw [State.setFrames_self ht]
    subst hg
    refine Or.inl ⟨v, ⟨(({ U with heap := s₂.heap, slotsUsed := s₂.slotsUsed } : State).setVm s₂.vm), Ls ++ L, c0 + mc, s0 + ms⟩,
      ⟨X.admits, X.cas, X.clock, X.frames, X.room, X.hears, X.method, X.code, (X.here.setHeapUsed s₂.heap s₂.slotsUsed).setVm hW'.alike, X.tail, State.WarmedH.trans X.warmed hW', X.limits, X.bytes, X.same.trans (hsame.setVm s.vm)⟩,
      ⟨g, mk, s₂, L, rfl, rfl, hqc, rfl, hL, rfl, rfl⟩, ?_⟩
    show Steps p.tables e below _ ((({ U with heap := s₂.heap, slotsUsed := s₂.slotsUsed } : State).setVm s₂.vm).setTop { g with pc := g.pc + len₂, stack := v.toList ++ g.stack })
    rw [← hs₂]
    exact hsteps
  · obtain ⟨e2, q2, q3, q4, q5, q6⟩ := id hsm
    have e3 : s₂ = ({ (U.calling g mk a).setFrames s₂.frames with heap := s₂.heap, slotsUsed := s₂.slotsUsed } : State).setVm s₂.vm := by
      have : s₂ = ({ s₂ with vm := (U.calling g mk a).vm } : State).setVm s₂.vm := rfl
      rw [e2] at this
      exact this
    have hf₂ : s₂.frames = .throwing q :: .java g :: U.frames.tail := hend
    have hW' : U.WarmedH s₂.vm := hW₂
    have hs₂ : s₂ = ((({ U with heap := s₂.heap, slotsUsed := s₂.slotsUsed } : State).setVm s₂.vm).setTop g).pushFrame (.throwing q) := by
      refine e3.trans ?_
      rw [hf₂, State.calling_eq h.top, State.setFrames_setFrames, State.pushFrame, State.frames_setTop _ hr', State.setTop_of_frames _ hr', State.setFrames_setFrames, hr]
      rfl
    have hsame : U.sameButNew ({ U with heap := s₂.heap, slotsUsed := s₂.slotsUsed } : State) L mc ms := by
      refine ⟨?_, q2, q3, q4, q5, q6⟩
      obtain ⟨t, ht, -⟩ := State.frames_cons hr
      show ({ U with heap := s₂.heap, slotsUsed := s₂.slotsUsed } : State) = { U.setFrames U.frames with heap := s₂.heap, slotsUsed := s₂.slotsUsed }
      rw [State.setFrames_self ht]
    subst hg
    refine Or.inr ⟨q, ⟨(({ U with heap := s₂.heap, slotsUsed := s₂.slotsUsed } : State).setVm s₂.vm), Ls ++ L, c0 + mc, s0 + ms⟩,
      ⟨X.admits, X.cas, X.clock, X.frames, X.room, X.hears, X.method, X.code, (X.here.setHeapUsed s₂.heap s₂.slotsUsed).setVm hW'.alike, X.tail, State.WarmedH.trans X.warmed hW', X.limits, X.bytes, X.same.trans (hsame.setVm s.vm)⟩,
      ⟨g, mk, s₂, L, E, ce, rfl, rfl, hx, hce, hcv, hcl, rfl, hL, rfl, rfl⟩, ?_⟩
    show Steps p.tables e below _ (((({ U with heap := s₂.heap, slotsUsed := s₂.slotsUsed } : State).setVm s₂.vm).setTop g).pushFrame (.throwing q))
    rw [← hs₂]
    exact hsteps
end Payer
section Calls
variable {p : Program} {l : Launch} {e : Env} {R : Room} {s : State} {m : MethodId} {args : Array Value} {below : List Frame} {meth : Method} {c : Code} {T : State} {locs : List Loc} {cells slots : Nat}
theorem vx_callV (X : Stand p l e R s m args below meth c T locs cells slots) (hexec : p.tables.exec = Jvm.exec) {own C : String} {index : Nat} {y : MethodName} {bytes : ByteArray} {maxL : Nat} {ret : Option FieldType}
    (hown : s.vm.findClass own = some m.cls) (hlink : (Cond.methodLink own index y).before args s = true) (hinst : (Cond.instanceMethod y).before args s = true) (hsel : (Cond.selects C y y).before args s = true)
    (hcode : (Cond.code y bytes maxL ret).before args s = true) (hy : y.cls ≠ "java/lang/invoke/MethodHandle" ∧ y.cls ≠ "java/lang/invoke/VarHandle")
    {W9 : Nat} {Pre : Pt → Array Value → Prop} {Post : Pt → Array Value → Option Value → Pt → Prop} {PostX : Pt → Array Value → Addr → Pt → Prop} (hK : vx_Back l R p e below s args y 3 W9 Pre Post PostX)
    {b : Addr} {cellB : Cell} (hcell : T.heap[b]? = some cellB) (hobj : cellB.vm.isStatics = false) (hcls : s.vm.findClass C = some cellB.cls)
    {g : JFrame} (hg : g.method = m) (hsize : g.locals.size = c.maxLocals) {argsL rest : List Value} (hlen : ∀ sig, parseMethodDescriptor y.desc = some sig → argsL.length = sig.parameters.length)
    (hstack : g.stack = argsL.reverse ++ .ref b :: rest) (hW : 2 * g.monitorRoom + (rest.map fun v => v.category).sum ≤ W9) (hdg : decode c.code g.pc = .ok (.invokevirtual index, 3))
    (hpre : ∀ vm₁, s.WarmedH vm₁ → Pre ⟨T.setVm vm₁, locs, cells, slots⟩ (Value.ref b :: argsL).toArray) :
    (∃ (v : Option Value) (vm₁ : Vm) (B : Pt), s.WarmedH vm₁ ∧ Stand p l e R s m args below meth c B.U B.locs B.cells B.slots ∧ Post ⟨T.setVm vm₁, locs, cells, slots⟩ (Value.ref b :: argsL).toArray v B ∧
      ∀ target, Steps p.tables e below (B.U.setTop { g with pc := g.pc + 3, stack := v.toList ++ rest }) target → Steps p.tables e below (T.setTop g) target) ∨
    (∃ (q : Addr) (vm₁ : Vm) (B : Pt), s.WarmedH vm₁ ∧ Stand p l e R s m args below meth c B.U B.locs B.cells B.slots ∧ PostX ⟨T.setVm vm₁, locs, cells, slots⟩ (Value.ref b :: argsL).toArray q B ∧
      Steps p.tables e below (T.setTop g) ((B.U.setTop { g with stack := rest }).pushFrame (.throwing q))) := by
  obtain ⟨mk, methM, hnamed, hmethM, hstM, habM⟩ := Cond.instanceMethod_spec hinst
  obtain ⟨methM', cM, hmethM', -, -, -, -, -, -, hsigM⟩ := Cond.code_spec hnamed hcode
  cases hmethM.symm.trans hmethM'
  obtain ⟨c2, r2, m2, q1, q2, q3, q4, kP, hkP, hkPi⟩ := Cond.selects_spec hsel
  cases hcls.symm.trans q1
  cases (State.methodFound?_of_named hnamed hy).symm.trans q2
  cases hnamed.symm.trans q3
  have hselP : selectMethod e.platform s.vm cellB.cls mk = .method mk := by rw [Launch.admits_selectMethod X.admits]; exact q4
  obtain ⟨vm₁, X₁, hstep₁⟩ := X.invokevirtual hexec hown hlink hnamed hmethM hstM hkP hkPi hy (a := b) (cell := cellB) hcell
    (fun z h => by rw [h] at hobj; cases hobj) hselP hmethM habM hkP hkPi (g := g) hg (argsL := argsL) (rest := rest) (hlen _ hsigM) hstack hdg
  rcases hK m meth c ⟨T.setVm vm₁, locs, cells, slots⟩ { g with stack := rest } (.invokevirtual index) mk (Value.ref b :: argsL).toArray X₁ hg hsize hdg hW (X₁.named hnamed) (hpre vm₁ X₁.warmed) with ⟨v, B, X', hpost, hsteps⟩ | ⟨q, B, X', hpost, hsteps⟩
  · exact Or.inl ⟨v, vm₁, B, X₁.warmed, X', hpost, fun target h => hstep₁ _ fun acts => by rw [doInvoke_state]; exact hsteps.trans h⟩
  · exact Or.inr ⟨q, vm₁, B, X₁.warmed, X', hpost, hstep₁ _ fun acts => by rw [doInvoke_state]; exact hsteps⟩
theorem vx_callS (X : Stand p l e R s m args below meth c T locs cells slots) (hexec : p.tables.exec = Jvm.exec) {own : String} {index : Nat} {y : MethodName} {bytes : ByteArray} {maxL : Nat} {ret : Option FieldType}
    (hown : s.vm.findClass own = some m.cls) (hlink : (Cond.methodLink own index y).before args s = true) (hstat : (Cond.static y).before args s = true) (hinit : (Cond.initialized y.cls).before args s = true)
    (hcode : (Cond.code y bytes maxL ret).before args s = true) (hy : y.cls ≠ "java/lang/invoke/MethodHandle" ∧ y.cls ≠ "java/lang/invoke/VarHandle")
    {W9 : Nat} {Pre : Pt → Array Value → Prop} {Post : Pt → Array Value → Option Value → Pt → Prop} {PostX : Pt → Array Value → Addr → Pt → Prop} (hK : vx_Back l R p e below s args y 3 W9 Pre Post PostX)
    {g : JFrame} (hg : g.method = m) (hsize : g.locals.size = c.maxLocals) {argsL rest : List Value} (hlen : ∀ sig, parseMethodDescriptor y.desc = some sig → argsL.length = sig.parameters.length)
    (hstack : g.stack = argsL.reverse ++ rest) (hW : 2 * g.monitorRoom + (rest.map fun v => v.category).sum ≤ W9) (hdg : decode c.code g.pc = .ok (.invokestatic index, 3))
    (hpre : ∀ vm₁, s.WarmedH vm₁ → Pre ⟨T.setVm vm₁, locs, cells, slots⟩ argsL.toArray) :
    (∃ (v : Option Value) (vm₁ : Vm) (B : Pt), s.WarmedH vm₁ ∧ Stand p l e R s m args below meth c B.U B.locs B.cells B.slots ∧ Post ⟨T.setVm vm₁, locs, cells, slots⟩ argsL.toArray v B ∧
      ∀ target, Steps p.tables e below (B.U.setTop { g with pc := g.pc + 3, stack := v.toList ++ rest }) target → Steps p.tables e below (T.setTop g) target) ∨
    (∃ (q : Addr) (vm₁ : Vm) (B : Pt), s.WarmedH vm₁ ∧ Stand p l e R s m args below meth c B.U B.locs B.cells B.slots ∧ PostX ⟨T.setVm vm₁, locs, cells, slots⟩ argsL.toArray q B ∧
      Steps p.tables e below (T.setTop g) ((B.U.setTop { g with stack := rest }).pushFrame (.throwing q))) := by
  obtain ⟨mk, hnamed⟩ := Cond.code_named hcode
  obtain ⟨methM, cM, hmethM, -, -, -, -, -, -, hsigM⟩ := Cond.code_spec hnamed hcode
  have hstatic : methM.isStatic = true := Cond.static_spec hnamed hmethM hstat
  obtain ⟨kP, hkP, -⟩ := className_of_methodNamed hnamed
  have hinitP : kP.init = .initialized := Cond.initialized_spec (findClass_of_methodNamed hnamed) hkP hinit
  obtain ⟨vm₁, X₁, hstep₁⟩ := X.invokestatic hexec hown hlink hnamed hmethM hstatic hkP hinitP hy (g := g) hg (argsL := argsL) (rest := rest) (hlen _ hsigM) hstack hdg
  rcases hK m meth c ⟨T.setVm vm₁, locs, cells, slots⟩ { g with stack := rest } (.invokestatic index) mk argsL.toArray X₁ hg hsize hdg hW (X₁.named hnamed) (hpre vm₁ X₁.warmed) with ⟨v, B, X', hpost, hsteps⟩ | ⟨q, B, X', hpost, hsteps⟩
  · exact Or.inl ⟨v, vm₁, B, X₁.warmed, X', hpost, fun target h => hstep₁ _ fun acts => by rw [doInvoke_state]; exact hsteps.trans h⟩
  · exact Or.inr ⟨q, vm₁, B, X₁.warmed, X', hpost, hstep₁ _ fun acts => by rw [doInvoke_state]; exact hsteps⟩
end Calls
theorem vx_cls {s : State} {T : State} {vm₁ : Vm} {E : String} {k : ClassId} (hW : s.WarmedH vm₁) (h : (T.setVm vm₁).vm.findClass E = some k) : s.vm.findClass E = some k := by
  have h1 : vm₁.findClass E = some k := h
  rw [hW.alike.findClass] at h1
  exact h1
/-- the method's frame g, with q thrown over it -/
def vx_W (p : Program) (l : Launch) (e : Env) (R : Room) (s : State) (m : MethodId) (args : Array Value) (below : List Frame) (meth : Method) (c : Code) (H : Heap) (locs : List Loc) (cells slots : Nat) (Q : State → Prop) (g : JFrame) (q : Addr) : Prop :=
  ∀ T : State, T.heap = H → Stand p l e R s m args below meth c T locs cells slots → ∃ t, Steps p.tables e below ((T.setTop g).pushFrame (.throwing q)) t ∧ Q t
def vx_Run (p : Program) (l : Launch) (e : Env) (R : Room) (s : State) (m : MethodId) (args : Array Value) (below : List Frame) (meth : Method) (c : Code) (H : Heap) (locs : List Loc) (cells slots mc ms : Nat) (g : JFrame) (rest : List Value) (Qa : State → Outcome → State → Prop) (XC : String → State → State → Prop) (free : Addr → Prop) : Prop :=
  ∀ T : State, T.heap = H → Stand p l e R s m args below meth c T locs cells slots →
    (∃ (v : Option Value) (st₀ t T' : State) (L : List Loc), st₀.heap = H ∧ Stand p l e R s m args below meth c T' (locs ++ L) (cells + mc) (slots + ms) ∧ (∀ q ∈ L, free q.base) ∧ T'.heap = t.heap ∧ T'.vm = t.vm ∧ Qa st₀ (.returned v) t ∧
      Goes p e below T g T' { g with pc := g.pc + 3, stack := v.toList ++ rest }) ∨
    (∃ (q : Addr) (st₀ t T' : State) (L : List Loc) (E : String) (ce : Cell), st₀.heap = H ∧ Stand p l e R s m args below meth c T' (locs ++ L) (cells + mc) (slots + ms) ∧ (∀ z ∈ L, free z.base) ∧ T'.heap = t.heap ∧ T'.vm = t.vm ∧ XC E st₀ t ∧ t.heap[q]? = some ce ∧ ce.vm = .none ∧ s.vm.findClass E = some ce.cls ∧
      Steps p.tables e below (T.setTop g) ((T'.setTop { g with stack := rest }).pushFrame (.throwing q)))
def vx_X {S : Type} (px : S → Prop) (B : String → S → State → Prop) (A : Nat → Prop) : String → State → State → Prop := fun E st t => ∃ u : S, px u ∧ B E u t ∧ va_F A st t
section Runs
variable {p : Program} {l : Launch} {e : Env} {R : Room} {s : State} {m : MethodId} {args : Array Value} {below : List Frame} {meth : Method} {c : Code} {H : Heap} {locs : List Loc} {cells slots : Nat}
variable {y : MethodName} {bytes cc : ByteArray} {maxL nL mc ms n index : Nat} {ret : Option FieldType} {ws : List Cond} {rm : Room} {Pc : Array Value → State → Prop} {Qc : Array Value → State → Outcome → State → Prop} {XC : String → State → State → Prop} {free : Addr → Prop} {Ts : List Cond} {own C : String} {b : Addr} {As rest : List Value} {g : JFrame}
theorem vx_callBack (cb : CallB R s args own index y bytes maxL ret ws rm mc ms n) (hM : vx_Met l y ws rm Pc Qc XC mc ms free) (hbl : FrameBlind Pc) : vx_Back l R p e below s args y 3 8 (PreOf R mc ms Pc) (PostOf Qc mc ms free) (vx_Post XC mc ms free) := by
  obtain ⟨hrc, hrs, hfr, hlo, hws, hcw, -, hini, -⟩ := cb
  exact vx_back (bytes := bytes) (maxL := maxL) (ret := ret) hM hbl hrc hrs hfr hlo hws hcw (fun a' U hW => word_at hW (Or.inl (by first | rfl | simp [Cond.onTables, Cond.keeps, Cond.steady])) hini)
theorem vx_runV (S : CallFix p m c cc nL s args Ts own) (hM : vx_Met l y ws rm Pc Qc XC mc ms free) (cw : CallW R s args own C index y bytes maxL ret ws rm mc ms n) (hp : PreV s H C b Pc As)
    (hg : g.method = m) (hn : As.length = n) (hsize : g.locals.size = nL) (hstack : g.stack = As.reverse ++ .ref b :: rest) (hW : 2 * g.monitorRoom + (rest.map fun v => v.category).sum ≤ 8) (hdg : decode cc g.pc = .ok (.invokevirtual index, 3)) (hf : cells + mc ≤ R.cells ∧ slots + ms ≤ R.slots) :
    vx_Run p l e R s m args below meth c H locs cells slots mc ms g rest (Qc (Value.ref b :: As).toArray) XC free := by
  have hK : vx_Back l R p e below s args y 3 8 (PreOf R mc ms Pc) (PostOf Qc mc ms free) (vx_Post XC mc ms free) := vx_callBack cw.1 hM hp.1
  obtain ⟨⟨-, -, -, -, -, -, hcode, -, hy, hlen, hl⟩, hin, hse⟩ := cw
  obtain ⟨hx, hb, hml, ho, -⟩ := S
  obtain ⟨-, ⟨cellB, hcB, hoB, hclB⟩, hPc⟩ := hp
  intro T hT X
  rcases vx_callV X hx (C := C) (bytes := bytes) (maxL := maxL) (ret := ret) ho hl hin hse hcode hy hK (by rw [hT]; exact hcB) hoB hclB hg (hsize.trans hml.symm) (argsL := As) (rest := rest) (fun sig h => hn.trans (hlen sig h)) hstack hW (by rw [hb]; exact hdg)
    (fun vm₁ hW₁ => ⟨hf.1, hf.2, hPc (T.setVm vm₁) hT hW₁⟩) with ⟨v, vm₁, ⟨U', l2, c2, s2⟩, hW₁, X', ⟨g', mk, t, L, e1, e2, hq, h1, hL, h2, h3⟩, st⟩ | ⟨q, vm₁, ⟨U', l2, c2, s2⟩, hW₁, X', ⟨g', mk, t, L, E, ce, e1, e2, hq, hce, hcv, hcl, h1, hL, h2, h3⟩, st⟩
  · dsimp only [Pt.U, Pt.locs, Pt.cells, Pt.slots] at X' e1 e2 h1 h2 h3 st
    subst h1; subst h2; subst h3
    exact Or.inl ⟨v, (T.setVm vm₁).calling g' mk (Value.ref b :: As).toArray, t, U', L, hT, X', hL, e1, e2, hq, st⟩
  · dsimp only [Pt.U, Pt.locs, Pt.cells, Pt.slots] at X' e1 e2 h1 h2 h3 st hcl
    subst h1; subst h2; subst h3
    exact Or.inr ⟨q, (T.setVm vm₁).calling g' mk (Value.ref b :: As).toArray, t, U', L, E, ce, hT, X', hL, e1, e2, hq, hce, hcv, vx_cls hW₁ hcl, st⟩
theorem vx_runS (S : CallFix p m c cc nL s args Ts own) (hM : vx_Met l y ws rm Pc Qc XC mc ms free) (cw : CallB R s args own index y bytes maxL ret ws rm mc ms n ∧ (Cond.static y).before args s = true) (hp : PreS s H Pc As)
    (hg : g.method = m) (hn : As.length = n) (hsize : g.locals.size = nL) (hstack : g.stack = As.reverse ++ rest) (hW : 2 * g.monitorRoom + (rest.map fun v => v.category).sum ≤ 8) (hdg : decode cc g.pc = .ok (.invokestatic index, 3)) (hf : cells + mc ≤ R.cells ∧ slots + ms ≤ R.slots) :
    vx_Run p l e R s m args below meth c H locs cells slots mc ms g rest (Qc As.toArray) XC free := by
  have hK : vx_Back l R p e below s args y 3 8 (PreOf R mc ms Pc) (PostOf Qc mc ms free) (vx_Post XC mc ms free) := vx_callBack cw.1 hM hp.1
  obtain ⟨⟨-, -, -, -, -, -, hcode, hini, hy, hlen, hl⟩, hstt⟩ := cw
  obtain ⟨hx, hb, hml, ho, -⟩ := S
  intro T hT X
  rcases vx_callS X hx (bytes := bytes) (maxL := maxL) (ret := ret) ho hl hstt hini hcode hy hK hg (hsize.trans hml.symm) (argsL := As) (rest := rest) (fun sig h => hn.trans (hlen sig h)) hstack hW (by rw [hb]; exact hdg)
    (fun vm₁ hW₁ => ⟨hf.1, hf.2, hp.2 (T.setVm vm₁) hT hW₁⟩) with ⟨v, vm₁, ⟨U', l2, c2, s2⟩, hW₁, X', ⟨g', mk, t, L, e1, e2, hq, h1, hL, h2, h3⟩, st⟩ | ⟨q, vm₁, ⟨U', l2, c2, s2⟩, hW₁, X', ⟨g', mk, t, L, E, ce, e1, e2, hq, hce, hcv, hcl, h1, hL, h2, h3⟩, st⟩
  · dsimp only [Pt.U, Pt.locs, Pt.cells, Pt.slots] at X' e1 e2 h1 h2 h3 st
    subst h1; subst h2; subst h3
    exact Or.inl ⟨v, (T.setVm vm₁).calling g' mk As.toArray, t, U', L, hT, X', hL, e1, e2, hq, st⟩
  · dsimp only [Pt.U, Pt.locs, Pt.cells, Pt.slots] at X' e1 e2 h1 h2 h3 st hcl
    subst h1; subst h2; subst h3
    exact Or.inr ⟨q, (T.setVm vm₁).calling g' mk As.toArray, t, U', L, E, ce, hT, X', hL, e1, e2, hq, hce, hcv, vx_cls hW₁ hcl, st⟩
end Runs
section Rows
variable {p : Program} {l : Launch} {e : Env} {R : Room} {s : State} {m : MethodId} {args : Array Value} {below : List Frame} {meth : Method} {c : Code} {H : Heap} {locs : List Loc} {cells slots : Nat} {Q : State → Prop}
variable {mc ms : Nat} {free : Addr → Prop} {A0 A1 : Nat → Prop} {H0 : Heap} {a : Array Value} {pc : Nat} {ls : Array Slot} {st0 rest : List Value}
theorem vx_keep {st₀ t T' : State} {L : List Loc} (h0 : st₀.heap = H) (e1 : T'.heap = t.heap) (hS : va_S A0 H0 H locs) (hA : ∀ q, q < H.size → A1 q → A0 q) (hf : ∀ q, free q → A0 q) (hL : ∀ q ∈ L, free q.base) (hF : va_F A1 st₀ t) :
    H.size ≤ T'.heap.size ∧ (∀ q : Nat, q < H.size → ¬ A1 q → T'.heap[q]? = H[q]?) ∧ va_S A0 H0 T'.heap (locs ++ L) := by
  obtain ⟨hz, hk⟩ := hF
  rw [h0] at hz hk
  exact ⟨by rw [e1]; exact hz, fun q h1 h2 => by rw [e1]; exact hk q h1 h2,
    ⟨Nat.le_trans hS.1 (by rw [e1]; exact hz), fun q h1 h2 => by rw [e1, hk q (Nat.lt_of_lt_of_le h1 hS.1) (fun z => h2 (hA q (Nat.lt_of_lt_of_le h1 hS.1) z))]; exact hS.2.1 q h1 h2, fun q hq => by
      rcases List.mem_append.mp hq with h | h
      · exact hS.2.2 q h
      · exact hf _ (hL q h)⟩⟩
theorem vx_calli {S SX : Type} {post : Int32 → S → Prop} {px : SX → Prop} {B : S → State → Prop} {BX : String → SX → State → Prop} {AX : Nat → Prop} (hr : vx_Run p l e R s m args below meth c H locs cells slots mc ms (F0 m pc ls st0) rest (va_Qi post B A1 a) (vx_X px BX AX) free) (hS : va_S A0 H0 H locs) (hA : ∀ q, q < H.size → A1 q → A0 q) (hf : ∀ q, free q → A0 q) (hAX : ∀ q, q < H.size → AX q → A0 q)
    (kx : ∀ (E : String) (ce : Cell) (q9 : Addr) (u : SX) (t : State) (H1 : Heap) (locs1 : List Loc), t.heap = H1 → s.vm.Alike t.vm → px u → BX E u t → H.size ≤ H1.size → (∀ q : Nat, q < H.size → ¬ AX q → H1[q]? = H[q]?) → va_S A0 H0 H1 locs1 → H1[q9]? = some ce → ce.vm = .none → s.vm.findClass E = some ce.cls → vx_W p l e R s m args below meth c H1 locs1 (cells + mc) (slots + ms) Q (F0 m pc ls rest) q9)
    (kk : ∀ (r : Int32) (u : S) (t : State) (H1 : Heap) (locs1 : List Loc), t.heap = H1 → s.vm.Alike t.vm → post r u → B u t → H.size ≤ H1.size → (∀ q : Nat, q < H.size → ¬ A1 q → H1[q]? = H[q]?) → va_S A0 H0 H1 locs1 → W p l e R s m args below meth c H1 locs1 (cells + mc) (slots + ms) Q (F0 m (pc + 3) ls (.int r :: rest))) : W p l e R s m args below meth c H locs cells slots Q (F0 m pc ls st0) := by
  intro T hT X
  rcases hr T hT X with ⟨v, st₀, t, T', L, h0, X', hL, e1, e2, ⟨⟨r, u, hv, hp, hb⟩, hF⟩, st⟩ | ⟨q, st₀, t, T', L, E, ce, h0, X', hL, e1, e2, ⟨u, hp, hb, hF⟩, hce, hcv, hcl, st⟩
  · cases hv
    obtain ⟨k1, k2, k3⟩ := vx_keep h0 e1 hS hA hf hL hF
    obtain ⟨t2, a1, b1⟩ := kk r u t T'.heap (locs ++ L) e1.symm (by rw [← e2]; exact X'.warmed.alike) hp hb k1 k2 k3 T' rfl X'
    exact ⟨t2, st t2 a1, b1⟩
  · obtain ⟨k1, k2, k3⟩ := vx_keep h0 e1 hS hAX hf hL hF
    obtain ⟨t2, a1, b1⟩ := kx E ce q u t T'.heap (locs ++ L) e1.symm (by rw [← e2]; exact X'.warmed.alike) hp hb k1 k2 k3 (by rw [e1]; exact hce) hcv hcl T' rfl X'
    exact ⟨t2, st.trans a1, b1⟩
theorem vx_calll {S SX : Type} {post : Int64 → S → Prop} {px : SX → Prop} {B : S → State → Prop} {BX : String → SX → State → Prop} {AX : Nat → Prop} (hr : vx_Run p l e R s m args below meth c H locs cells slots mc ms (F0 m pc ls st0) rest (va_Ql post B A1 a) (vx_X px BX AX) free) (hS : va_S A0 H0 H locs) (hA : ∀ q, q < H.size → A1 q → A0 q) (hf : ∀ q, free q → A0 q) (hAX : ∀ q, q < H.size → AX q → A0 q)
    (kx : ∀ (E : String) (ce : Cell) (q9 : Addr) (u : SX) (t : State) (H1 : Heap) (locs1 : List Loc), t.heap = H1 → s.vm.Alike t.vm → px u → BX E u t → H.size ≤ H1.size → (∀ q : Nat, q < H.size → ¬ AX q → H1[q]? = H[q]?) → va_S A0 H0 H1 locs1 → H1[q9]? = some ce → ce.vm = .none → s.vm.findClass E = some ce.cls → vx_W p l e R s m args below meth c H1 locs1 (cells + mc) (slots + ms) Q (F0 m pc ls rest) q9)
    (kk : ∀ (r : Int64) (u : S) (t : State) (H1 : Heap) (locs1 : List Loc), t.heap = H1 → s.vm.Alike t.vm → post r u → B u t → H.size ≤ H1.size → (∀ q : Nat, q < H.size → ¬ A1 q → H1[q]? = H[q]?) → va_S A0 H0 H1 locs1 → W p l e R s m args below meth c H1 locs1 (cells + mc) (slots + ms) Q (F0 m (pc + 3) ls (.long r :: rest))) : W p l e R s m args below meth c H locs cells slots Q (F0 m pc ls st0) := by
  intro T hT X
  rcases hr T hT X with ⟨v, st₀, t, T', L, h0, X', hL, e1, e2, ⟨⟨r, u, hv, hp, hb⟩, hF⟩, st⟩ | ⟨q, st₀, t, T', L, E, ce, h0, X', hL, e1, e2, ⟨u, hp, hb, hF⟩, hce, hcv, hcl, st⟩
  · cases hv
    obtain ⟨k1, k2, k3⟩ := vx_keep h0 e1 hS hA hf hL hF
    obtain ⟨t2, a1, b1⟩ := kk r u t T'.heap (locs ++ L) e1.symm (by rw [← e2]; exact X'.warmed.alike) hp hb k1 k2 k3 T' rfl X'
    exact ⟨t2, st t2 a1, b1⟩
  · obtain ⟨k1, k2, k3⟩ := vx_keep h0 e1 hS hAX hf hL hF
    obtain ⟨t2, a1, b1⟩ := kx E ce q u t T'.heap (locs ++ L) e1.symm (by rw [← e2]; exact X'.warmed.alike) hp hb k1 k2 k3 (by rw [e1]; exact hce) hcv hcl T' rfl X'
    exact ⟨t2, st.trans a1, b1⟩
theorem vx_callf {S SX : Type} {post : UInt32 → S → Prop} {px : SX → Prop} {B : S → State → Prop} {BX : String → SX → State → Prop} {AX : Nat → Prop} (hr : vx_Run p l e R s m args below meth c H locs cells slots mc ms (F0 m pc ls st0) rest (va_Qf post B A1 a) (vx_X px BX AX) free) (hS : va_S A0 H0 H locs) (hA : ∀ q, q < H.size → A1 q → A0 q) (hf : ∀ q, free q → A0 q) (hAX : ∀ q, q < H.size → AX q → A0 q)
    (kx : ∀ (E : String) (ce : Cell) (q9 : Addr) (u : SX) (t : State) (H1 : Heap) (locs1 : List Loc), t.heap = H1 → s.vm.Alike t.vm → px u → BX E u t → H.size ≤ H1.size → (∀ q : Nat, q < H.size → ¬ AX q → H1[q]? = H[q]?) → va_S A0 H0 H1 locs1 → H1[q9]? = some ce → ce.vm = .none → s.vm.findClass E = some ce.cls → vx_W p l e R s m args below meth c H1 locs1 (cells + mc) (slots + ms) Q (F0 m pc ls rest) q9)
    (kk : ∀ (r : UInt32) (u : S) (t : State) (H1 : Heap) (locs1 : List Loc), t.heap = H1 → s.vm.Alike t.vm → post r u → B u t → H.size ≤ H1.size → (∀ q : Nat, q < H.size → ¬ A1 q → H1[q]? = H[q]?) → va_S A0 H0 H1 locs1 → W p l e R s m args below meth c H1 locs1 (cells + mc) (slots + ms) Q (F0 m (pc + 3) ls (.float r :: rest))) : W p l e R s m args below meth c H locs cells slots Q (F0 m pc ls st0) := by
  intro T hT X
  rcases hr T hT X with ⟨v, st₀, t, T', L, h0, X', hL, e1, e2, ⟨⟨r, u, hv, hp, hb⟩, hF⟩, st⟩ | ⟨q, st₀, t, T', L, E, ce, h0, X', hL, e1, e2, ⟨u, hp, hb, hF⟩, hce, hcv, hcl, st⟩
  · cases hv
    obtain ⟨k1, k2, k3⟩ := vx_keep h0 e1 hS hA hf hL hF
    obtain ⟨t2, a1, b1⟩ := kk r u t T'.heap (locs ++ L) e1.symm (by rw [← e2]; exact X'.warmed.alike) hp hb k1 k2 k3 T' rfl X'
    exact ⟨t2, st t2 a1, b1⟩
  · obtain ⟨k1, k2, k3⟩ := vx_keep h0 e1 hS hAX hf hL hF
    obtain ⟨t2, a1, b1⟩ := kx E ce q u t T'.heap (locs ++ L) e1.symm (by rw [← e2]; exact X'.warmed.alike) hp hb k1 k2 k3 (by rw [e1]; exact hce) hcv hcl T' rfl X'
    exact ⟨t2, st.trans a1, b1⟩
theorem vx_calld {S SX : Type} {post : UInt64 → S → Prop} {px : SX → Prop} {B : S → State → Prop} {BX : String → SX → State → Prop} {AX : Nat → Prop} (hr : vx_Run p l e R s m args below meth c H locs cells slots mc ms (F0 m pc ls st0) rest (va_Qd post B A1 a) (vx_X px BX AX) free) (hS : va_S A0 H0 H locs) (hA : ∀ q, q < H.size → A1 q → A0 q) (hf : ∀ q, free q → A0 q) (hAX : ∀ q, q < H.size → AX q → A0 q)
    (kx : ∀ (E : String) (ce : Cell) (q9 : Addr) (u : SX) (t : State) (H1 : Heap) (locs1 : List Loc), t.heap = H1 → s.vm.Alike t.vm → px u → BX E u t → H.size ≤ H1.size → (∀ q : Nat, q < H.size → ¬ AX q → H1[q]? = H[q]?) → va_S A0 H0 H1 locs1 → H1[q9]? = some ce → ce.vm = .none → s.vm.findClass E = some ce.cls → vx_W p l e R s m args below meth c H1 locs1 (cells + mc) (slots + ms) Q (F0 m pc ls rest) q9)
    (kk : ∀ (r : UInt64) (u : S) (t : State) (H1 : Heap) (locs1 : List Loc), t.heap = H1 → s.vm.Alike t.vm → post r u → B u t → H.size ≤ H1.size → (∀ q : Nat, q < H.size → ¬ A1 q → H1[q]? = H[q]?) → va_S A0 H0 H1 locs1 → W p l e R s m args below meth c H1 locs1 (cells + mc) (slots + ms) Q (F0 m (pc + 3) ls (.double r :: rest))) : W p l e R s m args below meth c H locs cells slots Q (F0 m pc ls st0) := by
  intro T hT X
  rcases hr T hT X with ⟨v, st₀, t, T', L, h0, X', hL, e1, e2, ⟨⟨r, u, hv, hp, hb⟩, hF⟩, st⟩ | ⟨q, st₀, t, T', L, E, ce, h0, X', hL, e1, e2, ⟨u, hp, hb, hF⟩, hce, hcv, hcl, st⟩
  · cases hv
    obtain ⟨k1, k2, k3⟩ := vx_keep h0 e1 hS hA hf hL hF
    obtain ⟨t2, a1, b1⟩ := kk r u t T'.heap (locs ++ L) e1.symm (by rw [← e2]; exact X'.warmed.alike) hp hb k1 k2 k3 T' rfl X'
    exact ⟨t2, st t2 a1, b1⟩
  · obtain ⟨k1, k2, k3⟩ := vx_keep h0 e1 hS hAX hf hL hF
    obtain ⟨t2, a1, b1⟩ := kx E ce q u t T'.heap (locs ++ L) e1.symm (by rw [← e2]; exact X'.warmed.alike) hp hb k1 k2 k3 (by rw [e1]; exact hce) hcv hcl T' rfl X'
    exact ⟨t2, st.trans a1, b1⟩
theorem vx_callv {S SX : Type} {post : S → Prop} {px : SX → Prop} {B : S → State → Prop} {BX : String → SX → State → Prop} {AX : Nat → Prop} (hr : vx_Run p l e R s m args below meth c H locs cells slots mc ms (F0 m pc ls st0) rest (va_Qv post B A1 a) (vx_X px BX AX) free) (hS : va_S A0 H0 H locs) (hA : ∀ q, q < H.size → A1 q → A0 q) (hf : ∀ q, free q → A0 q) (hAX : ∀ q, q < H.size → AX q → A0 q)
    (kx : ∀ (E : String) (ce : Cell) (q9 : Addr) (u : SX) (t : State) (H1 : Heap) (locs1 : List Loc), t.heap = H1 → s.vm.Alike t.vm → px u → BX E u t → H.size ≤ H1.size → (∀ q : Nat, q < H.size → ¬ AX q → H1[q]? = H[q]?) → va_S A0 H0 H1 locs1 → H1[q9]? = some ce → ce.vm = .none → s.vm.findClass E = some ce.cls → vx_W p l e R s m args below meth c H1 locs1 (cells + mc) (slots + ms) Q (F0 m pc ls rest) q9)
    (kk : ∀ (u : S) (t : State) (H1 : Heap) (locs1 : List Loc), t.heap = H1 → s.vm.Alike t.vm → post u → B u t → H.size ≤ H1.size → (∀ q : Nat, q < H.size → ¬ A1 q → H1[q]? = H[q]?) → va_S A0 H0 H1 locs1 → W p l e R s m args below meth c H1 locs1 (cells + mc) (slots + ms) Q (F0 m (pc + 3) ls (rest))) : W p l e R s m args below meth c H locs cells slots Q (F0 m pc ls st0) := by
  intro T hT X
  rcases hr T hT X with ⟨v, st₀, t, T', L, h0, X', hL, e1, e2, ⟨⟨u, hv, hp, hb⟩, hF⟩, st⟩ | ⟨q, st₀, t, T', L, E, ce, h0, X', hL, e1, e2, ⟨u, hp, hb, hF⟩, hce, hcv, hcl, st⟩
  · cases hv
    obtain ⟨k1, k2, k3⟩ := vx_keep h0 e1 hS hA hf hL hF
    obtain ⟨t2, a1, b1⟩ := kk u t T'.heap (locs ++ L) e1.symm (by rw [← e2]; exact X'.warmed.alike) hp hb k1 k2 k3 T' rfl X'
    exact ⟨t2, st t2 a1, b1⟩
  · obtain ⟨k1, k2, k3⟩ := vx_keep h0 e1 hS hAX hf hL hF
    obtain ⟨t2, a1, b1⟩ := kx E ce q u t T'.heap (locs ++ L) e1.symm (by rw [← e2]; exact X'.warmed.alike) hp hb k1 k2 k3 (by rw [e1]; exact hce) hcv hcl T' rfl X'
    exact ⟨t2, st.trans a1, b1⟩
end Rows
section Ends
variable {p : Program} {l : Launch} {e : Env} {R : Room} {s : State} {m : MethodId} {args : Array Value} {below : List Frame} {meth : Method} {c : Code} {H : Heap} {locs : List Loc} {cells slots : Nat} {Q : State → Prop}
variable {mc ms : Nat} {free : Addr → Prop} {A0 A1 : Nat → Prop} {H0 : Heap} {a : Array Value} {ls : Array Slot} {st0 rest : List Value}
variable {Qc : Array Value → State → Outcome → State → Prop} {XC : String → State → State → Prop}
/-- what a body that may throw owes at its end -/
def vx_MQ (below : List Frame) (Qc : Array Value → State → Outcome → State → Prop) (XC : String → State → State → Prop) (a : Array Value) (s : State) (mc ms : Nat) (free : Addr → Prop) : State → Prop := fun t =>
  ∃ o, t.status = .running ∧ Ended t below o ∧ vx_Q Qc XC mc ms free a s o t
theorem vx_ret {g : JFrame} {mc ms : Nat} (k : W p l e R s m args below meth c H locs cells slots (MQ below Qc args s mc ms free) g) : W p l e R s m args below meth c H locs cells slots (vx_MQ below Qc XC args s mc ms free) g := by
  intro T hT X
  obtain ⟨t, a1, o, b1, b2, b3, b4⟩ := k T hT X
  exact ⟨t, a1, o, b1, b2, Or.inl ⟨b3, b4⟩⟩
/-- not caught here: it goes on to the caller -/
theorem vx_widen {g : JFrame} {q : Addr} {k n : Nat} (h1 : cells ≤ k) (h2 : slots ≤ n) (kk : vx_W p l e R s m args below meth c H locs k n Q g q) : vx_W p l e R s m args below meth c H locs cells slots Q g q := fun T hT X => kk T hT (stand_widen X h1 h2)
theorem vx_out {pc : Nat} {E : String} {ce : Cell} {q : Addr} {mc ms : Nat} (hout : ∀ x ∈ c.exceptionTable.toList, covers x pc = false) (hlocks : meth.locks = false) (hcell : H[q]? = some ce) (hv : ce.vm = .none) (hcl : s.vm.findClass E = some ce.cls)
    (hx : ∀ t : State, t.heap = H → s.vm.Alike t.vm → XC E s t) (hf : ∀ z ∈ locs, free z.base) (hc : cells ≤ mc) (hs : slots ≤ ms) :
    vx_W p l e R s m args below meth c H locs cells slots (vx_MQ below Qc XC args s mc ms free) (F0 m pc ls rest) q := by
  intro T hT X
  obtain ⟨st1, hrun, hend, hW, hsm⟩ := X.leaveThrown q (g := F0 m pc ls rest) rfl rfl rfl hout hlocks
  have hcell9 : (T.setFrames (.throwing q :: below)).heap[q]? = some ce := by
    show T.heap[q]? = some ce
    rw [hT]; exact hcell
  exact ⟨_, st1, .threw q, hrun, hend, Or.inr ⟨q, rfl, E, ce, locs, hx _ hT hW.alike, hcell9, hv, hcl, hW, hsm.mono hc hs, hf⟩⟩
theorem vx_frame {U : State} {k n : Nat} (h : s.sameButNew ({ U with vm := s.vm } : State) locs k n) : s.heap.size ≤ U.heap.size ∧ ∀ q : Nat, q < s.heap.size → (∀ z ∈ locs, z.base ≠ q) → U.heap[q]? = s.heap[q]? := by
  obtain ⟨-, h2, -, -, -, h6⟩ := h
  refine ⟨h2, fun q hq hz => ?_⟩
  obtain ⟨c9, e1, e2, e3, e4⟩ := h6 q _ (Array.getElem?_eq_getElem hq)
  have hs : c9.slots = (s.heap[q]).slots := Array.ext_getElem? fun i => e4 i fun hm => hz _ hm rfl
  have h9 : c9 = s.heap[q] := by
    rw [hs] at e2
    exact e2
  have e5 : U.heap[q]? = some c9 := e1
  rw [e5, h9, Array.getElem?_eq_getElem hq]
/-- the words of a throw but the four that speak of the heap -/
def vx_no (w : Cond) : Bool := decide (w ≠ .isRef (.static Bundle.tN "UNASSIGNED_STACK" Bundle.steD)) && decide (w ≠ .isRef (.static Bundle.tN "SUPPRESSED_SENTINEL" Bundle.listD)) && decide (w ≠ .laysStatic Bundle.tN "UNASSIGNED_STACK" Bundle.steD) && decide (w ≠ .laysStatic Bundle.tN "SUPPRESSED_SENTINEL" Bundle.listD)
def vx_at0 (own : String) (ic : Nat) (X : String) (names : List String) : List Cond := (Bundle.ownAtoms0 own ic X names).filter vx_no
def vx_atS (own : String) (ic : Nat) (X : String) (names : List String) : List Cond := (Bundle.ownAtoms own ic X names).filter vx_no
/-- a word that the tables alone decide, or a good one -/
def vx_ot (w : Cond) : Bool := w.onTables || goodWord w
theorem vx_ot_at {args a' : Array Value} {s U : State} {w : Cond} (hW : s.WarmedH U.vm) (hvm : s.vm = U.vm) (hg : vx_ot w = true) (h : w.before args s = true) : w.before a' U = true := by
  simp only [vx_ot, Bool.or_eq_true] at hg
  rcases hg with hg | hg
  · exact va_tabs hg hvm h
  · exact word_at hW (good_of_word hg) h
/-- a list's words: the good ones out of the method's own list, the others by premises of their own -/
theorem vx_hat {args : Array Value} {s : State} {L B : List Cond} (h1 : ∀ w ∈ L.filter goodWord, w.before args s = true) (h2 : ∀ w ∈ L.filter (fun w => !goodWord w), w ∈ B) (h3 : ∀ w ∈ B, w.before args s = true) : ∀ w ∈ L, w.before args s = true := by
  intro w hw
  by_cases g : goodWord w = true
  · exact h1 w (List.mem_filter.mpr ⟨hw, g⟩)
  · refine h3 w (h2 w (List.mem_filter.mpr ⟨hw, ?_⟩))
    show (!goodWord w) = true
    cases hgw : goodWord w
    · rfl
    · exact absurd hgw g
theorem vx_c {args : Array Value} {s : State} {w : Cond} {B : List Cond} (h : w.before args s = true) (t : ∀ w ∈ B, w.before args s = true) : ∀ w' ∈ w :: B, w'.before args s = true := fun w' h' => (List.mem_cons.mp h').elim (fun e => by rw [e]; exact h) (t w')
theorem vx_n {args : Array Value} {s : State} : ∀ w ∈ ([] : List Cond), w.before args s = true := fun _ h => nomatch h
theorem vx_own {args : Array Value} {s : State} {L : List Cond} (h1 : ∀ w ∈ L.filter vx_no, w.before args s = true)
    (hU : (Cond.isRef (.static Bundle.tN "UNASSIGNED_STACK" Bundle.steD)).before args s = true) (hN : (Cond.isRef (.static Bundle.tN "SUPPRESSED_SENTINEL" Bundle.listD)).before args s = true)
    (lU : (Cond.laysStatic Bundle.tN "UNASSIGNED_STACK" Bundle.steD).before args s = true) (lN : (Cond.laysStatic Bundle.tN "SUPPRESSED_SENTINEL" Bundle.listD).before args s = true) : ∀ w ∈ L, w.before args s = true := by
  intro w hw
  by_cases e1 : w = .isRef (.static Bundle.tN "UNASSIGNED_STACK" Bundle.steD)
  · rw [e1]; exact hU
  · by_cases e2 : w = .isRef (.static Bundle.tN "SUPPRESSED_SENTINEL" Bundle.listD)
    · rw [e2]; exact hN
    · by_cases e3 : w = .laysStatic Bundle.tN "UNASSIGNED_STACK" Bundle.steD
      · rw [e3]; exact lU
      · by_cases e4 : w = .laysStatic Bundle.tN "SUPPRESSED_SENTINEL" Bundle.listD
        · rw [e4]; exact lN
        · exact h1 w (List.mem_filter.mpr ⟨hw, by unfold vx_no; rw [decide_eq_true e1, decide_eq_true e2, decide_eq_true e3, decide_eq_true e4]; rfl⟩)
/-- where a static field lies, its class's statics cell in H -/
def vx_L (C n d : String) (A : Nat → Prop) (U : State) (H : Heap) : Prop := ∃ (c : ClassId) (k : Class) (i : Nat) (f : Field) (a : Nat) (cell : Cell), U.vm.findClass C = some c ∧ U.fieldFound? C n d = some (c, k, i, f) ∧ f.isStatic = true ∧ k.statics = some a ∧ H[a]? = some cell ∧ cell.vm.isStatics = true ∧ cell.cls = c ∧ f.slot < cell.slots.size ∧ k.staticTypes[f.slot]? = some f.type ∧ ¬ A a
theorem vx_L.moved {C n d : String} {A : Nat → Prop} {u U : State} {H : Heap} (hvm : u.vm.Alike U.vm) (h : vx_L C n d A u H) : vx_L C n d A U H := by
  obtain ⟨c, k, i, f, a, cell, h1, h2, h3, h4, h5, h6, h7, h8, h9, h10⟩ := h
  obtain ⟨k', hi', he⟩ := State.fieldFound?_setVm hvm h2
  exact ⟨c, k', i, f, a, cell, by rw [hvm.findClass]; exact h1, hi', h3, by rw [he]; exact h4, h5, h6, h7, h8, by rw [he]; exact h9, h10⟩
theorem vx_L.kept {C n d : String} {A : Nat → Prop} {U : State} {H H1 : Heap} (h : vx_L C n d A U H) (hq : ∀ a : Nat, a < H.size → ¬ A a → H1[a]? = H[a]?) : vx_L C n d A U H1 := by
  obtain ⟨c, k, i, f, a, cell, h1, h2, h3, h4, h5, h6, h7, h8, h9, h10⟩ := h
  exact ⟨c, k, i, f, a, cell, h1, h2, h3, h4, by rw [hq a (Array.getElem?_eq_some_iff.mp h5).1 h10]; exact h5, h6, h7, h8, h9, h10⟩
theorem vx_L.narrow {C n d : String} {A B : Nat → Prop} {U : State} {H : Heap} (h : vx_L C n d A U H) (hAB : ∀ q, B q → A q) : vx_L C n d B U H := by
  obtain ⟨c, k, i, f, a, cell, h1, h2, h3, h4, h5, h6, h7, h8, h9, h10⟩ := h
  exact ⟨c, k, i, f, a, cell, h1, h2, h3, h4, h5, h6, h7, h8, h9, fun z => h10 (hAB _ z)⟩
theorem vx_L.word {C n d : String} {A : Nat → Prop} {s : State} {args : Array Value} (h : vx_L C n d A s s.heap) : (Cond.laysStatic C n d).before args s = true := by
  obtain ⟨c, k, i, f, a, cell, h1, h2, h3, h4, h5, h6, h7, h8, h9, -⟩ := h
  show (Cond.laysStatic C n d).holds args s none s [] = true
  exact Cond.laysStatic_of h1 h2 h3 h4 h5 h6 h7 h8 h9
/-- .. and what it holds: null or some reference -/
def vx_Zq (C n d : String) (A : Nat → Prop) (U : State) (H : Heap) : Prop := va_Zq C n d A U H ∧ vx_L C n d A U H
theorem vx_Zq.moved {C n d : String} {A : Nat → Prop} {u U : State} {H : Heap} (hvm : u.vm.Alike U.vm) (h : vx_Zq C n d A u H) : vx_Zq C n d A U H := ⟨va_Zq.moved hvm h.1, vx_L.moved hvm h.2⟩
theorem vx_Zq.kept {C n d : String} {A : Nat → Prop} {U : State} {H H1 : Heap} (h : vx_Zq C n d A U H) (hq : ∀ a : Nat, a < H.size → ¬ A a → H1[a]? = H[a]?) : vx_Zq C n d A U H1 := ⟨va_Zq.kept h.1 hq, vx_L.kept h.2 hq⟩
theorem vx_Zq.narrow {C n d : String} {A B : Nat → Prop} {U : State} {H : Heap} (h : vx_Zq C n d A U H) (hAB : ∀ q, B q → A q) : vx_Zq C n d B U H := ⟨va_Zq.narrow h.1 hAB, vx_L.narrow h.2 hAB⟩
theorem vx_Zqof {args : Array Value} {s : State} {C n d : String} {A : Nat → Prop} (hl : (Cond.laysStatic C n d).before args s = true) (hini : (Cond.initialized C).before args s = true) (h : (Cond.isRef (.static C n d)).before args s = true) (hA : ∀ a : Nat, a < s.heap.size → ¬ A a) : vx_Zq C n d A s s.heap := by
  refine ⟨va_Zqof hl hini h hA, ?_⟩
  obtain ⟨c, k, i, f, a, cell, h1, h2, h3, h4, h5, h6, h7, h8, h9⟩ := Cond.laysStatic_spec hl
  exact ⟨c, k, i, f, a, cell, h1, h2, h3, h4, h5, h6, h7, h8, h9, hA a (Array.getElem?_eq_some_iff.mp h5).1⟩
theorem vx_isRef {C n d : String} {v : Value} {A : Nat → Prop} {s : State} {args : Array Value} (h : va_Z C n d v A s s.heap) (hv : v.isRef = true) : (Cond.isRef (.static C n d)).before args s = true := by
  obtain ⟨cf, kf, fi, f, a, cell, h1, h2, h3, h4, h5, h6, h7, -⟩ := h
  have he : (Term.static C n d).eval args s none [] s = some v := by
    simp [Term.eval, State.fieldNamed?, h1, h2, h4, h5, h6, h7]
  simp only [Cond.before, Cond.holds, Cond.value, he]
  cases v <;> simp_all [Value.isRef]
theorem vx_isRefq {C n d : String} {A : Nat → Prop} {s : State} {args : Array Value} (h : va_Zq C n d A s s.heap) : (Cond.isRef (.static C n d)).before args s = true := by
  rcases h with h | ⟨t, h⟩
  · exact vx_isRef h rfl
  · exact vx_isRef h rfl
/-- the same frame, seen from here: as if the method were called anew in this heap -/
theorem vx_rebase {T : State} (X : Stand p l e R s m args below meth c T locs cells slots) {R' : Room} (hf : R'.frames ≤ R.frames) (hl : R'.locals ≤ R.locals) (hc : cells + R'.cells ≤ R.cells) (hs : slots + R'.slots ≤ R.slots) :
    Stand p l e R' ((T.setVm s.vm).setFrames (.invoking m args :: below)) m args below meth c T [] 0 0 := by
  have htop : (T.setVm s.vm).topJava?.isSome := X.here.top
  have hF : ((T.setVm s.vm).setFrames (.invoking m args :: below)).frames = .invoking m args :: below := State.frames_setFrames _ (State.cur_lt_of_top htop)
  obtain ⟨g₀, hg0⟩ := Option.isSome_iff_exists.mp htop
  obtain ⟨r, hr⟩ := State.topJava?_eq_some.mp hg0
  have hl9 : e.platform.stackLimits (T.setVm s.vm).me = e.platform.stackLimits s.me := X.limits
  have hb9 : (T.setVm s.vm).me.stackBytes = s.me.stackBytes := X.bytes
  refine ⟨X.admits, X.cas, X.clock, hF, ?_, X.hears, X.method, X.code, X.here, X.tail, X.warmed, ?_, ?_, ?_⟩
  · have h := X.room
    have hU : ((T.setVm s.vm).setFrames (.invoking m args :: below)).localsInUse = s.localsInUse := by
      rw [State.localsInUse_invoking hF (meth := meth) (c := c) X.method X.code, State.localsInUse_invoking X.frames X.method X.code]
    simp only [State.hasRoom, Bool.and_eq_true, decide_eq_true_eq] at h ⊢
    obtain ⟨⟨⟨⟨h1, h2, h3, h4, h5, h6⟩, h7⟩, h8⟩, h9⟩ := h
    rw [X.frames, List.length_cons] at h2 h3
    have q1 := X.heapSize
    have q2 := X.used
    simp only [hF, hU, List.length_cons, State.stackLimits_setFrames, State.stackBytes_setFrames, hl9, hb9]
    refine ⟨⟨⟨⟨by omega, by omega, by omega, by omega, by omega, h6⟩, ?_⟩, ?_⟩, X.book⟩
    · show T.heap.size + R'.cells ≤ e.platform.maxCells
      omega
    · show T.slotsUsed + R'.slots ≤ e.platform.maxSlots
      omega
  · rw [State.stackLimits_setFrames]; rfl
  · rw [State.stackBytes_setFrames]; rfl
  · refine ⟨?_, Nat.le_refl _, Nat.le_refl _, ?_, ?_, fun a c9 h9 => ⟨c9, h9, rfl, rfl, fun _ _ => rfl⟩⟩
    · obtain ⟨t, ht, -⟩ := State.frames_cons hr
      show T.setVm s.vm = { ((T.setVm s.vm).setFrames (.invoking m args :: below)).setFrames (T.setVm s.vm).frames with heap := T.heap, slotsUsed := T.slotsUsed }
      rw [State.setFrames_setFrames, State.setFrames_self ht]
      rfl
    · show T.slotsUsed = T.slotsUsed + ((T.heap.toList.drop T.heap.size).map (·.slots.size)).sum
      rw [List.drop_eq_nil_of_le (Nat.le_of_eq Array.length_toList)]
      rfl
    · show ((T.heap.toList.drop T.heap.size).map (·.slots.size)).sum ≤ 0
      rw [List.drop_eq_nil_of_le (Nat.le_of_eq Array.length_toList)]
      exact Nat.le_refl _
/-- 'throw new E()': new; dup; invokespecial; athrow -/
theorem vx_throw0 {cc : ByteArray} {pc : Nat} (hexec : p.tables.exec = Jvm.exec) (hb : c.code = cc) (hl : l.stackTraces = false) {own cls : String} {names : List String} {ik ic mc ms : Nat} {A : Nat → Prop}
    (hown : s.vm.findClass own = some m.cls) (hcls : Bundle.fit cls = true) (hnames : ∀ n ∈ names, Bundle.fit n = true)
    (hk : (Cond.classLink own ik cls).before args s = true) (hini : (Cond.initialized cls).before args s = true) (hat : ∀ w ∈ vx_at0 own ic cls names, w.before args s = true)
    (hgood : ∀ w ∈ Cond.classLink own ik cls :: Cond.initialized cls :: vx_at0 own ic cls names, vx_ot w = true)
    (hU : vx_Zq Bundle.tN "UNASSIGNED_STACK" Bundle.steD A s s.heap) (hN : vx_Zq Bundle.tN "SUPPRESSED_SENTINEL" Bundle.listD A s s.heap) (hS : va_S A s.heap H locs) (hsize : ls.size = c.maxLocals)
    (d0 : decode cc pc = .ok (.new ik, 3)) (d3 : decode cc (pc + 3) = .ok (.dup, 1)) (d4 : decode cc (pc + 4) = .ok (.invokespecial ic, 3)) (d7 : decode cc (pc + 7) = .ok (.athrow, 1))
    (hout : ∀ x ∈ c.exceptionTable.toList, covers x (pc + 7) = false)
    (hRframes : names.length + 3 < R.frames) (hRlocals : (rest.map fun v => v.category).sum + (13 * (names.length + 1) + 42) ≤ R.locals) (hRcells : cells + 1 ≤ R.cells) (hRslots : slots + 6 ≤ R.slots) (hlocks : meth.locks = false)
    (hx : ∀ t : State, s.vm.Alike t.vm → H.size ≤ t.heap.size → (∀ q : Nat, q < H.size → t.heap[q]? = H[q]?) → XC cls s t)
    (hf : ∀ z ∈ locs, free z.base) (hc : cells + 1 ≤ mc) (hs : slots + 6 ≤ ms) :
    W p l e R s m args below meth c H locs cells slots (vx_MQ below Qc XC args s mc ms free) (F0 m pc ls rest) := by
  intro T hT X
  have htr : e.platform.stackTraces = false := (show e.platform.stackTraces = l.stackTraces by rw [X.admits.platform]).trans hl
  have Y := vx_rebase X (R' := { frames := R.frames, locals := R.locals, cells := 1, slots := 6 }) (Nat.le_refl _) (Nat.le_refl _) hRcells hRslots
  obtain ⟨s', hA⟩ : ∃ z, z = (T.setVm s.vm).setFrames (.invoking m args :: below) := ⟨_, rfl⟩
  rw [← hA] at Y
  have hvm : s'.vm = s.vm := by rw [hA]; rfl
  have hhp : s'.heap = H := by rw [hA]; exact hT
  have hW0 : s.WarmedH s'.vm := by rw [hvm]; exact State.WarmedH.refl s
  have hat' : ∀ w ∈ vx_at0 own ic cls names, w.before args s' = true := fun w hw => vx_ot_at hW0 hvm.symm (hgood w (List.mem_cons_of_mem _ (List.mem_cons_of_mem _ hw))) (hat w hw)
  have hk' : (Cond.classLink own ik cls).before args s' = true := vx_ot_at hW0 hvm.symm (hgood _ List.mem_cons_self) hk
  have hini' : (Cond.initialized cls).before args s' = true := vx_ot_at hW0 hvm.symm (hgood _ (List.mem_cons_of_mem _ List.mem_cons_self)) hini
  have hU' : vx_Zq Bundle.tN "UNASSIGNED_STACK" Bundle.steD A s' s'.heap := by rw [hhp]; exact vx_Zq.moved hW0.alike (hU.kept hS.2.1)
  have hN' : vx_Zq Bundle.tN "SUPPRESSED_SENTINEL" Bundle.listD A s' s'.heap := by rw [hhp]; exact vx_Zq.moved hW0.alike (hN.kept hS.2.1)
  have h : ∀ w ∈ Bundle.ownAtoms0 own ic cls names, w.before args s' = true := vx_own hat' (vx_isRefq hU'.1) (vx_isRefq hN'.1) hU'.2.word hN'.2.word
  have hown' : s'.vm.findClass own = some m.cls := by rw [hvm]; exact hown
  have hins : (Cond.instantiable cls 6).before args s' = true := h _ (by simp [Bundle.ownAtoms0])
  obtain ⟨vm₁, cX, kX, hfX, hkX, -, -, X₁, st1⟩ := Y.newCold hexec (own := own) (C := cls) (index := ik) (n := 6) hown' hk' hins hini'
    (g := F0 m pc ls rest) rfl (by rw [hb]; exact d0) (Nat.le_refl _) (Nat.le_refl _)
  generalize hT1 : (T.setVm vm₁).pushCell { cls := cX, slots := kX.instanceTypes.map defaultValue, vm := .none } = T1 at X₁ st1
  have hcat : (Value.ref T.heap.size).category = 1 := rfl
  have hcellA : T1.heap[T.heap.size]? = some (freshCell cX kX) := by rw [← hT1]; exact State.heap_pushCell_size _ _
  have d3' : decode c.code (pc + 3) = .ok (.dup, 1) := by rw [hb]; exact d3
  obtain ⟨U, hsteps, hrun, hend, hW, hsame, ce, hce, hO⟩ := X₁.ctorThrow0 hexec htr (own := own) (cls := cls) (names := names) (ic := ic) hown' hcls hnames h (fun x hx => nomatch hx) hfX hkX hcellA (by rw [hhp, hT]; exact Nat.le_refl _)
    (g := { method := m, pc := pc + 4, locals := ls, stack := .ref T.heap.size :: .ref T.heap.size :: rest, locked := none }) rfl hsize rfl rfl (rest := rest) rfl
    (by rw [hb]; exact d4) (by rw [hb]; exact d7) hout hRframes (by simp only [List.map_cons, List.sum_cons, hcat]; omega) hlocks
  obtain ⟨f1, f2⟩ := vx_frame hsame
  rw [hhp] at f1 f2
  have hWs : s.WarmedH U.vm := State.WarmedH.trans hW0 hW
  have hcl : s.vm.findClass cls = some ce.cls := by
    have h9 := hO.cls
    rw [hvm] at h9
    exact h9
  have hall : s.sameButNew ({ U with vm := s.vm } : State) locs mc ms := by
    subst hA
    obtain ⟨e1, e2⟩ := hsame
    rw [State.setFrames_setFrames] at e1
    have h2 : (T.setVm s.vm).sameButNew ({ U with vm := s.vm } : State) [] (0 + 1) (0 + 6) := ⟨e1, e2⟩
    have h3 := X.same.trans h2
    rw [List.append_nil] at h3
    exact h3.mono hc hs
  refine ⟨U, ?_, .threw T.heap.size, hrun, hend, Or.inr ⟨T.heap.size, rfl, cls, ce, locs, hx U hWs.alike f1 (fun q hq => f2 q hq (fun z hz => nomatch hz)), hce, hO.vm, hcl, hWs, hall, hf⟩⟩
  refine st1 _ ?_
  show Steps p.tables e below (T1.setTop { method := m, pc := pc + 3, locals := ls, stack := .ref T.heap.size :: rest, locked := none }) _
  jvm_step X₁.here [X₁.here.top, hexec, d3', Value.category]
  exact hsteps
/-- 'throw new E("text")': new; dup; ldc; invokespecial; athrow -/
theorem vx_throwS {cc : ByteArray} {pc : Nat} (hexec : p.tables.exec = Jvm.exec) (hb : c.code = cc) (hl : l.stackTraces = false) {own cls text : String} {names : List String} {ik is ic mc ms sa : Nat} {A : Nat → Prop}
    (hown : s.vm.findClass own = some m.cls) (hcls : Bundle.fit cls = true) (hnames : ∀ n ∈ names, Bundle.fit n = true)
    (hk : (Cond.classLink own ik cls).before args s = true) (hini : (Cond.initialized cls).before args s = true) (hstr : vk_R own is text sa s) (hat : ∀ w ∈ vx_atS own ic cls names, w.before args s = true)
    (hgood : ∀ w ∈ Cond.classLink own ik cls :: Cond.initialized cls :: vx_atS own ic cls names, vx_ot w = true)
    (hU : vx_Zq Bundle.tN "UNASSIGNED_STACK" Bundle.steD A s s.heap) (hN : vx_Zq Bundle.tN "SUPPRESSED_SENTINEL" Bundle.listD A s s.heap) (hS : va_S A s.heap H locs) (hsize : ls.size = c.maxLocals)
    (d0 : decode cc pc = .ok (.new ik, 3)) (d3 : decode cc (pc + 3) = .ok (.dup, 1)) (d4 : decode cc (pc + 4) = .ok (.ldc is, 2)) (d6 : decode cc (pc + 6) = .ok (.invokespecial ic, 3)) (d9 : decode cc (pc + 9) = .ok (.athrow, 1))
    (hout : ∀ x ∈ c.exceptionTable.toList, covers x (pc + 9) = false)
    (hRframes : names.length + 3 < R.frames) (hRlocals : (rest.map fun v => v.category).sum + (13 * (names.length + 1) + 43) ≤ R.locals) (hRcells : cells + 1 ≤ R.cells) (hRslots : slots + 6 ≤ R.slots) (hlocks : meth.locks = false)
    (hx : ∀ t : State, s.vm.Alike t.vm → H.size ≤ t.heap.size → (∀ q : Nat, q < H.size → t.heap[q]? = H[q]?) → XC cls s t)
    (hf : ∀ z ∈ locs, free z.base) (hc : cells + 1 ≤ mc) (hs : slots + 6 ≤ ms) :
    W p l e R s m args below meth c H locs cells slots (vx_MQ below Qc XC args s mc ms free) (F0 m pc ls rest) := by
  intro T hT X
  have htr : e.platform.stackTraces = false := (show e.platform.stackTraces = l.stackTraces by rw [X.admits.platform]).trans hl
  have Y := vx_rebase X (R' := { frames := R.frames, locals := R.locals, cells := 1, slots := 6 }) (Nat.le_refl _) (Nat.le_refl _) hRcells hRslots
  obtain ⟨s', hA⟩ : ∃ z, z = (T.setVm s.vm).setFrames (.invoking m args :: below) := ⟨_, rfl⟩
  rw [← hA] at Y
  have hvm : s'.vm = s.vm := by rw [hA]; rfl
  have hhp : s'.heap = H := by rw [hA]; exact hT
  have hW0 : s.WarmedH s'.vm := by rw [hvm]; exact State.WarmedH.refl s
  have hat' : ∀ w ∈ vx_atS own ic cls names, w.before args s' = true := fun w hw => vx_ot_at hW0 hvm.symm (hgood w (List.mem_cons_of_mem _ (List.mem_cons_of_mem _ hw))) (hat w hw)
  have hk' : (Cond.classLink own ik cls).before args s' = true := vx_ot_at hW0 hvm.symm (hgood _ List.mem_cons_self) hk
  have hini' : (Cond.initialized cls).before args s' = true := vx_ot_at hW0 hvm.symm (hgood _ (List.mem_cons_of_mem _ List.mem_cons_self)) hini
  have hU' : vx_Zq Bundle.tN "UNASSIGNED_STACK" Bundle.steD A s' s'.heap := by rw [hhp]; exact vx_Zq.moved hW0.alike (hU.kept hS.2.1)
  have hN' : vx_Zq Bundle.tN "SUPPRESSED_SENTINEL" Bundle.listD A s' s'.heap := by rw [hhp]; exact vx_Zq.moved hW0.alike (hN.kept hS.2.1)
  have h : ∀ w ∈ Bundle.ownAtoms own ic cls names, w.before args s' = true := vx_own hat' (vx_isRefq hU'.1) (vx_isRefq hN'.1) hU'.2.word hN'.2.word
  have hown' : s'.vm.findClass own = some m.cls := by rw [hvm]; exact hown
  have hins : (Cond.instantiable cls 6).before args s' = true := h _ (by simp [Bundle.ownAtoms])
  obtain ⟨vm₁, cX, kX, hfX, hkX, -, -, X₁, st1⟩ := Y.newCold hexec (own := own) (C := cls) (index := ik) (n := 6) hown' hk' hins hini'
    (g := F0 m pc ls rest) rfl (by rw [hb]; exact d0) (Nat.le_refl _) (Nat.le_refl _)
  generalize hT1 : (T.setVm vm₁).pushCell { cls := cX, slots := kX.instanceTypes.map defaultValue, vm := .none } = T1 at X₁ st1
  have hcat : (Value.ref T.heap.size).category = 1 := rfl
  have hcellA : T1.heap[T.heap.size]? = some (freshCell cX kX) := by rw [← hT1]; exact State.heap_pushCell_size _ _
  have d3' : decode c.code (pc + 3) = .ok (.dup, 1) := by rw [hb]; exact d3
  have d4' : decode c.code (pc + 4) = .ok (.ldc is, 2) := by rw [hb]; exact d4
  have hstr' : vk_R own is text sa s' := vk_R.warm hW0 hstr
  obtain ⟨U, hsteps, hrun, hend, hW, hsame, ce, hce, hO⟩ := X₁.ctorThrowS hexec htr (own := own) (cls := cls) (names := names) (ic := ic) hown' hcls hnames h (fun x hx => nomatch hx) hfX hkX hcellA (by rw [hhp, hT]; exact Nat.le_refl _) (msg := .ref sa) rfl
    (g := { method := m, pc := pc + 6, locals := ls, stack := .ref sa :: .ref T.heap.size :: .ref T.heap.size :: rest, locked := none }) rfl hsize rfl rfl (rest := rest) rfl
    (by rw [hb]; exact d6) (by rw [hb]; exact d9) hout hRframes (by simp only [List.map_cons, List.sum_cons, hcat]; omega) hlocks
  obtain ⟨f1, f2⟩ := vx_frame hsame
  rw [hhp] at f1 f2
  have hWs : s.WarmedH U.vm := State.WarmedH.trans hW0 hW
  have hcl : s.vm.findClass cls = some ce.cls := by
    have h9 := hO.cls
    rw [hvm] at h9
    exact h9
  have hall : s.sameButNew ({ U with vm := s.vm } : State) locs mc ms := by
    subst hA
    obtain ⟨e1, e2⟩ := hsame
    rw [State.setFrames_setFrames] at e1
    have h2 : (T.setVm s.vm).sameButNew ({ U with vm := s.vm } : State) [] (0 + 1) (0 + 6) := ⟨e1, e2⟩
    have h3 := X.same.trans h2
    rw [List.append_nil] at h3
    exact h3.mono hc hs
  refine ⟨U, ?_, .threw T.heap.size, hrun, hend, Or.inr ⟨T.heap.size, rfl, cls, ce, locs, hx U hWs.alike f1 (fun q hq => f2 q hq (fun z hz => nomatch hz)), hce, hO.vm, hcl, hWs, hall, hf⟩⟩
  refine st1 _ ?_
  show Steps p.tables e below (T1.setTop { method := m, pc := pc + 3, locals := ls, stack := .ref T.heap.size :: rest, locked := none }) _
  jvm_step X₁.here [X₁.here.top, hexec, d3', Value.category]
  exact X₁.ldcString hexec (own := own) (text := text) (index := is) (a := sa) hown' hstr'.1 hstr'.2
    (g := { method := m, pc := pc + 4, locals := ls, stack := .ref T.heap.size :: .ref T.heap.size :: rest, locked := none }) rfl d4' _ hsteps
/-- 'throw new E("text")', the text by a wide index -/
theorem vx_throwSW {cc : ByteArray} {pc : Nat} (hexec : p.tables.exec = Jvm.exec) (hb : c.code = cc) (hl : l.stackTraces = false) {own cls text : String} {names : List String} {ik is ic mc ms sa : Nat} {A : Nat → Prop}
    (hown : s.vm.findClass own = some m.cls) (hcls : Bundle.fit cls = true) (hnames : ∀ n ∈ names, Bundle.fit n = true)
    (hk : (Cond.classLink own ik cls).before args s = true) (hini : (Cond.initialized cls).before args s = true) (hstr : vk_R own is text sa s) (hat : ∀ w ∈ vx_atS own ic cls names, w.before args s = true)
    (hgood : ∀ w ∈ Cond.classLink own ik cls :: Cond.initialized cls :: vx_atS own ic cls names, vx_ot w = true)
    (hU : vx_Zq Bundle.tN "UNASSIGNED_STACK" Bundle.steD A s s.heap) (hN : vx_Zq Bundle.tN "SUPPRESSED_SENTINEL" Bundle.listD A s s.heap) (hS : va_S A s.heap H locs) (hsize : ls.size = c.maxLocals)
    (d0 : decode cc pc = .ok (.new ik, 3)) (d3 : decode cc (pc + 3) = .ok (.dup, 1)) (d4 : decode cc (pc + 4) = .ok (.ldc_w is, 3)) (d7 : decode cc (pc + 7) = .ok (.invokespecial ic, 3)) (d10 : decode cc (pc + 10) = .ok (.athrow, 1))
    (hout : ∀ x ∈ c.exceptionTable.toList, covers x (pc + 10) = false)
    (hRframes : names.length + 3 < R.frames) (hRlocals : (rest.map fun v => v.category).sum + (13 * (names.length + 1) + 43) ≤ R.locals) (hRcells : cells + 1 ≤ R.cells) (hRslots : slots + 6 ≤ R.slots) (hlocks : meth.locks = false)
    (hx : ∀ t : State, s.vm.Alike t.vm → H.size ≤ t.heap.size → (∀ q : Nat, q < H.size → t.heap[q]? = H[q]?) → XC cls s t)
    (hf : ∀ z ∈ locs, free z.base) (hc : cells + 1 ≤ mc) (hs : slots + 6 ≤ ms) :
    W p l e R s m args below meth c H locs cells slots (vx_MQ below Qc XC args s mc ms free) (F0 m pc ls rest) := by
  intro T hT X
  have htr : e.platform.stackTraces = false := (show e.platform.stackTraces = l.stackTraces by rw [X.admits.platform]).trans hl
  have Y := vx_rebase X (R' := { frames := R.frames, locals := R.locals, cells := 1, slots := 6 }) (Nat.le_refl _) (Nat.le_refl _) hRcells hRslots
  obtain ⟨s', hA⟩ : ∃ z, z = (T.setVm s.vm).setFrames (.invoking m args :: below) := ⟨_, rfl⟩
  rw [← hA] at Y
  have hvm : s'.vm = s.vm := by rw [hA]; rfl
  have hhp : s'.heap = H := by rw [hA]; exact hT
  have hW0 : s.WarmedH s'.vm := by rw [hvm]; exact State.WarmedH.refl s
  have hat' : ∀ w ∈ vx_atS own ic cls names, w.before args s' = true := fun w hw => vx_ot_at hW0 hvm.symm (hgood w (List.mem_cons_of_mem _ (List.mem_cons_of_mem _ hw))) (hat w hw)
  have hk' : (Cond.classLink own ik cls).before args s' = true := vx_ot_at hW0 hvm.symm (hgood _ List.mem_cons_self) hk
  have hini' : (Cond.initialized cls).before args s' = true := vx_ot_at hW0 hvm.symm (hgood _ (List.mem_cons_of_mem _ List.mem_cons_self)) hini
  have hU' : vx_Zq Bundle.tN "UNASSIGNED_STACK" Bundle.steD A s' s'.heap := by rw [hhp]; exact vx_Zq.moved hW0.alike (hU.kept hS.2.1)
  have hN' : vx_Zq Bundle.tN "SUPPRESSED_SENTINEL" Bundle.listD A s' s'.heap := by rw [hhp]; exact vx_Zq.moved hW0.alike (hN.kept hS.2.1)
  have h : ∀ w ∈ Bundle.ownAtoms own ic cls names, w.before args s' = true := vx_own hat' (vx_isRefq hU'.1) (vx_isRefq hN'.1) hU'.2.word hN'.2.word
  have hown' : s'.vm.findClass own = some m.cls := by rw [hvm]; exact hown
  have hins : (Cond.instantiable cls 6).before args s' = true := h _ (by simp [Bundle.ownAtoms])
  obtain ⟨vm₁, cX, kX, hfX, hkX, -, -, X₁, st1⟩ := Y.newCold hexec (own := own) (C := cls) (index := ik) (n := 6) hown' hk' hins hini'
    (g := F0 m pc ls rest) rfl (by rw [hb]; exact d0) (Nat.le_refl _) (Nat.le_refl _)
  generalize hT1 : (T.setVm vm₁).pushCell { cls := cX, slots := kX.instanceTypes.map defaultValue, vm := .none } = T1 at X₁ st1
  have hcat : (Value.ref T.heap.size).category = 1 := rfl
  have hcellA : T1.heap[T.heap.size]? = some (freshCell cX kX) := by rw [← hT1]; exact State.heap_pushCell_size _ _
  have d3' : decode c.code (pc + 3) = .ok (.dup, 1) := by rw [hb]; exact d3
  have d4' : decode c.code (pc + 4) = .ok (.ldc_w is, 3) := by rw [hb]; exact d4
  have hstr' : vk_R own is text sa s' := vk_R.warm hW0 hstr
  obtain ⟨U, hsteps, hrun, hend, hW, hsame, ce, hce, hO⟩ := X₁.ctorThrowS hexec htr (own := own) (cls := cls) (names := names) (ic := ic) hown' hcls hnames h (fun x hx => nomatch hx) hfX hkX hcellA (by rw [hhp, hT]; exact Nat.le_refl _) (msg := .ref sa) rfl
    (g := { method := m, pc := pc + 7, locals := ls, stack := .ref sa :: .ref T.heap.size :: .ref T.heap.size :: rest, locked := none }) rfl hsize rfl rfl (rest := rest) rfl
    (by rw [hb]; exact d7) (by rw [hb]; exact d10) hout hRframes (by simp only [List.map_cons, List.sum_cons, hcat]; omega) hlocks
  obtain ⟨f1, f2⟩ := vx_frame hsame
  rw [hhp] at f1 f2
  have hWs : s.WarmedH U.vm := State.WarmedH.trans hW0 hW
  have hcl : s.vm.findClass cls = some ce.cls := by
    have h9 := hO.cls
    rw [hvm] at h9
    exact h9
  have hall : s.sameButNew ({ U with vm := s.vm } : State) locs mc ms := by
    subst hA
    obtain ⟨e1, e2⟩ := hsame
    rw [State.setFrames_setFrames] at e1
    have h2 : (T.setVm s.vm).sameButNew ({ U with vm := s.vm } : State) [] (0 + 1) (0 + 6) := ⟨e1, e2⟩
    have h3 := X.same.trans h2
    rw [List.append_nil] at h3
    exact h3.mono hc hs
  refine ⟨U, ?_, .threw T.heap.size, hrun, hend, Or.inr ⟨T.heap.size, rfl, cls, ce, locs, hx U hWs.alike f1 (fun q hq => f2 q hq (fun z hz => nomatch hz)), hce, hO.vm, hcl, hWs, hall, hf⟩⟩
  refine st1 _ ?_
  show Steps p.tables e below (T1.setTop { method := m, pc := pc + 3, locals := ls, stack := .ref T.heap.size :: rest, locked := none }) _
  jvm_step X₁.here [X₁.here.top, hexec, d3', Value.category]
  exact X₁.ldcStringW hexec (own := own) (text := text) (index := is) (a := sa) hown' hstr'.1 hstr'.2
    (g := { method := m, pc := pc + 4, locals := ls, stack := .ref T.heap.size :: .ref T.heap.size :: rest, locked := none }) rfl d4' _ hsteps
end Ends
section Bodies
variable {l : Launch}
theorem vx_ofW {y : MethodName} {ws ws' : List Cond} {rm : Room} {Pc : Array Value → State → Prop} {Qc : Array Value → State → Outcome → State → Prop} {XC : String → State → State → Prop} {mc ms : Nat} {free : Addr → Prop} {cc : ByteArray} {maxL : Nat} {ret : Option FieldType}
    (hy : plainName y.cls = true) (hw : ws = Cond.code y cc maxL ret :: ws')
    (body : ∀ p e s m args below meth c s₁, BodyLoose p l y (headSpec ws rm) cc maxL ret e s m args below meth c s₁ → c.maxLocals = maxL → (∀ x ∈ c.exceptionTable.toList, False) → Pc args s →
      W p l e (headSpec ws rm).room s m args below meth c s.heap [] 0 0 (vx_MQ below Qc XC args s mc ms free) (entryFrame m args maxL)) : vx_Met l y ws rm Pc Qc XC mc ms free := by
  refine MetFree.of_bodyS (code := cc) (maxLocals := maxL) (ret := ret) hy ?_ ?_
  · intro args s m h hn
    obtain ⟨meth, c, h1, h2, h3, h4, h5, h6, -, -⟩ := Cond.code_spec hn (atoms_spec (ws := ws) h _ (by rw [hw]; exact List.mem_cons_self))
    exact ⟨meth, c, h1, h2, h3, h4, h5, h6⟩
  · intro p e s m args below meth c s₁ B hml hP _
    have hh0 : s₁.heap = s.heap := by rw [B.state]; rfl
    have ht : ∀ x ∈ c.exceptionTable.toList, False := by
      obtain ⟨meth9, c9, h1, h2, -, -, -, -, h7, -⟩ := Cond.code_spec B.named (atoms_spec (ws := ws) B.pre _ (by rw [hw]; exact List.mem_cons_self))
      cases Option.some.inj (h1.symm.trans B.method)
      cases Option.some.inj (h2.symm.trans (Stand.of_body B).code)
      intro x hx
      rw [Array.isEmpty_iff.mp h7] at hx
      cases hx
    obtain ⟨t, a1, o, b1, b2, b3⟩ := body p e s m args below meth c s₁ B hml ht hP s₁ hh0 (Stand.of_body B)
    exact ⟨t, o, a1, b1, b2, b3⟩
/-- the table of a body with handlers -/
theorem vx_table {p : Program} {x y : MethodName} {S : Spec} {cc bytes : ByteArray} {maxL maxL' : Nat} {ret ret' : Option FieldType} {e : Env} {s s₁ : State} {m : MethodId} {args : Array Value} {below : List Frame} {meth : Method} {c : Code} {hh : List (Nat × Nat × Nat × Nat)}
    (B : BodyLoose p l y S cc maxL ret e s m args below meth c s₁) (h : (Cond.codeWith y bytes maxL' ret' hh).before args s = true) : c.exceptionTable.toList = tableOf hh := by
  obtain ⟨m9, meth9, c9, hn9, h1, h2, -, -, h6, -⟩ := Cond.codeWith_spec h
  cases Option.some.inj (hn9.symm.trans B.named)
  cases Option.some.inj (h1.symm.trans B.method)
  cases Option.some.inj (h2.symm.trans (Stand.of_body B).code)
  rw [← h6, table_eq]
end Bodies
end VXA
/-! ===== END ===== -/
/-! ===== BEGIN a static call of a method with an exception table ===== -/
section VXS
variable {p : Program} {l : Launch} {e : Env} {R : Room} {s : State} {m : MethodId} {args : Array Value} {below : List Frame} {meth : Method} {c : Code} {T : State} {H : Heap} {locs : List Loc} {cells slots : Nat}
abbrev vx_CSW (R : Room) (s : State) (args : Array Value) (own : String) (index : Nat) (y : MethodName) (bytes : ByteArray) (maxL : Nat) (ret : Option FieldType) (hh : List (Nat × Nat × Nat × Nat)) (ws : List Cond) (rm : Room) (mc ms n : Nat) : Prop :=
  (rm.cells = mc ∧ rm.slots = ms ∧ rm.frames + 1 ≤ R.frames ∧ 8 + (maxL + 11) + rm.locals ≤ R.locals ∧ (∀ w ∈ ws, ∀ (a' : Array Value) (U : State), s.WarmedH U.vm → w.before a' U = true) ∧ Cond.codeWith y bytes maxL ret hh ∈ ws) ∧
  (Cond.codeWith y bytes maxL ret hh).before args s = true ∧ (Cond.initialized y.cls).before args s = true ∧ (y.cls ≠ "java/lang/invoke/MethodHandle" ∧ y.cls ≠ "java/lang/invoke/VarHandle") ∧
  (∀ sig, parseMethodDescriptor y.desc = some sig → n = sig.parameters.length) ∧ (Cond.methodLink own index y).before args s = true ∧ (Cond.static y).before args s = true
theorem vx_cwSW {own : String} {index maxL mc ms : Nat} {y : MethodName} {bytes : ByteArray} {ret : Option FieldType} {hh : List (Nat × Nat × Nat × Nat)} {Ts ws ws' : List Cond} {rm : Room} (n : Nat) (ht : ∀ w ∈ Ts, w.before args s = true) (hT : GoodIn Ts (va_wsS own index y ws)) (hw : ws = Cond.codeWith y bytes maxL ret hh :: ws') (hrc : rm.cells = mc) (hrs : rm.slots = ms)
    (hd : y.cls ≠ "java/lang/invoke/MethodHandle" ∧ y.cls ≠ "java/lang/invoke/VarHandle" ∧ (parseMethodDescriptor y.desc).map (fun d => d.parameters.length) = some n) (hR : rm.frames + 1 ≤ R.frames ∧ 8 + (maxL + 11) + rm.locals ≤ R.locals) :
    vx_CSW R s args own index y bytes maxL ret hh ws rm mc ms n := by
  have ok : ∀ w ∈ va_wsS own index y ws, w.before args s = true := fun w h => ht w (hT w h).1
  have hG : GoodIn Ts ws := fun w h => hT w (by unfold va_wsS; exact List.mem_append_right _ h)
  have hc : Cond.codeWith y bytes maxL ret hh ∈ ws := by rw [hw]; exact List.mem_cons_self
  refine ⟨⟨hrc, hrs, hR.1, hR.2, pay_in ht hG, hc⟩, ht _ (hG _ hc).1, ok _ (by simp [va_wsS]), ⟨hd.1, hd.2.1⟩, fun sig h => ?_, ok _ (by simp [va_wsS]), ok _ (by simp [va_wsS])⟩
  have h2 := hd.2.2
  rw [h] at h2
  exact (Option.some.inj h2).symm
theorem vx_callSW (X : Stand p l e R s m args below meth c T locs cells slots) (hexec : p.tables.exec = Jvm.exec) {own : String} {index : Nat} {y : MethodName} {bytes : ByteArray} {maxL : Nat} {ret : Option FieldType} {hh : List (Nat × Nat × Nat × Nat)}
    (hown : s.vm.findClass own = some m.cls) (hlink : (Cond.methodLink own index y).before args s = true) (hstat : (Cond.static y).before args s = true) (hinit : (Cond.initialized y.cls).before args s = true)
    (hcode : (Cond.codeWith y bytes maxL ret hh).before args s = true) (hy : y.cls ≠ "java/lang/invoke/MethodHandle" ∧ y.cls ≠ "java/lang/invoke/VarHandle")
    {W9 : Nat} {Pre : Pt → Array Value → Prop} {Post : Pt → Array Value → Option Value → Pt → Prop} (hK : Back l R p e below s args y 3 W9 Pre Post)
    {g : JFrame} (hg : g.method = m) (hsize : g.locals.size = c.maxLocals) {argsL rest : List Value} (hlen : ∀ sig, parseMethodDescriptor y.desc = some sig → argsL.length = sig.parameters.length)
    (hstack : g.stack = argsL.reverse ++ rest) (hW : 2 * g.monitorRoom + (rest.map fun v => v.category).sum ≤ W9) (hdg : decode c.code g.pc = .ok (.invokestatic index, 3))
    (hpre : ∀ vm₁, s.WarmedH vm₁ → Pre ⟨T.setVm vm₁, locs, cells, slots⟩ argsL.toArray) :
    ∃ (v : Option Value) (vm₁ : Vm) (B : Pt), s.WarmedH vm₁ ∧ Stand p l e R s m args below meth c B.U B.locs B.cells B.slots ∧ Post ⟨T.setVm vm₁, locs, cells, slots⟩ argsL.toArray v B ∧
      ∀ target, Steps p.tables e below (B.U.setTop { g with pc := g.pc + 3, stack := v.toList ++ rest }) target → Steps p.tables e below (T.setTop g) target := by
  obtain ⟨mk, methM, cM, hnamed, hmethM, -, -, -, -, -, -, hsigM⟩ := Cond.codeWith_spec hcode
  have hstatic : methM.isStatic = true := Cond.static_spec hnamed hmethM hstat
  obtain ⟨kP, hkP, -⟩ := className_of_methodNamed hnamed
  have hinitP : kP.init = .initialized := Cond.initialized_spec (findClass_of_methodNamed hnamed) hkP hinit
  obtain ⟨vm₁, X₁, hstep₁⟩ := X.invokestatic hexec hown hlink hnamed hmethM hstatic hkP hinitP hy (g := g) hg (argsL := argsL) (rest := rest) (hlen _ hsigM) hstack hdg
  obtain ⟨v, B, X', hpost, hsteps⟩ := hK m meth c ⟨T.setVm vm₁, locs, cells, slots⟩ { g with stack := rest } (.invokestatic index) mk argsL.toArray X₁ hg hsize hdg hW (X₁.named hnamed) (hpre vm₁ X₁.warmed)
  exact ⟨v, vm₁, B, X₁.warmed, X', hpost, fun target h => hstep₁ _ fun acts => by rw [doInvoke_state]; exact hsteps.trans h⟩
theorem vx_runSW {y : MethodName} {bytes cc : ByteArray} {maxL nL mc ms n index : Nat} {ret : Option FieldType} {hh : List (Nat × Nat × Nat × Nat)} {ws : List Cond} {rm : Room} {Pc : Array Value → State → Prop} {Qc : Array Value → State → Outcome → State → Prop} {free : Addr → Prop} {Ts : List Cond} {own : String} {As rest : List Value} {g : JFrame}
    (S : CallFix p m c cc nL s args Ts own) (hM : Met l y ws rm Pc Qc mc ms free) (cw : vx_CSW R s args own index y bytes maxL ret hh ws rm mc ms n) (hp : PreS s H Pc As)
    (hg : g.method = m) (hn : As.length = n) (hsize : g.locals.size = nL) (hstack : g.stack = As.reverse ++ rest) (hW : 2 * g.monitorRoom + (rest.map fun v => v.category).sum ≤ 8) (hdg : decode cc g.pc = .ok (.invokestatic index, 3)) (hf : cells + mc ≤ R.cells ∧ slots + ms ≤ R.slots) :
    va_Run p l e R s m args below meth c H locs cells slots mc ms g rest (Qc As.toArray) (free) := by
  obtain ⟨⟨hrc, hrs, hfr, hlo, hws, hcw⟩, hcode, hini, hy, hlen, hl, hstt⟩ := cw
  have hK : Back l R p e below s args y 3 8 (PreOf R mc ms Pc) (PostOf Qc mc ms free) := va_backW (hh := hh) (bytes := bytes) (maxL := maxL) (ret := ret) hM hp.1 hrc hrs hfr hlo hws hcw (fun a' U hW => word_at hW (Or.inl (by first | rfl | simp [Cond.onTables, Cond.keeps, Cond.steady])) hini)
  obtain ⟨hx, hb, hml, ho, -⟩ := S
  intro T hT X
  obtain ⟨v, vm₁, ⟨U', l2, c2, s2⟩, hW₁, X', ⟨g', mk, t, L, e1, e2, hq, h1, hL, h2, h3⟩, st⟩ := vx_callSW X hx (hh := hh) (bytes := bytes) (maxL := maxL) (ret := ret) ho hl hstt hini hcode hy hK hg (hsize.trans hml.symm) (argsL := As) (rest := rest) (fun sig h => hn.trans (hlen sig h)) hstack hW (by rw [hb]; exact hdg)
    (fun vm₁ hW₁ => ⟨hf.1, hf.2, hp.2 (T.setVm vm₁) hT hW₁⟩)
  dsimp only [Pt.U, Pt.locs, Pt.cells, Pt.slots] at X' e1 e2 h1 h2 h3 st
  subst h1; subst h2; subst h3
  exact ⟨v, (T.setVm vm₁).calling g' mk As.toArray, t, U', L, hT, X', hL, e1, e2, hq, st⟩
/-- a thing of a world lies in the heap -/
theorem vx_lt {D : va_G} {cl : List vw_C} {ws : va_W} {H1 : Heap} (h : va_P D cl ws H1) {k : Nat} {q : Nat × va_E} (hk : ws[k]? = some q) : q.1 < H1.size := (h k q hk).lt
end VXS
/-! ===== END ===== -/
/-! ===== BEGIN methods with a table of their own: called by a name, returning or throwing ===== -/
section VXH
section
variable {l : Launch} {R : Room} {p : Program} {e : Env} {below : List Frame} {s : State} {sargs : Array Value} {y : MethodName} {len W9 : Nat}
theorem vx_backW {ws : List Cond} {rm : Room} {Pc : Array Value → State → Prop} {Qc : Array Value → State → Outcome → State → Prop} {XC : String → State → State → Prop} {mc ms : Nat} {free : Addr → Prop} {bytes : ByteArray} {maxL : Nat} {ret : Option FieldType} {hh : List (Nat × Nat × Nat × Nat)}
    (hM : vx_Met l y ws rm Pc Qc XC mc ms free) (hblind : FrameBlind Pc) (hrc : rm.cells = mc) (hrs : rm.slots = ms)
    (hframes : rm.frames + 1 ≤ R.frames) (hlocals : W9 + (maxL + 11) + rm.locals ≤ R.locals)
    (hws : ∀ w ∈ ws, ∀ a' U, s.WarmedH U.vm → w.before a' U = true) (hcode : Cond.codeWith y bytes maxL ret hh ∈ ws) (hinit : ∀ a' U, s.WarmedH U.vm → (Cond.initialized y.cls).before a' U = true) :
    vx_Back l R p e below s sargs y len W9 (PreOf R mc ms Pc) (PostOf Qc mc ms free) (vx_Post XC mc ms free) := by
  intro m meth c A g ig mk a X hg hsize hdg hW hn hp
  have h1 : (headSpec ws rm).pre.before a A.U = true := atoms_intro fun w hw => hws w hw _ _ X.warmed
  have h2 : (Cond.codeWith y bytes maxL ret hh).before a A.U = true := hws _ hcode _ _ X.warmed
  have h3 : (Cond.initialized y.cls).before a A.U = true := hinit _ _ X.warmed
  have h4 : A.cells + (headSpec ws rm).room.cells ≤ R.cells := by rw [show (headSpec ws rm).room.cells = mc from hrc]; exact hp.1
  have h5 : A.slots + (headSpec ws rm).room.slots ≤ R.slots := by rw [show (headSpec ws rm).room.slots = ms from hrs]; exact hp.2.1
  have hPc : Pc a (A.U.calling g mk a) := hblind _ _ _ _ hp.2.2
  obtain ⟨U, Ls, c0, s0⟩ := A
  dsimp only [Pt.U, Pt.locs, Pt.cells, Pt.slots] at h1 h2 h3 h4 h5 X hn hPc ⊢
  obtain ⟨m9, methY, cY, hn9, hmY, hcY, -, hlY, -⟩ := Cond.codeWith_spec h2
  cases Option.some.inj (hn9.symm.trans hn)
  obtain ⟨kY, hkY, -⟩ := className_of_methodNamed hn
  have hinitY : kY.init = .initialized := Cond.initialized_spec (findClass_of_methodNamed hn) hkY h3
  have h : At U g.method c below := by rw [hg]; exact X.here
  have hlocals9 : W9 + (maxL + 11) + (headSpec ws rm).room.locals ≤ R.locals := hlocals
  have happ : (headSpec ws rm).appliesLoose y e.platform (U.calling g mk a) = true :=
    Spec.appliesLoose_calling (g := g) h hdg hn hkY hinitY
      (X.room_calling (g := g) (R' := (headSpec ws rm).room) hsize hmY hcY hframes (by rw [hlY]; omega) h4 h5) h1
  obtain ⟨mid, hmid⟩ := h.above
  have hfr : (U.setTop g).frames = (.java g :: mid) ++ below := by rw [State.frames_setTop' g h.top, hmid]; rfl
  obtain ⟨o, s₂, hsteps, -, hend, hq⟩ := Steps.callFree hM p X.admits X.cas X.clock (acts := []) hfr happ hPc trivial
  have hq' : vx_Q Qc XC mc ms free a (U.calling g mk a) o s₂ := hq
  rw [State.frames_setTop' g h.top] at hend
  obtain ⟨g₀, hg0⟩ := Option.isSome_iff_exists.mp h.top
  obtain ⟨r, hr⟩ := State.topJava?_eq_some.mp hg0
  have hr' : (({ U with heap := s₂.heap, slotsUsed := s₂.slotsUsed } : State).setVm s₂.vm).frames = .java g₀ :: r := hr
  rcases hq' with ⟨hqc, L, hfe, hL⟩ | ⟨q, rfl, E, ce, L, hx, hce, hcv, hcl, hW₂, hsm, hL⟩
  · obtain ⟨⟨v, rfl⟩, hW₂, e2, q2, q3, q4, q5, q6⟩ := id hfe
    have e3 : s₂ = ({ (U.calling g mk a).setFrames s₂.frames with heap := s₂.heap, slotsUsed := s₂.slotsUsed } : State).setVm s₂.vm := by
      have : s₂ = ({ s₂ with vm := (U.calling g mk a).vm } : State).setVm s₂.vm := rfl
      rw [e2] at this
      exact this
    obtain ⟨c₂, i₂, len₂, hc₂, hd₂, hf₂⟩ := hend
    have hW' : U.WarmedH s₂.vm := hW₂
    have hcc : c₂ = c := by
      have h1 : s₂.code? g.method = U.code? g.method := by
        rw [State.code?_eq, State.code?_eq, hW'.alike.method?]
      exact Option.some.inj (hc₂.symm.trans (h1.trans h.code))
    subst hcc
    have hlen : len₂ = len := by rw [hdg] at hd₂; cases hd₂; rfl
    subst hlen
    have hs₂ : s₂ = (({ U with heap := s₂.heap, slotsUsed := s₂.slotsUsed } : State).setVm s₂.vm).setTop { g with pc := g.pc + len₂, stack := v.toList ++ g.stack } := by
      refine e3.trans ?_
      rw [hf₂, State.calling_eq h.top, State.setFrames_setFrames, State.setTop_of_frames _ hr', hr]
      rfl
    have hsame : U.sameButNew ({ U with heap := s₂.heap, slotsUsed := s₂.slotsUsed } : State) L mc ms := by
      refine ⟨?_, q2, q3, q4, q5, q6⟩
      obtain ⟨t, ht, -⟩ := State.frames_cons hr
      show ({ U with heap := s₂.heap, slotsUsed := s₂.slotsUsed } : State) = { U.setFrames U.frames with heap := s₂.heap, slotsUsed := s₂.slotsUsed }
      rw [State.setFrames_self ht]
    subst hg
    refine Or.inl ⟨v, ⟨(({ U with heap := s₂.heap, slotsUsed := s₂.slotsUsed } : State).setVm s₂.vm), Ls ++ L, c0 + mc, s0 + ms⟩,
      ⟨X.admits, X.cas, X.clock, X.frames, X.room, X.hears, X.method, X.code, (X.here.setHeapUsed s₂.heap s₂.slotsUsed).setVm hW'.alike, X.tail, State.WarmedH.trans X.warmed hW', X.limits, X.bytes, X.same.trans (hsame.setVm s.vm)⟩,
      ⟨g, mk, s₂, L, rfl, rfl, hqc, rfl, hL, rfl, rfl⟩, ?_⟩
    show Steps p.tables e below _ ((({ U with heap := s₂.heap, slotsUsed := s₂.slotsUsed } : State).setVm s₂.vm).setTop { g with pc := g.pc + len₂, stack := v.toList ++ g.stack })
    rw [← hs₂]
    exact hsteps
  · obtain ⟨e2, q2, q3, q4, q5, q6⟩ := id hsm
    have e3 : s₂ = ({ (U.calling g mk a).setFrames s₂.frames with heap := s₂.heap, slotsUsed := s₂.slotsUsed } : State).setVm s₂.vm := by
      have : s₂ = ({ s₂ with vm := (U.calling g mk a).vm } : State).setVm s₂.vm := rfl
      rw [e2] at this
      exact this
    have hf₂ : s₂.frames = .throwing q :: .java g :: U.frames.tail := hend
    have hW' : U.WarmedH s₂.vm := hW₂
    have hs₂ : s₂ = ((({ U with heap := s₂.heap, slotsUsed := s₂.slotsUsed } : State).setVm s₂.vm).setTop g).pushFrame (.throwing q) := by
      refine e3.trans ?_
      rw [hf₂, State.calling_eq h.top, State.setFrames_setFrames, State.pushFrame, State.frames_setTop _ hr', State.setTop_of_frames _ hr', State.setFrames_setFrames, hr]
      rfl
    have hsame : U.sameButNew ({ U with heap := s₂.heap, slotsUsed := s₂.slotsUsed } : State) L mc ms := by
      refine ⟨?_, q2, q3, q4, q5, q6⟩
      obtain ⟨t, ht, -⟩ := State.frames_cons hr
      show ({ U with heap := s₂.heap, slotsUsed := s₂.slotsUsed } : State) = { U.setFrames U.frames with heap := s₂.heap, slotsUsed := s₂.slotsUsed }
      rw [State.setFrames_self ht]
    subst hg
    refine Or.inr ⟨q, ⟨(({ U with heap := s₂.heap, slotsUsed := s₂.slotsUsed } : State).setVm s₂.vm), Ls ++ L, c0 + mc, s0 + ms⟩,
      ⟨X.admits, X.cas, X.clock, X.frames, X.room, X.hears, X.method, X.code, (X.here.setHeapUsed s₂.heap s₂.slotsUsed).setVm hW'.alike, X.tail, State.WarmedH.trans X.warmed hW', X.limits, X.bytes, X.same.trans (hsame.setVm s.vm)⟩,
      ⟨g, mk, s₂, L, E, ce, rfl, rfl, hx, hce, hcv, hcl, rfl, hL, rfl, rfl⟩, ?_⟩
    show Steps p.tables e below _ (((({ U with heap := s₂.heap, slotsUsed := s₂.slotsUsed } : State).setVm s₂.vm).setTop g).pushFrame (.throwing q))
    rw [← hs₂]
    exact hsteps
end
variable {p : Program} {l : Launch} {e : Env} {R : Room} {s : State} {m : MethodId} {args : Array Value} {below : List Frame} {meth : Method} {c : Code} {T : State} {H : Heap} {locs : List Loc} {cells slots : Nat}
theorem vx_callVX (X : Stand p l e R s m args below meth c T locs cells slots) (hexec : p.tables.exec = Jvm.exec) {own C : String} {index : Nat} {y : MethodName} {bytes : ByteArray} {maxL : Nat} {ret : Option FieldType} {hh : List (Nat × Nat × Nat × Nat)}
    (hown : s.vm.findClass own = some m.cls) (hlink : (Cond.methodLink own index y).before args s = true) (hinst : (Cond.instanceMethod y).before args s = true) (hsel : (Cond.selects C y y).before args s = true)
    (hcode : (Cond.codeWith y bytes maxL ret hh).before args s = true) (hy : y.cls ≠ "java/lang/invoke/MethodHandle" ∧ y.cls ≠ "java/lang/invoke/VarHandle")
    {W9 : Nat} {Pre : Pt → Array Value → Prop} {Post : Pt → Array Value → Option Value → Pt → Prop} {PostX : Pt → Array Value → Addr → Pt → Prop} (hK : vx_Back l R p e below s args y 3 W9 Pre Post PostX)
    {b : Addr} {cellB : Cell} (hcell : T.heap[b]? = some cellB) (hobj : cellB.vm.isStatics = false) (hcls : s.vm.findClass C = some cellB.cls)
    {g : JFrame} (hg : g.method = m) (hsize : g.locals.size = c.maxLocals) {argsL rest : List Value} (hlen : ∀ sig, parseMethodDescriptor y.desc = some sig → argsL.length = sig.parameters.length)
    (hstack : g.stack = argsL.reverse ++ .ref b :: rest) (hW : 2 * g.monitorRoom + (rest.map fun v => v.category).sum ≤ W9) (hdg : decode c.code g.pc = .ok (.invokevirtual index, 3))
    (hpre : ∀ vm₁, s.WarmedH vm₁ → Pre ⟨T.setVm vm₁, locs, cells, slots⟩ (Value.ref b :: argsL).toArray) :
    (∃ (v : Option Value) (vm₁ : Vm) (B : Pt), s.WarmedH vm₁ ∧ Stand p l e R s m args below meth c B.U B.locs B.cells B.slots ∧ Post ⟨T.setVm vm₁, locs, cells, slots⟩ (Value.ref b :: argsL).toArray v B ∧
      ∀ target, Steps p.tables e below (B.U.setTop { g with pc := g.pc + 3, stack := v.toList ++ rest }) target → Steps p.tables e below (T.setTop g) target) ∨
    (∃ (q : Addr) (vm₁ : Vm) (B : Pt), s.WarmedH vm₁ ∧ Stand p l e R s m args below meth c B.U B.locs B.cells B.slots ∧ PostX ⟨T.setVm vm₁, locs, cells, slots⟩ (Value.ref b :: argsL).toArray q B ∧
      Steps p.tables e below (T.setTop g) ((B.U.setTop { g with stack := rest }).pushFrame (.throwing q))) := by
  obtain ⟨mk, methM, hnamed, hmethM, hstM, habM⟩ := Cond.instanceMethod_spec hinst
  obtain ⟨m8, methM', cM, hn8, hmethM', -, -, -, -, -, -, hsigM⟩ := Cond.codeWith_spec hcode
  cases Option.some.inj (hn8.symm.trans hnamed)
  cases hmethM.symm.trans hmethM'
  obtain ⟨c2, r2, m2, q1, q2, q3, q4, kP, hkP, hkPi⟩ := Cond.selects_spec hsel
  cases hcls.symm.trans q1
  cases (State.methodFound?_of_named hnamed hy).symm.trans q2
  cases hnamed.symm.trans q3
  have hselP : selectMethod e.platform s.vm cellB.cls mk = .method mk := by rw [Launch.admits_selectMethod X.admits]; exact q4
  obtain ⟨vm₁, X₁, hstep₁⟩ := X.invokevirtual hexec hown hlink hnamed hmethM hstM hkP hkPi hy (a := b) (cell := cellB) hcell
    (fun z h => by rw [h] at hobj; cases hobj) hselP hmethM habM hkP hkPi (g := g) hg (argsL := argsL) (rest := rest) (hlen _ hsigM) hstack hdg
  rcases hK m meth c ⟨T.setVm vm₁, locs, cells, slots⟩ { g with stack := rest } (.invokevirtual index) mk (Value.ref b :: argsL).toArray X₁ hg hsize hdg hW (X₁.named hnamed) (hpre vm₁ X₁.warmed) with ⟨v, B, X', hpost, hsteps⟩ | ⟨q, B, X', hpost, hsteps⟩
  · exact Or.inl ⟨v, vm₁, B, X₁.warmed, X', hpost, fun target h => hstep₁ _ fun acts => by rw [doInvoke_state]; exact hsteps.trans h⟩
  · exact Or.inr ⟨q, vm₁, B, X₁.warmed, X', hpost, hstep₁ _ fun acts => by rw [doInvoke_state]; exact hsteps⟩
theorem vx_callSX (X : Stand p l e R s m args below meth c T locs cells slots) (hexec : p.tables.exec = Jvm.exec) {own : String} {index : Nat} {y : MethodName} {bytes : ByteArray} {maxL : Nat} {ret : Option FieldType} {hh : List (Nat × Nat × Nat × Nat)}
    (hown : s.vm.findClass own = some m.cls) (hlink : (Cond.methodLink own index y).before args s = true) (hstat : (Cond.static y).before args s = true) (hinit : (Cond.initialized y.cls).before args s = true)
    (hcode : (Cond.codeWith y bytes maxL ret hh).before args s = true) (hy : y.cls ≠ "java/lang/invoke/MethodHandle" ∧ y.cls ≠ "java/lang/invoke/VarHandle")
    {W9 : Nat} {Pre : Pt → Array Value → Prop} {Post : Pt → Array Value → Option Value → Pt → Prop} {PostX : Pt → Array Value → Addr → Pt → Prop} (hK : vx_Back l R p e below s args y 3 W9 Pre Post PostX)
    {g : JFrame} (hg : g.method = m) (hsize : g.locals.size = c.maxLocals) {argsL rest : List Value} (hlen : ∀ sig, parseMethodDescriptor y.desc = some sig → argsL.length = sig.parameters.length)
    (hstack : g.stack = argsL.reverse ++ rest) (hW : 2 * g.monitorRoom + (rest.map fun v => v.category).sum ≤ W9) (hdg : decode c.code g.pc = .ok (.invokestatic index, 3))
    (hpre : ∀ vm₁, s.WarmedH vm₁ → Pre ⟨T.setVm vm₁, locs, cells, slots⟩ argsL.toArray) :
    (∃ (v : Option Value) (vm₁ : Vm) (B : Pt), s.WarmedH vm₁ ∧ Stand p l e R s m args below meth c B.U B.locs B.cells B.slots ∧ Post ⟨T.setVm vm₁, locs, cells, slots⟩ argsL.toArray v B ∧
      ∀ target, Steps p.tables e below (B.U.setTop { g with pc := g.pc + 3, stack := v.toList ++ rest }) target → Steps p.tables e below (T.setTop g) target) ∨
    (∃ (q : Addr) (vm₁ : Vm) (B : Pt), s.WarmedH vm₁ ∧ Stand p l e R s m args below meth c B.U B.locs B.cells B.slots ∧ PostX ⟨T.setVm vm₁, locs, cells, slots⟩ argsL.toArray q B ∧
      Steps p.tables e below (T.setTop g) ((B.U.setTop { g with stack := rest }).pushFrame (.throwing q))) := by
  obtain ⟨mk, methM, cM, hnamed, hmethM, -, -, -, -, -, -, hsigM⟩ := Cond.codeWith_spec hcode
  have hstatic : methM.isStatic = true := Cond.static_spec hnamed hmethM hstat
  obtain ⟨kP, hkP, -⟩ := className_of_methodNamed hnamed
  have hinitP : kP.init = .initialized := Cond.initialized_spec (findClass_of_methodNamed hnamed) hkP hinit
  obtain ⟨vm₁, X₁, hstep₁⟩ := X.invokestatic hexec hown hlink hnamed hmethM hstatic hkP hinitP hy (g := g) hg (argsL := argsL) (rest := rest) (hlen _ hsigM) hstack hdg
  rcases hK m meth c ⟨T.setVm vm₁, locs, cells, slots⟩ { g with stack := rest } (.invokestatic index) mk argsL.toArray X₁ hg hsize hdg hW (X₁.named hnamed) (hpre vm₁ X₁.warmed) with ⟨v, B, X', hpost, hsteps⟩ | ⟨q, B, X', hpost, hsteps⟩
  · exact Or.inl ⟨v, vm₁, B, X₁.warmed, X', hpost, fun target h => hstep₁ _ fun acts => by rw [doInvoke_state]; exact hsteps.trans h⟩
  · exact Or.inr ⟨q, vm₁, B, X₁.warmed, X', hpost, hstep₁ _ fun acts => by rw [doInvoke_state]; exact hsteps⟩
theorem vx_callVW (X : Stand p l e R s m args below meth c T locs cells slots) (hexec : p.tables.exec = Jvm.exec) {own C : String} {index : Nat} {y : MethodName} {bytes : ByteArray} {maxL : Nat} {ret : Option FieldType} {hh : List (Nat × Nat × Nat × Nat)}
    (hown : s.vm.findClass own = some m.cls) (hlink : (Cond.methodLink own index y).before args s = true) (hinst : (Cond.instanceMethod y).before args s = true) (hsel : (Cond.selects C y y).before args s = true)
    (hcode : (Cond.codeWith y bytes maxL ret hh).before args s = true) (hy : y.cls ≠ "java/lang/invoke/MethodHandle" ∧ y.cls ≠ "java/lang/invoke/VarHandle")
    {W9 : Nat} {Pre : Pt → Array Value → Prop} {Post : Pt → Array Value → Option Value → Pt → Prop} (hK : Back l R p e below s args y 3 W9 Pre Post)
    {b : Addr} {cellB : Cell} (hcell : T.heap[b]? = some cellB) (hobj : cellB.vm.isStatics = false) (hcls : s.vm.findClass C = some cellB.cls)
    {g : JFrame} (hg : g.method = m) (hsize : g.locals.size = c.maxLocals) {argsL rest : List Value} (hlen : ∀ sig, parseMethodDescriptor y.desc = some sig → argsL.length = sig.parameters.length)
    (hstack : g.stack = argsL.reverse ++ .ref b :: rest) (hW : 2 * g.monitorRoom + (rest.map fun v => v.category).sum ≤ W9) (hdg : decode c.code g.pc = .ok (.invokevirtual index, 3))
    (hpre : ∀ vm₁, s.WarmedH vm₁ → Pre ⟨T.setVm vm₁, locs, cells, slots⟩ (Value.ref b :: argsL).toArray) :
    ∃ (v : Option Value) (vm₁ : Vm) (B : Pt), s.WarmedH vm₁ ∧ Stand p l e R s m args below meth c B.U B.locs B.cells B.slots ∧ Post ⟨T.setVm vm₁, locs, cells, slots⟩ (Value.ref b :: argsL).toArray v B ∧
      ∀ target, Steps p.tables e below (B.U.setTop { g with pc := g.pc + 3, stack := v.toList ++ rest }) target → Steps p.tables e below (T.setTop g) target := by
  obtain ⟨mk, methM, hnamed, hmethM, hstM, habM⟩ := Cond.instanceMethod_spec hinst
  obtain ⟨m8, methM', cM, hn8, hmethM', -, -, -, -, -, -, hsigM⟩ := Cond.codeWith_spec hcode
  cases Option.some.inj (hn8.symm.trans hnamed)
  cases hmethM.symm.trans hmethM'
  obtain ⟨c2, r2, m2, q1, q2, q3, q4, kP, hkP, hkPi⟩ := Cond.selects_spec hsel
  cases hcls.symm.trans q1
  cases (State.methodFound?_of_named hnamed hy).symm.trans q2
  cases hnamed.symm.trans q3
  have hselP : selectMethod e.platform s.vm cellB.cls mk = .method mk := by rw [Launch.admits_selectMethod X.admits]; exact q4
  obtain ⟨vm₁, X₁, hstep₁⟩ := X.invokevirtual hexec hown hlink hnamed hmethM hstM hkP hkPi hy (a := b) (cell := cellB) hcell
    (fun z h => by rw [h] at hobj; cases hobj) hselP hmethM habM hkP hkPi (g := g) hg (argsL := argsL) (rest := rest) (hlen _ hsigM) hstack hdg
  obtain ⟨v, B, X', hpost, hsteps⟩ := hK m meth c ⟨T.setVm vm₁, locs, cells, slots⟩ { g with stack := rest } (.invokevirtual index) mk (Value.ref b :: argsL).toArray X₁ hg hsize hdg hW (X₁.named hnamed) (hpre vm₁ X₁.warmed)
  exact ⟨v, vm₁, B, X₁.warmed, X', hpost, fun target h => hstep₁ _ fun acts => by rw [doInvoke_state]; exact hsteps.trans h⟩
abbrev vx_CVW (R : Room) (s : State) (args : Array Value) (own C : String) (index : Nat) (y : MethodName) (bytes : ByteArray) (maxL : Nat) (ret : Option FieldType) (hh : List (Nat × Nat × Nat × Nat)) (ws : List Cond) (rm : Room) (mc ms n : Nat) : Prop :=
  (rm.cells = mc ∧ rm.slots = ms ∧ rm.frames + 1 ≤ R.frames ∧ 8 + (maxL + 11) + rm.locals ≤ R.locals ∧ (∀ w ∈ ws, ∀ (a' : Array Value) (U : State), s.WarmedH U.vm → w.before a' U = true) ∧ Cond.codeWith y bytes maxL ret hh ∈ ws) ∧
  (Cond.codeWith y bytes maxL ret hh).before args s = true ∧ (Cond.initialized y.cls).before args s = true ∧ (y.cls ≠ "java/lang/invoke/MethodHandle" ∧ y.cls ≠ "java/lang/invoke/VarHandle") ∧
  (∀ sig, parseMethodDescriptor y.desc = some sig → n = sig.parameters.length) ∧ (Cond.methodLink own index y).before args s = true ∧ (Cond.instanceMethod y).before args s = true ∧ (Cond.selects C y y).before args s = true
theorem vx_cwVW {own C : String} {index maxL mc ms : Nat} {y : MethodName} {bytes : ByteArray} {ret : Option FieldType} {hh : List (Nat × Nat × Nat × Nat)} {Ts ws ws' : List Cond} {rm : Room} (n : Nat) (ht : ∀ w ∈ Ts, w.before args s = true) (hT : GoodIn Ts (wsV own index C y ws)) (hw : ws = Cond.codeWith y bytes maxL ret hh :: ws') (hrc : rm.cells = mc) (hrs : rm.slots = ms)
    (hd : y.cls = C ∧ y.cls ≠ "java/lang/invoke/MethodHandle" ∧ y.cls ≠ "java/lang/invoke/VarHandle" ∧ (parseMethodDescriptor y.desc).map (fun d => d.parameters.length) = some n) (hR : rm.frames + 1 ≤ R.frames ∧ 8 + (maxL + 11) + rm.locals ≤ R.locals) :
    vx_CVW R s args own C index y bytes maxL ret hh ws rm mc ms n := by
  obtain ⟨hC, hd⟩ := hd
  subst hC
  have ok : ∀ w ∈ wsV own index y.cls y ws, w.before args s = true := fun w h => ht w (hT w h).1
  have hG : GoodIn Ts ws := fun w h => hT w (by unfold wsV; exact List.mem_append_right _ h)
  have hc : Cond.codeWith y bytes maxL ret hh ∈ ws := by rw [hw]; exact List.mem_cons_self
  refine ⟨⟨hrc, hrs, hR.1, hR.2, pay_in ht hG, hc⟩, ht _ (hG _ hc).1, ok _ (by simp [wsV]), ⟨hd.1, hd.2.1⟩, fun sig h => ?_, ok _ (by simp [wsV]), ok _ (by simp [wsV]), ok _ (by simp [wsV])⟩
  have h2 := hd.2.2
  rw [h] at h2
  exact (Option.some.inj h2).symm
theorem vx_runVW {y : MethodName} {bytes cc : ByteArray} {maxL nL mc ms n index : Nat} {ret : Option FieldType} {hh : List (Nat × Nat × Nat × Nat)} {ws : List Cond} {rm : Room} {Pc : Array Value → State → Prop} {Qc : Array Value → State → Outcome → State → Prop} {free : Addr → Prop} {Ts : List Cond} {own C : String} {b : Addr} {As rest : List Value} {g : JFrame}
    (S : CallFix p m c cc nL s args Ts own) (hM : Met l y ws rm Pc Qc mc ms free) (cw : vx_CVW R s args own C index y bytes maxL ret hh ws rm mc ms n) (hp : PreV s H C b Pc As)
    (hg : g.method = m) (hn : As.length = n) (hsize : g.locals.size = nL) (hstack : g.stack = As.reverse ++ .ref b :: rest) (hW : 2 * g.monitorRoom + (rest.map fun v => v.category).sum ≤ 8) (hdg : decode cc g.pc = .ok (.invokevirtual index, 3)) (hf : cells + mc ≤ R.cells ∧ slots + ms ≤ R.slots) :
    va_Run p l e R s m args below meth c H locs cells slots mc ms g rest (Qc (Value.ref b :: As).toArray) free := by
  obtain ⟨⟨hrc, hrs, hfr, hlo, hws, hcw⟩, hcode, hini, hy, hlen, hl, hin, hse⟩ := cw
  have hK : Back l R p e below s args y 3 8 (PreOf R mc ms Pc) (PostOf Qc mc ms free) := va_backW (hh := hh) (bytes := bytes) (maxL := maxL) (ret := ret) hM hp.1 hrc hrs hfr hlo hws hcw (fun a' U hW => word_at hW (Or.inl (by first | rfl | simp [Cond.onTables, Cond.keeps, Cond.steady])) hini)
  obtain ⟨hx, hb, hml, ho, -⟩ := S
  obtain ⟨-, ⟨cellB, hcB, hoB, hclB⟩, hPc⟩ := hp
  intro T hT X
  obtain ⟨v, vm₁, ⟨U', l2, c2, s2⟩, hW₁, X', ⟨g', mk, t, L, e1, e2, hq, h1, hL, h2, h3⟩, st⟩ := vx_callVW X hx (C := C) (hh := hh) (bytes := bytes) (maxL := maxL) (ret := ret) ho hl hin hse hcode hy hK (by rw [hT]; exact hcB) hoB hclB hg (hsize.trans hml.symm) (argsL := As) (rest := rest) (fun sig h => hn.trans (hlen sig h)) hstack hW (by rw [hb]; exact hdg)
    (fun vm₁ hW₁ => ⟨hf.1, hf.2, hPc (T.setVm vm₁) hT hW₁⟩)
  dsimp only [Pt.U, Pt.locs, Pt.cells, Pt.slots] at X' e1 e2 h1 h2 h3 st
  subst h1; subst h2; subst h3
  exact ⟨v, (T.setVm vm₁).calling g' mk (Value.ref b :: As).toArray, t, U', L, hT, X', hL, e1, e2, hq, st⟩
section
variable {y : MethodName} {bytes cc : ByteArray} {maxL nL mc ms n index : Nat} {ret : Option FieldType} {ws : List Cond} {rm : Room} {Pc : Array Value → State → Prop} {Qc : Array Value → State → Outcome → State → Prop} {XC : String → State → State → Prop} {free : Addr → Prop} {Ts : List Cond} {own C : String} {b : Addr} {As rest : List Value} {g : JFrame}
theorem vx_runVX {hh : List (Nat × Nat × Nat × Nat)} (S : CallFix p m c cc nL s args Ts own) (hM : vx_Met l y ws rm Pc Qc XC mc ms free) (cw : vx_CVW R s args own C index y bytes maxL ret hh ws rm mc ms n) (hp : PreV s H C b Pc As)
    (hg : g.method = m) (hn : As.length = n) (hsize : g.locals.size = nL) (hstack : g.stack = As.reverse ++ .ref b :: rest) (hW : 2 * g.monitorRoom + (rest.map fun v => v.category).sum ≤ 8) (hdg : decode cc g.pc = .ok (.invokevirtual index, 3)) (hf : cells + mc ≤ R.cells ∧ slots + ms ≤ R.slots) :
    vx_Run p l e R s m args below meth c H locs cells slots mc ms g rest (Qc (Value.ref b :: As).toArray) XC free := by
  obtain ⟨⟨hrc, hrs, hfr, hlo, hws, hcw⟩, hcode, hini, hy, hlen, hl, hin, hse⟩ := cw
  have hK : vx_Back l R p e below s args y 3 8 (PreOf R mc ms Pc) (PostOf Qc mc ms free) (vx_Post XC mc ms free) := vx_backW (hh := hh) (bytes := bytes) (maxL := maxL) (ret := ret) hM hp.1 hrc hrs hfr hlo hws hcw (fun a' U hW => word_at hW (Or.inl (by first | rfl | simp [Cond.onTables, Cond.keeps, Cond.steady])) hini)
  obtain ⟨hx, hb, hml, ho, -⟩ := S
  obtain ⟨-, ⟨cellB, hcB, hoB, hclB⟩, hPc⟩ := hp
  intro T hT X
  rcases vx_callVX X hx (C := C) (hh := hh) (bytes := bytes) (maxL := maxL) (ret := ret) ho hl hin hse hcode hy hK (by rw [hT]; exact hcB) hoB hclB hg (hsize.trans hml.symm) (argsL := As) (rest := rest) (fun sig h => hn.trans (hlen sig h)) hstack hW (by rw [hb]; exact hdg)
    (fun vm₁ hW₁ => ⟨hf.1, hf.2, hPc (T.setVm vm₁) hT hW₁⟩) with ⟨v, vm₁, ⟨U', l2, c2, s2⟩, hW₁, X', ⟨g', mk, t, L, e1, e2, hq, h1, hL, h2, h3⟩, st⟩ | ⟨q, vm₁, ⟨U', l2, c2, s2⟩, hW₁, X', ⟨g', mk, t, L, E, ce, e1, e2, hq, hce, hcv, hcl, h1, hL, h2, h3⟩, st⟩
  · dsimp only [Pt.U, Pt.locs, Pt.cells, Pt.slots] at X' e1 e2 h1 h2 h3 st
    subst h1; subst h2; subst h3
    exact Or.inl ⟨v, (T.setVm vm₁).calling g' mk (Value.ref b :: As).toArray, t, U', L, hT, X', hL, e1, e2, hq, st⟩
  · dsimp only [Pt.U, Pt.locs, Pt.cells, Pt.slots] at X' e1 e2 h1 h2 h3 st hcl
    subst h1; subst h2; subst h3
    exact Or.inr ⟨q, (T.setVm vm₁).calling g' mk (Value.ref b :: As).toArray, t, U', L, E, ce, hT, X', hL, e1, e2, hq, hce, hcv, vx_cls hW₁ hcl, st⟩
theorem vx_runSX {hh : List (Nat × Nat × Nat × Nat)} (S : CallFix p m c cc nL s args Ts own) (hM : vx_Met l y ws rm Pc Qc XC mc ms free) (cw : vx_CSW R s args own index y bytes maxL ret hh ws rm mc ms n) (hp : PreS s H Pc As)
    (hg : g.method = m) (hn : As.length = n) (hsize : g.locals.size = nL) (hstack : g.stack = As.reverse ++ rest) (hW : 2 * g.monitorRoom + (rest.map fun v => v.category).sum ≤ 8) (hdg : decode cc g.pc = .ok (.invokestatic index, 3)) (hf : cells + mc ≤ R.cells ∧ slots + ms ≤ R.slots) :
    vx_Run p l e R s m args below meth c H locs cells slots mc ms g rest (Qc As.toArray) XC free := by
  obtain ⟨⟨hrc, hrs, hfr, hlo, hws, hcw⟩, hcode, hini, hy, hlen, hl, hstt⟩ := cw
  have hK : vx_Back l R p e below s args y 3 8 (PreOf R mc ms Pc) (PostOf Qc mc ms free) (vx_Post XC mc ms free) := vx_backW (hh := hh) (bytes := bytes) (maxL := maxL) (ret := ret) hM hp.1 hrc hrs hfr hlo hws hcw (fun a' U hW => word_at hW (Or.inl (by first | rfl | simp [Cond.onTables, Cond.keeps, Cond.steady])) hini)
  obtain ⟨hx, hb, hml, ho, -⟩ := S
  intro T hT X
  rcases vx_callSX X hx (hh := hh) (bytes := bytes) (maxL := maxL) (ret := ret) ho hl hstt hini hcode hy hK hg (hsize.trans hml.symm) (argsL := As) (rest := rest) (fun sig h => hn.trans (hlen sig h)) hstack hW (by rw [hb]; exact hdg)
    (fun vm₁ hW₁ => ⟨hf.1, hf.2, hp.2 (T.setVm vm₁) hT hW₁⟩) with ⟨v, vm₁, ⟨U', l2, c2, s2⟩, hW₁, X', ⟨g', mk, t, L, e1, e2, hq, h1, hL, h2, h3⟩, st⟩ | ⟨q, vm₁, ⟨U', l2, c2, s2⟩, hW₁, X', ⟨g', mk, t, L, E, ce, e1, e2, hq, hce, hcv, hcl, h1, hL, h2, h3⟩, st⟩
  · dsimp only [Pt.U, Pt.locs, Pt.cells, Pt.slots] at X' e1 e2 h1 h2 h3 st
    subst h1; subst h2; subst h3
    exact Or.inl ⟨v, (T.setVm vm₁).calling g' mk As.toArray, t, U', L, hT, X', hL, e1, e2, hq, st⟩
  · dsimp only [Pt.U, Pt.locs, Pt.cells, Pt.slots] at X' e1 e2 h1 h2 h3 st hcl
    subst h1; subst h2; subst h3
    exact Or.inr ⟨q, (T.setVm vm₁).calling g' mk As.toArray, t, U', L, E, ce, hT, X', hL, e1, e2, hq, hce, hcv, vx_cls hW₁ hcl, st⟩
end
end VXH
theorem vx_ofWH {l : Launch} {y : MethodName} {ws ws' : List Cond} {rm : Room} {Pc : Array Value → State → Prop} {Qc : Array Value → State → Outcome → State → Prop} {XC : String → State → State → Prop} {mc ms : Nat} {free : Addr → Prop} {cc : ByteArray} {maxL : Nat} {ret : Option FieldType} {hh : List (Nat × Nat × Nat × Nat)}
    (hy : plainName y.cls = true) (hw : ws = Cond.codeWith y cc maxL ret hh :: ws')
    (body : ∀ p e s m args below meth c s₁, BodyLoose p l y (headSpec ws rm) cc maxL ret e s m args below meth c s₁ → c.maxLocals = maxL → Pc args s →
      W p l e (headSpec ws rm).room s m args below meth c s.heap [] 0 0 (vx_MQ below Qc XC args s mc ms free) (entryFrame m args maxL)) : vx_Met l y ws rm Pc Qc XC mc ms free := by
  refine MetFree.of_bodyS (code := cc) (maxLocals := maxL) (ret := ret) hy ?_ ?_
  · intro args s m h hn
    obtain ⟨m9, meth, c, hn9, h1, h2, h3, h4, -, h5, h6, -⟩ := Cond.codeWith_spec (atoms_spec (ws := ws) h _ (by rw [hw]; exact List.mem_cons_self))
    cases hn.symm.trans hn9
    exact ⟨meth, c, h1, h2, h3, h4, h5, h6⟩
  · intro p e s m args below meth c s₁ B hml hP _
    have hh0 : s₁.heap = s.heap := by rw [B.state]; rfl
    obtain ⟨t, a1, o, b1, b2, b3⟩ := body p e s m args below meth c s₁ B hml hP s₁ hh0 (Stand.of_body B)
    exact ⟨t, o, a1, b1, b2, b3⟩
/-! ===== END ===== -/
end
section
def RX0 : String := "MirrorGroup$Header"
def TX0 : u_T := fun k => match k with
  | _ => ("MirrorGroup$Header", "items", "[I", true)
def tyX0 : Nat → FieldType := fun k => match k with
  | _ => .array .int
abbrev wsX00 : List Cond := u_ws RX0 TX0 1
theorem nmX0 : ∀ a, a < 1 → ∀ b, b < 1 → a ≠ b → (TX0 a).2.1 ≠ (TX0 b).2.1 := by decide +kernel
theorem tyX0_ok : ∀ k, k < 1 → parseFieldDescriptor (TX0 k).2.2.1 = some (tyX0 k) := by decide +kernel
abbrev cX0_init : ByteArray := prog_2_method_1_code
def yX0_init : MethodName := ⟨RX0, "<init>", "()V"⟩
abbrev cX0_takeFrom : ByteArray := prog_2_method_2_code
def yX0_takeFrom : MethodName := ⟨RX0, "takeFrom", "(LMirrorGroup$Header;)V"⟩
abbrev cX0_itemAt : ByteArray := prog_2_method_3_code
def yX0_itemAt : MethodName := ⟨RX0, "itemAt", "(I)I"⟩
abbrev cX0_number : ByteArray := prog_2_method_4_code
def yX0_number : MethodName := ⟨RX0, "number", "()I"⟩
abbrev cX0_countUp : ByteArray := prog_2_method_5_code
def yX0_countUp : MethodName := ⟨RX0, "countUp", "()V"⟩
abbrev cX0_volumeCount : ByteArray := prog_2_method_6_code
def yX0_volumeCount : MethodName := ⟨RX0, "volumeCount", "()I"⟩
abbrev cX0_addVolume : ByteArray := prog_2_method_7_code
def yX0_addVolume : MethodName := ⟨RX0, "addVolume", "()I"⟩
abbrev cX0_stateOf : ByteArray := prog_2_method_8_code
def yX0_stateOf : MethodName := ⟨RX0, "stateOf", "(I)I"⟩
abbrev cX0_setState : ByteArray := prog_2_method_9_code
def yX0_setState : MethodName := ⟨RX0, "setState", "(II)V"⟩
abbrev cX0_mapOf : ByteArray := prog_2_method_10_code
def yX0_mapOf : MethodName := ⟨RX0, "mapOf", "(II)I"⟩
abbrev cX0_marksOf : ByteArray := prog_2_method_11_code
def yX0_marksOf : MethodName := ⟨RX0, "marksOf", "(I)I"⟩
abbrev cX0_isMarked : ByteArray := prog_2_method_12_code
def yX0_isMarked : MethodName := ⟨RX0, "isMarked", "(II)Z"⟩
abbrev cX0_lowestMarked : ByteArray := prog_2_method_13_code
def yX0_lowestMarked : MethodName := ⟨RX0, "lowestMarked", "(I)I"⟩
abbrev cX0_mark : ByteArray := prog_2_method_14_code
def yX0_mark : MethodName := ⟨RX0, "mark", "(III)V"⟩
abbrev cX0_clearRegion : ByteArray := prog_2_method_15_code
def yX0_clearRegion : MethodName := ⟨RX0, "clearRegion", "(II)V"⟩
abbrev cX0_clearMaps : ByteArray := prog_2_method_16_code
def yX0_clearMaps : MethodName := ⟨RX0, "clearMaps", "(I)V"⟩
abbrev cX0_mapAt : ByteArray := prog_2_method_17_code
def yX0_mapAt : MethodName := ⟨RX0, "mapAt", "(II)I"⟩
abbrev cX0_placeAt : ByteArray := prog_2_method_18_code
def yX0_placeAt : MethodName := ⟨RX0, "placeAt", "(I)I"⟩
abbrev cX0_isInWindow : ByteArray := prog_2_method_19_code
def yX0_isInWindow : MethodName := ⟨RX0, "isInWindow", "(I)Z"⟩
abbrev cX0_enterWindow : ByteArray := prog_2_method_20_code
def yX0_enterWindow : MethodName := ⟨RX0, "enterWindow", "(I)V"⟩
abbrev cX0_windowSize : ByteArray := prog_2_method_21_code
def yX0_windowSize : MethodName := ⟨RX0, "windowSize", "()I"⟩
abbrev cX0_leaveWindow : ByteArray := prog_2_method_22_code
def yX0_leaveWindow : MethodName := ⟨RX0, "leaveWindow", "(I)V"⟩
abbrev cX0_emptyWindow : ByteArray := prog_2_method_23_code
def yX0_emptyWindow : MethodName := ⟨RX0, "emptyWindow", "()V"⟩
def RX1 : String := "MirrorGroup"
def TX1 : u_T := fun k => match k with
  | 0 => ("MirrorGroup", "stored", "[I", true)
  | 1 => ("MirrorGroup", "headerOnSide0", "LMirrorGroup$Header;", true)
  | 2 => ("MirrorGroup", "headerOnSide1", "LMirrorGroup$Header;", true)
  | 3 => ("MirrorGroup", "atHand", "LMirrorGroup$Header;", true)
  | 4 => ("MirrorGroup", "fresh", "[I", true)
  | 5 => ("MirrorGroup", "powered", "Z", false)
  | 6 => ("MirrorGroup", "writesLeft", "I", false)
  | 7 => ("MirrorGroup", "writesDone", "I", false)
  | _ => ("MirrorGroup", "regionsCopied", "I", false)
def tyX1 : Nat → FieldType := fun k => match k with
  | 0 => .array .int
  | 1 => .object "MirrorGroup$Header"
  | 2 => .object "MirrorGroup$Header"
  | 3 => .object "MirrorGroup$Header"
  | 4 => .array .int
  | 5 => .boolean
  | 6 => .int
  | 7 => .int
  | _ => .int
abbrev wsX10 : List Cond := u_ws RX1 TX1 9
theorem nmX1 : ∀ a, a < 9 → ∀ b, b < 9 → a ≠ b → (TX1 a).2.1 ≠ (TX1 b).2.1 := by decide +kernel
theorem tyX1_ok : ∀ k, k < 9 → parseFieldDescriptor (TX1 k).2.2.1 = some (tyX1 k) := by decide +kernel
abbrev cX1_init : ByteArray := prog_1_method_1_code
def yX1_init : MethodName := ⟨RX1, "<init>", "()V"⟩
abbrev cX1_makeVolume : ByteArray := prog_1_method_2_code
def yX1_makeVolume : MethodName := ⟨RX1, "makeVolume", "()I"⟩
abbrev cX1_write : ByteArray := prog_1_method_3_code
def yX1_write : MethodName := ⟨RX1, "write", "(IIIII)V"⟩
abbrev cX1_fill : ByteArray := prog_1_method_4_code
def yX1_fill : MethodName := ⟨RX1, "fill", "(IIIIIII)V"⟩
abbrev cX1_read : ByteArray := prog_1_method_5_code
def yX1_read : MethodName := ⟨RX1, "read", "(IIII)I"⟩
abbrev cX1_split : ByteArray := prog_1_method_6_code
def yX1_split : MethodName := ⟨RX1, "split", "()I"⟩
abbrev cX1_rejoin : ByteArray := prog_1_method_7_code
def yX1_rejoin : MethodName := ⟨RX1, "rejoin", "(II)V"⟩
abbrev cX1_step : ByteArray := prog_1_method_8_code
def yX1_step : MethodName := ⟨RX1, "step", "(I)I"⟩
abbrev cX1_run : ByteArray := prog_1_method_9_code
def yX1_run : MethodName := ⟨RX1, "run", "(I)I"⟩
abbrev cX1_state : ByteArray := prog_1_method_10_code
def yX1_state : MethodName := ⟨RX1, "state", "(I)I"⟩
abbrev cX1_marked : ByteArray := prog_1_method_11_code
def yX1_marked : MethodName := ⟨RX1, "marked", "(II)I"⟩
abbrev cX1_windowed : ByteArray := prog_1_method_12_code
def yX1_windowed : MethodName := ⟨RX1, "windowed", "(I)I"⟩
abbrev cX1_volumes : ByteArray := prog_1_method_13_code
def yX1_volumes : MethodName := ⟨RX1, "volumes", "()I"⟩
abbrev cX1_differing : ByteArray := prog_1_method_14_code
def yX1_differing : MethodName := ⟨RX1, "differing", "(I)I"⟩
abbrev cX1_raw : ByteArray := prog_1_method_15_code
def yX1_raw : MethodName := ⟨RX1, "raw", "(IIII)I"⟩
abbrev cX1_head : ByteArray := prog_1_method_16_code
def yX1_head : MethodName := ⟨RX1, "head", "(II)I"⟩
abbrev cX1_copied : ByteArray := prog_1_method_17_code
def yX1_copied : MethodName := ⟨RX1, "copied", "()I"⟩
abbrev cX1_writes : ByteArray := prog_1_method_18_code
def yX1_writes : MethodName := ⟨RX1, "writes", "()I"⟩
abbrev cX1_power : ByteArray := prog_1_method_19_code
def yX1_power : MethodName := ⟨RX1, "power", "()I"⟩
abbrev cX1_cutAfter : ByteArray := prog_1_method_20_code
def yX1_cutAfter : MethodName := ⟨RX1, "cutAfter", "(I)V"⟩
abbrev cX1_start : ByteArray := prog_1_method_21_code
def yX1_start : MethodName := ⟨RX1, "start", "()I"⟩
abbrev cX1_requirePower : ByteArray := prog_1_method_22_code
def yX1_requirePower : MethodName := ⟨RX1, "requirePower", "()V"⟩
abbrev cX1_requireVolume : ByteArray := prog_1_method_23_code
def yX1_requireVolume : MethodName := ⟨RX1, "requireVolume", "(I)V"⟩
abbrev cX1_requireRoomOf : ByteArray := prog_1_method_24_code
def yX1_requireRoomOf : MethodName := ⟨RX1, "requireRoomOf", "(I)V"⟩
abbrev cX1_requireSide : ByteArray := prog_1_method_25_code
def yX1_requireSide : MethodName := ⟨RX1, "requireSide", "(I)V"⟩
abbrev cX1_requireBlockNumber : ByteArray := prog_1_method_26_code
def yX1_requireBlockNumber : MethodName := ⟨RX1, "requireBlockNumber", "(I)V"⟩
abbrev cX1_requireWord : ByteArray := prog_1_method_27_code
def yX1_requireWord : MethodName := ⟨RX1, "requireWord", "(I)V"⟩
abbrev cX1_requireBlock : ByteArray := prog_1_method_28_code
def yX1_requireBlock : MethodName := ⟨RX1, "requireBlock", "(III)V"⟩
abbrev cX1_requireRejoining : ByteArray := prog_1_method_29_code
def yX1_requireRejoining : MethodName := ⟨RX1, "requireRejoining", "(I)V"⟩
abbrev cX1_isVolume : ByteArray := prog_1_method_30_code
def yX1_isVolume : MethodName := ⟨RX1, "isVolume", "(I)Z"⟩
abbrev cX1_isRejoining : ByteArray := prog_1_method_31_code
def yX1_isRejoining : MethodName := ⟨RX1, "isRejoining", "(I)Z"⟩
abbrev cX1_isSide : ByteArray := prog_1_method_32_code
def yX1_isSide : MethodName := ⟨RX1, "isSide", "(I)Z"⟩
abbrev cX1_blockAt : ByteArray := prog_1_method_33_code
def yX1_blockAt : MethodName := ⟨RX1, "blockAt", "(III)I"⟩
abbrev cX1_otherSide : ByteArray := prog_1_method_34_code
def yX1_otherSide : MethodName := ⟨RX1, "otherSide", "(I)I"⟩
abbrev cX1_headerOn : ByteArray := prog_1_method_35_code
def yX1_headerOn : MethodName := ⟨RX1, "headerOn", "(I)LMirrorGroup$Header;"⟩
abbrev cX1_sideInUse : ByteArray := prog_1_method_36_code
def yX1_sideInUse : MethodName := ⟨RX1, "sideInUse", "(II)I"⟩
abbrev cX1_isSameOnBothSides : ByteArray := prog_1_method_37_code
def yX1_isSameOnBothSides : MethodName := ⟨RX1, "isSameOnBothSides", "(II)Z"⟩
abbrev cX1_spendWrite : ByteArray := prog_1_method_38_code
def yX1_spendWrite : MethodName := ⟨RX1, "spendWrite", "()V"⟩
abbrev cX1_writeHeader : ByteArray := prog_1_method_39_code
def yX1_writeHeader : MethodName := ⟨RX1, "writeHeader", "()V"⟩
abbrev cX1_writeHeaderOn : ByteArray := prog_1_method_40_code
def yX1_writeHeaderOn : MethodName := ⟨RX1, "writeHeaderOn", "(I)V"⟩
abbrev cX1_writeFresh : ByteArray := prog_1_method_41_code
def yX1_writeFresh : MethodName := ⟨RX1, "writeFresh", "(III)V"⟩
abbrev cX1_writeFromSide : ByteArray := prog_1_method_42_code
def yX1_writeFromSide : MethodName := ⟨RX1, "writeFromSide", "(III)V"⟩
abbrev cX1_putFresh : ByteArray := prog_1_method_43_code
def yX1_putFresh : MethodName := ⟨RX1, "putFresh", "(III)V"⟩
abbrev cX1_markBeforeWrite : ByteArray := prog_1_method_44_code
def yX1_markBeforeWrite : MethodName := ⟨RX1, "markBeforeWrite", "(III)V"⟩
abbrev cX1_enterBeforeWrite : ByteArray := prog_1_method_45_code
def yX1_enterBeforeWrite : MethodName := ⟨RX1, "enterBeforeWrite", "(II)V"⟩
abbrev cX1_copyNextRegion : ByteArray := prog_1_method_46_code
def yX1_copyNextRegion : MethodName := ⟨RX1, "copyNextRegion", "(I)V"⟩
abbrev cX1_makeSame : ByteArray := prog_1_method_47_code
def yX1_makeSame : MethodName := ⟨RX1, "makeSame", "(II)V"⟩
abbrev cX1_takeNewerHeader : ByteArray := prog_1_method_48_code
def yX1_takeNewerHeader : MethodName := ⟨RX1, "takeNewerHeader", "()V"⟩
abbrev cX1_mendWindow : ByteArray := prog_1_method_49_code
def yX1_mendWindow : MethodName := ⟨RX1, "mendWindow", "()V"⟩
abbrev cX1_mendRegion : ByteArray := prog_1_method_50_code
def yX1_mendRegion : MethodName := ⟨RX1, "mendRegion", "(II)V"⟩
def RX2 : String := "MirrorGroupModel"
def TX2 : u_T := fun k => match k with
  | 0 => ("MirrorGroupModel", "thrown", "I", false)
  | 1 => ("MirrorGroupModel", "words", "[I", true)
  | 2 => ("MirrorGroupModel", "first", "[I", true)
  | 3 => ("MirrorGroupModel", "second", "[I", true)
  | 4 => ("MirrorGroupModel", "hand", "[I", true)
  | 5 => ("MirrorGroupModel", "off", "Z", false)
  | 6 => ("MirrorGroupModel", "left", "I", false)
  | 7 => ("MirrorGroupModel", "writes", "I", false)
  | 8 => ("MirrorGroupModel", "copied", "I", false)
  | _ => ("MirrorGroupModel", "fresh", "[I", true)
def tyX2 : Nat → FieldType := fun k => match k with
  | 0 => .int
  | 1 => .array .int
  | 2 => .array .int
  | 3 => .array .int
  | 4 => .array .int
  | 5 => .boolean
  | 6 => .int
  | 7 => .int
  | 8 => .int
  | _ => .array .int
abbrev wsX20 : List Cond := u_ws RX2 TX2 10
theorem nmX2 : ∀ a, a < 10 → ∀ b, b < 10 → a ≠ b → (TX2 a).2.1 ≠ (TX2 b).2.1 := by decide +kernel
theorem tyX2_ok : ∀ k, k < 10 → parseFieldDescriptor (TX2 k).2.2.1 = some (tyX2 k) := by decide +kernel
abbrev cX2_init : ByteArray := prog_4_method_1_code
def yX2_init : MethodName := ⟨RX2, "<init>", "()V"⟩
abbrev cX2_thrown : ByteArray := prog_4_method_2_code
def yX2_thrown : MethodName := ⟨RX2, "thrown", "()I"⟩
abbrev cX2_isDone : ByteArray := prog_4_method_3_code
def yX2_isDone : MethodName := ⟨RX2, "isDone", "()Z"⟩
abbrev cX2_copy : ByteArray := prog_4_method_4_code
def yX2_copy : MethodName := ⟨RX2, "copy", "([I[I)V"⟩
abbrev cX2_writeHeader : ByteArray := prog_4_method_5_code
def yX2_writeHeader : MethodName := ⟨RX2, "writeHeader", "(I)Z"⟩
abbrev cX2_next : ByteArray := prog_4_method_6_code
def yX2_next : MethodName := ⟨RX2, "next", "()Z"⟩
abbrev cX2_place : ByteArray := prog_4_method_7_code
def yX2_place : MethodName := ⟨RX2, "place", "(III)I"⟩
abbrev cX2_writeBlock : ByteArray := prog_4_method_8_code
def yX2_writeBlock : MethodName := ⟨RX2, "writeBlock", "(III)Z"⟩
abbrev cX2_take : ByteArray := prog_4_method_9_code
def yX2_take : MethodName := ⟨RX2, "take", "(III)V"⟩
abbrev cX2_isSame : ByteArray := prog_4_method_10_code
def yX2_isSame : MethodName := ⟨RX2, "isSame", "(II)Z"⟩
abbrev cX2_copyRegion : ByteArray := prog_4_method_11_code
def yX2_copyRegion : MethodName := ⟨RX2, "copyRegion", "(III)Z"⟩
abbrev cX2_stateOf : ByteArray := prog_4_method_12_code
def yX2_stateOf : MethodName := ⟨RX2, "stateOf", "(I)I"⟩
abbrev cX2_isVolume : ByteArray := prog_4_method_13_code
def yX2_isVolume : MethodName := ⟨RX2, "isVolume", "(I)Z"⟩
abbrev cX2_map : ByteArray := prog_4_method_14_code
def yX2_map : MethodName := ⟨RX2, "map", "(II)I"⟩
abbrev cX2_isMarked : ByteArray := prog_4_method_15_code
def yX2_isMarked : MethodName := ⟨RX2, "isMarked", "(III)Z"⟩
abbrev cX2_isOpen : ByteArray := prog_4_method_16_code
def yX2_isOpen : MethodName := ⟨RX2, "isOpen", "(II)Z"⟩
abbrev cX2_fail : ByteArray := prog_4_method_17_code
def yX2_fail : MethodName := ⟨RX2, "fail", "()I"⟩
abbrev cX2_makeVolume : ByteArray := prog_4_method_18_code
def yX2_makeVolume : MethodName := ⟨RX2, "makeVolume", "()I"⟩
abbrev cX2_isPlace : ByteArray := prog_4_method_19_code
def yX2_isPlace : MethodName := ⟨RX2, "isPlace", "(IIII)Z"⟩
abbrev cX2_ask : ByteArray := prog_4_method_20_code
def yX2_ask : MethodName := ⟨RX2, "ask", "(IIII)V"⟩
abbrev cX2_sideOf : ByteArray := prog_4_method_21_code
def yX2_sideOf : MethodName := ⟨RX2, "sideOf", "(II)I"⟩
abbrev cX2_isWindowed : ByteArray := prog_4_method_22_code
def yX2_isWindowed : MethodName := ⟨RX2, "isWindowed", "(II)Z"⟩
abbrev cX2_enter : ByteArray := prog_4_method_23_code
def yX2_enter : MethodName := ⟨RX2, "enter", "(II)V"⟩
abbrev cX2_put : ByteArray := prog_4_method_24_code
def yX2_put : MethodName := ⟨RX2, "put", "(III)Z"⟩
abbrev cX2_write : ByteArray := prog_4_method_25_code
def yX2_write : MethodName := ⟨RX2, "write", "(IIIII)V"⟩
abbrev cX2_fill : ByteArray := prog_4_method_26_code
def yX2_fill : MethodName := ⟨RX2, "fill", "(IIIIIII)V"⟩
abbrev cX2_read : ByteArray := prog_4_method_27_code
def yX2_read : MethodName := ⟨RX2, "read", "(IIII)I"⟩
abbrev cX2_split : ByteArray := prog_4_method_28_code
def yX2_split : MethodName := ⟨RX2, "split", "()I"⟩
abbrev cX2_rejoin : ByteArray := prog_4_method_29_code
def yX2_rejoin : MethodName := ⟨RX2, "rejoin", "(II)V"⟩
abbrev cX2_askStep : ByteArray := prog_4_method_30_code
def yX2_askStep : MethodName := ⟨RX2, "askStep", "(I)V"⟩
abbrev cX2_marks : ByteArray := prog_4_method_31_code
def yX2_marks : MethodName := ⟨RX2, "marks", "(I)I"⟩
abbrev cX2_goStep : ByteArray := prog_4_method_32_code
def yX2_goStep : MethodName := ⟨RX2, "goStep", "(I)Z"⟩
abbrev cX2_step : ByteArray := prog_4_method_33_code
def yX2_step : MethodName := ⟨RX2, "step", "(I)I"⟩
abbrev cX2_run : ByteArray := prog_4_method_34_code
def yX2_run : MethodName := ⟨RX2, "run", "(I)I"⟩
abbrev cX2_state : ByteArray := prog_4_method_35_code
def yX2_state : MethodName := ⟨RX2, "state", "(I)I"⟩
abbrev cX2_marked : ByteArray := prog_4_method_36_code
def yX2_marked : MethodName := ⟨RX2, "marked", "(II)I"⟩
abbrev cX2_windowed : ByteArray := prog_4_method_37_code
def yX2_windowed : MethodName := ⟨RX2, "windowed", "(I)I"⟩
abbrev cX2_volumes : ByteArray := prog_4_method_38_code
def yX2_volumes : MethodName := ⟨RX2, "volumes", "()I"⟩
abbrev cX2_differing : ByteArray := prog_4_method_39_code
def yX2_differing : MethodName := ⟨RX2, "differing", "(I)I"⟩
abbrev cX2_raw : ByteArray := prog_4_method_40_code
def yX2_raw : MethodName := ⟨RX2, "raw", "(IIII)I"⟩
abbrev cX2_head : ByteArray := prog_4_method_41_code
def yX2_head : MethodName := ⟨RX2, "head", "(II)I"⟩
abbrev cX2_copied : ByteArray := prog_4_method_42_code
def yX2_copied : MethodName := ⟨RX2, "copied", "()I"⟩
abbrev cX2_writes : ByteArray := prog_4_method_43_code
def yX2_writes : MethodName := ⟨RX2, "writes", "()I"⟩
abbrev cX2_power : ByteArray := prog_4_method_44_code
def yX2_power : MethodName := ⟨RX2, "power", "()I"⟩
abbrev cX2_cutAfter : ByteArray := prog_4_method_45_code
def yX2_cutAfter : MethodName := ⟨RX2, "cutAfter", "(I)V"⟩
abbrev cX2_goOn : ByteArray := prog_4_method_46_code
def yX2_goOn : MethodName := ⟨RX2, "goOn", "()Z"⟩
abbrev cX2_start : ByteArray := prog_4_method_47_code
def yX2_start : MethodName := ⟨RX2, "start", "()I"⟩
def RJ6 : String := "java/lang/Integer"
def TJ6 : u_T := fun k => match k with
  | _ => ("", "", "", false)
def tyJ6 : Nat → FieldType := fun k => match k with
  | _ => .int
theorem nmJ6 : ∀ a, a < 0 → ∀ b, b < 0 → a ≠ b → (TJ6 a).2.1 ≠ (TJ6 b).2.1 := by decide +kernel
theorem tyJ6_ok : ∀ k, k < 0 → parseFieldDescriptor (TJ6 k).2.2.1 = some (tyJ6 k) := by decide +kernel
abbrev cJ6_bitCount_0f7a4 : ByteArray := prog_9_method_49_code
def yJ6_bitCount_0f7a4 : MethodName := ⟨RJ6, "bitCount", "(I)I"⟩
def RL : String := "MirrorGroupLaw"
abbrev cL_makeVolume : ByteArray := method_3_code
def yL_makeVolume : MethodName := ⟨RL, "makeVolume", "(LMirrorGroup;[J)I"⟩
abbrev cL_write : ByteArray := method_4_code
def yL_write : MethodName := ⟨RL, "write", "(LMirrorGroup;IIIII)I"⟩
abbrev cL_fill : ByteArray := method_5_code
def yL_fill : MethodName := ⟨RL, "fill", "(LMirrorGroup;IIIIIII)I"⟩
abbrev cL_read : ByteArray := method_6_code
def yL_read : MethodName := ⟨RL, "read", "(LMirrorGroup;IIII[J)I"⟩
abbrev cL_split : ByteArray := method_7_code
def yL_split : MethodName := ⟨RL, "split", "(LMirrorGroup;[J)I"⟩
abbrev cL_rejoin : ByteArray := method_8_code
def yL_rejoin : MethodName := ⟨RL, "rejoin", "(LMirrorGroup;II)I"⟩
abbrev cL_step : ByteArray := method_9_code
def yL_step : MethodName := ⟨RL, "step", "(LMirrorGroup;I[J)I"⟩
abbrev cL_run : ByteArray := method_10_code
def yL_run : MethodName := ⟨RL, "run", "(LMirrorGroup;I[J)I"⟩
abbrev cL_differing : ByteArray := method_11_code
def yL_differing : MethodName := ⟨RL, "differing", "(LMirrorGroup;I[J)I"⟩
abbrev cL_raw : ByteArray := method_12_code
def yL_raw : MethodName := ⟨RL, "raw", "(LMirrorGroup;IIII[J)I"⟩
abbrev cL_head : ByteArray := method_13_code
def yL_head : MethodName := ⟨RL, "head", "(LMirrorGroup;II[J)I"⟩
abbrev cL_cutAfter : ByteArray := method_14_code
def yL_cutAfter : MethodName := ⟨RL, "cutAfter", "(LMirrorGroup;I)I"⟩
abbrev cL_start : ByteArray := method_15_code
def yL_start : MethodName := ⟨RL, "start", "(LMirrorGroup;[J)I"⟩
abbrev cL_law : ByteArray := code
def yL_law : MethodName := ⟨RL, "law", "([I)Z"⟩
abbrev vwCl : List vw_C := [(RX0, TX0, 1), (RX1, TX1, 9), (RX2, TX2, 10)]
end
section
abbrev kRow : Type := Nat × Instr × Nat × Nat × Nat
def kT0 : List kRow := [(0, .aload_n 1, 1, 0, 0), (1, .getfield 11, 3, 0, 0), (4, .iconst 0, 1, 0, 0), (5, .aload_n 0, 1, 0, 0), (6, .getfield 11, 3, 0, 0), (9, .iconst 0, 1, 0, 0), (10, .bipush 24, 2, 24, 0), (12, .invokestatic 15, 3, 999, 0), (15, .return_, 1, 0, 0)]
def kT1 : List kRow := [(0, .aload_n 0, 1, 0, 0), (1, .getfield 11, 3, 0, 0), (4, .iload_n 1, 1, 0, 0), (5, .iaload, 1, 0, 0), (6, .ireturn, 1, 0, 0)]
def kT2 : List kRow := [(0, .aload_n 0, 1, 0, 0), (1, .getfield 11, 3, 0, 0), (4, .iconst 0, 1, 0, 0), (5, .iaload, 1, 0, 0), (6, .ireturn, 1, 0, 0)]
def kT3 : List kRow := [(0, .aload_n 0, 1, 0, 0), (1, .getfield 11, 3, 0, 0), (4, .iconst 0, 1, 0, 0), (5, .dup2, 1, 0, 0), (6, .iaload, 1, 0, 0), (7, .iconst 1, 1, 1, 0), (8, .iadd, 1, 0, 0), (9, .iastore, 1, 0, 0), (10, .return_, 1, 0, 0)]
def kT4 : List kRow := [(0, .aload_n 0, 1, 0, 0), (1, .getfield 11, 3, 0, 0), (4, .iconst 1, 1, 1, 0), (5, .iaload, 1, 0, 0), (6, .ireturn, 1, 0, 0)]
def kT5 : List kRow := [(0, .aload_n 0, 1, 0, 0), (1, .getfield 11, 3, 0, 0), (4, .iconst 1, 1, 1, 0), (5, .iaload, 1, 0, 0), (6, .istore_n 1, 1, 0, 0), (7, .aload_n 0, 1, 0, 0), (8, .getfield 11, 3, 0, 0), (11, .iconst 1, 1, 1, 0), (12, .iload_n 1, 1, 0, 0), (13, .iconst 1, 1, 1, 0), (14, .iadd, 1, 0, 0), (15, .iastore, 1, 0, 0), (16, .aload_n 0, 1, 0, 0), (17, .iload_n 1, 1, 0, 0), (18, .iconst 0, 1, 0, 0), (19, .invokevirtual 21, 3, 7, 2), (22, .aload_n 0, 1, 0, 0), (23, .iload_n 1, 1, 0, 0), (24, .invokevirtual 25, 3, 14, 1), (27, .iload_n 1, 1, 0, 0), (28, .ireturn, 1, 0, 0)]
def kT6 : List kRow := [(0, .aload_n 0, 1, 0, 0), (1, .getfield 11, 3, 0, 0), (4, .iconst 2, 1, 2, 0), (5, .iload_n 1, 1, 0, 0), (6, .iadd, 1, 0, 0), (7, .iaload, 1, 0, 0), (8, .ireturn, 1, 0, 0)]
def kT7 : List kRow := [(0, .aload_n 0, 1, 0, 0), (1, .getfield 11, 3, 0, 0), (4, .iconst 2, 1, 2, 0), (5, .iload_n 1, 1, 0, 0), (6, .iadd, 1, 0, 0), (7, .iload_n 2, 1, 0, 0), (8, .iastore, 1, 0, 0), (9, .return_, 1, 0, 0)]
def kT8 : List kRow := [(0, .aload_n 0, 1, 0, 0), (1, .getfield 11, 3, 0, 0), (4, .iload_n 1, 1, 0, 0), (5, .iload_n 2, 1, 0, 0), (6, .invokestatic 29, 3, 15, 2), (9, .iaload, 1, 0, 0), (10, .ireturn, 1, 0, 0)]
def kT9 : List kRow := [(0, .aload_n 0, 1, 0, 0), (1, .iload_n 1, 1, 0, 0), (2, .iconst 0, 1, 0, 0), (3, .invokevirtual 33, 3, 8, 2), (6, .aload_n 0, 1, 0, 0), (7, .iload_n 1, 1, 0, 0), (8, .iconst 1, 1, 1, 0), (9, .invokevirtual 33, 3, 8, 2), (12, .ior, 1, 0, 0), (13, .ireturn, 1, 0, 0)]
def kT10 : List kRow := [(0, .aload_n 0, 1, 0, 0), (1, .iload_n 1, 1, 0, 0), (2, .invokevirtual 36, 3, 9, 1), (5, .iload_n 2, 1, 0, 0), (6, .ishr, 1, 0, 0), (7, .iconst 1, 1, 1, 0), (8, .iand, 1, 0, 0), (9, .ifCond .eq 7, 3, 16, 0), (12, .iconst 1, 1, 1, 0), (13, .goto 4, 3, 17, 0), (16, .iconst 0, 1, 0, 0), (17, .ireturn, 1, 0, 0)]
def kT11 : List kRow := [(0, .iconst 0, 1, 0, 0), (1, .istore_n 2, 1, 0, 0), (2, .iload_n 2, 1, 0, 0), (3, .bipush 8, 2, 8, 0), (5, .if_icmp .ge 20, 3, 25, 0), (8, .aload_n 0, 1, 0, 0), (9, .iload_n 1, 1, 0, 0), (10, .iload_n 2, 1, 0, 0), (11, .invokevirtual 40, 3, 10, 2), (14, .ifCond .eq 5, 3, 19, 0), (17, .iload_n 2, 1, 0, 0), (18, .ireturn, 1, 0, 0), (19, .iinc 2 1, 3, 1, 0), (22, .goto (-20), 3, 2, 0), (25, .iconst (-1), 1, 0, 1), (26, .ireturn, 1, 0, 0)]
def kT12 : List kRow := [(0, .aload_n 0, 1, 0, 0), (1, .getfield 11, 3, 0, 0), (4, .iload_n 1, 1, 0, 0), (5, .iload_n 2, 1, 0, 0), (6, .invokestatic 29, 3, 15, 2), (9, .dup2, 1, 0, 0), (10, .iaload, 1, 0, 0), (11, .iconst 1, 1, 1, 0), (12, .iload_n 3, 1, 0, 0), (13, .ishl, 1, 0, 0), (14, .ior, 1, 0, 0), (15, .iastore, 1, 0, 0), (16, .return_, 1, 0, 0)]
def kT13 : List kRow := [(0, .aload_n 0, 1, 0, 0), (1, .getfield 11, 3, 0, 0), (4, .iload_n 1, 1, 0, 0), (5, .iconst 0, 1, 0, 0), (6, .invokestatic 29, 3, 15, 2), (9, .dup2, 1, 0, 0), (10, .iaload, 1, 0, 0), (11, .iconst 1, 1, 1, 0), (12, .iload_n 2, 1, 0, 0), (13, .ishl, 1, 0, 0), (14, .iconst (-1), 1, 0, 1), (15, .ixor, 1, 0, 0), (16, .iand, 1, 0, 0), (17, .iastore, 1, 0, 0), (18, .aload_n 0, 1, 0, 0), (19, .getfield 11, 3, 0, 0), (22, .iload_n 1, 1, 0, 0), (23, .iconst 1, 1, 1, 0), (24, .invokestatic 29, 3, 15, 2), (27, .dup2, 1, 0, 0), (28, .iaload, 1, 0, 0), (29, .iconst 1, 1, 1, 0), (30, .iload_n 2, 1, 0, 0), (31, .ishl, 1, 0, 0), (32, .iconst (-1), 1, 0, 1), (33, .ixor, 1, 0, 0), (34, .iand, 1, 0, 0), (35, .iastore, 1, 0, 0), (36, .return_, 1, 0, 0)]
def kT14 : List kRow := [(0, .aload_n 0, 1, 0, 0), (1, .getfield 11, 3, 0, 0), (4, .iload_n 1, 1, 0, 0), (5, .iconst 0, 1, 0, 0), (6, .invokestatic 29, 3, 15, 2), (9, .iconst 0, 1, 0, 0), (10, .iastore, 1, 0, 0), (11, .aload_n 0, 1, 0, 0), (12, .getfield 11, 3, 0, 0), (15, .iload_n 1, 1, 0, 0), (16, .iconst 1, 1, 1, 0), (17, .invokestatic 29, 3, 15, 2), (20, .iconst 0, 1, 0, 0), (21, .iastore, 1, 0, 0), (22, .return_, 1, 0, 0)]
def kT15 : List kRow := [(0, .bipush 8, 2, 8, 0), (2, .iload_n 1, 1, 0, 0), (3, .bipush 6, 2, 6, 0), (5, .imul, 1, 0, 0), (6, .iadd, 1, 0, 0), (7, .iload_n 0, 1, 0, 0), (8, .iadd, 1, 0, 0), (9, .ireturn, 1, 0, 0)]
def kT16 : List kRow := [(0, .aload_n 0, 1, 0, 0), (1, .getfield 11, 3, 0, 0), (4, .bipush 20, 2, 20, 0), (6, .iload_n 1, 1, 0, 0), (7, .iadd, 1, 0, 0), (8, .iaload, 1, 0, 0), (9, .ireturn, 1, 0, 0)]
def kT17 : List kRow := [(0, .iconst 0, 1, 0, 0), (1, .istore_n 2, 1, 0, 0), (2, .iload_n 2, 1, 0, 0), (3, .iconst 4, 1, 4, 0), (4, .if_icmp .ge 20, 3, 24, 0), (7, .aload_n 0, 1, 0, 0), (8, .iload_n 2, 1, 0, 0), (9, .invokevirtual 44, 3, 16, 1), (12, .iload_n 1, 1, 0, 0), (13, .if_icmp .ne 5, 3, 18, 0), (16, .iconst 1, 1, 1, 0), (17, .ireturn, 1, 0, 0), (18, .iinc 2 1, 3, 1, 0), (21, .goto (-19), 3, 2, 0), (24, .iconst 0, 1, 0, 0), (25, .ireturn, 1, 0, 0)]
def kT18 : List kRow := [(0, .aload_n 0, 1, 0, 0), (1, .invokevirtual 47, 3, 19, 0), (4, .istore_n 2, 1, 0, 0), (5, .iload_n 2, 1, 0, 0), (6, .iconst 4, 1, 4, 0), (7, .if_icmp .ne 21, 3, 28, 0), (10, .aload_n 0, 1, 0, 0), (11, .getfield 11, 3, 0, 0), (14, .bipush 21, 2, 21, 0), (16, .aload_n 0, 1, 0, 0), (17, .getfield 11, 3, 0, 0), (20, .bipush 20, 2, 20, 0), (22, .iconst 3, 1, 3, 0), (23, .invokestatic 15, 3, 999, 0), (26, .iconst 3, 1, 3, 0), (27, .istore_n 2, 1, 0, 0), (28, .aload_n 0, 1, 0, 0), (29, .getfield 11, 3, 0, 0), (32, .bipush 20, 2, 20, 0), (34, .iload_n 2, 1, 0, 0), (35, .iadd, 1, 0, 0), (36, .iload_n 1, 1, 0, 0), (37, .iastore, 1, 0, 0), (38, .return_, 1, 0, 0)]
def kT19 : List kRow := [(0, .iconst 0, 1, 0, 0), (1, .istore_n 1, 1, 0, 0), (2, .iload_n 1, 1, 0, 0), (3, .iconst 4, 1, 4, 0), (4, .if_icmp .ge 18, 3, 22, 0), (7, .aload_n 0, 1, 0, 0), (8, .iload_n 1, 1, 0, 0), (9, .invokevirtual 44, 3, 16, 1), (12, .iconst (-1), 1, 0, 1), (13, .if_icmp .eq 9, 3, 22, 0), (16, .iinc 1 1, 3, 1, 0), (19, .goto (-17), 3, 2, 0), (22, .iload_n 1, 1, 0, 0), (23, .ireturn, 1, 0, 0)]
def kT20 : List kRow := [(0, .iconst 0, 1, 0, 0), (1, .istore_n 2, 1, 0, 0), (2, .iconst 0, 1, 0, 0), (3, .istore_n 3, 1, 0, 0), (4, .iload_n 3, 1, 0, 0), (5, .iconst 4, 1, 4, 0), (6, .if_icmp .ge 55, 3, 61, 0), (9, .aload_n 0, 1, 0, 0), (10, .iload_n 3, 1, 0, 0), (11, .invokevirtual 44, 3, 16, 1), (14, .istore 4, 2, 0, 0), (16, .aload_n 0, 1, 0, 0), (17, .getfield 11, 3, 0, 0), (20, .bipush 20, 2, 20, 0), (22, .iload_n 3, 1, 0, 0), (23, .iadd, 1, 0, 0), (24, .iconst (-1), 1, 0, 1), (25, .iastore, 1, 0, 0), (26, .iload 4, 2, 0, 0), (28, .iconst (-1), 1, 0, 1), (29, .if_icmp .eq 26, 3, 55, 0), (32, .iload 4, 2, 0, 0), (34, .bipush 8, 2, 8, 0), (36, .idiv, 1, 0, 0), (37, .iload_n 1, 1, 0, 0), (38, .if_icmp .eq 17, 3, 55, 0), (41, .aload_n 0, 1, 0, 0), (42, .getfield 11, 3, 0, 0), (45, .bipush 20, 2, 20, 0), (47, .iload_n 2, 1, 0, 0), (48, .iadd, 1, 0, 0), (49, .iload 4, 2, 0, 0), (51, .iastore, 1, 0, 0), (52, .iinc 2 1, 3, 1, 0), (55, .iinc 3 1, 3, 1, 0), (58, .goto (-54), 3, 4, 0), (61, .return_, 1, 0, 0)]
def kT21 : List kRow := [(0, .iconst 0, 1, 0, 0), (1, .istore_n 1, 1, 0, 0), (2, .iload_n 1, 1, 0, 0), (3, .iconst 4, 1, 4, 0), (4, .if_icmp .ge 19, 3, 23, 0), (7, .aload_n 0, 1, 0, 0), (8, .getfield 11, 3, 0, 0), (11, .bipush 20, 2, 20, 0), (13, .iload_n 1, 1, 0, 0), (14, .iadd, 1, 0, 0), (15, .iconst (-1), 1, 0, 1), (16, .iastore, 1, 0, 0), (17, .iinc 1 1, 3, 1, 0), (20, .goto (-18), 3, 2, 0), (23, .return_, 1, 0, 0)]
def kT22 : List kRow := [(0, .aload_n 0, 1, 0, 0), (1, .invokevirtual 43, 3, 42, 0), (4, .aload_n 0, 1, 0, 0), (5, .getfield 23, 3, 1, 3), (8, .invokevirtual 46, 3, 4, 0), (11, .bipush 6, 2, 6, 0), (13, .if_icmp .ne 5, 3, 18, 0), (16, .iconst (-1), 1, 0, 1), (17, .ireturn, 1, 0, 0), (18, .aload_n 0, 1, 0, 0), (19, .getfield 23, 3, 1, 3), (22, .invokevirtual 50, 3, 5, 0), (25, .istore_n 1, 1, 0, 0), (26, .aload_n 0, 1, 0, 0), (27, .invokevirtual 53, 3, 59, 0), (30, .iload_n 1, 1, 0, 0), (31, .ireturn, 1, 0, 0)]
def kT23 : List kRow := [(0, .aload_n 0, 1, 0, 0), (1, .invokevirtual 43, 3, 42, 0), (4, .aload_n 0, 1, 0, 0), (5, .iload_n 1, 1, 0, 0), (6, .iload_n 2, 1, 0, 0), (7, .iload_n 3, 1, 0, 0), (8, .invokevirtual 56, 3, 48, 3), (11, .aload_n 0, 1, 0, 0), (12, .iload 4, 2, 0, 0), (14, .invokevirtual 60, 3, 47, 1), (17, .aload_n 0, 1, 0, 0), (18, .iload_n 1, 1, 0, 0), (19, .iload_n 2, 1, 0, 0), (20, .invokevirtual 64, 3, 56, 2), (23, .istore 6, 2, 0, 0), (25, .aload_n 0, 1, 0, 0), (26, .getfield 9, 3, 1, 0), (29, .iload_n 1, 1, 0, 0), (30, .iload 6, 2, 0, 0), (32, .iload_n 3, 1, 0, 0), (33, .invokestatic 68, 3, 53, 3), (36, .aload_n 0, 1, 0, 0), (37, .getfield 26, 3, 1, 4), (40, .iconst 0, 1, 0, 0), (41, .iconst 4, 1, 4, 0), (42, .invokestatic 72, 3, 999, 0), (45, .aload_n 0, 1, 0, 0), (46, .getfield 26, 3, 1, 4), (49, .iload 4, 2, 0, 0), (51, .iload 5, 2, 0, 0), (53, .iastore, 1, 0, 0), (54, .aload_n 0, 1, 0, 0), (55, .iload_n 1, 1, 0, 0), (56, .iload 6, 2, 0, 0), (58, .iload_n 3, 1, 0, 0), (59, .invokevirtual 78, 3, 63, 3), (62, .return_, 1, 0, 0)]
def kT24 : List kRow := [(0, .aload_n 0, 1, 0, 0), (1, .invokevirtual 43, 3, 42, 0), (4, .aload_n 0, 1, 0, 0), (5, .iload_n 1, 1, 0, 0), (6, .iload_n 2, 1, 0, 0), (7, .iload_n 3, 1, 0, 0), (8, .invokevirtual 56, 3, 48, 3), (11, .aload_n 0, 1, 0, 0), (12, .getfield 26, 3, 1, 4), (15, .iconst 0, 1, 0, 0), (16, .iload 4, 2, 0, 0), (18, .iastore, 1, 0, 0), (19, .aload_n 0, 1, 0, 0), (20, .getfield 26, 3, 1, 4), (23, .iconst 1, 1, 1, 0), (24, .iload 5, 2, 0, 0), (26, .iastore, 1, 0, 0), (27, .aload_n 0, 1, 0, 0), (28, .getfield 26, 3, 1, 4), (31, .iconst 2, 1, 2, 0), (32, .iload 6, 2, 0, 0), (34, .iastore, 1, 0, 0), (35, .aload_n 0, 1, 0, 0), (36, .getfield 26, 3, 1, 4), (39, .iconst 3, 1, 3, 0), (40, .iload 7, 2, 0, 0), (42, .iastore, 1, 0, 0), (43, .aload_n 0, 1, 0, 0), (44, .iload_n 1, 1, 0, 0), (45, .aload_n 0, 1, 0, 0), (46, .iload_n 1, 1, 0, 0), (47, .iload_n 2, 1, 0, 0), (48, .invokevirtual 64, 3, 56, 2), (51, .iload_n 3, 1, 0, 0), (52, .invokevirtual 78, 3, 63, 3), (55, .return_, 1, 0, 0)]
def kT25 : List kRow := [(0, .aload_n 0, 1, 0, 0), (1, .invokevirtual 43, 3, 42, 0), (4, .aload_n 0, 1, 0, 0), (5, .iload_n 1, 1, 0, 0), (6, .iload_n 2, 1, 0, 0), (7, .iload_n 3, 1, 0, 0), (8, .invokevirtual 56, 3, 48, 3), (11, .aload_n 0, 1, 0, 0), (12, .iload 4, 2, 0, 0), (14, .invokevirtual 60, 3, 47, 1), (17, .aload_n 0, 1, 0, 0), (18, .getfield 9, 3, 1, 0), (21, .iload_n 1, 1, 0, 0), (22, .aload_n 0, 1, 0, 0), (23, .iload_n 1, 1, 0, 0), (24, .iload_n 2, 1, 0, 0), (25, .invokevirtual 64, 3, 56, 2), (28, .iload_n 3, 1, 0, 0), (29, .invokestatic 68, 3, 53, 3), (32, .iload 4, 2, 0, 0), (34, .iadd, 1, 0, 0), (35, .iaload, 1, 0, 0), (36, .ireturn, 1, 0, 0)]
def kT26 : List kRow := [(0, .aload_n 0, 1, 0, 0), (1, .invokevirtual 43, 3, 42, 0), (4, .aload_n 0, 1, 0, 0), (5, .getfield 23, 3, 1, 3), (8, .invokevirtual 46, 3, 4, 0), (11, .istore_n 1, 1, 0, 0), (12, .iconst 0, 1, 0, 0), (13, .istore_n 2, 1, 0, 0), (14, .iconst 0, 1, 0, 0), (15, .istore_n 3, 1, 0, 0), (16, .iload_n 3, 1, 0, 0), (17, .iload_n 1, 1, 0, 0), (18, .if_icmp .ge 48, 3, 66, 0), (21, .aload_n 0, 1, 0, 0), (22, .getfield 23, 3, 1, 3), (25, .iload_n 3, 1, 0, 0), (26, .invokevirtual 81, 3, 6, 1), (29, .ifCond .ne 31, 3, 60, 0), (32, .aload_n 0, 1, 0, 0), (33, .getfield 23, 3, 1, 3), (36, .iload_n 3, 1, 0, 0), (37, .iconst 1, 1, 1, 0), (38, .invokevirtual 85, 3, 7, 2), (41, .aload_n 0, 1, 0, 0), (42, .getfield 23, 3, 1, 3), (45, .iload_n 3, 1, 0, 0), (46, .invokevirtual 89, 3, 14, 1), (49, .aload_n 0, 1, 0, 0), (50, .getfield 23, 3, 1, 3), (53, .iload_n 3, 1, 0, 0), (54, .invokevirtual 92, 3, 20, 1), (57, .iinc 2 1, 3, 1, 0), (60, .iinc 3 1, 3, 1, 0), (63, .goto (-47), 3, 16, 0), (66, .iload_n 2, 1, 0, 0), (67, .ifCond .le 7, 3, 74, 0), (70, .aload_n 0, 1, 0, 0), (71, .invokevirtual 53, 3, 59, 0), (74, .iload_n 2, 1, 0, 0), (75, .ireturn, 1, 0, 0)]
def kT27 : List kRow := [(0, .aload_n 0, 1, 0, 0), (1, .invokevirtual 43, 3, 42, 0), (4, .aload_n 0, 1, 0, 0), (5, .iload_n 1, 1, 0, 0), (6, .invokevirtual 95, 3, 43, 1), (9, .aload_n 0, 1, 0, 0), (10, .iload_n 2, 1, 0, 0), (11, .invokevirtual 98, 3, 45, 1), (14, .aload_n 0, 1, 0, 0), (15, .getfield 23, 3, 1, 3), (18, .iload_n 1, 1, 0, 0), (19, .invokevirtual 81, 3, 6, 1), (22, .iconst 1, 1, 1, 0), (23, .if_icmp .eq 13, 3, 36, 0), (26, .new 101, 3, 2, 0), (29, .dup, 1, 0, 0), (30, .ldc 103, 2, 0, 0), (32, .invokespecial 105, 3, 0, 0), (35, .athrow, 1, 0, 0), (36, .aload_n 0, 1, 0, 0), (37, .getfield 23, 3, 1, 3), (40, .iload_n 1, 1, 0, 0), (41, .iconst 2, 1, 2, 0), (42, .iload_n 2, 1, 0, 0), (43, .iadd, 1, 0, 0), (44, .invokevirtual 85, 3, 7, 2), (47, .aload_n 0, 1, 0, 0), (48, .invokevirtual 53, 3, 59, 0), (51, .return_, 1, 0, 0)]
def kT28 : List kRow := [(0, .aload_n 0, 1, 0, 0), (1, .invokevirtual 43, 3, 42, 0), (4, .aload_n 0, 1, 0, 0), (5, .iload_n 1, 1, 0, 0), (6, .invokevirtual 108, 3, 49, 1), (9, .aload_n 0, 1, 0, 0), (10, .iload_n 1, 1, 0, 0), (11, .invokevirtual 111, 3, 66, 1), (14, .aload_n 0, 1, 0, 0), (15, .getfield 23, 3, 1, 3), (18, .iload_n 1, 1, 0, 0), (19, .invokevirtual 114, 3, 9, 1), (22, .invokestatic 117, 3, 117, 1), (25, .ireturn, 1, 0, 0)]
def kT29 : List kRow := [(0, .aload_n 0, 1, 0, 0), (1, .invokevirtual 43, 3, 42, 0), (4, .aload_n 0, 1, 0, 0), (5, .iload_n 1, 1, 0, 0), (6, .invokevirtual 108, 3, 49, 1), (9, .iconst 0, 1, 0, 0), (10, .istore_n 2, 1, 0, 0), (11, .iload_n 2, 1, 0, 0), (12, .bipush 8, 2, 8, 0), (14, .if_icmp .ge 25, 3, 39, 0), (17, .aload_n 0, 1, 0, 0), (18, .getfield 23, 3, 1, 3), (21, .iload_n 1, 1, 0, 0), (22, .invokevirtual 81, 3, 6, 1), (25, .ifCond .eq 14, 3, 39, 0), (28, .aload_n 0, 1, 0, 0), (29, .iload_n 1, 1, 0, 0), (30, .invokevirtual 111, 3, 66, 1), (33, .iinc 2 1, 3, 1, 0), (36, .goto (-25), 3, 11, 0), (39, .iload_n 2, 1, 0, 0), (40, .ireturn, 1, 0, 0)]
def kT30 : List kRow := [(0, .aload_n 0, 1, 0, 0), (1, .getfield 29, 3, 1, 5), (4, .ifCond .eq 22, 3, 26, 0), (7, .aload_n 0, 1, 0, 0), (8, .iload_n 1, 1, 0, 0), (9, .invokevirtual 122, 3, 50, 1), (12, .ifCond .eq 14, 3, 26, 0), (15, .aload_n 0, 1, 0, 0), (16, .getfield 23, 3, 1, 3), (19, .iload_n 1, 1, 0, 0), (20, .invokevirtual 81, 3, 6, 1), (23, .goto 4, 3, 27, 0), (26, .iconst (-1), 1, 0, 1), (27, .ireturn, 1, 0, 0)]
def kT31 : List kRow := [(0, .aload_n 0, 1, 0, 0), (1, .getfield 29, 3, 1, 5), (4, .ifCond .eq 30, 3, 34, 0), (7, .aload_n 0, 1, 0, 0), (8, .iload_n 1, 1, 0, 0), (9, .invokevirtual 122, 3, 50, 1), (12, .ifCond .eq 22, 3, 34, 0), (15, .iload_n 2, 1, 0, 0), (16, .invokestatic 126, 3, 52, 1), (19, .ifCond .eq 15, 3, 34, 0), (22, .aload_n 0, 1, 0, 0), (23, .getfield 23, 3, 1, 3), (26, .iload_n 1, 1, 0, 0), (27, .iload_n 2, 1, 0, 0), (28, .invokevirtual 129, 3, 8, 2), (31, .goto 4, 3, 35, 0), (34, .iconst (-1), 1, 0, 1), (35, .ireturn, 1, 0, 0)]
def kT32 : List kRow := [(0, .aload_n 0, 1, 0, 0), (1, .getfield 29, 3, 1, 5), (4, .ifCond .eq 23, 3, 27, 0), (7, .iload_n 1, 1, 0, 0), (8, .ifCond .lt 19, 3, 27, 0), (11, .iload_n 1, 1, 0, 0), (12, .iconst 4, 1, 4, 0), (13, .if_icmp .ge 14, 3, 27, 0), (16, .aload_n 0, 1, 0, 0), (17, .getfield 23, 3, 1, 3), (20, .iload_n 1, 1, 0, 0), (21, .invokevirtual 132, 3, 16, 1), (24, .goto 4, 3, 28, 0), (27, .iconst (-1), 1, 0, 1), (28, .ireturn, 1, 0, 0)]
def kT33 : List kRow := [(0, .aload_n 0, 1, 0, 0), (1, .getfield 29, 3, 1, 5), (4, .ifCond .eq 13, 3, 17, 0), (7, .aload_n 0, 1, 0, 0), (8, .getfield 23, 3, 1, 3), (11, .invokevirtual 46, 3, 4, 0), (14, .goto 4, 3, 18, 0), (17, .iconst (-1), 1, 0, 1), (18, .ireturn, 1, 0, 0)]
def kT34 : List kRow := [(0, .aload_n 0, 1, 0, 0), (1, .iload_n 1, 1, 0, 0), (2, .invokevirtual 135, 3, 44, 1), (5, .iconst 0, 1, 0, 0), (6, .istore_n 2, 1, 0, 0), (7, .iconst 0, 1, 0, 0), (8, .istore_n 3, 1, 0, 0), (9, .iload_n 3, 1, 0, 0), (10, .bipush 64, 2, 64, 0), (12, .if_icmp .ge 21, 3, 33, 0), (15, .aload_n 0, 1, 0, 0), (16, .iload_n 1, 1, 0, 0), (17, .iload_n 3, 1, 0, 0), (18, .invokevirtual 138, 3, 57, 2), (21, .ifCond .ne 6, 3, 27, 0), (24, .iinc 2 1, 3, 1, 0), (27, .iinc 3 1, 3, 1, 0), (30, .goto (-21), 3, 9, 0), (33, .iload_n 2, 1, 0, 0), (34, .ireturn, 1, 0, 0)]
def kT35 : List kRow := [(0, .aload_n 0, 1, 0, 0), (1, .iload_n 1, 1, 0, 0), (2, .invokevirtual 135, 3, 44, 1), (5, .aload_n 0, 1, 0, 0), (6, .iload_n 2, 1, 0, 0), (7, .invokevirtual 98, 3, 45, 1), (10, .aload_n 0, 1, 0, 0), (11, .iload_n 3, 1, 0, 0), (12, .invokevirtual 142, 3, 46, 1), (15, .aload_n 0, 1, 0, 0), (16, .iload 4, 2, 0, 0), (18, .invokevirtual 60, 3, 47, 1), (21, .aload_n 0, 1, 0, 0), (22, .getfield 9, 3, 1, 0), (25, .iload_n 1, 1, 0, 0), (26, .iload_n 2, 1, 0, 0), (27, .iload_n 3, 1, 0, 0), (28, .invokestatic 68, 3, 53, 3), (31, .iload 4, 2, 0, 0), (33, .iadd, 1, 0, 0), (34, .iaload, 1, 0, 0), (35, .ireturn, 1, 0, 0)]
def kT36 : List kRow := [(0, .aload_n 0, 1, 0, 0), (1, .iload_n 1, 1, 0, 0), (2, .invokevirtual 98, 3, 45, 1), (5, .iload_n 2, 1, 0, 0), (6, .ifCond .lt 9, 3, 15, 0), (9, .iload_n 2, 1, 0, 0), (10, .bipush 24, 2, 24, 0), (12, .if_icmp .lt 13, 3, 25, 0), (15, .new 145, 3, 1, 1), (18, .dup, 1, 0, 0), (19, .ldc 147, 2, 0, 0), (21, .invokespecial 149, 3, 0, 0), (24, .athrow, 1, 0, 0), (25, .aload_n 0, 1, 0, 0), (26, .iload_n 1, 1, 0, 0), (27, .invokevirtual 150, 3, 55, 1), (30, .iload_n 2, 1, 0, 0), (31, .invokevirtual 154, 3, 1, 1), (34, .ireturn, 1, 0, 0)]
def kT37 : List kRow := [(0, .aload_n 0, 1, 0, 0), (1, .getfield 40, 3, 1, 8), (4, .ireturn, 1, 0, 0)]
def kT38 : List kRow := [(0, .aload_n 0, 1, 0, 0), (1, .getfield 37, 3, 1, 7), (4, .ireturn, 1, 0, 0)]
def kT39 : List kRow := [(0, .aload_n 0, 1, 0, 0), (1, .getfield 29, 3, 1, 5), (4, .ifCond .eq 7, 3, 11, 0), (7, .iconst 1, 1, 1, 0), (8, .goto 4, 3, 12, 0), (11, .iconst 0, 1, 0, 0), (12, .ireturn, 1, 0, 0)]
def kT40 : List kRow := [(0, .iload_n 1, 1, 0, 0), (1, .iconst (-1), 1, 0, 1), (2, .if_icmp .lt 9, 3, 11, 0), (5, .iload_n 1, 1, 0, 0), (6, .ldc 157, 2, 1000000, 0), (8, .if_icmp .le 13, 3, 21, 0), (11, .new 158, 3, 3, 2), (14, .dup, 1, 0, 0), (15, .ldc 160, 2, 0, 0), (17, .invokespecial 162, 3, 0, 0), (20, .athrow, 1, 0, 0), (21, .aload_n 0, 1, 0, 0), (22, .iload_n 1, 1, 0, 0), (23, .putfield 33, 3, 1, 6), (26, .return_, 1, 0, 0)]
def kT41 : List kRow := [(0, .aload_n 0, 1, 0, 0), (1, .iconst 1, 1, 1, 0), (2, .putfield 29, 3, 1, 5), (5, .aload_n 0, 1, 0, 0), (6, .iconst 0, 1, 0, 0), (7, .putfield 40, 3, 1, 8), (10, .aload_n 0, 1, 0, 0), (11, .invokevirtual 163, 3, 68, 0), (14, .aload_n 0, 1, 0, 0), (15, .invokevirtual 166, 3, 69, 0), (18, .aload_n 0, 1, 0, 0), (19, .getfield 23, 3, 1, 3), (22, .invokevirtual 46, 3, 4, 0), (25, .ireturn, 1, 0, 0)]
def kT42 : List kRow := [(0, .aload_n 0, 1, 0, 0), (1, .getfield 29, 3, 1, 5), (4, .ifCond .ne 13, 3, 17, 0), (7, .new 169, 3, 0, 3), (10, .dup, 1, 0, 0), (11, .ldc 171, 2, 0, 0), (13, .invokespecial 173, 3, 0, 0), (16, .athrow, 1, 0, 0), (17, .return_, 1, 0, 0)]
def kT43 : List kRow := [(0, .aload_n 0, 1, 0, 0), (1, .iload_n 1, 1, 0, 0), (2, .invokevirtual 122, 3, 50, 1), (5, .ifCond .ne 13, 3, 18, 0), (8, .new 145, 3, 1, 4), (11, .dup, 1, 0, 0), (12, .ldc 174, 2, 0, 0), (14, .invokespecial 149, 3, 0, 0), (17, .athrow, 1, 0, 0), (18, .return_, 1, 0, 0)]
def kT44 : List kRow := [(0, .iload_n 1, 1, 0, 0), (1, .ifCond .lt 9, 3, 10, 0), (4, .iload_n 1, 1, 0, 0), (5, .bipush 6, 2, 6, 0), (7, .if_icmp .lt 13, 3, 20, 0), (10, .new 145, 3, 1, 5), (13, .dup, 1, 0, 0), (14, .ldc 176, 2, 0, 0), (16, .invokespecial 149, 3, 0, 0), (19, .athrow, 1, 0, 0), (20, .return_, 1, 0, 0)]
def kT45 : List kRow := [(0, .iload_n 1, 1, 0, 0), (1, .invokestatic 126, 3, 52, 1), (4, .ifCond .ne 13, 3, 17, 0), (7, .new 145, 3, 1, 6), (10, .dup, 1, 0, 0), (11, .ldc 178, 2, 0, 0), (13, .invokespecial 149, 3, 0, 0), (16, .athrow, 1, 0, 0), (17, .return_, 1, 0, 0)]
def kT46 : List kRow := [(0, .iload_n 1, 1, 0, 0), (1, .ifCond .lt 9, 3, 10, 0), (4, .iload_n 1, 1, 0, 0), (5, .bipush 64, 2, 64, 0), (7, .if_icmp .lt 13, 3, 20, 0), (10, .new 145, 3, 1, 7), (13, .dup, 1, 0, 0), (14, .ldc 180, 2, 0, 0), (16, .invokespecial 149, 3, 0, 0), (19, .athrow, 1, 0, 0), (20, .return_, 1, 0, 0)]
def kT47 : List kRow := [(0, .iload_n 1, 1, 0, 0), (1, .ifCond .lt 8, 3, 9, 0), (4, .iload_n 1, 1, 0, 0), (5, .iconst 4, 1, 4, 0), (6, .if_icmp .lt 13, 3, 19, 0), (9, .new 145, 3, 1, 8), (12, .dup, 1, 0, 0), (13, .ldc 182, 2, 0, 0), (15, .invokespecial 149, 3, 0, 0), (18, .athrow, 1, 0, 0), (19, .return_, 1, 0, 0)]
def kT48 : List kRow := [(0, .aload_n 0, 1, 0, 0), (1, .iload_n 1, 1, 0, 0), (2, .invokevirtual 95, 3, 43, 1), (5, .aload_n 0, 1, 0, 0), (6, .getfield 23, 3, 1, 3), (9, .iload_n 1, 1, 0, 0), (10, .invokevirtual 81, 3, 6, 1), (13, .iconst 1, 1, 1, 0), (14, .if_icmp .ne 8, 3, 22, 0), (17, .aload_n 0, 1, 0, 0), (18, .iload_n 2, 1, 0, 0), (19, .invokevirtual 98, 3, 45, 1), (22, .aload_n 0, 1, 0, 0), (23, .iload_n 3, 1, 0, 0), (24, .invokevirtual 142, 3, 46, 1), (27, .return_, 1, 0, 0)]
def kT49 : List kRow := [(0, .aload_n 0, 1, 0, 0), (1, .iload_n 1, 1, 0, 0), (2, .invokevirtual 95, 3, 43, 1), (5, .aload_n 0, 1, 0, 0), (6, .iload_n 1, 1, 0, 0), (7, .invokevirtual 184, 3, 51, 1), (10, .ifCond .ne 13, 3, 23, 0), (13, .new 101, 3, 2, 9), (16, .dup, 1, 0, 0), (17, .ldc 187, 2, 0, 0), (19, .invokespecial 105, 3, 0, 0), (22, .athrow, 1, 0, 0), (23, .return_, 1, 0, 0)]
def kT50 : List kRow := [(0, .iload_n 1, 1, 0, 0), (1, .ifCond .lt 18, 3, 19, 0), (4, .iload_n 1, 1, 0, 0), (5, .aload_n 0, 1, 0, 0), (6, .getfield 23, 3, 1, 3), (9, .invokevirtual 46, 3, 4, 0), (12, .if_icmp .ge 7, 3, 19, 0), (15, .iconst 1, 1, 1, 0), (16, .goto 4, 3, 20, 0), (19, .iconst 0, 1, 0, 0), (20, .ireturn, 1, 0, 0)]
def kT51 : List kRow := [(0, .aload_n 0, 1, 0, 0), (1, .getfield 23, 3, 1, 3), (4, .iload_n 1, 1, 0, 0), (5, .invokevirtual 81, 3, 6, 1), (8, .iconst 2, 1, 2, 0), (9, .if_icmp .lt 7, 3, 16, 0), (12, .iconst 1, 1, 1, 0), (13, .goto 4, 3, 17, 0), (16, .iconst 0, 1, 0, 0), (17, .ireturn, 1, 0, 0)]
def kT52 : List kRow := [(0, .iload_n 0, 1, 0, 0), (1, .ifCond .lt 12, 3, 13, 0), (4, .iload_n 0, 1, 0, 0), (5, .iconst 2, 1, 2, 0), (6, .if_icmp .ge 7, 3, 13, 0), (9, .iconst 1, 1, 1, 0), (10, .goto 4, 3, 14, 0), (13, .iconst 0, 1, 0, 0), (14, .ireturn, 1, 0, 0)]
def kT53 : List kRow := [(0, .iload_n 1, 1, 0, 0), (1, .bipush 6, 2, 6, 0), (3, .imul, 1, 0, 0), (4, .iload_n 0, 1, 0, 0), (5, .iadd, 1, 0, 0), (6, .bipush 64, 2, 64, 0), (8, .imul, 1, 0, 0), (9, .iload_n 2, 1, 0, 0), (10, .iadd, 1, 0, 0), (11, .iconst 4, 1, 4, 0), (12, .imul, 1, 0, 0), (13, .ireturn, 1, 0, 0)]
def kT54 : List kRow := [(0, .iconst 1, 1, 1, 0), (1, .iload_n 0, 1, 0, 0), (2, .isub, 1, 0, 0), (3, .ireturn, 1, 0, 0)]
def kT55 : List kRow := [(0, .iload_n 1, 1, 0, 0), (1, .ifCond .ne 10, 3, 11, 0), (4, .aload_n 0, 1, 0, 0), (5, .getfield 16, 3, 1, 1), (8, .goto 7, 3, 15, 0), (11, .aload_n 0, 1, 0, 0), (12, .getfield 20, 3, 1, 2), (15, .areturn, 1, 0, 0)]
def kT56 : List kRow := [(0, .aload_n 0, 1, 0, 0), (1, .getfield 23, 3, 1, 3), (4, .iload_n 1, 1, 0, 0), (5, .invokevirtual 81, 3, 6, 1), (8, .istore_n 3, 1, 0, 0), (9, .iload_n 3, 1, 0, 0), (10, .iconst 1, 1, 1, 0), (11, .if_icmp .ne 5, 3, 16, 0), (14, .iload_n 2, 1, 0, 0), (15, .ireturn, 1, 0, 0), (16, .iload_n 3, 1, 0, 0), (17, .ifCond .ne 7, 3, 24, 0), (20, .iconst 0, 1, 0, 0), (21, .goto 6, 3, 27, 0), (24, .iload_n 3, 1, 0, 0), (25, .iconst 2, 1, 2, 0), (26, .isub, 1, 0, 0), (27, .ireturn, 1, 0, 0)]
def kT57 : List kRow := [(0, .iload_n 1, 1, 0, 0), (1, .iconst 0, 1, 0, 0), (2, .iload_n 2, 1, 0, 0), (3, .invokestatic 68, 3, 53, 3), (6, .istore_n 3, 1, 0, 0), (7, .iload_n 1, 1, 0, 0), (8, .iconst 1, 1, 1, 0), (9, .iload_n 2, 1, 0, 0), (10, .invokestatic 68, 3, 53, 3), (13, .istore 4, 2, 0, 0), (15, .iconst 0, 1, 0, 0), (16, .istore 5, 2, 0, 0), (18, .iload 5, 2, 0, 0), (20, .iconst 4, 1, 4, 0), (21, .if_icmp .ge 33, 3, 54, 0), (24, .aload_n 0, 1, 0, 0), (25, .getfield 9, 3, 1, 0), (28, .iload_n 3, 1, 0, 0), (29, .iload 5, 2, 0, 0), (31, .iadd, 1, 0, 0), (32, .iaload, 1, 0, 0), (33, .aload_n 0, 1, 0, 0), (34, .getfield 9, 3, 1, 0), (37, .iload 4, 2, 0, 0), (39, .iload 5, 2, 0, 0), (41, .iadd, 1, 0, 0), (42, .iaload, 1, 0, 0), (43, .if_icmp .eq 5, 3, 48, 0), (46, .iconst 0, 1, 0, 0), (47, .ireturn, 1, 0, 0), (48, .iinc 5 1, 3, 1, 0), (51, .goto (-33), 3, 18, 0), (54, .iconst 1, 1, 1, 0), (55, .ireturn, 1, 0, 0)]
def kT58 : List kRow := [(0, .aload_n 0, 1, 0, 0), (1, .getfield 33, 3, 1, 6), (4, .ifCond .ne 23, 3, 27, 0), (7, .aload_n 0, 1, 0, 0), (8, .iconst 0, 1, 0, 0), (9, .putfield 29, 3, 1, 5), (12, .aload_n 0, 1, 0, 0), (13, .iconst (-1), 1, 0, 1), (14, .putfield 33, 3, 1, 6), (17, .new 169, 3, 0, 10), (20, .dup, 1, 0, 0), (21, .ldc 189, 2, 0, 0), (23, .invokespecial 173, 3, 0, 0), (26, .athrow, 1, 0, 0), (27, .aload_n 0, 1, 0, 0), (28, .getfield 33, 3, 1, 6), (31, .ifCond .le 13, 3, 44, 0), (34, .aload_n 0, 1, 0, 0), (35, .dup, 1, 0, 0), (36, .getfield 33, 3, 1, 6), (39, .iconst 1, 1, 1, 0), (40, .isub, 1, 0, 0), (41, .putfield 33, 3, 1, 6), (44, .aload_n 0, 1, 0, 0), (45, .dup, 1, 0, 0), (46, .getfield 37, 3, 1, 7), (49, .iconst 1, 1, 1, 0), (50, .iadd, 1, 0, 0), (51, .putfield 37, 3, 1, 7), (54, .return_, 1, 0, 0)]
def kT59 : List kRow := [(0, .aload_n 0, 1, 0, 0), (1, .getfield 23, 3, 1, 3), (4, .invokevirtual 191, 3, 3, 0), (7, .aload_n 0, 1, 0, 0), (8, .iconst 0, 1, 0, 0), (9, .invokevirtual 194, 3, 60, 1), (12, .aload_n 0, 1, 0, 0), (13, .iconst 1, 1, 1, 0), (14, .invokevirtual 194, 3, 60, 1), (17, .return_, 1, 0, 0)]
def kT60 : List kRow := [(0, .aload_n 0, 1, 0, 0), (1, .invokevirtual 197, 3, 58, 0), (4, .aload_n 0, 1, 0, 0), (5, .iload_n 1, 1, 0, 0), (6, .invokevirtual 150, 3, 55, 1), (9, .aload_n 0, 1, 0, 0), (10, .getfield 23, 3, 1, 3), (13, .invokevirtual 200, 3, 0, 1), (16, .return_, 1, 0, 0)]
def kT61 : List kRow := [(0, .aload_n 0, 1, 0, 0), (1, .invokevirtual 197, 3, 58, 0), (4, .aload_n 0, 1, 0, 0), (5, .getfield 26, 3, 1, 4), (8, .iconst 0, 1, 0, 0), (9, .aload_n 0, 1, 0, 0), (10, .getfield 9, 3, 1, 0), (13, .iload_n 1, 1, 0, 0), (14, .iload_n 2, 1, 0, 0), (15, .iload_n 3, 1, 0, 0), (16, .invokestatic 68, 3, 53, 3), (19, .iconst 4, 1, 4, 0), (20, .invokestatic 72, 3, 999, 0), (23, .return_, 1, 0, 0)]
def kT62 : List kRow := [(0, .aload_n 0, 1, 0, 0), (1, .getfield 9, 3, 1, 0), (4, .iload_n 1, 1, 0, 0), (5, .iload_n 2, 1, 0, 0), (6, .iload_n 3, 1, 0, 0), (7, .invokestatic 68, 3, 53, 3), (10, .aload_n 0, 1, 0, 0), (11, .getfield 26, 3, 1, 4), (14, .iconst 0, 1, 0, 0), (15, .iconst 4, 1, 4, 0), (16, .invokestatic 72, 3, 999, 0), (19, .aload_n 0, 1, 0, 0), (20, .iload_n 1, 1, 0, 0), (21, .iload_n 2, 1, 0, 0), (22, .invokestatic 204, 3, 54, 1), (25, .iload_n 3, 1, 0, 0), (26, .invokevirtual 207, 3, 61, 3), (29, .return_, 1, 0, 0)]
def kT63 : List kRow := [(0, .iload_n 3, 1, 0, 0), (1, .bipush 8, 2, 8, 0), (3, .idiv, 1, 0, 0), (4, .istore 4, 2, 0, 0), (6, .aload_n 0, 1, 0, 0), (7, .getfield 23, 3, 1, 3), (10, .iload_n 1, 1, 0, 0), (11, .invokevirtual 81, 3, 6, 1), (14, .iconst 1, 1, 1, 0), (15, .if_icmp .ne 21, 3, 36, 0), (18, .aload_n 0, 1, 0, 0), (19, .iload_n 1, 1, 0, 0), (20, .iload_n 2, 1, 0, 0), (21, .iload 4, 2, 0, 0), (23, .invokevirtual 210, 3, 64, 3), (26, .aload_n 0, 1, 0, 0), (27, .iload_n 1, 1, 0, 0), (28, .iload_n 2, 1, 0, 0), (29, .iload_n 3, 1, 0, 0), (30, .invokevirtual 207, 3, 61, 3), (33, .goto 50, 3, 83, 0), (36, .aload_n 0, 1, 0, 0), (37, .getfield 23, 3, 1, 3), (40, .iload_n 1, 1, 0, 0), (41, .iload 4, 2, 0, 0), (43, .invokevirtual 213, 3, 10, 2), (46, .ifCond .eq 13, 3, 59, 0), (49, .aload_n 0, 1, 0, 0), (50, .iload_n 1, 1, 0, 0), (51, .iload_n 2, 1, 0, 0), (52, .iload_n 3, 1, 0, 0), (53, .invokevirtual 207, 3, 61, 3), (56, .goto 27, 3, 83, 0), (59, .aload_n 0, 1, 0, 0), (60, .iload_n 1, 1, 0, 0), (61, .iload 4, 2, 0, 0), (63, .invokevirtual 216, 3, 65, 2), (66, .aload_n 0, 1, 0, 0), (67, .iload_n 1, 1, 0, 0), (68, .iload_n 2, 1, 0, 0), (69, .iload_n 3, 1, 0, 0), (70, .invokevirtual 207, 3, 61, 3), (73, .aload_n 0, 1, 0, 0), (74, .iload_n 1, 1, 0, 0), (75, .iload_n 2, 1, 0, 0), (76, .invokestatic 204, 3, 54, 1), (79, .iload_n 3, 1, 0, 0), (80, .invokevirtual 207, 3, 61, 3), (83, .return_, 1, 0, 0)]
def kT64 : List kRow := [(0, .aload_n 0, 1, 0, 0), (1, .getfield 23, 3, 1, 3), (4, .iload_n 1, 1, 0, 0), (5, .iload_n 2, 1, 0, 0), (6, .invokevirtual 129, 3, 8, 2), (9, .iload_n 3, 1, 0, 0), (10, .ishr, 1, 0, 0), (11, .iconst 1, 1, 1, 0), (12, .iand, 1, 0, 0), (13, .ifCond .ne 17, 3, 30, 0), (16, .aload_n 0, 1, 0, 0), (17, .getfield 23, 3, 1, 3), (20, .iload_n 1, 1, 0, 0), (21, .iload_n 2, 1, 0, 0), (22, .iload_n 3, 1, 0, 0), (23, .invokevirtual 219, 3, 12, 3), (26, .aload_n 0, 1, 0, 0), (27, .invokevirtual 53, 3, 59, 0), (30, .return_, 1, 0, 0)]
def kT65 : List kRow := [(0, .iload_n 1, 1, 0, 0), (1, .bipush 8, 2, 8, 0), (3, .imul, 1, 0, 0), (4, .iload_n 2, 1, 0, 0), (5, .iadd, 1, 0, 0), (6, .istore_n 3, 1, 0, 0), (7, .aload_n 0, 1, 0, 0), (8, .getfield 23, 3, 1, 3), (11, .iload_n 3, 1, 0, 0), (12, .invokevirtual 222, 3, 17, 1), (15, .ifCond .ne 15, 3, 30, 0), (18, .aload_n 0, 1, 0, 0), (19, .getfield 23, 3, 1, 3), (22, .iload_n 3, 1, 0, 0), (23, .invokevirtual 225, 3, 18, 1), (26, .aload_n 0, 1, 0, 0), (27, .invokevirtual 53, 3, 59, 0), (30, .return_, 1, 0, 0)]
def kT66 : List kRow := [(0, .aload_n 0, 1, 0, 0), (1, .getfield 23, 3, 1, 3), (4, .iload_n 1, 1, 0, 0), (5, .invokevirtual 228, 3, 11, 1), (8, .istore_n 2, 1, 0, 0), (9, .iconst 0, 1, 0, 0), (10, .istore_n 3, 1, 0, 0), (11, .iload_n 2, 1, 0, 0), (12, .iconst (-1), 1, 0, 1), (13, .if_icmp .eq 20, 3, 33, 0), (16, .aload_n 0, 1, 0, 0), (17, .iload_n 1, 1, 0, 0), (18, .iload_n 2, 1, 0, 0), (19, .invokevirtual 231, 3, 67, 2), (22, .aload_n 0, 1, 0, 0), (23, .getfield 23, 3, 1, 3), (26, .iload_n 1, 1, 0, 0), (27, .iload_n 2, 1, 0, 0), (28, .invokevirtual 234, 3, 13, 2), (31, .iconst 1, 1, 1, 0), (32, .istore_n 3, 1, 0, 0), (33, .aload_n 0, 1, 0, 0), (34, .getfield 23, 3, 1, 3), (37, .iload_n 1, 1, 0, 0), (38, .invokevirtual 114, 3, 9, 1), (41, .ifCond .ne 12, 3, 53, 0), (44, .aload_n 0, 1, 0, 0), (45, .getfield 23, 3, 1, 3), (48, .iload_n 1, 1, 0, 0), (49, .iconst 0, 1, 0, 0), (50, .invokevirtual 85, 3, 7, 2), (53, .aload_n 0, 1, 0, 0), (54, .invokevirtual 53, 3, 59, 0), (57, .aload_n 0, 1, 0, 0), (58, .dup, 1, 0, 0), (59, .getfield 40, 3, 1, 8), (62, .iload_n 3, 1, 0, 0), (63, .iadd, 1, 0, 0), (64, .putfield 40, 3, 1, 8), (67, .return_, 1, 0, 0)]
def kT67 : List kRow := [(0, .aload_n 0, 1, 0, 0), (1, .iload_n 1, 1, 0, 0), (2, .iconst 0, 1, 0, 0), (3, .invokevirtual 64, 3, 56, 2), (6, .istore_n 3, 1, 0, 0), (7, .iload_n 2, 1, 0, 0), (8, .bipush 8, 2, 8, 0), (10, .imul, 1, 0, 0), (11, .istore 4, 2, 0, 0), (13, .iload 4, 2, 0, 0), (15, .istore 5, 2, 0, 0), (17, .iload 5, 2, 0, 0), (19, .iload 4, 2, 0, 0), (21, .bipush 8, 2, 8, 0), (23, .iadd, 1, 0, 0), (24, .if_icmp .ge 27, 3, 51, 0), (27, .aload_n 0, 1, 0, 0), (28, .iload_n 1, 1, 0, 0), (29, .iload 5, 2, 0, 0), (31, .invokevirtual 138, 3, 57, 2), (34, .ifCond .ne 11, 3, 45, 0), (37, .aload_n 0, 1, 0, 0), (38, .iload_n 1, 1, 0, 0), (39, .iload_n 3, 1, 0, 0), (40, .iload 5, 2, 0, 0), (42, .invokevirtual 237, 3, 62, 3), (45, .iinc 5 1, 3, 1, 0), (48, .goto (-31), 3, 17, 0), (51, .return_, 1, 0, 0)]
def kT68 : List kRow := [(0, .aload_n 0, 1, 0, 0), (1, .getfield 16, 3, 1, 1), (4, .invokevirtual 240, 3, 2, 0), (7, .istore_n 1, 1, 0, 0), (8, .aload_n 0, 1, 0, 0), (9, .getfield 20, 3, 1, 2), (12, .invokevirtual 240, 3, 2, 0), (15, .istore_n 2, 1, 0, 0), (16, .iload_n 2, 1, 0, 0), (17, .iload_n 1, 1, 0, 0), (18, .if_icmp .le 7, 3, 25, 0), (21, .iconst 1, 1, 1, 0), (22, .goto 4, 3, 26, 0), (25, .iconst 0, 1, 0, 0), (26, .istore_n 3, 1, 0, 0), (27, .aload_n 0, 1, 0, 0), (28, .getfield 23, 3, 1, 3), (31, .aload_n 0, 1, 0, 0), (32, .iload_n 3, 1, 0, 0), (33, .invokevirtual 150, 3, 55, 1), (36, .invokevirtual 200, 3, 0, 1), (39, .iload_n 1, 1, 0, 0), (40, .iload_n 2, 1, 0, 0), (41, .if_icmp .eq 11, 3, 52, 0), (44, .aload_n 0, 1, 0, 0), (45, .iload_n 3, 1, 0, 0), (46, .invokestatic 204, 3, 54, 1), (49, .invokevirtual 194, 3, 60, 1), (52, .return_, 1, 0, 0)]
def kT69 : List kRow := [(0, .aload_n 0, 1, 0, 0), (1, .getfield 23, 3, 1, 3), (4, .iconst 0, 1, 0, 0), (5, .invokevirtual 132, 3, 16, 1), (8, .iconst (-1), 1, 0, 1), (9, .if_icmp .ne 4, 3, 13, 0), (12, .return_, 1, 0, 0), (13, .iconst 0, 1, 0, 0), (14, .istore_n 1, 1, 0, 0), (15, .iload_n 1, 1, 0, 0), (16, .iconst 4, 1, 4, 0), (17, .if_icmp .ge 35, 3, 52, 0), (20, .aload_n 0, 1, 0, 0), (21, .getfield 23, 3, 1, 3), (24, .iload_n 1, 1, 0, 0), (25, .invokevirtual 132, 3, 16, 1), (28, .istore_n 2, 1, 0, 0), (29, .iload_n 2, 1, 0, 0), (30, .iconst (-1), 1, 0, 1), (31, .if_icmp .eq 15, 3, 46, 0), (34, .aload_n 0, 1, 0, 0), (35, .iload_n 2, 1, 0, 0), (36, .bipush 8, 2, 8, 0), (38, .idiv, 1, 0, 0), (39, .iload_n 2, 1, 0, 0), (40, .bipush 8, 2, 8, 0), (42, .irem, 1, 0, 0), (43, .invokevirtual 243, 3, 70, 2), (46, .iinc 1 1, 3, 1, 0), (49, .goto (-34), 3, 15, 0), (52, .aload_n 0, 1, 0, 0), (53, .getfield 23, 3, 1, 3), (56, .invokevirtual 246, 3, 21, 0), (59, .aload_n 0, 1, 0, 0), (60, .invokevirtual 53, 3, 59, 0), (63, .return_, 1, 0, 0)]
def kT70 : List kRow := [(0, .aload_n 0, 1, 0, 0), (1, .getfield 23, 3, 1, 3), (4, .iload_n 1, 1, 0, 0), (5, .invokevirtual 81, 3, 6, 1), (8, .iconst 1, 1, 1, 0), (9, .if_icmp .eq 21, 3, 30, 0), (12, .aload_n 0, 1, 0, 0), (13, .getfield 23, 3, 1, 3), (16, .iload_n 1, 1, 0, 0), (17, .iload_n 2, 1, 0, 0), (18, .invokevirtual 213, 3, 10, 2), (21, .ifCond .ne 9, 3, 30, 0), (24, .aload_n 0, 1, 0, 0), (25, .iload_n 1, 1, 0, 0), (26, .iload_n 2, 1, 0, 0), (27, .invokevirtual 231, 3, 67, 2), (30, .return_, 1, 0, 0)]
def kT71 : List kRow := [(0, .aload_n 0, 1, 0, 0), (1, .getfield 29, 3, 2, 0), (4, .ireturn, 1, 0, 0)]
def kT72 : List kRow := [(0, .aload_n 0, 1, 0, 0), (1, .getfield 32, 3, 2, 5), (4, .ifCond .eq 5, 3, 9, 0), (7, .iconst 0, 1, 0, 0), (8, .ireturn, 1, 0, 0), (9, .aload_n 0, 1, 0, 0), (10, .getfield 22, 3, 2, 6), (13, .ifCond .ne 15, 3, 28, 0), (16, .aload_n 0, 1, 0, 0), (17, .iconst 1, 1, 1, 0), (18, .putfield 32, 3, 2, 5), (21, .aload_n 0, 1, 0, 0), (22, .iconst (-1), 1, 0, 1), (23, .putfield 22, 3, 2, 6), (26, .iconst 0, 1, 0, 0), (27, .ireturn, 1, 0, 0), (28, .aload_n 0, 1, 0, 0), (29, .aload_n 0, 1, 0, 0), (30, .getfield 22, 3, 2, 6), (33, .ifCond .le 12, 3, 45, 0), (36, .aload_n 0, 1, 0, 0), (37, .getfield 22, 3, 2, 6), (40, .iconst 1, 1, 1, 0), (41, .isub, 1, 0, 0), (42, .goto 7, 3, 49, 0), (45, .aload_n 0, 1, 0, 0), (46, .getfield 22, 3, 2, 6), (49, .putfield 22, 3, 2, 6), (52, .aload_n 0, 1, 0, 0), (53, .dup, 1, 0, 0), (54, .getfield 36, 3, 2, 7), (57, .iconst 1, 1, 1, 0), (58, .iadd, 1, 0, 0), (59, .putfield 36, 3, 2, 7), (62, .iconst 1, 1, 1, 0), (63, .ireturn, 1, 0, 0)]
def kT73 : List kRow := [(0, .iconst 0, 1, 0, 0), (1, .istore_n 2, 1, 0, 0), (2, .iload_n 2, 1, 0, 0), (3, .bipush 24, 2, 24, 0), (5, .if_icmp .ge 15, 3, 20, 0), (8, .aload_n 1, 1, 0, 0), (9, .iload_n 2, 1, 0, 0), (10, .aload_n 0, 1, 0, 0), (11, .iload_n 2, 1, 0, 0), (12, .iaload, 1, 0, 0), (13, .iastore, 1, 0, 0), (14, .iinc 2 1, 3, 1, 0), (17, .goto (-15), 3, 2, 0), (20, .return_, 1, 0, 0)]
def kT74 : List kRow := [(0, .aload_n 0, 1, 0, 0), (1, .invokevirtual 39, 3, 72, 0), (4, .istore_n 2, 1, 0, 0), (5, .iload_n 2, 1, 0, 0), (6, .ifCond .eq 25, 3, 31, 0), (9, .aload_n 0, 1, 0, 0), (10, .getfield 19, 3, 2, 4), (13, .iload_n 1, 1, 0, 0), (14, .ifCond .ne 10, 3, 24, 0), (17, .aload_n 0, 1, 0, 0), (18, .getfield 13, 3, 2, 2), (21, .goto 7, 3, 28, 0), (24, .aload_n 0, 1, 0, 0), (25, .getfield 16, 3, 2, 3), (28, .invokestatic 43, 3, 73, 2), (31, .iload_n 2, 1, 0, 0), (32, .ireturn, 1, 0, 0)]
def kT75 : List kRow := [(0, .aload_n 0, 1, 0, 0), (1, .getfield 19, 3, 2, 4), (4, .iconst 0, 1, 0, 0), (5, .dup2, 1, 0, 0), (6, .iaload, 1, 0, 0), (7, .iconst 1, 1, 1, 0), (8, .iadd, 1, 0, 0), (9, .iastore, 1, 0, 0), (10, .aload_n 0, 1, 0, 0), (11, .iconst 0, 1, 0, 0), (12, .invokevirtual 47, 3, 74, 1), (15, .ifCond .eq 15, 3, 30, 0), (18, .aload_n 0, 1, 0, 0), (19, .iconst 1, 1, 1, 0), (20, .invokevirtual 47, 3, 74, 1), (23, .ifCond .eq 7, 3, 30, 0), (26, .iconst 1, 1, 1, 0), (27, .goto 4, 3, 31, 0), (30, .iconst 0, 1, 0, 0), (31, .ireturn, 1, 0, 0)]
def kT76 : List kRow := [(0, .sipush 1536, 3, 1536, 0), (3, .iload_n 0, 1, 0, 0), (4, .imul, 1, 0, 0), (5, .sipush 256, 3, 256, 0), (8, .iload_n 1, 1, 0, 0), (9, .imul, 1, 0, 0), (10, .iadd, 1, 0, 0), (11, .iconst 4, 1, 4, 0), (12, .iload_n 2, 1, 0, 0), (13, .imul, 1, 0, 0), (14, .iadd, 1, 0, 0), (15, .ireturn, 1, 0, 0)]
def kT77 : List kRow := [(0, .aload_n 0, 1, 0, 0), (1, .invokevirtual 39, 3, 72, 0), (4, .istore 4, 2, 0, 0), (6, .iconst 0, 1, 0, 0), (7, .istore 5, 2, 0, 0), (9, .iload 5, 2, 0, 0), (11, .iconst 4, 1, 4, 0), (12, .if_icmp .ge 35, 3, 47, 0), (15, .iload 4, 2, 0, 0), (17, .ifCond .eq 30, 3, 47, 0), (20, .aload_n 0, 1, 0, 0), (21, .getfield 7, 3, 2, 1), (24, .iload_n 1, 1, 0, 0), (25, .iload_n 2, 1, 0, 0), (26, .iload_n 3, 1, 0, 0), (27, .invokestatic 51, 3, 76, 3), (30, .iload 5, 2, 0, 0), (32, .iadd, 1, 0, 0), (33, .aload_n 0, 1, 0, 0), (34, .getfield 26, 3, 2, 9), (37, .iload 5, 2, 0, 0), (39, .iaload, 1, 0, 0), (40, .iastore, 1, 0, 0), (41, .iinc 5 1, 3, 1, 0), (44, .goto (-35), 3, 9, 0), (47, .iload 4, 2, 0, 0), (49, .ireturn, 1, 0, 0)]
def kT78 : List kRow := [(0, .iconst 0, 1, 0, 0), (1, .istore 4, 2, 0, 0), (3, .iload 4, 2, 0, 0), (5, .iconst 4, 1, 4, 0), (6, .if_icmp .ge 30, 3, 36, 0), (9, .aload_n 0, 1, 0, 0), (10, .getfield 26, 3, 2, 9), (13, .iload 4, 2, 0, 0), (15, .aload_n 0, 1, 0, 0), (16, .getfield 7, 3, 2, 1), (19, .iload_n 1, 1, 0, 0), (20, .iload_n 2, 1, 0, 0), (21, .iload_n 3, 1, 0, 0), (22, .invokestatic 51, 3, 76, 3), (25, .iload 4, 2, 0, 0), (27, .iadd, 1, 0, 0), (28, .iaload, 1, 0, 0), (29, .iastore, 1, 0, 0), (30, .iinc 4 1, 3, 1, 0), (33, .goto (-30), 3, 3, 0), (36, .return_, 1, 0, 0)]
def kT79 : List kRow := [(0, .iconst 1, 1, 1, 0), (1, .istore_n 3, 1, 0, 0), (2, .iconst 0, 1, 0, 0), (3, .istore 4, 2, 0, 0), (5, .iload 4, 2, 0, 0), (7, .iconst 4, 1, 4, 0), (8, .if_icmp .ge 50, 3, 58, 0), (11, .iload_n 3, 1, 0, 0), (12, .ifCond .eq 38, 3, 50, 0), (15, .aload_n 0, 1, 0, 0), (16, .getfield 7, 3, 2, 1), (19, .iconst 0, 1, 0, 0), (20, .iload_n 1, 1, 0, 0), (21, .iload_n 2, 1, 0, 0), (22, .invokestatic 51, 3, 76, 3), (25, .iload 4, 2, 0, 0), (27, .iadd, 1, 0, 0), (28, .iaload, 1, 0, 0), (29, .aload_n 0, 1, 0, 0), (30, .getfield 7, 3, 2, 1), (33, .iconst 1, 1, 1, 0), (34, .iload_n 1, 1, 0, 0), (35, .iload_n 2, 1, 0, 0), (36, .invokestatic 51, 3, 76, 3), (39, .iload 4, 2, 0, 0), (41, .iadd, 1, 0, 0), (42, .iaload, 1, 0, 0), (43, .if_icmp .ne 7, 3, 50, 0), (46, .iconst 1, 1, 1, 0), (47, .goto 4, 3, 51, 0), (50, .iconst 0, 1, 0, 0), (51, .istore_n 3, 1, 0, 0), (52, .iinc 4 1, 3, 1, 0), (55, .goto (-50), 3, 5, 0), (58, .iload_n 3, 1, 0, 0), (59, .ireturn, 1, 0, 0)]
def kT80 : List kRow := [(0, .iconst 1, 1, 1, 0), (1, .istore 4, 2, 0, 0), (3, .bipush 8, 2, 8, 0), (5, .iload_n 2, 1, 0, 0), (6, .imul, 1, 0, 0), (7, .istore 5, 2, 0, 0), (9, .iload 5, 2, 0, 0), (11, .bipush 8, 2, 8, 0), (13, .iload_n 2, 1, 0, 0), (14, .imul, 1, 0, 0), (15, .bipush 8, 2, 8, 0), (17, .iadd, 1, 0, 0), (18, .if_icmp .ge 44, 3, 62, 0), (21, .iload 4, 2, 0, 0), (23, .ifCond .eq 39, 3, 62, 0), (26, .aload_n 0, 1, 0, 0), (27, .iload_n 1, 1, 0, 0), (28, .iload 5, 2, 0, 0), (30, .invokevirtual 55, 3, 79, 2), (33, .ifCond .ne 23, 3, 56, 0), (36, .aload_n 0, 1, 0, 0), (37, .iload_n 3, 1, 0, 0), (38, .iload_n 1, 1, 0, 0), (39, .iload 5, 2, 0, 0), (41, .invokevirtual 59, 3, 78, 3), (44, .aload_n 0, 1, 0, 0), (45, .iconst 1, 1, 1, 0), (46, .iload_n 3, 1, 0, 0), (47, .isub, 1, 0, 0), (48, .iload_n 1, 1, 0, 0), (49, .iload 5, 2, 0, 0), (51, .invokevirtual 63, 3, 77, 3), (54, .istore 4, 2, 0, 0), (56, .iinc 5 1, 3, 1, 0), (59, .goto (-50), 3, 9, 0), (62, .iload 4, 2, 0, 0), (64, .ireturn, 1, 0, 0)]
def kT81 : List kRow := [(0, .aload_n 0, 1, 0, 0), (1, .getfield 19, 3, 2, 4), (4, .iconst 2, 1, 2, 0), (5, .iload_n 1, 1, 0, 0), (6, .iadd, 1, 0, 0), (7, .iaload, 1, 0, 0), (8, .ireturn, 1, 0, 0)]
def kT82 : List kRow := [(0, .iload_n 1, 1, 0, 0), (1, .ifCond .lt 17, 3, 18, 0), (4, .iload_n 1, 1, 0, 0), (5, .aload_n 0, 1, 0, 0), (6, .getfield 19, 3, 2, 4), (9, .iconst 1, 1, 1, 0), (10, .iaload, 1, 0, 0), (11, .if_icmp .ge 7, 3, 18, 0), (14, .iconst 1, 1, 1, 0), (15, .goto 4, 3, 19, 0), (18, .iconst 0, 1, 0, 0), (19, .ireturn, 1, 0, 0)]
def kT83 : List kRow := [(0, .aload_n 0, 1, 0, 0), (1, .getfield 19, 3, 2, 4), (4, .bipush 8, 2, 8, 0), (6, .bipush 6, 2, 6, 0), (8, .iload_n 2, 1, 0, 0), (9, .imul, 1, 0, 0), (10, .iadd, 1, 0, 0), (11, .iload_n 1, 1, 0, 0), (12, .iadd, 1, 0, 0), (13, .iaload, 1, 0, 0), (14, .ireturn, 1, 0, 0)]
def kT84 : List kRow := [(0, .aload_n 0, 1, 0, 0), (1, .iload_n 1, 1, 0, 0), (2, .iload_n 3, 1, 0, 0), (3, .invokevirtual 67, 3, 83, 2), (6, .iload_n 2, 1, 0, 0), (7, .ishr, 1, 0, 0), (8, .iconst 1, 1, 1, 0), (9, .iand, 1, 0, 0), (10, .iconst 1, 1, 1, 0), (11, .if_icmp .ne 7, 3, 18, 0), (14, .iconst 1, 1, 1, 0), (15, .goto 4, 3, 19, 0), (18, .iconst 0, 1, 0, 0), (19, .ireturn, 1, 0, 0)]
def kT85 : List kRow := [(0, .aload_n 0, 1, 0, 0), (1, .iload_n 1, 1, 0, 0), (2, .iload_n 2, 1, 0, 0), (3, .iconst 0, 1, 0, 0), (4, .invokevirtual 71, 3, 84, 3), (7, .ifCond .ne 13, 3, 20, 0), (10, .aload_n 0, 1, 0, 0), (11, .iload_n 1, 1, 0, 0), (12, .iload_n 2, 1, 0, 0), (13, .iconst 1, 1, 1, 0), (14, .invokevirtual 71, 3, 84, 3), (17, .ifCond .eq 7, 3, 24, 0), (20, .iconst 1, 1, 1, 0), (21, .goto 4, 3, 25, 0), (24, .iconst 0, 1, 0, 0), (25, .ireturn, 1, 0, 0)]
def kT86 : List kRow := [(0, .aload_n 0, 1, 0, 0), (1, .iconst 1, 1, 1, 0), (2, .putfield 29, 3, 2, 0), (5, .iconst 0, 1, 0, 0), (6, .ireturn, 1, 0, 0)]
def kT87 : List kRow := [(0, .aload_n 0, 1, 0, 0), (1, .aload_n 0, 1, 0, 0), (2, .getfield 32, 3, 2, 5), (5, .ifCond .eq 7, 3, 12, 0), (8, .iconst 1, 1, 1, 0), (9, .goto 4, 3, 13, 0), (12, .iconst 0, 1, 0, 0), (13, .putfield 29, 3, 2, 0), (16, .aload_n 0, 1, 0, 0), (17, .getfield 32, 3, 2, 5), (20, .ifCond .eq 5, 3, 25, 0), (23, .iconst 0, 1, 0, 0), (24, .ireturn, 1, 0, 0), (25, .aload_n 0, 1, 0, 0), (26, .getfield 19, 3, 2, 4), (29, .iconst 1, 1, 1, 0), (30, .iaload, 1, 0, 0), (31, .istore_n 1, 1, 0, 0), (32, .iload_n 1, 1, 0, 0), (33, .bipush 6, 2, 6, 0), (35, .if_icmp .ne 5, 3, 40, 0), (38, .iconst (-1), 1, 0, 1), (39, .ireturn, 1, 0, 0), (40, .aload_n 0, 1, 0, 0), (41, .getfield 19, 3, 2, 4), (44, .iconst 1, 1, 1, 0), (45, .dup2, 1, 0, 0), (46, .iaload, 1, 0, 0), (47, .iconst 1, 1, 1, 0), (48, .iadd, 1, 0, 0), (49, .iastore, 1, 0, 0), (50, .aload_n 0, 1, 0, 0), (51, .getfield 19, 3, 2, 4), (54, .iconst 2, 1, 2, 0), (55, .iload_n 1, 1, 0, 0), (56, .iadd, 1, 0, 0), (57, .iconst 0, 1, 0, 0), (58, .iastore, 1, 0, 0), (59, .aload_n 0, 1, 0, 0), (60, .invokevirtual 74, 3, 75, 0), (63, .ifCond .eq 7, 3, 70, 0), (66, .iload_n 1, 1, 0, 0), (67, .goto 7, 3, 74, 0), (70, .aload_n 0, 1, 0, 0), (71, .invokevirtual 77, 3, 86, 0), (74, .ireturn, 1, 0, 0)]
def kT88 : List kRow := [(0, .aload_n 0, 1, 0, 0), (1, .iload_n 1, 1, 0, 0), (2, .invokevirtual 81, 3, 82, 1), (5, .ifCond .eq 46, 3, 51, 0), (8, .iload_n 3, 1, 0, 0), (9, .ifCond .lt 42, 3, 51, 0), (12, .iload_n 3, 1, 0, 0), (13, .bipush 64, 2, 64, 0), (15, .if_icmp .ge 36, 3, 51, 0), (18, .iload 4, 2, 0, 0), (20, .ifCond .lt 31, 3, 51, 0), (23, .iload 4, 2, 0, 0), (25, .iconst 4, 1, 4, 0), (26, .if_icmp .ge 25, 3, 51, 0), (29, .aload_n 0, 1, 0, 0), (30, .iload_n 1, 1, 0, 0), (31, .invokevirtual 84, 3, 81, 1), (34, .iconst 1, 1, 1, 0), (35, .if_icmp .ne 12, 3, 47, 0), (38, .iload_n 2, 1, 0, 0), (39, .ifCond .eq 8, 3, 47, 0), (42, .iload_n 2, 1, 0, 0), (43, .iconst 1, 1, 1, 0), (44, .if_icmp .ne 7, 3, 51, 0), (47, .iconst 1, 1, 1, 0), (48, .goto 4, 3, 52, 0), (51, .iconst 0, 1, 0, 0), (52, .ireturn, 1, 0, 0)]
def kT89 : List kRow := [(0, .aload_n 0, 1, 0, 0), (1, .aload_n 0, 1, 0, 0), (2, .getfield 32, 3, 2, 5), (5, .ifCond .eq 7, 3, 12, 0), (8, .iconst 1, 1, 1, 0), (9, .goto 20, 3, 29, 0), (12, .aload_n 0, 1, 0, 0), (13, .iload_n 1, 1, 0, 0), (14, .iload_n 2, 1, 0, 0), (15, .iload_n 3, 1, 0, 0), (16, .iload 4, 2, 0, 0), (18, .invokevirtual 88, 3, 88, 4), (21, .ifCond .ne 7, 3, 28, 0), (24, .iconst 2, 1, 2, 0), (25, .goto 4, 3, 29, 0), (28, .iconst 0, 1, 0, 0), (29, .putfield 29, 3, 2, 0), (32, .return_, 1, 0, 0)]
def kT90 : List kRow := [(0, .aload_n 0, 1, 0, 0), (1, .iload_n 1, 1, 0, 0), (2, .invokevirtual 84, 3, 81, 1), (5, .istore_n 3, 1, 0, 0), (6, .iload_n 3, 1, 0, 0), (7, .ifCond .ne 7, 3, 14, 0), (10, .iconst 0, 1, 0, 0), (11, .goto 15, 3, 26, 0), (14, .iload_n 3, 1, 0, 0), (15, .iconst 1, 1, 1, 0), (16, .if_icmp .ne 7, 3, 23, 0), (19, .iload_n 2, 1, 0, 0), (20, .goto 6, 3, 26, 0), (23, .iload_n 3, 1, 0, 0), (24, .iconst 2, 1, 2, 0), (25, .isub, 1, 0, 0), (26, .ireturn, 1, 0, 0)]
def kT91 : List kRow := [(0, .iconst 0, 1, 0, 0), (1, .istore_n 3, 1, 0, 0), (2, .bipush 20, 2, 20, 0), (4, .istore 4, 2, 0, 0), (6, .iload 4, 2, 0, 0), (8, .bipush 24, 2, 24, 0), (10, .if_icmp .ge 35, 3, 45, 0), (13, .iload_n 3, 1, 0, 0), (14, .ifCond .ne 19, 3, 33, 0), (17, .aload_n 0, 1, 0, 0), (18, .getfield 19, 3, 2, 4), (21, .iload 4, 2, 0, 0), (23, .iaload, 1, 0, 0), (24, .bipush 8, 2, 8, 0), (26, .iload_n 1, 1, 0, 0), (27, .imul, 1, 0, 0), (28, .iload_n 2, 1, 0, 0), (29, .iadd, 1, 0, 0), (30, .if_icmp .ne 7, 3, 37, 0), (33, .iconst 1, 1, 1, 0), (34, .goto 4, 3, 38, 0), (37, .iconst 0, 1, 0, 0), (38, .istore_n 3, 1, 0, 0), (39, .iinc 4 1, 3, 1, 0), (42, .goto (-36), 3, 6, 0), (45, .iload_n 3, 1, 0, 0), (46, .ireturn, 1, 0, 0)]
def kT92 : List kRow := [(0, .iconst 0, 1, 0, 0), (1, .istore_n 3, 1, 0, 0), (2, .iload_n 3, 1, 0, 0), (3, .iconst 4, 1, 4, 0), (4, .if_icmp .ge 22, 3, 26, 0), (7, .aload_n 0, 1, 0, 0), (8, .getfield 19, 3, 2, 4), (11, .bipush 20, 2, 20, 0), (13, .iload_n 3, 1, 0, 0), (14, .iadd, 1, 0, 0), (15, .iaload, 1, 0, 0), (16, .iconst (-1), 1, 0, 1), (17, .if_icmp .eq 9, 3, 26, 0), (20, .iinc 3 1, 3, 1, 0), (23, .goto (-21), 3, 2, 0), (26, .iload_n 3, 1, 0, 0), (27, .iconst 4, 1, 4, 0), (28, .if_icmp .ne 40, 3, 68, 0), (31, .bipush 20, 2, 20, 0), (33, .istore 4, 2, 0, 0), (35, .iload 4, 2, 0, 0), (37, .iconst 1, 1, 1, 0), (38, .iadd, 1, 0, 0), (39, .bipush 24, 2, 24, 0), (41, .if_icmp .ge 25, 3, 66, 0), (44, .aload_n 0, 1, 0, 0), (45, .getfield 19, 3, 2, 4), (48, .iload 4, 2, 0, 0), (50, .aload_n 0, 1, 0, 0), (51, .getfield 19, 3, 2, 4), (54, .iload 4, 2, 0, 0), (56, .iconst 1, 1, 1, 0), (57, .iadd, 1, 0, 0), (58, .iaload, 1, 0, 0), (59, .iastore, 1, 0, 0), (60, .iinc 4 1, 3, 1, 0), (63, .goto (-28), 3, 35, 0), (66, .iconst 3, 1, 3, 0), (67, .istore_n 3, 1, 0, 0), (68, .aload_n 0, 1, 0, 0), (69, .getfield 19, 3, 2, 4), (72, .bipush 20, 2, 20, 0), (74, .iload_n 3, 1, 0, 0), (75, .iadd, 1, 0, 0), (76, .bipush 8, 2, 8, 0), (78, .iload_n 1, 1, 0, 0), (79, .imul, 1, 0, 0), (80, .iload_n 2, 1, 0, 0), (81, .iadd, 1, 0, 0), (82, .iastore, 1, 0, 0), (83, .return_, 1, 0, 0)]
def kT93 : List kRow := [(0, .iload_n 3, 1, 0, 0), (1, .bipush 8, 2, 8, 0), (3, .idiv, 1, 0, 0), (4, .istore 4, 2, 0, 0), (6, .aload_n 0, 1, 0, 0), (7, .iload_n 1, 1, 0, 0), (8, .invokevirtual 84, 3, 81, 1), (11, .istore 5, 2, 0, 0), (13, .aload_n 0, 1, 0, 0), (14, .iload_n 1, 1, 0, 0), (15, .iload_n 2, 1, 0, 0), (16, .invokevirtual 92, 3, 90, 2), (19, .istore 6, 2, 0, 0), (21, .iload 5, 2, 0, 0), (23, .iconst 1, 1, 1, 0), (24, .if_icmp .ne 55, 3, 79, 0), (27, .aload_n 0, 1, 0, 0), (28, .iload_n 1, 1, 0, 0), (29, .iload 4, 2, 0, 0), (31, .iload 6, 2, 0, 0), (33, .invokevirtual 71, 3, 84, 3), (36, .ifCond .ne 34, 3, 70, 0), (39, .aload_n 0, 1, 0, 0), (40, .getfield 19, 3, 2, 4), (43, .bipush 8, 2, 8, 0), (45, .bipush 6, 2, 6, 0), (47, .iload 6, 2, 0, 0), (49, .imul, 1, 0, 0), (50, .iadd, 1, 0, 0), (51, .iload_n 1, 1, 0, 0), (52, .iadd, 1, 0, 0), (53, .dup2, 1, 0, 0), (54, .iaload, 1, 0, 0), (55, .iconst 1, 1, 1, 0), (56, .iload 4, 2, 0, 0), (58, .ishl, 1, 0, 0), (59, .ior, 1, 0, 0), (60, .iastore, 1, 0, 0), (61, .aload_n 0, 1, 0, 0), (62, .invokevirtual 74, 3, 75, 0), (65, .ifCond .ne 5, 3, 70, 0), (68, .iconst 0, 1, 0, 0), (69, .ireturn, 1, 0, 0), (70, .aload_n 0, 1, 0, 0), (71, .iload 6, 2, 0, 0), (73, .iload_n 1, 1, 0, 0), (74, .iload_n 3, 1, 0, 0), (75, .invokevirtual 63, 3, 77, 3), (78, .ireturn, 1, 0, 0), (79, .iload 5, 2, 0, 0), (81, .ifCond .eq 22, 3, 103, 0), (84, .aload_n 0, 1, 0, 0), (85, .iload_n 1, 1, 0, 0), (86, .iload 4, 2, 0, 0), (88, .invokevirtual 95, 3, 85, 2), (91, .ifCond .eq 12, 3, 103, 0), (94, .aload_n 0, 1, 0, 0), (95, .iload 6, 2, 0, 0), (97, .iload_n 1, 1, 0, 0), (98, .iload_n 3, 1, 0, 0), (99, .invokevirtual 63, 3, 77, 3), (102, .ireturn, 1, 0, 0), (103, .aload_n 0, 1, 0, 0), (104, .iload_n 1, 1, 0, 0), (105, .iload 4, 2, 0, 0), (107, .invokevirtual 98, 3, 91, 2), (110, .ifCond .ne 19, 3, 129, 0), (113, .aload_n 0, 1, 0, 0), (114, .iload_n 1, 1, 0, 0), (115, .iload 4, 2, 0, 0), (117, .invokevirtual 101, 3, 92, 2), (120, .aload_n 0, 1, 0, 0), (121, .invokevirtual 74, 3, 75, 0), (124, .ifCond .ne 5, 3, 129, 0), (127, .iconst 0, 1, 0, 0), (128, .ireturn, 1, 0, 0), (129, .aload_n 0, 1, 0, 0), (130, .iload 6, 2, 0, 0), (132, .iload_n 1, 1, 0, 0), (133, .iload_n 3, 1, 0, 0), (134, .invokevirtual 63, 3, 77, 3), (137, .ifCond .eq 20, 3, 157, 0), (140, .aload_n 0, 1, 0, 0), (141, .iconst 1, 1, 1, 0), (142, .iload 6, 2, 0, 0), (144, .isub, 1, 0, 0), (145, .iload_n 1, 1, 0, 0), (146, .iload_n 3, 1, 0, 0), (147, .invokevirtual 63, 3, 77, 3), (150, .ifCond .eq 7, 3, 157, 0), (153, .iconst 1, 1, 1, 0), (154, .goto 4, 3, 158, 0), (157, .iconst 0, 1, 0, 0), (158, .ireturn, 1, 0, 0)]
def kT94 : List kRow := [(0, .aload_n 0, 1, 0, 0), (1, .iload_n 1, 1, 0, 0), (2, .iload_n 2, 1, 0, 0), (3, .iload_n 3, 1, 0, 0), (4, .iload 4, 2, 0, 0), (6, .invokevirtual 105, 3, 89, 4), (9, .aload_n 0, 1, 0, 0), (10, .getfield 29, 3, 2, 0), (13, .ifCond .le 4, 3, 17, 0), (16, .return_, 1, 0, 0), (17, .aload_n 0, 1, 0, 0), (18, .aload_n 0, 1, 0, 0), (19, .iload_n 1, 1, 0, 0), (20, .iload_n 2, 1, 0, 0), (21, .invokevirtual 92, 3, 90, 2), (24, .iload_n 1, 1, 0, 0), (25, .iload_n 3, 1, 0, 0), (26, .invokevirtual 59, 3, 78, 3), (29, .aload_n 0, 1, 0, 0), (30, .getfield 26, 3, 2, 9), (33, .iload 4, 2, 0, 0), (35, .iload 5, 2, 0, 0), (37, .iastore, 1, 0, 0), (38, .aload_n 0, 1, 0, 0), (39, .aload_n 0, 1, 0, 0), (40, .iload_n 1, 1, 0, 0), (41, .iload_n 2, 1, 0, 0), (42, .iload_n 3, 1, 0, 0), (43, .invokevirtual 109, 3, 93, 3), (46, .ifCond .eq 7, 3, 53, 0), (49, .iconst 0, 1, 0, 0), (50, .goto 4, 3, 54, 0), (53, .iconst 1, 1, 1, 0), (54, .putfield 29, 3, 2, 0), (57, .return_, 1, 0, 0)]
def kT95 : List kRow := [(0, .aload_n 0, 1, 0, 0), (1, .iload_n 1, 1, 0, 0), (2, .iload_n 2, 1, 0, 0), (3, .iload_n 3, 1, 0, 0), (4, .iconst 0, 1, 0, 0), (5, .invokevirtual 105, 3, 89, 4), (8, .aload_n 0, 1, 0, 0), (9, .getfield 29, 3, 2, 0), (12, .ifCond .le 4, 3, 16, 0), (15, .return_, 1, 0, 0), (16, .aload_n 0, 1, 0, 0), (17, .getfield 26, 3, 2, 9), (20, .iconst 0, 1, 0, 0), (21, .iload 4, 2, 0, 0), (23, .iastore, 1, 0, 0), (24, .aload_n 0, 1, 0, 0), (25, .getfield 26, 3, 2, 9), (28, .iconst 1, 1, 1, 0), (29, .iload 5, 2, 0, 0), (31, .iastore, 1, 0, 0), (32, .aload_n 0, 1, 0, 0), (33, .getfield 26, 3, 2, 9), (36, .iconst 2, 1, 2, 0), (37, .iload 6, 2, 0, 0), (39, .iastore, 1, 0, 0), (40, .aload_n 0, 1, 0, 0), (41, .getfield 26, 3, 2, 9), (44, .iconst 3, 1, 3, 0), (45, .iload 7, 2, 0, 0), (47, .iastore, 1, 0, 0), (48, .aload_n 0, 1, 0, 0), (49, .aload_n 0, 1, 0, 0), (50, .iload_n 1, 1, 0, 0), (51, .iload_n 2, 1, 0, 0), (52, .iload_n 3, 1, 0, 0), (53, .invokevirtual 109, 3, 93, 3), (56, .ifCond .eq 7, 3, 63, 0), (59, .iconst 0, 1, 0, 0), (60, .goto 4, 3, 64, 0), (63, .iconst 1, 1, 1, 0), (64, .putfield 29, 3, 2, 0), (67, .return_, 1, 0, 0)]
def kT96 : List kRow := [(0, .aload_n 0, 1, 0, 0), (1, .iload_n 1, 1, 0, 0), (2, .iload_n 2, 1, 0, 0), (3, .iload_n 3, 1, 0, 0), (4, .iload 4, 2, 0, 0), (6, .invokevirtual 105, 3, 89, 4), (9, .aload_n 0, 1, 0, 0), (10, .getfield 29, 3, 2, 0), (13, .ifCond .le 7, 3, 20, 0), (16, .iconst 0, 1, 0, 0), (17, .goto 22, 3, 39, 0), (20, .aload_n 0, 1, 0, 0), (21, .getfield 7, 3, 2, 1), (24, .aload_n 0, 1, 0, 0), (25, .iload_n 1, 1, 0, 0), (26, .iload_n 2, 1, 0, 0), (27, .invokevirtual 92, 3, 90, 2), (30, .iload_n 1, 1, 0, 0), (31, .iload_n 3, 1, 0, 0), (32, .invokestatic 51, 3, 76, 3), (35, .iload 4, 2, 0, 0), (37, .iadd, 1, 0, 0), (38, .iaload, 1, 0, 0), (39, .ireturn, 1, 0, 0)]
def kT97 : List kRow := [(0, .aload_n 0, 1, 0, 0), (1, .aload_n 0, 1, 0, 0), (2, .getfield 32, 3, 2, 5), (5, .ifCond .eq 7, 3, 12, 0), (8, .iconst 1, 1, 1, 0), (9, .goto 4, 3, 13, 0), (12, .iconst 0, 1, 0, 0), (13, .putfield 29, 3, 2, 0), (16, .aload_n 0, 1, 0, 0), (17, .getfield 32, 3, 2, 5), (20, .ifCond .eq 5, 3, 25, 0), (23, .iconst 0, 1, 0, 0), (24, .ireturn, 1, 0, 0), (25, .iconst 0, 1, 0, 0), (26, .istore_n 1, 1, 0, 0), (27, .iconst 0, 1, 0, 0), (28, .istore_n 2, 1, 0, 0), (29, .iconst 0, 1, 0, 0), (30, .istore_n 3, 1, 0, 0), (31, .iload_n 3, 1, 0, 0), (32, .iconst 4, 1, 4, 0), (33, .if_icmp .ge 62, 3, 95, 0), (36, .aload_n 0, 1, 0, 0), (37, .getfield 19, 3, 2, 4), (40, .bipush 20, 2, 20, 0), (42, .iload_n 3, 1, 0, 0), (43, .iadd, 1, 0, 0), (44, .iaload, 1, 0, 0), (45, .istore 4, 2, 0, 0), (47, .aload_n 0, 1, 0, 0), (48, .getfield 19, 3, 2, 4), (51, .bipush 20, 2, 20, 0), (53, .iload_n 3, 1, 0, 0), (54, .iadd, 1, 0, 0), (55, .iconst (-1), 1, 0, 1), (56, .iastore, 1, 0, 0), (57, .iload 4, 2, 0, 0), (59, .iconst (-1), 1, 0, 1), (60, .if_icmp .eq 29, 3, 89, 0), (63, .aload_n 0, 1, 0, 0), (64, .iload 4, 2, 0, 0), (66, .bipush 8, 2, 8, 0), (68, .idiv, 1, 0, 0), (69, .invokevirtual 84, 3, 81, 1), (72, .ifCond .eq 17, 3, 89, 0), (75, .aload_n 0, 1, 0, 0), (76, .getfield 19, 3, 2, 4), (79, .bipush 20, 2, 20, 0), (81, .iload_n 2, 1, 0, 0), (82, .iadd, 1, 0, 0), (83, .iload 4, 2, 0, 0), (85, .iastore, 1, 0, 0), (86, .iinc 2 1, 3, 1, 0), (89, .iinc 3 1, 3, 1, 0), (92, .goto (-61), 3, 31, 0), (95, .iconst 0, 1, 0, 0), (96, .istore_n 3, 1, 0, 0), (97, .iload_n 3, 1, 0, 0), (98, .aload_n 0, 1, 0, 0), (99, .getfield 19, 3, 2, 4), (102, .iconst 1, 1, 1, 0), (103, .iaload, 1, 0, 0), (104, .if_icmp .ge 49, 3, 153, 0), (107, .aload_n 0, 1, 0, 0), (108, .iload_n 3, 1, 0, 0), (109, .invokevirtual 84, 3, 81, 1), (112, .ifCond .ne 35, 3, 147, 0), (115, .aload_n 0, 1, 0, 0), (116, .getfield 19, 3, 2, 4), (119, .iconst 2, 1, 2, 0), (120, .iload_n 3, 1, 0, 0), (121, .iadd, 1, 0, 0), (122, .iconst 1, 1, 1, 0), (123, .iastore, 1, 0, 0), (124, .aload_n 0, 1, 0, 0), (125, .getfield 19, 3, 2, 4), (128, .bipush 8, 2, 8, 0), (130, .iload_n 3, 1, 0, 0), (131, .iadd, 1, 0, 0), (132, .iconst 0, 1, 0, 0), (133, .iastore, 1, 0, 0), (134, .aload_n 0, 1, 0, 0), (135, .getfield 19, 3, 2, 4), (138, .bipush 14, 2, 14, 0), (140, .iload_n 3, 1, 0, 0), (141, .iadd, 1, 0, 0), (142, .iconst 0, 1, 0, 0), (143, .iastore, 1, 0, 0), (144, .iinc 1 1, 3, 1, 0), (147, .iinc 3 1, 3, 1, 0), (150, .goto (-53), 3, 97, 0), (153, .iload_n 1, 1, 0, 0), (154, .ifCond .eq 10, 3, 164, 0), (157, .aload_n 0, 1, 0, 0), (158, .invokevirtual 74, 3, 75, 0), (161, .ifCond .eq 7, 3, 168, 0), (164, .iload_n 1, 1, 0, 0), (165, .goto 7, 3, 172, 0), (168, .aload_n 0, 1, 0, 0), (169, .invokevirtual 77, 3, 86, 0), (172, .ireturn, 1, 0, 0)]
def kT98 : List kRow := [(0, .aload_n 0, 1, 0, 0), (1, .aload_n 0, 1, 0, 0), (2, .getfield 32, 3, 2, 5), (5, .ifCond .eq 7, 3, 12, 0), (8, .iconst 1, 1, 1, 0), (9, .goto 38, 3, 47, 0), (12, .aload_n 0, 1, 0, 0), (13, .iload_n 1, 1, 0, 0), (14, .invokevirtual 81, 3, 82, 1), (17, .ifCond .eq 12, 3, 29, 0), (20, .iload_n 2, 1, 0, 0), (21, .ifCond .lt 8, 3, 29, 0), (24, .iload_n 2, 1, 0, 0), (25, .iconst 1, 1, 1, 0), (26, .if_icmp .le 7, 3, 33, 0), (29, .iconst 2, 1, 2, 0), (30, .goto 17, 3, 47, 0), (33, .aload_n 0, 1, 0, 0), (34, .iload_n 1, 1, 0, 0), (35, .invokevirtual 84, 3, 81, 1), (38, .iconst 1, 1, 1, 0), (39, .if_icmp .eq 7, 3, 46, 0), (42, .iconst 3, 1, 3, 0), (43, .goto 4, 3, 47, 0), (46, .iconst 0, 1, 0, 0), (47, .putfield 29, 3, 2, 0), (50, .aload_n 0, 1, 0, 0), (51, .getfield 29, 3, 2, 0), (54, .ifCond .ne 30, 3, 84, 0), (57, .aload_n 0, 1, 0, 0), (58, .getfield 19, 3, 2, 4), (61, .iconst 2, 1, 2, 0), (62, .iload_n 1, 1, 0, 0), (63, .iadd, 1, 0, 0), (64, .iconst 2, 1, 2, 0), (65, .iload_n 2, 1, 0, 0), (66, .iadd, 1, 0, 0), (67, .iastore, 1, 0, 0), (68, .aload_n 0, 1, 0, 0), (69, .aload_n 0, 1, 0, 0), (70, .invokevirtual 74, 3, 75, 0), (73, .ifCond .eq 7, 3, 80, 0), (76, .iconst 0, 1, 0, 0), (77, .goto 4, 3, 81, 0), (80, .iconst 1, 1, 1, 0), (81, .putfield 29, 3, 2, 0), (84, .return_, 1, 0, 0)]
def kT99 : List kRow := [(0, .aload_n 0, 1, 0, 0), (1, .aload_n 0, 1, 0, 0), (2, .getfield 32, 3, 2, 5), (5, .ifCond .eq 7, 3, 12, 0), (8, .iconst 1, 1, 1, 0), (9, .goto 29, 3, 38, 0), (12, .aload_n 0, 1, 0, 0), (13, .iload_n 1, 1, 0, 0), (14, .invokevirtual 81, 3, 82, 1), (17, .ifCond .ne 7, 3, 24, 0), (20, .iconst 2, 1, 2, 0), (21, .goto 17, 3, 38, 0), (24, .aload_n 0, 1, 0, 0), (25, .iload_n 1, 1, 0, 0), (26, .invokevirtual 84, 3, 81, 1), (29, .iconst 2, 1, 2, 0), (30, .if_icmp .ge 7, 3, 37, 0), (33, .iconst 3, 1, 3, 0), (34, .goto 4, 3, 38, 0), (37, .iconst 0, 1, 0, 0), (38, .putfield 29, 3, 2, 0), (41, .return_, 1, 0, 0)]
def kT100 : List kRow := [(0, .iconst 0, 1, 0, 0), (1, .istore_n 2, 1, 0, 0), (2, .iconst 0, 1, 0, 0), (3, .istore_n 3, 1, 0, 0), (4, .iload_n 3, 1, 0, 0), (5, .bipush 8, 2, 8, 0), (7, .if_icmp .ge 26, 3, 33, 0), (10, .aload_n 0, 1, 0, 0), (11, .iload_n 1, 1, 0, 0), (12, .iload_n 3, 1, 0, 0), (13, .invokevirtual 95, 3, 85, 2), (16, .ifCond .eq 9, 3, 25, 0), (19, .iload_n 2, 1, 0, 0), (20, .iconst 1, 1, 1, 0), (21, .iadd, 1, 0, 0), (22, .goto 4, 3, 26, 0), (25, .iload_n 2, 1, 0, 0), (26, .istore_n 2, 1, 0, 0), (27, .iinc 3 1, 3, 1, 0), (30, .goto (-26), 3, 4, 0), (33, .iload_n 2, 1, 0, 0), (34, .ireturn, 1, 0, 0)]
def kT101 : List kRow := [(0, .iconst 0, 1, 0, 0), (1, .istore_n 2, 1, 0, 0), (2, .iload_n 2, 1, 0, 0), (3, .bipush 8, 2, 8, 0), (5, .if_icmp .ge 18, 3, 23, 0), (8, .aload_n 0, 1, 0, 0), (9, .iload_n 1, 1, 0, 0), (10, .iload_n 2, 1, 0, 0), (11, .invokevirtual 95, 3, 85, 2), (14, .ifCond .ne 9, 3, 23, 0), (17, .iinc 2 1, 3, 1, 0), (20, .goto (-18), 3, 2, 0), (23, .iload_n 2, 1, 0, 0), (24, .bipush 8, 2, 8, 0), (26, .if_icmp .ge 7, 3, 33, 0), (29, .iconst 1, 1, 1, 0), (30, .goto 4, 3, 34, 0), (33, .iconst 0, 1, 0, 0), (34, .istore_n 3, 1, 0, 0), (35, .iload_n 3, 1, 0, 0), (36, .ifCond .eq 55, 3, 91, 0), (39, .aload_n 0, 1, 0, 0), (40, .iload_n 1, 1, 0, 0), (41, .iload_n 2, 1, 0, 0), (42, .aload_n 0, 1, 0, 0), (43, .iload_n 1, 1, 0, 0), (44, .invokevirtual 84, 3, 81, 1), (47, .iconst 2, 1, 2, 0), (48, .isub, 1, 0, 0), (49, .invokevirtual 112, 3, 80, 3), (52, .ifCond .ne 5, 3, 57, 0), (55, .iconst 0, 1, 0, 0), (56, .ireturn, 1, 0, 0), (57, .aload_n 0, 1, 0, 0), (58, .getfield 19, 3, 2, 4), (61, .bipush 8, 2, 8, 0), (63, .iload_n 1, 1, 0, 0), (64, .iadd, 1, 0, 0), (65, .dup2, 1, 0, 0), (66, .iaload, 1, 0, 0), (67, .iconst 1, 1, 1, 0), (68, .iload_n 2, 1, 0, 0), (69, .ishl, 1, 0, 0), (70, .iconst (-1), 1, 0, 1), (71, .ixor, 1, 0, 0), (72, .iand, 1, 0, 0), (73, .iastore, 1, 0, 0), (74, .aload_n 0, 1, 0, 0), (75, .getfield 19, 3, 2, 4), (78, .bipush 14, 2, 14, 0), (80, .iload_n 1, 1, 0, 0), (81, .iadd, 1, 0, 0), (82, .dup2, 1, 0, 0), (83, .iaload, 1, 0, 0), (84, .iconst 1, 1, 1, 0), (85, .iload_n 2, 1, 0, 0), (86, .ishl, 1, 0, 0), (87, .iconst (-1), 1, 0, 1), (88, .ixor, 1, 0, 0), (89, .iand, 1, 0, 0), (90, .iastore, 1, 0, 0), (91, .aload_n 0, 1, 0, 0), (92, .iload_n 1, 1, 0, 0), (93, .invokevirtual 115, 3, 100, 1), (96, .ifCond .ne 12, 3, 108, 0), (99, .aload_n 0, 1, 0, 0), (100, .getfield 19, 3, 2, 4), (103, .iconst 2, 1, 2, 0), (104, .iload_n 1, 1, 0, 0), (105, .iadd, 1, 0, 0), (106, .iconst 0, 1, 0, 0), (107, .iastore, 1, 0, 0), (108, .aload_n 0, 1, 0, 0), (109, .invokevirtual 74, 3, 75, 0), (112, .istore 4, 2, 0, 0), (114, .aload_n 0, 1, 0, 0), (115, .iload_n 3, 1, 0, 0), (116, .ifCond .eq 17, 3, 133, 0), (119, .iload 4, 2, 0, 0), (121, .ifCond .eq 12, 3, 133, 0), (124, .aload_n 0, 1, 0, 0), (125, .getfield 118, 3, 2, 8), (128, .iconst 1, 1, 1, 0), (129, .iadd, 1, 0, 0), (130, .goto 7, 3, 137, 0), (133, .aload_n 0, 1, 0, 0), (134, .getfield 118, 3, 2, 8), (137, .putfield 118, 3, 2, 8), (140, .iload 4, 2, 0, 0), (142, .ireturn, 1, 0, 0)]
def kT102 : List kRow := [(0, .aload_n 0, 1, 0, 0), (1, .iload_n 1, 1, 0, 0), (2, .invokevirtual 121, 3, 99, 1), (5, .aload_n 0, 1, 0, 0), (6, .getfield 29, 3, 2, 0), (9, .ifCond .le 5, 3, 14, 0), (12, .iconst 0, 1, 0, 0), (13, .ireturn, 1, 0, 0), (14, .aload_n 0, 1, 0, 0), (15, .iload_n 1, 1, 0, 0), (16, .invokevirtual 125, 3, 101, 1), (19, .ifCond .eq 11, 3, 30, 0), (22, .aload_n 0, 1, 0, 0), (23, .iload_n 1, 1, 0, 0), (24, .invokevirtual 115, 3, 100, 1), (27, .goto 7, 3, 34, 0), (30, .aload_n 0, 1, 0, 0), (31, .invokevirtual 77, 3, 86, 0), (34, .ireturn, 1, 0, 0)]
def kT103 : List kRow := [(0, .aload_n 0, 1, 0, 0), (1, .iload_n 1, 1, 0, 0), (2, .invokevirtual 121, 3, 99, 1), (5, .aload_n 0, 1, 0, 0), (6, .getfield 29, 3, 2, 0), (9, .ifCond .le 5, 3, 14, 0), (12, .iconst 0, 1, 0, 0), (13, .ireturn, 1, 0, 0), (14, .iconst 0, 1, 0, 0), (15, .istore_n 2, 1, 0, 0), (16, .aload_n 0, 1, 0, 0), (17, .iload_n 1, 1, 0, 0), (18, .invokevirtual 84, 3, 81, 1), (21, .ifCond .eq 22, 3, 43, 0), (24, .aload_n 0, 1, 0, 0), (25, .iload_n 1, 1, 0, 0), (26, .invokevirtual 125, 3, 101, 1), (29, .ifCond .ne 8, 3, 37, 0), (32, .aload_n 0, 1, 0, 0), (33, .invokevirtual 77, 3, 86, 0), (36, .ireturn, 1, 0, 0), (37, .iinc 2 1, 3, 1, 0), (40, .goto (-24), 3, 16, 0), (43, .iload_n 2, 1, 0, 0), (44, .ireturn, 1, 0, 0)]
def kT104 : List kRow := [(0, .aload_n 0, 1, 0, 0), (1, .iconst 0, 1, 0, 0), (2, .putfield 29, 3, 2, 0), (5, .aload_n 0, 1, 0, 0), (6, .getfield 32, 3, 2, 5), (9, .ifCond .ne 19, 3, 28, 0), (12, .aload_n 0, 1, 0, 0), (13, .iload_n 1, 1, 0, 0), (14, .invokevirtual 81, 3, 82, 1), (17, .ifCond .eq 11, 3, 28, 0), (20, .aload_n 0, 1, 0, 0), (21, .iload_n 1, 1, 0, 0), (22, .invokevirtual 84, 3, 81, 1), (25, .goto 4, 3, 29, 0), (28, .iconst (-1), 1, 0, 1), (29, .ireturn, 1, 0, 0)]
def kT105 : List kRow := [(0, .aload_n 0, 1, 0, 0), (1, .iconst 0, 1, 0, 0), (2, .putfield 29, 3, 2, 0), (5, .aload_n 0, 1, 0, 0), (6, .getfield 32, 3, 2, 5), (9, .ifCond .ne 29, 3, 38, 0), (12, .aload_n 0, 1, 0, 0), (13, .iload_n 1, 1, 0, 0), (14, .invokevirtual 81, 3, 82, 1), (17, .ifCond .eq 21, 3, 38, 0), (20, .iload_n 2, 1, 0, 0), (21, .ifCond .eq 8, 3, 29, 0), (24, .iload_n 2, 1, 0, 0), (25, .iconst 1, 1, 1, 0), (26, .if_icmp .ne 12, 3, 38, 0), (29, .aload_n 0, 1, 0, 0), (30, .iload_n 1, 1, 0, 0), (31, .iload_n 2, 1, 0, 0), (32, .invokevirtual 67, 3, 83, 2), (35, .goto 4, 3, 39, 0), (38, .iconst (-1), 1, 0, 1), (39, .ireturn, 1, 0, 0)]
def kT106 : List kRow := [(0, .aload_n 0, 1, 0, 0), (1, .iconst 0, 1, 0, 0), (2, .putfield 29, 3, 2, 0), (5, .aload_n 0, 1, 0, 0), (6, .getfield 32, 3, 2, 5), (9, .ifCond .ne 24, 3, 33, 0), (12, .iload_n 1, 1, 0, 0), (13, .ifCond .lt 20, 3, 33, 0), (16, .iload_n 1, 1, 0, 0), (17, .iconst 4, 1, 4, 0), (18, .if_icmp .ge 15, 3, 33, 0), (21, .aload_n 0, 1, 0, 0), (22, .getfield 19, 3, 2, 4), (25, .bipush 20, 2, 20, 0), (27, .iload_n 1, 1, 0, 0), (28, .iadd, 1, 0, 0), (29, .iaload, 1, 0, 0), (30, .goto 4, 3, 34, 0), (33, .iconst (-1), 1, 0, 1), (34, .ireturn, 1, 0, 0)]
def kT107 : List kRow := [(0, .aload_n 0, 1, 0, 0), (1, .iconst 0, 1, 0, 0), (2, .putfield 29, 3, 2, 0), (5, .aload_n 0, 1, 0, 0), (6, .getfield 32, 3, 2, 5), (9, .ifCond .eq 7, 3, 16, 0), (12, .iconst (-1), 1, 0, 1), (13, .goto 9, 3, 22, 0), (16, .aload_n 0, 1, 0, 0), (17, .getfield 19, 3, 2, 4), (20, .iconst 1, 1, 1, 0), (21, .iaload, 1, 0, 0), (22, .ireturn, 1, 0, 0)]
def kT108 : List kRow := [(0, .aload_n 0, 1, 0, 0), (1, .iload_n 1, 1, 0, 0), (2, .ifCond .lt 9, 3, 11, 0), (5, .iload_n 1, 1, 0, 0), (6, .bipush 6, 2, 6, 0), (8, .if_icmp .lt 7, 3, 15, 0), (11, .iconst 1, 1, 1, 0), (12, .goto 4, 3, 16, 0), (15, .iconst 0, 1, 0, 0), (16, .putfield 29, 3, 2, 0), (19, .iconst 0, 1, 0, 0), (20, .istore_n 2, 1, 0, 0), (21, .iconst 0, 1, 0, 0), (22, .istore_n 3, 1, 0, 0), (23, .iload_n 3, 1, 0, 0), (24, .bipush 64, 2, 64, 0), (26, .if_icmp .ge 33, 3, 59, 0), (29, .aload_n 0, 1, 0, 0), (30, .getfield 29, 3, 2, 0), (33, .ifCond .ne 26, 3, 59, 0), (36, .aload_n 0, 1, 0, 0), (37, .iload_n 1, 1, 0, 0), (38, .iload_n 3, 1, 0, 0), (39, .invokevirtual 55, 3, 79, 2), (42, .ifCond .eq 7, 3, 49, 0), (45, .iload_n 2, 1, 0, 0), (46, .goto 6, 3, 52, 0), (49, .iload_n 2, 1, 0, 0), (50, .iconst 1, 1, 1, 0), (51, .iadd, 1, 0, 0), (52, .istore_n 2, 1, 0, 0), (53, .iinc 3 1, 3, 1, 0), (56, .goto (-33), 3, 23, 0), (59, .iload_n 2, 1, 0, 0), (60, .ireturn, 1, 0, 0)]
def kT109 : List kRow := [(0, .aload_n 0, 1, 0, 0), (1, .iload_n 1, 1, 0, 0), (2, .ifCond .lt 39, 3, 41, 0), (5, .iload_n 1, 1, 0, 0), (6, .bipush 6, 2, 6, 0), (8, .if_icmp .ge 33, 3, 41, 0), (11, .iload_n 2, 1, 0, 0), (12, .ifCond .lt 29, 3, 41, 0), (15, .iload_n 2, 1, 0, 0), (16, .iconst 1, 1, 1, 0), (17, .if_icmp .gt 24, 3, 41, 0), (20, .iload_n 3, 1, 0, 0), (21, .ifCond .lt 20, 3, 41, 0), (24, .iload_n 3, 1, 0, 0), (25, .bipush 64, 2, 64, 0), (27, .if_icmp .ge 14, 3, 41, 0), (30, .iload 4, 2, 0, 0), (32, .ifCond .lt 9, 3, 41, 0), (35, .iload 4, 2, 0, 0), (37, .iconst 4, 1, 4, 0), (38, .if_icmp .lt 7, 3, 45, 0), (41, .iconst 1, 1, 1, 0), (42, .goto 4, 3, 46, 0), (45, .iconst 0, 1, 0, 0), (46, .putfield 29, 3, 2, 0), (49, .aload_n 0, 1, 0, 0), (50, .getfield 29, 3, 2, 0), (53, .ifCond .le 7, 3, 60, 0), (56, .iconst 0, 1, 0, 0), (57, .goto 17, 3, 74, 0), (60, .aload_n 0, 1, 0, 0), (61, .getfield 7, 3, 2, 1), (64, .iload_n 2, 1, 0, 0), (65, .iload_n 1, 1, 0, 0), (66, .iload_n 3, 1, 0, 0), (67, .invokestatic 51, 3, 76, 3), (70, .iload 4, 2, 0, 0), (72, .iadd, 1, 0, 0), (73, .iaload, 1, 0, 0), (74, .ireturn, 1, 0, 0)]
def kT110 : List kRow := [(0, .aload_n 0, 1, 0, 0), (1, .iload_n 1, 1, 0, 0), (2, .ifCond .lt 18, 3, 20, 0), (5, .iload_n 1, 1, 0, 0), (6, .iconst 1, 1, 1, 0), (7, .if_icmp .gt 13, 3, 20, 0), (10, .iload_n 2, 1, 0, 0), (11, .ifCond .lt 9, 3, 20, 0), (14, .iload_n 2, 1, 0, 0), (15, .bipush 24, 2, 24, 0), (17, .if_icmp .lt 7, 3, 24, 0), (20, .iconst 1, 1, 1, 0), (21, .goto 4, 3, 25, 0), (24, .iconst 0, 1, 0, 0), (25, .putfield 29, 3, 2, 0), (28, .aload_n 0, 1, 0, 0), (29, .getfield 29, 3, 2, 0), (32, .ifCond .le 5, 3, 37, 0), (35, .iconst 0, 1, 0, 0), (36, .ireturn, 1, 0, 0), (37, .iload_n 2, 1, 0, 0), (38, .iconst 2, 1, 2, 0), (39, .if_icmp .lt 13, 3, 52, 0), (42, .iload_n 2, 1, 0, 0), (43, .bipush 20, 2, 20, 0), (45, .if_icmp .ge 7, 3, 52, 0), (48, .iconst 1, 1, 1, 0), (49, .goto 4, 3, 53, 0), (52, .iconst 0, 1, 0, 0), (53, .istore_n 3, 1, 0, 0), (54, .iload_n 1, 1, 0, 0), (55, .ifCond .ne 12, 3, 67, 0), (58, .aload_n 0, 1, 0, 0), (59, .getfield 13, 3, 2, 2), (62, .iconst 1, 1, 1, 0), (63, .iaload, 1, 0, 0), (64, .goto 9, 3, 73, 0), (67, .aload_n 0, 1, 0, 0), (68, .getfield 16, 3, 2, 3), (71, .iconst 1, 1, 1, 0), (72, .iaload, 1, 0, 0), (73, .istore 4, 2, 0, 0), (75, .iload_n 1, 1, 0, 0), (76, .ifCond .ne 12, 3, 88, 0), (79, .aload_n 0, 1, 0, 0), (80, .getfield 13, 3, 2, 2), (83, .iload_n 2, 1, 0, 0), (84, .iaload, 1, 0, 0), (85, .goto 9, 3, 94, 0), (88, .aload_n 0, 1, 0, 0), (89, .getfield 16, 3, 2, 3), (92, .iload_n 2, 1, 0, 0), (93, .iaload, 1, 0, 0), (94, .istore 5, 2, 0, 0), (96, .iload_n 3, 1, 0, 0), (97, .ifCond .eq 18, 3, 115, 0), (100, .iload_n 2, 1, 0, 0), (101, .iconst 2, 1, 2, 0), (102, .isub, 1, 0, 0), (103, .bipush 6, 2, 6, 0), (105, .irem, 1, 0, 0), (106, .iload 4, 2, 0, 0), (108, .if_icmp .lt 7, 3, 115, 0), (111, .iconst (-1), 1, 0, 1), (112, .goto 5, 3, 117, 0), (115, .iload 5, 2, 0, 0), (117, .ireturn, 1, 0, 0)]
def kT111 : List kRow := [(0, .aload_n 0, 1, 0, 0), (1, .iconst 0, 1, 0, 0), (2, .putfield 29, 3, 2, 0), (5, .aload_n 0, 1, 0, 0), (6, .getfield 118, 3, 2, 8), (9, .ireturn, 1, 0, 0)]
def kT112 : List kRow := [(0, .aload_n 0, 1, 0, 0), (1, .iconst 0, 1, 0, 0), (2, .putfield 29, 3, 2, 0), (5, .aload_n 0, 1, 0, 0), (6, .getfield 36, 3, 2, 7), (9, .ireturn, 1, 0, 0)]
def kT113 : List kRow := [(0, .aload_n 0, 1, 0, 0), (1, .iconst 0, 1, 0, 0), (2, .putfield 29, 3, 2, 0), (5, .aload_n 0, 1, 0, 0), (6, .getfield 32, 3, 2, 5), (9, .ifCond .eq 7, 3, 16, 0), (12, .iconst 0, 1, 0, 0), (13, .goto 4, 3, 17, 0), (16, .iconst 1, 1, 1, 0), (17, .ireturn, 1, 0, 0)]
def kT114 : List kRow := [(0, .aload_n 0, 1, 0, 0), (1, .iload_n 1, 1, 0, 0), (2, .iconst (-1), 1, 0, 1), (3, .if_icmp .lt 9, 3, 12, 0), (6, .iload_n 1, 1, 0, 0), (7, .ldc 128, 2, 1000000, 0), (9, .if_icmp .le 7, 3, 16, 0), (12, .iconst 1, 1, 1, 0), (13, .goto 4, 3, 17, 0), (16, .iconst 0, 1, 0, 0), (17, .putfield 29, 3, 2, 0), (20, .aload_n 0, 1, 0, 0), (21, .aload_n 0, 1, 0, 0), (22, .getfield 29, 3, 2, 0), (25, .ifCond .le 10, 3, 35, 0), (28, .aload_n 0, 1, 0, 0), (29, .getfield 22, 3, 2, 6), (32, .goto 4, 3, 36, 0), (35, .iload_n 1, 1, 0, 0), (36, .putfield 22, 3, 2, 6), (39, .return_, 1, 0, 0)]
def kT115 : List kRow := [(0, .aload_n 0, 1, 0, 0), (1, .getfield 16, 3, 2, 3), (4, .iconst 0, 1, 0, 0), (5, .iaload, 1, 0, 0), (6, .aload_n 0, 1, 0, 0), (7, .getfield 13, 3, 2, 2), (10, .iconst 0, 1, 0, 0), (11, .iaload, 1, 0, 0), (12, .if_icmp .le 10, 3, 22, 0), (15, .aload_n 0, 1, 0, 0), (16, .getfield 16, 3, 2, 3), (19, .goto 7, 3, 26, 0), (22, .aload_n 0, 1, 0, 0), (23, .getfield 13, 3, 2, 2), (26, .astore_n 1, 1, 0, 0), (27, .aload_n 0, 1, 0, 0), (28, .getfield 13, 3, 2, 2), (31, .iconst 0, 1, 0, 0), (32, .iaload, 1, 0, 0), (33, .aload_n 0, 1, 0, 0), (34, .getfield 16, 3, 2, 3), (37, .iconst 0, 1, 0, 0), (38, .iaload, 1, 0, 0), (39, .if_icmp .ne 7, 3, 46, 0), (42, .iconst 1, 1, 1, 0), (43, .goto 4, 3, 47, 0), (46, .iconst 0, 1, 0, 0), (47, .istore_n 2, 1, 0, 0), (48, .aload_n 1, 1, 0, 0), (49, .aload_n 0, 1, 0, 0), (50, .getfield 19, 3, 2, 4), (53, .invokestatic 43, 3, 73, 2), (56, .iload_n 2, 1, 0, 0), (57, .ifCond .ne 25, 3, 82, 0), (60, .aload_n 0, 1, 0, 0), (61, .aload_n 1, 1, 0, 0), (62, .aload_n 0, 1, 0, 0), (63, .getfield 13, 3, 2, 2), (66, .if_acmp .ne 7, 3, 73, 0), (69, .iconst 1, 1, 1, 0), (70, .goto 4, 3, 74, 0), (73, .iconst 0, 1, 0, 0), (74, .invokevirtual 47, 3, 74, 1), (77, .ifCond .ne 5, 3, 82, 0), (80, .iconst 0, 1, 0, 0), (81, .ireturn, 1, 0, 0), (82, .iconst 0, 1, 0, 0), (83, .istore_n 3, 1, 0, 0), (84, .bipush 20, 2, 20, 0), (86, .istore 4, 2, 0, 0), (88, .iload 4, 2, 0, 0), (90, .bipush 24, 2, 24, 0), (92, .if_icmp .ge 105, 3, 197, 0), (95, .aload_n 0, 1, 0, 0), (96, .getfield 19, 3, 2, 4), (99, .iload 4, 2, 0, 0), (101, .iaload, 1, 0, 0), (102, .istore 5, 2, 0, 0), (104, .iload 5, 2, 0, 0), (106, .iconst (-1), 1, 0, 1), (107, .if_icmp .ne 6, 3, 113, 0), (110, .goto 81, 3, 191, 0), (113, .iconst 1, 1, 1, 0), (114, .istore_n 3, 1, 0, 0), (115, .iload 5, 2, 0, 0), (117, .bipush 8, 2, 8, 0), (119, .idiv, 1, 0, 0), (120, .istore 6, 2, 0, 0), (122, .iload 5, 2, 0, 0), (124, .bipush 8, 2, 8, 0), (126, .irem, 1, 0, 0), (127, .istore 7, 2, 0, 0), (129, .aload_n 0, 1, 0, 0), (130, .iload 6, 2, 0, 0), (132, .invokevirtual 84, 3, 81, 1), (135, .ifCond .eq 24, 3, 159, 0), (138, .aload_n 0, 1, 0, 0), (139, .iload 6, 2, 0, 0), (141, .invokevirtual 84, 3, 81, 1), (144, .iconst 2, 1, 2, 0), (145, .if_icmp .lt 18, 3, 163, 0), (148, .aload_n 0, 1, 0, 0), (149, .iload 6, 2, 0, 0), (151, .iload 7, 2, 0, 0), (153, .invokevirtual 95, 3, 85, 2), (156, .ifCond .ne 7, 3, 163, 0), (159, .iconst 1, 1, 1, 0), (160, .goto 4, 3, 164, 0), (163, .iconst 0, 1, 0, 0), (164, .istore 8, 2, 0, 0), (166, .iload 8, 2, 0, 0), (168, .ifCond .eq 23, 3, 191, 0), (171, .aload_n 0, 1, 0, 0), (172, .iload 6, 2, 0, 0), (174, .iload 7, 2, 0, 0), (176, .aload_n 0, 1, 0, 0), (177, .iload 6, 2, 0, 0), (179, .iconst 0, 1, 0, 0), (180, .invokevirtual 92, 3, 90, 2), (183, .invokevirtual 112, 3, 80, 3), (186, .ifCond .ne 5, 3, 191, 0), (189, .iconst 0, 1, 0, 0), (190, .ireturn, 1, 0, 0), (191, .iinc 4 1, 3, 1, 0), (194, .goto (-106), 3, 88, 0), (197, .bipush 20, 2, 20, 0), (199, .istore 4, 2, 0, 0), (201, .iload 4, 2, 0, 0), (203, .bipush 24, 2, 24, 0), (205, .if_icmp .ge 17, 3, 222, 0), (208, .aload_n 0, 1, 0, 0), (209, .getfield 19, 3, 2, 4), (212, .iload 4, 2, 0, 0), (214, .iconst (-1), 1, 0, 1), (215, .iastore, 1, 0, 0), (216, .iinc 4 1, 3, 1, 0), (219, .goto (-18), 3, 201, 0), (222, .iload_n 3, 1, 0, 0), (223, .ifCond .eq 10, 3, 233, 0), (226, .aload_n 0, 1, 0, 0), (227, .invokevirtual 74, 3, 75, 0), (230, .ifCond .eq 7, 3, 237, 0), (233, .iconst 1, 1, 1, 0), (234, .goto 4, 3, 238, 0), (237, .iconst 0, 1, 0, 0), (238, .ireturn, 1, 0, 0)]
def kT116 : List kRow := [(0, .aload_n 0, 1, 0, 0), (1, .iconst 0, 1, 0, 0), (2, .putfield 29, 3, 2, 0), (5, .aload_n 0, 1, 0, 0), (6, .iconst 0, 1, 0, 0), (7, .putfield 32, 3, 2, 5), (10, .aload_n 0, 1, 0, 0), (11, .iconst 0, 1, 0, 0), (12, .putfield 118, 3, 2, 8), (15, .aload_n 0, 1, 0, 0), (16, .invokevirtual 129, 3, 115, 0), (19, .ifCond .eq 12, 3, 31, 0), (22, .aload_n 0, 1, 0, 0), (23, .getfield 19, 3, 2, 4), (26, .iconst 1, 1, 1, 0), (27, .iaload, 1, 0, 0), (28, .goto 7, 3, 35, 0), (31, .aload_n 0, 1, 0, 0), (32, .invokevirtual 77, 3, 86, 0), (35, .ireturn, 1, 0, 0)]
def kT117 : List kRow := [(0, .iload_n 0, 1, 0, 0), (1, .iload_n 0, 1, 0, 0), (2, .iconst 1, 1, 1, 0), (3, .iushr, 1, 0, 0), (4, .ldc_w 265, 3, 1431655765, 0), (7, .iand, 1, 0, 0), (8, .isub, 1, 0, 0), (9, .istore_n 0, 1, 0, 0), (10, .iload_n 0, 1, 0, 0), (11, .ldc_w 266, 3, 858993459, 0), (14, .iand, 1, 0, 0), (15, .iload_n 0, 1, 0, 0), (16, .iconst 2, 1, 2, 0), (17, .iushr, 1, 0, 0), (18, .ldc_w 266, 3, 858993459, 0), (21, .iand, 1, 0, 0), (22, .iadd, 1, 0, 0), (23, .istore_n 0, 1, 0, 0), (24, .iload_n 0, 1, 0, 0), (25, .iload_n 0, 1, 0, 0), (26, .iconst 4, 1, 4, 0), (27, .iushr, 1, 0, 0), (28, .iadd, 1, 0, 0), (29, .ldc_w 267, 3, 252645135, 0), (32, .iand, 1, 0, 0), (33, .istore_n 0, 1, 0, 0), (34, .iload_n 0, 1, 0, 0), (35, .iload_n 0, 1, 0, 0), (36, .bipush 8, 2, 8, 0), (38, .iushr, 1, 0, 0), (39, .iadd, 1, 0, 0), (40, .istore_n 0, 1, 0, 0), (41, .iload_n 0, 1, 0, 0), (42, .iload_n 0, 1, 0, 0), (43, .bipush 16, 2, 16, 0), (45, .iushr, 1, 0, 0), (46, .iadd, 1, 0, 0), (47, .istore_n 0, 1, 0, 0), (48, .iload_n 0, 1, 0, 0), (49, .bipush 63, 2, 63, 0), (51, .iand, 1, 0, 0), (52, .ireturn, 1, 0, 0)]
def kTc_0 : List (ByteArray × List kRow) := [(cX0_takeFrom, kT0), (cX0_itemAt, kT1), (cX0_number, kT2), (cX0_countUp, kT3), (cX0_volumeCount, kT4), (cX0_addVolume, kT5), (cX0_stateOf, kT6), (cX0_setState, kT7), (cX0_mapOf, kT8), (cX0_marksOf, kT9), (cX0_isMarked, kT10), (cX0_lowestMarked, kT11), (cX0_mark, kT12), (cX0_clearRegion, kT13), (cX0_clearMaps, kT14), (cX0_mapAt, kT15), (cX0_placeAt, kT16), (cX0_isInWindow, kT17), (cX0_enterWindow, kT18), (cX0_windowSize, kT19)]
def kTc_1 : List (ByteArray × List kRow) := [(cX0_leaveWindow, kT20), (cX0_emptyWindow, kT21), (cX1_makeVolume, kT22), (cX1_write, kT23), (cX1_fill, kT24), (cX1_read, kT25), (cX1_split, kT26), (cX1_rejoin, kT27), (cX1_step, kT28), (cX1_run, kT29), (cX1_state, kT30), (cX1_marked, kT31), (cX1_windowed, kT32), (cX1_volumes, kT33), (cX1_differing, kT34), (cX1_raw, kT35), (cX1_head, kT36), (cX1_copied, kT37), (cX1_writes, kT38), (cX1_power, kT39)]
def kTc_2 : List (ByteArray × List kRow) := [(cX1_cutAfter, kT40), (cX1_start, kT41), (cX1_requirePower, kT42), (cX1_requireVolume, kT43), (cX1_requireRoomOf, kT44), (cX1_requireSide, kT45), (cX1_requireBlockNumber, kT46), (cX1_requireWord, kT47), (cX1_requireBlock, kT48), (cX1_requireRejoining, kT49), (cX1_isVolume, kT50), (cX1_isRejoining, kT51), (cX1_isSide, kT52), (cX1_blockAt, kT53), (cX1_otherSide, kT54), (cX1_headerOn, kT55), (cX1_sideInUse, kT56), (cX1_isSameOnBothSides, kT57), (cX1_spendWrite, kT58), (cX1_writeHeader, kT59)]
def kTc_3 : List (ByteArray × List kRow) := [(cX1_writeHeaderOn, kT60), (cX1_writeFresh, kT61), (cX1_writeFromSide, kT62), (cX1_putFresh, kT63), (cX1_markBeforeWrite, kT64), (cX1_enterBeforeWrite, kT65), (cX1_copyNextRegion, kT66), (cX1_makeSame, kT67), (cX1_takeNewerHeader, kT68), (cX1_mendWindow, kT69), (cX1_mendRegion, kT70), (cX2_thrown, kT71), (cX2_isDone, kT72), (cX2_copy, kT73), (cX2_writeHeader, kT74), (cX2_next, kT75), (cX2_place, kT76), (cX2_writeBlock, kT77), (cX2_take, kT78), (cX2_isSame, kT79)]
def kTc_4 : List (ByteArray × List kRow) := [(cX2_copyRegion, kT80), (cX2_stateOf, kT81), (cX2_isVolume, kT82), (cX2_map, kT83), (cX2_isMarked, kT84), (cX2_isOpen, kT85), (cX2_fail, kT86), (cX2_makeVolume, kT87), (cX2_isPlace, kT88), (cX2_ask, kT89), (cX2_sideOf, kT90), (cX2_isWindowed, kT91), (cX2_enter, kT92), (cX2_put, kT93), (cX2_write, kT94), (cX2_fill, kT95), (cX2_read, kT96), (cX2_split, kT97), (cX2_rejoin, kT98), (cX2_askStep, kT99)]
def kTc_5 : List (ByteArray × List kRow) := [(cX2_marks, kT100), (cX2_goStep, kT101), (cX2_step, kT102), (cX2_run, kT103), (cX2_state, kT104), (cX2_marked, kT105), (cX2_windowed, kT106), (cX2_volumes, kT107), (cX2_differing, kT108), (cX2_raw, kT109), (cX2_head, kT110), (cX2_copied, kT111), (cX2_writes, kT112), (cX2_power, kT113), (cX2_cutAfter, kT114), (cX2_goOn, kT115), (cX2_start, kT116), (cJ6_bitCount_0f7a4, kT117)]
def kTc : List (ByteArray × List kRow) := kTc_0 ++ (kTc_1 ++ (kTc_2 ++ (kTc_3 ++ (kTc_4 ++ (kTc_5)))))
def kMs_0 : List (MethodName × Nat × Option FieldType × Nat × Nat) := [(yX0_takeFrom, 2, none, 0, 1), (yX0_itemAt, 2, (some .int), 0, 1), (yX0_number, 1, (some .int), 0, 0), (yX0_countUp, 1, none, 0, 0), (yX0_volumeCount, 1, (some .int), 0, 0), (yX0_addVolume, 2, (some .int), 0, 0), (yX0_stateOf, 2, (some .int), 0, 1), (yX0_setState, 3, none, 0, 2), (yX0_mapOf, 3, (some .int), 0, 2), (yX0_marksOf, 2, (some .int), 0, 1), (yX0_isMarked, 3, (some .boolean), 0, 2), (yX0_lowestMarked, 3, (some .int), 0, 1), (yX0_mark, 4, none, 0, 3), (yX0_clearRegion, 3, none, 0, 2), (yX0_clearMaps, 2, none, 0, 1), (yX0_mapAt, 2, (some .int), 0, 2), (yX0_placeAt, 2, (some .int), 0, 1), (yX0_isInWindow, 3, (some .boolean), 0, 1), (yX0_enterWindow, 3, none, 0, 1), (yX0_windowSize, 2, (some .int), 0, 0)]
def kMs_1 : List (MethodName × Nat × Option FieldType × Nat × Nat) := [(yX0_leaveWindow, 5, none, 0, 1), (yX0_emptyWindow, 2, none, 0, 0), (yX1_makeVolume, 2, (some .int), 1, 0), (yX1_write, 7, none, 1, 5), (yX1_fill, 8, none, 1, 7), (yX1_read, 5, (some .int), 1, 4), (yX1_split, 4, (some .int), 1, 0), (yX1_rejoin, 3, none, 1, 2), (yX1_step, 2, (some .int), 1, 1), (yX1_run, 3, (some .int), 1, 1), (yX1_state, 2, (some .int), 1, 1), (yX1_marked, 3, (some .int), 1, 2), (yX1_windowed, 2, (some .int), 1, 1), (yX1_volumes, 1, (some .int), 1, 0), (yX1_differing, 4, (some .int), 1, 1), (yX1_raw, 5, (some .int), 1, 4), (yX1_head, 3, (some .int), 1, 2), (yX1_copied, 1, (some .int), 1, 0), (yX1_writes, 1, (some .int), 1, 0), (yX1_power, 1, (some .int), 1, 0)]
def kMs_2 : List (MethodName × Nat × Option FieldType × Nat × Nat) := [(yX1_cutAfter, 2, none, 1, 1), (yX1_start, 1, (some .int), 1, 0), (yX1_requirePower, 1, none, 1, 0), (yX1_requireVolume, 2, none, 1, 1), (yX1_requireRoomOf, 2, none, 1, 1), (yX1_requireSide, 2, none, 1, 1), (yX1_requireBlockNumber, 2, none, 1, 1), (yX1_requireWord, 2, none, 1, 1), (yX1_requireBlock, 4, none, 1, 3), (yX1_requireRejoining, 2, none, 1, 1), (yX1_isVolume, 2, (some .boolean), 1, 1), (yX1_isRejoining, 2, (some .boolean), 1, 1), (yX1_isSide, 1, (some .boolean), 1, 1), (yX1_blockAt, 3, (some .int), 1, 3), (yX1_otherSide, 1, (some .int), 1, 1), (yX1_headerOn, 2, (some (.object "MirrorGroup$Header")), 1, 1), (yX1_sideInUse, 4, (some .int), 1, 2), (yX1_isSameOnBothSides, 6, (some .boolean), 1, 2), (yX1_spendWrite, 1, none, 1, 0), (yX1_writeHeader, 1, none, 1, 0)]
def kMs_3 : List (MethodName × Nat × Option FieldType × Nat × Nat) := [(yX1_writeHeaderOn, 2, none, 1, 1), (yX1_writeFresh, 4, none, 1, 3), (yX1_writeFromSide, 4, none, 1, 3), (yX1_putFresh, 5, none, 1, 3), (yX1_markBeforeWrite, 4, none, 1, 3), (yX1_enterBeforeWrite, 4, none, 1, 2), (yX1_copyNextRegion, 4, none, 1, 1), (yX1_makeSame, 6, none, 1, 2), (yX1_takeNewerHeader, 4, none, 1, 0), (yX1_mendWindow, 3, none, 1, 0), (yX1_mendRegion, 3, none, 1, 2), (yX2_thrown, 1, (some .int), 2, 0), (yX2_isDone, 1, (some .boolean), 2, 0), (yX2_copy, 3, none, 2, 2), (yX2_writeHeader, 3, (some .boolean), 2, 1), (yX2_next, 1, (some .boolean), 2, 0), (yX2_place, 3, (some .int), 2, 3), (yX2_writeBlock, 6, (some .boolean), 2, 3), (yX2_take, 5, none, 2, 3), (yX2_isSame, 5, (some .boolean), 2, 2)]
def kMs_4 : List (MethodName × Nat × Option FieldType × Nat × Nat) := [(yX2_copyRegion, 6, (some .boolean), 2, 3), (yX2_stateOf, 2, (some .int), 2, 1), (yX2_isVolume, 2, (some .boolean), 2, 1), (yX2_map, 3, (some .int), 2, 2), (yX2_isMarked, 4, (some .boolean), 2, 3), (yX2_isOpen, 3, (some .boolean), 2, 2), (yX2_fail, 1, (some .int), 2, 0), (yX2_makeVolume, 2, (some .int), 2, 0), (yX2_isPlace, 5, (some .boolean), 2, 4), (yX2_ask, 5, none, 2, 4), (yX2_sideOf, 4, (some .int), 2, 2), (yX2_isWindowed, 5, (some .boolean), 2, 2), (yX2_enter, 5, none, 2, 2), (yX2_put, 7, (some .boolean), 2, 3), (yX2_write, 6, none, 2, 5), (yX2_fill, 8, none, 2, 7), (yX2_read, 5, (some .int), 2, 4), (yX2_split, 5, (some .int), 2, 0), (yX2_rejoin, 3, none, 2, 2), (yX2_askStep, 2, none, 2, 1)]
def kMs_5 : List (MethodName × Nat × Option FieldType × Nat × Nat) := [(yX2_marks, 4, (some .int), 2, 1), (yX2_goStep, 5, (some .boolean), 2, 1), (yX2_step, 2, (some .int), 2, 1), (yX2_run, 3, (some .int), 2, 1), (yX2_state, 2, (some .int), 2, 1), (yX2_marked, 3, (some .int), 2, 2), (yX2_windowed, 2, (some .int), 2, 1), (yX2_volumes, 1, (some .int), 2, 0), (yX2_differing, 4, (some .int), 2, 1), (yX2_raw, 5, (some .int), 2, 4), (yX2_head, 6, (some .int), 2, 2), (yX2_copied, 1, (some .int), 2, 0), (yX2_writes, 1, (some .int), 2, 0), (yX2_power, 1, (some .int), 2, 0), (yX2_cutAfter, 2, none, 2, 1), (yX2_goOn, 9, (some .boolean), 2, 0), (yX2_start, 1, (some .int), 2, 0), (yJ6_bitCount_0f7a4, 1, (some .int), 6, 1)]
def kMs : List (MethodName × Nat × Option FieldType × Nat × Nat) := kMs_0 ++ (kMs_1 ++ (kMs_2 ++ (kMs_3 ++ (kMs_4 ++ (kMs_5)))))
def kPl : List Nat := [282, 522, 562, 265, 122, 249, 126, 253, 137, 364, 360, 460, 352, 477, 257, 140, 148, 373, 378, 382, 412, 574, 172, 293, 392, 399, 406, 420, 443, 491, 114, 130, 144, 152, 498, 510, 517, 156, 160, 164, 530, 554, 176, 301, 502, 321, 326, 331, 297, 447, 118, 451, 133, 339, 385, 278, 336, 469, 273, 261, 269, 356, 473, 344, 348, 369, 456, 465, 558, 566, 570, 615, 631, 634, 627, 623, 669, 685, 666, 733, 729, 658, 654, 681, 677, 689, 638, 619, 650, 646, 662, 693, 697, 673, 642, 701, 705, 709, 713, 721, 737, 725, 717, 741, 745, 749, 753, 757, 761, 765, 769, 773, 777, 781, 785, 794, 790, 481]
def kcv (x y : Nat) : Int32 := if y = 1 then -1 else nI x
def kLn (i : Instr) : Nat := match i with
  | .bipush _ => 2
  | .sipush _ => 3
  | .ldc _ => 2
  | .ldc_w _ => 3
  | .iload _ => 2
  | .aload _ => 2
  | .istore _ => 2
  | .astore _ => 2
  | .iinc _ _ => 3
  | .goto _ => 3
  | .ifCond _ _ => 3
  | .if_icmp _ _ => 3
  | .if_acmp _ _ => 3
  | .getfield _ => 3
  | .putfield _ => 3
  | .invokevirtual _ => 3
  | .invokestatic _ => 3
  | .invokespecial _ => 3
  | .new _ => 3
  | _ => 1
def kBr (r : kRow) : Bool := (r.2.2.1 == kLn r.2.1) && match r.2.1 with
  | .goto off => (r.1 : Int) + off == (r.2.2.2.1 : Int)
  | .ifCond _ off => (r.1 : Int) + off == (r.2.2.2.1 : Int)
  | .if_icmp _ off => (r.1 : Int) + off == (r.2.2.2.1 : Int)
  | .if_acmp _ off => (r.1 : Int) + off == (r.2.2.2.1 : Int)
  | .iconst n => Int32.ofInt n == kcv r.2.2.2.1 r.2.2.2.2
  | .bipush n => (Int8.ofInt n).toInt32 == kcv r.2.2.2.1 r.2.2.2.2
  | .sipush n => (Int16.ofInt n).toInt32 == kcv r.2.2.2.1 r.2.2.2.2
  | .iinc _ n => Int32.ofInt n == nI r.2.2.2.1
  | _ => true
def kOkT (q : ByteArray × List kRow) : Prop := ∀ r ∈ q.2, decode q.1 r.1 = .ok (r.2.1, r.2.2.1) ∧ kBr r = true
abbrev kh_takeFrom : Nat := 0
abbrev kh_itemAt : Nat := 1
abbrev kh_number : Nat := 2
abbrev kh_countUp : Nat := 3
abbrev kh_volumeCount : Nat := 4
abbrev kh_addVolume : Nat := 5
abbrev kh_stateOf : Nat := 6
abbrev kh_setState : Nat := 7
abbrev kh_mapOf : Nat := 8
abbrev kh_marksOf : Nat := 9
abbrev kh_isMarked : Nat := 10
abbrev kh_lowestMarked : Nat := 11
abbrev kh_mark : Nat := 12
abbrev kh_clearRegion : Nat := 13
abbrev kh_clearMaps : Nat := 14
abbrev kh_mapAt : Nat := 15
abbrev kh_placeAt : Nat := 16
abbrev kh_isInWindow : Nat := 17
abbrev kh_enterWindow : Nat := 18
abbrev kh_windowSize : Nat := 19
abbrev kh_leaveWindow : Nat := 20
abbrev kh_emptyWindow : Nat := 21
abbrev kc_makeVolume : Nat := 22
abbrev kc_write : Nat := 23
abbrev kc_fill : Nat := 24
abbrev kc_read : Nat := 25
abbrev kc_split : Nat := 26
abbrev kc_rejoin : Nat := 27
abbrev kc_step : Nat := 28
abbrev kc_run : Nat := 29
abbrev kc_state : Nat := 30
abbrev kc_marked : Nat := 31
abbrev kc_windowed : Nat := 32
abbrev kc_volumes : Nat := 33
abbrev kc_differing : Nat := 34
abbrev kc_raw : Nat := 35
abbrev kc_head : Nat := 36
abbrev kc_copied : Nat := 37
abbrev kc_writes : Nat := 38
abbrev kc_power : Nat := 39
abbrev kc_cutAfter : Nat := 40
abbrev kc_start : Nat := 41
abbrev kc_requirePower : Nat := 42
abbrev kc_requireVolume : Nat := 43
abbrev kc_requireRoomOf : Nat := 44
abbrev kc_requireSide : Nat := 45
abbrev kc_requireBlockNumber : Nat := 46
abbrev kc_requireWord : Nat := 47
abbrev kc_requireBlock : Nat := 48
abbrev kc_requireRejoining : Nat := 49
abbrev kc_isVolume : Nat := 50
abbrev kc_isRejoining : Nat := 51
abbrev kc_isSide : Nat := 52
abbrev kc_blockAt : Nat := 53
abbrev kc_otherSide : Nat := 54
abbrev kc_headerOn : Nat := 55
abbrev kc_sideInUse : Nat := 56
abbrev kc_isSameOnBothSides : Nat := 57
abbrev kc_spendWrite : Nat := 58
abbrev kc_writeHeader : Nat := 59
abbrev kc_writeHeaderOn : Nat := 60
abbrev kc_writeFresh : Nat := 61
abbrev kc_writeFromSide : Nat := 62
abbrev kc_putFresh : Nat := 63
abbrev kc_markBeforeWrite : Nat := 64
abbrev kc_enterBeforeWrite : Nat := 65
abbrev kc_copyNextRegion : Nat := 66
abbrev kc_makeSame : Nat := 67
abbrev kc_takeNewerHeader : Nat := 68
abbrev kc_mendWindow : Nat := 69
abbrev kc_mendRegion : Nat := 70
abbrev km_thrown : Nat := 71
abbrev km_isDone : Nat := 72
abbrev km_copy : Nat := 73
abbrev km_writeHeader : Nat := 74
abbrev km_next : Nat := 75
abbrev km_place : Nat := 76
abbrev km_writeBlock : Nat := 77
abbrev km_take : Nat := 78
abbrev km_isSame : Nat := 79
abbrev km_copyRegion : Nat := 80
abbrev km_stateOf : Nat := 81
abbrev km_isVolume : Nat := 82
abbrev km_map : Nat := 83
abbrev km_isMarked : Nat := 84
abbrev km_isOpen : Nat := 85
abbrev km_fail : Nat := 86
abbrev km_makeVolume : Nat := 87
abbrev km_isPlace : Nat := 88
abbrev km_ask : Nat := 89
abbrev km_sideOf : Nat := 90
abbrev km_isWindowed : Nat := 91
abbrev km_enter : Nat := 92
abbrev km_put : Nat := 93
abbrev km_write : Nat := 94
abbrev km_fill : Nat := 95
abbrev km_read : Nat := 96
abbrev km_split : Nat := 97
abbrev km_rejoin : Nat := 98
abbrev km_askStep : Nat := 99
abbrev km_marks : Nat := 100
abbrev km_goStep : Nat := 101
abbrev km_step : Nat := 102
abbrev km_run : Nat := 103
abbrev km_state : Nat := 104
abbrev km_marked : Nat := 105
abbrev km_windowed : Nat := 106
abbrev km_volumes : Nat := 107
abbrev km_differing : Nat := 108
abbrev km_raw : Nat := 109
abbrev km_head : Nat := 110
abbrev km_copied : Nat := 111
abbrev km_writes : Nat := 112
abbrev km_power : Nat := 113
abbrev km_cutAfter : Nat := 114
abbrev km_goOn : Nat := 115
abbrev km_start : Nat := 116
abbrev kj_bitCount_0f7a4 : Nat := 117
def kFl : List (Nat × Nat × Nat × Nat) := [(0, 11, 0, 0), (1, 9, 1, 0), (1, 16, 1, 1), (1, 20, 1, 2), (1, 23, 1, 3), (1, 26, 1, 4), (1, 29, 1, 5), (1, 33, 1, 6), (1, 37, 1, 7), (1, 40, 1, 8), (2, 7, 2, 1), (2, 13, 2, 2), (2, 16, 2, 3), (2, 19, 2, 4), (2, 22, 2, 6), (2, 26, 2, 9), (2, 29, 2, 0), (2, 32, 2, 5), (2, 36, 2, 7), (2, 118, 2, 8)]
def kMl : List (Nat × Nat × Nat) := [(0, 21, 7), (0, 25, 14), (0, 29, 15), (0, 33, 8), (0, 36, 9), (0, 40, 10), (0, 44, 16), (0, 47, 19), (1, 43, 42), (1, 46, 4), (1, 50, 5), (1, 53, 59), (1, 56, 48), (1, 60, 47), (1, 64, 56), (1, 68, 53), (1, 78, 63), (1, 81, 6), (1, 85, 7), (1, 89, 14), (1, 92, 20), (1, 95, 43), (1, 98, 45), (1, 108, 49), (1, 111, 66), (1, 114, 9), (1, 117, 117), (1, 122, 50), (1, 126, 52), (1, 129, 8), (1, 132, 16), (1, 135, 44), (1, 138, 57), (1, 142, 46), (1, 150, 55), (1, 154, 1), (1, 163, 68), (1, 166, 69), (1, 184, 51), (1, 191, 3), (1, 194, 60), (1, 197, 58), (1, 200, 0), (1, 204, 54), (1, 207, 61), (1, 210, 64), (1, 213, 10), (1, 216, 65), (1, 219, 12), (1, 222, 17), (1, 225, 18), (1, 228, 11), (1, 231, 67), (1, 234, 13), (1, 237, 62), (1, 240, 2), (1, 243, 70), (1, 246, 21), (2, 39, 72), (2, 43, 73), (2, 47, 74), (2, 51, 76), (2, 55, 79), (2, 59, 78), (2, 63, 77), (2, 67, 83), (2, 71, 84), (2, 74, 75), (2, 77, 86), (2, 81, 82), (2, 84, 81), (2, 88, 88), (2, 92, 90), (2, 95, 85), (2, 98, 91), (2, 101, 92), (2, 105, 89), (2, 109, 93), (2, 112, 80), (2, 115, 100), (2, 121, 99), (2, 125, 101), (2, 129, 115)]
def kAc : List (Nat × Nat) := [(0, 15), (1, 72)]
def kKc : List (Nat × Nat × Nat) := [(1, 157, 1000000), (2, 128, 1000000), (6, 265, 1431655765), (6, 266, 858993459), (6, 267, 252645135)]
def kTh : List (Nat × Nat × Nat × Nat × Nat × String × String) := [(27, 26, 101, 103, 105, "java/lang/UnsupportedOperationException", "the volume is not split"),
  (36, 15, 145, 147, 149, "java/lang/IndexOutOfBoundsException", "no such item of a header"),
  (40, 11, 158, 160, 162, "java/lang/IllegalArgumentException", "not a number of writes"),
  (42, 7, 169, 171, 173, "java/lang/IllegalStateException", "power is off"),
  (43, 8, 145, 174, 149, "java/lang/IndexOutOfBoundsException", "no such volume"),
  (44, 10, 145, 176, 149, "java/lang/IndexOutOfBoundsException", "no room for such a volume"),
  (45, 7, 145, 178, 149, "java/lang/IndexOutOfBoundsException", "no such side"),
  (46, 10, 145, 180, 149, "java/lang/IndexOutOfBoundsException", "no such block"),
  (47, 9, 145, 182, 149, "java/lang/IndexOutOfBoundsException", "no such word"),
  (49, 13, 101, 187, 105, "java/lang/UnsupportedOperationException", "the volume is not rejoining"),
  (58, 17, 169, 189, 173, "java/lang/IllegalStateException", "power fails")]
def kVi : List Nat := [0, 1, 2, 3, 4, 5, 6, 7, 8, 9, 10, 11, 12, 13, 14, 16, 17, 18, 19, 20, 21, 22, 23, 24, 25, 26, 27, 28, 29, 30, 31, 32, 33, 34, 35, 36, 37, 38, 39, 40, 41, 42, 43, 44, 45, 46, 47, 48, 49, 50, 51, 55, 56, 57, 58, 59, 60, 61, 62, 63, 64, 65, 66, 67, 68, 69, 70, 71, 72, 74, 75, 77, 78, 79, 80, 81, 82, 83, 84, 85, 86, 87, 88, 89, 90, 91, 92, 93, 94, 95, 96, 97, 98, 99, 100, 101, 102, 103, 104, 105, 106, 107, 108, 109, 110, 111, 112, 113, 114, 115, 116]
def kSi : List Nat := [15, 52, 53, 54, 73, 76, 117]
theorem kT_ok0 : kOkT (cX0_takeFrom, kT0) := by unfold kOkT; decide +kernel
theorem kT_ok1 : kOkT (cX0_itemAt, kT1) := by unfold kOkT; decide +kernel
theorem kT_ok2 : kOkT (cX0_number, kT2) := by unfold kOkT; decide +kernel
theorem kT_ok3 : kOkT (cX0_countUp, kT3) := by unfold kOkT; decide +kernel
theorem kT_ok4 : kOkT (cX0_volumeCount, kT4) := by unfold kOkT; decide +kernel
theorem kT_ok5 : kOkT (cX0_addVolume, kT5) := by unfold kOkT; decide +kernel
theorem kT_ok6 : kOkT (cX0_stateOf, kT6) := by unfold kOkT; decide +kernel
theorem kT_ok7 : kOkT (cX0_setState, kT7) := by unfold kOkT; decide +kernel
theorem kT_ok8 : kOkT (cX0_mapOf, kT8) := by unfold kOkT; decide +kernel
theorem kT_ok9 : kOkT (cX0_marksOf, kT9) := by unfold kOkT; decide +kernel
theorem kT_ok10 : kOkT (cX0_isMarked, kT10) := by unfold kOkT; decide +kernel
theorem kT_ok11 : kOkT (cX0_lowestMarked, kT11) := by unfold kOkT; decide +kernel
theorem kT_ok12 : kOkT (cX0_mark, kT12) := by unfold kOkT; decide +kernel
theorem kT_ok13 : kOkT (cX0_clearRegion, kT13) := by unfold kOkT; decide +kernel
theorem kT_ok14 : kOkT (cX0_clearMaps, kT14) := by unfold kOkT; decide +kernel
theorem kT_ok15 : kOkT (cX0_mapAt, kT15) := by unfold kOkT; decide +kernel
theorem kT_ok16 : kOkT (cX0_placeAt, kT16) := by unfold kOkT; decide +kernel
theorem kT_ok17 : kOkT (cX0_isInWindow, kT17) := by unfold kOkT; decide +kernel
theorem kT_ok18 : kOkT (cX0_enterWindow, kT18) := by unfold kOkT; decide +kernel
theorem kT_ok19 : kOkT (cX0_windowSize, kT19) := by unfold kOkT; decide +kernel
theorem kT_ok20 : kOkT (cX0_leaveWindow, kT20) := by unfold kOkT; decide +kernel
theorem kT_ok21 : kOkT (cX0_emptyWindow, kT21) := by unfold kOkT; decide +kernel
theorem kT_ok22 : kOkT (cX1_makeVolume, kT22) := by unfold kOkT; decide +kernel
theorem kT_ok23 : kOkT (cX1_write, kT23) := by unfold kOkT; decide +kernel
theorem kT_ok24 : kOkT (cX1_fill, kT24) := by unfold kOkT; decide +kernel
theorem kT_ok25 : kOkT (cX1_read, kT25) := by unfold kOkT; decide +kernel
theorem kT_ok26 : kOkT (cX1_split, kT26) := by unfold kOkT; decide +kernel
theorem kT_ok27 : kOkT (cX1_rejoin, kT27) := by unfold kOkT; decide +kernel
theorem kT_ok28 : kOkT (cX1_step, kT28) := by unfold kOkT; decide +kernel
theorem kT_ok29 : kOkT (cX1_run, kT29) := by unfold kOkT; decide +kernel
theorem kT_ok30 : kOkT (cX1_state, kT30) := by unfold kOkT; decide +kernel
theorem kT_ok31 : kOkT (cX1_marked, kT31) := by unfold kOkT; decide +kernel
theorem kT_ok32 : kOkT (cX1_windowed, kT32) := by unfold kOkT; decide +kernel
theorem kT_ok33 : kOkT (cX1_volumes, kT33) := by unfold kOkT; decide +kernel
theorem kT_ok34 : kOkT (cX1_differing, kT34) := by unfold kOkT; decide +kernel
theorem kT_ok35 : kOkT (cX1_raw, kT35) := by unfold kOkT; decide +kernel
theorem kT_ok36 : kOkT (cX1_head, kT36) := by unfold kOkT; decide +kernel
theorem kT_ok37 : kOkT (cX1_copied, kT37) := by unfold kOkT; decide +kernel
theorem kT_ok38 : kOkT (cX1_writes, kT38) := by unfold kOkT; decide +kernel
theorem kT_ok39 : kOkT (cX1_power, kT39) := by unfold kOkT; decide +kernel
theorem kT_ok40 : kOkT (cX1_cutAfter, kT40) := by unfold kOkT; decide +kernel
theorem kT_ok41 : kOkT (cX1_start, kT41) := by unfold kOkT; decide +kernel
theorem kT_ok42 : kOkT (cX1_requirePower, kT42) := by unfold kOkT; decide +kernel
theorem kT_ok43 : kOkT (cX1_requireVolume, kT43) := by unfold kOkT; decide +kernel
theorem kT_ok44 : kOkT (cX1_requireRoomOf, kT44) := by unfold kOkT; decide +kernel
theorem kT_ok45 : kOkT (cX1_requireSide, kT45) := by unfold kOkT; decide +kernel
theorem kT_ok46 : kOkT (cX1_requireBlockNumber, kT46) := by unfold kOkT; decide +kernel
theorem kT_ok47 : kOkT (cX1_requireWord, kT47) := by unfold kOkT; decide +kernel
theorem kT_ok48 : kOkT (cX1_requireBlock, kT48) := by unfold kOkT; decide +kernel
theorem kT_ok49 : kOkT (cX1_requireRejoining, kT49) := by unfold kOkT; decide +kernel
theorem kT_ok50 : kOkT (cX1_isVolume, kT50) := by unfold kOkT; decide +kernel
theorem kT_ok51 : kOkT (cX1_isRejoining, kT51) := by unfold kOkT; decide +kernel
theorem kT_ok52 : kOkT (cX1_isSide, kT52) := by unfold kOkT; decide +kernel
theorem kT_ok53 : kOkT (cX1_blockAt, kT53) := by unfold kOkT; decide +kernel
theorem kT_ok54 : kOkT (cX1_otherSide, kT54) := by unfold kOkT; decide +kernel
theorem kT_ok55 : kOkT (cX1_headerOn, kT55) := by unfold kOkT; decide +kernel
theorem kT_ok56 : kOkT (cX1_sideInUse, kT56) := by unfold kOkT; decide +kernel
theorem kT_ok57 : kOkT (cX1_isSameOnBothSides, kT57) := by unfold kOkT; decide +kernel
theorem kT_ok58 : kOkT (cX1_spendWrite, kT58) := by unfold kOkT; decide +kernel
theorem kT_ok59 : kOkT (cX1_writeHeader, kT59) := by unfold kOkT; decide +kernel
theorem kT_ok60 : kOkT (cX1_writeHeaderOn, kT60) := by unfold kOkT; decide +kernel
theorem kT_ok61 : kOkT (cX1_writeFresh, kT61) := by unfold kOkT; decide +kernel
theorem kT_ok62 : kOkT (cX1_writeFromSide, kT62) := by unfold kOkT; decide +kernel
theorem kT_ok63 : kOkT (cX1_putFresh, kT63) := by unfold kOkT; decide +kernel
theorem kT_ok64 : kOkT (cX1_markBeforeWrite, kT64) := by unfold kOkT; decide +kernel
theorem kT_ok65 : kOkT (cX1_enterBeforeWrite, kT65) := by unfold kOkT; decide +kernel
theorem kT_ok66 : kOkT (cX1_copyNextRegion, kT66) := by unfold kOkT; decide +kernel
theorem kT_ok67 : kOkT (cX1_makeSame, kT67) := by unfold kOkT; decide +kernel
theorem kT_ok68 : kOkT (cX1_takeNewerHeader, kT68) := by unfold kOkT; decide +kernel
theorem kT_ok69 : kOkT (cX1_mendWindow, kT69) := by unfold kOkT; decide +kernel
theorem kT_ok70 : kOkT (cX1_mendRegion, kT70) := by unfold kOkT; decide +kernel
theorem kT_ok71 : kOkT (cX2_thrown, kT71) := by unfold kOkT; decide +kernel
theorem kT_ok72 : kOkT (cX2_isDone, kT72) := by unfold kOkT; decide +kernel
theorem kT_ok73 : kOkT (cX2_copy, kT73) := by unfold kOkT; decide +kernel
theorem kT_ok74 : kOkT (cX2_writeHeader, kT74) := by unfold kOkT; decide +kernel
theorem kT_ok75 : kOkT (cX2_next, kT75) := by unfold kOkT; decide +kernel
theorem kT_ok76 : kOkT (cX2_place, kT76) := by unfold kOkT; decide +kernel
theorem kT_ok77 : kOkT (cX2_writeBlock, kT77) := by unfold kOkT; decide +kernel
theorem kT_ok78 : kOkT (cX2_take, kT78) := by unfold kOkT; decide +kernel
theorem kT_ok79 : kOkT (cX2_isSame, kT79) := by unfold kOkT; decide +kernel
theorem kT_ok80 : kOkT (cX2_copyRegion, kT80) := by unfold kOkT; decide +kernel
theorem kT_ok81 : kOkT (cX2_stateOf, kT81) := by unfold kOkT; decide +kernel
theorem kT_ok82 : kOkT (cX2_isVolume, kT82) := by unfold kOkT; decide +kernel
theorem kT_ok83 : kOkT (cX2_map, kT83) := by unfold kOkT; decide +kernel
theorem kT_ok84 : kOkT (cX2_isMarked, kT84) := by unfold kOkT; decide +kernel
theorem kT_ok85 : kOkT (cX2_isOpen, kT85) := by unfold kOkT; decide +kernel
theorem kT_ok86 : kOkT (cX2_fail, kT86) := by unfold kOkT; decide +kernel
theorem kT_ok87 : kOkT (cX2_makeVolume, kT87) := by unfold kOkT; decide +kernel
theorem kT_ok88 : kOkT (cX2_isPlace, kT88) := by unfold kOkT; decide +kernel
theorem kT_ok89 : kOkT (cX2_ask, kT89) := by unfold kOkT; decide +kernel
theorem kT_ok90 : kOkT (cX2_sideOf, kT90) := by unfold kOkT; decide +kernel
theorem kT_ok91 : kOkT (cX2_isWindowed, kT91) := by unfold kOkT; decide +kernel
theorem kT_ok92 : kOkT (cX2_enter, kT92) := by unfold kOkT; decide +kernel
theorem kT_ok93 : kOkT (cX2_put, kT93) := by unfold kOkT; decide +kernel
theorem kT_ok94 : kOkT (cX2_write, kT94) := by unfold kOkT; decide +kernel
theorem kT_ok95 : kOkT (cX2_fill, kT95) := by unfold kOkT; decide +kernel
theorem kT_ok96 : kOkT (cX2_read, kT96) := by unfold kOkT; decide +kernel
theorem kT_ok97 : kOkT (cX2_split, kT97) := by unfold kOkT; decide +kernel
theorem kT_ok98 : kOkT (cX2_rejoin, kT98) := by unfold kOkT; decide +kernel
theorem kT_ok99 : kOkT (cX2_askStep, kT99) := by unfold kOkT; decide +kernel
theorem kT_ok100 : kOkT (cX2_marks, kT100) := by unfold kOkT; decide +kernel
theorem kT_ok101 : kOkT (cX2_goStep, kT101) := by unfold kOkT; decide +kernel
theorem kT_ok102 : kOkT (cX2_step, kT102) := by unfold kOkT; decide +kernel
theorem kT_ok103 : kOkT (cX2_run, kT103) := by unfold kOkT; decide +kernel
theorem kT_ok104 : kOkT (cX2_state, kT104) := by unfold kOkT; decide +kernel
theorem kT_ok105 : kOkT (cX2_marked, kT105) := by unfold kOkT; decide +kernel
theorem kT_ok106 : kOkT (cX2_windowed, kT106) := by unfold kOkT; decide +kernel
theorem kT_ok107 : kOkT (cX2_volumes, kT107) := by unfold kOkT; decide +kernel
theorem kT_ok108 : kOkT (cX2_differing, kT108) := by unfold kOkT; decide +kernel
theorem kT_ok109 : kOkT (cX2_raw, kT109) := by unfold kOkT; decide +kernel
theorem kT_ok110 : kOkT (cX2_head, kT110) := by unfold kOkT; decide +kernel
theorem kT_ok111 : kOkT (cX2_copied, kT111) := by unfold kOkT; decide +kernel
theorem kT_ok112 : kOkT (cX2_writes, kT112) := by unfold kOkT; decide +kernel
theorem kT_ok113 : kOkT (cX2_power, kT113) := by unfold kOkT; decide +kernel
theorem kT_ok114 : kOkT (cX2_cutAfter, kT114) := by unfold kOkT; decide +kernel
theorem kT_ok115 : kOkT (cX2_goOn, kT115) := by unfold kOkT; decide +kernel
theorem kT_ok116 : kOkT (cX2_start, kT116) := by unfold kOkT; decide +kernel
theorem kT_ok117 : kOkT (cJ6_bitCount_0f7a4, kT117) := by unfold kOkT; decide +kernel
theorem kTc_ok_0 : ∀ q ∈ kTc_0, kOkT q := List.forall_mem_cons.mpr ⟨kT_ok0, List.forall_mem_cons.mpr ⟨kT_ok1, List.forall_mem_cons.mpr ⟨kT_ok2, List.forall_mem_cons.mpr ⟨kT_ok3, List.forall_mem_cons.mpr ⟨kT_ok4, List.forall_mem_cons.mpr ⟨kT_ok5, List.forall_mem_cons.mpr ⟨kT_ok6, List.forall_mem_cons.mpr ⟨kT_ok7, List.forall_mem_cons.mpr ⟨kT_ok8, List.forall_mem_cons.mpr ⟨kT_ok9, List.forall_mem_cons.mpr ⟨kT_ok10, List.forall_mem_cons.mpr ⟨kT_ok11, List.forall_mem_cons.mpr ⟨kT_ok12, List.forall_mem_cons.mpr ⟨kT_ok13, List.forall_mem_cons.mpr ⟨kT_ok14, List.forall_mem_cons.mpr ⟨kT_ok15, List.forall_mem_cons.mpr ⟨kT_ok16, List.forall_mem_cons.mpr ⟨kT_ok17, List.forall_mem_cons.mpr ⟨kT_ok18, List.forall_mem_cons.mpr ⟨kT_ok19, fun _ h => absurd h List.not_mem_nil⟩⟩⟩⟩⟩⟩⟩⟩⟩⟩⟩⟩⟩⟩⟩⟩⟩⟩⟩⟩
theorem kTc_ok_1 : ∀ q ∈ kTc_1, kOkT q := List.forall_mem_cons.mpr ⟨kT_ok20, List.forall_mem_cons.mpr ⟨kT_ok21, List.forall_mem_cons.mpr ⟨kT_ok22, List.forall_mem_cons.mpr ⟨kT_ok23, List.forall_mem_cons.mpr ⟨kT_ok24, List.forall_mem_cons.mpr ⟨kT_ok25, List.forall_mem_cons.mpr ⟨kT_ok26, List.forall_mem_cons.mpr ⟨kT_ok27, List.forall_mem_cons.mpr ⟨kT_ok28, List.forall_mem_cons.mpr ⟨kT_ok29, List.forall_mem_cons.mpr ⟨kT_ok30, List.forall_mem_cons.mpr ⟨kT_ok31, List.forall_mem_cons.mpr ⟨kT_ok32, List.forall_mem_cons.mpr ⟨kT_ok33, List.forall_mem_cons.mpr ⟨kT_ok34, List.forall_mem_cons.mpr ⟨kT_ok35, List.forall_mem_cons.mpr ⟨kT_ok36, List.forall_mem_cons.mpr ⟨kT_ok37, List.forall_mem_cons.mpr ⟨kT_ok38, List.forall_mem_cons.mpr ⟨kT_ok39, fun _ h => absurd h List.not_mem_nil⟩⟩⟩⟩⟩⟩⟩⟩⟩⟩⟩⟩⟩⟩⟩⟩⟩⟩⟩⟩
theorem kTc_ok_2 : ∀ q ∈ kTc_2, kOkT q := List.forall_mem_cons.mpr ⟨kT_ok40, List.forall_mem_cons.mpr ⟨kT_ok41, List.forall_mem_cons.mpr ⟨kT_ok42, List.forall_mem_cons.mpr ⟨kT_ok43, List.forall_mem_cons.mpr ⟨kT_ok44, List.forall_mem_cons.mpr ⟨kT_ok45, List.forall_mem_cons.mpr ⟨kT_ok46, List.forall_mem_cons.mpr ⟨kT_ok47, List.forall_mem_cons.mpr ⟨kT_ok48, List.forall_mem_cons.mpr ⟨kT_ok49, List.forall_mem_cons.mpr ⟨kT_ok50, List.forall_mem_cons.mpr ⟨kT_ok51, List.forall_mem_cons.mpr ⟨kT_ok52, List.forall_mem_cons.mpr ⟨kT_ok53, List.forall_mem_cons.mpr ⟨kT_ok54, List.forall_mem_cons.mpr ⟨kT_ok55, List.forall_mem_cons.mpr ⟨kT_ok56, List.forall_mem_cons.mpr ⟨kT_ok57, List.forall_mem_cons.mpr ⟨kT_ok58, List.forall_mem_cons.mpr ⟨kT_ok59, fun _ h => absurd h List.not_mem_nil⟩⟩⟩⟩⟩⟩⟩⟩⟩⟩⟩⟩⟩⟩⟩⟩⟩⟩⟩⟩
theorem kTc_ok_3 : ∀ q ∈ kTc_3, kOkT q := List.forall_mem_cons.mpr ⟨kT_ok60, List.forall_mem_cons.mpr ⟨kT_ok61, List.forall_mem_cons.mpr ⟨kT_ok62, List.forall_mem_cons.mpr ⟨kT_ok63, List.forall_mem_cons.mpr ⟨kT_ok64, List.forall_mem_cons.mpr ⟨kT_ok65, List.forall_mem_cons.mpr ⟨kT_ok66, List.forall_mem_cons.mpr ⟨kT_ok67, List.forall_mem_cons.mpr ⟨kT_ok68, List.forall_mem_cons.mpr ⟨kT_ok69, List.forall_mem_cons.mpr ⟨kT_ok70, List.forall_mem_cons.mpr ⟨kT_ok71, List.forall_mem_cons.mpr ⟨kT_ok72, List.forall_mem_cons.mpr ⟨kT_ok73, List.forall_mem_cons.mpr ⟨kT_ok74, List.forall_mem_cons.mpr ⟨kT_ok75, List.forall_mem_cons.mpr ⟨kT_ok76, List.forall_mem_cons.mpr ⟨kT_ok77, List.forall_mem_cons.mpr ⟨kT_ok78, List.forall_mem_cons.mpr ⟨kT_ok79, fun _ h => absurd h List.not_mem_nil⟩⟩⟩⟩⟩⟩⟩⟩⟩⟩⟩⟩⟩⟩⟩⟩⟩⟩⟩⟩
theorem kTc_ok_4 : ∀ q ∈ kTc_4, kOkT q := List.forall_mem_cons.mpr ⟨kT_ok80, List.forall_mem_cons.mpr ⟨kT_ok81, List.forall_mem_cons.mpr ⟨kT_ok82, List.forall_mem_cons.mpr ⟨kT_ok83, List.forall_mem_cons.mpr ⟨kT_ok84, List.forall_mem_cons.mpr ⟨kT_ok85, List.forall_mem_cons.mpr ⟨kT_ok86, List.forall_mem_cons.mpr ⟨kT_ok87, List.forall_mem_cons.mpr ⟨kT_ok88, List.forall_mem_cons.mpr ⟨kT_ok89, List.forall_mem_cons.mpr ⟨kT_ok90, List.forall_mem_cons.mpr ⟨kT_ok91, List.forall_mem_cons.mpr ⟨kT_ok92, List.forall_mem_cons.mpr ⟨kT_ok93, List.forall_mem_cons.mpr ⟨kT_ok94, List.forall_mem_cons.mpr ⟨kT_ok95, List.forall_mem_cons.mpr ⟨kT_ok96, List.forall_mem_cons.mpr ⟨kT_ok97, List.forall_mem_cons.mpr ⟨kT_ok98, List.forall_mem_cons.mpr ⟨kT_ok99, fun _ h => absurd h List.not_mem_nil⟩⟩⟩⟩⟩⟩⟩⟩⟩⟩⟩⟩⟩⟩⟩⟩⟩⟩⟩⟩
theorem kTc_ok_5 : ∀ q ∈ kTc_5, kOkT q := List.forall_mem_cons.mpr ⟨kT_ok100, List.forall_mem_cons.mpr ⟨kT_ok101, List.forall_mem_cons.mpr ⟨kT_ok102, List.forall_mem_cons.mpr ⟨kT_ok103, List.forall_mem_cons.mpr ⟨kT_ok104, List.forall_mem_cons.mpr ⟨kT_ok105, List.forall_mem_cons.mpr ⟨kT_ok106, List.forall_mem_cons.mpr ⟨kT_ok107, List.forall_mem_cons.mpr ⟨kT_ok108, List.forall_mem_cons.mpr ⟨kT_ok109, List.forall_mem_cons.mpr ⟨kT_ok110, List.forall_mem_cons.mpr ⟨kT_ok111, List.forall_mem_cons.mpr ⟨kT_ok112, List.forall_mem_cons.mpr ⟨kT_ok113, List.forall_mem_cons.mpr ⟨kT_ok114, List.forall_mem_cons.mpr ⟨kT_ok115, List.forall_mem_cons.mpr ⟨kT_ok116, List.forall_mem_cons.mpr ⟨kT_ok117, fun _ h => absurd h List.not_mem_nil⟩⟩⟩⟩⟩⟩⟩⟩⟩⟩⟩⟩⟩⟩⟩⟩⟩⟩
theorem kTc_ok : ∀ q ∈ kTc, kOkT q := List.forall_mem_append.mpr ⟨kTc_ok_0, List.forall_mem_append.mpr ⟨kTc_ok_1, List.forall_mem_append.mpr ⟨kTc_ok_2, List.forall_mem_append.mpr ⟨kTc_ok_3, List.forall_mem_append.mpr ⟨kTc_ok_4, kTc_ok_5⟩⟩⟩⟩⟩
end
section
/-! ONE WORLD of sixteen cells for the system, the reference and the law's out: a memory M says what they hold (component = place of the array; 0 and 9: the numbers of the two objects) -/
abbrev kMem : Type := Nat → Nat → Int32
abbrev kRes : Type := (Option Value × kMem) ⊕ (String × kMem)
def mw (M : kMem) (k j : Nat) (x : Int32) : kMem := va_up M k (upd (M k) j x)
def kob (M : kMem) (a : Nat) : Option (Nat × List Value) := match a with
  | 0 => some (1, [.ref 1, .ref 6, .ref 7, .ref 8, .ref 5, .int (M 0 0), .int (M 0 1), .int (M 0 2), .int (M 0 3)])
  | 6 => some (0, [.ref 2])
  | 7 => some (0, [.ref 3])
  | 8 => some (0, [.ref 4])
  | 9 => some (2, [.int (M 9 4), .ref 10, .ref 11, .ref 12, .ref 13, .int (M 9 0), .int (M 9 1), .int (M 9 2), .int (M 9 3), .ref 14])
  | _ => none
def kar (a : Nat) : Option Nat := match a with
  | 1 => some 3072
  | 2 => some 24
  | 3 => some 24
  | 4 => some 24
  | 5 => some 4
  | 10 => some 3072
  | 11 => some 24
  | 12 => some 24
  | 13 => some 24
  | 14 => some 4
  | _ => none
def kaw (cI cJ : ClassId) (o : Int64) (M : kMem) : List va_E := [
  .inr (1, [.ref 1, .ref 6, .ref 7, .ref 8, .ref 5, .int (M 0 0), .int (M 0 1), .int (M 0 2), .int (M 0 3)]),
  .inl (cI, 3072, .inl (M 1)), .inl (cI, 24, .inl (M 2)), .inl (cI, 24, .inl (M 3)), .inl (cI, 24, .inl (M 4)), .inl (cI, 4, .inl (M 5)),
  .inr (0, [.ref 2]), .inr (0, [.ref 3]), .inr (0, [.ref 4]),
  .inr (2, [.int (M 9 4), .ref 10, .ref 11, .ref 12, .ref 13, .int (M 9 0), .int (M 9 1), .int (M 9 2), .int (M 9 3), .ref 14]),
  .inl (cI, 3072, .inl (M 10)), .inl (cI, 24, .inl (M 11)), .inl (cI, 24, .inl (M 12)), .inl (cI, 24, .inl (M 13)), .inl (cI, 4, .inl (M 14)),
  .inl (cJ, 1, .inr (.inl (fun _ => o)))]
theorem kob_ok {cI cJ : ClassId} {o : Int64} {M : kMem} {a : Nat} {q : Nat × List Value} (h : kob M a = some q) : (kaw cI cJ o M)[a]? = some (.inr q) := by
  unfold kob at h
  split at h <;> first | (cases h; rfl) | cases h
theorem kar_ok {cI cJ : ClassId} {o : Int64} {M : kMem} {a n : Nat} (h : kar a = some n) : (kaw cI cJ o M)[a]? = some (.inl (cI, n, .inl (M a))) := by
  unfold kar at h
  split at h <;> first | (cases h; rfl) | cases h
def kv (ad : Nat → Nat) (v : Value) : Value := match v with
  | .ref k => .ref (ad k)
  | v => v
def ke (ad : Nat → Nat) (x : va_E) : va_E := match x with
  | .inr q => .inr (q.1, q.2.map (kv ad))
  | .inl q => .inl q
def kww (ad : Nat → Nat) : Nat → List va_E → va_W
  | _, [] => []
  | n, x :: r => (ad n, ke ad x) :: kww ad (n + 1) r
def kW (ad : Nat → Nat) (cI cJ : ClassId) (o : Int64) (M : kMem) : va_W := kww ad 0 (kaw cI cJ o M)
theorem kww_get (ad : Nat → Nat) : ∀ (es : List va_E) (n k : Nat), (kww ad n es)[k]? = es[k]?.map (fun x => (ad (n + k), ke ad x)) := by
  intro es
  induction es with
  | nil => intro n k; simp [kww]
  | cons x r ih =>
    intro n k
    cases k with
    | zero => simp [kww]
    | succ k =>
      simp only [kww, List.getElem?_cons_succ, ih]
      congr 1
      funext y
      rw [Nat.add_assoc, Nat.add_comm 1 k]
theorem kww_set (ad : Nat → Nat) (x : va_E) : ∀ (es : List va_E) (n k : Nat), (kww ad n es).set k (ad (n + k), ke ad x) = kww ad n (es.set k x) := by
  intro es
  induction es with
  | nil => intro n k; simp [kww]
  | cons y r ih =>
    intro n k
    cases k with
    | zero => simp [kww]
    | succ k =>
      simp only [kww, List.set_cons_succ]
      rw [← ih (n + 1) k, Nat.add_assoc, Nat.add_comm 1 k]
theorem kW_at {ad : Nat → Nat} {cI cJ : ClassId} {o : Int64} {M : kMem} {k : Nat} {x : va_E} (h : (kaw cI cJ o M)[k]? = some x) : (kW ad cI cJ o M)[k]? = some (ad k, ke ad x) := by
  unfold kW
  rw [kww_get, h, Nat.zero_add]
  rfl
theorem kW_set {ad : Nat → Nat} {cI cJ : ClassId} {o : Int64} {M M' : kMem} {k : Nat} {x : va_E} (h : (kaw cI cJ o M).set k x = kaw cI cJ o M') : (kW ad cI cJ o M).set k (ad k, ke ad x) = kW ad cI cJ o M' := by
  unfold kW
  have h1 := kww_set ad x (kaw cI cJ o M) 0 k
  rw [Nat.zero_add] at h1
  rw [h1, h]
/-- what may be written: the sixteen, and what is new -/
def kA (ad : Nat → Nat) (sz : Nat) : Nat → Prop := fun q => (∃ k, k < 16 ∧ q = ad k) ∨ sz ≤ q
def kInj (ad : Nat → Nat) : Prop := ∀ i j, i < 16 → j < 16 → ad i = ad j → i = j
theorem kA_mono {ad : Nat → Nat} {a b : Nat} (h : a ≤ b) {q : Nat} (hq : kA ad b q) : kA ad a q := hq.elim Or.inl (fun z => Or.inr (Nat.le_trans h z))
theorem kW_lt {ad : Nat → Nat} {cI cJ : ClassId} {o : Int64} {M : kMem} {k : Nat} {q : Nat × va_E} (h : (kW ad cI cJ o M)[k]? = some q) : k < 16 ∧ q.1 = ad k := by
  unfold kW at h
  rw [kww_get, Nat.zero_add] at h
  cases hx : (kaw cI cJ o M)[k]? with
  | none => rw [hx] at h; cases h
  | some x =>
    rw [hx] at h
    cases h
    exact ⟨(List.getElem?_eq_some_iff.mp hx).1, rfl⟩
theorem kD {ad : Nat → Nat} (hi : kInj ad) (cI cJ : ClassId) (o : Int64) (M : kMem) (sz : Nat) : va_D (kA ad sz) (kW ad cI cJ o M) := by
  refine ⟨fun i j p q h1 h2 h3 => ?_, fun k q h => ?_⟩
  · obtain ⟨a1, a2⟩ := kW_lt h1
    obtain ⟨b1, b2⟩ := kW_lt h2
    exact hi i j a1 b1 (by rw [← a2, ← b2]; exact h3)
  · obtain ⟨a1, a2⟩ := kW_lt h
    exact Or.inl ⟨k, a1, a2⟩
/-! the words that all methods have, and what a throw needs beside them -/
def kCn (k : Nat) : String := if k = 0 then RX0 else if k = 1 then RX1 else if k = 2 then RX2 else RJ6
def kG : List Cond := lw_tbl.filter goodWord
def kFace : List Cond := lw_tbl.filter Cond.faceAtom
def kC0 (mid : Nat) : ByteArray × List kRow := kTc.getD mid (cX0_takeFrom, [])
def kM0 (mid : Nat) : MethodName × Nat × Option FieldType × Nat × Nat := kMs.getD mid (yX0_takeFrom, 2, none, 0, 1)
abbrev kB (mid : Nat) : ByteArray := (kC0 mid).1
abbrev kY (mid : Nat) : MethodName := (kM0 mid).1
abbrev kL (mid : Nat) : Nat := (kM0 mid).2.1
abbrev kRt (mid : Nat) : Option FieldType := (kM0 mid).2.2.1
abbrev kO (mid : Nat) : Nat := (kM0 mid).2.2.2.1
abbrev kN (mid : Nat) : Nat := (kM0 mid).2.2.2.2
def kWs (mid : Nat) : List Cond := .code (kY mid) (kB mid) (kL mid) (kRt mid) :: kG
def kR (d : Nat) : Room := { frames := 6 + d, cells := 1, slots := 6, locals := 90 + 28 * d }
def kLook (mid pc : Nat) : Option kRow := (kC0 mid).2.find? (fun r => r.1 == pc)
theorem kLook_ok {mid pc : Nat} {r : kRow} (h : kLook mid pc = some r) : r.1 = pc ∧ decode (kB mid) pc = .ok (r.2.1, r.2.2.1) ∧ kBr r = true := by
  have h1 : r.1 = pc := by
    have := List.find?_some h
    simpa using this
  have h2 : r ∈ (kC0 mid).2 := List.mem_of_find?_eq_some h
  have h3 : kOkT (kC0 mid) := by
    unfold kC0 at h2 ⊢
    rw [List.getD_eq_getElem?_getD] at h2 ⊢
    cases hx : kTc[mid]? with
    | none =>
      rw [hx] at h2
      exact absurd h2 List.not_mem_nil
    | some q =>
      exact kTc_ok q (List.mem_of_getElem? hx)
  have h4 := h3 r h2
  rw [h1] at h4
  exact ⟨h1, h4⟩
def kz (A : Nat → Prop) (U : State) (H : Heap) : Prop :=
  vx_Zq Bundle.tN "UNASSIGNED_STACK" Bundle.steD A U H ∧ vx_Zq Bundle.tN "SUPPRESSED_SENTINEL" Bundle.listD A U H ∧ (∀ r ∈ kTh, ∃ sa : Nat, vk_R RX1 r.2.2.2.1 r.2.2.2.2.2.2 sa U) ∧ ∀ w ∈ kFace, ∀ a : Array Value, w.before a U = true
theorem kz.kept {A : Nat → Prop} {U : State} {H H1 : Heap} (h : kz A U H) (hq : ∀ a : Nat, a < H.size → ¬ A a → H1[a]? = H[a]?) : kz A U H1 := ⟨h.1.kept hq, h.2.1.kept hq, h.2.2⟩
theorem kz.narrow {A B : Nat → Prop} {U : State} {H : Heap} (h : kz A U H) (hAB : ∀ q, B q → A q) : kz B U H := ⟨h.1.narrow hAB, h.2.1.narrow hAB, h.2.2⟩
theorem kface_moved {u U : State} (hvm : u.vm.Alike U.vm) {w : Cond} (hw : w.faceAtom = true) {a b : Array Value} (h : w.before a u = true) : w.before b U = true := by
  have h1 := Cond.faceAtom_setVm (args := a) hvm w hw h
  have ho : w.onTables = true := by cases w <;> first | rfl | (simp [Cond.faceAtom] at hw)
  rw [Cond.onTables_vm (A' := b) (U' := U) U.vm w ho, State.setVm_self] at h1
  exact h1
theorem kz.moved {A : Nat → Prop} {u U : State} {H : Heap} (hW : u.WarmedH U.vm) (h : kz A u H) : kz A U H :=
  ⟨h.1.moved hW.alike, h.2.1.moved hW.alike, fun r hr => (h.2.2.1 r hr).imp fun _ z => vk_R.warm hW z, fun w hw b => kface_moved hW.alike (List.mem_filter.mp hw).2 (h.2.2.2 w hw b)⟩
/-! how a method ends -/
def kFin (D : va_G) (ad : Nat → Nat) (cI cJ : ClassId) (o : Int64) (s t : State) (M : kMem) (a b : Nat) : Prop :=
  va_P D vwCl (kW ad cI cJ o M) t.heap ∧ va_F (kA ad s.heap.size) s t ∧ s.WarmedH t.vm ∧ ∃ L : List Loc, s.sameButNew ({ t with vm := s.vm } : State) L a b ∧ ∀ q ∈ L, kA ad s.heap.size q.base
def kEnd (D : va_G) (ad : Nat → Nat) (cI cJ : ClassId) (o : Int64) (P : kRes → Prop) (s : State) (oc : Outcome) (t : State) : Prop :=
  (∃ (v : Option Value) (M : kMem), oc = .returned (v.map (kv ad)) ∧ P (.inl (v, M)) ∧ kFin D ad cI cJ o s t M 0 0) ∨
  (∃ (q : Addr) (E : String) (M : kMem) (ce : Cell), oc = .threw q ∧ P (.inr (E, M)) ∧ t.heap[q]? = some ce ∧ ce.vm = .none ∧ s.vm.findClass E = some ce.cls ∧ kFin D ad cI cJ o s t M 1 6)
def kMQ (below : List Frame) (D : va_G) (ad : Nat → Nat) (cI cJ : ClassId) (o : Int64) (P : kRes → Prop) (s : State) : State → Prop := fun t => ∃ oc, t.status = .running ∧ Ended t below oc ∧ kEnd D ad cI cJ o P s oc t
abbrev kTy (cI cJ : ClassId) : List (ClassId × FieldType) := [(cI, .int), (cJ, .long)]
def kPc (D : va_G) (ad : Nat → Nat) (cI cJ : ClassId) (o : Int64) (av : List Value) (M : kMem) : Array Value → State → Prop := fun v U =>
  v = (av.map (kv ad)).toArray ∧ va_P D vwCl (kW ad cI cJ o M) U.heap ∧ va_K D vwCl (kTy cI cJ) U ∧ kz (kA ad U.heap.size) U U.heap
/-- THE CONTRACT: method mid, called with av in a world that holds M, comes to an end with P; d: how deep it may call -/
def kC (d mid : Nat) (av : List Value) (M : kMem) (P : kRes → Prop) : Prop :=
  ∀ (l : Launch) (D : va_G) (ad : Nat → Nat) (cI cJ : ClassId) (o : Int64), l.stackTraces = false → kInj ad →
    MetFree l (kY mid) (headSpec (kWs mid) (kR d)) (kPc D ad cI cJ o av M) (fun _ _ _ _ _ => True) (fun _ st oc t => kEnd D ad cI cJ o P st oc t)
/-- what stands fast in a method's body -/
def kCx (d mid : Nat) (p : Program) (l : Launch) (R : Room) (s : State) (m : MethodId) (args : Array Value) (meth : Method) (c : Code) (D : va_G) (ad : Nat → Nat) (cI cJ : ClassId) : Prop :=
  p.tables.exec = Jvm.exec ∧ c.code = kB mid ∧ c.maxLocals = kL mid ∧ s.vm.findClass (kCn (kO mid)) = some m.cls ∧ (∀ w ∈ kG, w.before args s = true) ∧ va_K D vwCl (kTy cI cJ) s ∧ kz (kA ad s.heap.size) s s.heap ∧ meth.locks = false ∧
  (∀ x ∈ c.exceptionTable.toList, False) ∧ l.stackTraces = false ∧ meth.sig.returnType = kRt mid ∧ R = kR d ∧ kInj ad
/-- THE JUDGEMENT: from pc, with the locals lv, the operands st and a world that holds M, the method comes to its end with P -/
def kJ (d mid : Nat) (P : kRes → Prop) (pc : Nat) (lv : List (Nat × Value)) (st : List Value) (M : kMem) : Prop :=
  ∀ (p : Program) (l : Launch) (e : Env) (R : Room) (s : State) (m : MethodId) (args : Array Value) (below : List Frame) (meth : Method) (c : Code) (D : va_G) (ad : Nat → Nat) (cI cJ : ClassId) (o : Int64),
    kCx d mid p l R s m args meth c D ad cI cJ → ∀ (H : Heap) (locs : List Loc) (ls : Array Slot), va_P D vwCl (kW ad cI cJ o M) H → va_S (kA ad s.heap.size) s.heap H locs → lv_has ls (kL mid) (lv.map (fun q => (q.1, kv ad q.2))) →
      W p l e R s m args below meth c H locs 0 0 (kMQ below D ad cI cJ o P s) (F0 m pc ls (st.map (kv ad)))
section KC
variable {p : Program} {l : Launch} {e : Env} {R : Room} {s : State} {m : MethodId} {args : Array Value} {below : List Frame} {meth : Method} {c : Code}
theorem k_imp {H : Heap} {locs : List Loc} {cells slots : Nat} {Q Q' : State → Prop} {g : JFrame} (h : ∀ t, Q t → Q' t) (k : W p l e R s m args below meth c H locs cells slots Q g) : W p l e R s m args below meth c H locs cells slots Q' g := by
  intro T hT X
  obtain ⟨t, a, b⟩ := k T hT X
  exact ⟨t, a, h t b⟩
/-- the invocation behind a call that has come back, or has thrown -/
theorem k_back {U : State} {locs : List Loc} {cells slots : Nat} (X : Stand p l e R s m args below meth c U locs cells slots) {g : JFrame} (hg : g.method = m) {mk : MethodId} {a : Array Value} {oc : Outcome} {t : State} {ig : Instr} {len : Nat} (hdg : decode c.code g.pc = .ok (ig, len))
    (hst : Steps p.tables e below (doInvoke e (U.setTop g) [] mk a).1 t) (hend : Ended t (U.setTop g).frames oc) (hW : (U.calling g mk a).WarmedH t.vm) {L : List Loc} {k n : Nat} (hs : (U.calling g mk a).sameButNew ({ t with vm := (U.calling g mk a).vm } : State) L k n) :
    ∃ B : State, B.heap = t.heap ∧ B.vm = t.vm ∧ Stand p l e R s m args below meth c B (locs ++ L) (cells + k) (slots + n) ∧
      (∀ v, oc = .returned v → Steps p.tables e below (doInvoke e (U.setTop g) [] mk a).1 (B.setTop { g with pc := g.pc + len, stack := v.toList ++ g.stack })) ∧
      (∀ q, oc = .threw q → Steps p.tables e below (doInvoke e (U.setTop g) [] mk a).1 ((B.setTop g).pushFrame (.throwing q))) := by
  subst hg
  have hat := X.here
  obtain ⟨g₀, hg0⟩ := Option.isSome_iff_exists.mp hat.top
  obtain ⟨r, hr⟩ := State.topJava?_eq_some.mp hg0
  have hW' : U.WarmedH t.vm := hW
  obtain ⟨e1, q2, q3, q4, q5, q6⟩ := id hs
  have ht : t = ({ (U.calling g mk a).setFrames t.frames with heap := t.heap, slotsUsed := t.slotsUsed } : State).setVm t.vm := by
    have h1 : t = ({ t with vm := (U.calling g mk a).vm } : State).setVm t.vm := rfl
    rw [e1] at h1
    exact h1
  generalize hB : (({ U with heap := t.heap, slotsUsed := t.slotsUsed } : State).setVm t.vm) = B
  have hrB : B.frames = .java g₀ :: r := by rw [← hB]; exact hr
  have hsame : U.sameButNew ({ U with heap := t.heap, slotsUsed := t.slotsUsed } : State) L k n := by
    refine ⟨?_, q2, q3, q4, q5, q6⟩
    obtain ⟨th, hth, -⟩ := State.frames_cons hr
    show ({ U with heap := t.heap, slotsUsed := t.slotsUsed } : State) = { U.setFrames U.frames with heap := t.heap, slotsUsed := t.slotsUsed }
    rw [State.setFrames_self hth]
  have X' : Stand p l e R s g.method args below meth c B (locs ++ L) (cells + k) (slots + n) := by
    rw [← hB]
    exact ⟨X.admits, X.cas, X.clock, X.frames, X.room, X.hears, X.method, X.code, (X.here.setHeapUsed t.heap t.slotsUsed).setVm hW'.alike, X.tail, State.WarmedH.trans X.warmed hW', X.limits, X.bytes, X.same.trans (hsame.setVm s.vm)⟩
  rw [State.frames_setTop' g hat.top] at hend
  refine ⟨B, by rw [← hB]; rfl, by rw [← hB]; rfl, X', fun v hv => ?_, fun q hq => ?_⟩
  · subst hv
    obtain ⟨c₂, i₂, len₂, hc₂, hd₂, hf₂⟩ := hend
    have hcc : c₂ = c := by
      have h1 : t.code? g.method = U.code? g.method := by
        rw [State.code?_eq, State.code?_eq, hW'.alike.method?]
      exact Option.some.inj (hc₂.symm.trans (h1.trans hat.code))
    subst hcc
    have hlen : len₂ = len := by rw [hdg] at hd₂; cases hd₂; rfl
    subst hlen
    have h9 : t = B.setTop { g with pc := g.pc + len₂, stack := v.toList ++ g.stack } := by
      refine ht.trans ?_
      rw [hf₂, State.calling_eq hat.top, State.setFrames_setFrames, State.setTop_of_frames _ hrB, hr, ← hB]
      rfl
    rw [← h9]
    exact hst
  · subst hq
    have hf₂ : t.frames = .throwing q :: .java g :: U.frames.tail := hend
    have h9 : t = (B.setTop g).pushFrame (.throwing q) := by
      refine ht.trans ?_
      rw [hf₂, State.calling_eq hat.top, State.setFrames_setFrames, State.pushFrame, State.frames_setTop _ hrB, State.setTop_of_frames _ hrB, State.setFrames_setFrames, hr, ← hB]
      rfl
    rw [← h9]
    exact hst
end KC
end
section
/-! the links that the methods' instructions have, among the words of all -/
def kTf (ci k : Nat) : String × String × String × Bool := if ci = 0 then TX0 k else if ci = 1 then TX1 k else TX2 k
def kNf (ci : Nat) : Nat := if ci = 0 then 1 else if ci = 1 then 9 else 10
def kty (ci k : Nat) : FieldType := if ci = 0 then tyX0 k else if ci = 1 then tyX1 k else tyX2 k
set_option maxRecDepth 100000 in
theorem kFl_ok : ∀ r ∈ kFl, Cond.fieldLink (kCn r.1) r.2.1 (kTf r.2.2.1 r.2.2.2).1 (kTf r.2.2.1 r.2.2.2).2.1 (kTf r.2.2.1 r.2.2.2).2.2.1 ∈ kG ∧ r.2.2.2 < kNf r.2.2.1 ∧ r.2.2.1 < 3 := by decide +kernel
set_option maxRecDepth 100000 in
theorem kMl_ok : ∀ r ∈ kMl, Cond.methodLink (kCn r.1) r.2.1 (kY r.2.2) ∈ kG := by decide +kernel
set_option maxRecDepth 100000 in
theorem kVi_c0 : ∀ i ∈ ([0, 1, 2, 3, 4, 5, 6, 7, 8, 9, 10, 11] : List Nat), Cond.instanceMethod (kY i) ∈ kG ∧ Cond.selects (kCn (kO i)) (kY i) (kY i) ∈ kG ∧ kO i < 3 := by decide +kernel
set_option maxRecDepth 100000 in
theorem kVi_c1 : ∀ i ∈ ([12, 13, 14, 16, 17, 18, 19, 20, 21, 22, 23, 24] : List Nat), Cond.instanceMethod (kY i) ∈ kG ∧ Cond.selects (kCn (kO i)) (kY i) (kY i) ∈ kG ∧ kO i < 3 := by decide +kernel
set_option maxRecDepth 100000 in
theorem kVi_c2 : ∀ i ∈ ([25, 26, 27, 28, 29, 30, 31, 32, 33, 34, 35, 36] : List Nat), Cond.instanceMethod (kY i) ∈ kG ∧ Cond.selects (kCn (kO i)) (kY i) (kY i) ∈ kG ∧ kO i < 3 := by decide +kernel
set_option maxRecDepth 100000 in
theorem kVi_c3 : ∀ i ∈ ([37, 38, 39, 40, 41, 42, 43, 44, 45, 46, 47, 48] : List Nat), Cond.instanceMethod (kY i) ∈ kG ∧ Cond.selects (kCn (kO i)) (kY i) (kY i) ∈ kG ∧ kO i < 3 := by decide +kernel
set_option maxRecDepth 100000 in
theorem kVi_c4 : ∀ i ∈ ([49, 50, 51, 55, 56, 57, 58, 59, 60, 61, 62, 63] : List Nat), Cond.instanceMethod (kY i) ∈ kG ∧ Cond.selects (kCn (kO i)) (kY i) (kY i) ∈ kG ∧ kO i < 3 := by decide +kernel
set_option maxRecDepth 100000 in
theorem kVi_c5 : ∀ i ∈ ([64, 65, 66, 67, 68, 69, 70, 71, 72, 74, 75, 77] : List Nat), Cond.instanceMethod (kY i) ∈ kG ∧ Cond.selects (kCn (kO i)) (kY i) (kY i) ∈ kG ∧ kO i < 3 := by decide +kernel
set_option maxRecDepth 100000 in
theorem kVi_c6 : ∀ i ∈ ([78, 79, 80, 81, 82, 83, 84, 85, 86, 87, 88, 89] : List Nat), Cond.instanceMethod (kY i) ∈ kG ∧ Cond.selects (kCn (kO i)) (kY i) (kY i) ∈ kG ∧ kO i < 3 := by decide +kernel
set_option maxRecDepth 100000 in
theorem kVi_c7 : ∀ i ∈ ([90, 91, 92, 93, 94, 95, 96, 97, 98, 99, 100, 101] : List Nat), Cond.instanceMethod (kY i) ∈ kG ∧ Cond.selects (kCn (kO i)) (kY i) (kY i) ∈ kG ∧ kO i < 3 := by decide +kernel
set_option maxRecDepth 100000 in
theorem kVi_c8 : ∀ i ∈ ([102, 103, 104, 105, 106, 107, 108, 109, 110, 111, 112, 113] : List Nat), Cond.instanceMethod (kY i) ∈ kG ∧ Cond.selects (kCn (kO i)) (kY i) (kY i) ∈ kG ∧ kO i < 3 := by decide +kernel
set_option maxRecDepth 100000 in
theorem kVi_c9 : ∀ i ∈ ([114, 115, 116] : List Nat), Cond.instanceMethod (kY i) ∈ kG ∧ Cond.selects (kCn (kO i)) (kY i) (kY i) ∈ kG ∧ kO i < 3 := by decide +kernel
theorem kVi_ok : ∀ i ∈ kVi, Cond.instanceMethod (kY i) ∈ kG ∧ Cond.selects (kCn (kO i)) (kY i) (kY i) ∈ kG ∧ kO i < 3 := by
  rw [show kVi = ([0, 1, 2, 3, 4, 5, 6, 7, 8, 9, 10, 11] ++ ([12, 13, 14, 16, 17, 18, 19, 20, 21, 22, 23, 24] ++ ([25, 26, 27, 28, 29, 30, 31, 32, 33, 34, 35, 36] ++ ([37, 38, 39, 40, 41, 42, 43, 44, 45, 46, 47, 48] ++ ([49, 50, 51, 55, 56, 57, 58, 59, 60, 61, 62, 63] ++ ([64, 65, 66, 67, 68, 69, 70, 71, 72, 74, 75, 77] ++ ([78, 79, 80, 81, 82, 83, 84, 85, 86, 87, 88, 89] ++ ([90, 91, 92, 93, 94, 95, 96, 97, 98, 99, 100, 101] ++ ([102, 103, 104, 105, 106, 107, 108, 109, 110, 111, 112, 113] ++ ([114, 115, 116]))))))))) : List Nat) from rfl]
  exact List.forall_mem_append.mpr ⟨kVi_c0, List.forall_mem_append.mpr ⟨kVi_c1, List.forall_mem_append.mpr ⟨kVi_c2, List.forall_mem_append.mpr ⟨kVi_c3, List.forall_mem_append.mpr ⟨kVi_c4, List.forall_mem_append.mpr ⟨kVi_c5, List.forall_mem_append.mpr ⟨kVi_c6, List.forall_mem_append.mpr ⟨kVi_c7, List.forall_mem_append.mpr ⟨kVi_c8, kVi_c9⟩⟩⟩⟩⟩⟩⟩⟩⟩
set_option maxRecDepth 100000 in
theorem kSi_ok : ∀ i ∈ kSi, Cond.static (kY i) ∈ kG := by decide +kernel
set_option maxRecDepth 100000 in
theorem kAll_ok : ∀ i, i < 118 → Cond.initialized (kCn (kO i)) ∈ kG ∧ (kY i).cls = kCn (kO i) ∧ plainName (kY i).cls = true ∧ ((kY i).cls ≠ "java/lang/invoke/MethodHandle" ∧ (kY i).cls ≠ "java/lang/invoke/VarHandle") ∧ (parseMethodDescriptor (kY i).desc).map (fun d => d.parameters.length) = some (kN i) ∧ kL i ≤ 9 := by decide +kernel
set_option maxRecDepth 100000 in
theorem kPl_c0 : ([0, 1, 2, 3, 4, 5, 6, 7, 8, 9, 10, 11] : List Nat).map (fun i => some (Cond.code (kY i) (kB i) (kL i) (kRt i))) = ([282, 522, 562, 265, 122, 249, 126, 253, 137, 364, 360, 460] : List Nat).map (fun i => lw_tbl[i]?) := by decide +kernel
set_option maxRecDepth 100000 in
theorem kPl_c1 : ([12, 13, 14, 15, 16, 17, 18, 19, 20, 21, 22, 23] : List Nat).map (fun i => some (Cond.code (kY i) (kB i) (kL i) (kRt i))) = ([352, 477, 257, 140, 148, 373, 378, 382, 412, 574, 172, 293] : List Nat).map (fun i => lw_tbl[i]?) := by decide +kernel
set_option maxRecDepth 100000 in
theorem kPl_c2 : ([24, 25, 26, 27, 28, 29, 30, 31, 32, 33, 34, 35] : List Nat).map (fun i => some (Cond.code (kY i) (kB i) (kL i) (kRt i))) = ([392, 399, 406, 420, 443, 491, 114, 130, 144, 152, 498, 510] : List Nat).map (fun i => lw_tbl[i]?) := by decide +kernel
set_option maxRecDepth 100000 in
theorem kPl_c3 : ([36, 37, 38, 39, 40, 41, 42, 43, 44, 45, 46, 47] : List Nat).map (fun i => some (Cond.code (kY i) (kB i) (kL i) (kRt i))) = ([517, 156, 160, 164, 530, 554, 176, 301, 502, 321, 326, 331] : List Nat).map (fun i => lw_tbl[i]?) := by decide +kernel
set_option maxRecDepth 100000 in
theorem kPl_c4 : ([48, 49, 50, 51, 52, 53, 54, 55, 56, 57, 58, 59] : List Nat).map (fun i => some (Cond.code (kY i) (kB i) (kL i) (kRt i))) = ([297, 447, 118, 451, 133, 339, 385, 278, 336, 469, 273, 261] : List Nat).map (fun i => lw_tbl[i]?) := by decide +kernel
set_option maxRecDepth 100000 in
theorem kPl_c5 : ([60, 61, 62, 63, 64, 65, 66, 67, 68, 69, 70, 71] : List Nat).map (fun i => some (Cond.code (kY i) (kB i) (kL i) (kRt i))) = ([269, 356, 473, 344, 348, 369, 456, 465, 558, 566, 570, 615] : List Nat).map (fun i => lw_tbl[i]?) := by decide +kernel
set_option maxRecDepth 100000 in
theorem kPl_c6 : ([72, 73, 74, 75, 76, 77, 78, 79, 80, 81, 82, 83] : List Nat).map (fun i => some (Cond.code (kY i) (kB i) (kL i) (kRt i))) = ([631, 634, 627, 623, 669, 685, 666, 733, 729, 658, 654, 681] : List Nat).map (fun i => lw_tbl[i]?) := by decide +kernel
set_option maxRecDepth 100000 in
theorem kPl_c7 : ([84, 85, 86, 87, 88, 89, 90, 91, 92, 93, 94, 95] : List Nat).map (fun i => some (Cond.code (kY i) (kB i) (kL i) (kRt i))) = ([677, 689, 638, 619, 650, 646, 662, 693, 697, 673, 642, 701] : List Nat).map (fun i => lw_tbl[i]?) := by decide +kernel
set_option maxRecDepth 100000 in
theorem kPl_c8 : ([96, 97, 98, 99, 100, 101, 102, 103, 104, 105, 106, 107] : List Nat).map (fun i => some (Cond.code (kY i) (kB i) (kL i) (kRt i))) = ([705, 709, 713, 721, 737, 725, 717, 741, 745, 749, 753, 757] : List Nat).map (fun i => lw_tbl[i]?) := by decide +kernel
set_option maxRecDepth 100000 in
theorem kPl_c9 : ([108, 109, 110, 111, 112, 113, 114, 115, 116, 117] : List Nat).map (fun i => some (Cond.code (kY i) (kB i) (kL i) (kRt i))) = ([761, 765, 769, 773, 777, 781, 785, 794, 790, 481] : List Nat).map (fun i => lw_tbl[i]?) := by decide +kernel
theorem kPl_ok : (List.range 118).map (fun i => some (Cond.code (kY i) (kB i) (kL i) (kRt i))) = kPl.map (fun i => lw_tbl[i]?) := by
  rw [show List.range 118 = ([0, 1, 2, 3, 4, 5, 6, 7, 8, 9, 10, 11] ++ ([12, 13, 14, 15, 16, 17, 18, 19, 20, 21, 22, 23] ++ ([24, 25, 26, 27, 28, 29, 30, 31, 32, 33, 34, 35] ++ ([36, 37, 38, 39, 40, 41, 42, 43, 44, 45, 46, 47] ++ ([48, 49, 50, 51, 52, 53, 54, 55, 56, 57, 58, 59] ++ ([60, 61, 62, 63, 64, 65, 66, 67, 68, 69, 70, 71] ++ ([72, 73, 74, 75, 76, 77, 78, 79, 80, 81, 82, 83] ++ ([84, 85, 86, 87, 88, 89, 90, 91, 92, 93, 94, 95] ++ ([96, 97, 98, 99, 100, 101, 102, 103, 104, 105, 106, 107] ++ ([108, 109, 110, 111, 112, 113, 114, 115, 116, 117]))))))))) : List Nat) from by decide +kernel, show kPl = ([282, 522, 562, 265, 122, 249, 126, 253, 137, 364, 360, 460] ++ ([352, 477, 257, 140, 148, 373, 378, 382, 412, 574, 172, 293] ++ ([392, 399, 406, 420, 443, 491, 114, 130, 144, 152, 498, 510] ++ ([517, 156, 160, 164, 530, 554, 176, 301, 502, 321, 326, 331] ++ ([297, 447, 118, 451, 133, 339, 385, 278, 336, 469, 273, 261] ++ ([269, 356, 473, 344, 348, 369, 456, 465, 558, 566, 570, 615] ++ ([631, 634, 627, 623, 669, 685, 666, 733, 729, 658, 654, 681] ++ ([677, 689, 638, 619, 650, 646, 662, 693, 697, 673, 642, 701] ++ ([705, 709, 713, 721, 737, 725, 717, 741, 745, 749, 753, 757] ++ ([761, 765, 769, 773, 777, 781, 785, 794, 790, 481]))))))))) : List Nat) from rfl]
  simp only [List.map_append, kPl_c0, kPl_c1, kPl_c2, kPl_c3, kPl_c4, kPl_c5, kPl_c6, kPl_c7, kPl_c8, kPl_c9]
theorem kCode_in {i : Nat} (h : i < 118) : Cond.code (kY i) (kB i) (kL i) (kRt i) ∈ kG := by
  have h1 : ((List.range 118).map (fun i => some (Cond.code (kY i) (kB i) (kL i) (kRt i))))[i]? = some (some (Cond.code (kY i) (kB i) (kL i) (kRt i))) := by simp [h]
  rw [kPl_ok, List.getElem?_map] at h1
  cases hx : kPl[i]? with
  | none => rw [hx] at h1; cases h1
  | some j =>
    rw [hx] at h1
    exact List.mem_filter.mpr ⟨List.mem_of_getElem? (Option.some.inj h1), rfl⟩
set_option maxRecDepth 100000 in
theorem kAc_ok : ∀ r ∈ kAc, Cond.methodLink (kCn r.1) r.2 arraycopyName ∈ kG := by decide +kernel
set_option maxRecDepth 100000 in
theorem kAcs_ok : Cond.native arraycopyName ∈ kG ∧ Cond.static arraycopyName ∈ kG ∧ Cond.initialized "java/lang/System" ∈ kG := by decide +kernel
set_option maxRecDepth 100000 in
theorem kKc_ok : ∀ r ∈ kKc, Cond.constant (kCn r.1) r.2.1 (nI r.2.2) ∈ kG := by decide +kernel
set_option maxRecDepth 100000 in
theorem kWs0_ok : (∀ w ∈ u_ws RX0 TX0 1, w ∈ kG) ∧ (∀ w ∈ u_ws RX1 TX1 9, w ∈ kG) ∧ (∀ w ∈ u_ws RX2 TX2 10, w ∈ kG) := by decide +kernel
abbrev kThN : List String := ["java/lang/RuntimeException", "java/lang/Exception"]
set_option maxRecDepth 100000 in
theorem kTh_ok : ∀ r ∈ kTh, Cond.classLink RX1 r.2.2.1 r.2.2.2.2.2.1 ∈ kG ∧ Cond.initialized r.2.2.2.2.2.1 ∈ kG ∧ (∀ w ∈ vx_atS RX1 r.2.2.2.2.1 r.2.2.2.2.2.1 kThN, w ∈ kG ∨ w ∈ kFace) ∧ (∀ w ∈ Cond.classLink RX1 r.2.2.1 r.2.2.2.2.2.1 :: Cond.initialized r.2.2.2.2.2.1 :: vx_atS RX1 r.2.2.2.2.1 r.2.2.2.2.2.1 kThN, vx_ot w = true) ∧ Bundle.fit r.2.2.2.2.2.1 = true := by decide +kernel
theorem kThN_ok : ∀ n ∈ kThN, Bundle.fit n = true := by decide +kernel
set_option maxRecDepth 100000 in
theorem kTh_dec : ∀ r ∈ kTh, decode (kB r.1) r.2.1 = .ok (.new r.2.2.1, 3) ∧ decode (kB r.1) (r.2.1 + 3) = .ok (.dup, 1) ∧ decode (kB r.1) (r.2.1 + 4) = .ok (.ldc r.2.2.2.1, 2) ∧ decode (kB r.1) (r.2.1 + 6) = .ok (.invokespecial r.2.2.2.2.1, 3) ∧ decode (kB r.1) (r.2.1 + 9) = .ok (.athrow, 1) ∧ kO r.1 = 1 := by decide +kernel
theorem kG_good {w : Cond} (h : w ∈ kG) : (w.onTables && w.keeps) = true ∨ ∃ ty, w = .arrayClass ty := good_of_word (List.mem_filter.mp h).2
theorem kG_at {w : Cond} (h : w ∈ kG) {args a' : Array Value} {s U : State} (hW : s.WarmedH U.vm) (hw : w.before args s = true) : w.before a' U = true := word_at hW (kG_good h) hw
end
section
/-! rows of the judgement: an instruction a row -/
def kget (lv : List (Nat × Value)) (i : Nat) : Option Value := (lv.find? (fun q => q.1 == i)).map (fun q => q.2)
theorem kget_ok {lv : List (Nat × Value)} {i : Nat} {v : Value} (h : kget lv i = some v) : (i, v) ∈ lv := by
  unfold kget at h
  cases hx : lv.find? (fun q => q.1 == i) with
  | none => rw [hx] at h; cases h
  | some q =>
    rw [hx] at h
    have h1 := List.find?_some hx
    have h2 := List.mem_of_find?_eq_some hx
    have h3 : q.2 = v := Option.some.inj h
    have h4 : q.1 = i := by simpa using h1
    rw [← h3, ← h4]
    exact h2
def kins : List (Nat × Value) → Nat → Value → List (Nat × Value)
  | [], i, v => [(i, v)]
  | q :: r, i, v => if i < q.1 then (i, v) :: q :: r else q :: kins r i v
def kset (lv : List (Nat × Value)) (i : Nat) (v : Value) : List (Nat × Value) := kins (lv.filter (fun q => q.1 != i)) i v
theorem kins_mem {i : Nat} {v : Value} : ∀ (lv : List (Nat × Value)) (q : Nat × Value), q ∈ kins lv i v → q = (i, v) ∨ q ∈ lv := by
  intro lv
  induction lv with
  | nil => intro q h; exact Or.inl (by simpa [kins] using h)
  | cons x r ih =>
    intro q h
    unfold kins at h
    split at h
    · exact (List.mem_cons.mp h).elim Or.inl Or.inr
    · rcases List.mem_cons.mp h with h | h
      · exact Or.inr (by rw [h]; exact List.mem_cons_self)
      · exact (ih q h).elim Or.inl (fun z => Or.inr (List.mem_cons_of_mem _ z))
theorem kset_mem {lv : List (Nat × Value)} {i : Nat} {v : Value} {q : Nat × Value} (h : q ∈ kset lv i v) : q = (i, v) ∨ (q ∈ lv ∧ q.1 ≠ i) := by
  rcases kins_mem _ q h with h | h
  · exact Or.inl h
  · obtain ⟨h1, h2⟩ := List.mem_filter.mp h
    exact Or.inr ⟨h1, by simpa using h2⟩
def kcat (lv : List (Nat × Value)) : Bool := lv.all (fun q => q.2.category == 1)
theorem kv_cat (ad : Nat → Nat) (v : Value) : (kv ad v).category = v.category := by cases v <;> rfl
theorem kset_has {ad : Nat → Nat} {lv : List (Nat × Value)} {i nL : Nat} {v : Value} {ls : Array Slot} (hc : kcat lv = true)
    (h : lv_has ls nL ((i, kv ad v) :: (lv.map (fun q => (q.1, kv ad q.2))).filter (fun q => !(q.1 == i) && !(q.1 + 1 == i && q.2.category == 2)))) : lv_has ls nL ((kset lv i v).map (fun q => (q.1, kv ad q.2))) := by
  refine ⟨h.1, h.2.1, fun q hq => ?_⟩
  obtain ⟨q0, hq0, rfl⟩ := List.mem_map.mp hq
  rcases kset_mem hq0 with rfl | ⟨h1, h2⟩
  · exact h.2.2 _ List.mem_cons_self
  · refine h.2.2 _ (List.mem_cons_of_mem _ (List.mem_filter.mpr ⟨List.mem_map.mpr ⟨q0, h1, rfl⟩, ?_⟩))
    have h3 := List.all_eq_true.mp hc q0 h1
    have h4 : q0.2.category = 1 := by simpa using h3
    have h5 : (kv ad q0.2).category = 1 := by rw [kv_cat]; exact h4
    simp [h2, h5]
theorem kget_has {ad : Nat → Nat} {lv : List (Nat × Value)} {i nL : Nat} {v : Value} {ls : Array Slot} (hl : lv_has ls nL (lv.map (fun q => (q.1, kv ad q.2)))) (h : kget lv i = some v) : ls[i]? = some (.val (kv ad v)) :=
  hl.2.2 (i, kv ad v) (List.mem_map.mpr ⟨(i, v), kget_ok h, rfl⟩)
section KR
variable {d mid : Nat} {P : kRes → Prop} {pc : Nat} {lv : List (Nat × Value)} {st : List Value} {M : kMem}
abbrev kDec (mid pc : Nat) (i : Instr) (len : Nat) : Prop := decode (kB mid) pc = .ok (i, len)
theorem kj_iconst {n : Int} {v : Int32} (hd : kDec mid pc (.iconst n) 1) (hv : Int32.ofInt n = v) (k : kJ d mid P (pc + 1) lv (.int v :: st) M) : kJ d mid P pc lv st M := by
  intro p l e R s m args below meth c D ad cI cJ o C H locs ls hP hS hl
  exact lv_iconst C.1 C.2.1 hd hv (k p l e R s m args below meth c D ad cI cJ o C H locs ls hP hS hl)
theorem kj_bipush {n : Int} {v : Int32} (hd : kDec mid pc (.bipush n) 2) (hv : (Int8.ofInt n).toInt32 = v) (k : kJ d mid P (pc + 2) lv (.int v :: st) M) : kJ d mid P pc lv st M := by
  intro p l e R s m args below meth c D ad cI cJ o C H locs ls hP hS hl
  exact lv_bipush C.1 C.2.1 hd hv (k p l e R s m args below meth c D ad cI cJ o C H locs ls hP hS hl)
theorem kj_sipush {n : Int} {v : Int32} (hd : kDec mid pc (.sipush n) 3) (hv : (Int16.ofInt n).toInt32 = v) (k : kJ d mid P (pc + 3) lv (.int v :: st) M) : kJ d mid P pc lv st M := by
  intro p l e R s m args below meth c D ad cI cJ o C H locs ls hP hS hl
  exact lv_sipush C.1 C.2.1 hd hv (k p l e R s m args below meth c D ad cI cJ o C H locs ls hP hS hl)
theorem kj_ldc {idx x : Nat} (hd : kDec mid pc (.ldc idx) 2) (hc : (kO mid, idx, x) ∈ kKc) (k : kJ d mid P (pc + 2) lv (.int (nI x) :: st) M) : kJ d mid P pc lv st M := by
  intro p l e R s m args below meth c D ad cI cJ o C H locs ls hP hS hl
  exact lv_ldc C.1 C.2.1 C.2.2.2.1 (C.2.2.2.2.1 _ (kKc_ok _ hc)) hd (k p l e R s m args below meth c D ad cI cJ o C H locs ls hP hS hl)
theorem kj_ldcw {idx x : Nat} (hd : kDec mid pc (.ldc_w idx) 3) (hc : (kO mid, idx, x) ∈ kKc) (k : kJ d mid P (pc + 3) lv (.int (nI x) :: st) M) : kJ d mid P pc lv st M := by
  intro p l e R s m args below meth c D ad cI cJ o C H locs ls hP hS hl
  exact lv_ldcw C.1 C.2.1 C.2.2.2.1 (C.2.2.2.2.1 _ (kKc_ok _ hc)) hd (k p l e R s m args below meth c D ad cI cJ o C H locs ls hP hS hl)
theorem kj_iload_n {i : Fin 4} {x : Int32} (hd : kDec mid pc (.iload_n i) 1) (hg : kget lv i.val = some (.int x)) (k : kJ d mid P (pc + 1) lv (.int x :: st) M) : kJ d mid P pc lv st M := by
  intro p l e R s m args below meth c D ad cI cJ o C H locs ls hP hS hl
  exact lv_iload_n C.1 C.2.1 hd rfl (kget_has hl hg) (k p l e R s m args below meth c D ad cI cJ o C H locs ls hP hS hl)
theorem kj_iload {i : Nat} {x : Int32} (hd : kDec mid pc (.iload i) 2) (hg : kget lv i = some (.int x)) (k : kJ d mid P (pc + 2) lv (.int x :: st) M) : kJ d mid P pc lv st M := by
  intro p l e R s m args below meth c D ad cI cJ o C H locs ls hP hS hl
  exact lv_iload C.1 C.2.1 hd (kget_has hl hg) (k p l e R s m args below meth c D ad cI cJ o C H locs ls hP hS hl)
theorem kj_aload_n {i : Fin 4} {x : Nat} (hd : kDec mid pc (.aload_n i) 1) (hg : kget lv i.val = some (.ref x)) (k : kJ d mid P (pc + 1) lv (.ref x :: st) M) : kJ d mid P pc lv st M := by
  intro p l e R s m args below meth c D ad cI cJ o C H locs ls hP hS hl
  exact lv_aload_n C.1 C.2.1 hd rfl (kget_has hl hg) (k p l e R s m args below meth c D ad cI cJ o C H locs ls hP hS hl)
theorem kj_aload {i : Nat} {x : Nat} (hd : kDec mid pc (.aload i) 2) (hg : kget lv i = some (.ref x)) (k : kJ d mid P (pc + 2) lv (.ref x :: st) M) : kJ d mid P pc lv st M := by
  intro p l e R s m args below meth c D ad cI cJ o C H locs ls hP hS hl
  exact lv_aload C.1 C.2.1 hd (kget_has hl hg) (k p l e R s m args below meth c D ad cI cJ o C H locs ls hP hS hl)
theorem kj_istore_n {i : Fin 4} {x : Int32} (hd : kDec mid pc (.istore_n i) 1) (hc : kcat lv = true) (hn : i.val < kL mid) (k : kJ d mid P (pc + 1) (kset lv i.val (.int x)) st M) : kJ d mid P pc lv (.int x :: st) M := by
  intro p l e R s m args below meth c D ad cI cJ o C H locs ls hP hS hl
  exact lv_istore_n C.1 C.2.1 hd rfl hl hn rfl (fun ls' h' => k p l e R s m args below meth c D ad cI cJ o C H locs ls' hP hS (kset_has (v := .int x) hc h'))
theorem kj_istore {i : Nat} {x : Int32} (hd : kDec mid pc (.istore i) 2) (hc : kcat lv = true) (hn : i < kL mid) (k : kJ d mid P (pc + 2) (kset lv i (.int x)) st M) : kJ d mid P pc lv (.int x :: st) M := by
  intro p l e R s m args below meth c D ad cI cJ o C H locs ls hP hS hl
  exact lv_istore C.1 C.2.1 hd hl hn rfl (fun ls' h' => k p l e R s m args below meth c D ad cI cJ o C H locs ls' hP hS (kset_has (v := .int x) hc h'))
theorem kj_astore_n {i : Fin 4} {x : Nat} (hd : kDec mid pc (.astore_n i) 1) (hc : kcat lv = true) (hn : i.val < kL mid) (k : kJ d mid P (pc + 1) (kset lv i.val (.ref x)) st M) : kJ d mid P pc lv (.ref x :: st) M := by
  intro p l e R s m args below meth c D ad cI cJ o C H locs ls hP hS hl
  exact lv_astore_n C.1 C.2.1 hd rfl hl hn rfl (fun ls' h' => k p l e R s m args below meth c D ad cI cJ o C H locs ls' hP hS (kset_has (v := .ref x) hc h'))
theorem kj_astore {i : Nat} {x : Nat} (hd : kDec mid pc (.astore i) 2) (hc : kcat lv = true) (hn : i < kL mid) (k : kJ d mid P (pc + 2) (kset lv i (.ref x)) st M) : kJ d mid P pc lv (.ref x :: st) M := by
  intro p l e R s m args below meth c D ad cI cJ o C H locs ls hP hS hl
  exact lv_astore C.1 C.2.1 hd hl hn rfl (fun ls' h' => k p l e R s m args below meth c D ad cI cJ o C H locs ls' hP hS (kset_has (v := .ref x) hc h'))
theorem kj_iinc {i : Nat} {n : Int} {x v : Int32} (hd : kDec mid pc (.iinc i n) 3) (hc : kcat lv = true) (hn : i < kL mid) (hg : kget lv i = some (.int x)) (hv : x + Int32.ofInt n = v) (k : kJ d mid P (pc + 3) (kset lv i (.int v)) st M) : kJ d mid P pc lv st M := by
  intro p l e R s m args below meth c D ad cI cJ o C H locs ls hP hS hl
  obtain ⟨j, hj⟩ := List.getElem?_of_mem (List.mem_map.mpr ⟨(i, Value.int x), kget_ok hg, rfl⟩ : (i, kv ad (.int x)) ∈ lv.map (fun q => (q.1, kv ad q.2)))
  exact lv_iinc C.1 C.2.1 hd hl hj hv hn rfl (fun ls' h' => k p l e R s m args below meth c D ad cI cJ o C H locs ls' hP hS (kset_has (v := .int v) hc h'))
theorem kj_iadd {x y : Int32} (hd : kDec mid pc .iadd 1) (k : kJ d mid P (pc + 1) lv (.int (x + y) :: st) M) : kJ d mid P pc lv (.int y :: .int x :: st) M := by
  intro p l e R s m args below meth c D ad cI cJ o C H locs ls hP hS hl
  exact lv_iadd C.1 C.2.1 hd (k p l e R s m args below meth c D ad cI cJ o C H locs ls hP hS hl)
theorem kj_isub {x y : Int32} (hd : kDec mid pc .isub 1) (k : kJ d mid P (pc + 1) lv (.int (x - y) :: st) M) : kJ d mid P pc lv (.int y :: .int x :: st) M := by
  intro p l e R s m args below meth c D ad cI cJ o C H locs ls hP hS hl
  exact lv_isub C.1 C.2.1 hd (k p l e R s m args below meth c D ad cI cJ o C H locs ls hP hS hl)
theorem kj_imul {x y : Int32} (hd : kDec mid pc .imul 1) (k : kJ d mid P (pc + 1) lv (.int (x * y) :: st) M) : kJ d mid P pc lv (.int y :: .int x :: st) M := by
  intro p l e R s m args below meth c D ad cI cJ o C H locs ls hP hS hl
  exact lv_imul C.1 C.2.1 hd (k p l e R s m args below meth c D ad cI cJ o C H locs ls hP hS hl)
theorem kj_iand {x y : Int32} (hd : kDec mid pc .iand 1) (k : kJ d mid P (pc + 1) lv (.int (x &&& y) :: st) M) : kJ d mid P pc lv (.int y :: .int x :: st) M := by
  intro p l e R s m args below meth c D ad cI cJ o C H locs ls hP hS hl
  exact lv_iand C.1 C.2.1 hd (k p l e R s m args below meth c D ad cI cJ o C H locs ls hP hS hl)
theorem kj_ior {x y : Int32} (hd : kDec mid pc .ior 1) (k : kJ d mid P (pc + 1) lv (.int (x ||| y) :: st) M) : kJ d mid P pc lv (.int y :: .int x :: st) M := by
  intro p l e R s m args below meth c D ad cI cJ o C H locs ls hP hS hl
  exact lv_ior C.1 C.2.1 hd (k p l e R s m args below meth c D ad cI cJ o C H locs ls hP hS hl)
theorem kj_ixor {x y : Int32} (hd : kDec mid pc .ixor 1) (k : kJ d mid P (pc + 1) lv (.int (x ^^^ y) :: st) M) : kJ d mid P pc lv (.int y :: .int x :: st) M := by
  intro p l e R s m args below meth c D ad cI cJ o C H locs ls hP hS hl
  exact lv_ixor C.1 C.2.1 hd (k p l e R s m args below meth c D ad cI cJ o C H locs ls hP hS hl)
theorem kj_idiv {x y : Int32} (hd : kDec mid pc .idiv 1) (hne : ¬ y = 0) (k : kJ d mid P (pc + 1) lv (.int (x / y) :: st) M) : kJ d mid P pc lv (.int y :: .int x :: st) M := by
  intro p l e R s m args below meth c D ad cI cJ o C H locs ls hP hS hl
  exact lv_idiv C.1 C.2.1 hd hne (k p l e R s m args below meth c D ad cI cJ o C H locs ls hP hS hl)
theorem kj_irem {x y : Int32} (hd : kDec mid pc .irem 1) (hne : ¬ y = 0) (k : kJ d mid P (pc + 1) lv (.int (x - x / y * y) :: st) M) : kJ d mid P pc lv (.int y :: .int x :: st) M := by
  intro p l e R s m args below meth c D ad cI cJ o C H locs ls hP hS hl
  exact lv_irem C.1 C.2.1 hd hne (k p l e R s m args below meth c D ad cI cJ o C H locs ls hP hS hl)
theorem kj_ishl {x y : Int32} (hd : kDec mid pc .ishl 1) (k : kJ d mid P (pc + 1) lv (.int (x <<< (y &&& 31)) :: st) M) : kJ d mid P pc lv (.int y :: .int x :: st) M := by
  intro p l e R s m args below meth c D ad cI cJ o C H locs ls hP hS hl
  exact lv_ishl C.1 C.2.1 hd (k p l e R s m args below meth c D ad cI cJ o C H locs ls hP hS hl)
theorem kj_ishr {x y : Int32} (hd : kDec mid pc .ishr 1) (k : kJ d mid P (pc + 1) lv (.int (x >>> (y &&& 31)) :: st) M) : kJ d mid P pc lv (.int y :: .int x :: st) M := by
  intro p l e R s m args below meth c D ad cI cJ o C H locs ls hP hS hl
  exact lv_ishr C.1 C.2.1 hd (k p l e R s m args below meth c D ad cI cJ o C H locs ls hP hS hl)
theorem kj_iushr {x y : Int32} (hd : kDec mid pc .iushr 1) (k : kJ d mid P (pc + 1) lv (.int ((x.toUInt32 >>> (y.toUInt32 &&& Int32.toUInt32 31)).toInt32) :: st) M) : kJ d mid P pc lv (.int y :: .int x :: st) M := by
  intro p l e R s m args below meth c D ad cI cJ o C H locs ls hP hS hl
  exact lv_iushr C.1 C.2.1 hd rfl (k p l e R s m args below meth c D ad cI cJ o C H locs ls hP hS hl)
theorem kj_dup {v : Value} (hd : kDec mid pc .dup 1) (hv : v.category = 1) (k : kJ d mid P (pc + 1) lv (v :: v :: st) M) : kJ d mid P pc lv (v :: st) M := by
  intro p l e R s m args below meth c D ad cI cJ o C H locs ls hP hS hl
  exact lv_dup C.1 C.2.1 hd (by rw [kv_cat]; exact hv) (k p l e R s m args below meth c D ad cI cJ o C H locs ls hP hS hl)
theorem kj_dup2 {v w : Value} (hd : kDec mid pc .dup2 1) (hv : v.category = 1) (hw : w.category = 1) (k : kJ d mid P (pc + 1) lv (v :: w :: v :: w :: st) M) : kJ d mid P pc lv (v :: w :: st) M := by
  intro p l e R s m args below meth c D ad cI cJ o C H locs ls hP hS hl
  exact lv_dup2_11 C.1 C.2.1 hd (by rw [kv_cat]; exact hv) (by rw [kv_cat]; exact hw) (k p l e R s m args below meth c D ad cI cJ o C H locs ls hP hS hl)
theorem kj_goto {off : Int} {tgt : Nat} (hd : kDec mid pc (.goto off) 3) (ht : (pc : Int) + off = (tgt : Int)) (k : kJ d mid P tgt lv st M) : kJ d mid P pc lv st M := by
  intro p l e R s m args below meth c D ad cI cJ o C H locs ls hP hS hl
  exact lv_goto C.1 C.2.1 hd ht (k p l e R s m args below meth c D ad cI cJ o C H locs ls hP hS hl)
theorem kj_if_eq {x : Int32} {off : Int} {tgt : Nat} (hd : kDec mid pc (.ifCond .eq off) 3) (ht : (pc : Int) + off = (tgt : Int)) (k1 : x = 0 → kJ d mid P tgt lv st M) (k2 : ¬ x = 0 → kJ d mid P (pc + 3) lv st M) : kJ d mid P pc lv (.int x :: st) M := by
  intro p l e R s m args below meth c D ad cI cJ o C H locs ls hP hS hl
  exact lv_if_eq C.1 C.2.1 hd ht (fun h => k1 h p l e R s m args below meth c D ad cI cJ o C H locs ls hP hS hl) (fun h => k2 h p l e R s m args below meth c D ad cI cJ o C H locs ls hP hS hl)
theorem kj_if_ne {x : Int32} {off : Int} {tgt : Nat} (hd : kDec mid pc (.ifCond .ne off) 3) (ht : (pc : Int) + off = (tgt : Int)) (k1 : ¬ x = 0 → kJ d mid P tgt lv st M) (k2 : x = 0 → kJ d mid P (pc + 3) lv st M) : kJ d mid P pc lv (.int x :: st) M := by
  intro p l e R s m args below meth c D ad cI cJ o C H locs ls hP hS hl
  exact lv_if_ne C.1 C.2.1 hd ht (fun h => k1 h p l e R s m args below meth c D ad cI cJ o C H locs ls hP hS hl) (fun h => k2 h p l e R s m args below meth c D ad cI cJ o C H locs ls hP hS hl)
theorem kj_if_lt {x : Int32} {off : Int} {tgt : Nat} (hd : kDec mid pc (.ifCond .lt off) 3) (ht : (pc : Int) + off = (tgt : Int)) (k1 : x < 0 → kJ d mid P tgt lv st M) (k2 : ¬ x < 0 → kJ d mid P (pc + 3) lv st M) : kJ d mid P pc lv (.int x :: st) M := by
  intro p l e R s m args below meth c D ad cI cJ o C H locs ls hP hS hl
  exact lv_if_lt C.1 C.2.1 hd ht (fun h => k1 h p l e R s m args below meth c D ad cI cJ o C H locs ls hP hS hl) (fun h => k2 h p l e R s m args below meth c D ad cI cJ o C H locs ls hP hS hl)
theorem kj_if_le {x : Int32} {off : Int} {tgt : Nat} (hd : kDec mid pc (.ifCond .le off) 3) (ht : (pc : Int) + off = (tgt : Int)) (k1 : x ≤ 0 → kJ d mid P tgt lv st M) (k2 : ¬ x ≤ 0 → kJ d mid P (pc + 3) lv st M) : kJ d mid P pc lv (.int x :: st) M := by
  intro p l e R s m args below meth c D ad cI cJ o C H locs ls hP hS hl
  exact lv_if_le C.1 C.2.1 hd ht (fun h => k1 h p l e R s m args below meth c D ad cI cJ o C H locs ls hP hS hl) (fun h => k2 h p l e R s m args below meth c D ad cI cJ o C H locs ls hP hS hl)
theorem kj_icmp_eq {x y : Int32} {off : Int} {tgt : Nat} (hd : kDec mid pc (.if_icmp .eq off) 3) (ht : (pc : Int) + off = (tgt : Int)) (k1 : x = y → kJ d mid P tgt lv st M) (k2 : ¬ x = y → kJ d mid P (pc + 3) lv st M) : kJ d mid P pc lv (.int y :: .int x :: st) M := by
  intro p l e R s m args below meth c D ad cI cJ o C H locs ls hP hS hl
  exact lv_icmp_eq C.1 C.2.1 hd ht (fun h => k1 h p l e R s m args below meth c D ad cI cJ o C H locs ls hP hS hl) (fun h => k2 h p l e R s m args below meth c D ad cI cJ o C H locs ls hP hS hl)
theorem kj_icmp_ne {x y : Int32} {off : Int} {tgt : Nat} (hd : kDec mid pc (.if_icmp .ne off) 3) (ht : (pc : Int) + off = (tgt : Int)) (k1 : ¬ x = y → kJ d mid P tgt lv st M) (k2 : x = y → kJ d mid P (pc + 3) lv st M) : kJ d mid P pc lv (.int y :: .int x :: st) M := by
  intro p l e R s m args below meth c D ad cI cJ o C H locs ls hP hS hl
  exact lv_icmp_ne C.1 C.2.1 hd ht (fun h => k1 h p l e R s m args below meth c D ad cI cJ o C H locs ls hP hS hl) (fun h => k2 h p l e R s m args below meth c D ad cI cJ o C H locs ls hP hS hl)
theorem kj_icmp_lt {x y : Int32} {off : Int} {tgt : Nat} (hd : kDec mid pc (.if_icmp .lt off) 3) (ht : (pc : Int) + off = (tgt : Int)) (k1 : x < y → kJ d mid P tgt lv st M) (k2 : ¬ x < y → kJ d mid P (pc + 3) lv st M) : kJ d mid P pc lv (.int y :: .int x :: st) M := by
  intro p l e R s m args below meth c D ad cI cJ o C H locs ls hP hS hl
  exact lv_icmp_lt C.1 C.2.1 hd ht (fun h => k1 h p l e R s m args below meth c D ad cI cJ o C H locs ls hP hS hl) (fun h => k2 h p l e R s m args below meth c D ad cI cJ o C H locs ls hP hS hl)
theorem kj_icmp_ge {x y : Int32} {off : Int} {tgt : Nat} (hd : kDec mid pc (.if_icmp .ge off) 3) (ht : (pc : Int) + off = (tgt : Int)) (k1 : y ≤ x → kJ d mid P tgt lv st M) (k2 : ¬ y ≤ x → kJ d mid P (pc + 3) lv st M) : kJ d mid P pc lv (.int y :: .int x :: st) M := by
  intro p l e R s m args below meth c D ad cI cJ o C H locs ls hP hS hl
  exact lv_icmp_ge C.1 C.2.1 hd ht (fun h => k1 h p l e R s m args below meth c D ad cI cJ o C H locs ls hP hS hl) (fun h => k2 h p l e R s m args below meth c D ad cI cJ o C H locs ls hP hS hl)
theorem kj_icmp_gt {x y : Int32} {off : Int} {tgt : Nat} (hd : kDec mid pc (.if_icmp .gt off) 3) (ht : (pc : Int) + off = (tgt : Int)) (k1 : y < x → kJ d mid P tgt lv st M) (k2 : ¬ y < x → kJ d mid P (pc + 3) lv st M) : kJ d mid P pc lv (.int y :: .int x :: st) M := by
  intro p l e R s m args below meth c D ad cI cJ o C H locs ls hP hS hl
  exact lv_icmp_gt C.1 C.2.1 hd ht (fun h => k1 h p l e R s m args below meth c D ad cI cJ o C H locs ls hP hS hl) (fun h => k2 h p l e R s m args below meth c D ad cI cJ o C H locs ls hP hS hl)
theorem kj_icmp_le {x y : Int32} {off : Int} {tgt : Nat} (hd : kDec mid pc (.if_icmp .le off) 3) (ht : (pc : Int) + off = (tgt : Int)) (k1 : x ≤ y → kJ d mid P tgt lv st M) (k2 : ¬ x ≤ y → kJ d mid P (pc + 3) lv st M) : kJ d mid P pc lv (.int y :: .int x :: st) M := by
  intro p l e R s m args below meth c D ad cI cJ o C H locs ls hP hS hl
  exact lv_icmp_le C.1 C.2.1 hd ht (fun h => k1 h p l e R s m args below meth c D ad cI cJ o C H locs ls hP hS hl) (fun h => k2 h p l e R s m args below meth c D ad cI cJ o C H locs ls hP hS hl)
theorem kj_acmp_ne {a b : Nat} {off : Int} {tgt : Nat} (hd : kDec mid pc (.if_acmp .ne off) 3) (ht : (pc : Int) + off = (tgt : Int)) (ha : a < 16) (hb : b < 16) (k1 : ¬ a = b → kJ d mid P tgt lv st M) (k2 : a = b → kJ d mid P (pc + 3) lv st M) : kJ d mid P pc lv (.ref b :: .ref a :: st) M := by
  intro p l e R s m args below meth c D ad cI cJ o C H locs ls hP hS hl
  have hi : kInj ad := C.2.2.2.2.2.2.2.2.2.2.2.2
  exact lv_acmp_ne (rx := some (ad a)) (ry := some (ad b)) C.1 C.2.1 hd ht (fun h => k1 (fun z => h (by rw [z])) p l e R s m args below meth c D ad cI cJ o C H locs ls hP hS hl) (fun h => k2 (hi a b ha hb (Option.some.inj h)) p l e R s m args below meth c D ad cI cJ o C H locs ls hP hS hl)
end KR
end
section
/-! rows of the judgement: fields, arrays, ends, throws, calls -/
theorem kcl (ci : Nat) (h : ci < 3) : vwCl[ci]? = some (kCn ci, kTf ci, kNf ci) := by
  rcases (show ci = 0 ∨ ci = 1 ∨ ci = 2 by omega) with rfl | rfl | rfl <;> rfl
theorem kuw (ci : Nat) (h : ci < 3) : ∀ w ∈ u_ws (kCn ci) (kTf ci) (kNf ci), w ∈ kG := by
  rcases (show ci = 0 ∨ ci = 1 ∨ ci = 2 by omega) with rfl | rfl | rfl
  · exact kWs0_ok.1
  · exact kWs0_ok.2.1
  · exact kWs0_ok.2.2
theorem knm (ci : Nat) (h : ci < 3) : ∀ a, a < kNf ci → ∀ b, b < kNf ci → a ≠ b → (kTf ci a).2.1 ≠ (kTf ci b).2.1 := by
  rcases (show ci = 0 ∨ ci = 1 ∨ ci = 2 by omega) with rfl | rfl | rfl
  · exact nmX0
  · exact nmX1
  · exact nmX2
theorem ktyok (ci : Nat) (h : ci < 3) : ∀ k, k < kNf ci → parseFieldDescriptor (kTf ci k).2.2.1 = some (kty ci k) := by
  rcases (show ci = 0 ∨ ci = 1 ∨ ci = 2 by omega) with rfl | rfl | rfl
  · exact tyX0_ok
  · exact tyX1_ok
  · exact tyX2_ok
/-- where a number of an object stands in the memory: its place, the component, the index -/
def ksc (ci f : Nat) : Option (Nat × Nat × Nat) := match ci, f with
  | 1, 5 => some (0, 0, 0)
  | 1, 6 => some (0, 0, 1)
  | 1, 7 => some (0, 0, 2)
  | 1, 8 => some (0, 0, 3)
  | 2, 0 => some (9, 9, 4)
  | 2, 5 => some (9, 9, 0)
  | 2, 6 => some (9, 9, 1)
  | 2, 7 => some (9, 9, 2)
  | 2, 8 => some (9, 9, 3)
  | _, _ => none
theorem ksc_ok {ci f : Nat} {q : Nat × Nat × Nat} (h : ksc ci f = some q) (M : kMem) (x : Int32) (cI cJ : ClassId) (o : Int64) :
    ∃ fs : List Value, (kaw cI cJ o M)[q.1]? = some (.inr (ci, fs)) ∧ f < fs.length ∧ (kTf ci f).2.2.2 = false ∧ f < kNf ci ∧ ci < 3 ∧ (kaw cI cJ o M).set q.1 (.inr (ci, fs.set f (.int x))) = kaw cI cJ o (mw M q.2.1 q.2.2 x) := by
  unfold ksc at h
  split at h <;> first | (cases h; exact ⟨_, rfl, Nat.le_of_ble_eq_true rfl, rfl, Nat.le_of_ble_eq_true rfl, Nat.le_of_ble_eq_true rfl, rfl⟩) | cases h
theorem kar_set {a n : Nat} (h : kar a = some n) (M : kMem) (f : Nat → Int32) (cI cJ : ClassId) (o : Int64) : (kaw cI cJ o M).set a (.inl (cI, n, .inl f)) = kaw cI cJ o (va_up M a f) := by
  unfold kar at h
  split at h <;> first | (cases h; rfl) | cases h
theorem kmap_set (ad : Nat → Nat) (fs : List Value) (f : Nat) (x : Int32) : (fs.set f (.int x)).map (kv ad) = (fs.map (kv ad)).set f (.int x) := by
  rw [List.map_set]
  rfl
section KM
variable {d mid : Nat} {P : kRes → Prop} {pc : Nat} {lv : List (Nat × Value)} {st : List Value} {M : kMem}
theorem kj_get {idx ci f a : Nat} {fs : List Value} {v : Value} (hd : kDec mid pc (.getfield idx) 3) (hl : (kO mid, idx, ci, f) ∈ kFl) (ho : kob M a = some (ci, fs)) (hv : fs[f]? = some v) (k : kJ d mid P (pc + 3) lv (v :: st) M) : kJ d mid P pc lv (.ref a :: st) M := by
  intro p l e R s m args below meth c D ad cI cJ o C H locs ls hP hS hll
  obtain ⟨h1, h2, h3⟩ := kFl_ok _ hl
  have he := kW_at (ad := ad) (kob_ok (cI := cI) (cJ := cJ) (o := o) ho)
  exact va_get (D := D) (ci := ci) (v := kv ad v) (C := kCn ci) (T := kTf ci) (N := kNf ci) C.1 C.2.1 C.2.2.2.2.1 (kuw ci h3) C.2.2.2.1 C.2.2.2.2.2.1 hP a he (kcl ci h3) f h2 (C.2.2.2.2.1 _ h1) (fun _ h9 => h9) (by rw [List.getElem?_map, hv]; rfl) hd (k p l e R s m args below meth c D ad cI cJ o C H locs ls hP hS hll)
theorem kj_put {idx ci f : Nat} {q : Nat × Nat × Nat} {x : Int32} (hd : kDec mid pc (.putfield idx) 3) (hl : (kO mid, idx, ci, f) ∈ kFl) (hq : ksc ci f = some q) (hn : narrow (kty ci f) (.int x) = .int x) (hf : fits (kty ci f) (.int x) = true) (k : kJ d mid P (pc + 3) lv st (mw M q.2.1 q.2.2 x)) : kJ d mid P pc lv (.int x :: .ref q.1 :: st) M := by
  intro p l e R s m args below meth c D ad cI cJ o C H locs ls hP hS hll
  obtain ⟨h1, h2, h3⟩ := kFl_ok _ hl
  obtain ⟨fs, g1, g2, g3, g4, g5, g6⟩ := ksc_ok hq M x cI cJ o
  have he := kW_at (ad := ad) g1
  refine va_put (D := D) (ci := ci) (v := .int x) (C := kCn ci) (T := kTf ci) (N := kNf ci) C.1 C.2.1 C.2.2.2.2.1 (kuw ci h3) (kty ci) (ktyok ci h3) (knm ci h3) C.2.2.2.1 C.2.2.2.2.2.1 hP (kD C.2.2.2.2.2.2.2.2.2.2.2.2 cI cJ o M s.heap.size) hS q.1 he (kcl ci h3) f h2 (C.2.2.2.2.1 _ h1) (fun _ h9 => h9) g3 (ktyok ci h3 f h2) hn hf (by rw [List.length_map]; exact g2) hd (fun H1 locs1 hP1 _ hS1 => ?_)
  have e9 : (kW ad cI cJ o M).set q.1 (ad q.1, .inr (ci, (fs.map (kv ad)).set f (.int x))) = kW ad cI cJ o (mw M q.2.1 q.2.2 x) := by
    rw [← kmap_set]
    exact kW_set (x := .inr (ci, fs.set f (.int x))) g6
  have hP2 : va_P D vwCl ((kW ad cI cJ o M).set q.1 (ad q.1, .inr (ci, (fs.map (kv ad)).set f (.int x)))) H1 := hP1
  rw [e9] at hP2
  exact k p l e R s m args below meth c D ad cI cJ o C H1 locs1 ls hP2 hS1 hll
theorem kj_ald {a n j : Nat} {i : Int32} (hd : kDec mid pc .iaload 1) (ha : kar a = some n) (hi : i = nI j) (hj : j < n) (k : kJ d mid P (pc + 1) lv (.int (M a j) :: st) M) : kJ d mid P pc lv (.int i :: .ref a :: st) M := by
  intro p l e R s m args below meth c D ad cI cJ o C H locs ls hP hS hll
  subst hi
  have hn : n < 2 ^ 31 := by
    unfold kar at ha
    split at ha <;> first | (cases ha; decide) | cases ha
  have he := kW_at (ad := ad) (kar_ok (cI := cI) (cJ := cJ) (o := o) (M := M) ha)
  have hc : (nI j).toNatClampNeg = j := nI_clamp (by omega)
  refine va_iald C.1 C.2.1 C.2.2.2.2.2.1 hP a 0 he rfl (vp_in_nI hj hn) hd ?_
  rw [hc]
  exact k p l e R s m args below meth c D ad cI cJ o C H locs ls hP hS hll
theorem kj_ast {a n j : Nat} {i x : Int32} (hd : kDec mid pc .iastore 1) (ha : kar a = some n) (hi : i = nI j) (hj : j < n) (k : kJ d mid P (pc + 1) lv st (mw M a j x)) : kJ d mid P pc lv (.int x :: .int i :: .ref a :: st) M := by
  intro p l e R s m args below meth c D ad cI cJ o C H locs ls hP hS hll
  subst hi
  have hn : n < 2 ^ 31 := by
    unfold kar at ha
    split at ha <;> first | (cases ha; decide) | cases ha
  have he := kW_at (ad := ad) (kar_ok (cI := cI) (cJ := cJ) (o := o) (M := M) ha)
  have hc : (nI j).toNatClampNeg = j := nI_clamp (by omega)
  refine va_iast C.1 C.2.1 C.2.2.2.2.2.1 hP (kD C.2.2.2.2.2.2.2.2.2.2.2.2 cI cJ o M s.heap.size) hS a 0 he rfl (vp_in_nI hj hn) hd (fun H1 locs1 hP1 _ hS1 => ?_)
  rw [hc] at hP1
  have e9 : (kW ad cI cJ o M).set a (ad a, .inl (cI, n, .inl (upd (M a) j x))) = kW ad cI cJ o (mw M a j x) := kW_set (x := .inl (cI, n, .inl (upd (M a) j x))) (kar_set ha M _ cI cJ o)
  rw [e9] at hP1
  exact k p l e R s m args below meth c D ad cI cJ o C H1 locs1 ls hP1 hS1 hll
theorem kj_copy {idx a b na nb i j n : Nat} {x y z : Int32} (hd : kDec mid pc (.invokestatic idx) 3) (hl : (kO mid, idx) ∈ kAc) (ha : kar a = some na) (hb : kar b = some nb) (hx : x = nI i) (hy : y = nI j) (hz : z = nI n) (h1 : i + n ≤ na) (h2 : j + n ≤ nb) (hw : (st.map fun v => v.category).sum ≤ 8) (k : kJ d mid P (pc + 3) lv st (va_up M b (va_cpy (M a) (M b) i j n))) : kJ d mid P pc lv (.int z :: .int y :: .ref b :: .int x :: .ref a :: st) M := by
  intro p l e R s m args below meth c D ad cI cJ o C H locs ls hP hS hll
  subst hx; subst hy; subst hz
  have hlt : ∀ {a n : Nat}, kar a = some n → n ≤ 3072 := by
    intro a n ha
    unfold kar at ha
    split at ha <;> first | (cases ha; decide) | cases ha
  have hna := hlt ha
  have hnb := hlt hb
  have hea := kW_at (ad := ad) (kar_ok (cI := cI) (cJ := cJ) (o := o) (M := M) ha)
  have heb := kW_at (ad := ad) (kar_ok (cI := cI) (cJ := cJ) (o := o) (M := M) hb)
  have ci : (nI i).toNatClampNeg = i := nI_clamp (by omega)
  have cj : (nI j).toNatClampNeg = j := nI_clamp (by omega)
  have cn : (nI n).toNatClampNeg = n := nI_clamp (by omega)
  have hR : R = kR d := C.2.2.2.2.2.2.2.2.2.2.2.1
  refine va_copyi C.1 C.2.1 (by rw [C.2.2.1]; exact hll.1.symm) C.2.2.2.1 (C.2.2.2.2.1 _ (kAc_ok (kO mid, idx) hl)) (C.2.2.2.2.1 _ kAcs_ok.1) (C.2.2.2.2.1 _ kAcs_ok.2.1) (C.2.2.2.2.1 _ kAcs_ok.2.2) C.2.2.2.2.2.1 hP (kD C.2.2.2.2.2.2.2.2.2.2.2.2 cI cJ o M s.heap.size) hS a b 0 0 hea heb rfl rfl rfl (nI_pos (by omega)) (nI_pos (by omega)) (nI_pos (by omega)) (by rw [ci, cn]; exact h1) (by rw [cj, cn]; exact h2) (fun _ _ => rfl) (by rw [hR]; show 1 ≤ 6 + d; omega) ?_ hd (fun H1 locs1 hP1 _ hS1 => ?_)
  · rw [hR]
    have e1 : ((st.map (kv ad)).map fun v => v.category) = st.map fun v => v.category := by
      rw [List.map_map]
      exact List.map_congr_left fun v _ => kv_cat ad v
    have e2 : nativeFrameWords "java/lang/System" "arraycopy" 5 = 7 := by decide +kernel
    rw [e1, e2]
    show _ ≤ 90 + 28 * d
    omega
  · rw [ci, cj, cn] at hP1
    have e9 : (kW ad cI cJ o M).set b (ad b, .inl (cI, nb, .inl (va_cpy (M a) (M b) i j n))) = kW ad cI cJ o (va_up M b (va_cpy (M a) (M b) i j n)) := kW_set (x := .inl (cI, nb, .inl (va_cpy (M a) (M b) i j n))) (kar_set hb M _ cI cJ o)
    rw [e9] at hP1
    exact k p l e R s m args below meth c D ad cI cJ o C H1 locs1 ls hP1 hS1 hll
theorem kj_ends {below : List Frame} {D : va_G} {ad : Nat → Nat} {cI cJ : ClassId} {o : Int64} {s : State} {args : Array Value} {v : Option Value} (hp : P (.inl (v, M))) {t : State}
    (h : MQ below (fun _ s' oc t => oc = .returned (v.map (kv ad)) ∧ va_P D vwCl (kW ad cI cJ o M) t.heap ∧ va_F (kA ad s'.heap.size) s' t) args s 0 0 (kA ad s.heap.size) t) : kMQ below D ad cI cJ o P s t := by
  obtain ⟨oc, h1, h2, ⟨h3, h4, h5⟩, L, ⟨-, h6, h7⟩, h8⟩ := h
  exact ⟨oc, h1, h2, Or.inl ⟨v, M, h3, hp, h4, h5, h6, L, h7, h8⟩⟩
theorem kj_iret {x : Int32} {ty : FieldType} (hd : kDec mid pc .ireturn 1) (hr : kRt mid = some ty) (hn : narrow ty (.int x) = .int x) (hp : P (.inl (some (.int x), M))) : kJ d mid P pc lv [.int x] M := by
  intro p l e R s m args below meth c D ad cI cJ o C H locs ls hP hS hll
  have hr' : meth.sig.returnType = some ty := by rw [C.2.2.2.2.2.2.2.2.2.2.1]; exact hr
  have hlk : meth.locks = false := C.2.2.2.2.2.2.2.1
  refine k_imp (fun t h => kj_ends (args := args) (v := some (.int x)) hp h) ?_
  exact W.zret C.1 C.2.1 hr' hn (fun t ht hW => ⟨rfl, by rw [ht]; exact hP, hS.F ht⟩) hS.2.2 hd hlk
theorem kj_vret (hd : kDec mid pc .return_ 1) (hr : kRt mid = none) (hp : P (.inl (none, M))) : kJ d mid P pc lv [] M := by
  intro p l e R s m args below meth c D ad cI cJ o C H locs ls hP hS hll
  have hr' : meth.sig.returnType = none := by rw [C.2.2.2.2.2.2.2.2.2.2.1]; exact hr
  have hlk : meth.locks = false := C.2.2.2.2.2.2.2.1
  refine k_imp (fun t h => kj_ends (args := args) (v := none) hp h) ?_
  exact W.vret C.1 C.2.1 hr' (fun t ht hW => ⟨rfl, by rw [ht]; exact hP, hS.F ht⟩) hS.2.2 hd hlk
theorem kj_aret {a : Nat} {nm : String} (hd : kDec mid pc .areturn 1) (hr : kRt mid = some (.object nm)) (hp : P (.inl (some (.ref a), M))) : kJ d mid P pc lv [.ref a] M := by
  intro p l e R s m args below meth c D ad cI cJ o C H locs ls hP hS hll
  have hr' : meth.sig.returnType = some (.object nm) := by rw [C.2.2.2.2.2.2.2.2.2.2.1]; exact hr
  have hlk : meth.locks = false := C.2.2.2.2.2.2.2.1
  refine k_imp (fun t h => kj_ends (args := args) (v := some (.ref a)) hp h) ?_
  exact W.aret C.1 C.2.1 hr' (Or.inl ⟨_, rfl⟩) (Or.inr ⟨_, rfl⟩) (fun t ht hW => ⟨rfl, by rw [ht]; exact hP, hS.F ht⟩) hS.2.2 hd hlk
theorem kj_throw {r : Nat × Nat × Nat × Nat × Nat × String × String} (hr : r ∈ kTh) (hm : r.1 = mid) (hpc : r.2.1 = pc) (hw : (st.map fun v => v.category).sum ≤ 7) (hp : P (.inr (r.2.2.2.2.2.1, M))) : kJ d mid P pc lv st M := by
  intro p l e R s m args below meth c D ad cI cJ o C H locs ls hP hS hll
  obtain ⟨w1, w2, w3, w4, w5⟩ := kTh_ok r hr
  obtain ⟨d0, d3, d4, d6, d9, hO⟩ := kTh_dec r hr
  rw [hm, hpc] at d0 d3 d4 d6 d9
  rw [hm] at hO
  obtain ⟨hx, hb, hml, hown, hts, hK, hz, hlk, htab, hst, hrt, hR, hi⟩ := C
  obtain ⟨z1, z2, z3, z4⟩ := hz
  obtain ⟨sa, hsa⟩ := z3 r hr
  have hown1 : s.vm.findClass RX1 = some m.cls := by rw [hO] at hown; exact hown
  have e1 : ((st.map (kv ad)).map fun v => v.category) = st.map fun v => v.category := by
    rw [List.map_map]
    exact List.map_congr_left fun v _ => kv_cat ad v
  refine k_imp (Q := vx_MQ below (fun _ _ _ _ => False) (fun E s' t => E = r.2.2.2.2.2.1 ∧ va_P D vwCl (kW ad cI cJ o M) t.heap ∧ va_F (kA ad s'.heap.size) s' t) args s 1 6 (kA ad s.heap.size)) (fun t h => ?_) ?_
  · obtain ⟨oc, h1, h2, h3⟩ := h
    rcases h3 with ⟨h3, -⟩ | ⟨q, rfl, E, ce, L, ⟨rfl, g1, g2⟩, g3, g4, g5, g6, g7, g8⟩
    · exact h3.elim
    · exact ⟨_, h1, h2, Or.inr ⟨q, _, M, ce, rfl, hp, g3, g4, g5, g1, g2, g6, L, g7, g8⟩⟩
  · refine vx_throwS (A := kA ad s.heap.size) (names := kThN) (is := r.2.2.2.1) (ic := r.2.2.2.2.1) (ik := r.2.2.1) (text := r.2.2.2.2.2.2) (sa := sa) hx hb hst hown1 w5 kThN_ok (hts _ w1) (hts _ w2) hsa (fun w hw9 => (w3 w hw9).elim (hts w) (fun h9 => z4 w h9 args)) w4 z1 z2 hS (by rw [hml]; exact hll.1) d0 d3 d4 d6 d9 (fun x hx9 => (htab x hx9).elim) (by rw [hR]; show 2 + 3 < 6 + d; omega) ?_ (by rw [hR]; exact Nat.le_refl _) (by rw [hR]; exact Nat.le_refl _) hlk (fun t _ h2 h3 => ?_) hS.2.2 (Nat.le_refl _) (Nat.le_refl _)
    · rw [hR, e1]
      show _ + (13 * (2 + 1) + 43) ≤ 90 + 28 * d
      omega
    · refine ⟨rfl, hP.kept (fun k q hk => h3 q.1 ((hP k q hk).lt)), Nat.le_trans hS.1 h2, fun q hq hA => ?_⟩
      rw [h3 q (Nat.lt_of_lt_of_le hq hS.1)]
      exact hS.2.1 q hq hA
end KM
end
section
/-! rows of the judgement: calls by contract, a method's body -/
theorem kVi_lt : ∀ i ∈ kVi, i < 118 := by decide +kernel
theorem kSi_lt : ∀ i ∈ kSi, i < 118 := by decide +kernel
section KL
variable {p : Program} {l : Launch} {e : Env} {R : Room} {s : State} {m : MethodId} {args : Array Value} {below : List Frame} {meth : Method} {c : Code} {D : va_G} {ad : Nat → Nat} {cI cJ : ClassId} {o : Int64}
theorem kS_on {T t : State} {locs L : List Loc} (hS : va_S (kA ad s.heap.size) s.heap T.heap locs) {U : State} (hU : U.heap = T.heap) (hF : va_F (kA ad U.heap.size) U t) (hL : ∀ q ∈ L, kA ad U.heap.size q.base) {B : State} (hB : B.heap = t.heap) : va_S (kA ad s.heap.size) s.heap B.heap (locs ++ L) := by
  rw [hU] at hL
  obtain ⟨f1, f2⟩ := hF
  rw [hU] at f1 f2
  refine ⟨Nat.le_trans hS.1 (by rw [hB]; exact f1), fun q h1 h2 => ?_, fun q hq => ?_⟩
  · rw [hB, f2 q (Nat.lt_of_lt_of_le h1 hS.1) (fun z => h2 (kA_mono hS.1 z))]
    exact hS.2.1 q h1 h2
  · rcases List.mem_append.mp hq with h | h
    · exact hS.2.2 q h
    · exact kA_mono hS.1 (hL q h)
theorem k_met {d mid callee : Nat} (C : kCx (d + 1) mid p l R s m args meth c D ad cI cJ) (hc : callee < 118) {av : List Value} {M : kMem} {P' : kRes → Prop} (hC : kC d callee av M P') {T : State} {locs : List Loc} (X : Stand p l e R s m args below meth c T locs 0 0) (hP : va_P D vwCl (kW ad cI cJ o M) T.heap) (hS : va_S (kA ad s.heap.size) s.heap T.heap locs)
    {g : JFrame} (hg : g.method = m) (hsize : g.locals.size = c.maxLocals) {ig : Instr} (hdg : decode c.code g.pc = .ok (ig, 3)) (hW : 2 * g.monitorRoom + (g.stack.map fun v => v.category).sum ≤ 8) {mk : MethodId} (hn : T.methodNamed? (kY callee) = some mk) :
    (∃ (v : Option Value) (M' : kMem) (B : State) (L : List Loc), P' (.inl (v, M')) ∧ va_P D vwCl (kW ad cI cJ o M') B.heap ∧ va_S (kA ad s.heap.size) s.heap B.heap (locs ++ L) ∧ Stand p l e R s m args below meth c B (locs ++ L) 0 0 ∧
      Steps p.tables e below (doInvoke e (T.setTop g) [] mk (av.map (kv ad)).toArray).1 (B.setTop { g with pc := g.pc + 3, stack := (v.map (kv ad)).toList ++ g.stack })) ∨
    (∃ (q : Addr) (E : String) (M' : kMem) (ce : Cell) (B : State) (L : List Loc), P' (.inr (E, M')) ∧ va_P D vwCl (kW ad cI cJ o M') B.heap ∧ va_S (kA ad s.heap.size) s.heap B.heap (locs ++ L) ∧ Stand p l e R s m args below meth c B (locs ++ L) 1 6 ∧ B.heap[q]? = some ce ∧ ce.vm = .none ∧ s.vm.findClass E = some ce.cls ∧
      Steps p.tables e below (doInvoke e (T.setTop g) [] mk (av.map (kv ad)).toArray).1 ((B.setTop g).pushFrame (.throwing q))) := by
  obtain ⟨hx, hb, hml, hown, hts, hK, hz, hlk, htab, hst, hrt, hR, hi⟩ := C
  subst hR
  obtain ⟨a1, a2, a3, a4, a5, a6⟩ := kAll_ok callee hc
  have hM := hC l D ad cI cJ o hst hi
  have hat : ∀ w ∈ kG, ∀ (a' : Array Value), w.before a' T = true := fun w hw a' => kG_at hw X.warmed (hts w hw)
  have h1 : (headSpec (kWs callee) (kR d)).pre.before (av.map (kv ad)).toArray T = true := atoms_intro fun w hw => (List.mem_cons.mp hw).elim (fun e9 => by rw [e9]; exact hat _ (kCode_in hc) _) (fun h9 => hat w h9 _)
  have h2 : (Cond.code (kY callee) (kB callee) (kL callee) (kRt callee)).before (av.map (kv ad)).toArray T = true := hat _ (kCode_in hc) _
  have h3 : (Cond.initialized (kY callee).cls).before (av.map (kv ad)).toArray T = true := by rw [a2]; exact hat _ a1 _
  obtain ⟨methY, cY, hmY, hcY, -, hlY, -, -, -, -⟩ := Cond.code_spec hn h2
  obtain ⟨kY9, hkY, -⟩ := className_of_methodNamed hn
  have hinitY : kY9.init = .initialized := Cond.initialized_spec (findClass_of_methodNamed hn) hkY h3
  have h : At T g.method c below := by rw [hg]; exact X.here
  have hrl : (headSpec (kWs callee) (kR d)).room = kR d := rfl
  have happ : (headSpec (kWs callee) (kR d)).appliesLoose (kY callee) e.platform (T.calling g mk (av.map (kv ad)).toArray) = true :=
    Spec.appliesLoose_calling (g := g) h hdg hn hkY hinitY
      (X.room_calling (g := g) (R' := (headSpec (kWs callee) (kR d)).room) hsize hmY hcY (by rw [hrl]; show 6 + d + 1 ≤ 6 + (d + 1); omega) (by rw [hlY, hrl]; show _ + (90 + 28 * d) ≤ 90 + 28 * (d + 1); omega) (by rw [hrl]; exact Nat.le_refl _) (by rw [hrl]; exact Nat.le_refl _)) h1
  obtain ⟨mid9, hmid⟩ := h.above
  have hfr : (T.setTop g).frames = (.java g :: mid9) ++ below := by rw [State.frames_setTop' g h.top, hmid]; rfl
  have hPc : kPc D ad cI cJ o av M (av.map (kv ad)).toArray (T.calling g mk (av.map (kv ad)).toArray) :=
    ⟨rfl, hP, va_K.moved (u := s) (U := T.calling g mk (av.map (kv ad)).toArray) X.warmed.alike hK, kz.moved (u := s) (U := T.calling g mk (av.map (kv ad)).toArray) X.warmed ((hz.kept hS.2.1).narrow (fun q hq => kA_mono hS.1 hq))⟩
  obtain ⟨oc, t, hsteps, -, hend, hq⟩ := Steps.callFree hM p X.admits X.cas X.clock (acts := []) hfr happ hPc trivial
  have hq' : kEnd D ad cI cJ o P' (T.calling g mk (av.map (kv ad)).toArray) oc t := hq
  rcases hq' with ⟨v, M', rfl, hp, f1, f2, f3, L, f4, f5⟩ | ⟨q, E, M', ce, rfl, hp, hce, hcv, hcl, f1, f2, f3, L, f4, f5⟩
  · obtain ⟨B, b1, b2, X', b3, -⟩ := k_back X hg hdg hsteps hend f3 f4
    exact Or.inl ⟨v, M', B, L, hp, by rw [b1]; exact f1, kS_on hS (U := T.calling g mk (av.map (kv ad)).toArray) rfl f2 f5 b1, X', b3 _ rfl⟩
  · obtain ⟨B, b1, b2, X', -, b3⟩ := k_back X hg hdg hsteps hend f3 f4
    have hcl' : s.vm.findClass E = some ce.cls := by
      have h9 : T.vm.findClass E = some ce.cls := hcl
      rw [X.warmed.alike.findClass] at h9
      exact h9
    exact Or.inr ⟨q, E, M', ce, B, L, hp, by rw [b1]; exact f1, kS_on hS (U := T.calling g mk (av.map (kv ad)).toArray) rfl f2 f5 b1, X', by rw [b1]; exact hce, hcv, hcl', b3 _ rfl⟩
/-- thrown by a callee, and not caught: the method throws it on -/
theorem k_on {d mid : Nat} {P : kRes → Prop} (C : kCx d mid p l R s m args meth c D ad cI cJ) {B : State} {locs : List Loc} (X : Stand p l e R s m args below meth c B locs 1 6) {q : Addr} {E : String} {M : kMem} {ce : Cell} (hp : P (.inr (E, M))) (hP : va_P D vwCl (kW ad cI cJ o M) B.heap) (hS : va_S (kA ad s.heap.size) s.heap B.heap locs) (hce : B.heap[q]? = some ce) (hcv : ce.vm = .none) (hcl : s.vm.findClass E = some ce.cls) {g : JFrame} (hg : g.method = m) (hl : g.locked = none) (he : g.entered = []) :
    ∃ t, Steps p.tables e below ((B.setTop g).pushFrame (.throwing q)) t ∧ kMQ below D ad cI cJ o P s t := by
  obtain ⟨hx, hb, hml, hown, hts, hK, hz, hlk, htab, hst, hrt, hR, hi⟩ := C
  obtain ⟨h1, h2, h3, h4, h5⟩ := X.leaveThrown q (g := g) hg hl he (fun x hx => (htab x hx).elim) hlk
  exact ⟨_, h1, _, h2, h3, Or.inr ⟨q, E, M, ce, rfl, hp, hce, hcv, hcl, hP, hS.F rfl, h4, _, h5, hS.2.2⟩⟩
end KL
section KK
variable {d mid : Nat} {P : kRes → Prop} {pc : Nat} {lv : List (Nat × Value)} {st : List Value} {M : kMem}
/-- what is left to do behind a call -/
def kgo (d mid : Nat) (P : kRes → Prop) (K : Nat → List (Nat × Value) → List Value → kMem → Prop) (pc : Nat) (lv : List (Nat × Value)) (st : List Value) : kRes → Prop := fun r => match r with
  | .inl q => K (pc + 3) lv (q.1.toList ++ st) q.2
  | .inr q => P (.inr q)
theorem kst_cat {ad : Nat → Nat} (hw : (st.map fun v => v.category).sum ≤ 8) : ((st.map (kv ad)).map fun v => v.category).sum ≤ 8 := by
  have e1 : ((st.map (kv ad)).map fun v => v.category) = st.map fun v => v.category := by
    rw [List.map_map]
    exact List.map_congr_left fun v _ => kv_cat ad v
  rw [e1]
  exact hw
theorem kj_callV {idx callee a : Nat} {fs : List Value} {as : List Value} {K : Nat → List (Nat × Value) → List Value → kMem → Prop} (hK9 : ∀ pc lv st M, K pc lv st M → kJ (d + 1) mid P pc lv st M) (hd : kDec mid pc (.invokevirtual idx) 3) (hl : (kO mid, idx, callee) ∈ kMl) (hv : callee ∈ kVi) (ho : kob M a = some (kO callee, fs)) (hn : as.length = kN callee) (hw : (st.map fun v => v.category).sum ≤ 8)
    (k : kC d callee (.ref a :: as) M (kgo d mid P K pc lv st)) : kJ (d + 1) mid P pc lv (as.reverse ++ .ref a :: st) M := by
  intro p l e R s m args below meth c D ad cI cJ o C H locs ls hP hS hll
  have hc := kVi_lt callee hv
  obtain ⟨v1, v2, v3⟩ := kVi_ok callee hv
  obtain ⟨a1, a2, a3, a4, a5, a6⟩ := kAll_ok callee hc
  have hl1 := kMl_ok _ hl
  have C' := C
  obtain ⟨hx, hb, hml, hown, hts, hK, hz, hlk, htab, hst, hrt, hR, hi⟩ := C
  intro T hT X
  subst hT
  obtain ⟨cellB, hcB, hoB, hclB⟩ := va_recv hK hP (ci := kO callee) (q0 := a) (kcl (kO callee) v3) (kW_at (ad := ad) (kob_ok (cI := cI) (cJ := cJ) (o := o) ho))
  have hclB : s.vm.findClass (kCn (kO callee)) = some cellB.cls := hclB
  obtain ⟨mk, methM, hnamed, hmethM, hstM, habM⟩ := Cond.instanceMethod_spec (hts _ v1)
  obtain ⟨methM', cM, hmethM', -, -, -, -, -, -, hsigM⟩ := Cond.code_spec hnamed (hts _ (kCode_in hc))
  cases hmethM.symm.trans hmethM'
  obtain ⟨c2, r2, m2, q1, q2, q3, q4, kP, hkP, hkPi⟩ := Cond.selects_spec (hts _ v2)
  cases hclB.symm.trans q1
  cases (State.methodFound?_of_named hnamed a4).symm.trans q2
  cases hnamed.symm.trans q3
  have hselP : selectMethod e.platform s.vm cellB.cls mk = .method mk := by rw [Launch.admits_selectMethod X.admits]; exact q4
  have hlen : (as.map (kv ad)).length = methM.sig.parameters.length := by
    rw [hsigM] at a5
    rw [List.length_map, hn]
    exact (Option.some.inj a5).symm
  have hdg : decode c.code pc = .ok (.invokevirtual idx, 3) := by rw [hb]; exact hd
  obtain ⟨vm₁, X₁, hstep₁⟩ := X.invokevirtual hx hown (hts _ hl1) hnamed hmethM hstM hkP hkPi a4 (a := ad a) (cell := cellB) hcB
    (fun z h => by rw [h] at hoB; cases hoB) hselP hmethM habM hkP hkPi (g := F0 m pc ls ((as.reverse ++ .ref a :: st).map (kv ad))) rfl (argsL := as.map (kv ad)) (rest := st.map (kv ad)) hlen (by simp [kv]) hdg
  rcases k_met (o := o) C' hc k X₁ hP hS (g := F0 m pc ls (st.map (kv ad))) rfl (hll.1.trans hml.symm) hdg (by show 2 * 0 + _ ≤ 8; rw [Nat.zero_add]; exact kst_cat hw) (X₁.named hnamed) with ⟨v, M', B, L, hp, g1, g2, X', g3⟩ | ⟨q, E, M', ce, B, L, hp, g1, g2, X', g4, g5, g6, g3⟩
  · have hp' : K (pc + 3) lv (v.toList ++ st) M' := hp
    obtain ⟨t, b1, b2⟩ := hK9 _ _ _ _ hp' p l e R s m args below meth c D ad cI cJ o C' B.heap (locs ++ L) ls g1 g2 hll B rfl X'
    refine ⟨t, hstep₁ _ (fun acts => ?_), b2⟩
    rw [doInvoke_state]
    refine Steps.trans g3 ?_
    have e9 : (v.toList ++ st).map (kv ad) = (v.map (kv ad)).toList ++ st.map (kv ad) := by cases v <;> simp
    rw [e9] at b1
    exact b1
  · have hp' : P (.inr (E, M')) := hp
    obtain ⟨t, b1, b2⟩ := k_on (o := o) C' X' hp' g1 g2 g4 g5 g6 (g := F0 m pc ls (st.map (kv ad))) rfl rfl rfl
    refine ⟨t, hstep₁ _ (fun acts => ?_), b2⟩
    rw [doInvoke_state]
    exact Steps.trans g3 b1
theorem kj_callS {idx callee : Nat} {as : List Value} {K : Nat → List (Nat × Value) → List Value → kMem → Prop} (hK9 : ∀ pc lv st M, K pc lv st M → kJ (d + 1) mid P pc lv st M) (hd : kDec mid pc (.invokestatic idx) 3) (hl : (kO mid, idx, callee) ∈ kMl) (hv : callee ∈ kSi) (hn : as.length = kN callee) (hw : (st.map fun v => v.category).sum ≤ 8)
    (k : kC d callee as M (kgo d mid P K pc lv st)) : kJ (d + 1) mid P pc lv (as.reverse ++ st) M := by
  intro p l e R s m args below meth c D ad cI cJ o C H locs ls hP hS hll
  have hc := kSi_lt callee hv
  have v1 := kSi_ok callee hv
  obtain ⟨a1, a2, a3, a4, a5, a6⟩ := kAll_ok callee hc
  have hl1 := kMl_ok _ hl
  have C' := C
  obtain ⟨hx, hb, hml, hown, hts, hK, hz, hlk, htab, hst, hrt, hR, hi⟩ := C
  intro T hT X
  subst hT
  obtain ⟨mk, hnamed⟩ := Cond.code_named (hts _ (kCode_in hc))
  obtain ⟨methM, cM, hmethM, -, -, -, -, -, -, hsigM⟩ := Cond.code_spec hnamed (hts _ (kCode_in hc))
  have hstatic : methM.isStatic = true := Cond.static_spec hnamed hmethM (hts _ v1)
  obtain ⟨kP, hkP, -⟩ := className_of_methodNamed hnamed
  have hinitP : kP.init = .initialized := Cond.initialized_spec (findClass_of_methodNamed hnamed) hkP (by rw [a2]; exact hts _ a1)
  have hlen : (as.map (kv ad)).length = methM.sig.parameters.length := by
    rw [hsigM] at a5
    rw [List.length_map, hn]
    exact (Option.some.inj a5).symm
  have hdg : decode c.code pc = .ok (.invokestatic idx, 3) := by rw [hb]; exact hd
  obtain ⟨vm₁, X₁, hstep₁⟩ := X.invokestatic hx hown (hts _ hl1) hnamed hmethM hstatic hkP hinitP a4 (g := F0 m pc ls ((as.reverse ++ st).map (kv ad))) rfl (argsL := as.map (kv ad)) (rest := st.map (kv ad)) hlen (by simp) hdg
  rcases k_met (o := o) C' hc k X₁ hP hS (g := F0 m pc ls (st.map (kv ad))) rfl (hll.1.trans hml.symm) hdg (by show 2 * 0 + _ ≤ 8; rw [Nat.zero_add]; exact kst_cat hw) (X₁.named hnamed) with ⟨v, M', B, L, hp, g1, g2, X', g3⟩ | ⟨q, E, M', ce, B, L, hp, g1, g2, X', g4, g5, g6, g3⟩
  · have hp' : K (pc + 3) lv (v.toList ++ st) M' := hp
    obtain ⟨t, b1, b2⟩ := hK9 _ _ _ _ hp' p l e R s m args below meth c D ad cI cJ o C' B.heap (locs ++ L) ls g1 g2 hll B rfl X'
    refine ⟨t, hstep₁ _ (fun acts => ?_), b2⟩
    rw [doInvoke_state]
    refine Steps.trans g3 ?_
    have e9 : (v.toList ++ st).map (kv ad) = (v.map (kv ad)).toList ++ st.map (kv ad) := by cases v <;> simp
    rw [e9] at b1
    exact b1
  · have hp' : P (.inr (E, M')) := hp
    obtain ⟨t, b1, b2⟩ := k_on (o := o) C' X' hp' g1 g2 g4 g5 g6 (g := F0 m pc ls (st.map (kv ad))) rfl rfl rfl
    refine ⟨t, hstep₁ _ (fun acts => ?_), b2⟩
    rw [doInvoke_state]
    exact Steps.trans g3 b1
end KK
theorem kv_sl (ad : Nat → Nat) : ∀ av : List Value, (lg_sl (av.map (kv ad))).length = (lg_sl av).length := by
  intro av
  induction av with
  | nil => rfl
  | cons v r ih =>
    simp only [lg_sl, List.map_cons, List.flatMap_cons, List.length_append] at ih ⊢
    rw [ih, kv_cat]
    congr 1
    split <;> rfl
theorem kv_args (ad : Nat → Nat) : ∀ (av : List Value) (i : Nat), lv_args i (av.map (kv ad)) = (lv_args i av).map (fun q => (q.1, kv ad q.2)) := by
  intro av
  induction av with
  | nil => intro i; rfl
  | cons v r ih =>
    intro i
    simp only [lv_args, List.map_cons, kv_cat, ih]
/-- a method's contract out of its body -/
theorem kC_body {d mid : Nat} {av : List Value} {M : kMem} {P : kRes → Prop} (hc : mid < 118) (hn : (lg_sl av).length ≤ kL mid) (k : kJ d mid P 0 (lv_args 0 av) [] M) : kC d mid av M P := by
  intro l D ad cI cJ o hst hi
  obtain ⟨a1, a2, a3, a4, a5, a6⟩ := kAll_ok mid hc
  have hw : ∀ {args : Array Value} {s : State}, (headSpec (kWs mid) (kR d)).pre.before args s = true → (Cond.code (kY mid) (kB mid) (kL mid) (kRt mid)).before args s = true := fun h => atoms_spec (ws := kWs mid) h _ List.mem_cons_self
  refine MetFree.of_bodyS (code := kB mid) (maxLocals := kL mid) (ret := kRt mid) a3 ?_ ?_
  · intro args s m h hn9
    obtain ⟨meth, c, h1, h2, h3, h4, h5, h6, -, -⟩ := Cond.code_spec hn9 (hw h)
    exact ⟨meth, c, h1, h2, h3, h4, h5, h6⟩
  · intro p e s m args below meth c s₁ B hml hP _
    obtain ⟨rfl, hP1, hK, hz⟩ := hP
    have hh0 : s₁.heap = s.heap := by rw [B.state]; rfl
    have hown : s.vm.findClass (kCn (kO mid)) = some m.cls := by rw [← a2]; exact findClass_of_methodNamed B.named
    have hts := atoms_spec (ws := kWs mid) B.pre
    have ht : ∀ x ∈ c.exceptionTable.toList, False := by
      obtain ⟨meth9, c9, h1, h2, -, -, -, -, h7, -⟩ := Cond.code_spec B.named (hw B.pre)
      cases Option.some.inj (h1.symm.trans B.method)
      cases Option.some.inj (h2.symm.trans (Stand.of_body B).code)
      intro x hx
      rw [Array.isEmpty_iff.mp h7] at hx
      cases hx
    have C : kCx d mid p l (kR d) s m (av.map (kv ad)).toArray meth c D ad cI cJ := ⟨B.exec, B.bytes, hml, hown, fun w hw9 => hts w (List.mem_cons_of_mem _ hw9), hK, hz, B.notSynchronized, ht, hst, B.returns, rfl, hi⟩
    have hl := lv_entry (av.map (kv ad)) (n := kL mid) (by rw [kv_sl]; exact hn)
    rw [kv_args] at hl
    obtain ⟨t, b1, oc, b2, b3, b4⟩ := k p l e (kR d) s m (av.map (kv ad)).toArray below meth c D ad cI cJ o C s.heap [] _ hP1 va_S.rf hl s₁ hh0 (Stand.of_body B)
    rw [lg_entry_eq]
    exact ⟨t, oc, b1, b2, b3, b4⟩
end
section
/-! what an instruction asks, computed: kwN unfolds by itself; n instructions, then the judgement again -/
def kwp (d mid : Nat) (P : kRes → Prop) (K : Nat → List (Nat × Value) → List Value → kMem → Prop) (r : kRow) (lv : List (Nat × Value)) (st : List Value) (M : kMem) : Prop :=
  match r with
  | (pc, i, _, x, y) => match i with
    | .iconst _ => K (pc + 1) lv (.int (kcv x y) :: st) M
    | .bipush _ => K (pc + 2) lv (.int (kcv x y) :: st) M
    | .sipush _ => K (pc + 3) lv (.int (kcv x y) :: st) M
    | .ldc idx => if (kO mid, idx, x) ∈ kKc then K (pc + 2) lv (.int (nI x) :: st) M else False
    | .ldc_w idx => if (kO mid, idx, x) ∈ kKc then K (pc + 3) lv (.int (nI x) :: st) M else False
    | .iload_n k => match kget lv k.val with
      | some (.int v) => K (pc + 1) lv (.int v :: st) M
      | _ => False
    | .iload k => match kget lv k with
      | some (.int v) => K (pc + 2) lv (.int v :: st) M
      | _ => False
    | .aload_n k => match kget lv k.val with
      | some (.ref v) => K (pc + 1) lv (.ref v :: st) M
      | _ => False
    | .aload k => match kget lv k with
      | some (.ref v) => K (pc + 2) lv (.ref v :: st) M
      | _ => False
    | .istore_n k => match st with
      | .int v :: st => if kcat lv = true ∧ k.val < kL mid then K (pc + 1) (kset lv k.val (.int v)) st M else False
      | _ => False
    | .istore k => match st with
      | .int v :: st => if kcat lv = true ∧ k < kL mid then K (pc + 2) (kset lv k (.int v)) st M else False
      | _ => False
    | .astore_n k => match st with
      | .ref v :: st => if kcat lv = true ∧ k.val < kL mid then K (pc + 1) (kset lv k.val (.ref v)) st M else False
      | _ => False
    | .astore k => match st with
      | .ref v :: st => if kcat lv = true ∧ k < kL mid then K (pc + 2) (kset lv k (.ref v)) st M else False
      | _ => False
    | .iinc k _ => match kget lv k with
      | some (.int v) => if kcat lv = true ∧ k < kL mid then K (pc + 3) (kset lv k (.int (v + nI x))) st M else False
      | _ => False
    | .iadd => match st with
      | .int b :: .int a :: st => K (pc + 1) lv (.int (a + b) :: st) M
      | _ => False
    | .isub => match st with
      | .int b :: .int a :: st => K (pc + 1) lv (.int (a - b) :: st) M
      | _ => False
    | .imul => match st with
      | .int b :: .int a :: st => K (pc + 1) lv (.int (a * b) :: st) M
      | _ => False
    | .iand => match st with
      | .int b :: .int a :: st => K (pc + 1) lv (.int (a &&& b) :: st) M
      | _ => False
    | .ior => match st with
      | .int b :: .int a :: st => K (pc + 1) lv (.int (a ||| b) :: st) M
      | _ => False
    | .ixor => match st with
      | .int b :: .int a :: st => K (pc + 1) lv (.int (a ^^^ b) :: st) M
      | _ => False
    | .idiv => match st with
      | .int b :: .int a :: st => ¬ b = 0 ∧ K (pc + 1) lv (.int (a / b) :: st) M
      | _ => False
    | .irem => match st with
      | .int b :: .int a :: st => ¬ b = 0 ∧ K (pc + 1) lv (.int (a - a / b * b) :: st) M
      | _ => False
    | .ishl => match st with
      | .int b :: .int a :: st => K (pc + 1) lv (.int (a <<< (b &&& 31)) :: st) M
      | _ => False
    | .ishr => match st with
      | .int b :: .int a :: st => K (pc + 1) lv (.int (a >>> (b &&& 31)) :: st) M
      | _ => False
    | .iushr => match st with
      | .int b :: .int a :: st => K (pc + 1) lv (.int ((a.toUInt32 >>> (b.toUInt32 &&& Int32.toUInt32 31)).toInt32) :: st) M
      | _ => False
    | .dup => match st with
      | v :: st => if v.category = 1 then K (pc + 1) lv (v :: v :: st) M else False
      | _ => False
    | .dup2 => match st with
      | v :: w :: st => if v.category = 1 ∧ w.category = 1 then K (pc + 1) lv (v :: w :: v :: w :: st) M else False
      | _ => False
    | .goto _ => K x lv st M
    | .ifCond .eq _ => match st with
      | .int a :: st => (a = 0 → K x lv st M) ∧ (¬ a = 0 → K (pc + 3) lv st M)
      | _ => False
    | .ifCond .ne _ => match st with
      | .int a :: st => (¬ a = 0 → K x lv st M) ∧ (a = 0 → K (pc + 3) lv st M)
      | _ => False
    | .ifCond .lt _ => match st with
      | .int a :: st => (a < 0 → K x lv st M) ∧ (¬ a < 0 → K (pc + 3) lv st M)
      | _ => False
    | .ifCond .le _ => match st with
      | .int a :: st => (a ≤ 0 → K x lv st M) ∧ (¬ a ≤ 0 → K (pc + 3) lv st M)
      | _ => False
    | .if_icmp .eq _ => match st with
      | .int b :: .int a :: st => (a = b → K x lv st M) ∧ (¬ a = b → K (pc + 3) lv st M)
      | _ => False
    | .if_icmp .ne _ => match st with
      | .int b :: .int a :: st => (¬ a = b → K x lv st M) ∧ (a = b → K (pc + 3) lv st M)
      | _ => False
    | .if_icmp .lt _ => match st with
      | .int b :: .int a :: st => (a < b → K x lv st M) ∧ (¬ a < b → K (pc + 3) lv st M)
      | _ => False
    | .if_icmp .ge _ => match st with
      | .int b :: .int a :: st => (b ≤ a → K x lv st M) ∧ (¬ b ≤ a → K (pc + 3) lv st M)
      | _ => False
    | .if_icmp .gt _ => match st with
      | .int b :: .int a :: st => (b < a → K x lv st M) ∧ (¬ b < a → K (pc + 3) lv st M)
      | _ => False
    | .if_icmp .le _ => match st with
      | .int b :: .int a :: st => (a ≤ b → K x lv st M) ∧ (¬ a ≤ b → K (pc + 3) lv st M)
      | _ => False
    | .if_acmp .ne _ => match st with
      | .ref b :: .ref a :: st => if a < 16 ∧ b < 16 then (if a = b then K (pc + 3) lv st M else K x lv st M) else False
      | _ => False
    | .getfield idx => match st with
      | .ref a :: st => match kob M a with
        | some q => if (kO mid, idx, x, y) ∈ kFl ∧ q.1 = x then (match q.2[y]? with
          | some v => K (pc + 3) lv (v :: st) M
          | none => False) else False
        | none => False
      | _ => False
    | .putfield idx => match st with
      | .int v :: .ref a :: st => match ksc x y with
        | some q => if (kO mid, idx, x, y) ∈ kFl ∧ q.1 = a then (narrow (kty x y) (.int v) = .int v ∧ fits (kty x y) (.int v) = true ∧ K (pc + 3) lv st (mw M q.2.1 q.2.2 v)) else False
        | none => False
      | _ => False
    | .iaload => match st with
      | .int i :: .ref a :: st => match kar a with
        | some n => ∃ j, i = nI j ∧ j < n ∧ K (pc + 1) lv (.int (M a j) :: st) M
        | none => False
      | _ => False
    | .iastore => match st with
      | .int v :: .int i :: .ref a :: st => match kar a with
        | some n => ∃ j, i = nI j ∧ j < n ∧ K (pc + 1) lv st (mw M a j v)
        | none => False
      | _ => False
    | .ireturn => match st with
      | [.int v] => match kRt mid with
        | some ty => narrow ty (.int v) = .int v ∧ P (.inl (some (.int v), M))
        | none => False
      | _ => False
    | .areturn => match st with
      | [.ref a] => match kRt mid with
        | some (.object _) => P (.inl (some (.ref a), M))
        | _ => False
      | _ => False
    | .return_ => match st with
      | [] => match kRt mid with
        | none => P (.inl (none, M))
        | some _ => False
      | _ => False
    | .new _ => match kTh[y]? with
      | some t => if t.1 = mid ∧ t.2.1 = pc ∧ (st.map fun v => v.category).sum ≤ 7 then P (.inr (t.2.2.2.2.2.1, M)) else False
      | none => False
    | .invokevirtual idx => match d with
      | 0 => False
      | d' + 1 => match st.drop (kN x) with
        | .ref a :: st' => match kob M a with
          | some q => if (kO mid, idx, x) ∈ kMl ∧ x ∈ kVi ∧ q.1 = kO x ∧ (st'.map fun v => v.category).sum ≤ 8 then kC d' x (.ref a :: (st.take (kN x)).reverse) M (kgo d' mid P K pc lv st') else False
          | none => False
        | _ => False
    | .invokestatic idx => if x = 999 then (match st with
        | .int z :: .int v :: .ref b :: .int u :: .ref a :: st => match kar a, kar b with
          | some na, some nb => if (kO mid, idx) ∈ kAc ∧ (st.map fun v => v.category).sum ≤ 8 then (∃ i j n, u = nI i ∧ v = nI j ∧ z = nI n ∧ i + n ≤ na ∧ j + n ≤ nb ∧ K (pc + 3) lv st (va_up M b (va_cpy (M a) (M b) i j n))) else False
          | _, _ => False
        | _ => False) else (match d with
        | 0 => False
        | d' + 1 => if (kO mid, idx, x) ∈ kMl ∧ x ∈ kSi ∧ kN x ≤ st.length ∧ ((st.drop (kN x)).map fun v => v.category).sum ≤ 8 then kC d' x (st.take (kN x)).reverse M (kgo d' mid P K pc lv (st.drop (kN x))) else False)
    | _ => False
def kwN (d mid : Nat) (P : kRes → Prop) : Nat → Nat → List (Nat × Value) → List Value → kMem → Prop
  | 0, pc, lv, st, M => kJ d mid P pc lv st M
  | n + 1, pc, lv, st, M => match kLook mid pc with
    | some r => kwp d mid P (kwN d mid P n) r lv st M
    | none => False
set_option maxHeartbeats 4000000 in
set_option maxRecDepth 100000 in
theorem kwp_ok {d mid : Nat} {P : kRes → Prop} {K : Nat → List (Nat × Value) → List Value → kMem → Prop} (hK : ∀ pc lv st M, K pc lv st M → kJ d mid P pc lv st M) {r : kRow} {pc : Nat} {lv : List (Nat × Value)} {st : List Value} {M : kMem} (hr : kLook mid pc = some r) (h : kwp d mid P K r lv st M) : kJ d mid P pc lv st M := by
  obtain ⟨h1, h2, h3⟩ := kLook_ok hr
  obtain ⟨pc', i, len, x, y⟩ := r
  have h1 : pc' = pc := h1
  subst h1
  have h3 : (len == kLn i && _) = true := h3
  rw [Bool.and_eq_true] at h3
  obtain ⟨h4, h5⟩ := h3
  have h4 : len = kLn i := by simpa using h4
  have h2 : decode (kB mid) pc' = .ok (i, len) := h2
  rw [h4] at h2
  clear h4 hr
  unfold kwp at h
  dsimp only at h h5
  split at h
  case h_1 n => exact kj_iconst h2 (by simpa using h5) (hK _ _ _ _ h)
  case h_2 n => exact kj_bipush h2 (by simpa using h5) (hK _ _ _ _ h)
  case h_3 n => exact kj_sipush h2 (by simpa using h5) (hK _ _ _ _ h)
  case h_4 n =>
    split at h
    · rename_i h6; exact kj_ldc h2 h6 (hK _ _ _ _ h)
    · exact h.elim
  case h_5 n =>
    split at h
    · rename_i h6; exact kj_ldcw h2 h6 (hK _ _ _ _ h)
    · exact h.elim
  case h_6 n =>
    split at h
    · rename_i v h6; exact kj_iload_n h2 h6 (hK _ _ _ _ h)
    · exact h.elim
  case h_7 n =>
    split at h
    · rename_i v h6; exact kj_iload h2 h6 (hK _ _ _ _ h)
    · exact h.elim
  case h_8 n =>
    split at h
    · rename_i v h6; exact kj_aload_n h2 h6 (hK _ _ _ _ h)
    · exact h.elim
  case h_9 n =>
    split at h
    · rename_i v h6; exact kj_aload h2 h6 (hK _ _ _ _ h)
    · exact h.elim
  case h_10 n =>
    split at h
    · split at h
      · rename_i h6; exact kj_istore_n h2 h6.1 h6.2 (hK _ _ _ _ h)
      · exact h.elim
    · exact h.elim
  case h_11 n =>
    split at h
    · split at h
      · rename_i h6; exact kj_istore h2 h6.1 h6.2 (hK _ _ _ _ h)
      · exact h.elim
    · exact h.elim
  case h_12 n =>
    split at h
    · split at h
      · rename_i h6; exact kj_astore_n h2 h6.1 h6.2 (hK _ _ _ _ h)
      · exact h.elim
    · exact h.elim
  case h_13 n =>
    split at h
    · split at h
      · rename_i h6; exact kj_astore h2 h6.1 h6.2 (hK _ _ _ _ h)
      · exact h.elim
    · exact h.elim
  case h_14 n z =>
    split at h
    · rename_i v h6
      split at h
      · rename_i h7; exact kj_iinc h2 h7.1 h7.2 h6 (by rw [show Int32.ofInt n = nI x by simpa using h5]) (hK _ _ _ _ h)
      · exact h.elim
    · exact h.elim
  case h_15 =>
    split at h
    · exact kj_iadd h2 (hK _ _ _ _ h)
    · exact h.elim
  case h_16 =>
    split at h
    · exact kj_isub h2 (hK _ _ _ _ h)
    · exact h.elim
  case h_17 =>
    split at h
    · exact kj_imul h2 (hK _ _ _ _ h)
    · exact h.elim
  case h_18 =>
    split at h
    · exact kj_iand h2 (hK _ _ _ _ h)
    · exact h.elim
  case h_19 =>
    split at h
    · exact kj_ior h2 (hK _ _ _ _ h)
    · exact h.elim
  case h_20 =>
    split at h
    · exact kj_ixor h2 (hK _ _ _ _ h)
    · exact h.elim
  case h_21 =>
    split at h
    · exact kj_idiv h2 h.1 (hK _ _ _ _ h.2)
    · exact h.elim
  case h_22 =>
    split at h
    · exact kj_irem h2 h.1 (hK _ _ _ _ h.2)
    · exact h.elim
  case h_23 =>
    split at h
    · exact kj_ishl h2 (hK _ _ _ _ h)
    · exact h.elim
  case h_24 =>
    split at h
    · exact kj_ishr h2 (hK _ _ _ _ h)
    · exact h.elim
  case h_25 =>
    split at h
    · exact kj_iushr h2 (hK _ _ _ _ h)
    · exact h.elim
  case h_26 =>
    split at h
    · split at h
      · rename_i h6; exact kj_dup h2 h6 (hK _ _ _ _ h)
      · exact h.elim
    · exact h.elim
  case h_27 =>
    split at h
    · split at h
      · rename_i h6; exact kj_dup2 h2 h6.1 h6.2 (hK _ _ _ _ h)
      · exact h.elim
    · exact h.elim
  case h_28 off => exact kj_goto h2 (by simpa using h5) (hK _ _ _ _ h)
  case h_29 off =>
    split at h
    · exact kj_if_eq h2 (by simpa using h5) (fun z => hK _ _ _ _ (h.1 z)) (fun z => hK _ _ _ _ (h.2 z))
    · exact h.elim
  case h_30 off =>
    split at h
    · exact kj_if_ne h2 (by simpa using h5) (fun z => hK _ _ _ _ (h.1 z)) (fun z => hK _ _ _ _ (h.2 z))
    · exact h.elim
  case h_31 off =>
    split at h
    · exact kj_if_lt h2 (by simpa using h5) (fun z => hK _ _ _ _ (h.1 z)) (fun z => hK _ _ _ _ (h.2 z))
    · exact h.elim
  case h_32 off =>
    split at h
    · exact kj_if_le h2 (by simpa using h5) (fun z => hK _ _ _ _ (h.1 z)) (fun z => hK _ _ _ _ (h.2 z))
    · exact h.elim
  case h_33 off =>
    split at h
    · exact kj_icmp_eq h2 (by simpa using h5) (fun z => hK _ _ _ _ (h.1 z)) (fun z => hK _ _ _ _ (h.2 z))
    · exact h.elim
  case h_34 off =>
    split at h
    · exact kj_icmp_ne h2 (by simpa using h5) (fun z => hK _ _ _ _ (h.1 z)) (fun z => hK _ _ _ _ (h.2 z))
    · exact h.elim
  case h_35 off =>
    split at h
    · exact kj_icmp_lt h2 (by simpa using h5) (fun z => hK _ _ _ _ (h.1 z)) (fun z => hK _ _ _ _ (h.2 z))
    · exact h.elim
  case h_36 off =>
    split at h
    · exact kj_icmp_ge h2 (by simpa using h5) (fun z => hK _ _ _ _ (h.1 z)) (fun z => hK _ _ _ _ (h.2 z))
    · exact h.elim
  case h_37 off =>
    split at h
    · exact kj_icmp_gt h2 (by simpa using h5) (fun z => hK _ _ _ _ (h.1 z)) (fun z => hK _ _ _ _ (h.2 z))
    · exact h.elim
  case h_38 off =>
    split at h
    · exact kj_icmp_le h2 (by simpa using h5) (fun z => hK _ _ _ _ (h.1 z)) (fun z => hK _ _ _ _ (h.2 z))
    · exact h.elim
  case h_39 off =>
    split at h
    · split at h
      · rename_i h6
        split at h
        · rename_i h7; exact kj_acmp_ne h2 (by simpa using h5) h6.1 h6.2 (fun z => absurd h7 z) (fun _ => hK _ _ _ _ h)
        · rename_i h7; exact kj_acmp_ne h2 (by simpa using h5) h6.1 h6.2 (fun _ => hK _ _ _ _ h) (fun z => absurd z h7)
      · exact h.elim
    · exact h.elim
  case h_40 idx =>
    split at h
    · split at h
      · rename_i q h6
        split at h
        · rename_i h7
          split at h
          · rename_i v h8
            obtain ⟨q1, q2⟩ := q
            obtain ⟨h7, h9⟩ := h7
            have h9 : q1 = x := h9
            subst h9
            exact kj_get h2 h7 h6 h8 (hK _ _ _ _ h)
          · exact h.elim
        · exact h.elim
      · exact h.elim
    · exact h.elim
  case h_41 idx =>
    split at h
    · split at h
      · rename_i q h6
        split at h
        · rename_i h7
          obtain ⟨h7, h9⟩ := h7
          subst h9
          exact kj_put h2 h7 h6 h.1 h.2.1 (hK _ _ _ _ h.2.2)
        · exact h.elim
      · exact h.elim
    · exact h.elim
  case h_42 =>
    split at h
    · split at h
      · rename_i n h6
        obtain ⟨j, g1, g2, g3⟩ := h
        exact kj_ald h2 h6 g1 g2 (hK _ _ _ _ g3)
      · exact h.elim
    · exact h.elim
  case h_43 =>
    split at h
    · split at h
      · rename_i n h6
        obtain ⟨j, g1, g2, g3⟩ := h
        exact kj_ast h2 h6 g1 g2 (hK _ _ _ _ g3)
      · exact h.elim
    · exact h.elim
  case h_44 =>
    split at h
    · split at h
      · rename_i ty h6; exact kj_iret h2 h6 h.1 h.2
      · exact h.elim
    · exact h.elim
  case h_45 =>
    split at h
    · split at h
      · rename_i nm h6; exact kj_aret h2 h6 h
      · exact h.elim
    · exact h.elim
  case h_46 =>
    split at h
    · split at h
      · rename_i h6; exact kj_vret h2 h6 h
      · exact h.elim
    · exact h.elim
  case h_47 idx =>
    split at h
    · rename_i t h6
      split at h
      · rename_i h7; exact kj_throw (List.mem_of_getElem? h6) h7.1 h7.2.1 h7.2.2 h
      · exact h.elim
    · exact h.elim
  case h_48 idx =>
    split at h
    · exact h.elim
    · rename_i d'
      split at h
      · rename_i a st' h6
        split at h
        · rename_i q h7
          split at h
          · rename_i h8
            obtain ⟨g1, g2, g3, g4⟩ := h8
            obtain ⟨q1, q2⟩ := q
            have g3 : q1 = kO x := g3
            subst g3
            have e1 : st = ((st.take (kN x)).reverse).reverse ++ .ref a :: st' := by rw [List.reverse_reverse, ← h6, List.take_append_drop]
            have e2 : (st.take (kN x)).reverse.length = kN x := by
              rw [List.length_reverse, List.length_take]
              have e3 : (st.drop (kN x)).length = (Value.ref a :: st').length := by rw [h6]
              rw [List.length_drop, List.length_cons] at e3
              omega
            rw [e1]
            exact kj_callV hK h2 g1 g2 h7 e2 g4 h
          · exact h.elim
        · exact h.elim
      · exact h.elim
  case h_49 idx =>
    split at h
    · split at h
      · split at h
        · rename_i na nb h6 h7
          split at h
          · rename_i h8
            obtain ⟨i9, j9, n9, g1, g2, g3, g4, g5, g6⟩ := h
            exact kj_copy h2 h8.1 h6 h7 g1 g2 g3 g4 g5 h8.2 (hK _ _ _ _ g6)
          · exact h.elim
        · exact h.elim
      · exact h.elim
    · split at h
      · exact h.elim
      · rename_i d'
        split at h
        · rename_i h8
          obtain ⟨g1, g2, g3, g4⟩ := h8
          have e1 : st = ((st.take (kN x)).reverse).reverse ++ st.drop (kN x) := by rw [List.reverse_reverse, List.take_append_drop]
          have e2 : (st.take (kN x)).reverse.length = kN x := by rw [List.length_reverse, List.length_take]; omega
          rw [e1]
          exact kj_callS hK h2 g1 g2 e2 g4 h
        · exact h.elim
  case h_50 => exact h.elim
theorem kw_ok {d mid : Nat} {P : kRes → Prop} : ∀ (n pc : Nat) (lv : List (Nat × Value)) (st : List Value) (M : kMem), kwN d mid P n pc lv st M → kJ d mid P pc lv st M := by
  intro n
  induction n with
  | zero => exact fun _ _ _ _ h => h
  | succ n ih =>
    intro pc lv st M h
    unfold kwN at h
    cases hx : kLook mid pc with
    | none => rw [hx] at h; exact h.elim
    | some r =>
      rw [hx] at h
      exact kwp_ok ih hx h
theorem kC_of {d mid : Nat} {av : List Value} {M : kMem} {P : kRes → Prop} (n : Nat) (hc : mid < 118) (hn : (lg_sl av).length ≤ kL mid) (k : kwN d mid P n 0 (lv_args 0 av) [] M) : kC d mid av M P := kC_body hc hn (kw_ok n _ _ _ _ k)
end
section
/-! the same, halting at the heads of loops: sl, a list of pcs -/
def kwL (d mid : Nat) (P : kRes → Prop) (sl : List Nat) : Nat → Nat → List (Nat × Value) → List Value → kMem → Prop
  | 0, pc, lv, st, M => kJ d mid P pc lv st M
  | n + 1, pc, lv, st, M => if pc ∈ sl then kJ d mid P pc lv st M else (match kLook mid pc with
    | some r => kwp d mid P (kwL d mid P sl n) r lv st M
    | none => False)
theorem kwL_ok {d mid : Nat} {P : kRes → Prop} {sl : List Nat} : ∀ (n pc : Nat) (lv : List (Nat × Value)) (st : List Value) (M : kMem), kwL d mid P sl n pc lv st M → kJ d mid P pc lv st M := by
  intro n
  induction n with
  | zero => exact fun _ _ _ _ h => h
  | succ n ih =>
    intro pc lv st M h
    unfold kwL at h
    split at h
    · exact h
    · cases hx : kLook mid pc with
      | none => rw [hx] at h; exact h.elim
      | some r =>
        rw [hx] at h
        exact kwp_ok ih hx h
def kwH (d mid : Nat) (P : kRes → Prop) (sl : List Nat) (n pc : Nat) (lv : List (Nat × Value)) (st : List Value) (M : kMem) : Prop := match kLook mid pc with
  | some r => kwp d mid P (kwL d mid P sl n) r lv st M
  | none => False
/-- from the head of a loop: on to the next time that a head is reached -/
theorem kJ_H {d mid : Nat} {P : kRes → Prop} (sl : List Nat) (n : Nat) {pc : Nat} {lv : List (Nat × Value)} {st : List Value} {M : kMem} (h : kwH d mid P sl n pc lv st M) : kJ d mid P pc lv st M := by
  unfold kwH at h
  cases hx : kLook mid pc with
  | none => rw [hx] at h; exact h.elim
  | some r =>
    rw [hx] at h
    exact kwp_ok (kwL_ok n) hx h
theorem kC_L {d mid : Nat} {av : List Value} {M : kMem} {P : kRes → Prop} (sl : List Nat) (n : Nat) (hc : mid < 118) (hn : (lg_sl av).length ≤ kL mid) (k : kwL d mid P sl n 0 (lv_args 0 av) [] M) : kC d mid av M P := kC_body hc hn (kwL_ok n _ _ _ _ k)
end
section
/-! bits (out of the kit's laws/BITS.to-paste) -/
def bt (x : Int32) (i : Nat) : Bool := x.toBitVec.getLsbD i
theorem b_ext {x y : Int32} (h : ∀ i, i < 32 → bt x i = bt y i) : x = y := Int32.toBitVec_inj.mp (BitVec.eq_of_getLsbD_eq (fun i hi => h i hi))
theorem b_or (x y : Int32) (i : Nat) : bt (x ||| y) i = (bt x i || bt y i) := by unfold bt; rw [Int32.toBitVec_or, BitVec.getLsbD_or]
theorem b_and (x y : Int32) (i : Nat) : bt (x &&& y) i = (bt x i && bt y i) := by unfold bt; rw [Int32.toBitVec_and, BitVec.getLsbD_and]
theorem b_xor (x y : Int32) (i : Nat) : bt (x ^^^ y) i = (bt x i ^^ bt y i) := by unfold bt; rw [Int32.toBitVec_xor, BitVec.getLsbD_xor]
theorem b_big {x : Int32} {i : Nat} (h : 32 ≤ i) : bt x i = false := BitVec.getLsbD_of_ge _ _ h
theorem b_255 (i : Nat) : bt 255 i = decide (i < 8) := by
  rcases Nat.lt_or_ge i 32 with h | h
  · exact (by decide +kernel : ∀ i, i < 32 → bt 255 i = decide (i < 8)) i h
  · rw [b_big h, decide_eq_false (by omega)]
theorem b_65535 (i : Nat) : bt 65535 i = decide (i < 16) := by
  rcases Nat.lt_or_ge i 32 with h | h
  · exact (by decide +kernel : ∀ i, i < 32 → bt 65535 i = decide (i < 16)) i h
  · rw [b_big h, decide_eq_false (by omega)]
theorem b_m1 : ∀ i, i < 32 → bt (-1) i = true := by decide +kernel
theorem b_0 (i : Nat) : bt 0 i = false := BitVec.getLsbD_zero
theorem s_l : ∀ n, n < 32 → ((nI n &&& 31).toBitVec.smod 32).toNat = n := by decide +kernel
theorem s_u : ∀ n, n < 32 → (((nI n).toUInt32 &&& Int32.toUInt32 31).toBitVec % 32).toNat = n := by decide +kernel
theorem b_shl (n : Nat) (hn : n < 32) (x : Int32) {i : Nat} (hi : i < 32) : bt (x <<< (nI n &&& 31)) i = (decide (n ≤ i) && bt x (i - n)) := by
  unfold bt
  rw [Int32.toBitVec_shiftLeft]
  show (x.toBitVec <<< ((nI n &&& 31).toBitVec.smod 32).toNat).getLsbD i = _
  rw [s_l n hn, BitVec.getLsbD_shiftLeft]
  rcases Nat.lt_or_ge i n with h | h
  · simp [h, Nat.not_le.mpr h]
  · simp [hi, h, Nat.not_lt.mpr h]
theorem b_ushr (n : Nat) (hn : n < 32) (x : Int32) (i : Nat) : bt ((x.toUInt32 >>> ((nI n).toUInt32 &&& Int32.toUInt32 31)).toInt32) i = bt x (n + i) := by
  show (x.toUInt32 >>> ((nI n).toUInt32 &&& Int32.toUInt32 31)).toBitVec.getLsbD i = x.toUInt32.toBitVec.getLsbD (n + i)
  rw [UInt32.toBitVec_shiftRight]
  show (x.toUInt32.toBitVec >>> (((nI n).toUInt32 &&& Int32.toUInt32 31).toBitVec % 32).toNat).getLsbD i = _
  rw [s_u n hn, BitVec.getLsbD_ushiftRight]
theorem b_sshr (n : Nat) (hn : n < 32) (x : Int32) {i : Nat} (hi : i < 32) : bt (x >>> (nI n &&& 31)) i = if n + i < 32 then bt x (n + i) else bt x 31 := by
  unfold bt
  rw [Int32.toBitVec_shiftRight]
  show (x.toBitVec.sshiftRight ((nI n &&& 31).toBitVec.smod 32).toNat).getLsbD i = _
  rw [s_l n hn, BitVec.getLsbD_sshiftRight, BitVec.msb_eq_getLsbD_last]
  simp [hi]
/-! what the methods do, over the memory; b: 0 for the system, 9 for the reference -/
abbrev rI (x : Int32) (M : kMem) : kRes := .inl (some (.int x), M)
abbrev rV (M : kMem) : kRes := .inl (none, M)
abbrev rX (E : String) (M : kMem) : kRes := .inr (E, M)
abbrev eS : String := "java/lang/IllegalStateException"
abbrev eB : String := "java/lang/IndexOutOfBoundsException"
abbrev eU : String := "java/lang/UnsupportedOperationException"
abbrev eA : String := "java/lang/IllegalArgumentException"
def kb (x : Bool) : Int32 := if x then nI 1 else nI 0
theorem kb_narrow (x : Bool) : narrow .boolean (.int (kb x)) = .int (kb x) := by cases x <;> rfl
theorem kb_0 {x : Bool} : kb x = 0 ↔ x = false := by cases x <;> decide
/-- a system's call that may fail for want of power -/
def thr (q : Bool × kMem) : kRes := if q.1 = true then rV q.2 else rX eS q.2
def spC (M : kMem) : Bool × kMem := if M 0 1 = 0 then (false, mw (mw M 0 0 (nI 0)) 0 1 (-1)) else (true, (fun M1 : kMem => mw M1 0 2 (M1 0 2 + nI 1)) (if M 0 1 ≤ 0 then M else mw M 0 1 (M 0 1 - nI 1)))
def spM (M : kMem) : Bool × kMem := if ¬ M 9 0 = 0 then (false, M) else if M 9 1 = 0 then (false, mw (mw M 9 0 (nI 1)) 9 1 (-1)) else (true, (fun M1 : kMem => mw M1 9 2 (M1 9 2 + nI 1)) (mw M 9 1 (if M 9 1 ≤ 0 then M 9 1 else M 9 1 - nI 1)))
def wh (b : Nat) (sp : kMem → Bool × kMem) (M : kMem) (t : Nat) : Bool × kMem := match sp M with
  | (true, M1) => (true, va_up M1 (b + 2 + t) (va_cpy (M1 (b + 4)) (M1 (b + 2 + t)) 0 0 24))
  | (false, M1) => (false, M1)
def nx (b : Nat) (sp : kMem → Bool × kMem) (M : kMem) : Bool × kMem := match wh b sp (mw M (b + 4) 0 (M (b + 4) 0 + nI 1)) 0 with
  | (true, M1) => wh b sp M1 1
  | (false, M1) => (false, M1)
def pl (t v k : Nat) : Nat := 1536 * t + 256 * v + 4 * k
def wb (b : Nat) (sp : kMem → Bool × kMem) (M : kMem) (t v k : Nat) : Bool × kMem := match sp M with
  | (true, M1) => (true, va_up M1 (b + 1) (va_cpy (M1 (b + 5)) (M1 (b + 1)) 0 (pl t v k) 4))
  | (false, M1) => (false, M1)
def tk (b : Nat) (M : kMem) (t v k : Nat) : kMem := va_up M (b + 5) (va_cpy (M (b + 1)) (M (b + 5)) (pl t v k) 0 4)
def sm (W : Nat → Int32) (v k : Nat) : Bool := decide (W (pl 0 v k) = W (pl 1 v k) ∧ W (pl 0 v k + 1) = W (pl 1 v k + 1) ∧ W (pl 0 v k + 2) = W (pl 1 v k + 2) ∧ W (pl 0 v k + 3) = W (pl 1 v k + 3))
def crn (b : Nat) (sp : kMem → Bool × kMem) (v r t : Nat) : Nat → kMem → Bool × kMem
  | 0, M => (true, M)
  | n + 1, M => if sm (M (b + 1)) v (8 * r + (7 - n)) = true then crn b sp v r t n M else match wb b sp (tk b M t v (8 * r + (7 - n))) (1 - t) v (8 * r + (7 - n)) with
    | (true, M1) => crn b sp v r t n M1
    | (false, M1) => (false, M1)
def cr (b : Nat) (sp : kMem → Bool × kMem) (M : kMem) (v r t : Nat) : Bool × kMem := crn b sp v r t 8 M
def opn (h : Nat → Int32) (v r : Nat) : Bool := bt (h (8 + v)) r || bt (h (14 + v)) r
def lown (h : Nat → Int32) (v : Nat) : Nat → Nat
  | 0 => 8
  | n + 1 => if opn h v (7 - n) = true then 7 - n else lown h v n
def low (h : Nat → Int32) (v : Nat) : Nat := lown h v 8
def bit1 (r : Nat) : Int32 := nI 1 <<< (nI r &&& 31)
def wsn (h : Nat → Int32) : Nat → Nat
  | 0 => 4
  | n + 1 => if h (20 + (3 - n)) = -1 then 3 - n else wsn h n
def wsz (h : Nat → Int32) : Nat := wsn h 4
def inw (h : Nat → Int32) (x : Int32) : Bool := decide (h 20 = x ∨ h 21 = x ∨ h 22 = x ∨ h 23 = x)
def ent (h : Nat → Int32) (x : Int32) : Nat → Int32 := if wsz h = 4 then upd (va_cpy h h 21 20 3) 23 x else upd h (20 + wsz h) x
/-- the window behind i places looked at, those of l kept -/
def wnd (h : Nat → Int32) (l : List Int32) (i : Nat) : Nat → Int32 := fun k => if 20 ≤ k ∧ k < 20 + i then l.getD (k - 20) (-1) else h k
def wkn (h : Nat → Int32) (kp : Int32 → Bool) : Nat → List Int32
  | 0 => []
  | i + 1 => if h (20 + i) = -1 then wkn h kp i else if kp (h (20 + i)) = true then wkn h kp i ++ [h (20 + i)] else wkn h kp i
def wkp (h : Nat → Int32) (kp : Int32 → Bool) : Nat → Int32 := wnd h (wkn h kp 4) 4
theorem bit_at {x : Int32} {r : Nat} (hr : r < 32) : (x >>> (nI r &&& 31)) &&& nI 1 = kb (bt x r) := by
  apply b_ext
  intro i hi
  rw [b_and]
  have h1 : ∀ i, i < 32 → bt (nI 1) i = decide (i = 0) := by decide +kernel
  have h0 : ∀ i, i < 32 → bt (nI 0) i = false := by decide +kernel
  rw [h1 i hi]
  by_cases hz : i = 0
  · subst hz
    rw [b_sshr r hr x hi]
    simp only [Nat.add_zero, hr, if_true, decide_true, Bool.and_true]
    cases hb : bt x r
    · show false = bt (nI 0) 0
      rw [h0 0 hi]
    · show true = bt (nI 1) 0
      rw [h1 0 hi]; rfl
  · simp only [hz, decide_false, Bool.and_false]
    cases hb : bt x r
    · show false = bt (nI 0) i
      rw [h0 i hi]
    · show false = bt (nI 1) i
      rw [h1 i hi]; simp [hz]
theorem opn_or {h : Nat → Int32} {v r : Nat} : bt (h (8 + v) ||| h (14 + v)) r = opn h v r := b_or _ _ _
end
section
/-! the header's methods -/
theorem mw_up (M : kMem) (k : Nat) (f : Nat → Int32) (j : Nat) (x : Int32) : mw (va_up M k f) k j x = va_up M k (upd f j x) := by
  unfold mw
  rw [bx_uu, va_up_self]
theorem kJ_drop {d mid : Nat} {P : kRes → Prop} (k : Nat) {pc : Nat} {lv : List (Nat × Value)} {st : List Value} {M : kMem} (h : kJ d mid P pc (lv.filter (fun q => q.1 != k)) st M) : kJ d mid P pc lv st M := by
  intro p l e R s m args below meth c D ad cI cJ o C H locs ls hP hS hl
  refine h p l e R s m args below meth c D ad cI cJ o C H locs ls hP hS ⟨hl.1, hl.2.1, fun q hq => ?_⟩
  obtain ⟨q0, h0, rfl⟩ := List.mem_map.mp hq
  exact hl.2.2 _ (List.mem_map.mpr ⟨q0, (List.mem_filter.mp h0).1, rfl⟩)
theorem wnd_0 (h : Nat → Int32) : wnd h [] 0 = h := by
  funext k
  unfold wnd
  rw [if_neg (by omega)]
theorem wnd_at (h : Nat → Int32) (l : List Int32) (i : Nat) : wnd h l i (20 + i) = h (20 + i) := by
  unfold wnd
  rw [if_neg (by omega)]
theorem wnd_go (h : Nat → Int32) (l : List Int32) (i : Nat) (hl : l.length ≤ i) : upd (wnd h l i) (20 + i) (-1) = wnd h l (i + 1) := by
  funext k
  unfold wnd upd
  dsimp only
  by_cases h1 : k = 20 + i
  · subst h1
    rw [if_pos rfl, if_pos (by omega), List.getD_eq_getElem?_getD, List.getElem?_eq_none (by omega)]
    rfl
  · rw [if_neg h1]
    by_cases h2 : 20 ≤ k ∧ k < 20 + i
    · rw [if_pos h2, if_pos (by omega)]
    · rw [if_neg h2, if_neg (by omega)]
theorem wnd_keep (h : Nat → Int32) (l : List Int32) (i : Nat) (hl : l.length ≤ i) (x : Int32) : upd (wnd h l (i + 1)) (20 + l.length) x = wnd h (l ++ [x]) (i + 1) := by
  funext k
  unfold wnd upd
  dsimp only
  by_cases h1 : k = 20 + l.length
  · subst h1
    rw [if_pos rfl, if_pos (by omega), List.getD_eq_getElem?_getD, show 20 + l.length - 20 = l.length by omega, List.getElem?_append_right (Nat.le_refl _)]
    simp
  · rw [if_neg h1]
    by_cases h2 : 20 ≤ k ∧ k < 20 + (i + 1)
    · rw [if_pos h2, if_pos h2, List.getD_eq_getElem?_getD, List.getD_eq_getElem?_getD]
      by_cases h3 : k - 20 < l.length
      · rw [List.getElem?_append_left h3]
      · rw [List.getElem?_eq_none (by omega), List.getElem?_eq_none (by simp; omega)]
    · rw [if_neg h2, if_neg h2]
theorem wkn_len (h : Nat → Int32) (kp : Int32 → Bool) : ∀ i, (wkn h kp i).length ≤ i := by
  intro i
  induction i with
  | zero => exact Nat.le_refl _
  | succ i ih =>
    unfold wkn
    split
    · omega
    · split
      · simp; omega
      · omega
theorem wsn_le (h : Nat → Int32) : ∀ n, n ≤ 4 → wsn h n ≤ 4 := by
  intro n
  induction n with
  | zero => intro _; exact Nat.le_refl _
  | succ n ih =>
    intro hn
    unfold wsn
    split
    · omega
    · exact ih (by omega)
theorem wsz_le (h : Nat → Int32) : wsz h ≤ 4 := wsn_le h 4 (Nat.le_refl _)
def lowI (l : Nat) : Int32 := if l < 8 then nI l else -1
section HD
variable {d : Nat} {M : kMem} {P : kRes → Prop}
theorem h_takeFrom68 (h : P (rV (va_up M 2 (va_cpy (M 4) (M 2) 0 0 24)))) : kC d kh_takeFrom [.ref 6, .ref 8] M P := by
  refine kC_of 12 (by decide) (Nat.le_of_ble_eq_true rfl) ?_
  exact ⟨0, 0, 24, rfl, rfl, rfl, by decide, by decide, h⟩
theorem h_takeFrom78 (h : P (rV (va_up M 3 (va_cpy (M 4) (M 3) 0 0 24)))) : kC d kh_takeFrom [.ref 7, .ref 8] M P := by
  refine kC_of 12 (by decide) (Nat.le_of_ble_eq_true rfl) ?_
  exact ⟨0, 0, 24, rfl, rfl, rfl, by decide, by decide, h⟩
theorem h_takeFrom86 (h : P (rV (va_up M 4 (va_cpy (M 2) (M 4) 0 0 24)))) : kC d kh_takeFrom [.ref 8, .ref 6] M P := by
  refine kC_of 12 (by decide) (Nat.le_of_ble_eq_true rfl) ?_
  exact ⟨0, 0, 24, rfl, rfl, rfl, by decide, by decide, h⟩
theorem h_takeFrom87 (h : P (rV (va_up M 4 (va_cpy (M 3) (M 4) 0 0 24)))) : kC d kh_takeFrom [.ref 8, .ref 7] M P := by
  refine kC_of 12 (by decide) (Nat.le_of_ble_eq_true rfl) ?_
  exact ⟨0, 0, 24, rfl, rfl, rfl, by decide, by decide, h⟩
theorem h_itemAt6 {w : Nat} (hw : w < 24) (h : P (rI (M 2 w) M)) : kC d kh_itemAt [.ref 6, .int (nI w)] M P := by
  refine kC_of 12 (by decide) (Nat.le_of_ble_eq_true rfl) ?_
  exact ⟨w, rfl, hw, rfl, h⟩
theorem h_itemAt7 {w : Nat} (hw : w < 24) (h : P (rI (M 3 w) M)) : kC d kh_itemAt [.ref 7, .int (nI w)] M P := by
  refine kC_of 12 (by decide) (Nat.le_of_ble_eq_true rfl) ?_
  exact ⟨w, rfl, hw, rfl, h⟩
theorem h_number6 (h : P (rI (M 2 0) M)) : kC d kh_number [.ref 6] M P := by
  refine kC_of 12 (by decide) (Nat.le_of_ble_eq_true rfl) ?_
  exact ⟨0, rfl, by decide, rfl, h⟩
theorem h_number7 (h : P (rI (M 3 0) M)) : kC d kh_number [.ref 7] M P := by
  refine kC_of 12 (by decide) (Nat.le_of_ble_eq_true rfl) ?_
  exact ⟨0, rfl, by decide, rfl, h⟩
theorem h_countUp (h : P (rV (mw M 4 0 (M 4 0 + nI 1)))) : kC d kh_countUp [.ref 8] M P := by
  refine kC_of 12 (by decide) (Nat.le_of_ble_eq_true rfl) ?_
  exact ⟨0, rfl, by decide, 0, rfl, by decide, h⟩
theorem h_volumeCount (h : P (rI (M 4 1) M)) : kC d kh_volumeCount [.ref 8] M P := by
  refine kC_of 12 (by decide) (Nat.le_of_ble_eq_true rfl) ?_
  exact ⟨1, rfl, by decide, rfl, h⟩
theorem h_stateOf {v : Nat} (hv : v < 6) (h : P (rI (M 4 (2 + v)) M)) : kC d kh_stateOf [.ref 8, .int (nI v)] M P := by
  refine kC_of 10 (by decide) (Nat.le_of_ble_eq_true rfl) ?_
  exact ⟨2 + v, nI_add 2 v, by omega, rfl, h⟩
theorem h_setState {v : Nat} {x : Int32} (hv : v < 6) (h : P (rV (mw M 4 (2 + v) x))) : kC d kh_setState [.ref 8, .int (nI v), .int x] M P := by
  refine kC_of 10 (by decide) (Nat.le_of_ble_eq_true rfl) ?_
  exact ⟨2 + v, nI_add 2 v, by omega, h⟩
theorem h_mapAt {v t : Nat} (h : P (rI (nI (8 + t * 6 + v)) M)) : kC d kh_mapAt [.int (nI v), .int (nI t)] M P := by
  refine kC_of 10 (by decide) (Nat.le_of_ble_eq_true rfl) ?_
  refine ⟨rfl, ?_⟩
  show P (rI (nI 8 + nI t * nI 6 + nI v) M)
  rw [pk_mul, nI_add, nI_add]
  exact h
theorem h_mapOf {v t : Nat} (hv : v < 6) (ht : t < 2) (h : P (rI (M 4 (8 + t * 6 + v)) M)) : kC (d + 1) kh_mapOf [.ref 8, .int (nI v), .int (nI t)] M P := by
  refine kC_of 10 (by decide) (Nat.le_of_ble_eq_true rfl) ?_
  refine h_mapAt ?_
  exact ⟨_, rfl, by omega, rfl, h⟩
theorem h_marksOf {v : Nat} (hv : v < 6) (h : P (rI (M 4 (8 + v) ||| M 4 (14 + v)) M)) : kC (d + 2) kh_marksOf [.ref 8, .int (nI v)] M P := by
  refine kC_of 12 (by decide) (Nat.le_of_ble_eq_true rfl) ?_
  refine h_mapOf (t := 0) hv (by decide) ?_
  refine h_mapOf (t := 1) hv (by decide) ?_
  exact ⟨rfl, h⟩
theorem h_isMarked {v r : Nat} (hv : v < 6) (hr : r < 8) (h : P (rI (kb (opn (M 4) v r)) M)) : kC (d + 3) kh_isMarked [.ref 8, .int (nI v), .int (nI r)] M P := by
  refine kC_of 14 (by decide) (Nat.le_of_ble_eq_true rfl) ?_
  refine h_marksOf hv ?_
  have hb : ((M 4 (8 + v) ||| M 4 (14 + v)) >>> (nI r &&& 31)) &&& nI 1 = kb (opn (M 4) v r) := by rw [bit_at (by omega), opn_or]
  refine ⟨fun e => ?_, fun e => ?_⟩
  · have e2 : kb (opn (M 4) v r) = 0 := hb.symm.trans e
    rw [kb_0.mp e2] at h
    exact ⟨rfl, h⟩
  · have e2 : ¬ kb (opn (M 4) v r) = 0 := fun z => e (hb.trans z)
    rw [kb_0, Bool.not_eq_false] at e2
    rw [e2] at h
    exact ⟨rfl, h⟩
theorem h_low_loop {v : Nat} (hv : v < 6) : ∀ (n i : Nat) (x : Int32), i + n = 8 → x = nI i → P (rI (lowI (lown (M 4) v n)) M) → kJ (d + 4) kh_lowestMarked P 2 [(0, .ref 8), (1, .int (nI v)), (2, .int x)] [] M := by
  intro n
  induction n with
  | zero =>
    intro i x hi hx h
    have hi : i = 8 := by omega
    subst hi; subst hx
    refine kJ_H [2] 10 ?_
    exact ⟨fun _ => ⟨rfl, h⟩, fun e => absurd (by decide) e⟩
  | succ n ih =>
    intro i x hi hx h
    subst hx
    have hi2 : i = 7 - n := by omega
    refine kJ_H [2] 20 ?_
    refine ⟨fun e => absurd e (nI_ge (by omega) (by decide)), fun _ => ?_⟩
    refine h_isMarked hv (by omega) ?_
    unfold lown at h
    rw [← hi2] at h
    refine ⟨fun e => ?_, fun e => ?_⟩
    · rw [if_neg (by rw [kb_0.mp e]; decide)] at h
      exact ih (i + 1) _ (by omega) (nI_1 i) h
    · have e2 : opn (M 4) v i = true := by
        have e3 : ¬ kb (opn (M 4) v i) = 0 := e
        rw [kb_0, Bool.not_eq_false] at e3
        exact e3
      rw [if_pos e2] at h
      unfold lowI at h
      rw [if_pos (by omega)] at h
      exact ⟨rfl, h⟩
theorem h_lowestMarked {v : Nat} (hv : v < 6) (h : P (rI (lowI (low (M 4) v)) M)) : kC (d + 4) kh_lowestMarked [.ref 8, .int (nI v)] M P := by
  refine kC_L [2] 10 (by decide) (Nat.le_of_ble_eq_true rfl) ?_
  exact h_low_loop hv 8 0 _ rfl rfl h
theorem h_mark {v t r : Nat} (hv : v < 6) (ht : t < 2) (h : P (rV (mw M 4 (8 + t * 6 + v) (M 4 (8 + t * 6 + v) ||| bit1 r)))) : kC (d + 1) kh_mark [.ref 8, .int (nI v), .int (nI t), .int (nI r)] M P := by
  refine kC_of 20 (by decide) (Nat.le_of_ble_eq_true rfl) ?_
  refine h_mapAt ?_
  exact ⟨_, rfl, by omega, _, rfl, by omega, h⟩
theorem h_clearRegion {v r : Nat} (hv : v < 6) (h : P (rV ((fun M1 : kMem => mw M1 4 (14 + v) (M1 4 (14 + v) &&& (bit1 r ^^^ -1))) (mw M 4 (8 + v) (M 4 (8 + v) &&& (bit1 r ^^^ -1)))))) : kC (d + 1) kh_clearRegion [.ref 8, .int (nI v), .int (nI r)] M P := by
  refine kC_of 40 (by decide) (Nat.le_of_ble_eq_true rfl) ?_
  refine h_mapAt (t := 0) ?_
  refine ⟨8 + 0 * 6 + v, rfl, by omega, 8 + 0 * 6 + v, rfl, by omega, ?_⟩
  refine h_mapAt (t := 1) ?_
  exact ⟨8 + 1 * 6 + v, rfl, by omega, 8 + 1 * 6 + v, rfl, by omega, h⟩
theorem h_clearMaps {v : Nat} (hv : v < 6) (h : P (rV (mw (mw M 4 (8 + v) (nI 0)) 4 (14 + v) (nI 0)))) : kC (d + 1) kh_clearMaps [.ref 8, .int (nI v)] M P := by
  refine kC_of 40 (by decide) (Nat.le_of_ble_eq_true rfl) ?_
  refine h_mapAt (t := 0) ?_
  refine ⟨8 + 0 * 6 + v, rfl, by omega, ?_⟩
  refine h_mapAt (t := 1) ?_
  exact ⟨8 + 1 * 6 + v, rfl, by omega, h⟩
theorem h_addVolume {n : Nat} (hn : n < 6) (h1 : M 4 1 = nI n) (h : P (rI (nI n) (mw (mw (mw (mw M 4 1 (nI n + nI 1)) 4 (2 + n) (nI 0)) 4 (8 + n) (nI 0)) 4 (14 + n) (nI 0)))) : kC (d + 2) kh_addVolume [.ref 8] M P := by
  refine kC_of 40 (by decide) (Nat.le_of_ble_eq_true rfl) ?_
  refine ⟨1, rfl, by decide, ?_⟩
  rw [h1]
  refine ⟨1, rfl, by decide, ?_⟩
  refine h_setState hn ?_
  refine h_clearMaps hn ?_
  exact ⟨rfl, h⟩
theorem h_placeAt {i : Nat} (hi : i < 4) (h : P (rI (M 4 (20 + i)) M)) : kC d kh_placeAt [.ref 8, .int (nI i)] M P := by
  refine kC_of 10 (by decide) (Nat.le_of_ble_eq_true rfl) ?_
  exact ⟨20 + i, nI_add 20 i, by omega, rfl, h⟩
end HD
end
section
/-! the header's window -/
theorem kwL_eq {d mid : Nat} {P : kRes → Prop} {sl : List Nat} {n pc : Nat} {lv : List (Nat × Value)} {st : List Value} {M M' : kMem} (e : M = M') (h : kwL d mid P sl n pc lv st M') : kwL d mid P sl n pc lv st M := by rw [e]; exact h
theorem kwN_eq {d mid : Nat} {P : kRes → Prop} {n pc : Nat} {lv : List (Nat × Value)} {st : List Value} {M M' : kMem} (e : M = M') (h : kwN d mid P n pc lv st M') : kwN d mid P n pc lv st M := by rw [e]; exact h
theorem kJ_eq {d mid : Nat} {P : kRes → Prop} {pc : Nat} {lv : List (Nat × Value)} {st : List Value} {M M' : kMem} (e : M = M') (h : kJ d mid P pc lv st M') : kJ d mid P pc lv st M := by rw [e]; exact h
theorem kC_eq {d mid : Nat} {P : kRes → Prop} {av : List Value} {M M' : kMem} (e : M = M') (h : kC d mid av M' P) : kC d mid av M P := by rw [e]; exact h
section HW
variable {d : Nat} {M : kMem} {P : kRes → Prop}
theorem kb_pos {x : Bool} (h : ¬ kb x = 0) : x = true := by
  cases x
  · exact absurd rfl h
  · rfl
theorem h_isInWindow {x : Int32} (h : P (rI (kb (inw (M 4) x)) M)) : kC (d + 1) kh_isInWindow [.ref 8, .int x] M P := by
  have ht : (M 4 20 = x ∨ M 4 21 = x ∨ M 4 22 = x ∨ M 4 23 = x) → P (rI (nI 1) M) := fun z => by
    have e : inw (M 4) x = true := decide_eq_true z
    rw [e] at h
    exact h
  refine kC_of 80 (by decide) (Nat.le_of_ble_eq_true rfl) ?_
  refine ⟨fun e => absurd e (by decide), fun _ => h_placeAt (i := 0) (by decide) ⟨fun e0 => ?_, fun e0 => ⟨rfl, ht (Or.inl e0)⟩⟩⟩
  refine ⟨fun e => absurd e (by decide), fun _ => h_placeAt (i := 1) (by decide) ⟨fun e1 => ?_, fun e1 => ⟨rfl, ht (Or.inr (Or.inl e1))⟩⟩⟩
  refine ⟨fun e => absurd e (by decide), fun _ => h_placeAt (i := 2) (by decide) ⟨fun e2 => ?_, fun e2 => ⟨rfl, ht (Or.inr (Or.inr (Or.inl e2)))⟩⟩⟩
  refine ⟨fun e => absurd e (by decide), fun _ => h_placeAt (i := 3) (by decide) ⟨fun e3 => ?_, fun e3 => ⟨rfl, ht (Or.inr (Or.inr (Or.inr e3)))⟩⟩⟩
  refine ⟨fun _ => ⟨rfl, ?_⟩, fun e => absurd (by decide) e⟩
  have e : inw (M 4) x = false := decide_eq_false (fun z => z.elim e0 (fun z => z.elim e1 (fun z => z.elim e2 e3)))
  rw [e] at h
  exact h
theorem h_windowSize (h : P (rI (nI (wsz (M 4))) M)) : kC (d + 1) kh_windowSize [.ref 8] M P := by
  have h : P (rI (nI (if M 4 20 = -1 then 0 else if M 4 21 = -1 then 1 else if M 4 22 = -1 then 2 else if M 4 23 = -1 then 3 else 4)) M) := h
  refine kC_of 80 (by decide) (Nat.le_of_ble_eq_true rfl) ?_
  refine ⟨fun e => absurd e (by decide), fun _ => h_placeAt (i := 0) (by decide) ⟨fun e0 => ?_, fun e0 => ?_⟩⟩
  · have e0 : M 4 20 = -1 := e0
    rw [if_pos e0] at h
    exact ⟨rfl, h⟩
  have e0 : ¬ M 4 20 = -1 := e0
  rw [if_neg e0] at h
  refine ⟨fun e => absurd e (by decide), fun _ => h_placeAt (i := 1) (by decide) ⟨fun e1 => ?_, fun e1 => ?_⟩⟩
  · have e1 : M 4 21 = -1 := e1
    rw [if_pos e1] at h
    exact ⟨rfl, h⟩
  have e1 : ¬ M 4 21 = -1 := e1
  rw [if_neg e1] at h
  refine ⟨fun e => absurd e (by decide), fun _ => h_placeAt (i := 2) (by decide) ⟨fun e2 => ?_, fun e2 => ?_⟩⟩
  · have e2 : M 4 22 = -1 := e2
    rw [if_pos e2] at h
    exact ⟨rfl, h⟩
  have e2 : ¬ M 4 22 = -1 := e2
  rw [if_neg e2] at h
  refine ⟨fun e => absurd e (by decide), fun _ => h_placeAt (i := 3) (by decide) ⟨fun e3 => ?_, fun e3 => ?_⟩⟩
  · have e3 : M 4 23 = -1 := e3
    rw [if_pos e3] at h
    exact ⟨rfl, h⟩
  have e3 : ¬ M 4 23 = -1 := e3
  rw [if_neg e3] at h
  exact ⟨fun _ => ⟨rfl, h⟩, fun e => absurd (by decide) e⟩
theorem h_enterWindow {x : Int32} (h : P (rV (va_up M 4 (ent (M 4) x)))) : kC (d + 2) kh_enterWindow [.ref 8, .int x] M P := by
  have hw := wsz_le (M 4)
  unfold ent at h
  refine kC_of 40 (by decide) (Nat.le_of_ble_eq_true rfl) ?_
  refine h_windowSize ?_
  refine ⟨fun e => ?_, fun e => ?_⟩
  · have hne : ¬ wsz (M 4) = 4 := fun z => e (by rw [z]; rfl)
    rw [if_neg hne] at h
    exact ⟨20 + wsz (M 4), nI_add 20 _, by omega, h⟩
  · have he : wsz (M 4) = 4 := (nI_eq (by omega) (by decide)).mp e
    rw [if_pos he] at h
    refine ⟨21, 20, 3, rfl, rfl, rfl, by decide, by decide, ?_⟩
    refine ⟨23, rfl, by decide, ?_⟩
    rw [← mw_up] at h
    exact h
theorem h_leave_loop {v : Nat} : ∀ (n i : Nat) (x y : Int32), i + n = 4 → x = nI (wkn (M 4) (fun a => decide (¬ a / nI 8 = nI v)) i).length → y = nI i → P (rV (va_up M 4 (wkp (M 4) (fun a => decide (¬ a / nI 8 = nI v))))) →
    kJ (d + 1) kh_leaveWindow P 4 [(0, .ref 8), (1, .int (nI v)), (2, .int x), (3, .int y)] [] (va_up M 4 (wnd (M 4) (wkn (M 4) (fun a => decide (¬ a / nI 8 = nI v)) i) i)) := by
  intro n
  induction n with
  | zero =>
    intro i x y hi hx hy h
    have hi : i = 4 := by omega
    subst hi; subst hy
    refine kJ_H [4] 10 ?_
    exact ⟨fun _ => h, fun e => absurd (by decide) e⟩
  | succ n ih =>
    intro i x y hi hx hy h
    subst hy
    have hl := wkn_len (M 4) (fun a => decide (¬ a / nI 8 = nI v)) i
    generalize hL : wkn (M 4) (fun a => decide (¬ a / nI 8 = nI v)) i = L at hx hl ⊢
    have hs : wkn (M 4) (fun a => decide (¬ a / nI 8 = nI v)) (i + 1) = if M 4 (20 + i) = -1 then L else if (fun a => decide (¬ a / nI 8 = nI v)) (M 4 (20 + i)) = true then L ++ [M 4 (20 + i)] else L := by
      rw [← hL]
      rfl
    have hg : va_up M 4 (wnd (M 4) L i) 4 (20 + i) = M 4 (20 + i) := by rw [va_up_self, wnd_at]
    have h1 : mw (va_up M 4 (wnd (M 4) L i)) 4 (20 + i) (-1) = va_up M 4 (wnd (M 4) L (i + 1)) := by rw [mw_up, wnd_go _ _ _ hl]
    refine kJ_H [4] 50 ?_
    refine ⟨fun e => absurd e (nI_ge (by omega) (by decide)), fun _ => ?_⟩
    refine h_placeAt (by omega) ?_
    rw [hg]
    refine ⟨20 + i, nI_add 20 i, by omega, kwL_eq h1 ?_⟩
    refine ⟨fun e => ?_, fun e => ⟨by decide, fun e2 => ?_, fun e2 => ?_⟩⟩
    · have e : M 4 (20 + i) = -1 := e
      rw [if_pos e] at hs
      refine kJ_drop 4 (kJ_eq (M' := va_up M 4 (wnd (M 4) (wkn (M 4) (fun a => decide (¬ a / nI 8 = nI v)) (i + 1)) (i + 1))) (by rw [hs]) ?_)
      exact ih (i + 1) _ _ (by omega) (by rw [hs]; exact hx) (nI_1 i) h
    · have e : ¬ M 4 (20 + i) = -1 := e
      have e2 : M 4 (20 + i) / nI 8 = nI v := e2
      rw [if_neg e, if_neg (by simp; exact e2)] at hs
      refine kJ_drop 4 (kJ_eq (M' := va_up M 4 (wnd (M 4) (wkn (M 4) (fun a => decide (¬ a / nI 8 = nI v)) (i + 1)) (i + 1))) (by rw [hs]) ?_)
      exact ih (i + 1) _ _ (by omega) (by rw [hs]; exact hx) (nI_1 i) h
    · have e : ¬ M 4 (20 + i) = -1 := e
      have e2 : ¬ M 4 (20 + i) / nI 8 = nI v := e2
      rw [if_neg e, if_pos (by simp; exact e2)] at hs
      refine ⟨20 + L.length, ?_, by omega, ?_⟩
      · rw [hx]
        exact nI_add 20 _
      refine kJ_drop 4 (kJ_eq (M' := va_up M 4 (wnd (M 4) (wkn (M 4) (fun a => decide (¬ a / nI 8 = nI v)) (i + 1)) (i + 1))) (by rw [hs, ← wnd_keep _ _ _ hl, ← mw_up]) ?_)
      refine ih (i + 1) _ _ (by omega) ?_ (nI_1 i) h
      rw [hs, hx, List.length_append]
      exact nI_1 _
theorem h_leaveWindow {v : Nat} (h : P (rV (va_up M 4 (wkp (M 4) (fun a => decide (¬ a / nI 8 = nI v)))))) : kC (d + 1) kh_leaveWindow [.ref 8, .int (nI v)] M P := by
  refine kC_L [4] 20 (by decide) (Nat.le_of_ble_eq_true rfl) ?_
  have h0 := h_leave_loop (d := d) (v := v) 4 0 (nI 0) (nI 0) rfl rfl rfl h
  rw [show wkn (M 4) (fun a => decide (¬ a / nI 8 = nI v)) 0 = [] from rfl, wnd_0] at h0
  have e : va_up M 4 (M 4) = M := by
    funext k
    unfold va_up
    by_cases hk : k = 4
    · rw [if_pos hk, hk]
    · rw [if_neg hk]
  rw [e] at h0
  exact h0
theorem wnd_nil (h : Nat → Int32) : upd (upd (upd (upd h 20 (-1)) 21 (-1)) 22 (-1)) 23 (-1) = wnd h [] 4 := by
  have h1 := wnd_go h [] 0 (Nat.le_refl _)
  have h2 := wnd_go h [] 1 (by simp)
  have h3 := wnd_go h [] 2 (by simp)
  have h4 := wnd_go h [] 3 (by simp)
  rw [wnd_0] at h1
  rw [← h4, ← h3, ← h2, ← h1]
theorem h_emptyWindow (h : P (rV (va_up M 4 (wnd (M 4) [] 4)))) : kC d kh_emptyWindow [.ref 8] M P := by
  refine kC_of 80 (by decide) (Nat.le_of_ble_eq_true rfl) ?_
  refine ⟨fun e => absurd e (by decide), fun _ => ⟨20, rfl, by decide, ?_⟩⟩
  refine ⟨fun e => absurd e (by decide), fun _ => ⟨21, rfl, by decide, ?_⟩⟩
  refine ⟨fun e => absurd e (by decide), fun _ => ⟨22, rfl, by decide, ?_⟩⟩
  refine ⟨fun e => absurd e (by decide), fun _ => ⟨23, rfl, by decide, ?_⟩⟩
  refine ⟨fun _ => ?_, fun e => absurd (by decide) e⟩
  rw [← wnd_nil, ← mw_up, ← mw_up, ← mw_up] at h
  exact h
end HW
end
section
/-! the system's methods: leaves, single writes -/
def isV (h : Nat → Int32) (x : Int32) : Bool := decide (¬ x < 0 ∧ ¬ h 1 ≤ x)
def isS (x : Int32) : Bool := decide (¬ x < 0 ∧ ¬ nI 2 ≤ x)
def sidI (s : Nat) (x : Int32) : Int32 := if s = 1 then x else nI (s - 2)
theorem pl_at (t v k : Nat) : ((nI t * nI 6 + nI v) * nI 64 + nI k) * nI 4 = nI (pl t v k) := by
  rw [pk_mul, nI_add, pk_mul, nI_add, pk_mul]
  congr 1
  unfold pl
  omega
theorem pl_lt {t v k : Nat} (ht : t < 2) (hv : v < 6) (hk : k < 64) : pl t v k + 4 ≤ 3072 := by unfold pl; omega
/-- the last n of four words are the same -/
def smR (W : Nat → Int32) (p q : Nat) : Nat → Bool
  | 0 => true
  | n + 1 => decide (W (p + (3 - n)) = W (q + (3 - n))) && smR W p q n
section CA
variable {d : Nat} {M : kMem} {P : kRes → Prop}
theorem c_isVolume {x : Int32} (h : P (rI (kb (isV (M 4) x)) M)) : kC (d + 1) kc_isVolume [.ref 0, .int x] M P := by
  refine kC_of 20 (by decide) (Nat.le_of_ble_eq_true rfl) ?_
  refine ⟨fun e => ?_, fun e => ?_⟩
  · rw [show isV (M 4) x = false from decide_eq_false (fun z => z.1 e)] at h
    exact ⟨rfl, h⟩
  · refine h_volumeCount ?_
    refine ⟨fun e2 => ?_, fun e2 => ?_⟩
    · rw [show isV (M 4) x = false from decide_eq_false (fun z => z.2 e2)] at h
      exact ⟨rfl, h⟩
    · rw [show isV (M 4) x = true from decide_eq_true ⟨e, e2⟩] at h
      exact ⟨rfl, h⟩
theorem c_isSide {x : Int32} (h : P (rI (kb (isS x)) M)) : kC d kc_isSide [.int x] M P := by
  refine kC_of 20 (by decide) (Nat.le_of_ble_eq_true rfl) ?_
  refine ⟨fun e => ?_, fun e => ⟨fun e2 => ?_, fun e2 => ?_⟩⟩
  · rw [show isS x = false from decide_eq_false (fun z => z.1 e)] at h
    exact ⟨rfl, h⟩
  · rw [show isS x = false from decide_eq_false (fun z => z.2 e2)] at h
    exact ⟨rfl, h⟩
  · rw [show isS x = true from decide_eq_true ⟨e, e2⟩] at h
    exact ⟨rfl, h⟩
theorem c_blockAt {v t k : Nat} (h : P (rI (nI (pl t v k)) M)) : kC d kc_blockAt [.int (nI v), .int (nI t), .int (nI k)] M P := by
  refine kC_of 20 (by decide) (Nat.le_of_ble_eq_true rfl) ?_
  refine ⟨rfl, ?_⟩
  rw [← pl_at] at h
  exact h
theorem c_otherSide {t : Nat} (ht : t < 2) (h : P (rI (nI (1 - t)) M)) : kC d kc_otherSide [.int (nI t)] M P := by
  refine kC_of 20 (by decide) (Nat.le_of_ble_eq_true rfl) ?_
  refine ⟨rfl, ?_⟩
  rw [← pk_sub (by omega)] at h
  exact h
theorem c_headerOn0 (h : P (.inl (some (.ref 6), M))) : kC d kc_headerOn [.ref 0, .int (nI 0)] M P := by
  refine kC_of 20 (by decide) (Nat.le_of_ble_eq_true rfl) ?_
  exact ⟨fun e => absurd rfl e, fun _ => h⟩
theorem c_headerOn1 (h : P (.inl (some (.ref 7), M))) : kC d kc_headerOn [.ref 0, .int (nI 1)] M P := by
  refine kC_of 20 (by decide) (Nat.le_of_ble_eq_true rfl) ?_
  exact ⟨fun _ => h, fun e => absurd e (by decide)⟩
theorem c_sideInUse {v s : Nat} {x : Int32} (hv : v < 6) (hs : s < 4) (hst : M 4 (2 + v) = nI s) (h : P (rI (sidI s x) M)) : kC (d + 1) kc_sideInUse [.ref 0, .int (nI v), .int x] M P := by
  refine kC_of 30 (by decide) (Nat.le_of_ble_eq_true rfl) ?_
  refine h_stateOf hv ?_
  rw [hst]
  unfold sidI at h
  refine ⟨fun e => ⟨fun e2 => ?_, fun e2 => ?_⟩, fun e => ?_⟩
  · have h1 : ¬ s = 1 := fun z => e (by rw [z]; rfl)
    have h2 : ¬ s = 0 := fun z => e2 (by rw [z]; rfl)
    rw [if_neg h1] at h
    refine ⟨rfl, ?_⟩
    rw [← pk_sub (by omega)] at h
    exact h
  · have h2 : s = 0 := (nI_eq (by omega) (by decide)).mp e2
    subst h2
    exact ⟨rfl, h⟩
  · have h1 : s = 1 := (nI_eq (by omega) (by decide)).mp e
    rw [if_pos h1] at h
    exact ⟨rfl, h⟩
theorem c_isSame_loop {v k p q : Nat} (hp : p + 4 ≤ 3072) (hq : q + 4 ≤ 3072) : ∀ (n i : Nat) (x : Int32), i + n = 4 → x = nI i → P (rI (kb (smR (M 1) p q n)) M) →
    kJ (d + 1) kc_isSameOnBothSides P 18 [(0, .ref 0), (1, .int (nI v)), (2, .int (nI k)), (3, .int (nI p)), (4, .int (nI q)), (5, .int x)] [] M := by
  intro n
  induction n with
  | zero =>
    intro i x hi hx h
    have hi : i = 4 := by omega
    subst hi; subst hx
    refine kJ_H [18] 10 ?_
    exact ⟨fun _ => ⟨rfl, h⟩, fun e => absurd (by decide) e⟩
  | succ n ih =>
    intro i x hi hx h
    subst hx
    have hi2 : i = 3 - n := by omega
    unfold smR at h
    rw [← hi2] at h
    refine kJ_H [18] 30 ?_
    refine ⟨fun e => absurd e (nI_ge (by omega) (by decide)), fun _ => ⟨p + i, nI_add _ _, by omega, q + i, nI_add _ _, by omega, fun e => ?_, fun e => ?_⟩⟩
    · rw [decide_eq_true e, Bool.true_and] at h
      exact ih (i + 1) _ (by omega) (nI_1 i) h
    · rw [decide_eq_false e, Bool.false_and] at h
      exact ⟨rfl, h⟩
theorem sm_R (W : Nat → Int32) (v k : Nat) : sm W v k = smR W (pl 0 v k) (pl 1 v k) 4 := by
  unfold sm
  simp [smR]
theorem c_isSame {v k : Nat} (hv : v < 6) (hk : k < 64) (h : P (rI (kb (sm (M 1) v k)) M)) : kC (d + 1) kc_isSameOnBothSides [.ref 0, .int (nI v), .int (nI k)] M P := by
  rw [sm_R] at h
  refine kC_L [18] 30 (by decide) (Nat.le_of_ble_eq_true rfl) ?_
  refine c_blockAt (t := 0) ?_
  refine c_blockAt (t := 1) ?_
  exact c_isSame_loop (pl_lt (by decide) hv hk) (pl_lt (by decide) hv hk) 4 0 _ rfl rfl h
theorem c_spendWrite (h : P (thr (spC M))) : kC d kc_spendWrite [.ref 0] M P := by
  unfold spC at h
  refine kC_of 40 (by decide) (Nat.le_of_ble_eq_true rfl) ?_
  refine ⟨fun e => ?_, fun e => ?_⟩
  · have e : ¬ M 0 1 = 0 := e
    rw [if_neg e] at h
    refine ⟨fun e2 => ?_, fun e2 => ?_⟩
    · have e2 : M 0 1 ≤ 0 := e2
      rw [if_pos e2] at h
      exact ⟨rfl, rfl, h⟩
    · have e2 : ¬ M 0 1 ≤ 0 := e2
      rw [if_neg e2] at h
      exact ⟨rfl, rfl, rfl, rfl, h⟩
  · have e : M 0 1 = 0 := e
    rw [if_pos e] at h
    exact ⟨rfl, rfl, rfl, rfl, h⟩
theorem c_writeHeaderOn0 (h : P (thr (wh 0 spC M 0))) : kC (d + 1) kc_writeHeaderOn [.ref 0, .int (nI 0)] M P := by
  unfold wh at h
  refine kC_of 40 (by decide) (Nat.le_of_ble_eq_true rfl) ?_
  refine c_spendWrite ?_
  rcases hx : spC M with ⟨ok, M1⟩
  rw [hx] at h
  cases ok
  · exact h
  · refine c_headerOn0 ?_
    refine h_takeFrom68 ?_
    exact h
theorem c_writeHeaderOn1 (h : P (thr (wh 0 spC M 1))) : kC (d + 1) kc_writeHeaderOn [.ref 0, .int (nI 1)] M P := by
  unfold wh at h
  refine kC_of 40 (by decide) (Nat.le_of_ble_eq_true rfl) ?_
  refine c_spendWrite ?_
  rcases hx : spC M with ⟨ok, M1⟩
  rw [hx] at h
  cases ok
  · exact h
  · refine c_headerOn1 ?_
    refine h_takeFrom78 ?_
    exact h
theorem c_writeHeader (h : P (thr (nx 0 spC M))) : kC (d + 2) kc_writeHeader [.ref 0] M P := by
  unfold nx at h
  refine kC_of 40 (by decide) (Nat.le_of_ble_eq_true rfl) ?_
  refine h_countUp ?_
  refine c_writeHeaderOn0 ?_
  have h : P (thr (match wh 0 spC (mw M 4 0 (M 4 0 + nI 1)) 0 with | (true, M1) => wh 0 spC M1 1 | (false, M1) => (false, M1))) := h
  show kgo _ _ _ _ _ _ _ (thr (wh 0 spC (mw M 4 0 (M 4 0 + nI 1)) 0))
  rcases hx : wh 0 spC (mw M 4 0 (M 4 0 + nI 1)) 0 with ⟨ok, M1⟩
  rw [hx] at h
  cases ok
  · exact h
  · refine c_writeHeaderOn1 ?_
    rcases hy : wh 0 spC M1 1 with ⟨ok, M2⟩
    have h : P (thr (wh 0 spC M1 1)) := h
    rw [hy] at h
    cases ok
    · exact h
    · exact h
theorem c_writeFresh {v t k : Nat} (hv : v < 6) (ht : t < 2) (hk : k < 64) (h : P (thr (wb 0 spC M t v k))) : kC (d + 1) kc_writeFresh [.ref 0, .int (nI v), .int (nI t), .int (nI k)] M P := by
  have hp := pl_lt ht hv hk
  unfold wb at h
  refine kC_of 40 (by decide) (Nat.le_of_ble_eq_true rfl) ?_
  refine c_spendWrite ?_
  rcases hx : spC M with ⟨ok, M1⟩
  rw [hx] at h
  cases ok
  · exact h
  · refine c_blockAt ?_
    exact ⟨0, pl t v k, 4, rfl, rfl, rfl, by decide, hp, h⟩
theorem c_writeFromSide {v t k : Nat} (hv : v < 6) (ht : t < 2) (hk : k < 64) (h : P (thr (wb 0 spC (tk 0 M t v k) (1 - t) v k))) : kC (d + 2) kc_writeFromSide [.ref 0, .int (nI v), .int (nI t), .int (nI k)] M P := by
  have hp := pl_lt ht hv hk
  refine kC_of 40 (by decide) (Nat.le_of_ble_eq_true rfl) ?_
  refine c_blockAt ?_
  refine ⟨pl t v k, 0, 4, rfl, rfl, rfl, hp, by decide, ?_⟩
  refine c_otherSide ht ?_
  refine c_writeFresh hv (by omega) hk ?_
  show kgo _ _ _ _ _ _ _ (thr (wb 0 spC (tk 0 M t v k) (1 - t) v k))
  rcases hx : wb 0 spC (tk 0 M t v k) (1 - t) v k with ⟨ok, M1⟩
  rw [hx] at h
  cases ok
  · exact h
  · exact h
end CA
end
section
/-! the system's methods: a write, a step, mending -/
def mkb (b : Nat) (sp : kMem → Bool × kMem) (M : kMem) (v t r : Nat) : Bool × kMem := if bt (M (b + 4) (8 + t * 6 + v)) r = true then (true, M) else nx b sp (mw M (b + 4) (8 + t * 6 + v) (M (b + 4) (8 + t * 6 + v) ||| bit1 r))
def enb (b : Nat) (sp : kMem → Bool × kMem) (M : kMem) (v r : Nat) : Bool × kMem := if inw (M (b + 4)) (nI (v * 8 + r)) = true then (true, M) else nx b sp (va_up M (b + 4) (ent (M (b + 4)) (nI (v * 8 + r))))
def put (b : Nat) (sp : kMem → Bool × kMem) (M : kMem) (v t k : Nat) : Bool × kMem :=
  if M (b + 4) (2 + v) = nI 1 then (match mkb b sp M v t (k / 8) with
    | (true, M1) => wb b sp M1 t v k
    | (false, M1) => (false, M1))
  else if opn (M (b + 4)) v (k / 8) = true then wb b sp M t v k
  else match enb b sp M v (k / 8) with
    | (true, M1) => (match wb b sp M1 t v k with
      | (true, M2) => wb b sp M2 (1 - t) v k
      | (false, M2) => (false, M2))
    | (false, M1) => (false, M1)
def clr (b : Nat) (M : kMem) (v r : Nat) : kMem := (fun M1 : kMem => mw M1 (b + 4) (14 + v) (M1 (b + 4) (14 + v) &&& (bit1 r ^^^ -1))) (mw M (b + 4) (8 + v) (M (b + 4) (8 + v) &&& (bit1 r ^^^ -1)))
def jn (b : Nat) (M : kMem) (v : Nat) : kMem := if M (b + 4) (8 + v) ||| M (b + 4) (14 + v) = 0 then mw M (b + 4) (2 + v) (nI 0) else M
/-- a step's end: the volume joins if no bit is left, the header is written, c is counted -/
def stq (b : Nat) (sp : kMem → Bool × kMem) (M : kMem) (v : Nat) (c : Int32) : Bool × kMem := match nx b sp (jn b M v) with
  | (true, M2) => (true, mw M2 b 3 (M2 b 3 + c))
  | (false, M2) => (false, M2)
def stp (b : Nat) (sp : kMem → Bool × kMem) (M : kMem) (v t : Nat) : Bool × kMem :=
  if low (M (b + 4)) v < 8 then (match cr b sp M v (low (M (b + 4)) v) t with
    | (true, M1) => stq b sp (clr b M1 v (low (M (b + 4)) v)) v (nI 1)
    | (false, M1) => (false, M1))
  else stq b sp M v (nI 0)
def mnr (b : Nat) (sp : kMem → Bool × kMem) (M : kMem) (v r t : Nat) : Bool × kMem := if M (b + 4) (2 + v) = nI 1 then (true, M) else if opn (M (b + 4)) v r = true then (true, M) else cr b sp M v r t
section CB
variable {d : Nat} {M : kMem} {P : kRes → Prop}
theorem thr_go {d' mid : Nat} {K : Nat → List (Nat × Value) → List Value → kMem → Prop} {pc : Nat} {lv : List (Nat × Value)} {st : List Value} {q : Bool × kMem} (h1 : ∀ M1, q = (true, M1) → K (pc + 3) lv st M1) (h2 : ∀ M1, q = (false, M1) → P (rX eS M1)) : kgo d' mid P K pc lv st (thr q) := by
  obtain ⟨ok, M1⟩ := q
  cases ok
  · exact h2 M1 rfl
  · exact h1 M1 rfl
theorem thr_t {M1 : kMem} (h : P (thr (true, M1))) : P (rV M1) := h
theorem thr_f {M1 : kMem} (h : P (thr (false, M1))) : P (rX eS M1) := h
theorem c_markBefore {v t r : Nat} (hv : v < 6) (ht : t < 2) (hr : r < 8) (h : P (thr (mkb 0 spC M v t r))) : kC (d + 3) kc_markBeforeWrite [.ref 0, .int (nI v), .int (nI t), .int (nI r)] M P := by
  have hb : (M 4 (8 + t * 6 + v) >>> (nI r &&& 31)) &&& nI 1 = kb (bt (M 4 (8 + t * 6 + v)) r) := bit_at (by omega)
  unfold mkb at h
  refine kC_of 40 (by decide) (Nat.le_of_ble_eq_true rfl) ?_
  refine h_mapOf hv ht ?_
  refine ⟨fun e => ?_, fun e => ?_⟩
  · have e2 : bt (M 4 (8 + t * 6 + v)) r = true := kb_pos (fun z => e (hb.trans z))
    rw [if_pos e2] at h
    exact h
  · have e2 : bt (M 4 (8 + t * 6 + v)) r = false := kb_0.mp (hb.symm.trans e)
    rw [if_neg (by rw [e2]; decide)] at h
    refine h_mark hv ht ?_
    refine c_writeHeader ?_
    exact thr_go (fun M1 e => thr_t (by rw [← e]; exact h)) (fun M1 e => thr_f (by rw [← e]; exact h))
theorem c_enterBefore {v r : Nat} (hv : v < 6) (hr : r < 8) (h : P (thr (enb 0 spC M v r))) : kC (d + 3) kc_enterBeforeWrite [.ref 0, .int (nI v), .int (nI r)] M P := by
  have hp : nI v * nI 8 + nI r = nI (v * 8 + r) := by rw [pk_mul, nI_add]
  unfold enb at h
  refine kC_of 40 (by decide) (Nat.le_of_ble_eq_true rfl) ?_
  show kC (d + 2) kh_isInWindow [.ref 8, .int (nI v * nI 8 + nI r)] M _
  rw [hp]
  refine h_isInWindow ?_
  refine ⟨fun e => ?_, fun e => ?_⟩
  · have e2 : inw (M 4) (nI (v * 8 + r)) = true := kb_pos e
    rw [if_pos e2] at h
    exact h
  · have e2 : inw (M 4) (nI (v * 8 + r)) = false := kb_0.mp e
    rw [if_neg (by rw [e2]; decide)] at h
    show kC (d + 2) kh_enterWindow [.ref 8, .int (nI v * nI 8 + nI r)] M _
    rw [hp]
    refine h_enterWindow ?_
    refine c_writeHeader ?_
    exact thr_go (fun M1 e => thr_t (by rw [← e]; exact h)) (fun M1 e => thr_f (by rw [← e]; exact h))
theorem c_putFresh {v t k : Nat} (hv : v < 6) (ht : t < 2) (hk : k < 64) (h : P (thr (put 0 spC M v t k))) : kC (d + 4) kc_putFresh [.ref 0, .int (nI v), .int (nI t), .int (nI k)] M P := by
  have hr : nI k / nI 8 = nI (k / 8) := pk_div (by omega) (by decide) (by decide)
  have hr8 : k / 8 < 8 := by omega
  unfold put at h
  refine kC_of 60 (by decide) (Nat.le_of_ble_eq_true rfl) ?_
  refine ⟨by decide, ?_⟩
  refine h_stateOf hv ?_
  refine ⟨fun e => ?_, fun e => ?_⟩
  · have e : ¬ M 4 (2 + v) = nI 1 := e
    rw [if_neg e] at h
    show kC (d + 3) kh_isMarked [.ref 8, .int (nI v), .int (nI k / nI 8)] M _
    rw [hr]
    refine h_isMarked hv hr8 ?_
    refine ⟨fun e2 => ?_, fun e2 => ?_⟩
    · have e2 : opn (M 4) v (k / 8) = false := kb_0.mp e2
      rw [if_neg (by rw [show (0 + 4 : Nat) = 4 from rfl, e2]; decide)] at h
      show kC (d + 3) kc_enterBeforeWrite [.ref 0, .int (nI v), .int (nI k / nI 8)] M _
      rw [hr]
      refine c_enterBefore hv hr8 ?_
      refine thr_go (fun M1 e3 => ?_) (fun M1 e3 => by rw [e3] at h; exact h)
      rw [e3] at h
      refine c_writeFresh hv ht hk ?_
      have h : P (thr (match wb 0 spC M1 t v k with | (true, M2) => wb 0 spC M2 (1 - t) v k | (false, M2) => (false, M2))) := h
      refine thr_go (fun M2 e4 => ?_) (fun M2 e4 => by rw [e4] at h; exact h)
      rw [e4] at h
      refine c_otherSide ht ?_
      refine c_writeFresh hv (by omega) hk ?_
      have h : P (thr (wb 0 spC M2 (1 - t) v k)) := h
      exact thr_go (fun M1 e => thr_t (by rw [← e]; exact h)) (fun M1 e => thr_f (by rw [← e]; exact h))
    · have e2 : opn (M 4) v (k / 8) = true := kb_pos e2
      rw [if_pos e2] at h
      refine c_writeFresh hv ht hk ?_
      exact thr_go (fun M1 e => thr_t (by rw [← e]; exact h)) (fun M1 e => thr_f (by rw [← e]; exact h))
  · have e : M 4 (2 + v) = nI 1 := e
    rw [if_pos e] at h
    show kC (d + 3) kc_markBeforeWrite [.ref 0, .int (nI v), .int (nI t), .int (nI k / nI 8)] M _
    rw [hr]
    refine c_markBefore hv ht hr8 ?_
    refine thr_go (fun M1 e3 => ?_) (fun M1 e3 => by rw [e3] at h; exact h)
    rw [e3] at h
    refine c_writeFresh hv ht hk ?_
    have h : P (thr (wb 0 spC M1 t v k)) := h
    exact thr_go (fun M1 e => thr_t (by rw [← e]; exact h)) (fun M1 e => thr_f (by rw [← e]; exact h))
theorem c_same_loop {v r t : Nat} (hv : v < 6) (hr : r < 8) (ht : t < 2) {y : Int32} (hy : y = nI (8 * r)) : ∀ (n i : Nat) (x : Int32) (M : kMem), i + n = 8 → x = nI (8 * r + i) → P (thr (crn 0 spC v r t n M)) →
    kJ (d + 3) kc_makeSame P 17 [(0, .ref 0), (1, .int (nI v)), (2, .int (nI r)), (3, .int (nI t)), (4, .int y), (5, .int x)] [] M := by
  subst hy
  intro n
  induction n with
  | zero =>
    intro i x M hi hx h
    have hi : i = 8 := by omega
    subst hi; subst hx
    refine kJ_H [17] 20 ?_
    refine ⟨fun _ => h, fun e => absurd ?_ e⟩
    show nI (8 * r) + nI 8 ≤ _
    rw [nI_add]
    exact nI_le (Nat.le_refl _) (by omega)
  | succ n ih =>
    intro i x M hi hx h
    subst hx
    have hi2 : i = 7 - n := by omega
    unfold crn at h
    rw [← hi2] at h
    have hk : 8 * r + i < 64 := by omega
    refine kJ_H [17] 40 ?_
    refine ⟨fun e => absurd e ?_, fun _ => ?_⟩
    · show ¬ nI (8 * r) + nI 8 ≤ _
      rw [nI_add]
      exact nI_ge (by omega) (by omega)
    refine c_isSame hv hk ?_
    refine ⟨fun e => ?_, fun e => ?_⟩
    · have e2 : sm (M 1) v (8 * r + i) = true := kb_pos e
      rw [if_pos e2] at h
      exact ih (i + 1) _ M (by omega) (nI_1 _) h
    · have e2 : sm (M 1) v (8 * r + i) = false := kb_0.mp e
      rw [if_neg (by rw [show (0 + 1 : Nat) = 1 from rfl, e2]; decide)] at h
      refine c_writeFromSide hv ht hk ?_
      refine thr_go (fun M1 e3 => ?_) (fun M1 e3 => by rw [e3] at h; exact h)
      rw [e3] at h
      exact ih (i + 1) _ M1 (by omega) (nI_1 _) h
theorem c_makeSame {v r s : Nat} (hv : v < 6) (hr : r < 8) (hs : s < 4) (hs1 : s ≠ 1) (hst : M 4 (2 + v) = nI s) (h : P (thr (cr 0 spC M v r (s - 2)))) : kC (d + 3) kc_makeSame [.ref 0, .int (nI v), .int (nI r)] M P := by
  refine kC_L [17] 40 (by decide) (Nat.le_of_ble_eq_true rfl) ?_
  refine c_sideInUse hv hs hst ?_
  have e : sidI s (nI 0) = nI (s - 2) := if_neg hs1
  show kwL (d + 3) kc_makeSame P [17] _ 6 [(0, .ref 0), (1, .int (nI v)), (2, .int (nI r))] [.int (sidI s (nI 0))] M
  rw [e]
  exact c_same_loop hv hr (by omega) (by rw [Nat.mul_comm]; exact pk_mul r 8) 8 0 _ M rfl (by rw [Nat.mul_comm]; exact pk_mul r 8) h
end CB
end
section
/-! the system's methods: a step, the start -/
/-- the window's regions, the last n of them, mended -/
def mwn (b : Nat) (sp : kMem → Bool × kMem) : Nat → kMem → Bool × kMem
  | 0, M => (true, M)
  | n + 1, M => if M (b + 4) (20 + (3 - n)) = -1 then mwn b sp n M else match mnr b sp M ((M (b + 4) (20 + (3 - n))).toNatClampNeg / 8) ((M (b + 4) (20 + (3 - n))).toNatClampNeg % 8) ((M (b + 4) (2 + (M (b + 4) (20 + (3 - n))).toNatClampNeg / 8)).toNatClampNeg - 2) with
    | (true, M1) => mwn b sp n M1
    | (false, M1) => (false, M1)
def mnd (b : Nat) (sp : kMem → Bool × kMem) (M : kMem) : Bool × kMem := if M (b + 4) 20 = -1 then (true, M) else match mwn b sp 4 M with
  | (true, M1) => nx b sp (va_up M1 (b + 4) (wnd (M1 (b + 4)) [] 4))
  | (false, M1) => (false, M1)
def tnh (b : Nat) (sp : kMem → Bool × kMem) (M : kMem) : Bool × kMem :=
  if M (b + 3) 0 ≤ M (b + 2) 0 then (if M (b + 2) 0 = M (b + 3) 0 then (true, va_up M (b + 4) (va_cpy (M (b + 2)) (M (b + 4)) 0 0 24)) else wh b sp (va_up M (b + 4) (va_cpy (M (b + 2)) (M (b + 4)) 0 0 24)) 1)
  else wh b sp (va_up M (b + 4) (va_cpy (M (b + 3)) (M (b + 4)) 0 0 24)) 0
/-- what is so of a header, of whichever memory: n volumes, states, maps, a window without gaps -/
def wfV (h : Nat → Int32) (v : Nat) : Prop := (∃ s, s < 4 ∧ h (2 + v) = nI s) ∧ (∃ a, a < 256 ∧ h (8 + v) = nI a) ∧ (∃ a, a < 256 ∧ h (14 + v) = nI a) ∧ (h (2 + v) = nI 0 → h (8 + v) = nI 0 ∧ h (14 + v) = nI 0)
def wfW (h : Nat → Int32) (n : Nat) : Prop := ∃ c, c ≤ 4 ∧ (∀ i, i < c → ∃ p, p < 8 * n ∧ h (20 + i) = nI p) ∧ ∀ i, c ≤ i → i < 4 → h (20 + i) = -1
def wf (h : Nat → Int32) : Prop := ∃ n, n ≤ 6 ∧ h 1 = nI n ∧ (∀ v, v < n → wfV h v) ∧ wfW h n
section CC
variable {d : Nat} {M : kMem} {P : kRes → Prop}
theorem c_stq {v : Nat} {c : Int32} (hv : v < 6) {lv : List (Nat × Value)} (h0 : kget lv 0 = some (.ref 0)) (h1 : kget lv 1 = some (.int (nI v))) (h3 : kget lv 3 = some (.int c)) (h : P (thr (stq 0 spC M v c))) : kJ (d + 5) kc_copyNextRegion P 33 lv [] M := by
  unfold stq at h
  have tail : ∀ {M0 : kMem}, P (thr (match nx 0 spC M0 with | (true, M2) => (true, mw M2 0 3 (M2 0 3 + c)) | (false, M2) => (false, M2))) → kJ (d + 5) kc_copyNextRegion P 53 lv [] M0 := by
    intro M0 h
    refine kw_ok 20 _ _ _ _ ?_
    show (match kget lv 0 with | some (.ref v) => _ | _ => False)
    rw [h0]
    refine c_writeHeader ?_
    refine thr_go (fun M1 e3 => ?_) (fun M1 e3 => by rw [e3] at h; exact h)
    rw [e3] at h
    show (match kget lv 0 with | some (.ref v) => _ | _ => False)
    rw [h0]
    show (match kget lv 3 with | some (.int v) => _ | _ => False)
    rw [h3]
    exact ⟨rfl, rfl, h⟩
  refine kJ_H [53] 20 ?_
  show (match kget lv 0 with | some (.ref v) => _ | _ => False)
  rw [h0]
  show (match kget lv 1 with | some (.int v) => _ | _ => False)
  rw [h1]
  refine h_marksOf hv ?_
  unfold jn at h
  refine ⟨fun e => ?_, fun e => ?_⟩
  · have e : ¬ M 4 (8 + v) ||| M 4 (14 + v) = 0 := e
    rw [if_neg e] at h
    exact tail h
  · have e : M 4 (8 + v) ||| M 4 (14 + v) = 0 := e
    rw [if_pos e] at h
    show (match kget lv 0 with | some (.ref v) => _ | _ => False)
    rw [h0]
    show (match kget lv 1 with | some (.int v) => _ | _ => False)
    rw [h1]
    refine h_setState hv ?_
    exact tail h
theorem c_step {v s : Nat} (hv : v < 6) (hs : s < 4) (hs2 : 2 ≤ s) (hst : M 4 (2 + v) = nI s) (h : P (thr (stp 0 spC M v (s - 2)))) : kC (d + 5) kc_copyNextRegion [.ref 0, .int (nI v)] M P := by
  unfold stp at h
  refine kC_L [33] 40 (by decide) (Nat.le_of_ble_eq_true rfl) ?_
  refine h_lowestMarked hv ?_
  refine ⟨fun e => ?_, fun e => ?_⟩
  · have e : lowI (low (M 4) v) = -1 := e
    have e2 : ¬ low (M 4) v < 8 := fun z => by
      unfold lowI at e
      rw [if_pos z] at e
      have e9 : ∀ j, j < 8 → ¬ nI j = -1 := by decide +kernel
      exact e9 _ z e
    rw [if_neg e2] at h
    exact c_stq (c := nI 0) hv rfl rfl rfl h
  · have e : ¬ lowI (low (M 4) v) = -1 := e
    have e2 : low (M 4) v < 8 := by
      rcases Nat.lt_or_ge (low (M 4) v) 8 with z | z
      · exact z
      · exact absurd (if_neg (Nat.not_lt.mpr z)) e
    rw [if_pos e2] at h
    have e3 : lowI (low (M 4) v) = nI (low (M 4) v) := if_pos e2
    show kC (d + 4) kc_makeSame [.ref 0, .int (nI v), .int (lowI (low (M 4) v))] M _
    rw [e3]
    refine c_makeSame hv e2 hs (by omega) hst ?_
    refine thr_go (fun M1 e4 => ?_) (fun M1 e4 => by rw [e4] at h; exact h)
    rw [e4] at h
    refine h_clearRegion hv ?_
    exact c_stq (c := nI 1) hv rfl rfl rfl h
theorem c_mendRegion {v r s : Nat} (hv : v < 6) (hr : r < 8) (hs : s < 4) (hst : M 4 (2 + v) = nI s) (h : P (thr (mnr 0 spC M v r (s - 2)))) : kC (d + 4) kc_mendRegion [.ref 0, .int (nI v), .int (nI r)] M P := by
  unfold mnr at h
  refine kC_of 40 (by decide) (Nat.le_of_ble_eq_true rfl) ?_
  refine h_stateOf hv ?_
  refine ⟨fun e => ?_, fun e => ?_⟩
  · have e : M 4 (2 + v) = nI 1 := e
    rw [if_pos e] at h
    exact h
  · have e : ¬ M 4 (2 + v) = nI 1 := e
    rw [if_neg e] at h
    refine h_isMarked hv hr ?_
    refine ⟨fun e2 => ?_, fun e2 => ?_⟩
    · have e2 : opn (M 4) v r = true := kb_pos e2
      rw [if_pos e2] at h
      exact h
    · have e2 : opn (M 4) v r = false := kb_0.mp e2
      rw [if_neg (by rw [show (0 + 4 : Nat) = 4 from rfl, e2]; decide)] at h
      have hs1 : s ≠ 1 := fun z => e (by rw [hst, z])
      refine c_makeSame hv hr hs hs1 hst ?_
      exact thr_go (fun M1 e => thr_t (by rw [← e]; exact h)) (fun M1 e => thr_f (by rw [← e]; exact h))
theorem c_takeNewer (h : P (thr (tnh 0 spC M))) : kC (d + 2) kc_takeNewerHeader [.ref 0] M P := by
  unfold tnh at h
  refine kC_of 60 (by decide) (Nat.le_of_ble_eq_true rfl) ?_
  refine h_number6 ?_
  refine h_number7 ?_
  refine ⟨fun e => ?_, fun e => ?_⟩
  · have e : M 3 0 ≤ M 2 0 := e
    rw [if_pos e] at h
    refine c_headerOn0 ?_
    refine h_takeFrom86 ?_
    refine ⟨fun e2 => ?_, fun e2 => ?_⟩
    · have e2 : M 2 0 = M 3 0 := e2
      rw [if_pos e2] at h
      exact h
    · have e2 : ¬ M 2 0 = M 3 0 := e2
      rw [if_neg e2] at h
      refine c_otherSide (t := 0) (by decide) ?_
      refine c_writeHeaderOn1 ?_
      exact thr_go (fun M1 e => thr_t (by rw [← e]; exact h)) (fun M1 e => thr_f (by rw [← e]; exact h))
  · have e : ¬ M 3 0 ≤ M 2 0 := e
    rw [if_neg e] at h
    refine c_headerOn1 ?_
    refine h_takeFrom87 ?_
    refine ⟨fun e2 => ?_, fun e2 => ?_⟩
    · have e2 : M 2 0 = M 3 0 := e2
      exact absurd (by rw [e2]; exact Int32.le_refl _) e
    · refine c_otherSide (t := 1) (by decide) ?_
      refine c_writeHeaderOn0 ?_
      exact thr_go (fun M1 e => thr_t (by rw [← e]; exact h)) (fun M1 e => thr_f (by rw [← e]; exact h))
end CC
end
section
/-! the system's methods: what is asked of arguments, the start, the plain answers -/
def inR (x : Int32) (n : Nat) : Bool := decide (¬ x < 0 ∧ ¬ nI n ≤ x)
theorem inR_t {x : Int32} {n : Nat} (hn : n < 2 ^ 31) (h : inR x n = true) : ∃ j, j < n ∧ x = nI j := by
  obtain ⟨h1, h2⟩ := of_decide_eq_true h
  rcases pk_ix x hn with z | z | z
  · exact absurd z h1
  · exact absurd z h2
  · exact z
theorem inR_nI {j n : Nat} (h : j < n) (hn : n < 2 ^ 31) : inR (nI j) n = true := decide_eq_true ⟨nI_pos (by omega), nI_ge h hn⟩
section CD
variable {d : Nat} {M : kMem} {P : kRes → Prop}
theorem c_requirePower (h1 : M 0 0 = 0 → P (rX eS M)) (h2 : ¬ M 0 0 = 0 → P (rV M)) : kC d kc_requirePower [.ref 0] M P := by
  refine kC_of 10 (by decide) (Nat.le_of_ble_eq_true rfl) ?_
  exact ⟨fun h => h2 h, fun h => h1 h⟩
theorem c_requireVolume {x : Int32} (h1 : isV (M 4) x = false → P (rX eB M)) (h2 : isV (M 4) x = true → P (rV M)) : kC (d + 2) kc_requireVolume [.ref 0, .int x] M P := by
  refine kC_of 20 (by decide) (Nat.le_of_ble_eq_true rfl) ?_
  refine c_isVolume ?_
  exact ⟨fun e => h2 (kb_pos e), fun e => h1 (kb_0.mp e)⟩
theorem c_requireSide {x : Int32} (h1 : inR x 2 = false → P (rX eB M)) (h2 : inR x 2 = true → P (rV M)) : kC (d + 1) kc_requireSide [.ref 0, .int x] M P := by
  refine kC_of 20 (by decide) (Nat.le_of_ble_eq_true rfl) ?_
  refine c_isSide ?_
  exact ⟨fun e => h2 (kb_pos e), fun e => h1 (kb_0.mp e)⟩
theorem c_requireRoomOf {x : Int32} (h1 : inR x 6 = false → P (rX eB M)) (h2 : inR x 6 = true → P (rV M)) : kC d kc_requireRoomOf [.ref 0, .int x] M P := by
  refine kC_of 20 (by decide) (Nat.le_of_ble_eq_true rfl) ?_
  exact ⟨fun e => h1 (decide_eq_false (fun z => z.1 e)), fun e => ⟨fun e2 => h2 (decide_eq_true ⟨e, fun z => Int32.not_le.mpr e2 z⟩), fun e2 => h1 (decide_eq_false (fun z => z.2 (Int32.not_lt.mp e2)))⟩⟩
theorem c_requireBlockNumber {x : Int32} (h1 : inR x 64 = false → P (rX eB M)) (h2 : inR x 64 = true → P (rV M)) : kC d kc_requireBlockNumber [.ref 0, .int x] M P := by
  refine kC_of 20 (by decide) (Nat.le_of_ble_eq_true rfl) ?_
  exact ⟨fun e => h1 (decide_eq_false (fun z => z.1 e)), fun e => ⟨fun e2 => h2 (decide_eq_true ⟨e, fun z => Int32.not_le.mpr e2 z⟩), fun e2 => h1 (decide_eq_false (fun z => z.2 (Int32.not_lt.mp e2)))⟩⟩
theorem c_requireWord {x : Int32} (h1 : inR x 4 = false → P (rX eB M)) (h2 : inR x 4 = true → P (rV M)) : kC d kc_requireWord [.ref 0, .int x] M P := by
  refine kC_of 20 (by decide) (Nat.le_of_ble_eq_true rfl) ?_
  exact ⟨fun e => h1 (decide_eq_false (fun z => z.1 e)), fun e => ⟨fun e2 => h2 (decide_eq_true ⟨e, fun z => Int32.not_le.mpr e2 z⟩), fun e2 => h1 (decide_eq_false (fun z => z.2 (Int32.not_lt.mp e2)))⟩⟩
theorem isV_t {h : Nat → Int32} {x : Int32} {n : Nat} (hn : n ≤ 6) (h1 : h 1 = nI n) (hx : isV h x = true) : ∃ v, v < n ∧ x = nI v := by
  unfold isV at hx
  rw [h1] at hx
  exact inR_t (by omega) hx
/-- the place that write, fill and read ask for, but for the word -/
def isB (h : Nat → Int32) (x t k : Int32) : Bool := isV h x && (decide (¬ h (2 + x.toNatClampNeg) = nI 1) || inR t 2) && inR k 64
theorem c_requireBlock {x t k : Int32} (hw : wf (M 4)) (h1 : isB (M 4) x t k = false → P (rX eB M)) (h2 : isB (M 4) x t k = true → P (rV M)) : kC (d + 3) kc_requireBlock [.ref 0, .int x, .int t, .int k] M P := by
  obtain ⟨n, hn, hm, -, -⟩ := hw
  refine kC_of 40 (by decide) (Nat.le_of_ble_eq_true rfl) ?_
  refine c_requireVolume (fun e => ?_) (fun e => ?_)
  · exact h1 (by unfold isB; rw [e]; rfl)
  · obtain ⟨v, hv, rfl⟩ := isV_t hn hm e
    have hc : (nI v).toNatClampNeg = v := nI_clamp (by omega)
    refine h_stateOf (by omega) ?_
    refine ⟨fun e2 => ?_, fun e2 => ?_⟩
    · have e2 : ¬ M 4 (2 + v) = nI 1 := e2
      refine c_requireBlockNumber (fun e3 => ?_) (fun e3 => ?_)
      · exact h1 (by unfold isB; rw [e3, Bool.and_false])
      · exact h2 (by unfold isB; rw [e, e3, hc, decide_eq_true e2]; rfl)
    · have e2 : M 4 (2 + v) = nI 1 := e2
      refine c_requireSide (fun e4 => ?_) (fun e4 => ?_)
      · exact h1 (by unfold isB; rw [e4, hc, decide_eq_false (fun z => z e2), e]; rfl)
      · refine c_requireBlockNumber (fun e3 => ?_) (fun e3 => ?_)
        · exact h1 (by unfold isB; rw [e3, Bool.and_false])
        · exact h2 (by unfold isB; rw [e, e3, e4, Bool.or_true]; rfl)
theorem c_requireRejoining {x : Int32} (hw : wf (M 4)) (h1 : isV (M 4) x = false → P (rX eB M)) (h2 : ∀ v, x = nI v → isV (M 4) x = true → v < 6 → M 4 (2 + v) < nI 2 → P (rX eU M)) (h3 : ∀ v, x = nI v → isV (M 4) x = true → v < 6 → ¬ M 4 (2 + v) < nI 2 → P (rV M)) : kC (d + 3) kc_requireRejoining [.ref 0, .int x] M P := by
  obtain ⟨n, hn, hm, -, -⟩ := hw
  refine kC_of 40 (by decide) (Nat.le_of_ble_eq_true rfl) ?_
  refine c_requireVolume h1 (fun e => ?_)
  obtain ⟨v, hv, rfl⟩ := isV_t hn hm e
  have k1 : ∀ {P' : kRes → Prop}, (M 4 (2 + v) < nI 2 → P' (rI (nI 0) M)) → (¬ M 4 (2 + v) < nI 2 → P' (rI (nI 1) M)) → kC (d + 2) kc_isRejoining [.ref 0, .int (nI v)] M P' := by
    intro P' g1 g2
    refine kC_of 20 (by decide) (Nat.le_of_ble_eq_true rfl) ?_
    refine h_stateOf (by omega) ?_
    exact ⟨fun e2 => ⟨rfl, g1 e2⟩, fun e2 => ⟨rfl, g2 e2⟩⟩
  refine k1 (fun e2 => ?_) (fun e2 => ?_)
  · exact ⟨fun e3 => absurd (by decide) e3, fun _ => h2 v rfl e (by omega) e2⟩
  · exact ⟨fun _ => h3 v rfl e (by omega) e2, fun e3 => absurd e3 (by decide)⟩
/-- what a window's place is, with the volume's state -/
theorem wf_place {h : Nat → Int32} (hw : wf h) {i : Nat} (hi : i < 4) (hne : ¬ h (20 + i) = -1) : ∃ p s, p < 48 ∧ h (20 + i) = nI p ∧ s < 4 ∧ h (2 + p / 8) = nI s := by
  obtain ⟨n, hn, hm, hv, c, hc, g1, g2⟩ := hw
  rcases Nat.lt_or_ge i c with z | z
  · obtain ⟨p, hp, e⟩ := g1 i z
    obtain ⟨⟨s, hs, e2⟩, -⟩ := hv (p / 8) (by omega)
    exact ⟨p, s, by omega, e, hs, e2⟩
  · exact absurd (g2 i z hi) hne
theorem crn_hand (b : Nat) (sp : kMem → Bool × kMem) (hsp : ∀ M k, (k = b + 1 ∨ k = b + 2 ∨ k = b + 3 ∨ k = b + 4 ∨ k = b + 5) → (sp M).2 k = M k) (v r t : Nat) : ∀ (n : Nat) (M : kMem), (crn b sp v r t n M).2 (b + 4) = M (b + 4) := by
  intro n
  induction n with
  | zero => intro M; rfl
  | succ n ih =>
    intro M
    unfold crn
    split
    · exact ih M
    · have e1 : ∀ M' t' k, (wb b sp M' t' v k).2 (b + 4) = M' (b + 4) := by
        intro M' t' k
        have h9 := hsp M' (b + 4) (Or.inr (Or.inr (Or.inr (Or.inl rfl))))
        unfold wb
        rcases hx : sp M' with ⟨ok, M1⟩
        rw [hx] at h9
        cases ok
        · exact h9
        · show va_up M1 (b + 1) _ (b + 4) = _
          rw [va_up_ne _ _ (by omega)]
          exact h9
      have e2 : ∀ k, (tk b M t v k) (b + 4) = M (b + 4) := by
        intro k
        unfold tk
        rw [va_up_ne _ _ (by omega)]
      have e3 := e1 (tk b M t v (8 * r + (7 - n))) (1 - t) (8 * r + (7 - n))
      rw [e2] at e3
      rcases hx : wb b sp (tk b M t v (8 * r + (7 - n))) (1 - t) v (8 * r + (7 - n)) with ⟨ok, M1⟩
      rw [hx] at e3
      cases ok
      · exact e3
      · exact (ih M1).trans e3
theorem spC_keep (M : kMem) (k : Nat) (hk : k = 0 + 1 ∨ k = 0 + 2 ∨ k = 0 + 3 ∨ k = 0 + 4 ∨ k = 0 + 5) : (spC M).2 k = M k := by
  have h0 : k ≠ 0 := by omega
  unfold spC
  split
  · show mw (mw M 0 0 _) 0 1 _ k = _
    unfold mw
    rw [va_up_ne _ _ h0, va_up_ne _ _ h0]
  · show mw _ 0 2 _ k = _
    unfold mw
    rw [va_up_ne _ _ h0]
    split
    · rfl
    · rw [va_up_ne _ _ h0]
theorem mnr_hand (b : Nat) (sp : kMem → Bool × kMem) (hsp : ∀ M k, (k = b + 1 ∨ k = b + 2 ∨ k = b + 3 ∨ k = b + 4 ∨ k = b + 5) → (sp M).2 k = M k) (M : kMem) (v r t : Nat) : (mnr b sp M v r t).2 (b + 4) = M (b + 4) := by
  unfold mnr
  split
  · rfl
  · split
    · rfl
    · exact crn_hand b sp hsp v r t 8 M
theorem c_mend_loop {L : Nat → Int32} (hw : wf L) : ∀ (n i : Nat) (x : Int32) (M : kMem), i + n = 4 → x = nI i → M 4 = L → P (thr (match mwn 0 spC n M with | (true, M1) => nx 0 spC (va_up M1 4 (wnd (M1 4) [] 4)) | (false, M1) => (false, M1))) →
    kJ (d + 5) kc_mendWindow P 15 [(0, .ref 0), (1, .int x)] [] M := by
  intro n
  induction n with
  | zero =>
    intro i x M hi hx hM h
    have hi : i = 4 := by omega
    subst hi; subst hx
    refine kJ_H [15] 20 ?_
    refine ⟨fun _ => ?_, fun e => absurd (by decide) e⟩
    refine h_emptyWindow ?_
    refine c_writeHeader ?_
    have h : P (thr (nx 0 spC (va_up M 4 (wnd (M 4) [] 4)))) := h
    exact thr_go (fun M1 e => thr_t (by rw [← e]; exact h)) (fun M1 e => thr_f (by rw [← e]; exact h))
  | succ n ih =>
    intro i x M hi hx hM h
    subst hx
    have hi2 : i = 3 - n := by omega
    unfold mwn at h
    rw [← hi2] at h
    refine kJ_H [15] 40 ?_
    refine ⟨fun e => absurd e (nI_ge (by omega) (by decide)), fun _ => ?_⟩
    refine h_placeAt (by omega) ?_
    refine ⟨fun e => ?_, fun e => ?_⟩
    · have e : M 4 (20 + i) = -1 := e
      rw [if_pos e] at h
      refine kJ_drop 2 ?_
      exact ih (i + 1) _ M (by omega) (nI_1 i) hM h
    · have e : ¬ M 4 (20 + i) = -1 := e
      rw [if_neg e] at h
      obtain ⟨p, s, hp, ep, hs, es⟩ := wf_place hw (i := i) (by omega) (by rw [← hM]; exact e)
      rw [← hM] at ep es
      have hc : (nI p).toNatClampNeg = p := nI_clamp (by omega)
      have hcs : (nI s).toNatClampNeg = s := nI_clamp (by omega)
      have h : P (thr (match (match mnr 0 spC M ((M 4 (20 + i)).toNatClampNeg / 8) ((M 4 (20 + i)).toNatClampNeg % 8) ((M 4 (2 + (M 4 (20 + i)).toNatClampNeg / 8)).toNatClampNeg - 2) with | (true, M1) => mwn 0 spC n M1 | (false, M1) => (false, M1)) with | (true, M1) => nx 0 spC (va_up M1 4 (wnd (M1 4) [] 4)) | (false, M1) => (false, M1))) := h
      rw [ep, hc, es, hcs] at h
      have hd8 : nI p / nI 8 = nI (p / 8) := pk_div (by omega) (by decide) (by decide)
      have hr8 : nI p - nI p / nI 8 * nI 8 = nI (p % 8) := pk_rem (by omega) (by decide) (by decide)
      refine ⟨by decide, by decide, ?_⟩
      show kC (d + 4) kc_mendRegion [.ref 0, .int (M 4 (20 + i) / nI 8), .int (M 4 (20 + i) - M 4 (20 + i) / nI 8 * nI 8)] M _
      rw [ep, hr8, hd8]
      refine c_mendRegion (by omega) (by omega) hs es ?_
      have hk := mnr_hand 0 spC spC_keep M (p / 8) (p % 8) (s - 2)
      refine thr_go (fun M1 e3 => ?_) (fun M1 e3 => by rw [e3] at h; exact h)
      rw [e3] at h hk
      refine kJ_drop 2 ?_
      exact ih (i + 1) _ M1 (by omega) (nI_1 i) (by rw [← hM]; exact hk) h
theorem c_mendWindow (hw : wf (M 4)) (h : P (thr (mnd 0 spC M))) : kC (d + 5) kc_mendWindow [.ref 0] M P := by
  unfold mnd at h
  refine kC_L [15] 20 (by decide) (Nat.le_of_ble_eq_true rfl) ?_
  refine h_placeAt (i := 0) (by decide) ?_
  refine ⟨fun e => ?_, fun e => ?_⟩
  · have e : ¬ M 4 20 = -1 := e
    rw [if_neg e] at h
    exact c_mend_loop hw 4 0 _ M rfl rfl rfl h
  · have e : M 4 20 = -1 := e
    rw [if_pos e] at h
    exact h
end CD
end
section
/-! the system's methods: its face -/
/-- a system's call with an answer -/
def thi (q : Bool × kMem) (x : Int32) : kRes := if q.1 = true then rI x q.2 else rX eS q.2
def srt (b : Nat) (sp : kMem → Bool × kMem) (M : kMem) : Bool × kMem := match tnh b sp M with
  | (true, M1) => mnd b sp M1
  | (false, M1) => (false, M1)
def rnn (b : Nat) (sp : kMem → Bool × kMem) (v t : Nat) : Nat → Nat → kMem → (Bool × Nat) × kMem
  | 0, c, M => ((true, c), M)
  | n + 1, c, M => if M (b + 4) (2 + v) = nI 0 then ((true, c), M) else match stp b sp M v t with
    | (true, M1) => rnn b sp v t n (c + 1) M1
    | (false, M1) => ((false, c), M1)
def dfn (W : Nat → Int32) (v : Nat) : Nat → Nat → Nat
  | 0, c => c
  | n + 1, c => if sm W v (63 - n) = true then dfn W v n c else dfn W v n (c + 1)
def bcn (x : Int32) : Int32 :=
  (fun x : Int32 => (fun x : Int32 => (fun x : Int32 => (fun x : Int32 => (fun x : Int32 => x &&& nI 63) (x + (x.toUInt32 >>> ((nI 16).toUInt32 &&& Int32.toUInt32 31)).toInt32)) (x + (x.toUInt32 >>> ((nI 8).toUInt32 &&& Int32.toUInt32 31)).toInt32)) ((x + (x.toUInt32 >>> ((nI 4).toUInt32 &&& Int32.toUInt32 31)).toInt32) &&& nI 252645135)) ((x &&& nI 858993459) + ((x.toUInt32 >>> ((nI 2).toUInt32 &&& Int32.toUInt32 31)).toInt32 &&& nI 858993459))) (x - ((x.toUInt32 >>> ((nI 1).toUInt32 &&& Int32.toUInt32 31)).toInt32 &&& nI 1431655765))
section CE
variable {d : Nat} {M : kMem} {P : kRes → Prop}
theorem j_bitCount {x : Int32} (h : P (rI (bcn x) M)) : kC d kj_bitCount_0f7a4 [.int x] M P := by
  refine kC_of 60 (by decide) (Nat.le_of_ble_eq_true rfl) ?_
  exact ⟨rfl, h⟩
theorem c_makeVolume {n : Nat} (hn : n ≤ 6) (hm : M 4 1 = nI n) (h1 : M 0 0 = 0 → P (rX eS M)) (h2 : ¬ M 0 0 = 0 → n = 6 → P (rI (-1) M))
    (h3 : ¬ M 0 0 = 0 → n < 6 → P (thi (nx 0 spC (mw (mw (mw (mw M 4 1 (nI n + nI 1)) 4 (2 + n) (nI 0)) 4 (8 + n) (nI 0)) 4 (14 + n) (nI 0))) (nI n))) : kC (d + 3) kc_makeVolume [.ref 0] M P := by
  refine kC_of 40 (by decide) (Nat.le_of_ble_eq_true rfl) ?_
  refine c_requirePower h1 (fun e => ?_)
  refine h_volumeCount ?_
  refine ⟨fun e2 => ?_, fun e2 => ?_⟩
  · have e2 : ¬ M 4 1 = nI 6 := e2
    have hn6 : n < 6 := by
      rcases Nat.lt_or_ge n 6 with z | z
      · exact z
      · exact absurd (by rw [hm, show n = 6 by omega]) e2
    have h := h3 e hn6
    refine h_addVolume hn6 hm ?_
    refine c_writeHeader ?_
    exact thr_go (fun M1 e3 => by rw [e3] at h; exact ⟨rfl, h⟩) (fun M1 e3 => by rw [e3] at h; exact h)
  · have e2 : M 4 1 = nI 6 := e2
    have hn6 : n = 6 := (nI_eq (by omega) (by decide)).mp (hm.symm.trans e2)
    exact ⟨rfl, h2 e hn6⟩
/-- the side in use, a number -/
theorem sid_u {s : Nat} {t : Int32} (hs : s < 4) (h : (decide (¬ nI s = nI 1) || inR t 2) = true) : ∃ u, u < 2 ∧ sidI s t = nI u := by
  unfold sidI
  by_cases h1 : s = 1
  · subst h1
    rw [if_pos rfl]
    rw [decide_eq_false (fun z => z rfl), Bool.false_or] at h
    exact inR_t (by decide) h
  · rw [if_neg h1]
    exact ⟨s - 2, by omega, rfl⟩
theorem isB_t {h : Nat → Int32} {x t k : Int32} (hw : wf h) (hb : isB h x t k = true) : ∃ v s u j, v < 6 ∧ x = nI v ∧ s < 4 ∧ h (2 + v) = nI s ∧ u < 2 ∧ sidI s t = nI u ∧ j < 64 ∧ k = nI j ∧ isV h x = true := by
  obtain ⟨n, hn, hm, hv, -⟩ := hw
  unfold isB at hb
  rw [Bool.and_eq_true, Bool.and_eq_true] at hb
  obtain ⟨⟨b1, b2⟩, b3⟩ := hb
  obtain ⟨v, hvn, rfl⟩ := isV_t hn hm b1
  obtain ⟨⟨s, hs, es⟩, -⟩ := hv v hvn
  have hc : (nI v).toNatClampNeg = v := nI_clamp (by omega)
  rw [hc, es] at b2
  obtain ⟨u, hu, eu⟩ := sid_u hs b2
  obtain ⟨j, hj, ej⟩ := inR_t (by decide) b3
  exact ⟨v, s, u, j, by omega, rfl, hs, es, hu, eu, hj, ej, b1⟩
theorem c_write {x t k w y : Int32} (hw : wf (M 4)) (h1 : M 0 0 = 0 → P (rX eS M)) (h2 : ¬ M 0 0 = 0 → (isB (M 4) x t k && inR w 4) = false → P (rX eB M))
    (h3 : ∀ v s u j i, ¬ M 0 0 = 0 → isB (M 4) x t k = true → inR w 4 = true → v < 6 → x = nI v → s < 4 → M 4 (2 + v) = nI s → u < 2 → sidI s t = nI u → j < 64 → k = nI j → i < 4 → w = nI i → P (thr (put 0 spC (mw (tk 0 M u v j) 5 i y) v u j))) : kC (d + 5) kc_write [.ref 0, .int x, .int t, .int k, .int w, .int y] M P := by
  refine kC_of 60 (by decide) (Nat.le_of_ble_eq_true rfl) ?_
  refine c_requirePower h1 (fun e => ?_)
  refine c_requireBlock hw (fun e2 => h2 e (by rw [e2]; rfl)) (fun e2 => ?_)
  refine c_requireWord (fun e3 => h2 e (by rw [e3, Bool.and_false])) (fun e3 => ?_)
  obtain ⟨v, s, u, j, hv, rfl, hs, es, hu, eu, hj, rfl, -⟩ := isB_t hw e2
  obtain ⟨i, hi, rfl⟩ := inR_t (by decide) e3
  have h := h3 v s u j i e e2 e3 hv rfl hs es hu eu hj rfl hi rfl
  refine c_sideInUse hv hs es ?_
  rw [eu]
  refine c_blockAt ?_
  refine ⟨pl u v j, 0, 4, rfl, rfl, rfl, pl_lt hu hv hj, by decide, ?_⟩
  refine ⟨i, rfl, hi, ?_⟩
  refine c_putFresh hv hu hj ?_
  exact thr_go (fun M1 e => thr_t (by rw [← e]; exact h)) (fun M1 e => thr_f (by rw [← e]; exact h))
theorem c_fill {x t k a0 a1 a2 a3 : Int32} (hw : wf (M 4)) (h1 : M 0 0 = 0 → P (rX eS M)) (h2 : ¬ M 0 0 = 0 → isB (M 4) x t k = false → P (rX eB M))
    (h3 : ∀ v s u j, ¬ M 0 0 = 0 → isB (M 4) x t k = true → v < 6 → x = nI v → s < 4 → M 4 (2 + v) = nI s → u < 2 → sidI s t = nI u → j < 64 → k = nI j → P (thr (put 0 spC (mw (mw (mw (mw M 5 0 a0) 5 1 a1) 5 2 a2) 5 3 a3) v u j))) : kC (d + 5) kc_fill [.ref 0, .int x, .int t, .int k, .int a0, .int a1, .int a2, .int a3] M P := by
  refine kC_of 60 (by decide) (Nat.le_of_ble_eq_true rfl) ?_
  refine c_requirePower h1 (fun e => ?_)
  refine c_requireBlock hw (fun e2 => h2 e e2) (fun e2 => ?_)
  obtain ⟨v, s, u, j, hv, rfl, hs, es, hu, eu, hj, rfl, -⟩ := isB_t hw e2
  have h := h3 v s u j e e2 hv rfl hs es hu eu hj rfl
  refine ⟨0, rfl, by decide, 1, rfl, by decide, 2, rfl, by decide, 3, rfl, by decide, ?_⟩
  refine c_sideInUse hv hs es ?_
  rw [eu]
  refine c_putFresh hv hu hj ?_
  exact thr_go (fun M1 e => thr_t (by rw [← e]; exact h)) (fun M1 e => thr_f (by rw [← e]; exact h))
theorem c_read {x t k w : Int32} (hw : wf (M 4)) (h1 : M 0 0 = 0 → P (rX eS M)) (h2 : ¬ M 0 0 = 0 → (isB (M 4) x t k && inR w 4) = false → P (rX eB M))
    (h3 : ∀ v s u j i, ¬ M 0 0 = 0 → isB (M 4) x t k = true → inR w 4 = true → v < 6 → x = nI v → s < 4 → M 4 (2 + v) = nI s → u < 2 → sidI s t = nI u → j < 64 → k = nI j → i < 4 → w = nI i → P (rI (M 1 (pl u v j + i)) M)) : kC (d + 5) kc_read [.ref 0, .int x, .int t, .int k, .int w] M P := by
  refine kC_of 60 (by decide) (Nat.le_of_ble_eq_true rfl) ?_
  refine c_requirePower h1 (fun e => ?_)
  refine c_requireBlock hw (fun e2 => h2 e (by rw [e2]; rfl)) (fun e2 => ?_)
  refine c_requireWord (fun e3 => h2 e (by rw [e3, Bool.and_false])) (fun e3 => ?_)
  obtain ⟨v, s, u, j, hv, rfl, hs, es, hu, eu, hj, rfl, -⟩ := isB_t hw e2
  obtain ⟨i, hi, rfl⟩ := inR_t (by decide) e3
  have h := h3 v s u j i e e2 e3 hv rfl hs es hu eu hj rfl hi rfl
  have hp := pl_lt hu hv hj
  refine c_sideInUse hv hs es ?_
  rw [eu]
  refine c_blockAt ?_
  exact ⟨pl u v j + i, nI_add _ _, by omega, rfl, h⟩
theorem c_rejoin {x t : Int32} (hw : wf (M 4)) (h1 : M 0 0 = 0 → P (rX eS M)) (h2 : ¬ M 0 0 = 0 → (isV (M 4) x && inR t 2) = false → P (rX eB M))
    (h3 : ∀ v u, ¬ M 0 0 = 0 → isV (M 4) x = true → v < 6 → x = nI v → u < 2 → t = nI u → ¬ M 4 (2 + v) = nI 1 → P (rX eU M))
    (h4 : ∀ v u, ¬ M 0 0 = 0 → isV (M 4) x = true → v < 6 → x = nI v → u < 2 → t = nI u → M 4 (2 + v) = nI 1 → P (thr (nx 0 spC (mw M 4 (2 + v) (nI (2 + u)))))) : kC (d + 3) kc_rejoin [.ref 0, .int x, .int t] M P := by
  have hw' := hw
  obtain ⟨n, hn, hm, -, -⟩ := hw'
  refine kC_of 60 (by decide) (Nat.le_of_ble_eq_true rfl) ?_
  refine c_requirePower h1 (fun e => ?_)
  refine c_requireVolume (fun e2 => h2 e (by rw [e2]; rfl)) (fun e2 => ?_)
  refine c_requireSide (fun e3 => h2 e (by rw [e3, Bool.and_false])) (fun e3 => ?_)
  obtain ⟨v, hv, rfl⟩ := isV_t hn hm e2
  obtain ⟨u, hu, rfl⟩ := inR_t (by decide) e3
  refine h_stateOf (by omega) ?_
  refine ⟨fun e4 => ?_, fun e4 => ?_⟩
  · have h := h4 v u e e2 (by omega) rfl hu rfl e4
    show kC (d + 2) kh_setState [.ref 8, .int (nI v), .int (nI 2 + nI u)] M _
    rw [nI_add]
    refine h_setState (by omega) ?_
    refine c_writeHeader ?_
    exact thr_go (fun M1 e => thr_t (by rw [← e]; exact h)) (fun M1 e => thr_f (by rw [← e]; exact h))
  · exact h3 v u e e2 (by omega) rfl hu rfl e4
end CE
end
section
/-! the system's methods: its face, the rest -/
def sp1 (h : Nat → Int32) (v : Nat) : Nat → Int32 := wkp (upd (upd (upd h (2 + v) (nI 1)) (8 + v) (nI 0)) (14 + v) (nI 0)) (fun a => decide (¬ a / nI 8 = nI v))
def spCn (N : Nat) : Nat → Nat → (Nat → Int32) → Nat × (Nat → Int32)
  | 0, c, h => (c, h)
  | n + 1, c, h => if h (2 + (N - (n + 1))) = nI 0 then spCn N n (c + 1) (sp1 h (N - (n + 1))) else spCn N n c h
section CF
variable {d : Nat} {M : kMem} {P : kRes → Prop}
theorem c_split_loop {N : Nat} (hN : N ≤ 6) : ∀ (n c v : Nat) (z x y : Int32) (h : Nat → Int32), v + n = N → c ≤ v → z = nI N → x = nI c → y = nI v → P ((fun q : Nat × (Nat → Int32) => if q.1 = 0 then rI (nI 0) (va_up M 4 q.2) else thi (nx 0 spC (va_up M 4 q.2)) (nI q.1)) (spCn N n c h)) →
    kJ (d + 3) kc_split P 16 [(0, .ref 0), (1, .int z), (2, .int x), (3, .int y)] [] (va_up M 4 h) := by
  intro n
  induction n with
  | zero =>
    intro c v z x y h hv hc hz hx hy hp
    have hv : v = N := by omega
    subst hv; subst hz; subst hx; subst hy
    have hp : P (if c = 0 then rI (nI 0) (va_up M 4 h) else thi (nx 0 spC (va_up M 4 h)) (nI c)) := hp
    refine kJ_H [16] 20 ?_
    refine ⟨fun _ => ?_, fun e => absurd (nI_le (Nat.le_refl _) (by omega)) e⟩
    refine ⟨fun e => ?_, fun e => ?_⟩
    · have e : nI c ≤ 0 := e
      have hc0 : c = 0 := by
        rcases Nat.eq_zero_or_pos c with z | z
        · exact z
        · exact absurd e (nI_nle z (by omega))
      rw [if_pos hc0] at hp
      subst hc0
      exact ⟨rfl, hp⟩
    · have hc0 : ¬ c = 0 := fun z => e (by rw [z]; decide)
      rw [if_neg hc0] at hp
      refine c_writeHeader ?_
      exact thr_go (fun M1 e3 => by rw [e3] at hp; exact ⟨rfl, hp⟩) (fun M1 e3 => by rw [e3] at hp; exact hp)
  | succ n ih =>
    intro c v z x y h hv hc hz hx hy hp
    subst hz; subst hx; subst hy
    have hv2 : v = N - (n + 1) := by omega
    unfold spCn at hp
    rw [← hv2] at hp
    refine kJ_H [16] 40 ?_
    refine ⟨fun e => absurd e (nI_ge (by omega) (by omega)), fun _ => ?_⟩
    refine h_stateOf (by omega) ?_
    refine ⟨fun e => ?_, fun e => ?_⟩
    · have e : ¬ h (2 + v) = nI 0 := e
      rw [if_neg e] at hp
      exact ih c (v + 1) _ _ _ h (by omega) (by omega) rfl rfl (nI_1 v) hp
    · have e : h (2 + v) = nI 0 := e
      rw [if_pos e] at hp
      refine h_setState (by omega) ?_
      refine h_clearMaps (by omega) ?_
      refine h_leaveWindow ?_
      refine kJ_eq (M' := va_up M 4 (sp1 h v)) ?_ ?_
      · show va_up (mw (mw (mw (va_up M 4 h) 4 (2 + v) (nI 1)) 4 (8 + v) (nI 0)) 4 (14 + v) (nI 0)) 4 (wkp (mw (mw (mw (va_up M 4 h) 4 (2 + v) (nI 1)) 4 (8 + v) (nI 0)) 4 (14 + v) (nI 0) 4) (fun a => decide (¬ a / nI 8 = nI v))) = _
        rw [mw_up, mw_up, mw_up, bx_uu, va_up_self]
        rfl
      · exact ih (c + 1) (v + 1) _ _ _ _ (by omega) (by omega) rfl (nI_1 c) (nI_1 v) hp
theorem c_split {n : Nat} (hn : n ≤ 6) (hm : M 4 1 = nI n) (h1 : M 0 0 = 0 → P (rX eS M)) (h2 : ¬ M 0 0 = 0 → P ((fun q : Nat × (Nat → Int32) => if q.1 = 0 then rI (nI 0) (va_up M 4 q.2) else thi (nx 0 spC (va_up M 4 q.2)) (nI q.1)) (spCn n n 0 (M 4)))) : kC (d + 3) kc_split [.ref 0] M P := by
  refine kC_L [16] 20 (by decide) (Nat.le_of_ble_eq_true rfl) ?_
  refine c_requirePower h1 (fun e => ?_)
  have e9 : M = va_up M 4 (M 4) := by
    funext k
    unfold va_up
    by_cases hk : k = 4
    · rw [if_pos hk, hk]
    · rw [if_neg hk]
  refine h_volumeCount ?_
  refine kJ_eq e9 ?_
  exact c_split_loop hn n 0 0 _ _ _ (M 4) (by omega) (Nat.le_refl _) hm rfl rfl (h2 e)
theorem c_stepF {x : Int32} (hw : wf (M 4)) (h1 : M 0 0 = 0 → P (rX eS M)) (h2 : ¬ M 0 0 = 0 → isV (M 4) x = false → P (rX eB M))
    (h3 : ∀ v s, ¬ M 0 0 = 0 → isV (M 4) x = true → v < 6 → x = nI v → s < 2 → M 4 (2 + v) = nI s → P (rX eU M))
    (h4 : ∀ v s, ¬ M 0 0 = 0 → isV (M 4) x = true → v < 6 → x = nI v → s < 4 → 2 ≤ s → M 4 (2 + v) = nI s → P ((fun q : Bool × kMem => thi q (bcn (q.2 4 (8 + v) ||| q.2 4 (14 + v)))) (stp 0 spC M v (s - 2)))) : kC (d + 6) kc_step [.ref 0, .int x] M P := by
  have hw' := hw
  obtain ⟨n, hn, hm, hv9, -⟩ := hw'
  refine kC_of 40 (by decide) (Nat.le_of_ble_eq_true rfl) ?_
  refine c_requirePower h1 (fun e => ?_)
  refine c_requireRejoining hw (h2 e) (fun v ex ev hv el => ?_) (fun v ex ev hv el => ?_)
  · subst ex
    obtain ⟨v', hv', ev'⟩ := isV_t hn hm ev
    have ev2 : v = v' := (nI_eq (by omega) (by omega)).mp ev'
    subst ev2
    obtain ⟨⟨s, hs, es⟩, -⟩ := hv9 v hv'
    have el : M 4 (2 + v) < nI 2 := el
    rw [es] at el
    exact h3 v s e ev hv rfl ((nI_ltI (by omega) (by decide)).mp el) es
  · subst ex
    obtain ⟨v', hv', ev'⟩ := isV_t hn hm ev
    have ev2 : v = v' := (nI_eq (by omega) (by omega)).mp ev'
    subst ev2
    obtain ⟨⟨s, hs, es⟩, -⟩ := hv9 v hv'
    have el : ¬ M 4 (2 + v) < nI 2 := el
    rw [es] at el
    have hs2 : 2 ≤ s := Nat.not_lt.mp (fun z => el ((nI_ltI (by omega) (by decide)).mpr z))
    have h := h4 v s e ev hv rfl hs hs2 es
    refine c_step hv hs hs2 es ?_
    refine thr_go (fun M1 e3 => ?_) (fun M1 e3 => by rw [e3] at h; exact h)
    rw [e3] at h
    refine h_marksOf hv ?_
    refine j_bitCount ?_
    exact ⟨rfl, h⟩
theorem c_run_loop {v s : Nat} (hv : v < 6) (hs : s < 4) (hs2 : 2 ≤ s) (hst : ∀ M M1, M 4 (2 + v) = nI s → stp 0 spC M v (s - 2) = (true, M1) → M1 4 (2 + v) = nI s ∨ M1 4 (2 + v) = nI 0) : ∀ (n c : Nat) (x : Int32) (M : kMem), c + n = 8 → x = nI c → (M 4 (2 + v) = nI s ∨ M 4 (2 + v) = nI 0) → P ((fun q : (Bool × Nat) × kMem => thi (q.1.1, q.2) (nI q.1.2)) (rnn 0 spC v (s - 2) n c M)) →
    kJ (d + 6) kc_run P 11 [(0, .ref 0), (1, .int (nI v)), (2, .int x)] [] M := by
  intro n
  induction n with
  | zero =>
    intro c x M hc hx hz h
    have hc : c = 8 := by omega
    subst hc; subst hx
    refine kJ_H [11] 20 ?_
    exact ⟨fun _ => ⟨rfl, h⟩, fun e => absurd (by decide) e⟩
  | succ n ih =>
    intro c x M hc hx hz h
    subst hx
    unfold rnn at h
    refine kJ_H [11] 20 ?_
    refine ⟨fun e => absurd e (nI_ge (by omega) (by decide)), fun _ => ?_⟩
    refine h_stateOf hv ?_
    refine ⟨fun e => ?_, fun e => ?_⟩
    · have e : M 4 (2 + v) = nI 0 := e
      rw [if_pos e] at h
      exact ⟨rfl, h⟩
    · have e : ¬ M 4 (2 + v) = nI 0 := e
      rw [if_neg e] at h
      have es : M 4 (2 + v) = nI s := hz.elim id (fun z => absurd z e)
      refine c_step hv hs hs2 es ?_
      refine thr_go (fun M1 e3 => ?_) (fun M1 e3 => by rw [e3] at h; exact h)
      rw [e3] at h
      exact ih (c + 1) _ M1 (by omega) (nI_1 c) (hst M M1 es e3) h
theorem c_run {x : Int32} (hw : wf (M 4)) (h1 : M 0 0 = 0 → P (rX eS M)) (h2 : ¬ M 0 0 = 0 → isV (M 4) x = false → P (rX eB M))
    (h3 : ∀ v s, ¬ M 0 0 = 0 → isV (M 4) x = true → v < 6 → x = nI v → s < 2 → M 4 (2 + v) = nI s → P (rX eU M))
    (hst : ∀ v s, v < 6 → s < 4 → 2 ≤ s → ∀ M M1, M 4 (2 + v) = nI s → stp 0 spC M v (s - 2) = (true, M1) → M1 4 (2 + v) = nI s ∨ M1 4 (2 + v) = nI 0)
    (h4 : ∀ v s, ¬ M 0 0 = 0 → isV (M 4) x = true → v < 6 → x = nI v → s < 4 → 2 ≤ s → M 4 (2 + v) = nI s → P ((fun q : (Bool × Nat) × kMem => thi (q.1.1, q.2) (nI q.1.2)) (rnn 0 spC v (s - 2) 8 0 M))) : kC (d + 6) kc_run [.ref 0, .int x] M P := by
  have hw' := hw
  obtain ⟨n, hn, hm, hv9, -⟩ := hw'
  refine kC_L [11] 40 (by decide) (Nat.le_of_ble_eq_true rfl) ?_
  refine c_requirePower h1 (fun e => ?_)
  refine c_requireRejoining hw (h2 e) (fun v ex ev hv el => ?_) (fun v ex ev hv el => ?_)
  · subst ex
    obtain ⟨v', hv', ev'⟩ := isV_t hn hm ev
    have ev2 : v = v' := (nI_eq (by omega) (by omega)).mp ev'
    subst ev2
    obtain ⟨⟨s, hs, es⟩, -⟩ := hv9 v hv'
    have el : M 4 (2 + v) < nI 2 := el
    rw [es] at el
    exact h3 v s e ev hv rfl ((nI_ltI (by omega) (by decide)).mp el) es
  · subst ex
    obtain ⟨v', hv', ev'⟩ := isV_t hn hm ev
    have ev2 : v = v' := (nI_eq (by omega) (by omega)).mp ev'
    subst ev2
    obtain ⟨⟨s, hs, es⟩, -⟩ := hv9 v hv'
    have el : ¬ M 4 (2 + v) < nI 2 := el
    rw [es] at el
    have hs2 : 2 ≤ s := Nat.not_lt.mp (fun z => el ((nI_ltI (by omega) (by decide)).mpr z))
    exact c_run_loop hv hs hs2 (hst v s hv hs hs2) 8 0 _ M rfl rfl (Or.inl es) (h4 v s e ev hv rfl hs hs2 es)
theorem c_state {x : Int32} (hw : wf (M 4)) (h1 : M 0 0 = 0 ∨ isV (M 4) x = false → P (rI (-1) M)) (h2 : ∀ v, ¬ M 0 0 = 0 → isV (M 4) x = true → v < 6 → x = nI v → P (rI (M 4 (2 + v)) M)) : kC (d + 2) kc_state [.ref 0, .int x] M P := by
  obtain ⟨n, hn, hm, -⟩ := hw
  refine kC_of 40 (by decide) (Nat.le_of_ble_eq_true rfl) ?_
  refine ⟨fun e => ⟨rfl, h1 (Or.inl e)⟩, fun e => ?_⟩
  refine c_isVolume ?_
  refine ⟨fun e2 => ⟨rfl, h1 (Or.inr (kb_0.mp e2))⟩, fun e2 => ?_⟩
  have e2 := kb_pos e2
  obtain ⟨v, hv, rfl⟩ := isV_t hn hm e2
  refine h_stateOf (by omega) ?_
  exact ⟨rfl, h2 v e e2 (by omega) rfl⟩
theorem c_marked {x t : Int32} (hw : wf (M 4)) (h1 : M 0 0 = 0 ∨ isV (M 4) x = false ∨ inR t 2 = false → P (rI (-1) M)) (h2 : ∀ v u, ¬ M 0 0 = 0 → isV (M 4) x = true → v < 6 → x = nI v → u < 2 → t = nI u → P (rI (M 4 (8 + u * 6 + v)) M)) : kC (d + 2) kc_marked [.ref 0, .int x, .int t] M P := by
  obtain ⟨n, hn, hm, -⟩ := hw
  refine kC_of 40 (by decide) (Nat.le_of_ble_eq_true rfl) ?_
  refine ⟨fun e => ⟨rfl, h1 (Or.inl e)⟩, fun e => ?_⟩
  refine c_isVolume ?_
  refine ⟨fun e2 => ⟨rfl, h1 (Or.inr (Or.inl (kb_0.mp e2)))⟩, fun e2 => ?_⟩
  have e2 := kb_pos e2
  refine c_isSide ?_
  refine ⟨fun e3 => ⟨rfl, h1 (Or.inr (Or.inr (kb_0.mp e3)))⟩, fun e3 => ?_⟩
  have e3 : inR t 2 = true := kb_pos e3
  obtain ⟨v, hv, rfl⟩ := isV_t hn hm e2
  obtain ⟨u, hu, rfl⟩ := inR_t (by decide) e3
  refine h_mapOf (by omega) hu ?_
  exact ⟨rfl, h2 v u e e2 (by omega) rfl hu rfl⟩
theorem c_windowed {x : Int32} (h1 : M 0 0 = 0 ∨ inR x 4 = false → P (rI (-1) M)) (h2 : ∀ i, ¬ M 0 0 = 0 → i < 4 → x = nI i → P (rI (M 4 (20 + i)) M)) : kC (d + 1) kc_windowed [.ref 0, .int x] M P := by
  refine kC_of 40 (by decide) (Nat.le_of_ble_eq_true rfl) ?_
  refine ⟨fun e => ⟨rfl, h1 (Or.inl e)⟩, fun e => ⟨fun e2 => ⟨rfl, h1 (Or.inr (decide_eq_false (fun z => z.1 e2)))⟩, fun e2 => ⟨fun e3 => ⟨rfl, h1 (Or.inr (decide_eq_false (fun z => z.2 e3)))⟩, fun e3 => ?_⟩⟩⟩
  obtain ⟨i, hi, rfl⟩ := inR_t (x := x) (n := 4) (by decide) (decide_eq_true ⟨e2, e3⟩)
  refine h_placeAt hi ?_
  exact ⟨rfl, h2 i e hi rfl⟩
theorem c_volumes (h1 : M 0 0 = 0 → P (rI (-1) M)) (h2 : ¬ M 0 0 = 0 → P (rI (M 4 1) M)) : kC (d + 1) kc_volumes [.ref 0] M P := by
  refine kC_of 40 (by decide) (Nat.le_of_ble_eq_true rfl) ?_
  refine ⟨fun e => ⟨rfl, h1 e⟩, fun e => ?_⟩
  refine h_volumeCount ?_
  exact ⟨rfl, h2 e⟩
theorem c_copied (h : P (rI (M 0 3) M)) : kC d kc_copied [.ref 0] M P := by
  refine kC_of 10 (by decide) (Nat.le_of_ble_eq_true rfl) ?_
  exact ⟨rfl, h⟩
theorem c_writes (h : P (rI (M 0 2) M)) : kC d kc_writes [.ref 0] M P := by
  refine kC_of 10 (by decide) (Nat.le_of_ble_eq_true rfl) ?_
  exact ⟨rfl, h⟩
theorem c_power (h1 : M 0 0 = 0 → P (rI (nI 0) M)) (h2 : ¬ M 0 0 = 0 → P (rI (nI 1) M)) : kC d kc_power [.ref 0] M P := by
  refine kC_of 10 (by decide) (Nat.le_of_ble_eq_true rfl) ?_
  exact ⟨fun e => ⟨rfl, h1 e⟩, fun e => ⟨rfl, h2 e⟩⟩
theorem c_cutAfter {x : Int32} (h1 : (x < -1 ∨ nI 1000000 < x) → P (rX eA M)) (h2 : ¬ x < -1 → ¬ nI 1000000 < x → P (rV (mw M 0 1 x))) : kC d kc_cutAfter [.ref 0, .int x] M P := by
  refine kC_of 20 (by decide) (Nat.le_of_ble_eq_true rfl) ?_
  exact ⟨fun e => h1 (Or.inl e), fun e => ⟨fun e2 => ⟨rfl, rfl, h2 e (Int32.not_lt.mpr e2)⟩, fun e2 => h1 (Or.inr (Int32.not_le.mp e2))⟩⟩
theorem c_raw {x t k w : Int32} (h1 : (inR x 6 && inR t 2 && inR k 64 && inR w 4) = false → P (rX eB M)) (h2 : ∀ v u j i, v < 6 → x = nI v → u < 2 → t = nI u → j < 64 → k = nI j → i < 4 → w = nI i → P (rI (M 1 (pl u v j + i)) M)) : kC (d + 2) kc_raw [.ref 0, .int x, .int t, .int k, .int w] M P := by
  refine kC_of 40 (by decide) (Nat.le_of_ble_eq_true rfl) ?_
  refine c_requireRoomOf (fun e => h1 (by rw [e]; rfl)) (fun e1 => ?_)
  refine c_requireSide (fun e => h1 (by rw [e, Bool.and_false]; rfl)) (fun e2 => ?_)
  refine c_requireBlockNumber (fun e => h1 (by rw [e, Bool.and_false]; rfl)) (fun e3 => ?_)
  refine c_requireWord (fun e => h1 (by rw [e, Bool.and_false])) (fun e4 => ?_)
  obtain ⟨v, hv, rfl⟩ := inR_t (by decide) e1
  obtain ⟨u, hu, rfl⟩ := inR_t (by decide) e2
  obtain ⟨j, hj, rfl⟩ := inR_t (by decide) e3
  obtain ⟨i, hi, rfl⟩ := inR_t (by decide) e4
  have hp := pl_lt hu hv hj
  refine c_blockAt ?_
  exact ⟨pl u v j + i, nI_add _ _, by omega, rfl, h2 v u j i hv rfl hu rfl hj rfl hi rfl⟩
theorem c_head {t w : Int32} (h1 : (inR t 2 && inR w 24) = false → P (rX eB M)) (h2 : ∀ i, t = nI 0 → i < 24 → w = nI i → P (rI (M 2 i) M)) (h3 : ∀ i, t = nI 1 → i < 24 → w = nI i → P (rI (M 3 i) M)) : kC (d + 2) kc_head [.ref 0, .int t, .int w] M P := by
  refine kC_of 40 (by decide) (Nat.le_of_ble_eq_true rfl) ?_
  refine c_requireSide (fun e => h1 (by rw [e]; rfl)) (fun e1 => ?_)
  obtain ⟨u, hu, rfl⟩ := inR_t (by decide) e1
  refine ⟨fun e => h1 (by rw [show inR w 24 = false from decide_eq_false (fun z => z.1 e), Bool.and_false]), fun e => ⟨fun e2 => ?_, fun e2 => h1 (by rw [show inR w 24 = false from decide_eq_false (fun z => z.2 (Int32.not_lt.mp e2)), Bool.and_false])⟩⟩
  obtain ⟨i, hi, rfl⟩ := inR_t (x := w) (n := 24) (by decide) (decide_eq_true ⟨e, fun z => Int32.not_le.mpr e2 z⟩)
  rcases (show u = 0 ∨ u = 1 by omega) with rfl | rfl
  · refine c_headerOn0 ?_
    refine h_itemAt6 hi ?_
    exact ⟨rfl, h2 i rfl hi rfl⟩
  · refine c_headerOn1 ?_
    refine h_itemAt7 hi ?_
    exact ⟨rfl, h3 i rfl hi rfl⟩
theorem c_diff_loop {v : Nat} (hv : v < 6) : ∀ (n i c : Nat) (x y : Int32), i + n = 64 → x = nI c → y = nI i → P (rI (nI (dfn (M 1) v n c)) M) → kJ (d + 2) kc_differing P 9 [(0, .ref 0), (1, .int (nI v)), (2, .int x), (3, .int y)] [] M := by
  intro n
  induction n with
  | zero =>
    intro i c x y hi hx hy h
    have hi : i = 64 := by omega
    subst hi; subst hx; subst hy
    refine kJ_H [9] 20 ?_
    exact ⟨fun _ => ⟨rfl, h⟩, fun e => absurd (by decide) e⟩
  | succ n ih =>
    intro i c x y hi hx hy h
    subst hx; subst hy
    have hi2 : i = 63 - n := by omega
    unfold dfn at h
    rw [← hi2] at h
    refine kJ_H [9] 20 ?_
    refine ⟨fun e => absurd e (nI_ge (by omega) (by decide)), fun _ => ?_⟩
    refine c_isSame hv (by omega) ?_
    refine ⟨fun e => ?_, fun e => ?_⟩
    · rw [if_pos (kb_pos e)] at h
      exact ih (i + 1) c _ _ (by omega) rfl (nI_1 i) h
    · rw [if_neg (by rw [kb_0.mp e]; decide)] at h
      exact ih (i + 1) (c + 1) _ _ (by omega) (nI_1 c) (nI_1 i) h
theorem c_differing {x : Int32} (h1 : inR x 6 = false → P (rX eB M)) (h2 : ∀ v, v < 6 → x = nI v → P (rI (nI (dfn (M 1) v 64 0)) M)) : kC (d + 2) kc_differing [.ref 0, .int x] M P := by
  refine kC_L [9] 20 (by decide) (Nat.le_of_ble_eq_true rfl) ?_
  refine c_requireRoomOf h1 (fun e1 => ?_)
  obtain ⟨v, hv, rfl⟩ := inR_t (by decide) e1
  exact c_diff_loop hv 64 0 0 _ _ rfl rfl rfl (h2 v hv rfl)
theorem c_start (hw : ∀ M1, tnh 0 spC (mw (mw M 0 0 (nI 1)) 0 3 (nI 0)) = (true, M1) → wf (M1 4)) (h : P ((fun q : Bool × kMem => thi q (q.2 4 1)) (srt 0 spC (mw (mw M 0 0 (nI 1)) 0 3 (nI 0))))) : kC (d + 6) kc_start [.ref 0] M P := by
  unfold srt at h
  refine kC_of 40 (by decide) (Nat.le_of_ble_eq_true rfl) ?_
  refine ⟨rfl, rfl, rfl, rfl, ?_⟩
  refine c_takeNewer ?_
  refine thr_go (fun M1 e3 => ?_) (fun M1 e3 => by rw [show tnh 0 spC (mw (mw M 0 0 (nI 1)) 0 3 (nI 0)) = (false, M1) from e3] at h; exact h)
  have e3 : tnh 0 spC (mw (mw M 0 0 (nI 1)) 0 3 (nI 0)) = (true, M1) := e3
  rw [e3] at h
  refine c_mendWindow (hw M1 e3) ?_
  have h : P ((fun q : Bool × kMem => thi q (q.2 4 1)) (mnd 0 spC M1)) := h
  refine thr_go (fun M2 e4 => ?_) (fun M2 e4 => by rw [e4] at h; exact h)
  rw [e4] at h
  refine h_volumeCount ?_
  exact ⟨rfl, h⟩
end CF
end
section
/-! the reference's methods: leaves, single writes -/
def kbr (q : Bool × kMem) : kRes := rI (kb q.1) q.2
theorem cpy_0 (s f : Nat → Int32) (i j : Nat) : va_cpy s f i j 0 = f := by
  funext k
  unfold va_cpy
  rw [if_neg (by omega)]
theorem cpy_go (s f : Nat → Int32) (i j n : Nat) : upd (va_cpy s f i j n) (j + n) (s (i + n)) = va_cpy s f i j (n + 1) := by
  funext k
  unfold va_cpy upd
  dsimp only
  by_cases h1 : k = j + n
  · subst h1
    rw [if_pos rfl, if_pos (by omega), show j + n - j = n by omega]
  · rw [if_neg h1]
    by_cases h2 : j ≤ k ∧ k < j + n
    · rw [if_pos h2, if_pos (by omega)]
    · rw [if_neg h2, if_neg (by omega)]
theorem up_id (M : kMem) (k : Nat) : va_up M k (M k) = M := by
  funext j
  unfold va_up
  by_cases hk : j = k
  · rw [if_pos hk, hk]
  · rw [if_neg hk]
section MA
variable {d : Nat} {M : kMem} {P : kRes → Prop}
theorem bgo {d' mid : Nat} {K : Nat → List (Nat × Value) → List Value → kMem → Prop} {pc : Nat} {lv : List (Nat × Value)} {st : List Value} {q : Bool × kMem} (h1 : ∀ M1, q = (true, M1) → K (pc + 3) lv (.int (nI 1) :: st) M1) (h2 : ∀ M1, q = (false, M1) → K (pc + 3) lv (.int (nI 0) :: st) M1) : kgo d' mid P K pc lv st (kbr q) := by
  obtain ⟨ok, M1⟩ := q
  cases ok
  · exact h2 M1 rfl
  · exact h1 M1 rfl
theorem m_isDone (h : P (kbr (spM M))) : kC d km_isDone [.ref 9] M P := by
  unfold spM at h
  refine kC_of 60 (by decide) (Nat.le_of_ble_eq_true rfl) ?_
  refine ⟨fun e => ?_, fun e => ?_⟩
  · have e : M 9 0 = 0 := e
    rw [if_neg (fun z => z e)] at h
    refine ⟨fun e2 => ?_, fun e2 => ?_⟩
    · have e2 : ¬ M 9 1 = 0 := e2
      rw [if_neg e2] at h
      refine ⟨fun e3 => ?_, fun e3 => ?_⟩
      · have e3 : M 9 1 ≤ 0 := e3
        rw [if_pos e3] at h
        exact ⟨rfl, rfl, rfl, rfl, rfl, h⟩
      · have e3 : ¬ M 9 1 ≤ 0 := e3
        rw [if_neg e3] at h
        exact ⟨rfl, rfl, rfl, rfl, rfl, h⟩
    · have e2 : M 9 1 = 0 := e2
      rw [if_pos e2] at h
      exact ⟨rfl, rfl, rfl, rfl, rfl, h⟩
  · have e : ¬ M 9 0 = 0 := e
    rw [if_pos e] at h
    exact ⟨rfl, h⟩
theorem m_copy_loop {f t : Nat} (hf : kar f = some 24) (ht : kar t = some 24) (hne : f ≠ t) : ∀ (n i : Nat) (x : Int32), i + n = 24 → x = nI i → P (rV (va_up M t (va_cpy (M f) (M t) 0 0 24))) →
    kJ d km_copy P 2 [(0, .ref f), (1, .ref t), (2, .int x)] [] (va_up M t (va_cpy (M f) (M t) 0 0 i)) := by
  intro n
  induction n with
  | zero =>
    intro i x hi hx h
    have hi : i = 24 := by omega
    subst hi; subst hx
    refine kJ_H [2] 10 ?_
    exact ⟨fun _ => h, fun e => absurd (by decide) e⟩
  | succ n ih =>
    intro i x hi hx h
    subst hx
    refine kJ_H [2] 20 ?_
    refine ⟨fun e => absurd e (nI_ge (by omega) (by decide)), fun _ => ?_⟩
    show (match kar f with | some n => _ | none => False)
    rw [hf]
    refine ⟨i, rfl, by omega, ?_⟩
    show (match kar t with | some n => _ | none => False)
    rw [ht]
    refine ⟨i, rfl, by omega, ?_⟩
    refine kJ_eq (M' := va_up M t (va_cpy (M f) (M t) 0 0 (i + 1))) ?_ ?_
    · show mw (va_up M t (va_cpy (M f) (M t) 0 0 i)) t i (va_up M t (va_cpy (M f) (M t) 0 0 i) f i) = _
      rw [mw_up, va_up_ne _ _ hne, ← cpy_go, Nat.zero_add]
    · exact ih (i + 1) _ (by omega) (nI_1 i) h
theorem m_copy {f t : Nat} (hf : kar f = some 24) (ht : kar t = some 24) (hne : f ≠ t) (h : P (rV (va_up M t (va_cpy (M f) (M t) 0 0 24)))) : kC d km_copy [.ref f, .ref t] M P := by
  refine kC_L [2] 10 (by decide) (Nat.le_of_ble_eq_true rfl) ?_
  have h0 := m_copy_loop (d := d) hf ht hne 24 0 (nI 0) rfl rfl h
  rw [cpy_0, up_id] at h0
  exact h0
theorem m_writeHeader {t : Nat} (ht : t < 2) (h : P (kbr (wh 9 spM M t))) : kC (d + 1) km_writeHeader [.ref 9, .int (nI t)] M P := by
  unfold wh at h
  refine kC_of 40 (by decide) (Nat.le_of_ble_eq_true rfl) ?_
  refine m_isDone ?_
  refine bgo (fun M1 e => ?_) (fun M1 e => ?_)
  · rw [e] at h
    refine ⟨fun e2 => absurd e2 (by decide), fun _ => ?_⟩
    refine ⟨fun e3 => ?_, fun e3 => ?_⟩
    · have ht1 : t = 1 := by
        rcases (show t = 0 ∨ t = 1 by omega) with rfl | rfl
        · exact absurd rfl e3
        · rfl
      subst ht1
      refine m_copy rfl rfl (by decide) ?_
      exact ⟨rfl, h⟩
    · have ht1 : t = 0 := (nI_eq (by omega) (by decide)).mp e3
      subst ht1
      refine m_copy rfl rfl (by decide) ?_
      exact ⟨rfl, h⟩
  · rw [e] at h
    exact ⟨fun _ => ⟨rfl, h⟩, fun e2 => absurd rfl e2⟩
theorem m_next (h : P (kbr (nx 9 spM M))) : kC (d + 2) km_next [.ref 9] M P := by
  unfold nx at h
  refine kC_of 40 (by decide) (Nat.le_of_ble_eq_true rfl) ?_
  refine ⟨0, rfl, by decide, 0, rfl, by decide, ?_⟩
  refine m_writeHeader (t := 0) (by decide) ?_
  have h : P (kbr (match wh 9 spM (mw M 13 0 (M 13 0 + nI 1)) 0 with | (true, M1) => wh 9 spM M1 1 | (false, M1) => (false, M1))) := h
  refine bgo (fun M1 e => ?_) (fun M1 e => ?_)
  · have e : wh 9 spM (mw M 13 0 (M 13 0 + nI 1)) 0 = (true, M1) := e
    rw [e] at h
    refine ⟨fun e2 => absurd e2 (by decide), fun _ => ?_⟩
    refine m_writeHeader (t := 1) (by decide) ?_
    have h : P (kbr (wh 9 spM M1 1)) := h
    refine bgo (fun M2 e3 => ?_) (fun M2 e3 => ?_)
    · rw [e3] at h
      exact ⟨fun e2 => absurd e2 (by decide), fun _ => ⟨rfl, h⟩⟩
    · rw [e3] at h
      exact ⟨fun _ => ⟨rfl, h⟩, fun e2 => absurd rfl e2⟩
  · have e : wh 9 spM (mw M 13 0 (M 13 0 + nI 1)) 0 = (false, M1) := e
    rw [e] at h
    exact ⟨fun _ => ⟨rfl, h⟩, fun e2 => absurd rfl e2⟩
theorem m_place {v t k : Nat} (h : P (rI (nI (pl t v k)) M)) : kC d km_place [.int (nI t), .int (nI v), .int (nI k)] M P := by
  refine kC_of 20 (by decide) (Nat.le_of_ble_eq_true rfl) ?_
  refine ⟨rfl, ?_⟩
  have e : nI 1536 * nI t + nI 256 * nI v + nI 4 * nI k = nI (pl t v k) := by
    rw [pk_mul, pk_mul, pk_mul, nI_add, nI_add]
    rfl
  rw [← e] at h
  exact h
theorem m_wb_loop {v t k : Nat} (hv : v < 6) (ht : t < 2) (hk : k < 64) : ∀ (n i : Nat) (x : Int32), i + n = 4 → x = nI i → P (kbr (true, va_up M 10 (va_cpy (M 14) (M 10) 0 (pl t v k) 4))) →
    kJ (d + 1) km_writeBlock P 9 [(0, .ref 9), (1, .int (nI t)), (2, .int (nI v)), (3, .int (nI k)), (4, .int (nI 1)), (5, .int x)] [] (va_up M 10 (va_cpy (M 14) (M 10) 0 (pl t v k) i)) := by
  have hp := pl_lt ht hv hk
  intro n
  induction n with
  | zero =>
    intro i x hi hx h
    have hi : i = 4 := by omega
    subst hi; subst hx
    refine kJ_H [9] 10 ?_
    exact ⟨fun _ => ⟨rfl, h⟩, fun e => absurd (by decide) e⟩
  | succ n ih =>
    intro i x hi hx h
    subst hx
    refine kJ_H [9] 30 ?_
    refine ⟨fun e => absurd e (nI_ge (by omega) (by decide)), fun _ => ⟨fun e => absurd e (by decide), fun _ => ?_⟩⟩
    refine m_place ?_
    refine ⟨i, rfl, by omega, pl t v k + i, nI_add _ _, by omega, ?_⟩
    refine kJ_eq (M' := va_up M 10 (va_cpy (M 14) (M 10) 0 (pl t v k) (i + 1))) ?_ ?_
    · show mw (va_up M 10 (va_cpy (M 14) (M 10) 0 (pl t v k) i)) 10 (pl t v k + i) (va_up M 10 (va_cpy (M 14) (M 10) 0 (pl t v k) i) 14 i) = _
      rw [mw_up, va_up_ne _ _ (by decide), ← cpy_go, Nat.zero_add]
    · exact ih (i + 1) _ (by omega) (nI_1 i) h
theorem m_writeBlock {v t k : Nat} (hv : v < 6) (ht : t < 2) (hk : k < 64) (h : P (kbr (wb 9 spM M t v k))) : kC (d + 1) km_writeBlock [.ref 9, .int (nI t), .int (nI v), .int (nI k)] M P := by
  unfold wb at h
  refine kC_L [9] 30 (by decide) (Nat.le_of_ble_eq_true rfl) ?_
  refine m_isDone ?_
  refine bgo (fun M1 e => ?_) (fun M1 e => ?_)
  · rw [e] at h
    have h0 := m_wb_loop (M := M1) (d := d) hv ht hk 4 0 (nI 0) rfl rfl h
    rw [cpy_0, up_id] at h0
    exact h0
  · rw [e] at h
    refine kJ_H [9] 30 ?_
    exact ⟨fun e => absurd e (by decide), fun _ => ⟨fun _ => ⟨rfl, h⟩, fun e => absurd rfl e⟩⟩
theorem m_take_loop {v t k : Nat} (hv : v < 6) (ht : t < 2) (hk : k < 64) : ∀ (n i : Nat) (x : Int32), i + n = 4 → x = nI i → P (rV (va_up M 14 (va_cpy (M 10) (M 14) (pl t v k) 0 4))) →
    kJ (d + 1) km_take P 3 [(0, .ref 9), (1, .int (nI t)), (2, .int (nI v)), (3, .int (nI k)), (4, .int x)] [] (va_up M 14 (va_cpy (M 10) (M 14) (pl t v k) 0 i)) := by
  have hp := pl_lt ht hv hk
  intro n
  induction n with
  | zero =>
    intro i x hi hx h
    have hi : i = 4 := by omega
    subst hi; subst hx
    refine kJ_H [3] 10 ?_
    exact ⟨fun _ => h, fun e => absurd (by decide) e⟩
  | succ n ih =>
    intro i x hi hx h
    subst hx
    refine kJ_H [3] 30 ?_
    refine ⟨fun e => absurd e (nI_ge (by omega) (by decide)), fun _ => ?_⟩
    refine m_place ?_
    refine ⟨pl t v k + i, nI_add _ _, by omega, i, rfl, by omega, ?_⟩
    refine kJ_eq (M' := va_up M 14 (va_cpy (M 10) (M 14) (pl t v k) 0 (i + 1))) ?_ ?_
    · show mw (va_up M 14 (va_cpy (M 10) (M 14) (pl t v k) 0 i)) 14 i (va_up M 14 (va_cpy (M 10) (M 14) (pl t v k) 0 i) 10 (pl t v k + i)) = _
      rw [mw_up, va_up_ne _ _ (by decide), ← cpy_go, Nat.zero_add]
    · exact ih (i + 1) _ (by omega) (nI_1 i) h
theorem m_take {v t k : Nat} (hv : v < 6) (ht : t < 2) (hk : k < 64) (h : P (rV (tk 9 M t v k))) : kC (d + 1) km_take [.ref 9, .int (nI t), .int (nI v), .int (nI k)] M P := by
  refine kC_L [3] 30 (by decide) (Nat.le_of_ble_eq_true rfl) ?_
  have h0 := m_take_loop (M := M) (d := d) hv ht hk 4 0 (nI 0) rfl rfl h
  rw [cpy_0, up_id] at h0
  exact h0
theorem m_same_loop {v k : Nat} (hv : v < 6) (hk : k < 64) : ∀ (n i : Nat) (a : Bool) (x y : Int32), i + n = 4 → x = nI i → y = kb a → P (rI (kb (a && smR (M 10) (pl 0 v k) (pl 1 v k) n)) M) →
    kJ (d + 1) km_isSame P 5 [(0, .ref 9), (1, .int (nI v)), (2, .int (nI k)), (3, .int y), (4, .int x)] [] M := by
  have hp := pl_lt (t := 0) (by decide) hv hk
  have hq := pl_lt (t := 1) (by decide) hv hk
  intro n
  induction n with
  | zero =>
    intro i a x y hi hx hy h
    have hi : i = 4 := by omega
    subst hi; subst hx; subst hy
    have h : P (rI (kb (a && true)) M) := h
    rw [Bool.and_true] at h
    refine kJ_H [5] 10 ?_
    exact ⟨fun _ => ⟨kb_narrow a, h⟩, fun e => absurd (by decide) e⟩
  | succ n ih =>
    intro i a x y hi hx hy h
    subst hx; subst hy
    have hi2 : i = 3 - n := by omega
    unfold smR at h
    rw [← hi2] at h
    refine kJ_H [5] 40 ?_
    refine ⟨fun e => absurd e (nI_ge (by omega) (by decide)), fun _ => ⟨fun e => ?_, fun e => ?_⟩⟩
    · rw [kb_0.mp e, Bool.false_and] at h
      exact ih (i + 1) false _ _ (by omega) (nI_1 i) rfl h
    · rw [kb_pos e, Bool.true_and] at h
      refine m_place (t := 0) ?_
      refine ⟨pl 0 v k + i, nI_add _ _, by omega, ?_⟩
      refine m_place (t := 1) ?_
      refine ⟨pl 1 v k + i, nI_add _ _, by omega, ?_⟩
      refine ⟨fun e2 => ?_, fun e2 => ?_⟩
      · rw [decide_eq_false e2] at h
        exact ih (i + 1) false _ _ (by omega) (nI_1 i) rfl h
      · rw [decide_eq_true e2] at h
        exact ih (i + 1) true _ _ (by omega) (nI_1 i) rfl h
theorem m_isSame {v k : Nat} (hv : v < 6) (hk : k < 64) (h : P (rI (kb (sm (M 10) v k)) M)) : kC (d + 1) km_isSame [.ref 9, .int (nI v), .int (nI k)] M P := by
  rw [sm_R] at h
  refine kC_L [5] 30 (by decide) (Nat.le_of_ble_eq_true rfl) ?_
  exact m_same_loop hv hk 4 0 true _ _ rfl rfl rfl h
theorem m_cr_loop {v r t : Nat} (hv : v < 6) (hr : r < 8) (ht : t < 2) : ∀ (n i : Nat) (x : Int32) (M : kMem), i + n = 8 → x = nI (8 * r + i) → P (kbr (crn 9 spM v r t n M)) →
    kJ (d + 2) km_copyRegion P 9 [(0, .ref 9), (1, .int (nI v)), (2, .int (nI r)), (3, .int (nI t)), (4, .int (nI 1)), (5, .int x)] [] M := by
  have e9 : nI 8 * nI r + nI 8 = nI (8 * r + 8) := by rw [pk_mul, nI_add]
  have fin : ∀ (i : Nat) (x : Int32) (M : kMem), P (kbr (false, M)) → kJ (d + 2) km_copyRegion P 9 [(0, .ref 9), (1, .int (nI v)), (2, .int (nI r)), (3, .int (nI t)), (4, .int (nI 0)), (5, .int x)] [] M := by
    intro i x M h
    refine kJ_H [9] 20 ?_
    exact ⟨fun _ => ⟨rfl, h⟩, fun _ => ⟨fun _ => ⟨rfl, h⟩, fun e => absurd rfl e⟩⟩
  intro n
  induction n with
  | zero =>
    intro i x M hi hx h
    have hi : i = 8 := by omega
    subst hi; subst hx
    refine kJ_H [9] 20 ?_
    refine ⟨fun _ => ⟨rfl, h⟩, fun e => absurd ?_ e⟩
    show nI 8 * nI r + nI 8 ≤ _
    rw [e9]
    exact nI_le (Nat.le_refl _) (by omega)
  | succ n ih =>
    intro i x M hi hx h
    subst hx
    have hi2 : i = 7 - n := by omega
    unfold crn at h
    rw [← hi2] at h
    have hk : 8 * r + i < 64 := by omega
    refine kJ_H [9] 40 ?_
    refine ⟨fun e => absurd e ?_, fun _ => ⟨fun e => absurd e (by decide), fun _ => ?_⟩⟩
    · show ¬ nI 8 * nI r + nI 8 ≤ _
      rw [e9]
      exact nI_ge (by omega) (by omega)
    refine m_isSame hv hk ?_
    refine ⟨fun e => ?_, fun e => ?_⟩
    · have e2 : sm (M 10) v (8 * r + i) = true := kb_pos e
      rw [if_pos e2] at h
      exact ih (i + 1) _ M (by omega) (nI_1 _) h
    · have e2 : sm (M 10) v (8 * r + i) = false := kb_0.mp e
      rw [if_neg (by rw [show (9 + 1 : Nat) = 10 from rfl, e2]; decide)] at h
      refine m_take hv ht hk ?_
      show kC (d + 1) km_writeBlock [.ref 9, .int (nI 1 - nI t), .int (nI v), .int (nI (8 * r + i))] (tk 9 M t v (8 * r + i)) _
      rw [pk_sub (by omega)]
      refine m_writeBlock hv (by omega) hk ?_
      refine bgo (fun M1 e3 => ?_) (fun M1 e3 => ?_)
      · rw [e3] at h
        exact ih (i + 1) _ M1 (by omega) (nI_1 _) h
      · rw [e3] at h
        exact fin (i + 1) _ M1 h
theorem m_copyRegion {v r t : Nat} (hv : v < 6) (hr : r < 8) (ht : t < 2) (h : P (kbr (cr 9 spM M v r t))) : kC (d + 2) km_copyRegion [.ref 9, .int (nI v), .int (nI r), .int (nI t)] M P := by
  refine kC_L [9] 40 (by decide) (Nat.le_of_ble_eq_true rfl) ?_
  exact m_cr_loop hv hr ht 8 0 _ M rfl (pk_mul 8 r) h
theorem m_stateOf {v : Nat} (hv : v < 6) (h : P (rI (M 13 (2 + v)) M)) : kC d km_stateOf [.ref 9, .int (nI v)] M P := by
  refine kC_of 20 (by decide) (Nat.le_of_ble_eq_true rfl) ?_
  exact ⟨2 + v, nI_add 2 v, by omega, rfl, h⟩
theorem m_isVolume {x : Int32} (h : P (rI (kb (isV (M 13) x)) M)) : kC d km_isVolume [.ref 9, .int x] M P := by
  refine kC_of 20 (by decide) (Nat.le_of_ble_eq_true rfl) ?_
  refine ⟨fun e => ?_, fun e => ?_⟩
  · rw [show isV (M 13) x = false from decide_eq_false (fun z => z.1 e)] at h
    exact ⟨rfl, h⟩
  · refine ⟨1, rfl, by decide, fun e2 => ?_, fun e2 => ?_⟩
    · rw [show isV (M 13) x = false from decide_eq_false (fun z => z.2 e2)] at h
      exact ⟨rfl, h⟩
    · rw [show isV (M 13) x = true from decide_eq_true ⟨e, e2⟩] at h
      exact ⟨rfl, h⟩
theorem m_map {v t : Nat} (hv : v < 6) (ht : t < 2) (h : P (rI (M 13 (8 + t * 6 + v)) M)) : kC d km_map [.ref 9, .int (nI v), .int (nI t)] M P := by
  refine kC_of 20 (by decide) (Nat.le_of_ble_eq_true rfl) ?_
  refine ⟨8 + t * 6 + v, ?_, by omega, rfl, h⟩
  show nI 8 + nI 6 * nI t + nI v = _
  rw [pk_mul, nI_add, nI_add, Nat.mul_comm]
theorem m_isMarked {v r t : Nat} (hv : v < 6) (hr : r < 8) (ht : t < 2) (h : P (rI (kb (bt (M 13 (8 + t * 6 + v)) r)) M)) : kC (d + 1) km_isMarked [.ref 9, .int (nI v), .int (nI r), .int (nI t)] M P := by
  have hb : (M 13 (8 + t * 6 + v) >>> (nI r &&& 31)) &&& nI 1 = kb (bt (M 13 (8 + t * 6 + v)) r) := bit_at (by omega)
  refine kC_of 20 (by decide) (Nat.le_of_ble_eq_true rfl) ?_
  refine m_map hv ht ?_
  refine ⟨fun e => ?_, fun e => ?_⟩
  · have e2 : ¬ kb (bt (M 13 (8 + t * 6 + v)) r) = nI 1 := fun z => e (hb.trans z)
    cases hx : bt (M 13 (8 + t * 6 + v)) r
    · rw [hx] at h
      exact ⟨rfl, h⟩
    · exact absurd (by rw [hx]; rfl) e2
  · have e2 : kb (bt (M 13 (8 + t * 6 + v)) r) = nI 1 := hb.symm.trans e
    cases hx : bt (M 13 (8 + t * 6 + v)) r
    · rw [hx] at e2
      exact absurd e2 (by decide)
    · rw [hx] at h
      exact ⟨rfl, h⟩
theorem m_isOpen {v r : Nat} (hv : v < 6) (hr : r < 8) (h : P (rI (kb (opn (M 13) v r)) M)) : kC (d + 2) km_isOpen [.ref 9, .int (nI v), .int (nI r)] M P := by
  unfold opn at h
  refine kC_of 20 (by decide) (Nat.le_of_ble_eq_true rfl) ?_
  refine m_isMarked (t := 0) hv hr (by decide) ?_
  rw [show 8 + 0 * 6 + v = 8 + v by omega]
  refine ⟨fun e => ?_, fun e => ?_⟩
  · rw [kb_pos e, Bool.true_or] at h
    exact ⟨rfl, h⟩
  · rw [kb_0.mp e, Bool.false_or] at h
    refine m_isMarked (t := 1) hv hr (by decide) ?_
    rw [show 8 + 1 * 6 + v = 14 + v by omega]
    refine ⟨fun e2 => ?_, fun e2 => ?_⟩
    · rw [kb_0.mp e2] at h
      exact ⟨rfl, h⟩
    · rw [kb_pos e2] at h
      exact ⟨rfl, h⟩
theorem m_fail (h : P (rI (nI 0) (mw M 9 4 (nI 1)))) : kC d km_fail [.ref 9] M P := by
  refine kC_of 20 (by decide) (Nat.le_of_ble_eq_true rfl) ?_
  exact ⟨rfl, rfl, rfl, h⟩
end MA
end
section
/-! the reference's methods: a write, a read -/
def mri (q : Bool × kMem) (x : Int32) : kRes := if q.1 = true then rI x q.2 else rI (nI 0) (mw q.2 9 4 (nI 1))
def mrv (q : Bool × kMem) : kRes := rV (mw q.2 9 4 (if q.1 = true then nI 0 else nI 1))
def iwR (h : Nat → Int32) (x : Int32) : Nat → Bool
  | 0 => false
  | n + 1 => decide (h (20 + (3 - n)) = x) || iwR h x n
theorem iw_R (h : Nat → Int32) (x : Int32) : inw h x = iwR h x 4 := by
  unfold inw
  simp [iwR]
theorem inR_2 (x : Int32) : inR x 2 = decide (x = nI 0 ∨ x = nI 1) := by
  by_cases h : inR x 2 = true
  · rw [h]
    obtain ⟨j, hj, rfl⟩ := inR_t (by decide) h
    rcases (show j = 0 ∨ j = 1 by omega) with rfl | rfl <;> rfl
  · rw [Bool.not_eq_true] at h
    rw [h]
    symm
    refine decide_eq_false (fun z => ?_)
    rcases z with rfl | rfl
    · exact absurd h (by decide)
    · exact absurd h (by decide)
section MB
variable {d : Nat} {M : kMem} {P : kRes → Prop}
theorem m_makeVolume {n : Nat} (hn : n ≤ 6) (hm : M 13 1 = nI n) (h1 : ¬ M 9 0 = 0 → P (rI (nI 0) (mw M 9 4 (nI 1)))) (h2 : M 9 0 = 0 → n = 6 → P (rI (-1) (mw M 9 4 (nI 0))))
    (h3 : M 9 0 = 0 → n < 6 → P (mri (nx 9 spM (mw (mw (mw M 9 4 (nI 0)) 13 1 (nI n + nI 1)) 13 (2 + n) (nI 0))) (nI n))) : kC (d + 3) km_makeVolume [.ref 9] M P := by
  refine kC_of 60 (by decide) (Nat.le_of_ble_eq_true rfl) ?_
  refine ⟨fun e => ?_, fun e => ?_⟩
  · have e : M 9 0 = 0 := e
    refine ⟨rfl, rfl, fun _ => ?_, fun e2 => absurd e e2⟩
    refine ⟨1, rfl, by decide, ?_⟩
    have hm2 : mw M 9 4 (nI 0) 13 1 = nI n := hm
    refine ⟨fun e3 => ?_, fun e3 => ?_⟩
    · have hn6 : n < 6 := by
        rcases Nat.lt_or_ge n 6 with z | z
        · exact z
        · exact absurd (by rw [show n = 6 by omega] at hm; exact hm) e3
      have h := h3 e hn6
      refine ⟨1, rfl, by decide, 1, rfl, by decide, ?_⟩
      refine ⟨2 + n, ?_, by omega, ?_⟩
      · show nI 2 + M 13 1 = _
        rw [hm, nI_add]
      refine kwN_eq (M' := mw (mw (mw M 9 4 (nI 0)) 13 1 (nI n + nI 1)) 13 (2 + n) (nI 0)) ?_ ?_
      · show mw (mw (mw M 9 4 (nI 0)) 13 1 (M 13 1 + nI 1)) 13 (2 + n) (nI 0) = _
        rw [hm]
      refine m_next ?_
      refine bgo (fun M1 e4 => ?_) (fun M1 e4 => ?_)
      · rw [e4] at h
        refine ⟨fun e2 => absurd e2 (by decide), fun _ => ⟨rfl, ?_⟩⟩
        show P (rI (M 13 1) M1)
        rw [hm]
        exact h
      · rw [e4] at h
        refine ⟨fun _ => m_fail ⟨rfl, h⟩, fun e2 => absurd rfl e2⟩
    · have e3 : M 13 1 = nI 6 := e3
      have hn6 : n = 6 := (nI_eq (by omega) (by decide)).mp (hm.symm.trans e3)
      exact ⟨rfl, h2 e hn6⟩
  · have e : ¬ M 9 0 = 0 := e
    exact ⟨rfl, rfl, fun e2 => absurd e2 e, fun _ => ⟨rfl, h1 e⟩⟩
theorem m_isPlace {x t k w : Int32} (hw : wf (M 13)) (h : P (rI (kb (isB (M 13) x t k && inR w 4)) M)) : kC (d + 1) km_isPlace [.ref 9, .int x, .int t, .int k, .int w] M P := by
  obtain ⟨n, hn, hm, -, -⟩ := hw
  have hf : (isB (M 13) x t k && inR w 4) = false → P (rI (nI 0) M) := fun z => by rw [z] at h; exact h
  refine kC_of 40 (by decide) (Nat.le_of_ble_eq_true rfl) ?_
  refine m_isVolume ?_
  refine ⟨fun e => ⟨rfl, hf (by unfold isB; rw [kb_0.mp e]; rfl)⟩, fun e => ?_⟩
  have e := kb_pos e
  refine ⟨fun e2 => ⟨rfl, hf (by unfold isB; rw [show inR k 64 = false from decide_eq_false (fun z => z.1 e2), Bool.and_false]; rfl)⟩, fun e2 => ?_⟩
  refine ⟨fun e3 => ⟨rfl, hf (by unfold isB; rw [show inR k 64 = false from decide_eq_false (fun z => z.2 e3), Bool.and_false]; rfl)⟩, fun e3 => ?_⟩
  refine ⟨fun e4 => ⟨rfl, hf (by rw [show inR w 4 = false from decide_eq_false (fun z => z.1 e4), Bool.and_false])⟩, fun e4 => ?_⟩
  refine ⟨fun e5 => ⟨rfl, hf (by rw [show inR w 4 = false from decide_eq_false (fun z => z.2 e5), Bool.and_false])⟩, fun e5 => ?_⟩
  have ek : inR k 64 = true := decide_eq_true ⟨e2, e3⟩
  have ew : inR w 4 = true := decide_eq_true ⟨e4, e5⟩
  obtain ⟨v, hv, rfl⟩ := isV_t hn hm e
  have hc : (nI v).toNatClampNeg = v := nI_clamp (by omega)
  unfold isB at h hf
  rw [e, ek, ew, hc, Bool.true_and, Bool.and_true, Bool.and_true] at h hf
  refine m_stateOf (by omega) ?_
  refine ⟨fun e6 => ?_, fun e6 => ?_⟩
  · have e6 : ¬ M 13 (2 + v) = nI 1 := e6
    rw [decide_eq_true e6, Bool.true_or] at h
    exact ⟨rfl, h⟩
  · have e6 : M 13 (2 + v) = nI 1 := e6
    rw [decide_eq_false (fun z => z e6), Bool.false_or, inR_2] at h hf
    refine ⟨fun e7 => ?_, fun e7 => ⟨fun e8 => ?_, fun e8 => ?_⟩⟩
    · have e7 : t = nI 0 := e7
      rw [decide_eq_true (Or.inl e7)] at h
      exact ⟨rfl, h⟩
    · exact ⟨rfl, hf (decide_eq_false (fun z => z.elim e7 e8))⟩
    · have e8 : t = nI 1 := e8
      rw [decide_eq_true (Or.inr e8)] at h
      exact ⟨rfl, h⟩
theorem m_ask {x t k w : Int32} (hw : wf (M 13)) (h1 : ¬ M 9 0 = 0 → P (rV (mw M 9 4 (nI 1)))) (h2 : M 9 0 = 0 → (isB (M 13) x t k && inR w 4) = false → P (rV (mw M 9 4 (nI 2)))) (h3 : M 9 0 = 0 → (isB (M 13) x t k && inR w 4) = true → P (rV (mw M 9 4 (nI 0)))) : kC (d + 2) km_ask [.ref 9, .int x, .int t, .int k, .int w] M P := by
  refine kC_of 40 (by decide) (Nat.le_of_ble_eq_true rfl) ?_
  refine ⟨fun e => ?_, fun e => ⟨rfl, rfl, h1 e⟩⟩
  refine m_isPlace hw ?_
  exact ⟨fun e2 => ⟨rfl, rfl, h3 e (kb_pos e2)⟩, fun e2 => ⟨rfl, rfl, h2 e (kb_0.mp e2)⟩⟩
theorem m_sideOf {v s : Nat} {x : Int32} (hv : v < 6) (hs : s < 4) (hst : M 13 (2 + v) = nI s) (h : P (rI (sidI s x) M)) : kC (d + 1) km_sideOf [.ref 9, .int (nI v), .int x] M P := by
  refine kC_of 30 (by decide) (Nat.le_of_ble_eq_true rfl) ?_
  refine m_stateOf hv ?_
  rw [hst]
  unfold sidI at h
  refine ⟨fun e => ⟨fun e2 => ?_, fun e2 => ?_⟩, fun e => ?_⟩
  · have h1 : ¬ s = 1 := fun z => e2 (by rw [z]; rfl)
    have h2 : ¬ s = 0 := fun z => e (by rw [z]; rfl)
    rw [if_neg h1] at h
    refine ⟨rfl, ?_⟩
    rw [← pk_sub (by omega)] at h
    exact h
  · have h1 : s = 1 := (nI_eq (by omega) (by decide)).mp e2
    rw [if_pos h1] at h
    exact ⟨rfl, h⟩
  · have h2 : s = 0 := (nI_eq (by omega) (by decide)).mp e
    subst h2
    exact ⟨rfl, h⟩
theorem m_win_loop {v r : Nat} : ∀ (n i : Nat) (a : Bool) (x y : Int32), i + n = 4 → x = nI (20 + i) → y = kb a → P (rI (kb (a || iwR (M 13) (nI (v * 8 + r)) n)) M) →
    kJ d km_isWindowed P 6 [(0, .ref 9), (1, .int (nI v)), (2, .int (nI r)), (3, .int y), (4, .int x)] [] M := by
  have e9 : nI 8 * nI v + nI r = nI (v * 8 + r) := by rw [pk_mul, nI_add, Nat.mul_comm]
  intro n
  induction n with
  | zero =>
    intro i a x y hi hx hy h
    have hi : i = 4 := by omega
    subst hi; subst hx; subst hy
    have h : P (rI (kb (a || false)) M) := h
    rw [Bool.or_false] at h
    refine kJ_H [6] 10 ?_
    exact ⟨fun _ => ⟨kb_narrow a, h⟩, fun e => absurd (by decide) e⟩
  | succ n ih =>
    intro i a x y hi hx hy h
    subst hx; subst hy
    have hi2 : i = 3 - n := by omega
    unfold iwR at h
    rw [← hi2] at h
    refine kJ_H [6] 40 ?_
    refine ⟨fun e => absurd e (nI_ge (by omega) (by decide)), fun _ => ⟨fun e => ?_, fun e => ?_⟩⟩
    · rw [kb_pos e, Bool.true_or] at h
      exact ih (i + 1) true _ _ (by omega) (nI_1 _) rfl h
    · rw [kb_0.mp e, Bool.false_or] at h
      refine ⟨20 + i, rfl, by omega, ?_⟩
      refine ⟨fun e2 => ?_, fun e2 => ?_⟩
      · have e2 : ¬ M 13 (20 + i) = nI 8 * nI v + nI r := e2
        rw [e9] at e2
        rw [decide_eq_false e2] at h
        exact ih (i + 1) false _ _ (by omega) (nI_1 _) rfl h
      · have e2 : M 13 (20 + i) = nI 8 * nI v + nI r := e2
        rw [e9] at e2
        rw [decide_eq_true e2] at h
        exact ih (i + 1) true _ _ (by omega) (nI_1 _) rfl h
theorem m_isWindowed {v r : Nat} (h : P (rI (kb (inw (M 13) (nI (v * 8 + r)))) M)) : kC d km_isWindowed [.ref 9, .int (nI v), .int (nI r)] M P := by
  rw [iw_R] at h
  refine kC_L [6] 30 (by decide) (Nat.le_of_ble_eq_true rfl) ?_
  exact m_win_loop 4 0 false _ _ rfl rfl rfl h
theorem m_enter_at {v r k : Nat} (hk : k < 4) {lv : List (Nat × Value)} {y : Int32} (hy : y = nI k) (h0 : kget lv 0 = some (.ref 9)) (h1 : kget lv 1 = some (.int (nI v))) (h2 : kget lv 2 = some (.int (nI r))) (h3 : kget lv 3 = some (.int y)) (h : P (rV (va_up M 13 (upd (M 13) (20 + k) (nI (v * 8 + r)))))) :
    kJ d km_enter P 68 lv [] M := by
  have e9 : nI 8 * nI v + nI r = nI (v * 8 + r) := by rw [pk_mul, nI_add, Nat.mul_comm]
  subst hy
  refine kw_ok 20 _ _ _ _ ?_
  show (match kget lv 0 with | some (.ref v) => _ | _ => False)
  rw [h0]
  show (match kget lv 3 with | some (.int v) => _ | _ => False)
  rw [h3]
  show (match kget lv 1 with | some (.int v) => _ | _ => False)
  rw [h1]
  show (match kget lv 2 with | some (.int v) => _ | _ => False)
  rw [h2]
  refine ⟨20 + k, nI_add 20 k, by omega, ?_⟩
  show P (rV (va_up M 13 (upd (M 13) (20 + k) (nI 8 * nI v + nI r))))
  rw [e9]
  exact h
theorem m_shift_loop {v r : Nat} {z : Int32} : ∀ (n i : Nat) (x : Int32), i + n = 3 → x = nI (20 + i) → P (rV (va_up M 13 (upd (va_cpy (M 13) (M 13) 21 20 3) 23 (nI (v * 8 + r))))) →
    kJ d km_enter P 35 [(0, .ref 9), (1, .int (nI v)), (2, .int (nI r)), (3, .int z), (4, .int x)] [] (va_up M 13 (va_cpy (M 13) (M 13) 21 20 i)) := by
  intro n
  induction n with
  | zero =>
    intro i x hi hx h
    have hi : i = 3 := by omega
    subst hi; subst hx
    refine kJ_H [35, 68] 10 ?_
    refine ⟨fun _ => ?_, fun e => absurd (by decide) e⟩
    refine m_enter_at (k := 3) (v := v) (r := r) (by decide) rfl rfl rfl rfl rfl ?_
    rw [bx_uu, va_up_self]
    exact h
  | succ n ih =>
    intro i x hi hx h
    subst hx
    refine kJ_H [35, 68] 40 ?_
    have e9 : nI (20 + i) + nI 1 = nI (21 + i) := by rw [nI_add]; congr 1; omega
    refine ⟨fun e => absurd e ?_, fun _ => ?_⟩
    · show ¬ _ ≤ nI (20 + i) + nI 1
      rw [e9]
      exact nI_ge (by omega) (by decide)
    refine ⟨21 + i, e9, by omega, 20 + i, rfl, by omega, ?_⟩
    refine kJ_eq (M' := va_up M 13 (va_cpy (M 13) (M 13) 21 20 (i + 1))) ?_ ?_
    · show mw (va_up M 13 (va_cpy (M 13) (M 13) 21 20 i)) 13 (20 + i) (va_up M 13 (va_cpy (M 13) (M 13) 21 20 i) 13 (21 + i)) = _
      rw [mw_up, va_up_self, ← cpy_go]
      congr 2
      unfold va_cpy
      rw [if_neg (by omega)]
    · exact ih (i + 1) _ (by omega) (nI_1 _) h
theorem m_size_loop {v r : Nat} (h26 : kJ d km_enter P 26 [(0, .ref 9), (1, .int (nI v)), (2, .int (nI r)), (3, .int (nI (wsz (M 13))))] [] M) : ∀ (n i : Nat) (x : Int32), i + n = 4 → x = nI i → wsn (M 13) n = wsz (M 13) →
    kJ d km_enter P 2 [(0, .ref 9), (1, .int (nI v)), (2, .int (nI r)), (3, .int x)] [] M := by
  intro n
  induction n with
  | zero =>
    intro i x hi hx h
    have hi : i = 4 := by omega
    subst hi; subst hx
    have h : 4 = wsz (M 13) := h
    rw [← h] at h26
    refine kJ_H [2, 26] 10 ?_
    exact ⟨fun _ => h26, fun e => absurd (by decide) e⟩
  | succ n ih =>
    intro i x hi hx h
    subst hx
    have hi2 : i = 3 - n := by omega
    unfold wsn at h
    rw [← hi2] at h
    refine kJ_H [2, 26] 20 ?_
    refine ⟨fun e => absurd e (nI_ge (by omega) (by decide)), fun _ => ?_⟩
    refine ⟨20 + i, nI_add 20 i, by omega, ?_⟩
    refine ⟨fun e => ?_, fun e => ?_⟩
    · have e : M 13 (20 + i) = -1 := e
      rw [if_pos e] at h
      rw [← h] at h26
      exact h26
    · have e : ¬ M 13 (20 + i) = -1 := e
      rw [if_neg e] at h
      exact ih (i + 1) _ (by omega) (nI_1 _) h
theorem m_enter {v r : Nat} (h : P (rV (va_up M 13 (ent (M 13) (nI (v * 8 + r)))))) : kC d km_enter [.ref 9, .int (nI v), .int (nI r)] M P := by
  have hw := wsz_le (M 13)
  unfold ent at h
  refine kC_L [2] 30 (by decide) (Nat.le_of_ble_eq_true rfl) ?_
  refine m_size_loop ?_ 4 0 _ rfl rfl rfl
  refine kJ_H [35, 68] 10 ?_
  refine ⟨fun e => ?_, fun e => ?_⟩
  · have hne : ¬ wsz (M 13) = 4 := fun z => e (by rw [z]; rfl)
    rw [if_neg hne] at h
    exact m_enter_at (k := wsz (M 13)) (v := v) (r := r) (by omega) rfl rfl rfl rfl rfl h
  · have he : wsz (M 13) = 4 := (nI_eq (by omega) (by decide)).mp e
    rw [if_pos he] at h
    have h0 := m_shift_loop (d := d) (z := nI (wsz (M 13))) 3 0 (nI 20) rfl rfl h
    rw [cpy_0, up_id] at h0
    exact h0
end MB
end
section
/-! the reference's methods: put, write, fill, read -/
theorem wf_opn0 {h : Nat → Int32} {v n : Nat} (hv : v < n) (hV : ∀ v, v < n → wfV h v) (h0 : h (2 + v) = nI 0) (r : Nat) : opn h v r = false := by
  obtain ⟨-, -, -, g⟩ := hV v hv
  obtain ⟨g1, g2⟩ := g h0
  unfold opn
  rw [g1, g2]
  show (bt 0 r || bt 0 r) = false
  rw [b_0]
  rfl
section MC
variable {d : Nat} {M : kMem} {P : kRes → Prop}
theorem m_put {v s u k : Nat} {t : Int32} (hv : v < 6) (hs : s < 4) (hst : M 13 (2 + v) = nI s) (hu : u < 2) (eu : sidI s t = nI u) (hk : k < 64) (h0 : s = 0 → opn (M 13) v (k / 8) = false) (h : P (kbr (put 9 spM M v u k))) : kC (d + 3) km_put [.ref 9, .int (nI v), .int t, .int (nI k)] M P := by
  have hr : nI k / nI 8 = nI (k / 8) := pk_div (by omega) (by decide) (by decide)
  have hr8 : k / 8 < 8 := by omega
  unfold put at h
  refine kC_of 80 (by decide) (Nat.le_of_ble_eq_true rfl) ?_
  refine ⟨by decide, ?_⟩
  refine m_stateOf hv ?_
  refine m_sideOf hv hs hst ?_
  rw [eu]
  have wbl : ∀ {M1 : kMem} {y : Int32}, P (kbr (wb 9 spM M1 u v k)) → kC (d + 2) km_writeBlock [.ref 9, .int (nI u), .int (nI v), .int (nI k)] M1 (fun r => match r with | .inl (some (.int z), M2) => narrow .boolean (.int z) = .int z ∧ P (rI z M2) | _ => False) := by
    intro M1 y h
    refine m_writeBlock hv hu hk ?_
    exact ⟨kb_narrow _, h⟩
  refine ⟨fun e => ?_, fun e => ?_⟩
  · have e : ¬ M 13 (2 + v) = nI 1 := e
    rw [if_neg e] at h
    -- the pair of writes behind the window
    have tail : ∀ {n : Nat} {M1 : kMem} {y : Int32}, P (kbr (match wb 9 spM M1 u v k with | (true, M2) => wb 9 spM M2 (1 - u) v k | (false, M2) => (false, M2))) →
        kwN (d + 3) km_put P (n + 30) 129 [(0, .ref 9), (1, .int (nI v)), (2, .int t), (3, .int (nI k)), (4, .int y), (5, .int (M 13 (2 + v))), (6, .int (nI u))] [] M1 := by
      intro n M1 y h
      refine m_writeBlock hv hu hk ?_
      refine bgo (fun M2 e4 => ?_) (fun M2 e4 => ?_)
      · rw [e4] at h
        have h : P (kbr (wb 9 spM M2 (1 - u) v k)) := h
        refine ⟨fun e2 => absurd e2 (by decide), fun _ => ?_⟩
        show kC (d + 2) km_writeBlock [.ref 9, .int (nI 1 - nI u), .int (nI v), .int (nI k)] M2 _
        rw [pk_sub (by omega)]
        refine m_writeBlock hv (by omega) hk ?_
        refine bgo (fun M3 e5 => ?_) (fun M3 e5 => ?_)
        · rw [e5] at h
          exact ⟨fun e2 => absurd e2 (by decide), fun _ => ⟨rfl, h⟩⟩
        · rw [e5] at h
          exact ⟨fun _ => ⟨rfl, h⟩, fun e2 => absurd rfl e2⟩
      · rw [e4] at h
        exact ⟨fun _ => ⟨rfl, h⟩, fun e2 => absurd rfl e2⟩
    have mid : ∀ {n : Nat} {y : Int32}, y = nI (k / 8) → opn (M 13) v (k / 8) = false →
        kwN (d + 3) km_put P (n + 50) 103 [(0, .ref 9), (1, .int (nI v)), (2, .int t), (3, .int (nI k)), (4, .int y), (5, .int (M 13 (2 + v))), (6, .int (nI u))] [] M := by
      intro n y hy e2
      subst hy
      rw [if_neg (by rw [show (9 + 4 : Nat) = 13 from rfl, e2]; decide)] at h
      unfold enb at h
      refine m_isWindowed ?_
      refine ⟨fun e3 => ?_, fun e3 => ?_⟩
      · have e3 : inw (M 13) (nI (v * 8 + k / 8)) = true := kb_pos e3
        rw [if_pos e3] at h
        exact tail (n := n + 15) h
      · have e3 : inw (M 13) (nI (v * 8 + k / 8)) = false := kb_0.mp e3
        rw [if_neg (by rw [show (9 + 4 : Nat) = 13 from rfl, e3]; decide)] at h
        refine m_enter ?_
        refine m_next ?_
        have h : P (kbr (match nx 9 spM (va_up M 13 (ent (M 13) (nI (v * 8 + k / 8)))) with | (true, M1) => (match wb 9 spM M1 u v k with | (true, M2) => wb 9 spM M2 (1 - u) v k | (false, M2) => (false, M2)) | (false, M1) => (false, M1))) := h
        refine bgo (fun M1 e4 => ?_) (fun M1 e4 => ?_)
        · have e4 : nx 9 spM (va_up M 13 (ent (M 13) (nI (v * 8 + k / 8)))) = (true, M1) := e4
          rw [e4] at h
          exact ⟨fun _ => tail (n := n + 8) h, fun e => absurd e (by decide)⟩
        · have e4 : nx 9 spM (va_up M 13 (ent (M 13) (nI (v * 8 + k / 8)))) = (false, M1) := e4
          rw [e4] at h
          exact ⟨fun e => absurd rfl e, fun _ => ⟨rfl, h⟩⟩
    refine ⟨fun e2 => ?_, fun e2 => ?_⟩
    · have e2 : M 13 (2 + v) = nI 0 := e2
      exact mid (n := 12) hr (h0 ((nI_eq (by omega) (by decide)).mp (hst.symm.trans e2)))
    · show kC (d + 2) km_isOpen [.ref 9, .int (nI v), .int (nI k / nI 8)] M _
      rw [hr]
      refine m_isOpen hv hr8 ?_
      refine ⟨fun e3 => ?_, fun e3 => ?_⟩
      · exact mid (n := 7) hr (kb_0.mp e3)
      · have e3 : opn (M 13) v (k / 8) = true := kb_pos e3
        rw [if_pos e3] at h
        refine m_writeBlock hv hu hk ?_
        exact ⟨kb_narrow _, h⟩
  · have e : M 13 (2 + v) = nI 1 := e
    rw [if_pos e] at h
    unfold mkb at h
    show kC (d + 2) km_isMarked [.ref 9, .int (nI v), .int (nI k / nI 8), .int (nI u)] M _
    rw [hr]
    refine m_isMarked hv hr8 hu ?_
    refine ⟨fun e3 => ?_, fun e3 => ?_⟩
    · have e3 : bt (M 13 (8 + u * 6 + v)) (k / 8) = true := kb_pos e3
      rw [if_pos e3] at h
      refine m_writeBlock hv hu hk ?_
      exact ⟨kb_narrow _, h⟩
    · have e3 : bt (M 13 (8 + u * 6 + v)) (k / 8) = false := kb_0.mp e3
      rw [if_neg (by rw [show (9 + 4 : Nat) = 13 from rfl, e3]; decide)] at h
      have e9 : nI 8 + nI 6 * nI u + nI v = nI (8 + u * 6 + v) := by rw [pk_mul, nI_add, nI_add, Nat.mul_comm]
      refine ⟨8 + u * 6 + v, e9, by omega, 8 + u * 6 + v, e9, by omega, ?_⟩
      have h : P (kbr (match nx 9 spM (mw M 13 (8 + u * 6 + v) (M 13 (8 + u * 6 + v) ||| bit1 (k / 8))) with | (true, M1) => wb 9 spM M1 u v k | (false, M1) => (false, M1))) := h
      refine kwN_eq (M' := mw M 13 (8 + u * 6 + v) (M 13 (8 + u * 6 + v) ||| bit1 (k / 8))) ?_ ?_
      · show mw M 13 (8 + u * 6 + v) (M 13 (8 + u * 6 + v) ||| (nI 1 <<< (nI k / nI 8 &&& 31))) = _
        rw [hr]
        rfl
      refine m_next ?_
      refine bgo (fun M1 e4 => ?_) (fun M1 e4 => ?_)
      · rw [e4] at h
        refine ⟨fun _ => ?_, fun e => absurd e (by decide)⟩
        refine m_writeBlock hv hu hk ?_
        exact ⟨kb_narrow _, h⟩
      · rw [e4] at h
        exact ⟨fun e => absurd rfl e, fun _ => ⟨rfl, h⟩⟩
/-- a volume that is there, its state -/
theorem wf_vol {h : Nat → Int32} {x t k : Int32} (hw : wf h) (hb : isB h x t k = true) : ∃ v s u j, v < 6 ∧ x = nI v ∧ s < 4 ∧ h (2 + v) = nI s ∧ u < 2 ∧ sidI s t = nI u ∧ j < 64 ∧ k = nI j ∧ (s = 0 → ∀ r, opn h v r = false) := by
  have hw' := hw
  obtain ⟨n, hn, hm, hV, -⟩ := hw'
  obtain ⟨v, s, u, j, hv, rfl, hs, es, hu, eu, hj, ek, e⟩ := isB_t hw hb
  obtain ⟨v', hv', ev'⟩ := isV_t hn hm e
  have ev2 : v = v' := (nI_eq (by omega) (by omega)).mp ev'
  subst ev2
  exact ⟨v, s, u, j, hv, rfl, hs, es, hu, eu, hj, ek, fun z r => wf_opn0 hv' hV (by rw [es, z]) r⟩
theorem m_write {x t k w y : Int32} (hw : wf (M 13)) (h1 : ¬ M 9 0 = 0 → P (rV (mw M 9 4 (nI 1)))) (h2 : M 9 0 = 0 → (isB (M 13) x t k && inR w 4) = false → P (rV (mw M 9 4 (nI 2))))
    (h3 : ∀ v s u j i, M 9 0 = 0 → (isB (M 13) x t k && inR w 4) = true → v < 6 → x = nI v → s < 4 → M 13 (2 + v) = nI s → u < 2 → sidI s t = nI u → j < 64 → k = nI j → i < 4 → w = nI i → P (mrv (put 9 spM (mw (tk 9 (mw M 9 4 (nI 0)) u v j) 14 i y) v u j))) : kC (d + 4) km_write [.ref 9, .int x, .int t, .int k, .int w, .int y] M P := by
  refine kC_of 60 (by decide) (Nat.le_of_ble_eq_true rfl) ?_
  refine m_ask hw (fun e => ?_) (fun e e2 => ?_) (fun e e2 => ?_)
  · exact ⟨fun e3 => absurd e3 (show ¬ nI 1 ≤ 0 by decide), fun _ => h1 e⟩
  · exact ⟨fun e3 => absurd e3 (show ¬ nI 2 ≤ 0 by decide), fun _ => h2 e e2⟩
  · refine ⟨fun _ => ?_, fun e3 => absurd (show nI 0 ≤ 0 by decide) e3⟩
    have e99 := e2
    rw [Bool.and_eq_true] at e2
    obtain ⟨e2, e3⟩ := e2
    obtain ⟨v, s, u, j, hv, rfl, hs, es, hu, eu, hj, rfl, h0⟩ := wf_vol hw e2
    obtain ⟨i, hi, rfl⟩ := inR_t (by decide) e3
    have h := h3 v s u j i e e99 hv rfl hs es hu eu hj rfl hi rfl
    refine m_sideOf hv hs es ?_
    rw [eu]
    refine m_take hv hu hj ?_
    refine ⟨i, rfl, hi, ?_⟩
    refine m_put hv hs es hu eu hj (fun z => h0 z _) ?_
    refine bgo (fun M1 e4 => ?_) (fun M1 e4 => ?_)
    · have e4 : put 9 spM (mw (tk 9 (mw M 9 4 (nI 0)) u v j) 14 i y) v u j = (true, M1) := e4
      rw [e4] at h
      exact ⟨fun e => absurd e (by decide), fun _ => ⟨rfl, rfl, h⟩⟩
    · have e4 : put 9 spM (mw (tk 9 (mw M 9 4 (nI 0)) u v j) 14 i y) v u j = (false, M1) := e4
      rw [e4] at h
      exact ⟨fun _ => ⟨rfl, rfl, h⟩, fun e => absurd rfl e⟩
theorem m_fill {x t k a0 a1 a2 a3 : Int32} (hw : wf (M 13)) (h1 : ¬ M 9 0 = 0 → P (rV (mw M 9 4 (nI 1)))) (h2 : M 9 0 = 0 → isB (M 13) x t k = false → P (rV (mw M 9 4 (nI 2))))
    (h3 : ∀ v s u j, M 9 0 = 0 → isB (M 13) x t k = true → v < 6 → x = nI v → s < 4 → M 13 (2 + v) = nI s → u < 2 → sidI s t = nI u → j < 64 → k = nI j → P (mrv (put 9 spM (mw (mw (mw (mw (mw M 9 4 (nI 0)) 14 0 a0) 14 1 a1) 14 2 a2) 14 3 a3) v u j))) : kC (d + 4) km_fill [.ref 9, .int x, .int t, .int k, .int a0, .int a1, .int a2, .int a3] M P := by
  have e9 : inR (nI 0) 4 = true := by decide
  refine kC_of 60 (by decide) (Nat.le_of_ble_eq_true rfl) ?_
  refine m_ask hw (fun e => ?_) (fun e e2 => ?_) (fun e e2 => ?_)
  · exact ⟨fun e3 => absurd e3 (show ¬ nI 1 ≤ 0 by decide), fun _ => h1 e⟩
  · have e2 : (isB (M 13) x t k && inR (nI 0) 4) = false := e2
    rw [e9, Bool.and_true] at e2
    exact ⟨fun e3 => absurd e3 (show ¬ nI 2 ≤ 0 by decide), fun _ => h2 e e2⟩
  · refine ⟨fun _ => ?_, fun e3 => absurd (show nI 0 ≤ 0 by decide) e3⟩
    have e2 : (isB (M 13) x t k && inR (nI 0) 4) = true := e2
    rw [e9, Bool.and_true] at e2
    obtain ⟨v, s, u, j, hv, rfl, hs, es, hu, eu, hj, rfl, h0⟩ := wf_vol hw e2
    have h := h3 v s u j e e2 hv rfl hs es hu eu hj rfl
    refine ⟨0, rfl, by decide, 1, rfl, by decide, 2, rfl, by decide, 3, rfl, by decide, ?_⟩
    refine m_put hv hs es hu eu hj (fun z => h0 z _) ?_
    refine bgo (fun M1 e4 => ?_) (fun M1 e4 => ?_)
    · have e4 : put 9 spM (mw (mw (mw (mw (mw M 9 4 (nI 0)) 14 0 a0) 14 1 a1) 14 2 a2) 14 3 a3) v u j = (true, M1) := e4
      rw [e4] at h
      exact ⟨fun e => absurd e (by decide), fun _ => ⟨rfl, rfl, h⟩⟩
    · have e4 : put 9 spM (mw (mw (mw (mw (mw M 9 4 (nI 0)) 14 0 a0) 14 1 a1) 14 2 a2) 14 3 a3) v u j = (false, M1) := e4
      rw [e4] at h
      exact ⟨fun _ => ⟨rfl, rfl, h⟩, fun e => absurd rfl e⟩
theorem m_read {x t k w : Int32} (hw : wf (M 13)) (h1 : ¬ M 9 0 = 0 → P (rI (nI 0) (mw M 9 4 (nI 1)))) (h2 : M 9 0 = 0 → (isB (M 13) x t k && inR w 4) = false → P (rI (nI 0) (mw M 9 4 (nI 2))))
    (h3 : ∀ v s u j i, M 9 0 = 0 → (isB (M 13) x t k && inR w 4) = true → v < 6 → x = nI v → s < 4 → M 13 (2 + v) = nI s → u < 2 → sidI s t = nI u → j < 64 → k = nI j → i < 4 → w = nI i → P (rI (M 10 (pl u v j + i)) (mw M 9 4 (nI 0)))) : kC (d + 3) km_read [.ref 9, .int x, .int t, .int k, .int w] M P := by
  refine kC_of 60 (by decide) (Nat.le_of_ble_eq_true rfl) ?_
  refine m_ask hw (fun e => ?_) (fun e e2 => ?_) (fun e e2 => ?_)
  · exact ⟨fun e3 => absurd e3 (show ¬ nI 1 ≤ 0 by decide), fun _ => ⟨rfl, h1 e⟩⟩
  · exact ⟨fun e3 => absurd e3 (show ¬ nI 2 ≤ 0 by decide), fun _ => ⟨rfl, h2 e e2⟩⟩
  · refine ⟨fun _ => ?_, fun e3 => absurd (show nI 0 ≤ 0 by decide) e3⟩
    have e99 := e2
    rw [Bool.and_eq_true] at e2
    obtain ⟨e2, e3⟩ := e2
    obtain ⟨v, s, u, j, hv, rfl, hs, es, hu, eu, hj, rfl, h0⟩ := wf_vol hw e2
    obtain ⟨i, hi, rfl⟩ := inR_t (by decide) e3
    have h := h3 v s u j i e e99 hv rfl hs es hu eu hj rfl hi rfl
    have hp := pl_lt hu hv hj
    refine m_sideOf hv hs es ?_
    rw [eu]
    refine m_place ?_
    exact ⟨pl u v j + i, nI_add _ _, by omega, rfl, h⟩
end MC
end
section
/-! the reference's methods: split, rejoin, a step, run -/
def lo8 (x : Int32) : Prop := ∃ a, a < 256 ∧ x = nI a
def cntn (x : Int32) : Nat → Nat → Nat
  | 0, c => c
  | n + 1, c => if bt x (7 - n) = true then cntn x n (c + 1) else cntn x n c
def cnt (x : Int32) : Nat := cntn x 8 0
def lowzn (x : Int32) : Nat → Nat
  | 0 => 8
  | n + 1 => if bt x (7 - n) = true then 7 - n else lowzn x n
def marks (h : Nat → Int32) (v : Nat) : Int32 := h (8 + v) ||| h (14 + v)
theorem low_z (h : Nat → Int32) (v : Nat) : ∀ n, lown h v n = lowzn (marks h v) n := by
  intro n
  induction n with
  | zero => rfl
  | succ n ih =>
    unfold lown lowzn marks
    rw [opn_or, ih]
    rfl
theorem cnt_fact : ∀ a, a < 256 → (cnt (nI a) = 0 ↔ nI a = 0) ∧ cnt (nI a) ≤ 8 ∧ bcn (nI a) = nI (cnt (nI a)) ∧ (lowzn (nI a) 8 < 8 → bt (nI a) (lowzn (nI a) 8) = true) ∧ (¬ lowzn (nI a) 8 < 8 → nI a = 0) := by decide +kernel
theorem cnt_clr : ∀ a, a < 256 → ∀ r, r < 8 → bt (nI a) r = true → cnt (nI a &&& (bit1 r ^^^ -1)) + 1 = cnt (nI a) := by decide +kernel
theorem lo8_and {x : Int32} (hx : lo8 x) (r : Nat) (hr : r < 8) : lo8 (x &&& (bit1 r ^^^ -1)) := by
  obtain ⟨a, ha, rfl⟩ := hx
  have e : ∀ a, a < 256 → ∀ r, r < 8 → ∃ b, b < 256 ∧ nI a &&& (bit1 r ^^^ -1) = nI b := by
    have e0 : ∀ a, a < 256 → ∀ r, r < 8 → nI a &&& (bit1 r ^^^ -1) = nI (nI a &&& (bit1 r ^^^ -1)).toNatClampNeg ∧ (nI a &&& (bit1 r ^^^ -1)).toNatClampNeg < 256 := by decide +kernel
    exact fun a ha r hr => ⟨_, (e0 a ha r hr).2, (e0 a ha r hr).1⟩
  exact e a ha r hr
theorem lo8_set {x : Int32} (hx : lo8 x) (r : Nat) (hr : r < 8) : lo8 (x ||| bit1 r) := by
  obtain ⟨a, ha, rfl⟩ := hx
  have e0 : ∀ a, a < 256 → ∀ r, r < 8 → nI a ||| bit1 r = nI (nI a ||| bit1 r).toNatClampNeg ∧ (nI a ||| bit1 r).toNatClampNeg < 256 := by decide +kernel
  exact ⟨_, (e0 a ha r hr).2, (e0 a ha r hr).1⟩
theorem nI_or (a b : Nat) (ha : a < 256) (hb : b < 256) : nI a ||| nI b = nI (a ||| b) := by
  apply Int32.toBitVec_inj.mp
  rw [Int32.toBitVec_or]
  apply BitVec.eq_of_toNat_eq
  show ((BitVec.ofNat 32 a) ||| (BitVec.ofNat 32 b)).toNat = (BitVec.ofNat 32 (a ||| b)).toNat
  rw [BitVec.toNat_or, BitVec.toNat_ofNat, BitVec.toNat_ofNat, BitVec.toNat_ofNat]
  have h : a ||| b < 2 ^ 8 := Nat.or_lt_two_pow ha hb
  rw [Nat.mod_eq_of_lt (by omega), Nat.mod_eq_of_lt (by omega), Nat.mod_eq_of_lt (by omega)]
theorem lo8_or {x y : Int32} (hx : lo8 x) (hy : lo8 y) : lo8 (x ||| y) := by
  obtain ⟨a, ha, rfl⟩ := hx
  obtain ⟨b, hb, rfl⟩ := hy
  exact ⟨a ||| b, Nat.or_lt_two_pow (n := 8) ha hb, nI_or a b ha hb⟩
theorem and_or (x y m : Int32) : (x &&& m) ||| (y &&& m) = (x ||| y) &&& m := by
  apply b_ext
  intro i hi
  rw [b_or, b_and, b_and, b_and, b_or, Bool.and_or_distrib_right]
theorem mw_id (M : kMem) (k j : Nat) : mw M k j (M k j) = M := by
  unfold mw
  have e : upd (M k) j (M k j) = M k := by
    funext i
    unfold upd
    by_cases hi : i = j
    · rw [if_pos hi, hi]
    · rw [if_neg hi]
  rw [e, up_id]
theorem I_add0 (x : Int32) : x + nI 0 = x := Int32.add_zero x
/-- the states' part of a split -/
def spMn (N : Nat) : Nat → Nat → (Nat → Int32) → Nat × (Nat → Int32)
  | 0, c, h => (c, h)
  | n + 1, c, h => if h (2 + (N - (n + 1))) = nI 0 then spMn N n (c + 1) (upd (upd (upd h (2 + (N - (n + 1))) (nI 1)) (8 + (N - (n + 1))) (nI 0)) (14 + (N - (n + 1))) (nI 0)) else spMn N n c h
def kpM (h : Nat → Int32) : Int32 → Bool := fun a => decide (¬ h (2 + a.toNatClampNeg / 8) = nI 0)
theorem clr_hand (b : Nat) (M : kMem) (v r : Nat) : clr b M v r (b + 4) = upd (upd (M (b + 4)) (8 + v) (M (b + 4) (8 + v) &&& (bit1 r ^^^ -1))) (14 + v) (M (b + 4) (14 + v) &&& (bit1 r ^^^ -1)) := by
  show va_up (va_up M (b + 4) _) (b + 4) _ (b + 4) = _
  unfold mw
  rw [va_up_self, va_up_self, pk_un (k := 8 + v) (j := 14 + v) (by omega)]
section MD
variable {d : Nat} {M : kMem} {P : kRes → Prop}
theorem m_askStep {x : Int32} (hw : wf (M 13)) (h1 : ¬ M 9 0 = 0 → P (rV (mw M 9 4 (nI 1)))) (h2 : M 9 0 = 0 → isV (M 13) x = false → P (rV (mw M 9 4 (nI 2))))
    (h3 : ∀ v s, M 9 0 = 0 → isV (M 13) x = true → v < 6 → x = nI v → s < 2 → M 13 (2 + v) = nI s → P (rV (mw M 9 4 (nI 3))))
    (h4 : ∀ v s, M 9 0 = 0 → isV (M 13) x = true → v < 6 → x = nI v → s < 4 → 2 ≤ s → M 13 (2 + v) = nI s → P (rV (mw M 9 4 (nI 0)))) : kC (d + 1) km_askStep [.ref 9, .int x] M P := by
  obtain ⟨n, hn, hm, hV, -⟩ := hw
  refine kC_of 40 (by decide) (Nat.le_of_ble_eq_true rfl) ?_
  refine ⟨fun e => ?_, fun e => ⟨rfl, rfl, h1 e⟩⟩
  refine m_isVolume ?_
  refine ⟨fun e2 => ?_, fun e2 => ⟨rfl, rfl, h2 e (kb_0.mp e2)⟩⟩
  have e2 := kb_pos e2
  obtain ⟨v, hv, rfl⟩ := isV_t hn hm e2
  obtain ⟨⟨s, hs, es⟩, -⟩ := hV v hv
  refine m_stateOf (by omega) ?_
  rw [show (some (Value.int (kb (isV (M 13) (nI v)))), M).snd 13 (2 + v) = nI s from es]
  refine ⟨fun e3 => ?_, fun e3 => ?_⟩
  · exact ⟨rfl, rfl, h4 v s e e2 (by omega) rfl hs ((nI_leI (by decide) (by omega)).mp e3) es⟩
  · have h9 : s < 2 := Nat.not_le.mp (fun z => e3 ((nI_leI (by decide) (by omega)).mpr z))
    exact ⟨rfl, rfl, h3 v s e e2 (by omega) rfl h9 es⟩
theorem m_marks_loop {v : Nat} (hv : v < 6) : ∀ (n i c : Nat) (x y : Int32), i + n = 8 → x = nI c → y = nI i → P (rI (nI (cntn (marks (M 13) v) n c)) M) → kJ (d + 3) km_marks P 4 [(0, .ref 9), (1, .int (nI v)), (2, .int x), (3, .int y)] [] M := by
  intro n
  induction n with
  | zero =>
    intro i c x y hi hx hy h
    have hi : i = 8 := by omega
    subst hi; subst hx; subst hy
    refine kJ_H [4] 20 ?_
    exact ⟨fun _ => ⟨rfl, h⟩, fun e => absurd (by decide) e⟩
  | succ n ih =>
    intro i c x y hi hx hy h
    subst hx; subst hy
    have hi2 : i = 7 - n := by omega
    unfold cntn at h
    rw [← hi2] at h
    have eo : bt (marks (M 13) v) i = opn (M 13) v i := opn_or
    refine kJ_H [4] 30 ?_
    refine ⟨fun e => absurd e (nI_ge (by omega) (by decide)), fun _ => ?_⟩
    refine m_isOpen hv (by omega) ?_
    refine ⟨fun e => ?_, fun e => ?_⟩
    · rw [if_neg (by rw [eo, kb_0.mp e]; decide)] at h
      exact ih (i + 1) c _ _ (by omega) rfl (nI_1 i) h
    · rw [if_pos (by rw [eo]; exact kb_pos e)] at h
      exact ih (i + 1) (c + 1) _ _ (by omega) (nI_1 c) (nI_1 i) h
theorem m_marks {v : Nat} (hv : v < 6) (h : P (rI (nI (cnt (marks (M 13) v))) M)) : kC (d + 3) km_marks [.ref 9, .int (nI v)] M P := by
  refine kC_L [4] 20 (by decide) (Nat.le_of_ble_eq_true rfl) ?_
  exact m_marks_loop hv 8 0 0 _ _ rfl rfl rfl h
theorem m_low_loop {v : Nat} (hv : v < 6) (h23 : kJ (d + 4) km_goStep P 23 [(0, .ref 9), (1, .int (nI v)), (2, .int (nI (low (M 13) v)))] [] M) : ∀ (n i : Nat) (x : Int32), i + n = 8 → x = nI i → lown (M 13) v n = low (M 13) v →
    kJ (d + 4) km_goStep P 2 [(0, .ref 9), (1, .int (nI v)), (2, .int x)] [] M := by
  intro n
  induction n with
  | zero =>
    intro i x hi hx h
    have hi : i = 8 := by omega
    subst hi; subst hx
    have h : 8 = low (M 13) v := h
    rw [← h] at h23
    refine kJ_H [2, 23] 10 ?_
    exact ⟨fun _ => h23, fun e => absurd (by decide) e⟩
  | succ n ih =>
    intro i x hi hx h
    subst hx
    have hi2 : i = 7 - n := by omega
    unfold lown at h
    rw [← hi2] at h
    refine kJ_H [2, 23] 20 ?_
    refine ⟨fun e => absurd e (nI_ge (by omega) (by decide)), fun _ => ?_⟩
    refine m_isOpen hv (by omega) ?_
    refine ⟨fun e => ?_, fun e => ?_⟩
    · rw [if_pos (kb_pos e)] at h
      rw [← h] at h23
      exact h23
    · rw [if_neg (by rw [kb_0.mp e]; decide)] at h
      exact ih (i + 1) _ (by omega) (nI_1 _) h
theorem m_stq {v : Nat} {c : Bool} {y : Int32} (hv : v < 6) (hl : lo8 (marks (M 13) v)) (h : P (kbr (stq 9 spM M v (kb c)))) : kJ (d + 4) km_goStep P 91 [(0, .ref 9), (1, .int (nI v)), (2, .int y), (3, .int (kb c))] [] M := by
  unfold stq at h
  have tail : ∀ {M0 : kMem}, P (kbr (match nx 9 spM M0 with | (true, M2) => (true, mw M2 9 3 (M2 9 3 + kb c)) | (false, M2) => (false, M2))) → kJ (d + 4) km_goStep P 108 [(0, .ref 9), (1, .int (nI v)), (2, .int y), (3, .int (kb c))] [] M0 := by
    intro M0 h
    refine kw_ok 40 _ _ _ _ ?_
    refine m_next ?_
    refine bgo (fun M1 e => ?_) (fun M1 e => ?_)
    · rw [e] at h
      cases c
      · have h : P (kbr (true, mw M1 9 3 (M1 9 3 + nI 0))) := h
        rw [I_add0] at h
        exact ⟨fun _ => ⟨rfl, rfl, rfl, h⟩, fun e => absurd rfl e⟩
      · exact ⟨fun e => absurd e (by decide), fun _ => ⟨fun e => absurd e (by decide), fun _ => ⟨rfl, rfl, rfl, h⟩⟩⟩
    · rw [e] at h
      have h9 : P (kbr (false, mw M1 9 3 (M1 9 3))) := by rw [mw_id]; exact h
      cases c
      · exact ⟨fun _ => ⟨rfl, rfl, rfl, h9⟩, fun e => absurd rfl e⟩
      · exact ⟨fun e => absurd e (by decide), fun _ => ⟨fun _ => ⟨rfl, rfl, rfl, h9⟩, fun e => absurd rfl e⟩⟩
  refine kJ_H [108] 20 ?_
  refine m_marks hv ?_
  obtain ⟨a, ha, ea⟩ := hl
  obtain ⟨f1, f2, -⟩ := cnt_fact a ha
  rw [← ea] at f1 f2
  unfold jn at h
  refine ⟨fun e => ?_, fun e => ?_⟩
  · have e : ¬ nI (cnt (marks (M 13) v)) = 0 := e
    have e2 : ¬ M (9 + 4) (8 + v) ||| M (9 + 4) (14 + v) = 0 := fun z => e (by rw [f1.mpr z]; rfl)
    rw [if_neg e2] at h
    exact tail h
  · have e : nI (cnt (marks (M 13) v)) = nI 0 := e
    have e2 : M (9 + 4) (8 + v) ||| M (9 + 4) (14 + v) = 0 := f1.mp ((nI_eq (by omega) (by decide)).mp e)
    rw [if_pos e2] at h
    refine ⟨2 + v, nI_add 2 v, by omega, ?_⟩
    exact tail h
theorem spM_keep (M : kMem) (k : Nat) (hk : k = 9 + 1 ∨ k = 9 + 2 ∨ k = 9 + 3 ∨ k = 9 + 4 ∨ k = 9 + 5) : (spM M).2 k = M k := by
  have h0 : k ≠ 9 := by omega
  unfold spM
  split
  · rfl
  · split
    · show mw (mw M 9 0 _) 9 1 _ k = _
      unfold mw
      rw [va_up_ne _ _ h0, va_up_ne _ _ h0]
    · show mw _ 9 2 _ k = _
      unfold mw
      rw [va_up_ne _ _ h0, va_up_ne _ _ h0]
theorem m_goStep {v s : Nat} (hv : v < 6) (hs : s < 4) (hs2 : 2 ≤ s) (hst : M 13 (2 + v) = nI s) (l1 : lo8 (M 13 (8 + v))) (l2 : lo8 (M 13 (14 + v))) (h : P (kbr (stp 9 spM M v (s - 2)))) : kC (d + 4) km_goStep [.ref 9, .int (nI v)] M P := by
  unfold stp at h
  refine kC_L [2] 10 (by decide) (Nat.le_of_ble_eq_true rfl) ?_
  refine m_low_loop hv ?_ 8 0 _ rfl rfl rfl
  refine kJ_H [91] 60 ?_
  have hl : low (M 13) v ≤ 8 := by
    have e : ∀ n, lown (M 13) v n ≤ 8 := by
      intro n
      induction n with
      | zero => exact Nat.le_refl _
      | succ n ih =>
        unfold lown
        split
        · omega
        · exact ih
    exact e 8
  refine ⟨fun e => ?_, fun e => ?_⟩
  · have e2 : ¬ low (M 13) v < 8 := Nat.not_lt.mpr ((nI_leI (by decide) (by omega)).mp e)
    rw [if_neg e2] at h
    refine ⟨fun _ => ?_, fun e => absurd rfl e⟩
    exact m_stq (c := false) hv (lo8_or l1 l2) h
  · have e2 : low (M 13) v < 8 := Nat.not_le.mp (fun z => e ((nI_leI (by decide) (by omega)).mpr z))
    rw [if_pos e2] at h
    refine ⟨fun e => absurd e (by decide), fun _ => ?_⟩
    refine m_stateOf hv ?_
    show kC (d + 3) km_copyRegion [.ref 9, .int (nI v), .int (nI (low (M 13) v)), .int (M 13 (2 + v) - nI 2)] M _
    rw [hst, pk_sub hs2]
    refine m_copyRegion hv e2 (by omega) ?_
    have hk := crn_hand 9 spM spM_keep v (low (M 13) v) (s - 2) 8 M
    refine bgo (fun M1 e4 => ?_) (fun M1 e4 => ?_)
    · rw [e4] at h
      have hk : M1 13 = M 13 := by rw [show crn 9 spM v (low (M 13) v) (s - 2) 8 M = (true, M1) from e4] at hk; exact hk
      refine ⟨fun _ => ?_, fun e => absurd e (by decide)⟩
      refine ⟨8 + v, nI_add 8 v, by omega, 8 + v, nI_add 8 v, by omega, ?_⟩
      refine ⟨14 + v, nI_add 14 v, by omega, 14 + v, nI_add 14 v, by omega, ?_⟩
      refine m_stq (M := clr 9 M1 v (low (M 13) v)) (c := true) hv ?_ h
      have k0 : clr 9 M1 v (low (M 13) v) 13 = _ := clr_hand 9 M1 v (low (M 13) v)
      have k1 : clr 9 M1 v (low (M 13) v) 13 (8 + v) = M1 13 (8 + v) &&& (bit1 (low (M 13) v) ^^^ -1) := by
        rw [k0, pk_un (by omega), pk_us]
      have k2 : clr 9 M1 v (low (M 13) v) 13 (14 + v) = M1 13 (14 + v) &&& (bit1 (low (M 13) v) ^^^ -1) := by
        rw [k0, pk_us]
      unfold marks
      rw [k1, k2, hk]
      exact lo8_or (lo8_and l1 _ e2) (lo8_and l2 _ e2)
    · rw [e4] at h
      exact ⟨fun e => absurd rfl e, fun _ => ⟨rfl, h⟩⟩
theorem m_step {x : Int32} (hw : wf (M 13)) (h1 : ¬ M 9 0 = 0 → P (rI (nI 0) (mw M 9 4 (nI 1)))) (h2 : M 9 0 = 0 → isV (M 13) x = false → P (rI (nI 0) (mw M 9 4 (nI 2))))
    (h3 : ∀ v s, M 9 0 = 0 → isV (M 13) x = true → v < 6 → x = nI v → s < 2 → M 13 (2 + v) = nI s → P (rI (nI 0) (mw M 9 4 (nI 3))))
    (h4 : ∀ v s, M 9 0 = 0 → isV (M 13) x = true → v < 6 → x = nI v → s < 4 → 2 ≤ s → M 13 (2 + v) = nI s → P ((fun q : Bool × kMem => mri q (nI (cnt (marks (q.2 13) v)))) (stp 9 spM (mw M 9 4 (nI 0)) v (s - 2)))) : kC (d + 5) km_step [.ref 9, .int x] M P := by
  have hw' := hw
  obtain ⟨n, hn, hm, hV, -⟩ := hw'
  refine kC_of 40 (by decide) (Nat.le_of_ble_eq_true rfl) ?_
  refine m_askStep hw (fun e => ?_) (fun e e2 => ?_) (fun v s e ev hv ex hs es => ?_) (fun v s e ev hv ex hs hs2 es => ?_)
  · exact ⟨fun e3 => absurd e3 (show ¬ nI 1 ≤ 0 by decide), fun _ => ⟨rfl, h1 e⟩⟩
  · exact ⟨fun e3 => absurd e3 (show ¬ nI 2 ≤ 0 by decide), fun _ => ⟨rfl, h2 e e2⟩⟩
  · exact ⟨fun e3 => absurd e3 (show ¬ nI 3 ≤ 0 by decide), fun _ => ⟨rfl, h3 v s e ev hv ex hs es⟩⟩
  · refine ⟨fun _ => ?_, fun e3 => absurd (show nI 0 ≤ 0 by decide) e3⟩
    have h := h4 v s e ev hv ex hs hs2 es
    subst ex
    obtain ⟨v', hv', ev'⟩ := isV_t hn hm ev
    have ev2 : v = v' := (nI_eq (by omega) (by omega)).mp ev'
    subst ev2
    obtain ⟨-, l1, l2, -⟩ := hV v hv'
    refine m_goStep hv hs hs2 es l1 l2 ?_
    refine bgo (fun M1 e4 => ?_) (fun M1 e4 => ?_)
    · have e4 : stp 9 spM (mw M 9 4 (nI 0)) v (s - 2) = (true, M1) := e4
      rw [e4] at h
      refine ⟨fun e => absurd e (by decide), fun _ => ?_⟩
      refine m_marks hv ?_
      exact ⟨rfl, h⟩
    · have e4 : stp 9 spM (mw M 9 4 (nI 0)) v (s - 2) = (false, M1) := e4
      rw [e4] at h
      exact ⟨fun _ => m_fail ⟨rfl, h⟩, fun e => absurd rfl e⟩
theorem m_run_loop {v s : Nat} (hv : v < 6) (hs : s < 4) (hs2 : 2 ≤ s) (hst : ∀ M M1, M 13 (2 + v) = nI s → lo8 (M 13 (8 + v)) → lo8 (M 13 (14 + v)) → stp 9 spM M v (s - 2) = (true, M1) → M1 13 (2 + v) = nI 0 ∨ (M1 13 (2 + v) = nI s ∧ lo8 (M1 13 (8 + v)) ∧ lo8 (M1 13 (14 + v)) ∧ 1 ≤ cnt (marks (M1 13) v) ∧ cnt (marks (M1 13) v) < cnt (marks (M 13) v))) :
    ∀ (n c : Nat) (x : Int32) (M : kMem), c + n = 8 → x = nI c → (M 13 (2 + v) = nI 0 ∨ (M 13 (2 + v) = nI s ∧ lo8 (M 13 (8 + v)) ∧ lo8 (M 13 (14 + v)) ∧ 1 ≤ n ∧ cnt (marks (M 13) v) ≤ n)) → P ((fun q : (Bool × Nat) × kMem => mri (q.1.1, q.2) (nI q.1.2)) (rnn 9 spM v (s - 2) n c M)) →
    kJ (d + 5) km_run P 16 [(0, .ref 9), (1, .int (nI v)), (2, .int x)] [] M := by
  intro n
  induction n with
  | zero =>
    intro c x M hc hx hz h
    subst hx
    have e : M 13 (2 + v) = nI 0 := hz.elim id (fun z => absurd z.2.2.2.1 (by omega))
    refine kJ_H [16] 20 ?_
    refine m_stateOf hv ?_
    exact ⟨fun _ => ⟨rfl, h⟩, fun e2 => absurd e e2⟩
  | succ n ih =>
    intro c x M hc hx hz h
    subst hx
    unfold rnn at h
    refine kJ_H [16] 20 ?_
    refine m_stateOf hv ?_
    refine ⟨fun e => ?_, fun e => ?_⟩
    · have e : M 13 (2 + v) = nI 0 := e
      rw [if_pos e] at h
      exact ⟨rfl, h⟩
    · have e : ¬ M 13 (2 + v) = nI 0 := e
      rw [if_neg e] at h
      obtain ⟨es, l1, l2, hn1, hn2⟩ := hz.elim (fun z => absurd z e) id
      refine m_goStep hv hs hs2 es l1 l2 ?_
      refine bgo (fun M1 e4 => ?_) (fun M1 e4 => ?_)
      · rw [e4] at h
        refine ⟨fun _ => ?_, fun e => absurd e (by decide)⟩
        refine ih (c + 1) _ M1 (by omega) (nI_1 c) ?_ h
        rcases hst M M1 es l1 l2 e4 with z | ⟨z1, z2, z3, z4, z5⟩
        · exact Or.inl z
        · exact Or.inr ⟨z1, z2, z3, by omega, by omega⟩
      · rw [e4] at h
        exact ⟨fun e => absurd rfl e, fun _ => m_fail ⟨rfl, h⟩⟩
theorem m_run {x : Int32} (hw : wf (M 13)) (h1 : ¬ M 9 0 = 0 → P (rI (nI 0) (mw M 9 4 (nI 1)))) (h2 : M 9 0 = 0 → isV (M 13) x = false → P (rI (nI 0) (mw M 9 4 (nI 2))))
    (h3 : ∀ v s, M 9 0 = 0 → isV (M 13) x = true → v < 6 → x = nI v → s < 2 → M 13 (2 + v) = nI s → P (rI (nI 0) (mw M 9 4 (nI 3))))
    (hst : ∀ v s, v < 6 → s < 4 → 2 ≤ s → ∀ M M1, M 13 (2 + v) = nI s → lo8 (M 13 (8 + v)) → lo8 (M 13 (14 + v)) → stp 9 spM M v (s - 2) = (true, M1) → M1 13 (2 + v) = nI 0 ∨ (M1 13 (2 + v) = nI s ∧ lo8 (M1 13 (8 + v)) ∧ lo8 (M1 13 (14 + v)) ∧ 1 ≤ cnt (marks (M1 13) v) ∧ cnt (marks (M1 13) v) < cnt (marks (M 13) v)))
    (h4 : ∀ v s, M 9 0 = 0 → isV (M 13) x = true → v < 6 → x = nI v → s < 4 → 2 ≤ s → M 13 (2 + v) = nI s → P ((fun q : (Bool × Nat) × kMem => mri (q.1.1, q.2) (nI q.1.2)) (rnn 9 spM v (s - 2) 8 0 (mw M 9 4 (nI 0))))) : kC (d + 5) km_run [.ref 9, .int x] M P := by
  have hw' := hw
  obtain ⟨n, hn, hm, hV, -⟩ := hw'
  refine kC_L [16] 40 (by decide) (Nat.le_of_ble_eq_true rfl) ?_
  refine m_askStep hw (fun e => ?_) (fun e e2 => ?_) (fun v s e ev hv ex hs es => ?_) (fun v s e ev hv ex hs hs2 es => ?_)
  · exact ⟨fun e3 => absurd e3 (show ¬ nI 1 ≤ 0 by decide), fun _ => ⟨rfl, h1 e⟩⟩
  · exact ⟨fun e3 => absurd e3 (show ¬ nI 2 ≤ 0 by decide), fun _ => ⟨rfl, h2 e e2⟩⟩
  · exact ⟨fun e3 => absurd e3 (show ¬ nI 3 ≤ 0 by decide), fun _ => ⟨rfl, h3 v s e ev hv ex hs es⟩⟩
  · refine ⟨fun _ => ?_, fun e3 => absurd (show nI 0 ≤ 0 by decide) e3⟩
    have h := h4 v s e ev hv ex hs hs2 es
    subst ex
    obtain ⟨v', hv', ev'⟩ := isV_t hn hm ev
    have ev2 : v = v' := (nI_eq (by omega) (by omega)).mp ev'
    subst ev2
    obtain ⟨-, l1, l2, -⟩ := hV v hv'
    have l3 : cnt (marks (M 13) v) ≤ 8 := by
      obtain ⟨a, ha, ea⟩ := lo8_or l1 l2
      unfold marks
      rw [ea]
      exact (cnt_fact a ha).2.1
    exact m_run_loop hv hs hs2 (hst v s hv hs hs2) 8 0 _ _ rfl rfl (Or.inr ⟨es, l1, l2, by decide, l3⟩) h
theorem m_rejoin {x t : Int32} (hw : wf (M 13)) (h1 : ¬ M 9 0 = 0 → P (rV (mw M 9 4 (nI 1)))) (h2 : M 9 0 = 0 → (isV (M 13) x && inR t 2) = false → P (rV (mw M 9 4 (nI 2))))
    (h3 : ∀ v u, M 9 0 = 0 → isV (M 13) x = true → v < 6 → x = nI v → u < 2 → t = nI u → ¬ M 13 (2 + v) = nI 1 → P (rV (mw M 9 4 (nI 3))))
    (h4 : ∀ v u, M 9 0 = 0 → isV (M 13) x = true → v < 6 → x = nI v → u < 2 → t = nI u → M 13 (2 + v) = nI 1 → P (mrv (nx 9 spM (mw (mw M 9 4 (nI 0)) 13 (2 + v) (nI (2 + u)))))) : kC (d + 3) km_rejoin [.ref 9, .int x, .int t] M P := by
  obtain ⟨n, hn, hm, -, -⟩ := hw
  refine kC_of 60 (by decide) (Nat.le_of_ble_eq_true rfl) ?_
  refine ⟨fun e => ?_, fun e => ?_⟩
  · refine m_isVolume ?_
    refine ⟨fun e2 => ?_, fun e2 => ?_⟩
    · refine ⟨rfl, rfl, fun _ => h2 e (by rw [kb_0.mp e2]; rfl), fun e3 => absurd e3 (show ¬ nI 2 = 0 by decide)⟩
    · have e2 := kb_pos e2
      obtain ⟨v, hv, rfl⟩ := isV_t hn hm e2
      have hb : inR t 2 = false → P (rV (mw M 9 4 (nI 2))) := fun z => h2 e (by rw [z, Bool.and_false])
      refine ⟨fun e3 => ⟨rfl, rfl, fun _ => hb (decide_eq_false (fun z => z.1 e3)), fun e3 => absurd e3 (show ¬ nI 2 = 0 by decide)⟩, fun e3 => ⟨fun e4 => ?_, fun e4 => ⟨rfl, rfl, fun _ => hb ?_, fun e3 => absurd e3 (show ¬ nI 2 = 0 by decide)⟩⟩⟩
      · have e5 : inR t 2 = true := by
          rcases pk_ix t (n := 2) (by decide) with z | z | ⟨j, hj, rfl⟩
          · exact absurd z e3
          · exact absurd (Int32.le_trans z e4) (by decide)
          · exact inR_nI hj (by decide)
        obtain ⟨u, hu, rfl⟩ := inR_t (by decide) e5
        refine m_stateOf (by omega) ?_
        refine ⟨fun e6 => ?_, fun e6 => ?_⟩
        · have h := h4 v u e e2 (by omega) rfl hu rfl e6
          refine ⟨rfl, rfl, fun e7 => absurd rfl e7, fun _ => ?_⟩
          refine ⟨2 + v, nI_add 2 v, by omega, ?_⟩
          refine kwN_eq (M' := mw (mw M 9 4 (nI 0)) 13 (2 + v) (nI (2 + u))) ?_ ?_
          · show mw (mw M 9 4 (nI 0)) 13 (2 + v) (nI 2 + nI u) = _
            rw [nI_add]
          refine m_next ?_
          refine bgo (fun M1 e4 => ?_) (fun M1 e4 => ?_)
          · rw [e4] at h
            exact ⟨fun e => absurd e (by decide), fun _ => ⟨rfl, rfl, h⟩⟩
          · rw [e4] at h
            exact ⟨fun _ => ⟨rfl, rfl, h⟩, fun e => absurd rfl e⟩
        · exact ⟨rfl, rfl, fun _ => h3 v u e e2 (by omega) rfl hu rfl e6, fun e7 => absurd e7 (show ¬ nI 3 = 0 by decide)⟩
      · cases hx : inR t 2
        · rfl
        · obtain ⟨u, hu, rfl⟩ := inR_t (by decide) hx
          exact absurd (nI_le (a := u) (b := 1) (by omega) (by decide)) e4
  · exact ⟨rfl, rfl, fun _ => h1 e, fun e3 => absurd e3 (show ¬ nI 1 = 0 by decide)⟩
end MD
end
section
/-! the reference's methods: split, the plain answers, the start -/
section ME
variable {d : Nat} {M : kMem} {P : kRes → Prop}
theorem m_split_st {N : Nat} (hN : N ≤ 6) {z : Int32} : ∀ (n c v : Nat) (x y : Int32) (h : Nat → Int32), v + n = N → c ≤ v → x = nI c → y = nI v → h 1 = nI N → P ((fun q : Nat × (Nat → Int32) => if q.1 = 0 then rI (nI 0) (va_up M 13 q.2) else mri (nx 9 spM (va_up M 13 q.2)) (nI q.1)) (spMn N n c h)) →
    kJ (d + 3) km_split P 97 [(0, .ref 9), (1, .int x), (2, .int z), (3, .int y)] [] (va_up M 13 h) := by
  intro n
  induction n with
  | zero =>
    intro c v x y h hv hc hx hy h1 hp
    have hv : v = N := by omega
    subst hv; subst hx; subst hy
    have hp : P (if c = 0 then rI (nI 0) (va_up M 13 h) else mri (nx 9 spM (va_up M 13 h)) (nI c)) := hp
    refine kJ_H [97] 20 ?_
    refine ⟨1, rfl, by decide, ?_⟩
    rw [va_up_self, h1]
    refine ⟨fun _ => ?_, fun e => absurd (nI_le (Nat.le_refl _) (by omega)) e⟩
    refine ⟨fun e => ?_, fun e => ?_⟩
    · have e : nI c = nI 0 := e
      have hc0 : c = 0 := (nI_eq (by omega) (by decide)).mp e
      rw [if_pos hc0] at hp
      subst hc0
      exact ⟨rfl, hp⟩
    · have hc0 : ¬ c = 0 := fun z => e (by rw [z]; rfl)
      rw [if_neg hc0] at hp
      refine m_next ?_
      refine bgo (fun M1 e4 => ?_) (fun M1 e4 => ?_)
      · rw [e4] at hp
        exact ⟨fun e => absurd e (by decide), fun _ => ⟨rfl, hp⟩⟩
      · rw [e4] at hp
        exact ⟨fun _ => m_fail ⟨rfl, hp⟩, fun e => absurd rfl e⟩
  | succ n ih =>
    intro c v x y h hv hc hx hy h1 hp
    subst hx; subst hy
    have hv2 : v = N - (n + 1) := by omega
    unfold spMn at hp
    rw [← hv2] at hp
    refine kJ_H [97] 60 ?_
    refine ⟨1, rfl, by decide, ?_⟩
    rw [va_up_self, h1]
    refine ⟨fun e => absurd e (nI_ge (by omega) (by omega)), fun _ => ?_⟩
    refine m_stateOf (by omega) ?_
    refine ⟨fun e => ?_, fun e => ?_⟩
    · have e : ¬ h (2 + v) = nI 0 := e
      rw [if_neg e] at hp
      exact ih c (v + 1) _ _ h (by omega) (by omega) rfl (nI_1 v) h1 hp
    · have e : h (2 + v) = nI 0 := e
      rw [if_pos e] at hp
      refine ⟨2 + v, nI_add 2 v, by omega, 8 + v, nI_add 8 v, by omega, 14 + v, nI_add 14 v, by omega, ?_⟩
      refine kJ_eq (M' := va_up M 13 (upd (upd (upd h (2 + v) (nI 1)) (8 + v) (nI 0)) (14 + v) (nI 0))) ?_ ?_
      · show mw (mw (mw (va_up M 13 h) 13 (2 + v) (nI 1)) 13 (8 + v) (nI 0)) 13 (14 + v) (nI 0) = _
        rw [mw_up, mw_up, mw_up]
      · exact ih (c + 1) (v + 1) _ _ _ (by omega) (by omega) (nI_1 c) (nI_1 v) (by rw [pk_un (by omega), pk_un (by omega), pk_un (by omega)]; exact h1) hp
theorem m_split_win {N : Nat} (hN : N ≤ 6) (h1 : M 13 1 = nI N) (hw : ∀ i, i < 4 → ¬ M 13 (20 + i) = -1 → ∃ p, p < 48 ∧ M 13 (20 + i) = nI p) (hp : P ((fun q : Nat × (Nat → Int32) => if q.1 = 0 then rI (nI 0) (va_up M 13 q.2) else mri (nx 9 spM (va_up M 13 q.2)) (nI q.1)) (spMn N N 0 (wkp (M 13) (kpM (M 13)))))) :
    ∀ (n i : Nat) (x y : Int32), i + n = 4 → x = nI (wkn (M 13) (kpM (M 13)) i).length → y = nI i →
    kJ (d + 3) km_split P 31 [(0, .ref 9), (1, .int (nI 0)), (2, .int x), (3, .int y)] [] (va_up M 13 (wnd (M 13) (wkn (M 13) (kpM (M 13)) i) i)) := by
  intro n
  induction n with
  | zero =>
    intro i x y hi hx hy
    have hi : i = 4 := by omega
    subst hi; subst hy
    refine kJ_H [31, 97] 10 ?_
    refine ⟨fun _ => ?_, fun e => absurd (by decide) e⟩
    refine m_split_st hN N 0 0 _ _ _ (by omega) (Nat.le_refl _) rfl rfl ?_ hp
    show wnd _ _ 4 1 = _
    unfold wnd
    rw [if_neg (by omega)]
    exact h1
  | succ n ih =>
    intro i x y hi hx hy
    subst hy
    have hl := wkn_len (M 13) (kpM (M 13)) i
    generalize hL : wkn (M 13) (kpM (M 13)) i = L at hx hl ⊢
    have hs : wkn (M 13) (kpM (M 13)) (i + 1) = if M 13 (20 + i) = -1 then L else if kpM (M 13) (M 13 (20 + i)) = true then L ++ [M 13 (20 + i)] else L := by
      rw [← hL]
      rfl
    have hg : va_up M 13 (wnd (M 13) L i) 13 (20 + i) = M 13 (20 + i) := by rw [va_up_self, wnd_at]
    have h1 : mw (va_up M 13 (wnd (M 13) L i)) 13 (20 + i) (-1) = va_up M 13 (wnd (M 13) L (i + 1)) := by rw [mw_up, wnd_go _ _ _ hl]
    refine kJ_H [31, 97] 60 ?_
    refine ⟨fun e => absurd e (nI_ge (by omega) (by decide)), fun _ => ?_⟩
    refine ⟨20 + i, nI_add 20 i, by omega, ?_⟩
    rw [hg]
    refine ⟨20 + i, nI_add 20 i, by omega, kwL_eq h1 ?_⟩
    refine ⟨fun e => ?_, fun e => ⟨by decide, ?_⟩⟩
    · have e : M 13 (20 + i) = -1 := e
      rw [if_pos e] at hs
      refine kJ_drop 4 (kJ_eq (M' := va_up M 13 (wnd (M 13) (wkn (M 13) (kpM (M 13)) (i + 1)) (i + 1))) (by rw [hs]) ?_)
      exact ih (i + 1) _ _ (by omega) (by rw [hs]; exact hx) (nI_1 i)
    · have e : ¬ M 13 (20 + i) = -1 := e
      rw [if_neg e] at hs
      obtain ⟨p, hp8, ep⟩ := hw i (by omega) e
      have hd8 : nI p / nI 8 = nI (p / 8) := pk_div (by omega) (by decide) (by decide)
      have hc : (nI p).toNatClampNeg = p := nI_clamp (by omega)
      show kC (d + 2) km_stateOf [.ref 9, .int (M 13 (20 + i) / nI 8)] (va_up M 13 (wnd (M 13) L (i + 1))) _
      have e7 : M 13 (20 + i) / nI 8 = nI (p / 8) := by rw [ep, hd8]
      rw [e7]
      refine m_stateOf (by omega) ?_
      have e8 : va_up M 13 (wnd (M 13) L (i + 1)) 13 (2 + p / 8) = M 13 (2 + p / 8) := by
        rw [va_up_self]
        unfold wnd
        rw [if_neg (by omega)]
      have e9 : kpM (M 13) (M 13 (20 + i)) = decide (¬ M 13 (2 + p / 8) = nI 0) := by
        unfold kpM
        rw [ep, hc]
      rw [e8]
      refine ⟨fun e2 => ?_, fun e2 => ?_⟩
      · have e2 : M 13 (2 + p / 8) = nI 0 := e2
        rw [if_neg (by rw [e9, decide_eq_false (fun z => z e2)]; decide)] at hs
        refine kJ_drop 4 (kJ_eq (M' := va_up M 13 (wnd (M 13) (wkn (M 13) (kpM (M 13)) (i + 1)) (i + 1))) (by rw [hs]) ?_)
        exact ih (i + 1) _ _ (by omega) (by rw [hs]; exact hx) (nI_1 i)
      · have e2 : ¬ M 13 (2 + p / 8) = nI 0 := e2
        rw [if_pos (by rw [e9, decide_eq_true e2])] at hs
        refine ⟨20 + L.length, ?_, by omega, ?_⟩
        · rw [hx]
          exact nI_add 20 _
        refine kJ_drop 4 (kJ_eq (M' := va_up M 13 (wnd (M 13) (wkn (M 13) (kpM (M 13)) (i + 1)) (i + 1))) (by rw [hs, ← wnd_keep _ _ _ hl, ← mw_up]) ?_)
        refine ih (i + 1) _ _ (by omega) ?_ (nI_1 i)
        rw [hs, hx, List.length_append]
        exact nI_1 _
theorem m_split {n : Nat} (hn : n ≤ 6) (hm : M 13 1 = nI n) (hw : ∀ i, i < 4 → ¬ M 13 (20 + i) = -1 → ∃ p, p < 48 ∧ M 13 (20 + i) = nI p) (h1 : ¬ M 9 0 = 0 → P (rI (nI 0) (mw M 9 4 (nI 1)))) (h2 : M 9 0 = 0 → P ((fun q : Nat × (Nat → Int32) => if q.1 = 0 then rI (nI 0) (va_up (mw M 9 4 (nI 0)) 13 q.2) else mri (nx 9 spM (va_up (mw M 9 4 (nI 0)) 13 q.2)) (nI q.1)) (spMn n n 0 (wkp (M 13) (kpM (M 13)))))) : kC (d + 3) km_split [.ref 9] M P := by
  refine kC_L [31] 30 (by decide) (Nat.le_of_ble_eq_true rfl) ?_
  refine ⟨fun e => ?_, fun e => ?_⟩
  · have e : M 9 0 = 0 := e
    refine ⟨rfl, rfl, fun _ => ?_, fun e2 => absurd e e2⟩
    have h0 := m_split_win (M := mw M 9 4 (nI 0)) (d := d) (P := P) hn hm hw (h2 e) 4 0 (nI 0) (nI 0) rfl rfl rfl
    rw [show wkn (mw M 9 4 (nI 0) 13) (kpM (mw M 9 4 (nI 0) 13)) 0 = [] from rfl, wnd_0, up_id] at h0
    exact h0
  · have e : ¬ M 9 0 = 0 := e
    exact ⟨rfl, rfl, fun e2 => absurd e2 e, fun _ => ⟨rfl, h1 e⟩⟩
theorem m_thrown (h : P (rI (M 9 4) M)) : kC d km_thrown [.ref 9] M P := by
  refine kC_of 10 (by decide) (Nat.le_of_ble_eq_true rfl) ?_
  exact ⟨rfl, h⟩
theorem m_state {x : Int32} (hw : wf (M 13)) (h1 : ¬ M 9 0 = 0 ∨ isV (M 13) x = false → P (rI (-1) (mw M 9 4 (nI 0)))) (h2 : ∀ v, M 9 0 = 0 → isV (M 13) x = true → v < 6 → x = nI v → P (rI (M 13 (2 + v)) (mw M 9 4 (nI 0)))) : kC (d + 1) km_state [.ref 9, .int x] M P := by
  obtain ⟨n, hn, hm, -⟩ := hw
  refine kC_of 40 (by decide) (Nat.le_of_ble_eq_true rfl) ?_
  refine ⟨rfl, rfl, fun e => ⟨rfl, h1 (Or.inl e)⟩, fun e => ?_⟩
  refine m_isVolume ?_
  refine ⟨fun e2 => ⟨rfl, h1 (Or.inr (kb_0.mp e2))⟩, fun e2 => ?_⟩
  have e2 : isV (M 13) x = true := kb_pos e2
  obtain ⟨v, hv, rfl⟩ := isV_t hn hm e2
  refine m_stateOf (by omega) ?_
  exact ⟨rfl, h2 v e e2 (by omega) rfl⟩
theorem m_marked {x t : Int32} (hw : wf (M 13)) (h1 : ¬ M 9 0 = 0 ∨ isV (M 13) x = false ∨ inR t 2 = false → P (rI (-1) (mw M 9 4 (nI 0)))) (h2 : ∀ v u, M 9 0 = 0 → isV (M 13) x = true → v < 6 → x = nI v → u < 2 → t = nI u → P (rI (M 13 (8 + u * 6 + v)) (mw M 9 4 (nI 0)))) : kC (d + 1) km_marked [.ref 9, .int x, .int t] M P := by
  obtain ⟨n, hn, hm, -⟩ := hw
  refine kC_of 40 (by decide) (Nat.le_of_ble_eq_true rfl) ?_
  refine ⟨rfl, rfl, fun e => ⟨rfl, h1 (Or.inl e)⟩, fun e => ?_⟩
  refine m_isVolume ?_
  refine ⟨fun e2 => ⟨rfl, h1 (Or.inr (Or.inl (kb_0.mp e2)))⟩, fun e2 => ?_⟩
  have e2 : isV (M 13) x = true := kb_pos e2
  obtain ⟨v, hv, rfl⟩ := isV_t hn hm e2
  refine ⟨fun e3 => ?_, fun e3 => ⟨fun e4 => ?_, fun e4 => ?_⟩⟩
  · have e3 : t = nI 0 := e3
    subst e3
    exact m_map (t := 0) (by omega) (by decide) ⟨rfl, h2 v 0 e e2 (by omega) rfl (by decide) rfl⟩
  · exact ⟨rfl, h1 (Or.inr (Or.inr (by rw [inR_2]; exact decide_eq_false (fun z => z.elim e3 e4))))⟩
  · have e4 : t = nI 1 := e4
    subst e4
    exact m_map (t := 1) (by omega) (by decide) ⟨rfl, h2 v 1 e e2 (by omega) rfl (by decide) rfl⟩
theorem m_windowed {x : Int32} (h1 : ¬ M 9 0 = 0 ∨ inR x 4 = false → P (rI (-1) (mw M 9 4 (nI 0)))) (h2 : ∀ i, M 9 0 = 0 → i < 4 → x = nI i → P (rI (M 13 (20 + i)) (mw M 9 4 (nI 0)))) : kC d km_windowed [.ref 9, .int x] M P := by
  refine kC_of 40 (by decide) (Nat.le_of_ble_eq_true rfl) ?_
  refine ⟨rfl, rfl, fun e => ⟨rfl, h1 (Or.inl e)⟩, fun e => ⟨fun e2 => ⟨rfl, h1 (Or.inr (decide_eq_false (fun z => z.1 e2)))⟩, fun e2 => ⟨fun e3 => ⟨rfl, h1 (Or.inr (decide_eq_false (fun z => z.2 e3)))⟩, fun e3 => ?_⟩⟩⟩
  obtain ⟨i, hi, rfl⟩ := inR_t (x := x) (n := 4) (by decide) (decide_eq_true ⟨e2, e3⟩)
  exact ⟨20 + i, nI_add 20 i, by omega, rfl, h2 i e hi rfl⟩
theorem m_volumes (h1 : ¬ M 9 0 = 0 → P (rI (-1) (mw M 9 4 (nI 0)))) (h2 : M 9 0 = 0 → P (rI (M 13 1) (mw M 9 4 (nI 0)))) : kC d km_volumes [.ref 9] M P := by
  refine kC_of 40 (by decide) (Nat.le_of_ble_eq_true rfl) ?_
  refine ⟨rfl, rfl, fun e => ⟨1, rfl, by decide, rfl, h2 e⟩, fun e => ⟨rfl, h1 e⟩⟩
theorem m_copied (h : P (rI (M 9 3) (mw M 9 4 (nI 0)))) : kC d km_copied [.ref 9] M P := by
  refine kC_of 10 (by decide) (Nat.le_of_ble_eq_true rfl) ?_
  exact ⟨rfl, rfl, rfl, h⟩
theorem m_writes (h : P (rI (M 9 2) (mw M 9 4 (nI 0)))) : kC d km_writes [.ref 9] M P := by
  refine kC_of 10 (by decide) (Nat.le_of_ble_eq_true rfl) ?_
  exact ⟨rfl, rfl, rfl, h⟩
theorem m_power (h1 : M 9 0 = 0 → P (rI (nI 1) (mw M 9 4 (nI 0)))) (h2 : ¬ M 9 0 = 0 → P (rI (nI 0) (mw M 9 4 (nI 0)))) : kC d km_power [.ref 9] M P := by
  refine kC_of 10 (by decide) (Nat.le_of_ble_eq_true rfl) ?_
  exact ⟨rfl, rfl, fun e => ⟨rfl, h1 e⟩, fun e => ⟨rfl, h2 e⟩⟩
theorem m_cutAfter {x : Int32} (h1 : (x < -1 ∨ nI 1000000 < x) → P (rV (mw (mw M 9 4 (nI 1)) 9 1 (M 9 1)))) (h2 : ¬ x < -1 → ¬ nI 1000000 < x → P (rV (mw (mw M 9 4 (nI 0)) 9 1 x))) : kC d km_cutAfter [.ref 9, .int x] M P := by
  refine kC_of 40 (by decide) (Nat.le_of_ble_eq_true rfl) ?_
  refine ⟨fun e => ⟨rfl, rfl, fun e3 => absurd e3 (show ¬ nI 1 ≤ 0 by decide), fun _ => ⟨rfl, rfl, h1 (Or.inl e)⟩⟩, fun e => ⟨fun e2 => ?_, fun e2 => ?_⟩⟩
  · exact ⟨rfl, rfl, fun _ => ⟨rfl, rfl, h2 e (Int32.not_lt.mpr e2)⟩, fun e3 => absurd (show nI 0 ≤ 0 by decide) e3⟩
  · exact ⟨rfl, rfl, fun e3 => absurd e3 (show ¬ nI 1 ≤ 0 by decide), fun _ => ⟨rfl, rfl, h1 (Or.inr (Int32.not_le.mp e2))⟩⟩
theorem inR2_gt {t : Int32} (h1 : ¬ t < 0) (h2 : ¬ nI 1 < t) : inR t 2 = true := by
  rcases pk_ix t (n := 2) (by decide) with z | z | ⟨j, hj, rfl⟩
  · exact absurd z h1
  · exact absurd (Int32.lt_of_lt_of_le (show nI 1 < nI 2 by decide) z) h2
  · exact inR_nI hj (by decide)
theorem inR2_f {t : Int32} (h2 : nI 1 < t) : inR t 2 = false := by
  cases hx : inR t 2
  · rfl
  · obtain ⟨u, hu, rfl⟩ := inR_t (by decide) hx
    exact absurd h2 (Int32.not_lt.mpr (nI_le (by omega) (by decide)))
theorem inRf1 {x : Int32} {n : Nat} (h : x < 0) : inR x n = false := decide_eq_false (fun z => z.1 h)
theorem inRf2 {x : Int32} {n : Nat} (h : nI n ≤ x) : inR x n = false := decide_eq_false (fun z => z.2 h)
theorem m_raw {x t k w : Int32} (h1 : (inR x 6 && inR t 2 && inR k 64 && inR w 4) = false → P (rI (nI 0) (mw M 9 4 (nI 1)))) (h2 : ∀ v u j i, v < 6 → x = nI v → u < 2 → t = nI u → j < 64 → k = nI j → i < 4 → w = nI i → P (rI (M 10 (pl u v j + i)) (mw M 9 4 (nI 0)))) : kC (d + 1) km_raw [.ref 9, .int x, .int t, .int k, .int w] M P := by
  have bad : (inR x 6 && inR t 2 && inR k 64 && inR w 4) = false → ∀ {n : Nat}, kwN (d + 1) km_raw P (n + 20) 41 (lv_args 0 [.ref 9, .int x, .int t, .int k, .int w]) [.ref 9] M := by
    intro e n
    exact ⟨rfl, rfl, fun e3 => absurd e3 (show ¬ nI 1 ≤ 0 by decide), fun _ => ⟨rfl, h1 e⟩⟩
  refine kC_of 60 (by decide) (Nat.le_of_ble_eq_true rfl) ?_
  refine ⟨fun e => bad (by rw [inRf1 e]; rfl), fun e1 => ⟨fun e => bad (by rw [inRf2 (n := 6) e]; rfl), fun e2 => ?_⟩⟩
  refine ⟨fun e => bad (by rw [inRf1 (n := 2) e, Bool.and_false]; rfl), fun e3 => ⟨fun e => bad (by rw [inR2_f e, Bool.and_false]; rfl), fun e4 => ?_⟩⟩
  refine ⟨fun e => bad (by rw [inRf1 (n := 64) e, Bool.and_false]; rfl), fun e5 => ⟨fun e => bad (by rw [inRf2 (n := 64) e, Bool.and_false]; rfl), fun e6 => ?_⟩⟩
  refine ⟨fun e => bad (by rw [inRf1 (n := 4) e, Bool.and_false]), fun e7 => ⟨fun e8 => ?_, fun e => bad (by rw [inRf2 (n := 4) (Int32.not_lt.mp e), Bool.and_false])⟩⟩
  obtain ⟨v, hv, rfl⟩ := inR_t (x := x) (n := 6) (by decide) (decide_eq_true ⟨e1, e2⟩)
  obtain ⟨u, hu, rfl⟩ := inR_t (by decide) (inR2_gt e3 e4)
  obtain ⟨j, hj, rfl⟩ := inR_t (x := k) (n := 64) (by decide) (decide_eq_true ⟨e5, e6⟩)
  obtain ⟨i, hi, rfl⟩ := inR_t (x := w) (n := 4) (by decide) (decide_eq_true ⟨e7, fun z => Int32.not_le.mpr e8 z⟩)
  have hp := pl_lt hu hv hj
  refine ⟨rfl, rfl, fun _ => ?_, fun e3 => absurd (show nI 0 ≤ 0 by decide) e3⟩
  refine m_place ?_
  exact ⟨pl u v j + i, nI_add _ _, by omega, rfl, h2 v u j i hv rfl hu rfl hj rfl hi rfl⟩
end ME
end
section
/-! the reference's methods: head, differing, the start -/
def hdv (g : Nat → Int32) (i : Nat) : Int32 := if 2 ≤ i ∧ i < 20 ∧ g 1 ≤ nI ((i - 2) % 6) then -1 else g i
section MF
variable {d : Nat} {M : kMem} {P : kRes → Prop}
theorem m_head_fin {u i : Nat} {f : Bool} (hi : i < 24) (hf : f = decide (2 ≤ i ∧ i < 20)) {g : Nat → Int32} {y4 y5 : Int32} (h4 : y4 = g 1) (h5 : y5 = g i) (h : P (rI (hdv g i) M)) : kJ d km_head P 96 [(0, .ref 9), (1, .int (nI u)), (2, .int (nI i)), (3, .int (kb f)), (4, .int y4), (5, .int y5)] [] M := by
  subst h4; subst h5
  refine kw_ok 15 _ _ _ _ ?_
  refine ⟨fun e => ?_, fun e => ?_⟩
  · have e := hf.symm.trans (kb_0.mp e)
    have e9 : hdv g i = g i := if_neg (fun z => of_decide_eq_false e ⟨z.1, z.2.1⟩)
    rw [e9] at h
    exact ⟨rfl, h⟩
  · have e := of_decide_eq_true (hf.symm.trans (kb_pos e))
    have e8 : nI i - nI 2 = nI (i - 2) := pk_sub e.1
    have e7 : nI (i - 2) - nI (i - 2) / nI 6 * nI 6 = nI ((i - 2) % 6) := pk_rem (by omega) (by decide) (by decide)
    refine ⟨by decide, fun e2 => ?_, fun e2 => ?_⟩
    · have e2 : (nI i - nI 2) - (nI i - nI 2) / nI 6 * nI 6 < g 1 := e2
      rw [e8, e7] at e2
      have e9 : hdv g i = g i := if_neg (fun z => Int32.not_le.mpr e2 z.2.2)
      rw [e9] at h
      exact ⟨rfl, h⟩
    · have e2 : ¬ (nI i - nI 2) - (nI i - nI 2) / nI 6 * nI 6 < g 1 := e2
      rw [e8, e7] at e2
      have e9 : hdv g i = -1 := if_pos ⟨e.1, e.2, Int32.not_lt.mp e2⟩
      rw [e9] at h
      exact ⟨rfl, h⟩
theorem m_head_tail {u i : Nat} {f : Bool} {y : Int32} (hu : u < 2) (hi : i < 24) (hy : y = kb f) (hf : f = decide (2 ≤ i ∧ i < 20)) (h2 : u = 0 → P (rI (hdv (M 11) i) M)) (h3 : u = 1 → P (rI (hdv (M 12) i) M)) : kJ d km_head P 54 [(0, .ref 9), (1, .int (nI u)), (2, .int (nI i)), (3, .int y)] [] M := by
  subst hy
  refine kJ_H [96] 40 ?_
  rcases (show u = 0 ∨ u = 1 by omega) with rfl | rfl
  · refine ⟨fun e => absurd rfl e, fun _ => ⟨1, rfl, by decide, ⟨fun e => absurd rfl e, fun _ => ⟨i, rfl, hi, ?_⟩⟩⟩⟩
    exact m_head_fin (g := M 11) hi hf rfl rfl (h2 rfl)
  · refine ⟨fun _ => ⟨1, rfl, by decide, ⟨fun _ => ⟨i, rfl, hi, ?_⟩, fun e => absurd e (by decide)⟩⟩, fun e => absurd e (by decide)⟩
    exact m_head_fin (g := M 12) hi hf rfl rfl (h3 rfl)
theorem m_head {t w : Int32} (h1 : (inR t 2 && inR w 24) = false → P (rI (nI 0) (mw M 9 4 (nI 1)))) (h2 : ∀ i, t = nI 0 → i < 24 → w = nI i → P (rI (hdv (M 11) i) (mw M 9 4 (nI 0)))) (h3 : ∀ i, t = nI 1 → i < 24 → w = nI i → P (rI (hdv (M 12) i) (mw M 9 4 (nI 0)))) : kC d km_head [.ref 9, .int t, .int w] M P := by
  have bad : (inR t 2 && inR w 24) = false → kJ d km_head P 20 (lv_args 0 [.ref 9, .int t, .int w]) [.ref 9] M := by
    intro e
    refine kJ_H [54] 20 ?_
    exact ⟨rfl, rfl, fun e3 => absurd e3 (show ¬ nI 1 ≤ 0 by decide), fun _ => ⟨rfl, h1 e⟩⟩
  refine kC_L [20, 54] 40 (by decide) (Nat.le_of_ble_eq_true rfl) ?_
  refine ⟨fun e => bad (by rw [inRf1 e]; rfl), fun e3 => ⟨fun e => bad (by rw [inR2_f e]; rfl), fun e4 => ?_⟩⟩
  refine ⟨fun e => bad (by rw [inRf1 (n := 24) e, Bool.and_false]), fun e5 => ⟨fun e6 => ?_, fun e => bad (by rw [inRf2 (n := 24) (Int32.not_lt.mp e), Bool.and_false])⟩⟩
  obtain ⟨u, hu, rfl⟩ := inR_t (by decide) (inR2_gt e3 e4)
  obtain ⟨i, hi, rfl⟩ := inR_t (x := w) (n := 24) (by decide) (decide_eq_true ⟨e5, fun z => Int32.not_le.mpr e6 z⟩)
  refine ⟨rfl, rfl, fun _ => ?_, fun e3 => absurd (show nI 0 ≤ 0 by decide) e3⟩
  have k2 : u = 0 → P (rI (hdv (M 11) i) (mw M 9 4 (nI 0))) := fun z => h2 i (by rw [z]) hi rfl
  have k3 : u = 1 → P (rI (hdv (M 12) i) (mw M 9 4 (nI 0))) := fun z => h3 i (by rw [z]) hi rfl
  refine ⟨fun e => ?_, fun e => ⟨fun e2 => ?_, fun e2 => ?_⟩⟩
  · have e2 : i < 2 := (nI_ltI (by omega) (by decide)).mp e
    exact m_head_tail (M := mw M 9 4 (nI 0)) (f := false) hu hi rfl (by symm; exact decide_eq_false (by omega)) k2 k3
  · have e2 : 20 ≤ i := (nI_leI (by decide) (by omega)).mp e2
    exact m_head_tail (M := mw M 9 4 (nI 0)) (f := false) hu hi rfl (by symm; exact decide_eq_false (by omega)) k2 k3
  · have e1 : ¬ i < 2 := fun z => e ((nI_ltI (by omega) (by decide)).mpr z)
    have e2 : ¬ 20 ≤ i := fun z => e2 ((nI_leI (by decide) (by omega)).mpr z)
    exact m_head_tail (M := mw M 9 4 (nI 0)) (f := true) hu hi rfl (by symm; exact decide_eq_true (by omega)) k2 k3
theorem m_diff_loop {v : Nat} (hv : v < 6) (h0 : M 9 4 = nI 0) : ∀ (n i c : Nat) (x y : Int32), i + n = 64 → x = nI c → y = nI i → P (rI (nI (dfn (M 10) v n c)) M) → kJ (d + 2) km_differing P 23 [(0, .ref 9), (1, .int (nI v)), (2, .int x), (3, .int y)] [] M := by
  intro n
  induction n with
  | zero =>
    intro i c x y hi hx hy h
    have hi : i = 64 := by omega
    subst hi; subst hx; subst hy
    refine kJ_H [23] 20 ?_
    exact ⟨fun _ => ⟨rfl, h⟩, fun e => absurd (by decide) e⟩
  | succ n ih =>
    intro i c x y hi hx hy h
    subst hx; subst hy
    have hi2 : i = 63 - n := by omega
    unfold dfn at h
    rw [← hi2] at h
    refine kJ_H [23] 30 ?_
    refine ⟨fun e => absurd e (nI_ge (by omega) (by decide)), fun _ => ⟨fun e => absurd h0 e, fun _ => ?_⟩⟩
    refine m_isSame hv (by omega) ?_
    refine ⟨fun e => ?_, fun e => ?_⟩
    · rw [if_neg (by rw [kb_0.mp e]; decide)] at h
      exact ih (i + 1) (c + 1) _ _ (by omega) (nI_1 c) (nI_1 i) h
    · rw [if_pos (kb_pos e)] at h
      exact ih (i + 1) c _ _ (by omega) rfl (nI_1 i) h
theorem m_differing {x : Int32} (h1 : inR x 6 = false → P (rI (nI 0) (mw M 9 4 (nI 1)))) (h2 : ∀ v, v < 6 → x = nI v → P (rI (nI (dfn (M 10) v 64 0)) (mw M 9 4 (nI 0)))) : kC (d + 2) km_differing [.ref 9, .int x] M P := by
  have bad : inR x 6 = false → kJ (d + 2) km_differing P 23 [(0, .ref 9), (1, .int x), (2, .int (nI 0)), (3, .int (nI 0))] [] (mw M 9 4 (nI 1)) := by
    intro e
    refine kJ_H [23] 30 ?_
    exact ⟨fun e => absurd e (by decide), fun _ => ⟨fun _ => ⟨rfl, h1 e⟩, fun e => absurd e (show ¬ nI 1 = 0 by decide)⟩⟩
  refine kC_L [23] 40 (by decide) (Nat.le_of_ble_eq_true rfl) ?_
  refine ⟨fun e => ⟨rfl, rfl, bad (inRf1 e)⟩, fun e => ⟨fun e2 => ⟨rfl, rfl, ?_⟩, fun e2 => ⟨rfl, rfl, bad (inRf2 (n := 6) (Int32.not_lt.mp e2))⟩⟩⟩
  obtain ⟨v, hv, rfl⟩ := inR_t (x := x) (n := 6) (by decide) (decide_eq_true ⟨e, fun z => Int32.not_le.mpr e2 z⟩)
  exact m_diff_loop (M := mw M 9 4 (nI 0)) hv rfl 64 0 0 _ _ rfl rfl rfl (h2 v hv rfl)
theorem wf_w0 {L : Nat → Int32} (hw : wf L) {i : Nat} (hi : i < 4) (h : ¬ L (20 + i) = -1) : ¬ L 20 = -1 := by
  obtain ⟨n, hn, hm, hv, c, hc, g1, g2⟩ := hw
  rcases Nat.lt_or_ge i c with z | z
  · obtain ⟨p, hp, e⟩ := g1 0 (by omega)
    have e : L 20 = nI p := e
    rw [e]
    have e9 : ∀ j, j < 48 → ¬ nI j = -1 := by decide +kernel
    exact e9 p (by omega)
  · exact absurd (g2 i z hi) h
def mnF (L : Nat → Int32) (q : Bool × kMem) : Bool × kMem := match q with
  | (true, M1) => if L 20 = -1 then (true, va_up M1 13 (wnd (M1 13) [] 4)) else nx 9 spM (va_up M1 13 (wnd (M1 13) [] 4))
  | (false, M1) => (false, M1)
theorem m_mend_loop {L : Nat → Int32} (hw : wf L) {b : Nat} {z2 : Int32} : ∀ (n i : Nat) (x y : Int32) (M : kMem), i + n = 4 → x = nI (20 + i) → y = kb (decide (0 < i ∧ ¬ L 20 = -1)) → M 13 = L → P (kbr (mnF L (mwn 9 spM n M))) →
    kJ (d + 3) km_goOn P 88 [(0, .ref 9), (1, .ref b), (2, .int z2), (3, .int y), (4, .int x)] [] M := by
  intro n
  induction n with
  | zero =>
    intro i x y M hi hx hy hM h
    have hi : i = 4 := by omega
    subst hi; subst hx; subst hy
    have h : P (kbr (if L 20 = -1 then (true, va_up M 13 (wnd (M 13) [] 4)) else nx 9 spM (va_up M 13 (wnd (M 13) [] 4)))) := h
    have e9 : va_up M 13 (wnd (M 13) [] 4) = mw (mw (mw (mw M 13 20 (-1)) 13 21 (-1)) 13 22 (-1)) 13 23 (-1) := by
      rw [← wnd_nil, ← mw_up, ← mw_up, ← mw_up]
      rfl
    rw [e9] at h
    refine kJ_H [88] 80 ?_
    refine ⟨fun _ => ?_, fun e => absurd (by decide) e⟩
    refine ⟨fun e => absurd e (by decide), fun _ => ⟨20, rfl, by decide, ?_⟩⟩
    refine ⟨fun e => absurd e (by decide), fun _ => ⟨21, rfl, by decide, ?_⟩⟩
    refine ⟨fun e => absurd e (by decide), fun _ => ⟨22, rfl, by decide, ?_⟩⟩
    refine ⟨fun e => absurd e (by decide), fun _ => ⟨23, rfl, by decide, ?_⟩⟩
    refine ⟨fun _ => ?_, fun e => absurd (by decide) e⟩
    refine ⟨fun e => ?_, fun e => ?_⟩
    · have e := of_decide_eq_false (kb_0.mp e)
      have e2 : L 20 = -1 := Classical.byContradiction (fun z => e ⟨by decide, z⟩)
      rw [if_pos e2] at h
      exact ⟨rfl, h⟩
    · have e := of_decide_eq_true (kb_pos e)
      rw [if_neg e.2] at h
      refine m_next ?_
      refine bgo (fun M1 e4 => ?_) (fun M1 e4 => ?_)
      · have e4 : nx 9 spM (mw (mw (mw (mw M 13 20 (-1)) 13 21 (-1)) 13 22 (-1)) 13 23 (-1)) = (true, M1) := e4
        rw [e4] at h
        exact ⟨fun e => absurd e (by decide), fun _ => ⟨rfl, h⟩⟩
      · have e4 : nx 9 spM (mw (mw (mw (mw M 13 20 (-1)) 13 21 (-1)) 13 22 (-1)) 13 23 (-1)) = (false, M1) := e4
        rw [e4] at h
        exact ⟨fun _ => ⟨rfl, h⟩, fun e => absurd rfl e⟩
  | succ n ih =>
    intro i x y M hi hx hy hM h
    subst hx; subst hy
    have hi2 : i = 3 - n := by omega
    unfold mwn at h
    rw [← hi2] at h
    refine kJ_H [88] 60 ?_
    refine ⟨fun e => absurd e (nI_ge (by omega) (by decide)), fun _ => ⟨20 + i, rfl, by omega, ?_⟩⟩
    refine ⟨fun e => ?_, fun e => ?_⟩
    · have e : ¬ M 13 (20 + i) = -1 := e
      rw [if_neg e] at h
      have e0 : ¬ L 20 = -1 := wf_w0 hw (i := i) (by omega) (by rw [← hM]; exact e)
      have ey : kb (decide (0 < i + 1 ∧ ¬ L 20 = -1)) = nI 1 := by rw [decide_eq_true ⟨by omega, e0⟩]; rfl
      obtain ⟨p, s, hp, ep, hs, es⟩ := wf_place hw (i := i) (by omega) (by rw [← hM]; exact e)
      have ho : s = 0 → opn L (p / 8) (p % 8) = false := by
        intro z
        obtain ⟨m, hm6, hm, hV, c, hc, g1, g2⟩ := hw
        have hic : i < c := by
          rcases Nat.lt_or_ge i c with z | z
          · exact z
          · exact absurd (g2 i z (by omega)) (by rw [← hM]; exact e)
        obtain ⟨p', hp', ep'⟩ := g1 i hic
        have e5 : p = p' := (nI_eq (by omega) (by omega)).mp (ep.symm.trans ep')
        subst e5
        exact wf_opn0 (n := m) (by omega) hV (by rw [es, z]) _
      rw [← hM] at ep es ho
      have hc : (nI p).toNatClampNeg = p := nI_clamp (by omega)
      have hcs : (nI s).toNatClampNeg = s := nI_clamp (by omega)
      have h : P (kbr (mnF L (match mnr 9 spM M ((M 13 (20 + i)).toNatClampNeg / 8) ((M 13 (20 + i)).toNatClampNeg % 8) ((M 13 (2 + (M 13 (20 + i)).toNatClampNeg / 8)).toNatClampNeg - 2) with | (true, M1) => mwn 9 spM n M1 | (false, M1) => (false, M1)))) := h
      rw [ep, hc, es, hcs] at h
      have hd8 : nI p / nI 8 = nI (p / 8) := pk_div (by omega) (by decide) (by decide)
      have hr8 : nI p - nI p / nI 8 * nI 8 = nI (p % 8) := pk_rem (by omega) (by decide) (by decide)
      have hk := mnr_hand 9 spM spM_keep M (p / 8) (p % 8) (s - 2)
      have hv6 : p / 8 < 6 := by omega
      have hr : p % 8 < 8 := by omega
      have go : ∀ (M1 : kMem) (l5 : List (Nat × Value)) (x : Int32), x = nI (20 + (i + 1)) → M1 13 = M 13 → P (kbr (mnF L (mwn 9 spM n M1))) → kJ (d + 3) km_goOn P 88 [(0, .ref 9), (1, .ref b), (2, .int z2), (3, .int (nI 1)), (4, .int x)] [] M1 := by
        intro M1 l5 x hx hm h
        exact ih (i + 1) x _ M1 (by omega) hx ey.symm (by rw [hm]; exact hM) h
      refine ⟨by decide, by decide, ?_⟩
      show kC (d + 2) km_stateOf [.ref 9, .int (M 13 (20 + i) / nI 8)] M _
      have q8 : M 13 (20 + i) / nI 8 = nI (p / 8) := by rw [ep, hd8]
      have r8 : M 13 (20 + i) - M 13 (20 + i) / nI 8 * nI 8 = nI (p % 8) := by rw [ep, hr8]
      rw [q8]
      refine m_stateOf hv6 ?_
      have cpr : ∀ {n9 : Nat} {x5 x6 x7 : Int32}, x6 = nI (p / 8) → x7 = nI (p % 8) → s ≠ 1 → opn (M 13) (p / 8) (p % 8) = false →
          kwL (d + 3) km_goOn P [88] (n9 + 20) 159 [(0, .ref 9), (1, .ref b), (2, .int z2), (3, .int (nI 1)), (4, .int (nI (20 + i))), (5, .int x5), (6, .int x6), (7, .int x7)] [] M := by
        intro n9 x5 x6 x7 h6 h7 hs1 e3
        subst h6; subst h7
        unfold mnr at h
        rw [if_neg (by rw [show (9 + 4 : Nat) = 13 from rfl, es]; exact fun z => hs1 ((nI_eq (by omega) (by decide)).mp z)), if_neg (by rw [show (9 + 4 : Nat) = 13 from rfl, e3]; decide)] at h
        refine ⟨fun e => absurd e (by decide), fun _ => ?_⟩
        refine m_sideOf hv6 hs es ?_
        have e : sidI s (nI 0) = nI (s - 2) := if_neg hs1
        show kC (d + 2) km_copyRegion [.ref 9, .int (nI (p / 8)), .int (nI (p % 8)), .int (sidI s (nI 0))] M _
        rw [e]
        refine m_copyRegion hv6 hr (by omega) ?_
        have hk2 := crn_hand 9 spM spM_keep (p / 8) (p % 8) (s - 2) 8 M
        refine bgo (fun M1 e4 => ?_) (fun M1 e4 => ?_)
        · rw [show crn 9 spM (p / 8) (p % 8) (s - 2) 8 M = (true, M1) from e4] at hk2
          rw [e4] at h
          refine ⟨fun _ => ?_, fun e => absurd e (by decide)⟩
          refine kJ_drop 5 (kJ_drop 6 (kJ_drop 7 (kJ_drop 8 ?_)))
          exact go M1 [] _ (nI_1 _) hk2 h
        · rw [e4] at h
          exact ⟨fun e => absurd rfl e, fun _ => ⟨rfl, h⟩⟩
      have skip : ∀ {n9 : Nat} {x5 x6 x7 : Int32}, mnr 9 spM M (p / 8) (p % 8) (s - 2) = (true, M) →
          kwL (d + 3) km_goOn P [88] (n9 + 10) 163 [(0, .ref 9), (1, .ref b), (2, .int z2), (3, .int (nI 1)), (4, .int (nI (20 + i))), (5, .int x5), (6, .int x6), (7, .int x7)] [] M := by
        intro n9 x5 x6 x7 e3
        rw [e3] at h
        refine ⟨fun _ => ?_, fun e => absurd rfl e⟩
        refine kJ_drop 5 (kJ_drop 6 (kJ_drop 7 (kJ_drop 8 ?_)))
        exact go M [] _ (nI_1 _) rfl h
      refine ⟨fun e2 => ?_, fun e2 => ?_⟩
      · have e2 : M 13 (2 + p / 8) = nI 0 := e2
        have s0 : s = 0 := (nI_eq (by omega) (by decide)).mp (es.symm.trans e2)
        exact cpr q8 r8 (by omega) (ho s0)
      · have e2 : ¬ M 13 (2 + p / 8) = nI 0 := e2
        show kC (d + 2) km_stateOf [.ref 9, .int (M 13 (20 + i) / nI 8)] M _
        rw [q8]
        refine m_stateOf hv6 ?_
        refine ⟨fun e3 => ?_, fun e3 => ?_⟩
        · have e3 : M 13 (2 + p / 8) < nI 2 := e3
          rw [es] at e3 e2
          have s1 : s = 1 := by
            have : s < 2 := (nI_ltI (by omega) (by decide)).mp e3
            have : s ≠ 0 := fun z => e2 (by rw [z])
            omega
          refine skip ?_
          unfold mnr
          rw [if_pos (by rw [show (9 + 4 : Nat) = 13 from rfl, es, s1])]
        · have e3 : ¬ M 13 (2 + p / 8) < nI 2 := e3
          rw [es] at e3
          have s2 : ¬ s < 2 := fun z => e3 ((nI_ltI (by omega) (by decide)).mpr z)
          show kC (d + 2) km_isOpen [.ref 9, .int (M 13 (20 + i) / nI 8), .int (M 13 (20 + i) - M 13 (20 + i) / nI 8 * nI 8)] M _
          rw [r8, q8]
          refine m_isOpen hv6 hr ?_
          refine ⟨fun e4 => ?_, fun e4 => ?_⟩
          · have e4 : opn (M 13) (p / 8) (p % 8) = true := kb_pos e4
            refine skip ?_
            unfold mnr
            rw [if_neg (by rw [show (9 + 4 : Nat) = 13 from rfl, es]; exact fun z => s2 (by have := (nI_eq (by omega) (by decide)).mp z; omega)), if_pos e4]
          · exact cpr q8 r8 (by omega) (kb_0.mp e4)
    · have e : M 13 (20 + i) = -1 := e
      rw [if_pos e] at h
      refine kJ_drop 5 ?_
      refine ih (i + 1) _ _ M (by omega) (nI_1 _) ?_ hM h
      congr 1
      by_cases h0 : i = 0
      · subst h0
        have e : M 13 20 = -1 := e
        rw [hM] at e
        simp [e]
      · simp [Nat.pos_of_ne_zero h0]
end MF
end
section
/-! the reference's methods: the start -/
section MG
variable {d : Nat} {M : kMem} {P : kRes → Prop}
theorem mnd_F (hw : wf (M 13)) : mnF (M 13) (mwn 9 spM 4 M) = mnd 9 spM M := by
  by_cases e : M 13 20 = -1
  · have a : ∀ i, i < 4 → M 13 (20 + i) = -1 := fun i hi => Classical.byContradiction (fun z => wf_w0 hw hi z e)
    have a0 : M 13 20 = -1 := a 0 (by decide)
    have a1 : M 13 21 = -1 := a 1 (by decide)
    have a2 : M 13 22 = -1 := a 2 (by decide)
    have a3 : M 13 23 = -1 := a 3 (by decide)
    have e1 : mwn 9 spM 4 M = (true, M) := by simp [mwn, a0, a1, a2, a3]
    have e2 : wnd (M 13) [] 4 = M 13 := by
      funext k
      unfold wnd
      by_cases hk : 20 ≤ k ∧ k < 20 + 4
      · rw [if_pos hk]
        have := a (k - 20) (by omega)
        rw [show 20 + (k - 20) = k by omega] at this
        rw [this]
        rfl
      · rw [if_neg hk]
    rw [e1]
    show (if M 13 20 = -1 then (true, va_up M 13 (wnd (M 13) [] 4)) else _) = (if M 13 20 = -1 then (true, M) else _)
    rw [if_pos e, if_pos e, e2, up_id]
  · show _ = (if M 13 20 = -1 then (true, M) else _)
    rw [if_neg e]
    rcases hx : mwn 9 spM 4 M with ⟨ok, M1⟩
    cases ok
    · rfl
    · show (if M 13 20 = -1 then _ else nx 9 spM (va_up M1 13 (wnd (M1 13) [] 4))) = _
      rw [if_neg e]
theorem m_goOn (hw : ∀ M1, tnh 9 spM M = (true, M1) → wf (M1 13)) (h : P (kbr (srt 9 spM M))) : kC (d + 3) km_goOn [.ref 9] M P := by
  have fin : ∀ {b : Nat} {z2 : Int32} (M1 : kMem), tnh 9 spM M = (true, M1) → kJ (d + 3) km_goOn P 88 [(0, .ref 9), (1, .ref b), (2, .int z2), (3, .int (nI 0)), (4, .int (nI 20))] [] M1 := by
    intro b z2 M1 e
    unfold srt at h
    rw [e] at h
    have h : P (kbr (mnd 9 spM M1)) := h
    rw [← mnd_F (hw M1 e)] at h
    exact m_mend_loop (L := M1 13) (hw M1 e) 4 0 _ _ M1 rfl rfl (by rw [decide_eq_false (fun z => absurd z.1 (by decide))]; rfl) rfl h
  have bad : ∀ M1, tnh 9 spM M = (false, M1) → P (kbr (false, M1)) := by
    intro M1 e
    unfold srt at h
    rw [e] at h
    exact h
  unfold tnh at fin bad
  refine kC_L [88] 80 (by decide) (Nat.le_of_ble_eq_true rfl) ?_
  refine ⟨0, rfl, by decide, 0, rfl, by decide, fun e => ?_, fun e => ?_⟩
  · have e : M 12 0 ≤ M 11 0 := e
    refine ⟨0, rfl, by decide, 0, rfl, by decide, fun e2 => ?_, fun e2 => ?_⟩
    · have e2 : ¬ M 11 0 = M 12 0 := e2
      have e9 : tnh 9 spM M = wh 9 spM (va_up M 13 (va_cpy (M 11) (M 13) 0 0 24)) 1 := by
        unfold tnh
        rw [if_pos e, if_neg e2]
      refine m_copy rfl rfl (by decide) ?_
      refine ⟨fun e => absurd rfl e, fun _ => ?_⟩
      refine m_writeHeader (t := 1) (by decide) ?_
      refine bgo (fun M1 e4 => ?_) (fun M1 e4 => ?_)
      · exact ⟨fun _ => fin M1 (e9.trans e4), fun e => absurd e (by decide)⟩
      · exact ⟨fun e => absurd rfl e, fun _ => ⟨rfl, bad M1 (e9.trans e4)⟩⟩
    · have e2 : M 11 0 = M 12 0 := e2
      have e9 : tnh 9 spM M = (true, va_up M 13 (va_cpy (M 11) (M 13) 0 0 24)) := by
        unfold tnh
        rw [if_pos e, if_pos e2]
      refine m_copy rfl rfl (by decide) ?_
      exact ⟨fun _ => fin _ e9, fun e => absurd e (by decide)⟩
  · have e : ¬ M 12 0 ≤ M 11 0 := e
    refine ⟨0, rfl, by decide, 0, rfl, by decide, fun e2 => ?_, fun e2 => ?_⟩
    · have e9 : tnh 9 spM M = wh 9 spM (va_up M 13 (va_cpy (M 12) (M 13) 0 0 24)) 0 := by
        unfold tnh
        rw [if_neg e]
      refine m_copy rfl rfl (by decide) ?_
      refine ⟨fun e => absurd rfl e, fun _ => ?_⟩
      refine m_writeHeader (t := 0) (by decide) ?_
      refine bgo (fun M1 e4 => ?_) (fun M1 e4 => ?_)
      · exact ⟨fun _ => fin M1 (e9.trans e4), fun e => absurd e (by decide)⟩
      · exact ⟨fun e => absurd rfl e, fun _ => ⟨rfl, bad M1 (e9.trans e4)⟩⟩
    · have e2 : M 11 0 = M 12 0 := e2
      exact absurd (by rw [e2]; exact Int32.le_refl _) e
theorem m_start (hw : ∀ M1, tnh 9 spM (mw (mw (mw M 9 4 (nI 0)) 9 0 (nI 0)) 9 3 (nI 0)) = (true, M1) → wf (M1 13)) (h : P ((fun q : Bool × kMem => mri q (q.2 13 1)) (srt 9 spM (mw (mw (mw M 9 4 (nI 0)) 9 0 (nI 0)) 9 3 (nI 0))))) : kC (d + 4) km_start [.ref 9] M P := by
  refine kC_of 40 (by decide) (Nat.le_of_ble_eq_true rfl) ?_
  refine ⟨rfl, rfl, rfl, rfl, rfl, rfl, ?_⟩
  refine m_goOn (M := mw (mw (mw M 9 4 (nI 0)) 9 0 (nI 0)) 9 3 (nI 0)) hw ?_
  refine bgo (fun M1 e4 => ?_) (fun M1 e4 => ?_)
  · rw [e4] at h
    exact ⟨fun e => absurd e (by decide), fun _ => ⟨1, rfl, by decide, rfl, h⟩⟩
  · rw [e4] at h
    exact ⟨fun _ => m_fail ⟨rfl, h⟩, fun e => absurd rfl e⟩
end MG
end
section
/-! the relation between the system's header and the reference's -/
def kab (n k : Nat) : Prop := 2 ≤ k ∧ k < 20 ∧ n ≤ (k - 2) % 6
def HRn (n : Nat) (h g : Nat → Int32) : Prop := ∀ k, k < 24 → (kab n k → h k = -1 ∧ (8 ≤ k → g k = nI 0)) ∧ (¬ kab n k → h k = g k)
def wn (n : Nat) (h : Nat → Int32) : Prop := n ≤ 6 ∧ h 1 = nI n ∧ (∀ v, v < n → wfV h v) ∧ wfW h n
def HR (h g : Nat → Int32) : Prop := ∃ n, HRn n h g ∧ wn n h
theorem HR.wfh {h g : Nat → Int32} (r : HR h g) : wf h := r.imp (fun _ z => z.2)
section HRS
variable {n : Nat} {h g : Nat → Int32}
theorem HRn.at (r : HRn n h g) {k : Nat} (hk : k < 24) (ha : ¬ kab n k) : h k = g k := (r k hk).2 ha
theorem HRn.st (r : HRn n h g) (hn : n ≤ 6) {v : Nat} (hv : v < n) : h (2 + v) = g (2 + v) := r.at (by omega) (by unfold kab; omega)
theorem HRn.m0 (r : HRn n h g) (hn : n ≤ 6) {v : Nat} (hv : v < n) : h (8 + v) = g (8 + v) := r.at (by omega) (by unfold kab; omega)
theorem HRn.m1 (r : HRn n h g) (hn : n ≤ 6) {v : Nat} (hv : v < n) : h (14 + v) = g (14 + v) := r.at (by omega) (by unfold kab; omega)
theorem HRn.mt (r : HRn n h g) (hn : n ≤ 6) {v t : Nat} (hv : v < n) (ht : t < 2) : h (8 + t * 6 + v) = g (8 + t * 6 + v) := r.at (by omega) (by unfold kab; omega)
theorem HRn.wi (r : HRn n h g) {i : Nat} (hi : i < 4) : h (20 + i) = g (20 + i) := r.at (by omega) (by unfold kab; omega)
theorem HRn.nr (r : HRn n h g) : h 0 = g 0 := r.at (by omega) (by unfold kab; omega)
theorem HRn.ct (r : HRn n h g) : h 1 = g 1 := r.at (by omega) (by unfold kab; omega)
theorem HRn.cong {h' g' : Nat → Int32} (r : HRn n h g) (e1 : ∀ k, k < 24 → h' k = h k) (e2 : ∀ k, k < 24 → g' k = g k) : HRn n h' g' := by
  intro k hk
  rw [e1 k hk, e2 k hk]
  exact r k hk
theorem wfV.cong {h' : Nat → Int32} {v : Nat} (w : wfV h v) (e1 : h' (2 + v) = h (2 + v)) (e2 : h' (8 + v) = h (8 + v)) (e3 : h' (14 + v) = h (14 + v)) : wfV h' v := by
  unfold wfV
  rw [e1, e2, e3]
  exact w
theorem wfW.cong {h' : Nat → Int32} (w : wfW h n) (e : ∀ i, i < 4 → h' (20 + i) = h (20 + i)) : wfW h' n := by
  obtain ⟨c, hc, g1, g2⟩ := w
  refine ⟨c, hc, fun i hi => ?_, fun i hi hi4 => ?_⟩
  · rw [e i (by omega)]
    exact g1 i hi
  · rw [e i hi4]
    exact g2 i hi hi4
theorem wn.cong {h' : Nat → Int32} (w : wn n h) (e : ∀ k, k < 24 → h' k = h k) : wn n h' := by
  obtain ⟨hn, h1, hV, hW⟩ := w
  exact ⟨hn, (e 1 (by omega)).trans h1, fun v hv => (hV v hv).cong (e _ (by omega)) (e _ (by omega)) (e _ (by omega)), hW.cong (fun i hi => e _ (by omega))⟩
theorem HR.cong {h' g' : Nat → Int32} (r : HR h g) (e1 : ∀ k, k < 24 → h' k = h k) (e2 : ∀ k, k < 24 → g' k = g k) : HR h' g' := r.imp (fun _ z => ⟨z.1.cong e1 e2, z.2.cong e1⟩)
theorem wn.other (r : HRn n h g) (w : wn n h) : wn n g := by
  obtain ⟨hn, h1, hV, hW⟩ := w
  exact ⟨hn, r.ct.symm.trans h1, fun v hv => (hV v hv).cong (r.st hn hv).symm (r.m0 hn hv).symm (r.m1 hn hv).symm, hW.cong (fun i hi => (r.wi hi).symm)⟩
theorem HR.wfg (r : HR h g) : wf g := r.imp (fun _ z => wn.other z.1 z.2)
theorem HRn.up (r : HRn n h g) {j : Nat} {x : Int32} (hj : ¬ kab n j) : HRn n (upd h j x) (upd g j x) := by
  intro k hk
  by_cases e : k = j
  · subst e
    rw [pk_us, pk_us]
    exact ⟨fun z => absurd z hj, fun _ => rfl⟩
  · rw [pk_un e, pk_un e]
    exact r k hk
theorem wn.nr (w : wn n h) (x : Int32) : wn n (upd h 0 x) := by
  obtain ⟨hn, h1, hV, hW⟩ := w
  exact ⟨hn, (pk_un (by omega)).trans h1, fun v hv => (hV v hv).cong (pk_un (by omega)) (pk_un (by omega)) (pk_un (by omega)), hW.cong (fun i hi => pk_un (by omega))⟩
theorem wn.st (w : wn n h) {v s : Nat} (hv : v < n) (hs : s < 4) (h0 : s = 0 → h (8 + v) = nI 0 ∧ h (14 + v) = nI 0) : wn n (upd h (2 + v) (nI s)) := by
  obtain ⟨hn, h1, hV, hW⟩ := w
  refine ⟨hn, (pk_un (by omega)).trans h1, fun u hu => ?_, hW.cong (fun i hi => pk_un (by omega))⟩
  by_cases e : u = v
  · subst e
    obtain ⟨-, a, b, -⟩ := hV u hu
    refine ⟨⟨s, hs, pk_us⟩, by rw [pk_un (by omega)]; exact a, by rw [pk_un (by omega)]; exact b, fun z => ?_⟩
    rw [pk_us] at z
    rw [pk_un (by omega), pk_un (by omega)]
    exact h0 ((nI_eq (by omega) (by decide)).mp z)
  · exact (hV u hu).cong (pk_un (by omega)) (pk_un (by omega)) (pk_un (by omega))
theorem wn.mp (w : wn n h) {v t : Nat} {x : Int32} (hv : v < n) (ht : t < 2) (hx : lo8 x) (h0 : h (2 + v) = nI 0 → x = nI 0) : wn n (upd h (8 + t * 6 + v) x) := by
  obtain ⟨hn, h1, hV, hW⟩ := w
  refine ⟨hn, (pk_un (by omega)).trans h1, fun u hu => ?_, hW.cong (fun i hi => pk_un (by omega))⟩
  by_cases e : u = v
  · subst e
    obtain ⟨a, b, c, f⟩ := hV u hu
    rcases (show t = 0 ∨ t = 1 by omega) with rfl | rfl
    · have e1 : 8 + 0 * 6 + u = 8 + u := by omega
      rw [e1]
      refine ⟨by rw [pk_un (by omega)]; exact a, by rw [pk_us]; exact hx, by rw [pk_un (by omega)]; exact c, fun z => ?_⟩
      rw [pk_un (by omega)] at z
      rw [pk_us, pk_un (by omega)]
      exact ⟨h0 z, (f z).2⟩
    · have e1 : 8 + 1 * 6 + u = 14 + u := by omega
      rw [e1]
      refine ⟨by rw [pk_un (by omega)]; exact a, by rw [pk_un (by omega)]; exact b, by rw [pk_us]; exact hx, fun z => ?_⟩
      rw [pk_un (by omega)] at z
      rw [pk_un (by omega), pk_us]
      exact ⟨(f z).1, h0 z⟩
  · exact (hV u hu).cong (pk_un (by omega)) (pk_un (by omega)) (pk_un (by omega))
/-- only the window has changed -/
theorem wn.win {h' : Nat → Int32} (w : wn n h) (e : ∀ k, k < 20 → h' k = h k) (hW' : wfW h' n) : wn n h' := by
  obtain ⟨hn, h1, hV, hW⟩ := w
  exact ⟨hn, (e 1 (by omega)).trans h1, fun v hv => (hV v hv).cong (e _ (by omega)) (e _ (by omega)) (e _ (by omega)), hW'⟩
theorem HRn.win {h' g' : Nat → Int32} (r : HRn n h g) (e1 : ∀ k, k < 20 → h' k = h k) (e2 : ∀ k, k < 20 → g' k = g k) (e3 : ∀ i, i < 4 → h' (20 + i) = g' (20 + i)) : HRn n h' g' := by
  intro k hk
  rcases Nat.lt_or_ge k 20 with z | z
  · rw [e1 k z, e2 k z]
    exact r k hk
  · refine ⟨fun a => absurd a (by unfold kab; omega), fun _ => ?_⟩
    have := e3 (k - 20) (by omega)
    rw [show 20 + (k - 20) = k by omega] at this
    exact this
theorem HRn.sz (r : HRn n h g) : wsz h = wsz g := by
  have e0 : h 20 = g 20 := r.wi (i := 0) (by decide)
  have e1 : h 21 = g 21 := r.wi (i := 1) (by decide)
  have e2 : h 22 = g 22 := r.wi (i := 2) (by decide)
  have e3 : h 23 = g 23 := r.wi (i := 3) (by decide)
  simp [wsz, wsn, e0, e1, e2, e3]
theorem HRn.iw (r : HRn n h g) (x : Int32) : inw h x = inw g x := by
  have e0 : h 20 = g 20 := r.wi (i := 0) (by decide)
  have e1 : h 21 = g 21 := r.wi (i := 1) (by decide)
  have e2 : h 22 = g 22 := r.wi (i := 2) (by decide)
  have e3 : h 23 = g 23 := r.wi (i := 3) (by decide)
  simp [inw, e0, e1, e2, e3]
/-- a window without gaps: its size -/
theorem wfW.sz (w : wfW h n) (hn : n ≤ 6) : (∀ i, i < wsz h → ∃ p, p < 8 * n ∧ h (20 + i) = nI p) ∧ ∀ i, wsz h ≤ i → i < 4 → h (20 + i) = -1 := by
  obtain ⟨c, hc, g1, g2⟩ := w
  have e9 : ∀ j, j < 48 → ¬ nI j = -1 := by decide +kernel
  have g3 : ∀ i, i < c → ¬ h (20 + i) = -1 := fun i hi => by
    obtain ⟨p, hp, e⟩ := g1 i hi
    rw [e]
    exact e9 p (by omega)
  have e : wsz h = c := by
    have f0 : 0 < c → ¬ h 20 = -1 := g3 0
    have f1 : 1 < c → ¬ h 21 = -1 := g3 1
    have f2 : 2 < c → ¬ h 22 = -1 := g3 2
    have f3 : 3 < c → ¬ h 23 = -1 := g3 3
    have q0 : c ≤ 0 → h 20 = -1 := fun z => g2 0 z (by decide)
    have q1 : c ≤ 1 → h 21 = -1 := fun z => g2 1 z (by decide)
    have q2 : c ≤ 2 → h 22 = -1 := fun z => g2 2 z (by decide)
    have q3 : c ≤ 3 → h 23 = -1 := fun z => g2 3 z (by decide)
    unfold wsz
    show (if h 20 = -1 then 0 else if h 21 = -1 then 1 else if h 22 = -1 then 2 else if h 23 = -1 then 3 else 4) = c
    rcases (show c = 0 ∨ c = 1 ∨ c = 2 ∨ c = 3 ∨ c = 4 by omega) with rfl | rfl | rfl | rfl | rfl
    · rw [if_pos (q0 (by decide))]
    · rw [if_neg (f0 (by decide)), if_pos (q1 (by decide))]
    · rw [if_neg (f0 (by decide)), if_neg (f1 (by decide)), if_pos (q2 (by decide))]
    · rw [if_neg (f0 (by decide)), if_neg (f1 (by decide)), if_neg (f2 (by decide)), if_pos (q3 (by decide))]
    · rw [if_neg (f0 (by decide)), if_neg (f1 (by decide)), if_neg (f2 (by decide)), if_neg (f3 (by decide))]
  rw [e]
  exact ⟨g1, g2⟩
theorem ent_lo {x : Int32} {k : Nat} (hk : k < 20) : ent h x k = h k := by
  unfold ent
  split
  · rw [pk_un (by omega)]
    unfold va_cpy
    rw [if_neg (by omega)]
  · rw [pk_un (by omega)]
theorem ent_HR (r : HRn n h g) (w : wn n h) {p : Nat} (hp : p < 8 * n) : HRn n (ent h (nI p)) (ent g (nI p)) ∧ wn n (ent h (nI p)) := by
  have hl := wsz_le h
  obtain ⟨s1, s2⟩ := w.2.2.2.sz w.1
  refine ⟨r.win (fun k hk => ent_lo hk) (fun k hk => ent_lo hk) (fun i hi => ?_), w.win (fun k hk => ent_lo hk) ?_⟩
  · unfold ent
    rw [← r.sz]
    split
    · by_cases e : i = 3
      · subst e
        rw [pk_us, pk_us]
      · rw [pk_un (by omega), pk_un (by omega)]
        unfold va_cpy
        rw [if_pos (by omega), if_pos (by omega)]
        have := r.wi (i := i + 1) (by omega)
        rw [show 21 + (20 + i - 20) = 20 + (i + 1) by omega]
        exact this
    · by_cases e : 20 + i = 20 + wsz h
      · rw [e, pk_us, pk_us]
      · rw [pk_un e, pk_un e]
        exact r.wi hi
  · unfold ent
    by_cases e4 : wsz h = 4
    · rw [if_pos e4]
      refine ⟨4, by decide, fun i hi => ?_, fun i h1 h2 => absurd h2 (by omega)⟩
      by_cases e : i = 3
      · subst e
        exact ⟨p, hp, pk_us⟩
      · rw [pk_un (by omega)]
        unfold va_cpy
        rw [if_pos (by omega), show 21 + (20 + i - 20) = 20 + (i + 1) by omega]
        exact s1 (i + 1) (by omega)
    · rw [if_neg e4]
      refine ⟨wsz h + 1, by omega, fun i hi => ?_, fun i h1 h2 => ?_⟩
      · by_cases e : i = wsz h
        · subst e
          exact ⟨p, hp, pk_us⟩
        · rw [pk_un (by omega)]
          exact s1 i (by omega)
      · rw [pk_un (by omega)]
        exact s2 i (by omega) h2
theorem wnd_lo {l : List Int32} {k : Nat} (hk : k < 20) : wnd h l 4 k = h k := by
  unfold wnd
  rw [if_neg (by omega)]
theorem wnd_hi {l : List Int32} {i : Nat} (hi : i < 4) : wnd h l 4 (20 + i) = l.getD i (-1) := by
  unfold wnd
  rw [if_pos (by omega), show 20 + i - 20 = i by omega]
theorem wnd_HR (r : HRn n h g) (w : wn n h) : HRn n (wnd h [] 4) (wnd g [] 4) ∧ wn n (wnd h [] 4) := by
  refine ⟨r.win (fun k hk => wnd_lo hk) (fun k hk => wnd_lo hk) (fun i hi => ?_), w.win (fun k hk => wnd_lo hk) ⟨0, by decide, fun i hi => absurd hi (by omega), fun i _ hi => ?_⟩⟩
  · rw [wnd_hi hi, wnd_hi hi]
  · rw [wnd_hi hi]
    rfl
theorem add_HR (r : HRn n h g) (w : wn n h) (hn6 : n < 6) : HRn (n + 1) (upd (upd (upd (upd h 1 (nI n + nI 1)) (2 + n) (nI 0)) (8 + n) (nI 0)) (14 + n) (nI 0)) (upd (upd g 1 (nI n + nI 1)) (2 + n) (nI 0)) ∧ wn (n + 1) (upd (upd (upd (upd h 1 (nI n + nI 1)) (2 + n) (nI 0)) (8 + n) (nI 0)) (14 + n) (nI 0)) := by
  obtain ⟨hn, h1, hV, hW⟩ := w
  refine ⟨fun k hk => ?_, by omega, ?_, fun v hv => ?_, ?_⟩
  · by_cases k1 : k = 1
    · subst k1
      refine ⟨fun z => absurd z (by unfold kab; omega), fun _ => ?_⟩
      rw [pk_un (by omega), pk_un (by omega), pk_un (by omega), pk_us, pk_un (by omega), pk_us]
    by_cases k2 : k = 2 + n
    · subst k2
      refine ⟨fun z => absurd z (by unfold kab; omega), fun _ => ?_⟩
      rw [pk_un (by omega), pk_un (by omega), pk_us, pk_us]
    by_cases k3 : k = 8 + n
    · subst k3
      refine ⟨fun z => absurd z (by unfold kab; omega), fun _ => ?_⟩
      rw [pk_un (by omega), pk_us, pk_un (by omega), pk_un (by omega)]
      exact (((r (8 + n) hk).1 (by unfold kab; omega)).2 (by omega)).symm
    by_cases k4 : k = 14 + n
    · subst k4
      refine ⟨fun z => absurd z (by unfold kab; omega), fun _ => ?_⟩
      rw [pk_us, pk_un (by omega), pk_un (by omega)]
      exact (((r (14 + n) hk).1 (by unfold kab; omega)).2 (by omega)).symm
    rw [pk_un k4, pk_un k3, pk_un k2, pk_un k1, pk_un k2, pk_un k1]
    have e : kab (n + 1) k ↔ kab n k := by unfold kab; omega
    rw [e]
    exact r k hk
  · rw [pk_un (by omega), pk_un (by omega), pk_un (by omega), pk_us]
    exact nI_1 n
  · by_cases e : v = n
    · subst e
      refine ⟨⟨0, by decide, ?_⟩, ⟨0, by decide, ?_⟩, ⟨0, by decide, pk_us⟩, fun _ => ⟨?_, pk_us⟩⟩
      · rw [pk_un (by omega), pk_un (by omega), pk_us]
      · rw [pk_un (by omega), pk_us]
      · rw [pk_un (by omega), pk_us]
    · refine (hV v (by omega)).cong ?_ ?_ ?_
      · rw [pk_un (by omega), pk_un (by omega), pk_un (by omega), pk_un (by omega)]
      · rw [pk_un (by omega), pk_un (by omega), pk_un (by omega), pk_un (by omega)]
      · rw [pk_un (by omega), pk_un (by omega), pk_un (by omega), pk_un (by omega)]
  · obtain ⟨c, hc, g1, g2⟩ := hW
    refine ⟨c, hc, fun i hi => ?_, fun i hi hi4 => ?_⟩
    · rw [pk_un (by omega), pk_un (by omega), pk_un (by omega), pk_un (by omega)]
      obtain ⟨p, hp, e⟩ := g1 i hi
      exact ⟨p, by omega, e⟩
    · rw [pk_un (by omega), pk_un (by omega), pk_un (by omega), pk_un (by omega)]
      exact g2 i hi hi4
end HRS
theorem HR.vv {h g : Nat → Int32} (r : HR h g) (x : Int32) : isV h x = isV g x := by
  obtain ⟨n, r, -⟩ := r
  unfold isV
  rw [r.ct]
theorem wn.lt {n : Nat} {h : Nat → Int32} (w : wn n h) {v : Nat} (hv : v < 6) (e : isV h (nI v) = true) : v < n := by
  obtain ⟨v', hv', ev'⟩ := isV_t w.1 w.2.1 e
  have hn := w.1
  have ev2 : v = v' := (nI_eq (by omega) (by omega)).mp ev'
  omega
theorem HR.bb {h g : Nat → Int32} (r : HR h g) (x t k : Int32) : isB h x t k = isB g x t k := by
  unfold isB
  rw [← r.vv]
  cases e : isV h x
  · rfl
  · obtain ⟨n, r, w⟩ := r
    obtain ⟨v, hv, rfl⟩ := isV_t w.1 w.2.1 e
    have hn := w.1
    rw [nI_clamp (show v < 2 ^ 31 by omega), r.st w.1 hv]
end
section
/-! the relation R: the system's part of M, the reference's part of N; what both do keeps it -/
def R (M N : kMem) : Prop := ((M 0 0 = nI 1 ∧ N 9 0 = nI 0) ∨ (M 0 0 = nI 0 ∧ N 9 0 = nI 1)) ∧ M 0 1 = N 9 1 ∧ M 0 2 = N 9 2 ∧ M 0 3 = N 9 3 ∧ M 1 = N 10 ∧ M 5 = N 14 ∧ HR (M 2) (N 11) ∧ HR (M 3) (N 12) ∧ HR (M 4) (N 13)
def RO (M N : kMem) : Prop := R M N ∧ M 0 0 = nI 1
def RB (q q' : Bool × kMem) : Prop := q.1 = q'.1 ∧ R q.2 q'.2 ∧ (q.1 = true → q.2 0 0 = nI 1)
section RS
variable {M N : kMem}
theorem RO.off (r : RO M N) : N 9 0 = nI 0 := r.1.1.elim (fun z => z.2) (fun z => absurd (r.2.symm.trans z.1) (by decide))
theorem RB_f (r : R M N) : RB (false, M) (false, N) := ⟨rfl, r, fun z => Bool.noConfusion (show false = true from z)⟩
theorem RB_t (r : RO M N) : RB (true, M) (true, N) := ⟨rfl, r.1, fun _ => r.2⟩
theorem RB_cases {q q' : Bool × kMem} (h : RB q q') : (∃ M N, q = (true, M) ∧ q' = (true, N) ∧ RO M N) ∨ (∃ M N, q = (false, M) ∧ q' = (false, N) ∧ R M N) := by
  obtain ⟨b, M⟩ := q
  obtain ⟨b', N⟩ := q'
  obtain ⟨h1, h2, h3⟩ := h
  have h1 : b = b' := h1
  subst h1
  cases b
  · exact Or.inr ⟨M, N, rfl, rfl, h2⟩
  · exact Or.inl ⟨M, N, rfl, rfl, h2, h3 rfl⟩
theorem R_sp (r : RO M N) : RB (spC M) (spM N) := by
  have off := r.off
  obtain ⟨⟨p, a1, a2, a3, w, f, g1, g2, g3⟩, on⟩ := r
  unfold spC spM
  rw [if_neg (show ¬ ¬ N 9 0 = 0 from fun z => z off)]
  by_cases e : M 0 1 = 0
  · have e' : N 9 1 = 0 := a1 ▸ e
    rw [if_pos e, if_pos e']
    exact ⟨rfl, ⟨Or.inr ⟨rfl, rfl⟩, rfl, a2, a3, w, f, g1, g2, g3⟩, fun z => Bool.noConfusion (show false = true from z)⟩
  · have e' : ¬ N 9 1 = 0 := a1 ▸ e
    rw [if_neg e, if_neg e']
    have a2' : M 0 2 + nI 1 = N 9 2 + nI 1 := by rw [a2]
    by_cases e2 : M 0 1 ≤ 0
    · have e2' : N 9 1 ≤ 0 := a1 ▸ e2
      rw [if_pos e2, if_pos e2']
      exact ⟨rfl, ⟨Or.inl ⟨on, off⟩, a1, a2', a3, w, f, g1, g2, g3⟩, fun _ => on⟩
    · have e2' : ¬ N 9 1 ≤ 0 := a1 ▸ e2
      rw [if_neg e2, if_neg e2']
      have a1' : M 0 1 - nI 1 = N 9 1 - nI 1 := by rw [a1]
      exact ⟨rfl, ⟨Or.inl ⟨on, off⟩, a1', a2', a3, w, f, g1, g2, g3⟩, fun _ => on⟩
theorem R_hand {h g : Nat → Int32} (r : RO M N) (hg : HR h g) : RO (va_up M 4 h) (va_up N 13 g) := by
  obtain ⟨⟨p, a1, a2, a3, w, f, g1, g2, g3⟩, on⟩ := r
  exact ⟨⟨p, a1, a2, a3, w, f, g1, g2, hg⟩, on⟩
theorem R_hand' {h g : Nat → Int32} (r : R M N) (hg : HR h g) : R (va_up M 4 h) (va_up N 13 g) := by
  obtain ⟨p, a1, a2, a3, w, f, g1, g2, g3⟩ := r
  exact ⟨p, a1, a2, a3, w, f, g1, g2, hg⟩
theorem R_words {X Y : Nat → Int32} (r : RO M N) (hg : X = Y) : RO (va_up M 1 X) (va_up N 10 Y) := by
  obtain ⟨⟨p, a1, a2, a3, w, f, g1, g2, g3⟩, on⟩ := r
  exact ⟨⟨p, a1, a2, a3, hg, f, g1, g2, g3⟩, on⟩
theorem R_fresh {X Y : Nat → Int32} (r : RO M N) (hg : X = Y) : RO (va_up M 5 X) (va_up N 14 Y) := by
  obtain ⟨⟨p, a1, a2, a3, w, f, g1, g2, g3⟩, on⟩ := r
  exact ⟨⟨p, a1, a2, a3, w, hg, g1, g2, g3⟩, on⟩
theorem R.hh (r : R M N) : HR (M 4) (N 13) := r.2.2.2.2.2.2.2.2
theorem R.ww (r : R M N) : M 1 = N 10 := r.2.2.2.2.1
theorem R.ff (r : R M N) : M 5 = N 14 := r.2.2.2.2.2.1
theorem R_wh (r : RO M N) {t : Nat} (ht : t < 2) : RB (wh 0 spC M t) (wh 9 spM N t) := by
  have cp : ∀ (s f : Nat → Int32) (k : Nat), k < 24 → va_cpy s f 0 0 24 k = s k := fun s f k hk => by
    unfold va_cpy
    rw [if_pos (by omega), show 0 + (k - 0) = k by omega]
  unfold wh
  rcases RB_cases (R_sp r) with ⟨M1, N1, e1, e2, r1⟩ | ⟨M1, N1, e1, e2, r1⟩
  · rw [e1, e2]
    obtain ⟨⟨p, a1, a2, a3, w, f, g1, g2, g3⟩, on⟩ := r1
    have g9 := fun f1 f2 => g3.cong (h' := va_cpy (M1 4) f1 0 0 24) (g' := va_cpy (N1 13) f2 0 0 24) (cp _ _) (cp _ _)
    rcases (show t = 0 ∨ t = 1 by omega) with rfl | rfl
    · exact ⟨rfl, ⟨p, a1, a2, a3, w, f, g9 _ _, g2, g3⟩, fun _ => on⟩
    · exact ⟨rfl, ⟨p, a1, a2, a3, w, f, g1, g9 _ _, g3⟩, fun _ => on⟩
  · rw [e1, e2]
    exact RB_f r1
theorem R_nx (r : RO M N) : RB (nx 0 spC M) (nx 9 spM N) := by
  have r0 : RO (mw M 4 0 (M 4 0 + nI 1)) (mw N 13 0 (N 13 0 + nI 1)) := by
    refine R_hand r ?_
    obtain ⟨n, rn, w⟩ := r.1.hh
    rw [← rn.nr]
    exact ⟨n, rn.up (by unfold kab; omega), w.nr _⟩
  have h := R_wh r0 (t := 0) (by decide)
  show RB (match wh 0 spC (mw M 4 0 (M 4 0 + nI 1)) 0 with | (true, M1) => wh 0 spC M1 1 | (false, M1) => (false, M1)) (match wh 9 spM (mw N 13 0 (N 13 0 + nI 1)) 0 with | (true, M1) => wh 9 spM M1 1 | (false, M1) => (false, M1))
  rcases RB_cases h with ⟨M1, N1, e1, e2, r1⟩ | ⟨M1, N1, e1, e2, r1⟩
  · rw [e1, e2]
    exact R_wh r1 (by decide)
  · rw [e1, e2]
    exact RB_f r1
theorem R_wb (r : RO M N) (t v k : Nat) : RB (wb 0 spC M t v k) (wb 9 spM N t v k) := by
  unfold wb
  rcases RB_cases (R_sp r) with ⟨M1, N1, e1, e2, r1⟩ | ⟨M1, N1, e1, e2, r1⟩
  · rw [e1, e2]
    refine RB_t (R_words r1 ?_)
    show va_cpy (M1 5) (M1 1) 0 (pl t v k) 4 = va_cpy (N1 14) (N1 10) 0 (pl t v k) 4
    rw [r1.1.ff, r1.1.ww]
  · rw [e1, e2]
    exact RB_f r1
theorem R_tk (r : RO M N) (t v k : Nat) : RO (tk 0 M t v k) (tk 9 N t v k) := by
  refine R_fresh r ?_
  show va_cpy (M 1) (M 5) (pl t v k) 0 4 = va_cpy (N 10) (N 14) (pl t v k) 0 4
  rw [r.1.ff, r.1.ww]
theorem R_crn (v r t : Nat) : ∀ (n : Nat) {M N : kMem}, RO M N → RB (crn 0 spC v r t n M) (crn 9 spM v r t n N) := by
  intro n
  induction n with
  | zero => intro M N h; exact RB_t h
  | succ n ih =>
    intro M N h
    unfold crn
    have e : sm (M (0 + 1)) v (8 * r + (7 - n)) = sm (N (9 + 1)) v (8 * r + (7 - n)) := by
      show sm (M 1) _ _ = sm (N 10) _ _
      rw [h.1.ww]
    rw [e]
    split
    · exact ih h
    · rcases RB_cases (R_wb (R_tk h t v (8 * r + (7 - n))) (1 - t) v (8 * r + (7 - n))) with ⟨M1, N1, e1, e2, r1⟩ | ⟨M1, N1, e1, e2, r1⟩
      · rw [e1, e2]
        exact ih r1
      · rw [e1, e2]
        exact RB_f r1
theorem R_cr (h : RO M N) (v r t : Nat) : RB (cr 0 spC M v r t) (cr 9 spM N v r t) := R_crn v r t 8 h
theorem R_mkb (h : RO M N) {v t r s : Nat} (hv : v < 6) (ev : isV (M 4) (nI v) = true) (ht : t < 2) (hr : r < 8) (es : M 4 (2 + v) = nI s) (hs : s < 4) (hs0 : s ≠ 0) : RB (mkb 0 spC M v t r) (mkb 9 spM N v t r) := by
  obtain ⟨n, rn, w⟩ := h.1.hh
  have hn := w.lt hv ev
  have e := rn.mt w.1 hn ht
  unfold mkb
  have e0 : bt (M (0 + 4) (8 + t * 6 + v)) r = bt (N (9 + 4) (8 + t * 6 + v)) r := by
    show bt (M 4 _) _ = bt (N 13 _) _
    rw [e]
  rw [e0]
  split
  · exact RB_t h
  · refine R_nx (R_hand h ?_)
    show HR (upd (M 4) (8 + t * 6 + v) (M 4 (8 + t * 6 + v) ||| bit1 r)) (upd (N 13) (8 + t * 6 + v) (N 13 (8 + t * 6 + v) ||| bit1 r))
    rw [← e]
    have hn6 := w.1
    refine ⟨n, rn.up (by unfold kab; omega), w.mp hn ht ?_ (fun z => ?_)⟩
    · obtain ⟨-, l1, l2, -⟩ := w.2.2.1 v hn
      refine lo8_set ?_ r hr
      rcases (show t = 0 ∨ t = 1 by omega) with rfl | rfl
      · rw [show 8 + 0 * 6 + v = 8 + v by omega]
        exact l1
      · rw [show 8 + 1 * 6 + v = 14 + v by omega]
        exact l2
    · rw [es] at z
      exact absurd ((nI_eq (by omega) (by decide)).mp z) hs0
theorem R_enb (h : RO M N) {v r : Nat} (hv : v < 6) (ev : isV (M 4) (nI v) = true) (hr : r < 8) : RB (enb 0 spC M v r) (enb 9 spM N v r) := by
  obtain ⟨n, rn, w⟩ := h.1.hh
  have hn := w.lt hv ev
  unfold enb
  have e0 : inw (M (0 + 4)) (nI (v * 8 + r)) = inw (N (9 + 4)) (nI (v * 8 + r)) := rn.iw _
  rw [e0]
  split
  · exact RB_t h
  · refine R_nx (R_hand h ?_)
    obtain ⟨q1, q2⟩ := ent_HR rn w (p := v * 8 + r) (by omega)
    exact ⟨n, q1, q2⟩
theorem R.opn (h : R M N) {v : Nat} (hv : v < 6) (ev : isV (M 4) (nI v) = true) (r : Nat) : opn (M 4) v r = opn (N 13) v r := by
  obtain ⟨n, rn, w⟩ := h.hh
  have hn := w.lt hv ev
  show (bt (M 4 (8 + v)) r || bt (M 4 (14 + v)) r) = (bt (N 13 (8 + v)) r || bt (N 13 (14 + v)) r)
  rw [rn.m0 w.1 hn, rn.m1 w.1 hn]
theorem R.stt (h : R M N) {v : Nat} (hv : v < 6) (ev : isV (M 4) (nI v) = true) : M 4 (2 + v) = N 13 (2 + v) := by
  obtain ⟨n, rn, w⟩ := h.hh
  exact rn.st w.1 (w.lt hv ev)
theorem R_put (h : RO M N) {v t k s : Nat} (hv : v < 6) (ev : isV (M 4) (nI v) = true) (ht : t < 2) (hk : k < 64) (es : M 4 (2 + v) = nI s) (hs : s < 4) : RB (put 0 spC M v t k) (put 9 spM N v t k) := by
  have e0 : M (0 + 4) (2 + v) = N (9 + 4) (2 + v) := h.1.stt hv ev
  unfold put
  rw [← e0]
  by_cases e1 : M (0 + 4) (2 + v) = nI 1
  · rw [if_pos e1, if_pos e1]
    have hs1 : s = 1 := (nI_eq (by omega) (by decide)).mp (es.symm.trans e1)
    rcases RB_cases (R_mkb h hv ev ht (r := k / 8) (by omega) es hs (by omega)) with ⟨M1, N1, f1, f2, r1⟩ | ⟨M1, N1, f1, f2, r1⟩
    · rw [f1, f2]
      exact R_wb r1 _ _ _
    · rw [f1, f2]
      exact RB_f r1
  · rw [if_neg e1, if_neg e1]
    have e2 : opn (M (0 + 4)) v (k / 8) = opn (N (9 + 4)) v (k / 8) := h.1.opn hv ev _
    rw [← e2]
    split
    · exact R_wb h _ _ _
    · rcases RB_cases (R_enb h hv ev (r := k / 8) (by omega)) with ⟨M1, N1, f1, f2, r1⟩ | ⟨M1, N1, f1, f2, r1⟩
      · rw [f1, f2]
        show RB (match wb 0 spC M1 t v k with | (true, M2) => wb 0 spC M2 (1 - t) v k | (false, M2) => (false, M2)) (match wb 9 spM N1 t v k with | (true, M2) => wb 9 spM M2 (1 - t) v k | (false, M2) => (false, M2))
        rcases RB_cases (R_wb r1 t v k) with ⟨M2, N2, p1, p2, r2⟩ | ⟨M2, N2, p1, p2, r2⟩
        · rw [p1, p2]
          exact R_wb r2 _ _ _
        · rw [p1, p2]
          exact RB_f r2
      · rw [f1, f2]
        exact RB_f r1
end RS
end
section
/-! the relation: a step, run, the start -/
section RT
variable {M N : kMem}
theorem nx_hand (b : Nat) (sp : kMem → Bool × kMem) (hsp : ∀ M k, (k = b + 1 ∨ k = b + 2 ∨ k = b + 3 ∨ k = b + 4 ∨ k = b + 5) → (sp M).2 k = M k) (M : kMem) : (nx b sp M).2 (b + 4) = upd (M (b + 4)) 0 (M (b + 4) 0 + nI 1) := by
  have e1 : ∀ (M' : kMem) (t : Nat), t < 2 → (wh b sp M' t).2 (b + 4) = M' (b + 4) := by
    intro M' t ht
    have h9 := hsp M' (b + 4) (Or.inr (Or.inr (Or.inr (Or.inl rfl))))
    unfold wh
    rcases hx : sp M' with ⟨ok, M1⟩
    rw [hx] at h9
    cases ok
    · exact h9
    · show va_up M1 (b + 2 + t) _ (b + 4) = _
      rw [va_up_ne _ _ (by omega)]
      exact h9
  have e2 := e1 (mw M (b + 4) 0 (M (b + 4) 0 + nI 1)) 0 (by decide)
  unfold nx
  rcases hx : wh b sp (mw M (b + 4) 0 (M (b + 4) 0 + nI 1)) 0 with ⟨ok, M1⟩
  rw [hx] at e2
  have e3 : M1 (b + 4) = upd (M (b + 4)) 0 (M (b + 4) 0 + nI 1) := e2.trans (va_up_self _ _ _)
  cases ok
  · exact e3
  · exact (e1 M1 1 (by decide)).trans e3
/-- the header behind a step's clearing -/
def clh (h : Nat → Int32) (v r : Nat) : Nat → Int32 := upd (upd h (8 + v) (h (8 + v) &&& (bit1 r ^^^ -1))) (14 + v) (h (14 + v) &&& (bit1 r ^^^ -1))
def jnh (h : Nat → Int32) (v : Nat) : Nat → Int32 := if marks h v = 0 then upd h (2 + v) (nI 0) else h
theorem clr_up (b : Nat) (M : kMem) (v r : Nat) : clr b M v r = va_up M (b + 4) (clh (M (b + 4)) v r) := by
  unfold clr clh mw
  dsimp only
  rw [bx_uu, va_up_self, pk_un (k := 8 + v) (j := 14 + v) (by omega)]
theorem jn_up (b : Nat) (M : kMem) (v : Nat) : jn b M v = va_up M (b + 4) (jnh (M (b + 4)) v) := by
  unfold jn jnh marks
  split
  · rfl
  · exact (up_id _ _).symm
theorem clh_marks (h : Nat → Int32) (v r : Nat) : marks (clh h v r) v = marks h v &&& (bit1 r ^^^ -1) := by
  unfold marks clh
  rw [pk_un (show 8 + v ≠ 14 + v by omega), pk_us, pk_us, and_or]
theorem clh_un {h : Nat → Int32} {v r k : Nat} (h1 : k ≠ 8 + v) (h2 : k ≠ 14 + v) : clh h v r k = h k := by
  unfold clh
  rw [pk_un h2, pk_un h1]
theorem jnh_un {h : Nat → Int32} {v k : Nat} (h1 : k ≠ 2 + v) : jnh h v k = h k := by
  unfold jnh
  split
  · rw [pk_un h1]
  · rfl
/-- the header behind a whole step -/
def sth (h : Nat → Int32) (v : Nat) : Nat → Int32 := if low h v < 8 then jnh (clh h v (low h v)) v else jnh h v
theorem stp_true (b : Nat) (sp : kMem → Bool × kMem) (hsp : ∀ M k, (k = b + 1 ∨ k = b + 2 ∨ k = b + 3 ∨ k = b + 4 ∨ k = b + 5) → (sp M).2 k = M k) {M M1 : kMem} {v t : Nat} (e : stp b sp M v t = (true, M1)) : M1 (b + 4) = upd (sth (M (b + 4)) v) 0 (sth (M (b + 4)) v 0 + nI 1) := by
  have q : ∀ {M M1 : kMem} {c : Int32}, stq b sp M v c = (true, M1) → M1 (b + 4) = upd (jnh (M (b + 4)) v) 0 (jnh (M (b + 4)) v 0 + nI 1) := by
    intro M M1 c e
    have h9 := nx_hand b sp hsp (jn b M v)
    unfold stq at e
    rcases hx : nx b sp (jn b M v) with ⟨ok, M2⟩
    rw [hx] at e h9
    cases ok
    · exact Bool.noConfusion (show false = true from congrArg Prod.fst e)
    · have e : (true, mw M2 b 3 (M2 b 3 + c)) = (true, M1) := e
      have e := congrArg Prod.snd e
      have e : mw M2 b 3 (M2 b 3 + c) = M1 := e
      rw [← e]
      show va_up M2 b _ (b + 4) = _
      rw [va_up_ne _ _ (by omega)]
      rw [jn_up, va_up_self] at h9
      exact h9
  unfold stp at e
  unfold sth
  by_cases hl : low (M (b + 4)) v < 8
  · rw [if_pos hl] at e
    rw [if_pos hl]
    have h9 := crn_hand b sp hsp v (low (M (b + 4)) v) t 8 M
    rcases hx : cr b sp M v (low (M (b + 4)) v) t with ⟨ok, M2⟩
    rw [hx] at e
    rw [show crn b sp v (low (M (b + 4)) v) t 8 M = (ok, M2) from hx] at h9
    cases ok
    · exact Bool.noConfusion (show false = true from congrArg Prod.fst e)
    · have e := q e
      have h9 : M2 (b + 4) = M (b + 4) := h9
      rw [clr_up, va_up_self, h9] at e
      exact e
  · rw [if_neg hl] at e
    rw [if_neg hl]
    exact q e
theorem marks_un {h : Nat → Int32} {v k : Nat} {x : Int32} (h1 : k ≠ 8 + v) (h2 : k ≠ 14 + v) : marks (upd h k x) v = marks h v := by
  unfold marks
  rw [pk_un (Ne.symm h1), pk_un (Ne.symm h2)]
/-- a step makes the regions to do fewer -/
theorem sth_less {h : Nat → Int32} {v s : Nat} (hv : v < 6) (es : h (2 + v) = nI s) (l1 : lo8 (h (8 + v))) (l2 : lo8 (h (14 + v))) : sth h v (2 + v) = nI 0 ∨ (sth h v (2 + v) = nI s ∧ lo8 (sth h v (8 + v)) ∧ lo8 (sth h v (14 + v)) ∧ 1 ≤ cnt (marks (sth h v) v) ∧ cnt (marks (sth h v) v) < cnt (marks h v)) := by
  obtain ⟨a, ha, ea⟩ := lo8_or l1 l2
  have ea : marks h v = nI a := ea
  obtain ⟨f1, f2, f3, f4, f5⟩ := cnt_fact a ha
  have el : low h v = lowzn (nI a) 8 := by rw [← ea]; exact low_z h v 8
  unfold sth
  by_cases hl : low h v < 8
  · rw [if_pos hl]
    rw [el] at hl
    have q1 := f4 hl
    have q2 := cnt_clr a ha _ hl q1
    rw [← el] at hl q1 q2
    have q3 : marks (clh h v (low h v)) v = nI a &&& (bit1 (low h v) ^^^ -1) := by rw [clh_marks, ea]
    unfold jnh
    by_cases z : marks (clh h v (low h v)) v = 0
    · rw [if_pos z]
      exact Or.inl pk_us
    · rw [if_neg z]
      refine Or.inr ⟨?_, ?_, ?_, ?_, ?_⟩
      · rw [clh_un (by omega) (by omega)]
        exact es
      · unfold clh
        rw [pk_un (by omega), pk_us]
        exact lo8_and l1 _ hl
      · unfold clh
        rw [pk_us]
        exact lo8_and l2 _ hl
      · obtain ⟨a', ha', ea'⟩ := lo8_and ⟨a, ha, rfl⟩ (low h v) hl
        rw [q3, ea']
        rw [q3, ea'] at z
        exact Nat.pos_of_ne_zero (fun z2 => z ((cnt_fact a' ha').1.mp z2))
      · rw [q3, ea]
        omega
  · rw [if_neg hl]
    rw [el] at hl
    have z : marks h v = 0 := ea.trans (f5 hl)
    unfold jnh
    rw [if_pos z]
    exact Or.inl pk_us
theorem stp_less (b : Nat) (sp : kMem → Bool × kMem) (hsp : ∀ M k, (k = b + 1 ∨ k = b + 2 ∨ k = b + 3 ∨ k = b + 4 ∨ k = b + 5) → (sp M).2 k = M k) {M M1 : kMem} {v t s : Nat} (hv : v < 6) (es : M (b + 4) (2 + v) = nI s) (l1 : lo8 (M (b + 4) (8 + v))) (l2 : lo8 (M (b + 4) (14 + v))) (e : stp b sp M v t = (true, M1)) : M1 (b + 4) (2 + v) = nI 0 ∨ (M1 (b + 4) (2 + v) = nI s ∧ lo8 (M1 (b + 4) (8 + v)) ∧ lo8 (M1 (b + 4) (14 + v)) ∧ 1 ≤ cnt (marks (M1 (b + 4)) v) ∧ cnt (marks (M1 (b + 4)) v) < cnt (marks (M (b + 4)) v)) := by
  have h9 := stp_true b sp hsp e
  have hl := sth_less hv es l1 l2
  rw [h9, marks_un (by omega) (by omega), pk_un (by omega), pk_un (by omega), pk_un (by omega)]
  exact hl
/-- the state only, of whichever maps -/
theorem stp_state {M M1 : kMem} {v t s : Nat} (es : M 4 (2 + v) = nI s) (e : stp 0 spC M v t = (true, M1)) : M1 4 (2 + v) = nI s ∨ M1 4 (2 + v) = nI 0 := by
  have h9 : M1 4 = upd (sth (M 4) v) 0 (sth (M 4) v 0 + nI 1) := stp_true 0 spC spC_keep e
  rw [h9, pk_un (by omega)]
  have j : ∀ h : Nat → Int32, h (2 + v) = nI s → jnh h v (2 + v) = nI s ∨ jnh h v (2 + v) = nI 0 := by
    intro h e
    unfold jnh
    split
    · exact Or.inr pk_us
    · exact Or.inl e
  unfold sth
  split
  · refine j _ ?_
    rw [clh_un (by omega) (by omega)]
    exact es
  · exact j _ es
theorem sth_1 (h : Nat → Int32) (v : Nat) : sth h v 1 = h 1 := by
  unfold sth
  split
  · rw [jnh_un (by omega), clh_un (by omega) (by omega)]
  · rw [jnh_un (by omega)]
/-- the headers behind clearing, and behind joining -/
theorem clh_HR {n : Nat} {h g : Nat → Int32} (r : HRn n h g) (w : wn n h) {v z : Nat} (hv : v < n) (hz : z < 8) : HRn n (clh h v z) (clh g v z) ∧ wn n (clh h v z) := by
  have hn := w.1
  obtain ⟨-, l1, l2, f⟩ := w.2.2.1 v hv
  have zz : ∀ m : Int32, nI 0 &&& m = nI 0 := fun m => by
    apply b_ext
    intro i hi
    rw [b_and]
    show (bt 0 i && _) = bt 0 i
    rw [b_0]
    rfl
  constructor
  · unfold clh
    rw [← r.m0 hn hv, ← r.m1 hn hv]
    exact (r.up (by unfold kab; omega)).up (by unfold kab; omega)
  · unfold clh
    have w1 := w.mp (t := 0) (x := h (8 + v) &&& (bit1 z ^^^ -1)) hv (by decide) (lo8_and l1 _ hz) (fun q => by rw [(f q).1]; exact zz _)
    rw [show 8 + 0 * 6 + v = 8 + v by omega] at w1
    have w2 := w1.mp (t := 1) (x := h (14 + v) &&& (bit1 z ^^^ -1)) hv (by decide) (lo8_and l2 _ hz) (fun q => by rw [pk_un (by omega)] at q; rw [(f q).2]; exact zz _)
    rw [show 8 + 1 * 6 + v = 14 + v by omega] at w2
    exact w2
theorem or_0 {a b : Nat} (ha : a < 256) (hb : b < 256) (h : nI a ||| nI b = 0) : nI a = nI 0 ∧ nI b = nI 0 := by
  rw [nI_or a b ha hb] at h
  have h1 : a ||| b < 2 ^ 8 := Nat.or_lt_two_pow ha hb
  have h2 : a ||| b = 0 := (nI_eq (by omega) (by decide)).mp (show nI (a ||| b) = nI 0 from h)
  have h3 := Nat.or_eq_zero_iff.mp h2
  rw [h3.1, h3.2]
  exact ⟨rfl, rfl⟩
theorem jnh_HR {n : Nat} {h g : Nat → Int32} (r : HRn n h g) (w : wn n h) {v : Nat} (hv : v < n) : HRn n (jnh h v) (jnh g v) ∧ wn n (jnh h v) := by
  have hn := w.1
  obtain ⟨-, ⟨a, ha, ea⟩, ⟨b, hb, eb⟩, f⟩ := w.2.2.1 v hv
  have e : marks h v = marks g v := by
    unfold marks
    rw [r.m0 hn hv, r.m1 hn hv]
  unfold jnh
  rw [← e]
  by_cases z : marks h v = 0
  · rw [if_pos z, if_pos z]
    refine ⟨r.up (by unfold kab; omega), w.st (s := 0) hv (by decide) (fun _ => ?_)⟩
    unfold marks at z
    rw [ea, eb] at z
    rw [ea, eb]
    exact or_0 ha hb z
  · rw [if_neg z, if_neg z]
    exact ⟨r, w⟩
theorem R_stq (h : RO M N) {v : Nat} (hv : v < 6) (ev : isV (M 4) (nI v) = true) (c : Int32) : RB (stq 0 spC M v c) (stq 9 spM N v c) := by
  have r0 : RO (jn 0 M v) (jn 9 N v) := by
    rw [jn_up, jn_up]
    refine R_hand h ?_
    obtain ⟨n, rn, w⟩ := h.1.hh
    obtain ⟨q1, q2⟩ := jnh_HR rn w (w.lt hv ev)
    exact ⟨n, q1, q2⟩
  unfold stq
  rcases RB_cases (R_nx r0) with ⟨M1, N1, f1, f2, r1⟩ | ⟨M1, N1, f1, f2, r1⟩
  · rw [f1, f2]
    obtain ⟨⟨p, a1, a2, a3, w, f, g1, g2, g3⟩, on⟩ := r1
    have a3' : M1 0 3 + c = N1 9 3 + c := by rw [a3]
    exact ⟨rfl, ⟨p, a1, a2, a3', w, f, g1, g2, g3⟩, fun _ => on⟩
  · rw [f1, f2]
    exact RB_f r1
theorem R_stp (h : RO M N) {v : Nat} (hv : v < 6) (ev : isV (M 4) (nI v) = true) (t : Nat) : RB (stp 0 spC M v t) (stp 9 spM N v t) := by
  have el : low (M (0 + 4)) v = low (N (9 + 4)) v := by
    obtain ⟨n, rn, w⟩ := h.1.hh
    have hn := w.lt hv ev
    have e : marks (M 4) v = marks (N 13) v := by
      unfold marks
      rw [rn.m0 w.1 hn, rn.m1 w.1 hn]
    show lown (M 4) v 8 = lown (N 13) v 8
    rw [low_z, low_z, e]
  unfold stp
  rw [← el]
  by_cases hl : low (M (0 + 4)) v < 8
  · rw [if_pos hl, if_pos hl]
    have k1 := crn_hand 0 spC spC_keep v (low (M (0 + 4)) v) t 8 M
    rcases RB_cases (R_cr h v (low (M (0 + 4)) v) t) with ⟨M1, N1, f1, f2, r1⟩ | ⟨M1, N1, f1, f2, r1⟩
    · rw [show crn 0 spC v (low (M (0 + 4)) v) t 8 M = (true, M1) from f1] at k1
      have k1 : M1 4 = M 4 := k1
      rw [f1, f2]
      have r2 : RO (clr 0 M1 v (low (M (0 + 4)) v)) (clr 9 N1 v (low (M (0 + 4)) v)) := by
        rw [clr_up, clr_up]
        refine R_hand r1 ?_
        obtain ⟨n, rn, w⟩ := r1.1.hh
        obtain ⟨q1, q2⟩ := clh_HR rn w (w.lt hv (by rw [k1]; exact ev)) hl
        exact ⟨n, q1, q2⟩
      refine R_stq r2 hv ?_ _
      rw [clr_up]
      show isV (clh (M1 4) v (low (M (0 + 4)) v)) (nI v) = true
      unfold isV
      rw [clh_un (by omega) (by omega), k1]
      exact ev
    · rw [f1, f2]
      exact RB_f r1
  · rw [if_neg hl, if_neg hl]
    exact R_stq h hv ev _
theorem R_rnn {v : Nat} (hv : v < 6) (t : Nat) : ∀ (n c : Nat) {M N : kMem}, RO M N → isV (M 4) (nI v) = true → (rnn 0 spC v t n c M).1 = (rnn 9 spM v t n c N).1 ∧ R (rnn 0 spC v t n c M).2 (rnn 9 spM v t n c N).2 := by
  intro n
  induction n with
  | zero => intro c M N h _; exact ⟨rfl, h.1⟩
  | succ n ih =>
    intro c M N h ev
    have e0 : M (0 + 4) (2 + v) = N (9 + 4) (2 + v) := h.1.stt hv ev
    unfold rnn
    rw [← e0]
    split
    · exact ⟨rfl, h.1⟩
    · rcases RB_cases (R_stp h hv ev t) with ⟨M1, N1, f1, f2, r1⟩ | ⟨M1, N1, f1, f2, r1⟩
      · have k1 : M1 4 = upd (sth (M 4) v) 0 (sth (M 4) v 0 + nI 1) := stp_true 0 spC spC_keep f1
        rw [f1, f2]
        refine ih (c + 1) r1 ?_
        rw [k1]
        unfold isV
        rw [pk_un (by omega), sth_1]
        exact ev
      · rw [f1, f2]
        exact ⟨rfl, r1⟩
theorem R_mnr (h : RO M N) {v r : Nat} (hv : v < 6) (ev : isV (M 4) (nI v) = true) (t : Nat) : RB (mnr 0 spC M v r t) (mnr 9 spM N v r t) := by
  have e0 : M (0 + 4) (2 + v) = N (9 + 4) (2 + v) := h.1.stt hv ev
  have e2 : opn (M (0 + 4)) v r = opn (N (9 + 4)) v r := h.1.opn hv ev _
  unfold mnr
  rw [← e0, ← e2]
  split
  · exact RB_t h
  · split
    · exact RB_t h
    · exact R_cr h _ _ _
theorem R_mwn : ∀ (n : Nat), n ≤ 4 → ∀ {M N : kMem}, RO M N → RB (mwn 0 spC n M) (mwn 9 spM n N) := by
  intro n
  induction n with
  | zero => intro _ M N h; exact RB_t h
  | succ n ih =>
    intro hn4 M N h
    obtain ⟨m, rn, w⟩ := h.1.hh
    have e0 : M (0 + 4) (20 + (3 - n)) = N (9 + 4) (20 + (3 - n)) := rn.wi (by omega)
    unfold mwn
    rw [← e0]
    by_cases e : M (0 + 4) (20 + (3 - n)) = -1
    · rw [if_pos e, if_pos e]
      exact ih (by omega) h
    · rw [if_neg e, if_neg e]
      obtain ⟨p, hp, ep⟩ := (show ∃ p, p < 8 * m ∧ M 4 (20 + (3 - n)) = nI p by
        obtain ⟨c, hc, g1, g2⟩ := w.2.2.2
        rcases Nat.lt_or_ge (3 - n) c with z | z
        · exact g1 _ z
        · exact absurd (g2 _ z (by omega)) e)
      have hm6 := w.1
      have hc : (nI p).toNatClampNeg = p := nI_clamp (by omega)
      have hv : p / 8 < m := by omega
      have ev : isV (M 4) (nI (p / 8)) = true := by
        unfold isV
        rw [w.2.1]
        exact inR_nI (n := m) hv (by omega)
      have e1 : M (0 + 4) (2 + p / 8) = N (9 + 4) (2 + p / 8) := h.1.stt (by omega) ev
      have ep : M (0 + 4) (20 + (3 - n)) = nI p := ep
      rw [ep, hc, ← e1]
      rcases RB_cases (R_mnr h (r := p % 8) (by omega) ev ((M (0 + 4) (2 + p / 8)).toNatClampNeg - 2)) with ⟨M1, N1, f1, f2, r1⟩ | ⟨M1, N1, f1, f2, r1⟩
      · rw [f1, f2]
        exact ih (by omega) r1
      · rw [f1, f2]
        exact RB_f r1
theorem R_mnd (h : RO M N) : RB (mnd 0 spC M) (mnd 9 spM N) := by
  obtain ⟨m, rn, w⟩ := h.1.hh
  have e0 : M (0 + 4) 20 = N (9 + 4) 20 := rn.wi (i := 0) (by decide)
  unfold mnd
  rw [← e0]
  split
  · exact RB_t h
  · rcases RB_cases (R_mwn 4 (Nat.le_refl _) h) with ⟨M1, N1, f1, f2, r1⟩ | ⟨M1, N1, f1, f2, r1⟩
    · rw [f1, f2]
      refine R_nx (R_hand r1 ?_)
      obtain ⟨n, rn, w⟩ := r1.1.hh
      obtain ⟨q1, q2⟩ := wnd_HR rn w
      exact ⟨n, q1, q2⟩
    · rw [f1, f2]
      exact RB_f r1
theorem R_tnh (h : RO M N) : RB (tnh 0 spC M) (tnh 9 spM N) := by
  have cp : ∀ (s f : Nat → Int32) (k : Nat), k < 24 → va_cpy s f 0 0 24 k = s k := fun s f k hk => by
    unfold va_cpy
    rw [if_pos (by omega), show 0 + (k - 0) = k by omega]
  have g1 := h.1.2.2.2.2.2.2.1
  have g2 := h.1.2.2.2.2.2.2.2.1
  have e1 : M (0 + 2) 0 = N (9 + 2) 0 := by obtain ⟨m, rn, w⟩ := g1; exact rn.nr
  have e2 : M (0 + 3) 0 = N (9 + 3) 0 := by obtain ⟨m, rn, w⟩ := g2; exact rn.nr
  have c1 : RO (va_up M 4 (va_cpy (M 2) (M 4) 0 0 24)) (va_up N 13 (va_cpy (N 11) (N 13) 0 0 24)) := R_hand h (g1.cong (cp _ _) (cp _ _))
  have c2 : RO (va_up M 4 (va_cpy (M 3) (M 4) 0 0 24)) (va_up N 13 (va_cpy (N 12) (N 13) 0 0 24)) := R_hand h (g2.cong (cp _ _) (cp _ _))
  unfold tnh
  rw [← e1, ← e2]
  split
  · split
    · exact RB_t c1
    · exact R_wh c1 (by decide)
  · exact R_wh c2 (by decide)
theorem R_srt (h : RO M N) : RB (srt 0 spC M) (srt 9 spM N) := by
  unfold srt
  rcases RB_cases (R_tnh h) with ⟨M1, N1, f1, f2, r1⟩ | ⟨M1, N1, f1, f2, r1⟩
  · rw [f1, f2]
    exact R_mnd r1
  · rw [f1, f2]
    exact RB_f r1
end RT
end
section
/-! the relation: split -/
abbrev kT : Int32 → Bool := fun _ => true
section RU
variable {h g : Nat → Int32}
theorem wkn_filter (h : Nat → Int32) (kp : Int32 → Bool) : ∀ i, wkn h kp i = (wkn h kT i).filter kp := by
  intro i
  induction i with
  | zero => rfl
  | succ i ih =>
    unfold wkn
    by_cases e : h (20 + i) = -1
    · rw [if_pos e, if_pos e]
      exact ih
    · rw [if_neg e, if_neg e, if_pos rfl, List.filter_append, ← ih]
      by_cases e2 : kp (h (20 + i)) = true
      · rw [if_pos e2]
        simp [e2]
      · rw [if_neg e2]
        simp [e2]
theorem wkn_cong {h' : Nat → Int32} (e : ∀ i, i < 4 → h' (20 + i) = h (20 + i)) (kp : Int32 → Bool) : ∀ i, i ≤ 4 → wkn h' kp i = wkn h kp i := by
  intro i
  induction i with
  | zero => intro _; rfl
  | succ i ih =>
    intro hi
    unfold wkn
    rw [ih (by omega), e i (by omega)]
theorem wkn_mem (h : Nat → Int32) (kp : Int32 → Bool) : ∀ i, ∀ a, a ∈ wkn h kp i → ¬ a = -1 ∧ ∃ j, j < i ∧ a = h (20 + j) := by
  intro i
  induction i with
  | zero => intro a ha; exact absurd ha List.not_mem_nil
  | succ i ih =>
    intro a ha
    unfold wkn at ha
    have up : a ∈ wkn h kp i → ¬ a = -1 ∧ ∃ j, j < i + 1 ∧ a = h (20 + j) := fun z => by
      obtain ⟨p1, j, hj, p2⟩ := ih a z
      exact ⟨p1, j, by omega, p2⟩
    split at ha
    · exact up ha
    · rename_i e
      split at ha
      · rcases List.mem_append.mp ha with z | z
        · exact up z
        · have z : a = h (20 + i) := by simpa using z
          exact ⟨by rw [z]; exact e, i, by omega, z⟩
      · exact up ha
theorem wkn_wnd (l : List Int32) (hl : l.length ≤ 4) (hne : ∀ a, a ∈ l → ¬ a = -1) : wkn (wnd h l 4) kT 4 = l := by
  have e : ∀ i, i ≤ 4 → wkn (wnd h l 4) kT i = l.take i := by
    intro i
    induction i with
    | zero => intro _; simp [wkn]
    | succ i ih =>
      intro hi
      unfold wkn
      rw [ih (by omega), wnd_hi (by omega)]
      rcases Nat.lt_or_ge i l.length with z | z
      · have e1 : l.getD i (-1) = l[i] := by rw [List.getD_eq_getElem?_getD, List.getElem?_eq_getElem z]; rfl
        rw [e1, if_neg (hne _ (List.getElem_mem z)), if_pos rfl, List.take_succ, List.getElem?_eq_getElem z]
        rfl
      · have e1 : l.getD i (-1) = -1 := by rw [List.getD_eq_getElem?_getD, List.getElem?_eq_none z]; rfl
        rw [e1, if_pos rfl, List.take_of_length_le z, List.take_of_length_le (by omega)]
  rw [e 4 (Nat.le_refl _), List.take_of_length_le hl]
theorem wfW.cmp {n : Nat} (w : wfW h n) (hn : n ≤ 6) {i : Nat} (hi : i < 4) : h (20 + i) = (wkn h kT 4).getD i (-1) := by
  obtain ⟨c, hc, g1, g2⟩ := w
  have e9 : ∀ j, j < 48 → ¬ nI j = -1 := by decide +kernel
  have g3 : ∀ i, i < c → ¬ h (20 + i) = -1 := fun i hi => by
    obtain ⟨p, hp, e⟩ := g1 i hi
    rw [e]
    exact e9 p (by omega)
  have f0 : 0 < c → ¬ h 20 = -1 := g3 0
  have f1 : 1 < c → ¬ h 21 = -1 := g3 1
  have f2 : 2 < c → ¬ h 22 = -1 := g3 2
  have f3 : 3 < c → ¬ h 23 = -1 := g3 3
  have q0 : c ≤ 0 → h 20 = -1 := fun z => g2 0 z (by decide)
  have q1 : c ≤ 1 → h 21 = -1 := fun z => g2 1 z (by decide)
  have q2 : c ≤ 2 → h 22 = -1 := fun z => g2 2 z (by decide)
  have q3 : c ≤ 3 → h 23 = -1 := fun z => g2 3 z (by decide)
  have e : wkn h kT 4 = (if h 20 = -1 then [] else [h 20]) ++ (if h 21 = -1 then [] else [h 21]) ++ (if h 22 = -1 then [] else [h 22]) ++ (if h 23 = -1 then [] else [h 23]) := by
    simp only [wkn, if_true, Nat.add_zero]
    by_cases a0 : h 20 = -1 <;> by_cases a1 : h 21 = -1 <;> by_cases a2 : h 22 = -1 <;> by_cases a3 : h 23 = -1 <;> simp [a0, a1, a2, a3]
  rw [e]
  rcases (show c = 0 ∨ c = 1 ∨ c = 2 ∨ c = 3 ∨ c = 4 by omega) with rfl | rfl | rfl | rfl | rfl
  · rw [if_pos (q0 (by decide)), if_pos (q1 (by decide)), if_pos (q2 (by decide)), if_pos (q3 (by decide))]
    exact g2 i (by omega) hi
  · rw [if_neg (f0 (by decide)), if_pos (q1 (by decide)), if_pos (q2 (by decide)), if_pos (q3 (by decide))]
    rcases (show i = 0 ∨ i = 1 ∨ i = 2 ∨ i = 3 by omega) with rfl | rfl | rfl | rfl
    · rfl
    · exact q1 (by decide)
    · exact q2 (by decide)
    · exact q3 (by decide)
  · rw [if_neg (f0 (by decide)), if_neg (f1 (by decide)), if_pos (q2 (by decide)), if_pos (q3 (by decide))]
    rcases (show i = 0 ∨ i = 1 ∨ i = 2 ∨ i = 3 by omega) with rfl | rfl | rfl | rfl
    · rfl
    · rfl
    · exact q2 (by decide)
    · exact q3 (by decide)
  · rw [if_neg (f0 (by decide)), if_neg (f1 (by decide)), if_neg (f2 (by decide)), if_pos (q3 (by decide))]
    rcases (show i = 0 ∨ i = 1 ∨ i = 2 ∨ i = 3 by omega) with rfl | rfl | rfl | rfl
    · rfl
    · rfl
    · rfl
    · exact q3 (by decide)
  · rw [if_neg (f0 (by decide)), if_neg (f1 (by decide)), if_neg (f2 (by decide)), if_neg (f3 (by decide))]
    rcases (show i = 0 ∨ i = 1 ∨ i = 2 ∨ i = 3 by omega) with rfl | rfl | rfl | rfl
    · rfl
    · rfl
    · rfl
    · rfl
/-- what a place of the window is -/
theorem wfW.pl {n : Nat} (w : wfW h n) {a : Int32} (kp : Int32 → Bool) (ha : a ∈ wkn h kp 4) : ∃ p, p < 8 * n ∧ a = nI p := by
  obtain ⟨c, hc, g1, g2⟩ := w
  obtain ⟨p1, j, hj, p2⟩ := wkn_mem h kp 4 a ha
  rcases Nat.lt_or_ge j c with z | z
  · obtain ⟨p, hp, e⟩ := g1 j z
    exact ⟨p, hp, p2.trans e⟩
  · exact absurd (p2.trans (g2 j z hj)) p1
theorem wfW.kp {n : Nat} (w : wfW h n) (kp : Int32 → Bool) : wfW (wkp h kp) n := by
  refine ⟨(wkn h kp 4).length, wkn_len h kp 4, fun i hi => ?_, fun i hi hi4 => ?_⟩
  · have hl := wkn_len h kp 4
    have e : wkp h kp (20 + i) = (wkn h kp 4).getD i (-1) := wnd_hi (by omega)
    rw [e, List.getD_eq_getElem?_getD, List.getElem?_eq_getElem hi]
    exact w.pl kp (List.getElem_mem hi)
  · have e : wkp h kp (20 + i) = (wkn h kp 4).getD i (-1) := wnd_hi hi4
    rw [e, List.getD_eq_getElem?_getD, List.getElem?_eq_none hi]
    rfl
theorem wn.sp1 {n v : Nat} (w : wn n h) (hv : v < n) : wn n (sp1 h v) := by
  have hn := w.1
  have w1 := w.st (s := 1) hv (by decide) (fun z => absurd z (by decide))
  have w2 := w1.mp (t := 0) (x := nI 0) hv (by decide) ⟨0, by decide, rfl⟩ (fun _ => rfl)
  rw [show 8 + 0 * 6 + v = 8 + v by omega] at w2
  have w3 := w2.mp (t := 1) (x := nI 0) hv (by decide) ⟨0, by decide, rfl⟩ (fun _ => rfl)
  rw [show 8 + 1 * 6 + v = 14 + v by omega] at w3
  exact w3.win (fun k hk => wnd_lo hk) (w3.2.2.2.kp _)
theorem split_rel {N : Nat} : ∀ (n c : Nat) (h g : Nat → Int32), n ≤ N → (∀ k, k < 20 → (kab N k → h k = -1 ∧ (8 ≤ k → g k = nI 0)) ∧ (¬ kab N k → h k = g k)) → wn N h → (∀ u, u < N - n → ¬ h (2 + u) = nI 0) → (∀ i, i < 4 → g (20 + i) = ((wkn h kT 4).filter (kpM h)).getD i (-1)) →
    (spCn N n c h).1 = (spMn N n c g).1 ∧ HRn N (spCn N n c h).2 (spMn N n c g).2 ∧ wn N (spCn N n c h).2 := by
  intro n
  induction n with
  | zero =>
    intro c h g hn lo w hst hg
    refine ⟨rfl, fun k hk => ?_, w⟩
    have hn6 := w.1
    rcases Nat.lt_or_ge k 20 with z | z
    · exact lo k z
    · refine ⟨fun a => absurd a (by unfold kab; omega), fun _ => ?_⟩
      have e : (wkn h kT 4).filter (kpM h) = wkn h kT 4 := by
        refine List.filter_eq_self.mpr (fun a ha => ?_)
        obtain ⟨p, hp, rfl⟩ := w.2.2.2.pl kT ha
        unfold kpM
        rw [nI_clamp (show p < 2 ^ 31 by omega)]
        exact decide_eq_true (hst (p / 8) (by omega))
      have e2 := hg (k - 20) (by omega)
      rw [e, ← w.2.2.2.cmp w.1 (by omega), show 20 + (k - 20) = k by omega] at e2
      exact e2.symm
  | succ n ih =>
    intro c h g hn lo w hst hg
    have hn6 := w.1
    generalize hv : N - (n + 1) = v at hst
    have hvN : v < N := by omega
    have e0 : h (2 + v) = g (2 + v) := (lo (2 + v) (by omega)).2 (by unfold kab; omega)
    unfold spCn spMn
    rw [hv, ← e0]
    by_cases e : h (2 + v) = nI 0
    · rw [if_pos e, if_pos e]
      have lo' : ∀ k, k < 20 → sp1 h v k = upd (upd (upd h (2 + v) (nI 1)) (8 + v) (nI 0)) (14 + v) (nI 0) k := fun k hk => wnd_lo hk
      have up : ∀ {h g : Nat → Int32} {j : Nat} {x : Int32}, ¬ kab N j → (∀ k, k < 20 → (kab N k → h k = -1 ∧ (8 ≤ k → g k = nI 0)) ∧ (¬ kab N k → h k = g k)) → ∀ k, k < 20 → (kab N k → upd h j x k = -1 ∧ (8 ≤ k → upd g j x k = nI 0)) ∧ (¬ kab N k → upd h j x k = upd g j x k) := by
        intro h g j x hj r k hk
        by_cases e : k = j
        · subst e
          rw [pk_us, pk_us]
          exact ⟨fun z => absurd z hj, fun _ => rfl⟩
        · rw [pk_un e, pk_un e]
          exact r k hk
      refine ih (c + 1) (sp1 h v) _ (by omega) (fun k hk => ?_) (w.sp1 hvN) (fun u hu => ?_) (fun i hi => ?_)
      · rw [lo' k hk]
        exact up (by unfold kab; omega) (up (by unfold kab; omega) (up (by unfold kab; omega) lo)) k hk
      · rw [lo' _ (by omega), pk_un (by omega), pk_un (by omega)]
        by_cases eu : u = v
        · subst eu
          rw [pk_us]
          decide
        · rw [pk_un (by omega)]
          exact hst u (by omega)
      · rw [pk_un (by omega), pk_un (by omega), pk_un (by omega), hg i hi]
        congr 1
        have e1 : wkn (sp1 h v) kT 4 = (wkn h kT 4).filter (fun a => decide (¬ a / nI 8 = nI v)) := by
          unfold sp1 wkp
          rw [wkn_wnd _ (wkn_len _ _ 4) (fun a ha => (wkn_mem _ _ 4 a ha).1), wkn_filter]
          congr 1
          exact wkn_cong (fun i hi => by rw [pk_un (by omega), pk_un (by omega), pk_un (by omega)]) _ 4 (Nat.le_refl _)
        rw [e1, List.filter_filter]
        refine List.filter_congr (fun a ha => ?_)
        obtain ⟨p, hp, rfl⟩ := w.2.2.2.pl kT ha
        have hc : (nI p).toNatClampNeg = p := nI_clamp (by omega)
        have hd8 : nI p / nI 8 = nI (p / 8) := pk_div (by omega) (by decide) (by decide)
        unfold kpM
        rw [hc, hd8]
        by_cases ep : p / 8 = v
        · rw [ep, e]
          simp
        · have ne : ¬ nI (p / 8) = nI v := fun z => ep ((nI_eq (by omega) (by omega)).mp z)
          rw [lo' _ (by omega), pk_un (by omega), pk_un (by omega), pk_un (by omega), decide_eq_true ne, Bool.and_true]
    · rw [if_neg e, if_neg e]
      refine ih c h g (by omega) lo w (fun u hu => ?_) hg
      by_cases eu : u = v
      · subst eu
        exact e
      · exact hst u (by omega)
theorem split_HR {N : Nat} (r : HRn N h g) (w : wn N h) : (spCn N N 0 h).1 = (spMn N N 0 (wkp g (kpM g))).1 ∧ HR (spCn N N 0 h).2 (spMn N N 0 (wkp g (kpM g))).2 := by
  have hn6 := w.1
  obtain ⟨q1, q2, q3⟩ := split_rel (N := N) N 0 h (wkp g (kpM g)) (Nat.le_refl _) (fun k hk => by rw [show wkp g (kpM g) k = g k from wnd_lo hk]; exact r k (by omega)) w (fun u hu => absurd hu (by omega)) (fun i hi => by
    have e : wkp g (kpM g) (20 + i) = (wkn g (kpM g) 4).getD i (-1) := wnd_hi hi
    rw [e, wkn_filter, wkn_cong (h := h) (fun i hi => (r.wi hi).symm) _ 4 (Nat.le_refl _)]
    congr 1
    refine List.filter_congr (fun a ha => ?_)
    obtain ⟨p, hp, rfl⟩ := w.2.2.2.pl kT ha
    unfold kpM
    rw [nI_clamp (show p < 2 ^ 31 by omega), r.st hn6 (show p / 8 < N by omega)])
  exact ⟨q1, N, q2, q3⟩
end RU
end
section
/-! what a part of the memory's functions leave alone -/
def Fr (b : Nat) (M N : kMem) : Prop := (∀ k, (k < b ∨ b + 5 < k) → N k = M k) ∧ N b 4 = M b 4
theorem Fr.refl (b : Nat) (M : kMem) : Fr b M M := ⟨fun _ _ => rfl, rfl⟩
theorem Fr.trans {b : Nat} {M N L : kMem} (h1 : Fr b M N) (h2 : Fr b N L) : Fr b M L := ⟨fun k hk => (h2.1 k hk).trans (h1.1 k hk), h2.2.trans h1.2⟩
theorem Fr_up {b k : Nat} {M : kMem} {f : Nat → Int32} (h1 : b < k) (h2 : k ≤ b + 5) : Fr b M (va_up M k f) := ⟨fun j hj => va_up_ne _ _ (by omega), by rw [va_up_ne _ _ (by omega)]⟩
theorem Fr_mw {b k j : Nat} {M : kMem} {x : Int32} (h1 : b < k) (h2 : k ≤ b + 5) : Fr b M (mw M k j x) := Fr_up h1 h2
theorem Fr_mb {b j : Nat} {M : kMem} {x : Int32} (hj : j < 4) : Fr b M (mw M b j x) := ⟨fun k hk => va_up_ne _ _ (by omega), by
  unfold mw
  rw [va_up_self, pk_un (by omega)]⟩
theorem Fr_spC (M : kMem) : Fr 0 M (spC M).2 := by
  unfold spC
  split
  · exact (Fr_mb (by decide)).trans (Fr_mb (by decide))
  · split
    · exact Fr_mb (M := M) (b := 0) (by decide)
    · exact (Fr_mb (M := M) (b := 0) (j := 1) (by decide)).trans (Fr_mb (by decide))
theorem Fr_spM (M : kMem) : Fr 9 M (spM M).2 := by
  unfold spM
  split
  · exact Fr.refl _ _
  · split
    · exact (Fr_mb (by decide)).trans (Fr_mb (by decide))
    · exact (Fr_mb (M := M) (b := 9) (j := 1) (by decide)).trans (Fr_mb (by decide))
section FRS
variable {b : Nat} {sp : kMem → Bool × kMem}
theorem Fr_wh (hsp : ∀ M, Fr b M (sp M).2) (M : kMem) {t : Nat} (ht : t < 2) : Fr b M (wh b sp M t).2 := by
  have h := hsp M
  unfold wh
  rcases hx : sp M with ⟨ok, M1⟩
  rw [hx] at h
  cases ok
  · exact h
  · exact h.trans (Fr_up (by omega) (by omega))
theorem Fr_nx (hsp : ∀ M, Fr b M (sp M).2) (M : kMem) : Fr b M (nx b sp M).2 := by
  have h0 : Fr b M (mw M (b + 4) 0 (M (b + 4) 0 + nI 1)) := Fr_mw (by omega) (by omega)
  have h := Fr_wh hsp (mw M (b + 4) 0 (M (b + 4) 0 + nI 1)) (t := 0) (by decide)
  unfold nx
  rcases hx : wh b sp (mw M (b + 4) 0 (M (b + 4) 0 + nI 1)) 0 with ⟨ok, M1⟩
  rw [hx] at h
  cases ok
  · exact h0.trans h
  · exact (h0.trans h).trans (Fr_wh hsp M1 (by decide))
theorem Fr_wb (hsp : ∀ M, Fr b M (sp M).2) (M : kMem) (t v k : Nat) : Fr b M (wb b sp M t v k).2 := by
  have h := hsp M
  unfold wb
  rcases hx : sp M with ⟨ok, M1⟩
  rw [hx] at h
  cases ok
  · exact h
  · exact h.trans (Fr_up (by omega) (by omega))
theorem Fr_tk (M : kMem) (t v k : Nat) : Fr b M (tk b M t v k) := Fr_up (by omega) (by omega)
theorem Fr_crn (hsp : ∀ M, Fr b M (sp M).2) (v r t : Nat) : ∀ (n : Nat) (M : kMem), Fr b M (crn b sp v r t n M).2 := by
  intro n
  induction n with
  | zero => intro M; exact Fr.refl _ _
  | succ n ih =>
    intro M
    unfold crn
    split
    · exact ih M
    · have h := (Fr_tk (b := b) M t v (8 * r + (7 - n))).trans (Fr_wb hsp (tk b M t v (8 * r + (7 - n))) (1 - t) v (8 * r + (7 - n)))
      rcases hx : wb b sp (tk b M t v (8 * r + (7 - n))) (1 - t) v (8 * r + (7 - n)) with ⟨ok, M1⟩
      rw [hx] at h
      cases ok
      · exact h
      · exact h.trans (ih M1)
theorem Fr_put (hsp : ∀ M, Fr b M (sp M).2) (M : kMem) (v t k : Nat) : Fr b M (put b sp M v t k).2 := by
  unfold put
  split
  · have h : Fr b M (mkb b sp M v t (k / 8)).2 := by
      unfold mkb
      split
      · exact Fr.refl _ _
      · exact (Fr_mw (by omega) (by omega)).trans (Fr_nx hsp _)
    rcases hx : mkb b sp M v t (k / 8) with ⟨ok, M1⟩
    rw [hx] at h
    cases ok
    · exact h
    · exact h.trans (Fr_wb hsp _ _ _ _)
  · split
    · exact Fr_wb hsp _ _ _ _
    · have h : Fr b M (enb b sp M v (k / 8)).2 := by
        unfold enb
        split
        · exact Fr.refl _ _
        · exact (Fr_up (by omega) (by omega)).trans (Fr_nx hsp _)
      rcases hx : enb b sp M v (k / 8) with ⟨ok, M1⟩
      rw [hx] at h
      cases ok
      · exact h
      · have h2 := h.trans (Fr_wb hsp M1 t v k)
        show Fr b M (match wb b sp M1 t v k with | (true, M2) => wb b sp M2 (1 - t) v k | (false, M2) => (false, M2)).2
        rcases hy : wb b sp M1 t v k with ⟨ok, M2⟩
        rw [hy] at h2
        cases ok
        · exact h2
        · exact h2.trans (Fr_wb hsp _ _ _ _)
theorem Fr_stq (hsp : ∀ M, Fr b M (sp M).2) (M : kMem) (v : Nat) (c : Int32) : Fr b M (stq b sp M v c).2 := by
  have h0 : Fr b M (jn b M v) := by
    rw [jn_up]
    exact Fr_up (by omega) (by omega)
  have h := h0.trans (Fr_nx hsp (jn b M v))
  unfold stq
  rcases hx : nx b sp (jn b M v) with ⟨ok, M1⟩
  rw [hx] at h
  cases ok
  · exact h
  · exact h.trans (Fr_mb (by decide))
theorem Fr_stp (hsp : ∀ M, Fr b M (sp M).2) (M : kMem) (v t : Nat) : Fr b M (stp b sp M v t).2 := by
  unfold stp
  split
  · have h := Fr_crn hsp v (low (M (b + 4)) v) t 8 M
    rcases hx : cr b sp M v (low (M (b + 4)) v) t with ⟨ok, M1⟩
    rw [show crn b sp v (low (M (b + 4)) v) t 8 M = (ok, M1) from hx] at h
    cases ok
    · exact h
    · refine h.trans ?_
      show Fr b M1 (stq b sp (clr b M1 v (low (M (b + 4)) v)) v (nI 1)).2
      rw [clr_up]
      exact (Fr_up (by omega) (by omega)).trans (Fr_stq hsp _ _ _)
  · exact Fr_stq hsp _ _ _
theorem Fr_rnn (hsp : ∀ M, Fr b M (sp M).2) (v t : Nat) : ∀ (n c : Nat) (M : kMem), Fr b M (rnn b sp v t n c M).2 := by
  intro n
  induction n with
  | zero => intro c M; exact Fr.refl _ _
  | succ n ih =>
    intro c M
    unfold rnn
    split
    · exact Fr.refl _ _
    · have h := Fr_stp hsp M v t
      rcases hx : stp b sp M v t with ⟨ok, M1⟩
      rw [hx] at h
      cases ok
      · exact h
      · exact h.trans (ih (c + 1) M1)
theorem Fr_mwn (hsp : ∀ M, Fr b M (sp M).2) : ∀ (n : Nat) (M : kMem), Fr b M (mwn b sp n M).2 := by
  intro n
  induction n with
  | zero => intro M; exact Fr.refl _ _
  | succ n ih =>
    intro M
    unfold mwn
    split
    · exact ih M
    · have h : ∀ v r t, Fr b M (mnr b sp M v r t).2 := by
        intro v r t
        unfold mnr
        split
        · exact Fr.refl _ _
        · split
          · exact Fr.refl _ _
          · exact Fr_crn hsp _ _ _ _ _
      generalize hq : mnr b sp M _ _ _ = q
      have h9 : Fr b M q.2 := by rw [← hq]; exact h _ _ _
      obtain ⟨ok, M1⟩ := q
      cases ok
      · exact h9
      · exact h9.trans (ih M1)
theorem Fr_srt (hsp : ∀ M, Fr b M (sp M).2) (M : kMem) : Fr b M (srt b sp M).2 := by
  have h : Fr b M (tnh b sp M).2 := by
    unfold tnh
    split
    · split
      · exact Fr_up (by omega) (by omega)
      · exact (Fr_up (by omega) (by omega)).trans (Fr_wh hsp _ (by decide))
    · exact (Fr_up (by omega) (by omega)).trans (Fr_wh hsp _ (by decide))
  unfold srt
  rcases hx : tnh b sp M with ⟨ok, M1⟩
  rw [hx] at h
  cases ok
  · exact h
  · refine h.trans ?_
    show Fr b M1 (mnd b sp M1).2
    unfold mnd
    split
    · exact Fr.refl _ _
    · have h2 := Fr_mwn hsp 4 M1
      rcases hy : mwn b sp 4 M1 with ⟨ok, M2⟩
      rw [hy] at h2
      cases ok
      · exact h2
      · exact h2.trans ((Fr_up (by omega) (by omega)).trans (Fr_nx hsp _))
end FRS
theorem R_fr9 {M1 N1 : kMem} (r : R M1 N1) (f : Fr 9 M1 N1) : R N1 N1 := by
  unfold R at r ⊢
  rw [f.1 0 (by omega), f.1 1 (by omega), f.1 2 (by omega), f.1 3 (by omega), f.1 4 (by omega), f.1 5 (by omega)]
  exact r
theorem R_fr0 {M M1 N : kMem} (r : R M N) (f : Fr 0 N M1) : R M M1 := by
  unfold R at r ⊢
  rw [f.1 9 (by omega), f.1 10 (by omega), f.1 11 (by omega), f.1 12 (by omega), f.1 13 (by omega), f.1 14 (by omega)]
  exact r
theorem R_thr {M N : kMem} (c : Int32) (r : R M N) : R M (mw N 9 4 c) := by
  obtain ⟨p, a1, a2, a3, w, f, g1, g2, g3⟩ := r
  exact ⟨p, a1, a2, a3, w, f, g1, g2, g3⟩
theorem R_thr2 {M : kMem} (c : Int32) (r : R M M) : R (mw M 9 4 c) (mw M 9 4 c) := by
  obtain ⟨p, a1, a2, a3, w, f, g1, g2, g3⟩ := r
  exact ⟨p, a1, a2, a3, w, f, g1, g2, g3⟩
theorem R_off {M N : kMem} (r : R M N) (e : M 0 0 = 0) : ¬ N 9 0 = 0 := r.1.elim (fun z => absurd (z.1.symm.trans e) (by decide)) (fun z z2 => absurd (z.2.symm.trans z2) (by decide))
theorem R_on {M N : kMem} (r : R M N) (e : ¬ M 0 0 = 0) : RO M N := ⟨r, r.1.elim (fun z => z.1) (fun z => absurd z.1 e)⟩
end
section
/-! a call of the system, and behind it the same call of the reference -/
def pI (cd : String → Option Nat) (dm mm : Nat) (as : List Value) : kRes → Prop := fun r => match r with
  | .inl (some (.int x), M1) => kC dm mm as M1 (fun r' => ∃ y M2, r' = rI y M2 ∧ M2 9 4 = nI 0 ∧ y = x ∧ R M2 M2)
  | .inr (E, M1) => ∃ k, cd E = some k ∧ kC dm mm as M1 (fun r' => ∃ y M2, r' = rI y M2 ∧ M2 9 4 = nI k ∧ R M2 M2)
  | _ => False
def pV (cd : String → Option Nat) (dm mm : Nat) (as : List Value) : kRes → Prop := fun r => match r with
  | .inl (none, M1) => kC dm mm as M1 (fun r' => ∃ M2, r' = rV M2 ∧ M2 9 4 = nI 0 ∧ R M2 M2)
  | .inr (E, M1) => ∃ k, cd E = some k ∧ kC dm mm as M1 (fun r' => ∃ M2, r' = rV M2 ∧ M2 9 4 = nI k ∧ R M2 M2)
  | _ => False
def pQ (dm mm : Nat) (as : List Value) : kRes → Prop := fun r => match r with
  | .inl (some (.int x), M1) => kC dm mm as M1 (fun r' => ∃ M2, r' = rI x M2 ∧ R M2 M2)
  | _ => False
def cdS (E : String) : Option Nat := if E = eS then some 1 else none
def cdB (E : String) : Option Nat := if E = eB then some 1 else none
def cdA (E : String) : Option Nat := if E = eA then some 1 else none
def cdSB (E : String) : Option Nat := if E = eS then some 1 else if E = eB then some 2 else none
def cdSBU (E : String) : Option Nat := if E = eS then some 1 else if E = eB then some 2 else if E = eU then some 3 else none
theorem pI_x {cd : String → Option Nat} {dm mm k : Nat} {as : List Value} {E : String} {M1 : kMem} (h : cd E = some k) (hk : kC dm mm as M1 (fun r' => ∃ y M2, r' = rI y M2 ∧ M2 9 4 = nI k ∧ R M2 M2)) : pI cd dm mm as (rX E M1) := ⟨k, h, hk⟩
theorem pI_i {cd : String → Option Nat} {dm mm : Nat} {as : List Value} {x : Int32} {M1 : kMem} (hk : kC dm mm as M1 (fun r' => ∃ y M2, r' = rI y M2 ∧ M2 9 4 = nI 0 ∧ y = x ∧ R M2 M2)) : pI cd dm mm as (rI x M1) := hk
theorem pV_x {cd : String → Option Nat} {dm mm k : Nat} {as : List Value} {E : String} {M1 : kMem} (h : cd E = some k) (hk : kC dm mm as M1 (fun r' => ∃ M2, r' = rV M2 ∧ M2 9 4 = nI k ∧ R M2 M2)) : pV cd dm mm as (rX E M1) := ⟨k, h, hk⟩
theorem pV_v {cd : String → Option Nat} {dm mm : Nat} {as : List Value} {M1 : kMem} (hk : kC dm mm as M1 (fun r' => ∃ M2, r' = rV M2 ∧ M2 9 4 = nI 0 ∧ R M2 M2)) : pV cd dm mm as (rV M1) := hk
theorem pQ_i {dm mm : Nat} {as : List Value} {x : Int32} {M1 : kMem} (hk : kC dm mm as M1 (fun r' => ∃ M2, r' = rI x M2 ∧ R M2 M2)) : pQ dm mm as (rI x M1) := hk
/-- the system's call, its answer split -/
theorem pI_thi {cd : String → Option Nat} {dm mm : Nat} {as : List Value} {q : Bool × kMem} {x : Int32} (hc : cd eS = some 1) (h1 : ∀ M1, q = (true, M1) → kC dm mm as M1 (fun r' => ∃ y M2, r' = rI y M2 ∧ M2 9 4 = nI 0 ∧ y = x ∧ R M2 M2)) (h2 : ∀ M1, q = (false, M1) → kC dm mm as M1 (fun r' => ∃ y M2, r' = rI y M2 ∧ M2 9 4 = nI 1 ∧ R M2 M2)) : pI cd dm mm as (thi q x) := by
  obtain ⟨ok, M1⟩ := q
  cases ok
  · exact pI_x hc (h2 M1 rfl)
  · exact pI_i (h1 M1 rfl)
theorem pV_thr {cd : String → Option Nat} {dm mm : Nat} {as : List Value} {q : Bool × kMem} (hc : cd eS = some 1) (h1 : ∀ M1, q = (true, M1) → kC dm mm as M1 (fun r' => ∃ M2, r' = rV M2 ∧ M2 9 4 = nI 0 ∧ R M2 M2)) (h2 : ∀ M1, q = (false, M1) → kC dm mm as M1 (fun r' => ∃ M2, r' = rV M2 ∧ M2 9 4 = nI 1 ∧ R M2 M2)) : pV cd dm mm as (thr q) := by
  obtain ⟨ok, M1⟩ := q
  cases ok
  · exact pV_x hc (h2 M1 rfl)
  · exact pV_v (h1 M1 rfl)
theorem mri_t {M1 : kMem} {q : Bool × kMem} {x y : Int32} (rb : RB (true, M1) q) (fr : Fr 9 M1 q.2) (h0 : q.2 9 4 = nI 0) (e : y = x) : ∃ y' M2, mri q y = rI y' M2 ∧ M2 9 4 = nI 0 ∧ y' = x ∧ R M2 M2 := by
  obtain ⟨ok, N⟩ := q
  obtain ⟨r1, r2, -⟩ := rb
  have r1 : true = ok := r1
  subst r1
  exact ⟨y, N, rfl, h0, e, R_fr9 r2 fr⟩
theorem mri_f {M1 : kMem} {q : Bool × kMem} {y : Int32} (rb : RB (false, M1) q) (fr : Fr 9 M1 q.2) : ∃ y' M2, mri q y = rI y' M2 ∧ M2 9 4 = nI 1 ∧ R M2 M2 := by
  obtain ⟨ok, N⟩ := q
  obtain ⟨r1, r2, -⟩ := rb
  have r1 : false = ok := r1
  subst r1
  exact ⟨nI 0, _, rfl, rfl, R_thr2 _ (R_fr9 r2 fr)⟩
theorem mrv_t {M1 : kMem} {q : Bool × kMem} (rb : RB (true, M1) q) (fr : Fr 9 M1 q.2) : ∃ M2, mrv q = rV M2 ∧ M2 9 4 = nI 0 ∧ R M2 M2 := by
  obtain ⟨ok, N⟩ := q
  obtain ⟨r1, r2, -⟩ := rb
  have r1 : true = ok := r1
  subst r1
  exact ⟨_, rfl, rfl, R_thr2 _ (R_fr9 r2 fr)⟩
theorem mrv_f {M1 : kMem} {q : Bool × kMem} (rb : RB (false, M1) q) (fr : Fr 9 M1 q.2) : ∃ M2, mrv q = rV M2 ∧ M2 9 4 = nI 1 ∧ R M2 M2 := by
  obtain ⟨ok, N⟩ := q
  obtain ⟨r1, r2, -⟩ := rb
  have r1 : false = ok := r1
  subst r1
  exact ⟨_, rfl, rfl, R_thr2 _ (R_fr9 r2 fr)⟩
/-- thrown is written, the rest stays -/
def Ft (M N : kMem) : Prop := ∀ k, (k < 9 ∨ 14 < k) → N k = M k
theorem R_ft {M1 N1 : kMem} (r : R M1 N1) (f : Ft M1 N1) : R N1 N1 := by
  unfold R at r ⊢
  rw [f 0 (by omega), f 1 (by omega), f 2 (by omega), f 3 (by omega), f 4 (by omega), f 5 (by omega)]
  exact r
theorem Ft_thr {M1 N : kMem} {c : Int32} (f : Fr 9 (mw M1 9 4 c) N) : Ft M1 N := fun k hk => (f.1 k (by omega)).trans (va_up_ne _ _ (by omega))
theorem mri_T {M1 : kMem} {q : Bool × kMem} {x y : Int32} (rb : RB (true, M1) q) (fr : Fr 9 (mw M1 9 4 (nI 0)) q.2) (e : y = x) : ∃ y' M2, mri q y = rI y' M2 ∧ M2 9 4 = nI 0 ∧ y' = x ∧ R M2 M2 := by
  obtain ⟨ok, N⟩ := q
  obtain ⟨r1, r2, -⟩ := rb
  have r1 : true = ok := r1
  subst r1
  exact ⟨y, N, rfl, fr.2, e, R_ft r2 (Ft_thr fr)⟩
theorem mri_F {M1 : kMem} {q : Bool × kMem} {y : Int32} (rb : RB (false, M1) q) (fr : Fr 9 (mw M1 9 4 (nI 0)) q.2) : ∃ y' M2, mri q y = rI y' M2 ∧ M2 9 4 = nI 1 ∧ R M2 M2 := by
  obtain ⟨ok, N⟩ := q
  obtain ⟨r1, r2, -⟩ := rb
  have r1 : false = ok := r1
  subst r1
  exact ⟨nI 0, _, rfl, rfl, R_thr2 _ (R_ft r2 (Ft_thr fr))⟩
theorem mrv_T {M1 : kMem} {q : Bool × kMem} (rb : RB (true, M1) q) (fr : Fr 9 (mw M1 9 4 (nI 0)) q.2) : ∃ M2, mrv q = rV M2 ∧ M2 9 4 = nI 0 ∧ R M2 M2 := by
  obtain ⟨ok, N⟩ := q
  obtain ⟨r1, r2, -⟩ := rb
  have r1 : true = ok := r1
  subst r1
  exact ⟨_, rfl, rfl, R_thr2 _ (R_ft r2 (Ft_thr fr))⟩
theorem mrv_F {M1 : kMem} {q : Bool × kMem} (rb : RB (false, M1) q) (fr : Fr 9 (mw M1 9 4 (nI 0)) q.2) : ∃ M2, mrv q = rV M2 ∧ M2 9 4 = nI 1 ∧ R M2 M2 := by
  obtain ⟨ok, N⟩ := q
  obtain ⟨r1, r2, -⟩ := rb
  have r1 : false = ok := r1
  subst r1
  exact ⟨_, rfl, rfl, R_thr2 _ (R_ft r2 (Ft_thr fr))⟩
section OPS
variable {d dm : Nat} {M : kMem}
theorem op_makeVolume (r : R M M) : kC (d + 3) kc_makeVolume [.ref 0] M (pI cdS (dm + 3) km_makeVolume [.ref 9]) := by
  obtain ⟨n, rn, w⟩ := r.hh
  have w' := wn.other rn w
  refine c_makeVolume w.1 w.2.1 (fun e => ?_) (fun e en => ?_) (fun e hn => ?_)
  · refine pI_x rfl (m_makeVolume w'.1 w'.2.1 (fun _ => ⟨_, _, rfl, rfl, R_thr2 _ r⟩) (fun e2 => absurd e2 (R_off r e)) (fun e2 => absurd e2 (R_off r e)))
  · have ro := R_on r e
    refine pI_i (m_makeVolume w'.1 w'.2.1 (fun e2 => absurd ro.off e2) (fun _ _ => ⟨_, _, rfl, rfl, rfl, R_thr2 _ r⟩) (fun _ hn => absurd hn (by omega)))
  · have ro := R_on r e
    have fr : ∀ q, nx 0 spC (mw (mw (mw (mw M 4 1 (nI n + nI 1)) 4 (2 + n) (nI 0)) 4 (8 + n) (nI 0)) 4 (14 + n) (nI 0)) = q → Fr 0 M q.2 := by
      intro q hq
      rw [← hq]
      exact ((((Fr_mw (by omega) (by omega)).trans (Fr_mw (by omega) (by omega))).trans (Fr_mw (by omega) (by omega))).trans (Fr_mw (by omega) (by omega))).trans (Fr_nx Fr_spC _)
    have go : ∀ M1 : kMem, Fr 0 M M1 → RB (nx 0 spC (mw (mw (mw (mw M 4 1 (nI n + nI 1)) 4 (2 + n) (nI 0)) 4 (8 + n) (nI 0)) 4 (14 + n) (nI 0))) (nx 9 spM (mw (mw (mw M1 9 4 (nI 0)) 13 1 (nI n + nI 1)) 13 (2 + n) (nI 0))) := by
      intro M1 f1
      refine R_nx ?_
      have e1 : mw (mw (mw (mw M 4 1 (nI n + nI 1)) 4 (2 + n) (nI 0)) 4 (8 + n) (nI 0)) 4 (14 + n) (nI 0) = va_up M 4 (upd (upd (upd (upd (M 4) 1 (nI n + nI 1)) (2 + n) (nI 0)) (8 + n) (nI 0)) (14 + n) (nI 0)) := by
        show mw (mw (mw (va_up M 4 _) 4 _ _) 4 _ _) 4 _ _ = _
        rw [mw_up, mw_up, mw_up]
      have e2 : mw (mw (mw M1 9 4 (nI 0)) 13 1 (nI n + nI 1)) 13 (2 + n) (nI 0) = va_up (mw M1 9 4 (nI 0)) 13 (upd (upd (M1 13) 1 (nI n + nI 1)) (2 + n) (nI 0)) := by
        show mw (va_up (mw M1 9 4 (nI 0)) 13 _) 13 _ _ = _
        rw [mw_up]
        rfl
      rw [e1, e2, f1.1 13 (by omega)]
      have r2 : RO M (mw M1 9 4 (nI 0)) := ⟨R_thr _ (R_fr0 r f1), ro.2⟩
      obtain ⟨q1, q2⟩ := add_HR rn w hn
      exact R_hand r2 ⟨n + 1, q1, q2⟩
    have fr9 : ∀ M1 : kMem, Fr 9 (mw M1 9 4 (nI 0)) (nx 9 spM (mw (mw (mw M1 9 4 (nI 0)) 13 1 (nI n + nI 1)) 13 (2 + n) (nI 0))).2 := fun M1 => ((Fr_mw (by omega) (by omega)).trans (Fr_mw (by omega) (by omega))).trans (Fr_nx Fr_spM _)
    have mc : ∀ M1 : kMem, Fr 0 M M1 → M1 13 1 = nI n := fun M1 f1 => by rw [f1.1 13 (by omega)]; exact w'.2.1
    have mo : ∀ M1 : kMem, Fr 0 M M1 → M1 9 0 = 0 := fun M1 f1 => by rw [f1.1 9 (by omega)]; exact ro.off
    refine pI_thi rfl (fun M1 hq => ?_) (fun M1 hq => ?_)
    · have f1 := fr _ hq
      have rb := go M1 f1
      rw [hq] at rb
      exact m_makeVolume w'.1 (mc M1 f1) (fun e2 => absurd (mo M1 f1) e2) (fun _ z => absurd z (by omega)) (fun _ _ => mri_T rb (fr9 M1) rfl)
    · have f1 := fr _ hq
      have rb := go M1 f1
      rw [hq] at rb
      exact m_makeVolume w'.1 (mc M1 f1) (fun e2 => absurd (mo M1 f1) e2) (fun _ z => absurd z (by omega)) (fun _ _ => mri_F rb (fr9 M1))
theorem nI_inj {a b : Nat} (ha : a < 1000) (hb : b < 1000) (h : nI a = nI b) : a = b := (nI_eq (by omega) (by omega)).mp h
theorem op_write {x t k w y : Int32} (r : R M M) : kC (d + 5) kc_write [.ref 0, .int x, .int t, .int k, .int w, .int y] M (pV cdSB (dm + 4) km_write [.ref 9, .int x, .int t, .int k, .int w, .int y]) := by
  refine c_write r.hh.wfh (fun e => ?_) (fun e e2 => ?_) (fun v s u j i e e2 e3 hv ex hs es hu eu hj ek hi ew => ?_)
  · exact pV_x rfl (m_write r.hh.wfg (fun _ => ⟨_, rfl, rfl, R_thr2 _ r⟩) (fun e2 => absurd e2 (R_off r e)) (fun _ _ _ _ _ e2 => absurd e2 (R_off r e)))
  · have ro := R_on r e
    refine pV_x rfl (m_write r.hh.wfg (fun e3 => absurd ro.off e3) (fun _ _ => ⟨_, rfl, rfl, R_thr2 _ r⟩) (fun v s u j i _ e9 => ?_))
    rw [← r.hh.bb, e2] at e9
    exact Bool.noConfusion e9
  · have ro := R_on r e
    have ev : isV (M 4) (nI v) = true := by
      unfold isB at e2
      rw [Bool.and_eq_true, Bool.and_eq_true] at e2
      rw [← ex]
      exact e2.1.1
    have fr : ∀ q, put 0 spC (mw (tk 0 M u v j) 5 i y) v u j = q → Fr 0 M q.2 := by
      intro q hq
      rw [← hq]
      exact ((Fr_tk _ _ _ _).trans (Fr_mw (by omega) (by omega))).trans (Fr_put Fr_spC _ _ _ _)
    have go : ∀ M1 : kMem, Fr 0 M M1 → RB (put 0 spC (mw (tk 0 M u v j) 5 i y) v u j) (put 9 spM (mw (tk 9 (mw M1 9 4 (nI 0)) u v j) 14 i y) v u j) := by
      intro M1 f1
      have r2 : RO M (mw M1 9 4 (nI 0)) := ⟨R_thr _ (R_fr0 r f1), ro.2⟩
      have r3 := R_tk r2 u v j
      have r4 : RO (mw (tk 0 M u v j) 5 i y) (mw (tk 9 (mw M1 9 4 (nI 0)) u v j) 14 i y) := R_fresh r3 (by rw [r3.1.ff])
      exact R_put r4 hv ev hu hj es hs
    have fr9 : ∀ M1 : kMem, Fr 9 (mw M1 9 4 (nI 0)) (put 9 spM (mw (tk 9 (mw M1 9 4 (nI 0)) u v j) 14 i y) v u j).2 := fun M1 => ((Fr_tk _ _ _ _).trans (Fr_mw (by omega) (by omega))).trans (Fr_put Fr_spM _ _ _ _)
    have run : ∀ (M1 : kMem) (P : kRes → Prop), Fr 0 M M1 → P (mrv (put 9 spM (mw (tk 9 (mw M1 9 4 (nI 0)) u v j) 14 i y) v u j)) → kC (dm + 4) km_write [.ref 9, .int x, .int t, .int k, .int w, .int y] M1 P := by
      intro M1 P f1 h
      have r1 := R_fr0 r f1
      refine m_write r1.hh.wfg (fun e9 => absurd (R_on r1 e).off e9) (fun _ e9 => ?_) (fun v' s' u' j' i' _ _ hv' ex' hs' es' hu' eu' hj' ek' hi' ew' => ?_)
      · rw [← r1.hh.bb, e2, e3] at e9
        exact Bool.noConfusion e9
      · have q1 : v = v' := nI_inj (by omega) (by omega) (ex.symm.trans ex')
        subst q1
        have q2 : s = s' := nI_inj (by omega) (by omega) (es.symm.trans ((r1.stt hv ev).trans es'))
        subst q2
        have q3 : u = u' := nI_inj (by omega) (by omega) (eu.symm.trans eu')
        subst q3
        have q4 : j = j' := nI_inj (by omega) (by omega) (ek.symm.trans ek')
        subst q4
        have q5 : i = i' := nI_inj (by omega) (by omega) (ew.symm.trans ew')
        subst q5
        exact h
    refine pV_thr rfl (fun M1 hq => ?_) (fun M1 hq => ?_)
    · have f1 := fr _ hq
      have rb := go M1 f1
      rw [hq] at rb
      exact run M1 _ f1 (mrv_T rb (fr9 M1))
    · have f1 := fr _ hq
      have rb := go M1 f1
      rw [hq] at rb
      exact run M1 _ f1 (mrv_F rb (fr9 M1))
theorem op_fill {x t k a0 a1 a2 a3 : Int32} (r : R M M) : kC (d + 5) kc_fill [.ref 0, .int x, .int t, .int k, .int a0, .int a1, .int a2, .int a3] M (pV cdSB (dm + 4) km_fill [.ref 9, .int x, .int t, .int k, .int a0, .int a1, .int a2, .int a3]) := by
  refine c_fill r.hh.wfh (fun e => ?_) (fun e e2 => ?_) (fun v s u j e e2 hv ex hs es hu eu hj ek => ?_)
  · exact pV_x rfl (m_fill r.hh.wfg (fun _ => ⟨_, rfl, rfl, R_thr2 _ r⟩) (fun e2 => absurd e2 (R_off r e)) (fun _ _ _ _ e2 => absurd e2 (R_off r e)))
  · have ro := R_on r e
    refine pV_x rfl (m_fill r.hh.wfg (fun e3 => absurd ro.off e3) (fun _ _ => ⟨_, rfl, rfl, R_thr2 _ r⟩) (fun v s u j _ e9 => ?_))
    rw [← r.hh.bb, e2] at e9
    exact Bool.noConfusion e9
  · have ro := R_on r e
    have ev : isV (M 4) (nI v) = true := by
      unfold isB at e2
      rw [Bool.and_eq_true, Bool.and_eq_true] at e2
      rw [← ex]
      exact e2.1.1
    have fr : ∀ q, put 0 spC (mw (mw (mw (mw M 5 0 a0) 5 1 a1) 5 2 a2) 5 3 a3) v u j = q → Fr 0 M q.2 := by
      intro q hq
      rw [← hq]
      exact ((((Fr_mw (by omega) (by omega)).trans (Fr_mw (by omega) (by omega))).trans (Fr_mw (by omega) (by omega))).trans (Fr_mw (by omega) (by omega))).trans (Fr_put Fr_spC _ _ _ _)
    have go : ∀ M1 : kMem, Fr 0 M M1 → RB (put 0 spC (mw (mw (mw (mw M 5 0 a0) 5 1 a1) 5 2 a2) 5 3 a3) v u j) (put 9 spM (mw (mw (mw (mw (mw M1 9 4 (nI 0)) 14 0 a0) 14 1 a1) 14 2 a2) 14 3 a3) v u j) := by
      intro M1 f1
      have r2 : RO M (mw M1 9 4 (nI 0)) := ⟨R_thr _ (R_fr0 r f1), ro.2⟩
      have step : ∀ {A B : kMem} (i : Nat) (a : Int32), RO A B → RO (mw A 5 i a) (mw B 14 i a) := fun i a h => R_fresh h (by rw [h.1.ff])
      exact R_put (step 3 a3 (step 2 a2 (step 1 a1 (step 0 a0 r2)))) hv ev hu hj es hs
    have fr9 : ∀ M1 : kMem, Fr 9 (mw M1 9 4 (nI 0)) (put 9 spM (mw (mw (mw (mw (mw M1 9 4 (nI 0)) 14 0 a0) 14 1 a1) 14 2 a2) 14 3 a3) v u j).2 := fun M1 => ((((Fr_mw (by omega) (by omega)).trans (Fr_mw (by omega) (by omega))).trans (Fr_mw (by omega) (by omega))).trans (Fr_mw (by omega) (by omega))).trans (Fr_put Fr_spM _ _ _ _)
    have run : ∀ (M1 : kMem) (P : kRes → Prop), Fr 0 M M1 → P (mrv (put 9 spM (mw (mw (mw (mw (mw M1 9 4 (nI 0)) 14 0 a0) 14 1 a1) 14 2 a2) 14 3 a3) v u j)) → kC (dm + 4) km_fill [.ref 9, .int x, .int t, .int k, .int a0, .int a1, .int a2, .int a3] M1 P := by
      intro M1 P f1 h
      have r1 := R_fr0 r f1
      refine m_fill r1.hh.wfg (fun e9 => absurd (R_on r1 e).off e9) (fun _ e9 => ?_) (fun v' s' u' j' _ _ hv' ex' hs' es' hu' eu' hj' ek' => ?_)
      · rw [← r1.hh.bb, e2] at e9
        exact Bool.noConfusion e9
      · have q1 : v = v' := nI_inj (by omega) (by omega) (ex.symm.trans ex')
        subst q1
        have q2 : s = s' := nI_inj (by omega) (by omega) (es.symm.trans ((r1.stt hv ev).trans es'))
        subst q2
        have q3 : u = u' := nI_inj (by omega) (by omega) (eu.symm.trans eu')
        subst q3
        have q4 : j = j' := nI_inj (by omega) (by omega) (ek.symm.trans ek')
        subst q4
        exact h
    refine pV_thr rfl (fun M1 hq => ?_) (fun M1 hq => ?_)
    · have f1 := fr _ hq
      have rb := go M1 f1
      rw [hq] at rb
      exact run M1 _ f1 (mrv_T rb (fr9 M1))
    · have f1 := fr _ hq
      have rb := go M1 f1
      rw [hq] at rb
      exact run M1 _ f1 (mrv_F rb (fr9 M1))
theorem op_read {x t k w : Int32} (r : R M M) : kC (d + 5) kc_read [.ref 0, .int x, .int t, .int k, .int w] M (pI cdSB (dm + 3) km_read [.ref 9, .int x, .int t, .int k, .int w]) := by
  refine c_read r.hh.wfh (fun e => ?_) (fun e e2 => ?_) (fun v s u j i e e2 e3 hv ex hs es hu eu hj ek hi ew => ?_)
  · exact pI_x rfl (m_read r.hh.wfg (fun _ => ⟨_, _, rfl, rfl, R_thr2 _ r⟩) (fun e2 => absurd e2 (R_off r e)) (fun _ _ _ _ _ e2 => absurd e2 (R_off r e)))
  · have ro := R_on r e
    refine pI_x rfl (m_read r.hh.wfg (fun e3 => absurd ro.off e3) (fun _ _ => ⟨_, _, rfl, rfl, R_thr2 _ r⟩) (fun v s u j i _ e9 => ?_))
    rw [← r.hh.bb, e2] at e9
    exact Bool.noConfusion e9
  · have ro := R_on r e
    have ev : isV (M 4) (nI v) = true := by
      unfold isB at e2
      rw [Bool.and_eq_true, Bool.and_eq_true] at e2
      rw [← ex]
      exact e2.1.1
    refine pI_i (m_read r.hh.wfg (fun e9 => absurd ro.off e9) (fun _ e9 => ?_) (fun v' s' u' j' i' _ _ hv' ex' hs' es' hu' eu' hj' ek' hi' ew' => ?_))
    · rw [← r.hh.bb, e2, e3] at e9
      exact Bool.noConfusion e9
    · have q1 : v = v' := nI_inj (by omega) (by omega) (ex.symm.trans ex')
      subst q1
      have q2 : s = s' := nI_inj (by omega) (by omega) (es.symm.trans ((r.stt hv ev).trans es'))
      subst q2
      have q3 : u = u' := nI_inj (by omega) (by omega) (eu.symm.trans eu')
      subst q3
      have q4 : j = j' := nI_inj (by omega) (by omega) (ek.symm.trans ek')
      subst q4
      have q5 : i = i' := nI_inj (by omega) (by omega) (ew.symm.trans ew')
      subst q5
      exact ⟨_, _, rfl, rfl, by rw [r.ww], R_thr2 _ r⟩
theorem op_split (r : R M M) : kC (d + 3) kc_split [.ref 0] M (pI cdS (dm + 3) km_split [.ref 9]) := by
  obtain ⟨n, rn, w⟩ := r.hh
  have w' := wn.other rn w
  have hn6 := w.1
  have hW : ∀ i, i < 4 → ¬ M 13 (20 + i) = -1 → ∃ p, p < 48 ∧ M 13 (20 + i) = nI p := by
    intro i hi e
    obtain ⟨c, hc, g1, g2⟩ := w'.2.2.2
    rcases Nat.lt_or_ge i c with z | z
    · obtain ⟨p, hp, ep⟩ := g1 i z
      exact ⟨p, by omega, ep⟩
    · exact absurd (g2 i z hi) e
  refine c_split w.1 w.2.1 (fun e => ?_) (fun e => ?_)
  · exact pI_x rfl (m_split w'.1 w'.2.1 hW (fun _ => ⟨_, _, rfl, rfl, R_thr2 _ r⟩) (fun e2 => absurd e2 (R_off r e)))
  · have ro := R_on r e
    obtain ⟨s1, s2⟩ := split_HR rn w
    generalize hq : spCn n n 0 (M 4) = q at s1 s2
    generalize hq' : spMn n n 0 (wkp (M 13) (kpM (M 13))) = q' at s1 s2
    have run : ∀ (M1 : kMem) (P : kRes → Prop), Fr 0 M M1 → P (if q'.1 = 0 then rI (nI 0) (va_up (mw M1 9 4 (nI 0)) 13 q'.2) else mri (nx 9 spM (va_up (mw M1 9 4 (nI 0)) 13 q'.2)) (nI q'.1)) → kC (dm + 3) km_split [.ref 9] M1 P := by
      intro M1 P f1 h
      have e13 : M1 13 = M 13 := f1.1 13 (by omega)
      refine m_split w'.1 (by rw [e13]; exact w'.2.1) (by rw [e13]; exact hW) (fun e9 => absurd ?_ e9) (fun _ => ?_)
      · rw [f1.1 9 (by omega)]
        exact ro.off
      · rw [e13, hq']
        exact h
    show pI cdS (dm + 3) km_split [.ref 9] (if q.1 = 0 then rI (nI 0) (va_up M 4 q.2) else thi (nx 0 spC (va_up M 4 q.2)) (nI q.1))
    rw [← s1] at run
    by_cases e0 : q.1 = 0
    · rw [if_pos e0]
      simp only [if_pos e0] at run
      have f1 : Fr 0 M (va_up M 4 q.2) := Fr_up (by omega) (by omega)
      refine pI_i (run _ _ f1 ⟨_, _, rfl, rfl, rfl, ?_⟩)
      have r2 : R (va_up M 4 q.2) (va_up (mw (va_up M 4 q.2) 9 4 (nI 0)) 13 q'.2) := by
        obtain ⟨p, a1, a2, a3, w, f, g1, g2, g3⟩ := r
        exact ⟨p, a1, a2, a3, w, f, g1, g2, s2⟩
      exact R_ft r2 (fun k hk => by rw [va_up_ne _ _ (by omega)]; exact va_up_ne _ _ (by omega))
    · rw [if_neg e0]
      simp only [if_neg e0] at run
      have fr : ∀ q9, nx 0 spC (va_up M 4 q.2) = q9 → Fr 0 M q9.2 := fun q9 h9 => by
        rw [← h9]
        exact (Fr_up (by omega) (by omega)).trans (Fr_nx Fr_spC _)
      have go : ∀ M1 : kMem, Fr 0 M M1 → RB (nx 0 spC (va_up M 4 q.2)) (nx 9 spM (va_up (mw M1 9 4 (nI 0)) 13 q'.2)) := fun M1 f1 => R_nx (R_hand ⟨R_thr _ (R_fr0 r f1), ro.2⟩ s2)
      have fr9 : ∀ M1 : kMem, Fr 9 (mw M1 9 4 (nI 0)) (nx 9 spM (va_up (mw M1 9 4 (nI 0)) 13 q'.2)).2 := fun M1 => (Fr_up (by omega) (by omega)).trans (Fr_nx Fr_spM _)
      refine pI_thi rfl (fun M1 h9 => ?_) (fun M1 h9 => ?_)
      · have f1 := fr _ h9
        have rb := go M1 f1
        rw [h9] at rb
        exact run M1 _ f1 (mri_T rb (fr9 M1) rfl)
      · have f1 := fr _ h9
        have rb := go M1 f1
        rw [h9] at rb
        exact run M1 _ f1 (mri_F rb (fr9 M1))
theorem op_rejoin {x t : Int32} (r : R M M) : kC (d + 3) kc_rejoin [.ref 0, .int x, .int t] M (pV cdSBU (dm + 3) km_rejoin [.ref 9, .int x, .int t]) := by
  refine c_rejoin r.hh.wfh (fun e => ?_) (fun e e2 => ?_) (fun v u e ev hv ex hu et es => ?_) (fun v u e ev hv ex hu et es => ?_)
  · exact pV_x rfl (m_rejoin r.hh.wfg (fun _ => ⟨_, rfl, rfl, R_thr2 _ r⟩) (fun e2 => absurd e2 (R_off r e)) (fun _ _ e2 => absurd e2 (R_off r e)) (fun _ _ e2 => absurd e2 (R_off r e)))
  · have ro := R_on r e
    have bad : ∀ {v u : Nat}, isV (M 13) x = true → u < 2 → t = nI u → False := by
      intro v u q1 q2 q3
      rw [← r.hh.vv] at q1
      rw [q1, q3, inR_nI q2 (by decide)] at e2
      exact Bool.noConfusion e2
    exact pV_x rfl (m_rejoin r.hh.wfg (fun e9 => absurd ro.off e9) (fun _ _ => ⟨_, rfl, rfl, R_thr2 _ r⟩) (fun v u _ q1 _ _ q2 q3 _ => (bad (v := v) q1 q2 q3).elim) (fun v u _ q1 _ _ q2 q3 _ => (bad (v := v) q1 q2 q3).elim))
  · have ro := R_on r e
    have e9 : (isV (M 13) x && inR t 2) = true := by rw [← r.hh.vv, ev, et, inR_nI hu (by decide)]; rfl
    subst ex
    refine pV_x rfl (m_rejoin r.hh.wfg (fun e9 => absurd ro.off e9) (fun _ q => absurd (e9.symm.trans q) (by decide)) (fun v' u' _ _ _ _ _ _ _ => ⟨_, rfl, rfl, R_thr2 _ r⟩) (fun v' u' _ _ hv' ex' _ _ q => ?_))
    have q1 : v = v' := nI_inj (by omega) (by omega) ex'
    subst q1
    exact absurd ((r.stt hv ev).trans q) es
  · have ro := R_on r e
    subst ex
    have fr : ∀ q, nx 0 spC (mw M 4 (2 + v) (nI (2 + u))) = q → Fr 0 M q.2 := fun q hq => by
      rw [← hq]
      exact (Fr_mw (by omega) (by omega)).trans (Fr_nx Fr_spC _)
    have go : ∀ M1 : kMem, Fr 0 M M1 → RB (nx 0 spC (mw M 4 (2 + v) (nI (2 + u)))) (nx 9 spM (mw (mw M1 9 4 (nI 0)) 13 (2 + v) (nI (2 + u)))) := by
      intro M1 f1
      have r2 : RO M (mw M1 9 4 (nI 0)) := ⟨R_thr _ (R_fr0 r f1), ro.2⟩
      refine R_nx (R_hand r2 ?_)
      obtain ⟨n, rn, w⟩ := r2.1.hh
      have hn := w.1
      have hvn := w.lt hv ev
      exact ⟨n, rn.up (by unfold kab; omega), w.st hvn (by omega) (fun z => absurd z (by omega))⟩
    have fr9 : ∀ M1 : kMem, Fr 9 (mw M1 9 4 (nI 0)) (nx 9 spM (mw (mw M1 9 4 (nI 0)) 13 (2 + v) (nI (2 + u)))).2 := fun M1 => (Fr_mw (by omega) (by omega)).trans (Fr_nx Fr_spM _)
    have run : ∀ (M1 : kMem) (P : kRes → Prop), Fr 0 M M1 → P (mrv (nx 9 spM (mw (mw M1 9 4 (nI 0)) 13 (2 + v) (nI (2 + u))))) → kC (dm + 3) km_rejoin [.ref 9, .int (nI v), .int t] M1 P := by
      intro M1 P f1 h
      have r1 := R_fr0 r f1
      have e9 : (isV (M1 13) (nI v) && inR t 2) = true := by rw [← r1.hh.vv, ev, et, inR_nI hu (by decide)]; rfl
      refine m_rejoin r1.hh.wfg (fun e9 => absurd (R_on r1 e).off e9) (fun _ q => absurd (e9.symm.trans q) (by decide)) (fun v' u' _ _ hv' ex' _ _ q => ?_) (fun v' u' _ _ hv' ex' hu' et' q => ?_)
      · have q1 : v = v' := nI_inj (by omega) (by omega) ex'
        subst q1
        exact absurd ((r1.stt hv ev).symm.trans es) q
      · have q1 : v = v' := nI_inj (by omega) (by omega) ex'
        subst q1
        have q2 : u = u' := nI_inj (by omega) (by omega) (et.symm.trans et')
        subst q2
        exact h
    refine pV_thr rfl (fun M1 hq => ?_) (fun M1 hq => ?_)
    · have f1 := fr _ hq
      have rb := go M1 f1
      rw [hq] at rb
      exact run M1 _ f1 (mrv_T rb (fr9 M1))
    · have f1 := fr _ hq
      have rb := go M1 f1
      rw [hq] at rb
      exact run M1 _ f1 (mrv_F rb (fr9 M1))
end OPS
end
section
/-! a call of the system, and behind it the same call of the reference: the rest -/
section OPT
variable {d dm : Nat} {M : kMem}
theorem op_step {x : Int32} (r : R M M) : kC (d + 6) kc_step [.ref 0, .int x] M (pI cdSBU (dm + 5) km_step [.ref 9, .int x]) := by
  refine c_stepF r.hh.wfh (fun e => ?_) (fun e e2 => ?_) (fun v s e ev hv ex hs es => ?_) (fun v s e ev hv ex hs hs2 es => ?_)
  · exact pI_x rfl (m_step r.hh.wfg (fun _ => ⟨_, _, rfl, rfl, R_thr2 _ r⟩) (fun e2 => absurd e2 (R_off r e)) (fun _ _ e2 => absurd e2 (R_off r e)) (fun _ _ e2 => absurd e2 (R_off r e)))
  · have ro := R_on r e
    have e3 : isV (M 13) x = false := by rw [← r.hh.vv]; exact e2
    exact pI_x rfl (m_step r.hh.wfg (fun e9 => absurd ro.off e9) (fun _ _ => ⟨_, _, rfl, rfl, R_thr2 _ r⟩) (fun _ _ _ q => absurd (e3.symm.trans q) (by decide)) (fun _ _ _ q => absurd (e3.symm.trans q) (by decide)))
  · have ro := R_on r e
    subst ex
    have e3 : isV (M 13) (nI v) = true := by rw [← r.hh.vv]; exact ev
    refine pI_x rfl (m_step r.hh.wfg (fun e9 => absurd ro.off e9) (fun _ q => absurd (e3.symm.trans q) (by decide)) (fun _ _ _ _ _ _ _ _ => ⟨_, _, rfl, rfl, R_thr2 _ r⟩) (fun v' s' _ _ hv' ex' hs' hs2' es' => ?_))
    have q1 : v = v' := nI_inj (by omega) (by omega) ex'
    subst q1
    have q2 : s = s' := nI_inj (by omega) (by omega) (es.symm.trans ((r.stt hv ev).trans es'))
    omega
  · have ro := R_on r e
    subst ex
    have fr : ∀ q, stp 0 spC M v (s - 2) = q → Fr 0 M q.2 := fun q hq => by
      rw [← hq]
      exact Fr_stp Fr_spC _ _ _
    have go : ∀ M1 : kMem, Fr 0 M M1 → RB (stp 0 spC M v (s - 2)) (stp 9 spM (mw M1 9 4 (nI 0)) v (s - 2)) := fun M1 f1 => R_stp ⟨R_thr _ (R_fr0 r f1), ro.2⟩ hv ev _
    have fr9 : ∀ M1 : kMem, Fr 9 (mw M1 9 4 (nI 0)) (stp 9 spM (mw M1 9 4 (nI 0)) v (s - 2)).2 := fun M1 => Fr_stp Fr_spM _ _ _
    have run : ∀ (M1 : kMem) (P : kRes → Prop), Fr 0 M M1 → P ((fun q : Bool × kMem => mri q (nI (cnt (marks (q.2 13) v)))) (stp 9 spM (mw M1 9 4 (nI 0)) v (s - 2))) → kC (dm + 5) km_step [.ref 9, .int (nI v)] M1 P := by
      intro M1 P f1 h
      have r1 := R_fr0 r f1
      have e3 : isV (M1 13) (nI v) = true := by rw [← r1.hh.vv]; exact ev
      refine m_step r1.hh.wfg (fun e9 => absurd (R_on r1 e).off e9) (fun _ q => absurd (e3.symm.trans q) (by decide)) (fun v' s' _ _ hv' ex' hs' es' => ?_) (fun v' s' _ _ hv' ex' hs' hs2' es' => ?_)
      · have q1 : v = v' := nI_inj (by omega) (by omega) ex'
        subst q1
        have q2 : s = s' := nI_inj (by omega) (by omega) (es.symm.trans ((r1.stt hv ev).trans es'))
        omega
      · have q1 : v = v' := nI_inj (by omega) (by omega) ex'
        subst q1
        have q2 : s = s' := nI_inj (by omega) (by omega) (es.symm.trans ((r1.stt hv ev).trans es'))
        subst q2
        exact h
    refine pI_thi rfl (fun M1 hq => ?_) (fun M1 hq => ?_)
    · have f1 := fr _ hq
      have rb := go M1 f1
      have t1 : M1 4 = upd (sth (M 4) v) 0 (sth (M 4) v 0 + nI 1) := stp_true 0 spC spC_keep hq
      rw [hq] at rb
      refine run M1 _ f1 (mri_T rb (fr9 M1) ?_)
      rw [hq]
      obtain ⟨-, r2, -⟩ := rb
      have r2 : R M1 (stp 9 spM (mw M1 9 4 (nI 0)) v (s - 2)).2 := r2
      generalize (stp 9 spM (mw M1 9 4 (nI 0)) v (s - 2)).2 = N1 at r2 ⊢
      obtain ⟨n, rn, w⟩ := r2.hh
      have hvn : v < n := by
        refine w.lt hv ?_
        rw [t1]
        unfold isV
        rw [pk_un (by omega), sth_1]
        exact ev
      have em : marks (N1 13) v = M1 4 (8 + v) ||| M1 4 (14 + v) := by
        unfold marks
        rw [rn.m0 w.1 hvn, rn.m1 w.1 hvn]
      obtain ⟨-, l1, l2, -⟩ := w.2.2.1 v hvn
      obtain ⟨a, ha, ea⟩ := lo8_or l1 l2
      show nI (cnt (marks (N1 13) v)) = bcn (M1 4 (8 + v) ||| M1 4 (14 + v))
      rw [em, ea]
      exact (cnt_fact a ha).2.2.1.symm
    · have f1 := fr _ hq
      have rb := go M1 f1
      rw [hq] at rb
      exact run M1 _ f1 (mri_F rb (fr9 M1))
theorem op_run {x : Int32} (r : R M M) : kC (d + 6) kc_run [.ref 0, .int x] M (pI cdSBU (dm + 5) km_run [.ref 9, .int x]) := by
  have hst9 : ∀ v s, v < 6 → s < 4 → 2 ≤ s → ∀ M M1 : kMem, M 13 (2 + v) = nI s → lo8 (M 13 (8 + v)) → lo8 (M 13 (14 + v)) → stp 9 spM M v (s - 2) = (true, M1) → M1 13 (2 + v) = nI 0 ∨ (M1 13 (2 + v) = nI s ∧ lo8 (M1 13 (8 + v)) ∧ lo8 (M1 13 (14 + v)) ∧ 1 ≤ cnt (marks (M1 13) v) ∧ cnt (marks (M1 13) v) < cnt (marks (M 13) v)) := fun v s hv _ _ M M1 e1 e2 e3 e4 => stp_less 9 spM spM_keep hv e1 e2 e3 e4
  refine c_run r.hh.wfh (fun e => ?_) (fun e e2 => ?_) (fun v s e ev hv ex hs es => ?_) (fun v s _ _ _ M M1 es e => stp_state es e) (fun v s e ev hv ex hs hs2 es => ?_)
  · exact pI_x rfl (m_run r.hh.wfg (fun _ => ⟨_, _, rfl, rfl, R_thr2 _ r⟩) (fun e2 => absurd e2 (R_off r e)) (fun _ _ e2 => absurd e2 (R_off r e)) hst9 (fun _ _ e2 => absurd e2 (R_off r e)))
  · have ro := R_on r e
    have e3 : isV (M 13) x = false := by rw [← r.hh.vv]; exact e2
    exact pI_x rfl (m_run r.hh.wfg (fun e9 => absurd ro.off e9) (fun _ _ => ⟨_, _, rfl, rfl, R_thr2 _ r⟩) (fun _ _ _ q => absurd (e3.symm.trans q) (by decide)) hst9 (fun _ _ _ q => absurd (e3.symm.trans q) (by decide)))
  · have ro := R_on r e
    subst ex
    have e3 : isV (M 13) (nI v) = true := by rw [← r.hh.vv]; exact ev
    refine pI_x rfl (m_run r.hh.wfg (fun e9 => absurd ro.off e9) (fun _ q => absurd (e3.symm.trans q) (by decide)) (fun _ _ _ _ _ _ _ _ => ⟨_, _, rfl, rfl, R_thr2 _ r⟩) hst9 (fun v' s' _ _ hv' ex' hs' hs2' es' => ?_))
    have q1 : v = v' := nI_inj (by omega) (by omega) ex'
    subst q1
    have q2 : s = s' := nI_inj (by omega) (by omega) (es.symm.trans ((r.stt hv ev).trans es'))
    omega
  · have ro := R_on r e
    subst ex
    have run : ∀ (M1 : kMem) (P : kRes → Prop), Fr 0 M M1 → P ((fun q : (Bool × Nat) × kMem => mri (q.1.1, q.2) (nI q.1.2)) (rnn 9 spM v (s - 2) 8 0 (mw M1 9 4 (nI 0)))) → kC (dm + 5) km_run [.ref 9, .int (nI v)] M1 P := by
      intro M1 P f1 h
      have r1 := R_fr0 r f1
      have e3 : isV (M1 13) (nI v) = true := by rw [← r1.hh.vv]; exact ev
      refine m_run r1.hh.wfg (fun e9 => absurd (R_on r1 e).off e9) (fun _ q => absurd (e3.symm.trans q) (by decide)) (fun v' s' _ _ hv' ex' hs' es' => ?_) hst9 (fun v' s' _ _ hv' ex' hs' hs2' es' => ?_)
      · have q1 : v = v' := nI_inj (by omega) (by omega) ex'
        subst q1
        have q2 : s = s' := nI_inj (by omega) (by omega) (es.symm.trans ((r1.stt hv ev).trans es'))
        omega
      · have q1 : v = v' := nI_inj (by omega) (by omega) ex'
        subst q1
        have q2 : s = s' := nI_inj (by omega) (by omega) (es.symm.trans ((r1.stt hv ev).trans es'))
        subst q2
        exact h
    have fr : Fr 0 M (rnn 0 spC v (s - 2) 8 0 M).2 := Fr_rnn Fr_spC _ _ _ _ _
    have go : ∀ M1 : kMem, Fr 0 M M1 → _ := fun M1 f1 => R_rnn hv (s - 2) 8 0 (M := M) (N := mw M1 9 4 (nI 0)) ⟨R_thr _ (R_fr0 r f1), ro.2⟩ ev
    have fr9 : ∀ M1 : kMem, Fr 9 (mw M1 9 4 (nI 0)) (rnn 9 spM v (s - 2) 8 0 (mw M1 9 4 (nI 0))).2 := fun M1 => Fr_rnn Fr_spM _ _ _ _ _
    show pI cdSBU (dm + 5) km_run [.ref 9, .int (nI v)] (thi ((rnn 0 spC v (s - 2) 8 0 M).1.1, (rnn 0 spC v (s - 2) 8 0 M).2) (nI (rnn 0 spC v (s - 2) 8 0 M).1.2))
    generalize rnn 0 spC v (s - 2) 8 0 M = q at fr go ⊢
    obtain ⟨⟨ok, c⟩, M1⟩ := q
    have f1 : Fr 0 M M1 := fr
    obtain ⟨g1, g2⟩ := go M1 f1
    have f9 := fr9 M1
    have run := run M1
    generalize rnn 9 spM v (s - 2) 8 0 (mw M1 9 4 (nI 0)) = q' at g1 g2 f9 run
    obtain ⟨⟨ok', c'⟩, N1⟩ := q'
    have g1 : (ok, c) = (ok', c') := g1
    obtain ⟨rfl, rfl⟩ := Prod.mk.inj g1
    have g2 : R M1 N1 := g2
    have f9 : Fr 9 (mw M1 9 4 (nI 0)) N1 := f9
    cases ok
    · exact pI_x rfl (run _ f1 ⟨_, _, rfl, rfl, R_thr2 _ (R_ft g2 (Ft_thr f9))⟩)
    · exact pI_i (run _ f1 ⟨_, _, rfl, f9.2, rfl, R_ft g2 (Ft_thr f9)⟩)
theorem op_state {x : Int32} (r : R M M) : kC (d + 2) kc_state [.ref 0, .int x] M (pQ (dm + 1) km_state [.ref 9, .int x]) := by
  refine c_state r.hh.wfh (fun e => ?_) (fun v e ev hv ex => ?_)
  · refine pQ_i (m_state r.hh.wfg (fun _ => ⟨_, rfl, R_thr2 _ r⟩) (fun v e9 ev hv ex => ?_))
    rcases e with z | z
    · exact absurd e9 (R_off r z)
    · rw [← r.hh.vv, z] at ev
      exact Bool.noConfusion ev
  · have ro := R_on r e
    subst ex
    refine pQ_i (m_state r.hh.wfg (fun z => ?_) (fun v' e9 ev' hv' ex' => ?_))
    · rcases z with z | z
      · exact absurd ro.off z
      · rw [← r.hh.vv, ev] at z
        exact Bool.noConfusion z
    · have q1 : v = v' := nI_inj (by omega) (by omega) ex'
      subst q1
      exact ⟨_, by rw [r.stt hv ev], R_thr2 _ r⟩
theorem op_marked {x t : Int32} (r : R M M) : kC (d + 2) kc_marked [.ref 0, .int x, .int t] M (pQ (dm + 1) km_marked [.ref 9, .int x, .int t]) := by
  refine c_marked r.hh.wfh (fun e => ?_) (fun v u e ev hv ex hu et => ?_)
  · refine pQ_i (m_marked r.hh.wfg (fun _ => ⟨_, rfl, R_thr2 _ r⟩) (fun v u e9 ev hv ex hu et => ?_))
    rcases e with z | z | z
    · exact absurd e9 (R_off r z)
    · rw [← r.hh.vv, z] at ev
      exact Bool.noConfusion ev
    · rw [et, inR_nI hu (by decide)] at z
      exact Bool.noConfusion z
  · have ro := R_on r e
    subst ex
    subst et
    refine pQ_i (m_marked r.hh.wfg (fun z => ?_) (fun v' u' e9 ev' hv' ex' hu' et' => ?_))
    · rcases z with z | z | z
      · exact absurd ro.off z
      · rw [← r.hh.vv, ev] at z
        exact Bool.noConfusion z
      · rw [inR_nI hu (by decide)] at z
        exact Bool.noConfusion z
    · have q1 : v = v' := nI_inj (by omega) (by omega) ex'
      subst q1
      have q2 : u = u' := nI_inj (by omega) (by omega) et'
      subst q2
      obtain ⟨n, rn, w⟩ := r.hh
      exact ⟨_, by rw [rn.mt w.1 (w.lt hv ev) hu], R_thr2 _ r⟩
theorem op_windowed {x : Int32} (r : R M M) : kC (d + 1) kc_windowed [.ref 0, .int x] M (pQ dm km_windowed [.ref 9, .int x]) := by
  refine c_windowed (fun e => ?_) (fun i e hi ex => ?_)
  · refine pQ_i (m_windowed (fun _ => ⟨_, rfl, R_thr2 _ r⟩) (fun i e9 hi ex => ?_))
    rcases e with z | z
    · exact absurd e9 (R_off r z)
    · rw [ex, inR_nI hi (by decide)] at z
      exact Bool.noConfusion z
  · have ro := R_on r e
    subst ex
    refine pQ_i (m_windowed (fun z => ?_) (fun i' e9 hi' ex' => ?_))
    · rcases z with z | z
      · exact absurd ro.off z
      · rw [inR_nI hi (by decide)] at z
        exact Bool.noConfusion z
    · have q1 : i = i' := nI_inj (by omega) (by omega) ex'
      subst q1
      obtain ⟨n, rn, w⟩ := r.hh
      exact ⟨_, by rw [rn.wi hi], R_thr2 _ r⟩
theorem op_volumes (r : R M M) : kC (d + 1) kc_volumes [.ref 0] M (pQ dm km_volumes [.ref 9]) := by
  refine c_volumes (fun e => ?_) (fun e => ?_)
  · exact pQ_i (m_volumes (fun _ => ⟨_, rfl, R_thr2 _ r⟩) (fun e9 => absurd e9 (R_off r e)))
  · have ro := R_on r e
    obtain ⟨n, rn, w⟩ := r.hh
    exact pQ_i (m_volumes (fun z => absurd ro.off z) (fun _ => ⟨_, by rw [rn.ct], R_thr2 _ r⟩))
theorem op_copied (r : R M M) : kC d kc_copied [.ref 0] M (pQ dm km_copied [.ref 9]) := c_copied (pQ_i (m_copied ⟨_, by rw [r.2.2.2.1], R_thr2 _ r⟩))
theorem op_writes (r : R M M) : kC d kc_writes [.ref 0] M (pQ dm km_writes [.ref 9]) := c_writes (pQ_i (m_writes ⟨_, by rw [r.2.2.1], R_thr2 _ r⟩))
theorem op_power (r : R M M) : kC d kc_power [.ref 0] M (pQ dm km_power [.ref 9]) := by
  refine c_power (fun e => ?_) (fun e => ?_)
  · exact pQ_i (m_power (fun e9 => absurd e9 (R_off r e)) (fun _ => ⟨_, rfl, R_thr2 _ r⟩))
  · exact pQ_i (m_power (fun _ => ⟨_, rfl, R_thr2 _ r⟩) (fun z => absurd (R_on r e).off z))
theorem op_differing {x : Int32} (r : R M M) : kC (d + 2) kc_differing [.ref 0, .int x] M (pI cdB (dm + 2) km_differing [.ref 9, .int x]) := by
  refine c_differing (fun e => ?_) (fun v hv ex => ?_)
  · refine pI_x rfl (m_differing (fun _ => ⟨_, _, rfl, rfl, R_thr2 _ r⟩) (fun v hv ex => ?_))
    rw [ex, inR_nI hv (by decide)] at e
    exact Bool.noConfusion e
  · subst ex
    refine pI_i (m_differing (fun z => ?_) (fun v' hv' ex' => ?_))
    · rw [inR_nI hv (by decide)] at z
      exact Bool.noConfusion z
    · have q1 : v = v' := nI_inj (by omega) (by omega) ex'
      subst q1
      exact ⟨_, _, rfl, rfl, by rw [r.ww], R_thr2 _ r⟩
theorem op_raw {x t k w : Int32} (r : R M M) : kC (d + 2) kc_raw [.ref 0, .int x, .int t, .int k, .int w] M (pI cdB (dm + 1) km_raw [.ref 9, .int x, .int t, .int k, .int w]) := by
  refine c_raw (fun e => ?_) (fun v u j i hv ex hu et hj ek hi ew => ?_)
  · refine pI_x rfl (m_raw (fun _ => ⟨_, _, rfl, rfl, R_thr2 _ r⟩) (fun v u j i hv ex hu et hj ek hi ew => ?_))
    rw [ex, et, ek, ew, inR_nI hv (by decide), inR_nI hu (by decide), inR_nI hj (by decide), inR_nI hi (by decide)] at e
    exact Bool.noConfusion e
  · subst ex; subst et; subst ek; subst ew
    refine pI_i (m_raw (fun z => ?_) (fun v' u' j' i' hv' ex' hu' et' hj' ek' hi' ew' => ?_))
    · rw [inR_nI hv (by decide), inR_nI hu (by decide), inR_nI hj (by decide), inR_nI hi (by decide)] at z
      exact Bool.noConfusion z
    · have q1 : v = v' := nI_inj (by omega) (by omega) ex'
      subst q1
      have q2 : u = u' := nI_inj (by omega) (by omega) et'
      subst q2
      have q3 : j = j' := nI_inj (by omega) (by omega) ek'
      subst q3
      have q4 : i = i' := nI_inj (by omega) (by omega) ew'
      subst q4
      exact ⟨_, _, rfl, rfl, by rw [r.ww], R_thr2 _ r⟩
theorem hdv_eq {h g : Nat → Int32} (r : HR h g) {i : Nat} (hi : i < 24) : hdv g i = h i := by
  obtain ⟨n, rn, w⟩ := r
  have hn := w.1
  have e1 : g 1 = nI n := rn.ct.symm.trans w.2.1
  unfold hdv
  rw [e1]
  by_cases k : kab n i
  · have k' := k
    unfold kab at k'
    rw [if_pos ⟨k'.1, k'.2.1, (nI_leI (by omega) (by omega)).mpr k'.2.2⟩]
    exact ((rn i hi).1 k).1.symm
  · rw [if_neg (fun z => k ⟨z.1, z.2.1, (nI_leI (by omega) (by omega)).mp z.2.2⟩)]
    exact ((rn i hi).2 k).symm
theorem op_head {t w : Int32} (r : R M M) : kC (d + 2) kc_head [.ref 0, .int t, .int w] M (pI cdB dm km_head [.ref 9, .int t, .int w]) := by
  have g1 := r.2.2.2.2.2.2.1
  have g2 := r.2.2.2.2.2.2.2.1
  refine c_head (fun e => ?_) (fun i et hi ew => ?_) (fun i et hi ew => ?_)
  · refine pI_x rfl (m_head (fun _ => ⟨_, _, rfl, rfl, R_thr2 _ r⟩) (fun i et hi ew => ?_) (fun i et hi ew => ?_))
    · rw [et, ew, inR_nI (j := 0) (n := 2) (by decide) (by decide), inR_nI hi (by decide)] at e
      exact Bool.noConfusion e
    · rw [et, ew, inR_nI (j := 1) (n := 2) (by decide) (by decide), inR_nI hi (by decide)] at e
      exact Bool.noConfusion e
  · subst et; subst ew
    refine pI_i (m_head (fun z => ?_) (fun i' et' hi' ew' => ?_) (fun i' et' hi' ew' => absurd et' (by decide)))
    · rw [inR_nI (j := 0) (n := 2) (by decide) (by decide), inR_nI hi (by decide)] at z
      exact Bool.noConfusion z
    · have q1 : i = i' := nI_inj (by omega) (by omega) ew'
      subst q1
      exact ⟨_, _, rfl, rfl, hdv_eq g1 hi, R_thr2 _ r⟩
  · subst et; subst ew
    refine pI_i (m_head (fun z => ?_) (fun i' et' hi' ew' => absurd et' (by decide)) (fun i' et' hi' ew' => ?_))
    · rw [inR_nI (j := 1) (n := 2) (by decide) (by decide), inR_nI hi (by decide)] at z
      exact Bool.noConfusion z
    · have q1 : i = i' := nI_inj (by omega) (by omega) ew'
      subst q1
      exact ⟨_, _, rfl, rfl, hdv_eq g2 hi, R_thr2 _ r⟩
theorem op_cutAfter {x : Int32} (r : R M M) : kC d kc_cutAfter [.ref 0, .int x] M (pV cdA dm km_cutAfter [.ref 9, .int x]) := by
  refine c_cutAfter (fun e => ?_) (fun e1 e2 => ?_)
  · refine pV_x rfl (m_cutAfter (fun _ => ⟨_, rfl, rfl, ?_⟩) (fun e1 e2 => (e.elim e1 e2).elim))
    obtain ⟨p, a1, a2, a3, w, f, g1, g2, g3⟩ := r
    exact ⟨p, a1, a2, a3, w, f, g1, g2, g3⟩
  · refine pV_v (m_cutAfter (fun e => (e.elim e1 e2).elim) (fun _ _ => ⟨_, rfl, rfl, ?_⟩))
    obtain ⟨p, a1, a2, a3, w, f, g1, g2, g3⟩ := r
    exact ⟨p, rfl, a2, a3, w, f, g1, g2, g3⟩
theorem op_start (r : R M M) : kC (d + 6) kc_start [.ref 0] M (pI cdS (dm + 4) km_start [.ref 9]) := by
  have ro : ∀ M1 : kMem, Fr 0 M M1 → RO (mw (mw M 0 0 (nI 1)) 0 3 (nI 0)) (mw (mw (mw M1 9 4 (nI 0)) 9 0 (nI 0)) 9 3 (nI 0)) := by
    intro M1 f1
    obtain ⟨p, a1, a2, a3, w, f, g1, g2, g3⟩ := R_fr0 r f1
    exact ⟨⟨Or.inl ⟨rfl, rfl⟩, a1, a2, rfl, w, f, g1, g2, g3⟩, rfl⟩
  have wfs : ∀ {A B A1 : kMem}, RO A B → tnh 0 spC A = (true, A1) → wf (A1 4) := by
    intro A B A1 h e
    have rb := R_tnh h
    rw [e] at rb
    exact rb.2.1.hh.wfh
  have wfs9 : ∀ {A B B1 : kMem}, RO A B → tnh 9 spM B = (true, B1) → wf (B1 13) := by
    intro A B B1 h e
    have rb := R_tnh h
    rw [e] at rb
    exact rb.2.1.hh.wfg
  refine c_start (fun M1 e => wfs (ro M (Fr.refl _ _)) e) ?_
  have fr : Fr 0 M (srt 0 spC (mw (mw M 0 0 (nI 1)) 0 3 (nI 0))).2 := ((Fr_mb (by decide)).trans (Fr_mb (by decide))).trans (Fr_srt Fr_spC _)
  have fr9 : ∀ M1 : kMem, Fr 9 (mw M1 9 4 (nI 0)) (srt 9 spM (mw (mw (mw M1 9 4 (nI 0)) 9 0 (nI 0)) 9 3 (nI 0))).2 := fun M1 => ((Fr_mb (by decide)).trans (Fr_mb (by decide))).trans (Fr_srt Fr_spM _)
  have go : ∀ M1 : kMem, Fr 0 M M1 → RB (srt 0 spC (mw (mw M 0 0 (nI 1)) 0 3 (nI 0))) (srt 9 spM (mw (mw (mw M1 9 4 (nI 0)) 9 0 (nI 0)) 9 3 (nI 0))) := fun M1 f1 => R_srt (ro M1 f1)
  show pI cdS (dm + 4) km_start [.ref 9] (thi (srt 0 spC (mw (mw M 0 0 (nI 1)) 0 3 (nI 0))) ((srt 0 spC (mw (mw M 0 0 (nI 1)) 0 3 (nI 0))).2 4 1))
  refine pI_thi rfl (fun M1 hq => ?_) (fun M1 hq => ?_)
  · rw [hq] at fr
    have f1 : Fr 0 M M1 := fr
    have rb := go M1 f1
    rw [hq] at rb
    refine m_start (fun N1 e => wfs9 (ro M1 f1) e) (mri_T rb (fr9 M1) ?_)
    rw [hq]
    obtain ⟨n, rn, w⟩ := rb.2.1.hh
    exact rn.ct.symm
  · rw [hq] at fr
    have f1 : Fr 0 M M1 := fr
    have rb := go M1 f1
    rw [hq] at rb
    exact m_start (fun N1 e => wfs9 (ro M1 f1) e) (mri_F rb (fr9 M1))
end OPT
end
section
/-! a throw that a row of the method's own table takes; the classes that the rows name are linked there and then -/
/-- the rows of a table, one behind the other, all around pc: the first whose class takes th leads to h -/
def kct (pl : Platform) (s₀ : State) (d pc : Nat) (th : ClassId) (h : Nat) : List ExceptionTableEntry → Prop
  | [] => False
  | x :: t => covers x pc = true ∧ x.catchType ≠ 0 ∧ ∃ c, s₀.vm.ClassLinks pl d x.catchType c ∧ ((s₀.vm.assignable th c = true ∧ x.handlerPc = h) ∨ (s₀.vm.assignable th c = false ∧ kct pl s₀ d pc th h t))
theorem kct_go {e : Env} {s₀ : State} {f : JFrame} {q : Addr} {ce : Cell} {h : Nat} (hv : ce.vm = .none) (hk0 : ∃ k, s₀.vm.classes[ce.cls]? = some k) :
    ∀ (es : List ExceptionTableEntry) (S : State), s₀.WarmedH S.vm → S.heap[q]? = some ce → kct e.platform s₀ f.method.cls f.pc ce.cls h es →
      ∃ vm', s₀.WarmedH vm' ∧ ∀ (Q : Handler → Pre) (E : CtlPost) (d : Bool) (acts : List Action), wp (findHandler.go f q es) Q E e d acts S ↔ Q (.found h) d acts (S.setVm vm') := by
  obtain ⟨k0, hk0⟩ := hk0
  have hobj : ∀ k, ce.vm ≠ .statics k := fun k z => by rw [hv] at z; cases z
  intro es
  induction es with
  | nil => intro S _ _ hz; exact hz.elim
  | cons x t ih =>
    intro S hW hcell hz
    obtain ⟨hx, h0, c, hl, hfit⟩ := hz
    obtain ⟨dk, _, _, kt, hd, _, _, _, _, hkt, _, hopen⟩ := hl.here
    have hW1 : s₀.WarmedH (S.vm.noted f.method.cls x.catchType (.cls c)) := hW.noted hd hopen (State.rightAt_cls hl)
    obtain ⟨k1, hk1, -⟩ := hW1.alike.2.2 _ _ hk0
    obtain ⟨k2, hk2, -⟩ := hW1.alike.2.2 _ _ hkt
    have has : (S.vm.noted f.method.cls x.catchType (.cls c)).assignable ce.cls c = s₀.vm.assignable ce.cls c := hW1.alike.assignable _ _
    obtain ⟨ha, ht⟩ := (resolveClass_links e.toSetting (hW.classLinks hl)).op (op := VmOp.resolveClass f.method.cls x.catchType) rfl
    have hcov := hx
    simp only [covers] at hcov
    rcases hfit with ⟨hy, hh⟩ | ⟨hn, hrest⟩
    · rw [hy] at has
      subst hh
      exact ⟨_, hW1, fun Q E d acts => by
        simp [findHandler.go, hcov, h0, ha, ht, hcell, hobj, hk1, hk2, has, VmOp.dirties, VmOp.acts]⟩
    · rw [hn] at has
      obtain ⟨vm', hW', hq⟩ := ih (S.setVm (S.vm.noted f.method.cls x.catchType (.cls c))) hW1 hcell hrest
      refine ⟨vm', hW', fun Q E d acts => Iff.trans ?_ (hq Q E d acts)⟩
      simp [findHandler.go, hcov, h0, ha, ht, hcell, hobj, hk1, hk2, has, VmOp.dirties, VmOp.acts]
theorem kct_steps {p : Program} {l : Launch} {e : Env} {R : Room} {s : State} {m : MethodId} {args : Array Value} {below : List Frame} {meth : Method} {c : Code} {T : State} {locs : List Loc} {cells slots : Nat} (X : Stand p l e R s m args below meth c T locs cells slots)
    {g : JFrame} (hg : g.method = m) {q : Addr} {ce : Cell} {h : Nat} (hcell : T.heap[q]? = some ce) (hv : ce.vm = .none) (hk0 : ∃ k, s.vm.classes[ce.cls]? = some k) (hes : kct e.platform s m.cls g.pc ce.cls h c.exceptionTable.toList) :
    ∃ vm', Stand p l e R s m args below meth c (T.setVm vm') locs cells slots ∧ ∀ target, Steps p.tables e below ((T.setVm vm').setTop { g with pc := h, stack := [.ref q] }) target → Steps p.tables e below ((T.setTop g).pushFrame (.throwing q)) target := by
  subst hg
  have hat := X.here
  obtain ⟨vm', hW', hq⟩ := kct_go (e := e) (f := g) (q := q) hv hk0 c.exceptionTable.toList ((T.setTop g).pushFrame (.throwing q)) X.warmed hcell hes
  refine ⟨vm', X.noted hW', fun target hrest => ?_⟩
  obtain ⟨hgo, hw⟩ := hat.throwing q
  refine Steps.head hgo hw ?_
  obtain ⟨g₀, hg0⟩ := Option.isSome_iff_exists.mp hat.top
  obtain ⟨r, hr⟩ := State.topJava?_eq_some.mp hg0
  have hf : ∀ (Q : Handler → Pre) (E : CtlPost) (d : Bool) (acts : List Action), wp (findHandler g q) Q E e d acts ((T.setTop g).pushFrame (.throwing q)) ↔ Q (.found h) d acts (((T.setTop g).pushFrame (.throwing q)).setVm vm') := fun Q E d acts => (W.findHandler_eq (s := (T.setTop g).pushFrame (.throwing q)) (meth := meth) (code := c) X.method' X.code).trans (hq Q E d acts)
  have hstep : ∀ rr : List Frame, (stepThrowing e ((T.setTop g).pushFrame (.throwing q)) q (.java g :: rr)).Is ((((T.setTop g).pushFrame (.throwing q)).setVm vm').setFrames (.java { g with pc := h, stack := [.ref q] } :: rr)) [] := by
    intro rr
    simp only [stepThrowing, searchFrame, vmDo]
    generalize hgen : Sem.go _ e false [] ((T.setTop g).pushFrame (.throwing q)) = res
    obtain ⟨as, rfl, ha⟩ := Sem.eq_ok_of hgen (a := Handler.found h) (s' := ((T.setTop g).pushFrame (.throwing q)).setVm vm') (acts' := []) (by simp [hf _ _ _ _])
    exact ⟨rfl, ha⟩
  rw [stepThread_throwing (frames_entered hat.top _), (hstep _).1]
  have hr2 : (T.setVm vm').frames = .java g₀ :: r := hr
  rw [State.setTop_of_frames _ hr2] at hrest
  rw [State.pushFrame, State.setTop_of_frames _ hr, State.setFrames_setFrames]
  rw [hr]
  show Steps p.tables e below (((T.setVm vm').setFrames _).setFrames _) target
  rw [State.setFrames_setFrames]
  exact hrest
end
section
/-! the tables of the law and of its wrappers (by wip/tools/genlaw.py) -/
def yT0 : List kRow := [(0, .aload_n 1, 1, 0, 0), (1, .iconst 0, 1, 0, 0), (2, .aload_n 0, 1, 0, 0), (3, .invokevirtual 7, 3, 22, 0), (6, .i2l, 1, 0, 0), (7, .lastore, 1, 0, 0), (8, .goto 6, 3, 14, 0), (11, .astore_n 2, 1, 0, 0), (12, .iconst 1, 1, 1, 0), (13, .ireturn, 1, 0, 0), (14, .iconst 0, 1, 0, 0), (15, .ireturn, 1, 0, 0)]
theorem yT_ok0 : kOkT (cL_makeVolume, yT0) := by unfold kOkT; decide +kernel
def yT1 : List kRow := [(0, .aload_n 0, 1, 0, 0), (1, .iload_n 1, 1, 0, 0), (2, .iload_n 2, 1, 0, 0), (3, .iload_n 3, 1, 0, 0), (4, .iload 4, 2, 0, 0), (6, .iload 5, 2, 0, 0), (8, .invokevirtual 15, 3, 23, 0), (11, .goto 11, 3, 22, 0), (14, .astore 6, 2, 0, 0), (16, .iconst 1, 1, 1, 0), (17, .ireturn, 1, 0, 0), (18, .astore 6, 2, 0, 0), (20, .iconst 2, 1, 2, 0), (21, .ireturn, 1, 0, 0), (22, .iconst 0, 1, 0, 0), (23, .ireturn, 1, 0, 0)]
theorem yT_ok1 : kOkT (cL_write, yT1) := by unfold kOkT; decide +kernel
def yT2 : List kRow := [(0, .aload_n 0, 1, 0, 0), (1, .iload_n 1, 1, 0, 0), (2, .iload_n 2, 1, 0, 0), (3, .iload_n 3, 1, 0, 0), (4, .iload 4, 2, 0, 0), (6, .iload 5, 2, 0, 0), (8, .iload 6, 2, 0, 0), (10, .iload 7, 2, 0, 0), (12, .invokevirtual 21, 3, 24, 0), (15, .goto 11, 3, 26, 0), (18, .astore 8, 2, 0, 0), (20, .iconst 1, 1, 1, 0), (21, .ireturn, 1, 0, 0), (22, .astore 8, 2, 0, 0), (24, .iconst 2, 1, 2, 0), (25, .ireturn, 1, 0, 0), (26, .iconst 0, 1, 0, 0), (27, .ireturn, 1, 0, 0)]
theorem yT_ok2 : kOkT (cL_fill, yT2) := by unfold kOkT; decide +kernel
def yT3 : List kRow := [(0, .aload 5, 2, 0, 0), (2, .iconst 0, 1, 0, 0), (3, .aload_n 0, 1, 0, 0), (4, .iload_n 1, 1, 0, 0), (5, .iload_n 2, 1, 0, 0), (6, .iload_n 3, 1, 0, 0), (7, .iload 4, 2, 0, 0), (9, .invokevirtual 25, 3, 25, 0), (12, .i2l, 1, 0, 0), (13, .lastore, 1, 0, 0), (14, .goto 11, 3, 25, 0), (17, .astore 6, 2, 0, 0), (19, .iconst 1, 1, 1, 0), (20, .ireturn, 1, 0, 0), (21, .astore 6, 2, 0, 0), (23, .iconst 2, 1, 2, 0), (24, .ireturn, 1, 0, 0), (25, .iconst 0, 1, 0, 0), (26, .ireturn, 1, 0, 0)]
theorem yT_ok3 : kOkT (cL_read, yT3) := by unfold kOkT; decide +kernel
def yT4 : List kRow := [(0, .aload_n 1, 1, 0, 0), (1, .iconst 0, 1, 0, 0), (2, .aload_n 0, 1, 0, 0), (3, .invokevirtual 29, 3, 26, 0), (6, .i2l, 1, 0, 0), (7, .lastore, 1, 0, 0), (8, .goto 6, 3, 14, 0), (11, .astore_n 2, 1, 0, 0), (12, .iconst 1, 1, 1, 0), (13, .ireturn, 1, 0, 0), (14, .iconst 0, 1, 0, 0), (15, .ireturn, 1, 0, 0)]
theorem yT_ok4 : kOkT (cL_split, yT4) := by unfold kOkT; decide +kernel
def yT5 : List kRow := [(0, .aload_n 0, 1, 0, 0), (1, .iload_n 1, 1, 0, 0), (2, .iload_n 2, 1, 0, 0), (3, .invokevirtual 32, 3, 27, 0), (6, .goto 12, 3, 18, 0), (9, .astore_n 3, 1, 0, 0), (10, .iconst 1, 1, 1, 0), (11, .ireturn, 1, 0, 0), (12, .astore_n 3, 1, 0, 0), (13, .iconst 2, 1, 2, 0), (14, .ireturn, 1, 0, 0), (15, .astore_n 3, 1, 0, 0), (16, .iconst 3, 1, 3, 0), (17, .ireturn, 1, 0, 0), (18, .iconst 0, 1, 0, 0), (19, .ireturn, 1, 0, 0)]
theorem yT_ok5 : kOkT (cL_rejoin, yT5) := by unfold kOkT; decide +kernel
def yT6 : List kRow := [(0, .aload_n 2, 1, 0, 0), (1, .iconst 0, 1, 0, 0), (2, .aload_n 0, 1, 0, 0), (3, .iload_n 1, 1, 0, 0), (4, .invokevirtual 38, 3, 28, 0), (7, .i2l, 1, 0, 0), (8, .lastore, 1, 0, 0), (9, .goto 12, 3, 21, 0), (12, .astore_n 3, 1, 0, 0), (13, .iconst 1, 1, 1, 0), (14, .ireturn, 1, 0, 0), (15, .astore_n 3, 1, 0, 0), (16, .iconst 2, 1, 2, 0), (17, .ireturn, 1, 0, 0), (18, .astore_n 3, 1, 0, 0), (19, .iconst 3, 1, 3, 0), (20, .ireturn, 1, 0, 0), (21, .iconst 0, 1, 0, 0), (22, .ireturn, 1, 0, 0)]
theorem yT_ok6 : kOkT (cL_step, yT6) := by unfold kOkT; decide +kernel
def yT7 : List kRow := [(0, .aload_n 2, 1, 0, 0), (1, .iconst 0, 1, 0, 0), (2, .aload_n 0, 1, 0, 0), (3, .iload_n 1, 1, 0, 0), (4, .invokevirtual 42, 3, 29, 0), (7, .i2l, 1, 0, 0), (8, .lastore, 1, 0, 0), (9, .goto 12, 3, 21, 0), (12, .astore_n 3, 1, 0, 0), (13, .iconst 1, 1, 1, 0), (14, .ireturn, 1, 0, 0), (15, .astore_n 3, 1, 0, 0), (16, .iconst 2, 1, 2, 0), (17, .ireturn, 1, 0, 0), (18, .astore_n 3, 1, 0, 0), (19, .iconst 3, 1, 3, 0), (20, .ireturn, 1, 0, 0), (21, .iconst 0, 1, 0, 0), (22, .ireturn, 1, 0, 0)]
theorem yT_ok7 : kOkT (cL_run, yT7) := by unfold kOkT; decide +kernel
def yT8 : List kRow := [(0, .aload_n 2, 1, 0, 0), (1, .iconst 0, 1, 0, 0), (2, .aload_n 0, 1, 0, 0), (3, .iload_n 1, 1, 0, 0), (4, .invokevirtual 45, 3, 34, 0), (7, .i2l, 1, 0, 0), (8, .lastore, 1, 0, 0), (9, .goto 6, 3, 15, 0), (12, .astore_n 3, 1, 0, 0), (13, .iconst 1, 1, 1, 0), (14, .ireturn, 1, 0, 0), (15, .iconst 0, 1, 0, 0), (16, .ireturn, 1, 0, 0)]
theorem yT_ok8 : kOkT (cL_differing, yT8) := by unfold kOkT; decide +kernel
def yT9 : List kRow := [(0, .aload 5, 2, 0, 0), (2, .iconst 0, 1, 0, 0), (3, .aload_n 0, 1, 0, 0), (4, .iload_n 1, 1, 0, 0), (5, .iload_n 2, 1, 0, 0), (6, .iload_n 3, 1, 0, 0), (7, .iload 4, 2, 0, 0), (9, .invokevirtual 48, 3, 35, 0), (12, .i2l, 1, 0, 0), (13, .lastore, 1, 0, 0), (14, .goto 7, 3, 21, 0), (17, .astore 6, 2, 0, 0), (19, .iconst 1, 1, 1, 0), (20, .ireturn, 1, 0, 0), (21, .iconst 0, 1, 0, 0), (22, .ireturn, 1, 0, 0)]
theorem yT_ok9 : kOkT (cL_raw, yT9) := by unfold kOkT; decide +kernel
def yT10 : List kRow := [(0, .aload_n 3, 1, 0, 0), (1, .iconst 0, 1, 0, 0), (2, .aload_n 0, 1, 0, 0), (3, .iload_n 1, 1, 0, 0), (4, .iload_n 2, 1, 0, 0), (5, .invokevirtual 51, 3, 36, 0), (8, .i2l, 1, 0, 0), (9, .lastore, 1, 0, 0), (10, .goto 7, 3, 17, 0), (13, .astore 4, 2, 0, 0), (15, .iconst 1, 1, 1, 0), (16, .ireturn, 1, 0, 0), (17, .iconst 0, 1, 0, 0), (18, .ireturn, 1, 0, 0)]
theorem yT_ok10 : kOkT (cL_head, yT10) := by unfold kOkT; decide +kernel
def yT11 : List kRow := [(0, .aload_n 0, 1, 0, 0), (1, .iload_n 1, 1, 0, 0), (2, .invokevirtual 55, 3, 40, 0), (5, .goto 6, 3, 11, 0), (8, .astore_n 2, 1, 0, 0), (9, .iconst 1, 1, 1, 0), (10, .ireturn, 1, 0, 0), (11, .iconst 0, 1, 0, 0), (12, .ireturn, 1, 0, 0)]
theorem yT_ok11 : kOkT (cL_cutAfter, yT11) := by unfold kOkT; decide +kernel
def yT12 : List kRow := [(0, .aload_n 1, 1, 0, 0), (1, .iconst 0, 1, 0, 0), (2, .aload_n 0, 1, 0, 0), (3, .invokevirtual 61, 3, 41, 0), (6, .i2l, 1, 0, 0), (7, .lastore, 1, 0, 0), (8, .goto 6, 3, 14, 0), (11, .astore_n 2, 1, 0, 0), (12, .iconst 1, 1, 1, 0), (13, .ireturn, 1, 0, 0), (14, .iconst 0, 1, 0, 0), (15, .ireturn, 1, 0, 0)]
theorem yT_ok12 : kOkT (cL_start, yT12) := by unfold kOkT; decide +kernel
def yLH : List kRow := [(23, .iload 4, 2, 0, 0), (25, .aload_n 0, 1, 0, 0), (26, .arraylength, 1, 0, 0), (27, .bipush 8, 2, 8, 0), (29, .isub, 1, 0, 0), (30, .if_icmp .gt 1083, 3, 1113, 0), (33, .aload_n 0, 1, 0, 0), (34, .iload 4, 2, 0, 0), (36, .iaload, 1, 0, 0), (37, .bipush 31, 2, 31, 0), (39, .iand, 1, 0, 0)]
theorem yL_okH : kOkT (cL_law, yLH) := by unfold kOkT; decide +kernel
def yLC0 : List kRow := [(136, .aload_n 1, 1, 0, 0), (137, .aload_n 3, 1, 0, 0), (138, .invokestatic 68, 3, 0, 0), (141, .istore 5, 2, 0, 0), (143, .aload_n 2, 1, 0, 0), (144, .invokevirtual 73, 3, 87, 0), (147, .istore 6, 2, 0, 0), (149, .aload_n 2, 1, 0, 0), (150, .invokevirtual 74, 3, 71, 0), (153, .iload 5, 2, 0, 0), (155, .if_icmp .eq 5, 3, 160, 0), (158, .iconst 0, 1, 0, 0), (159, .ireturn, 1, 0, 0), (160, .iload 5, 2, 0, 0), (162, .ifCond .ne 15, 3, 177, 0), (165, .aload_n 3, 1, 0, 0), (166, .iconst 0, 1, 0, 0), (167, .laload, 1, 0, 0), (168, .iload 6, 2, 0, 0), (170, .i2l, 1, 0, 0), (171, .lcmp, 1, 0, 0), (172, .ifCond .eq 5, 3, 177, 0), (175, .iconst 0, 1, 0, 0), (176, .ireturn, 1, 0, 0), (177, .goto 930, 3, 1107, 0)]
theorem yL_okC0 : kOkT (cL_law, yLC0) := by unfold kOkT; decide +kernel
def yLC1 : List kRow := [(180, .aload_n 1, 1, 0, 0), (181, .aload_n 0, 1, 0, 0), (182, .iload 4, 2, 0, 0), (184, .iconst 1, 1, 1, 0), (185, .iadd, 1, 0, 0), (186, .iaload, 1, 0, 0), (187, .aload_n 0, 1, 0, 0), (188, .iload 4, 2, 0, 0), (190, .iconst 2, 1, 2, 0), (191, .iadd, 1, 0, 0), (192, .iaload, 1, 0, 0), (193, .aload_n 0, 1, 0, 0), (194, .iload 4, 2, 0, 0), (196, .iconst 3, 1, 3, 0), (197, .iadd, 1, 0, 0), (198, .iaload, 1, 0, 0), (199, .aload_n 0, 1, 0, 0), (200, .iload 4, 2, 0, 0), (202, .iconst 4, 1, 4, 0), (203, .iadd, 1, 0, 0), (204, .iaload, 1, 0, 0), (205, .aload_n 0, 1, 0, 0), (206, .iload 4, 2, 0, 0), (208, .iconst 5, 1, 5, 0), (209, .iadd, 1, 0, 0), (210, .iaload, 1, 0, 0), (211, .invokestatic 77, 3, 1, 0), (214, .istore 5, 2, 0, 0), (216, .aload_n 2, 1, 0, 0), (217, .aload_n 0, 1, 0, 0), (218, .iload 4, 2, 0, 0), (220, .iconst 1, 1, 1, 0), (221, .iadd, 1, 0, 0), (222, .iaload, 1, 0, 0), (223, .aload_n 0, 1, 0, 0), (224, .iload 4, 2, 0, 0), (226, .iconst 2, 1, 2, 0), (227, .iadd, 1, 0, 0), (228, .iaload, 1, 0, 0), (229, .aload_n 0, 1, 0, 0), (230, .iload 4, 2, 0, 0), (232, .iconst 3, 1, 3, 0), (233, .iadd, 1, 0, 0), (234, .iaload, 1, 0, 0), (235, .aload_n 0, 1, 0, 0), (236, .iload 4, 2, 0, 0), (238, .iconst 4, 1, 4, 0), (239, .iadd, 1, 0, 0), (240, .iaload, 1, 0, 0), (241, .aload_n 0, 1, 0, 0), (242, .iload 4, 2, 0, 0), (244, .iconst 5, 1, 5, 0), (245, .iadd, 1, 0, 0), (246, .iaload, 1, 0, 0), (247, .invokevirtual 80, 3, 94, 0), (250, .aload_n 2, 1, 0, 0), (251, .invokevirtual 74, 3, 71, 0), (254, .iload 5, 2, 0, 0), (256, .if_icmp .eq 5, 3, 261, 0), (259, .iconst 0, 1, 0, 0), (260, .ireturn, 1, 0, 0), (261, .goto 846, 3, 1107, 0)]
theorem yL_okC1 : kOkT (cL_law, yLC1) := by unfold kOkT; decide +kernel
def yLC2 : List kRow := [(264, .aload_n 1, 1, 0, 0), (265, .aload_n 0, 1, 0, 0), (266, .iload 4, 2, 0, 0), (268, .iconst 1, 1, 1, 0), (269, .iadd, 1, 0, 0), (270, .iaload, 1, 0, 0), (271, .aload_n 0, 1, 0, 0), (272, .iload 4, 2, 0, 0), (274, .iconst 2, 1, 2, 0), (275, .iadd, 1, 0, 0), (276, .iaload, 1, 0, 0), (277, .aload_n 0, 1, 0, 0), (278, .iload 4, 2, 0, 0), (280, .iconst 3, 1, 3, 0), (281, .iadd, 1, 0, 0), (282, .iaload, 1, 0, 0), (283, .aload_n 0, 1, 0, 0), (284, .iload 4, 2, 0, 0), (286, .iconst 4, 1, 4, 0), (287, .iadd, 1, 0, 0), (288, .iaload, 1, 0, 0), (289, .aload_n 0, 1, 0, 0), (290, .iload 4, 2, 0, 0), (292, .iconst 5, 1, 5, 0), (293, .iadd, 1, 0, 0), (294, .iaload, 1, 0, 0), (295, .aload_n 0, 1, 0, 0), (296, .iload 4, 2, 0, 0), (298, .bipush 6, 2, 6, 0), (300, .iadd, 1, 0, 0), (301, .iaload, 1, 0, 0), (302, .aload_n 0, 1, 0, 0), (303, .iload 4, 2, 0, 0), (305, .bipush 7, 2, 7, 0), (307, .iadd, 1, 0, 0), (308, .iaload, 1, 0, 0), (309, .invokestatic 81, 3, 2, 0), (312, .istore 5, 2, 0, 0), (314, .aload_n 2, 1, 0, 0), (315, .aload_n 0, 1, 0, 0), (316, .iload 4, 2, 0, 0), (318, .iconst 1, 1, 1, 0), (319, .iadd, 1, 0, 0), (320, .iaload, 1, 0, 0), (321, .aload_n 0, 1, 0, 0), (322, .iload 4, 2, 0, 0), (324, .iconst 2, 1, 2, 0), (325, .iadd, 1, 0, 0), (326, .iaload, 1, 0, 0), (327, .aload_n 0, 1, 0, 0), (328, .iload 4, 2, 0, 0), (330, .iconst 3, 1, 3, 0), (331, .iadd, 1, 0, 0), (332, .iaload, 1, 0, 0), (333, .aload_n 0, 1, 0, 0), (334, .iload 4, 2, 0, 0), (336, .iconst 4, 1, 4, 0), (337, .iadd, 1, 0, 0), (338, .iaload, 1, 0, 0), (339, .aload_n 0, 1, 0, 0), (340, .iload 4, 2, 0, 0), (342, .iconst 5, 1, 5, 0), (343, .iadd, 1, 0, 0), (344, .iaload, 1, 0, 0), (345, .aload_n 0, 1, 0, 0), (346, .iload 4, 2, 0, 0), (348, .bipush 6, 2, 6, 0), (350, .iadd, 1, 0, 0), (351, .iaload, 1, 0, 0), (352, .aload_n 0, 1, 0, 0), (353, .iload 4, 2, 0, 0), (355, .bipush 7, 2, 7, 0), (357, .iadd, 1, 0, 0), (358, .iaload, 1, 0, 0), (359, .invokevirtual 84, 3, 95, 0), (362, .aload_n 2, 1, 0, 0), (363, .invokevirtual 74, 3, 71, 0), (366, .iload 5, 2, 0, 0), (368, .if_icmp .eq 5, 3, 373, 0), (371, .iconst 0, 1, 0, 0), (372, .ireturn, 1, 0, 0), (373, .goto 734, 3, 1107, 0)]
theorem yL_okC2 : kOkT (cL_law, yLC2) := by unfold kOkT; decide +kernel
def yLC3 : List kRow := [(376, .aload_n 1, 1, 0, 0), (377, .aload_n 0, 1, 0, 0), (378, .iload 4, 2, 0, 0), (380, .iconst 1, 1, 1, 0), (381, .iadd, 1, 0, 0), (382, .iaload, 1, 0, 0), (383, .aload_n 0, 1, 0, 0), (384, .iload 4, 2, 0, 0), (386, .iconst 2, 1, 2, 0), (387, .iadd, 1, 0, 0), (388, .iaload, 1, 0, 0), (389, .aload_n 0, 1, 0, 0), (390, .iload 4, 2, 0, 0), (392, .iconst 3, 1, 3, 0), (393, .iadd, 1, 0, 0), (394, .iaload, 1, 0, 0), (395, .aload_n 0, 1, 0, 0), (396, .iload 4, 2, 0, 0), (398, .iconst 4, 1, 4, 0), (399, .iadd, 1, 0, 0), (400, .iaload, 1, 0, 0), (401, .aload_n 3, 1, 0, 0), (402, .invokestatic 85, 3, 3, 0), (405, .istore 5, 2, 0, 0), (407, .aload_n 2, 1, 0, 0), (408, .aload_n 0, 1, 0, 0), (409, .iload 4, 2, 0, 0), (411, .iconst 1, 1, 1, 0), (412, .iadd, 1, 0, 0), (413, .iaload, 1, 0, 0), (414, .aload_n 0, 1, 0, 0), (415, .iload 4, 2, 0, 0), (417, .iconst 2, 1, 2, 0), (418, .iadd, 1, 0, 0), (419, .iaload, 1, 0, 0), (420, .aload_n 0, 1, 0, 0), (421, .iload 4, 2, 0, 0), (423, .iconst 3, 1, 3, 0), (424, .iadd, 1, 0, 0), (425, .iaload, 1, 0, 0), (426, .aload_n 0, 1, 0, 0), (427, .iload 4, 2, 0, 0), (429, .iconst 4, 1, 4, 0), (430, .iadd, 1, 0, 0), (431, .iaload, 1, 0, 0), (432, .invokevirtual 88, 3, 96, 0), (435, .istore 6, 2, 0, 0), (437, .aload_n 2, 1, 0, 0), (438, .invokevirtual 74, 3, 71, 0), (441, .iload 5, 2, 0, 0), (443, .if_icmp .eq 5, 3, 448, 0), (446, .iconst 0, 1, 0, 0), (447, .ireturn, 1, 0, 0), (448, .iload 5, 2, 0, 0), (450, .ifCond .ne 15, 3, 465, 0), (453, .aload_n 3, 1, 0, 0), (454, .iconst 0, 1, 0, 0), (455, .laload, 1, 0, 0), (456, .iload 6, 2, 0, 0), (458, .i2l, 1, 0, 0), (459, .lcmp, 1, 0, 0), (460, .ifCond .eq 5, 3, 465, 0), (463, .iconst 0, 1, 0, 0), (464, .ireturn, 1, 0, 0), (465, .goto 642, 3, 1107, 0)]
theorem yL_okC3 : kOkT (cL_law, yLC3) := by unfold kOkT; decide +kernel
def yLC4 : List kRow := [(468, .aload_n 1, 1, 0, 0), (469, .aload_n 3, 1, 0, 0), (470, .invokestatic 89, 3, 4, 0), (473, .istore 5, 2, 0, 0), (475, .aload_n 2, 1, 0, 0), (476, .invokevirtual 91, 3, 97, 0), (479, .istore 6, 2, 0, 0), (481, .aload_n 2, 1, 0, 0), (482, .invokevirtual 74, 3, 71, 0), (485, .iload 5, 2, 0, 0), (487, .if_icmp .eq 5, 3, 492, 0), (490, .iconst 0, 1, 0, 0), (491, .ireturn, 1, 0, 0), (492, .iload 5, 2, 0, 0), (494, .ifCond .ne 15, 3, 509, 0), (497, .aload_n 3, 1, 0, 0), (498, .iconst 0, 1, 0, 0), (499, .laload, 1, 0, 0), (500, .iload 6, 2, 0, 0), (502, .i2l, 1, 0, 0), (503, .lcmp, 1, 0, 0), (504, .ifCond .eq 5, 3, 509, 0), (507, .iconst 0, 1, 0, 0), (508, .ireturn, 1, 0, 0), (509, .goto 598, 3, 1107, 0)]
theorem yL_okC4 : kOkT (cL_law, yLC4) := by unfold kOkT; decide +kernel
def yLC5 : List kRow := [(512, .aload_n 1, 1, 0, 0), (513, .aload_n 0, 1, 0, 0), (514, .iload 4, 2, 0, 0), (516, .iconst 1, 1, 1, 0), (517, .iadd, 1, 0, 0), (518, .iaload, 1, 0, 0), (519, .aload_n 0, 1, 0, 0), (520, .iload 4, 2, 0, 0), (522, .iconst 2, 1, 2, 0), (523, .iadd, 1, 0, 0), (524, .iaload, 1, 0, 0), (525, .invokestatic 92, 3, 5, 0), (528, .istore 5, 2, 0, 0), (530, .aload_n 2, 1, 0, 0), (531, .aload_n 0, 1, 0, 0), (532, .iload 4, 2, 0, 0), (534, .iconst 1, 1, 1, 0), (535, .iadd, 1, 0, 0), (536, .iaload, 1, 0, 0), (537, .aload_n 0, 1, 0, 0), (538, .iload 4, 2, 0, 0), (540, .iconst 2, 1, 2, 0), (541, .iadd, 1, 0, 0), (542, .iaload, 1, 0, 0), (543, .invokevirtual 95, 3, 98, 0), (546, .aload_n 2, 1, 0, 0), (547, .invokevirtual 74, 3, 71, 0), (550, .iload 5, 2, 0, 0), (552, .if_icmp .eq 5, 3, 557, 0), (555, .iconst 0, 1, 0, 0), (556, .ireturn, 1, 0, 0), (557, .goto 550, 3, 1107, 0)]
theorem yL_okC5 : kOkT (cL_law, yLC5) := by unfold kOkT; decide +kernel
def yLC6 : List kRow := [(560, .aload_n 1, 1, 0, 0), (561, .aload_n 0, 1, 0, 0), (562, .iload 4, 2, 0, 0), (564, .iconst 1, 1, 1, 0), (565, .iadd, 1, 0, 0), (566, .iaload, 1, 0, 0), (567, .aload_n 3, 1, 0, 0), (568, .invokestatic 96, 3, 6, 0), (571, .istore 5, 2, 0, 0), (573, .aload_n 2, 1, 0, 0), (574, .aload_n 0, 1, 0, 0), (575, .iload 4, 2, 0, 0), (577, .iconst 1, 1, 1, 0), (578, .iadd, 1, 0, 0), (579, .iaload, 1, 0, 0), (580, .invokevirtual 99, 3, 102, 0), (583, .istore 6, 2, 0, 0), (585, .aload_n 2, 1, 0, 0), (586, .invokevirtual 74, 3, 71, 0), (589, .iload 5, 2, 0, 0), (591, .if_icmp .eq 5, 3, 596, 0), (594, .iconst 0, 1, 0, 0), (595, .ireturn, 1, 0, 0), (596, .iload 5, 2, 0, 0), (598, .ifCond .ne 15, 3, 613, 0), (601, .aload_n 3, 1, 0, 0), (602, .iconst 0, 1, 0, 0), (603, .laload, 1, 0, 0), (604, .iload 6, 2, 0, 0), (606, .i2l, 1, 0, 0), (607, .lcmp, 1, 0, 0), (608, .ifCond .eq 5, 3, 613, 0), (611, .iconst 0, 1, 0, 0), (612, .ireturn, 1, 0, 0), (613, .goto 494, 3, 1107, 0)]
theorem yL_okC6 : kOkT (cL_law, yLC6) := by unfold kOkT; decide +kernel
def yLC7 : List kRow := [(616, .aload_n 1, 1, 0, 0), (617, .aload_n 0, 1, 0, 0), (618, .iload 4, 2, 0, 0), (620, .iconst 1, 1, 1, 0), (621, .iadd, 1, 0, 0), (622, .iaload, 1, 0, 0), (623, .aload_n 3, 1, 0, 0), (624, .invokestatic 100, 3, 7, 0), (627, .istore 5, 2, 0, 0), (629, .aload_n 2, 1, 0, 0), (630, .aload_n 0, 1, 0, 0), (631, .iload 4, 2, 0, 0), (633, .iconst 1, 1, 1, 0), (634, .iadd, 1, 0, 0), (635, .iaload, 1, 0, 0), (636, .invokevirtual 102, 3, 103, 0), (639, .istore 6, 2, 0, 0), (641, .aload_n 2, 1, 0, 0), (642, .invokevirtual 74, 3, 71, 0), (645, .iload 5, 2, 0, 0), (647, .if_icmp .eq 5, 3, 652, 0), (650, .iconst 0, 1, 0, 0), (651, .ireturn, 1, 0, 0), (652, .iload 5, 2, 0, 0), (654, .ifCond .ne 15, 3, 669, 0), (657, .aload_n 3, 1, 0, 0), (658, .iconst 0, 1, 0, 0), (659, .laload, 1, 0, 0), (660, .iload 6, 2, 0, 0), (662, .i2l, 1, 0, 0), (663, .lcmp, 1, 0, 0), (664, .ifCond .eq 5, 3, 669, 0), (667, .iconst 0, 1, 0, 0), (668, .ireturn, 1, 0, 0), (669, .goto 438, 3, 1107, 0)]
theorem yL_okC7 : kOkT (cL_law, yLC7) := by unfold kOkT; decide +kernel
def yLC8 : List kRow := [(672, .aload_n 1, 1, 0, 0), (673, .aload_n 0, 1, 0, 0), (674, .iload 4, 2, 0, 0), (676, .iconst 1, 1, 1, 0), (677, .iadd, 1, 0, 0), (678, .iaload, 1, 0, 0), (679, .invokevirtual 103, 3, 30, 0), (682, .aload_n 2, 1, 0, 0), (683, .aload_n 0, 1, 0, 0), (684, .iload 4, 2, 0, 0), (686, .iconst 1, 1, 1, 0), (687, .iadd, 1, 0, 0), (688, .iaload, 1, 0, 0), (689, .invokevirtual 106, 3, 104, 0), (692, .if_icmp .eq 415, 3, 1107, 0), (695, .iconst 0, 1, 0, 0), (696, .ireturn, 1, 0, 0)]
theorem yL_okC8 : kOkT (cL_law, yLC8) := by unfold kOkT; decide +kernel
def yLC9 : List kRow := [(697, .aload_n 1, 1, 0, 0), (698, .aload_n 0, 1, 0, 0), (699, .iload 4, 2, 0, 0), (701, .iconst 1, 1, 1, 0), (702, .iadd, 1, 0, 0), (703, .iaload, 1, 0, 0), (704, .aload_n 0, 1, 0, 0), (705, .iload 4, 2, 0, 0), (707, .iconst 2, 1, 2, 0), (708, .iadd, 1, 0, 0), (709, .iaload, 1, 0, 0), (710, .invokevirtual 107, 3, 31, 0), (713, .aload_n 2, 1, 0, 0), (714, .aload_n 0, 1, 0, 0), (715, .iload 4, 2, 0, 0), (717, .iconst 1, 1, 1, 0), (718, .iadd, 1, 0, 0), (719, .iaload, 1, 0, 0), (720, .aload_n 0, 1, 0, 0), (721, .iload 4, 2, 0, 0), (723, .iconst 2, 1, 2, 0), (724, .iadd, 1, 0, 0), (725, .iaload, 1, 0, 0), (726, .invokevirtual 110, 3, 105, 0), (729, .if_icmp .eq 378, 3, 1107, 0), (732, .iconst 0, 1, 0, 0), (733, .ireturn, 1, 0, 0)]
theorem yL_okC9 : kOkT (cL_law, yLC9) := by unfold kOkT; decide +kernel
def yLC10 : List kRow := [(734, .aload_n 1, 1, 0, 0), (735, .aload_n 0, 1, 0, 0), (736, .iload 4, 2, 0, 0), (738, .iconst 1, 1, 1, 0), (739, .iadd, 1, 0, 0), (740, .iaload, 1, 0, 0), (741, .invokevirtual 111, 3, 32, 0), (744, .aload_n 2, 1, 0, 0), (745, .aload_n 0, 1, 0, 0), (746, .iload 4, 2, 0, 0), (748, .iconst 1, 1, 1, 0), (749, .iadd, 1, 0, 0), (750, .iaload, 1, 0, 0), (751, .invokevirtual 114, 3, 106, 0), (754, .if_icmp .eq 353, 3, 1107, 0), (757, .iconst 0, 1, 0, 0), (758, .ireturn, 1, 0, 0)]
theorem yL_okC10 : kOkT (cL_law, yLC10) := by unfold kOkT; decide +kernel
def yLC11 : List kRow := [(759, .aload_n 1, 1, 0, 0), (760, .invokevirtual 115, 3, 33, 0), (763, .aload_n 2, 1, 0, 0), (764, .invokevirtual 118, 3, 107, 0), (767, .if_icmp .eq 340, 3, 1107, 0), (770, .iconst 0, 1, 0, 0), (771, .ireturn, 1, 0, 0)]
theorem yL_okC11 : kOkT (cL_law, yLC11) := by unfold kOkT; decide +kernel
def yLC12 : List kRow := [(772, .aload_n 1, 1, 0, 0), (773, .aload_n 0, 1, 0, 0), (774, .iload 4, 2, 0, 0), (776, .iconst 1, 1, 1, 0), (777, .iadd, 1, 0, 0), (778, .iaload, 1, 0, 0), (779, .aload_n 3, 1, 0, 0), (780, .invokestatic 119, 3, 8, 0), (783, .istore 5, 2, 0, 0), (785, .aload_n 2, 1, 0, 0), (786, .aload_n 0, 1, 0, 0), (787, .iload 4, 2, 0, 0), (789, .iconst 1, 1, 1, 0), (790, .iadd, 1, 0, 0), (791, .iaload, 1, 0, 0), (792, .invokevirtual 121, 3, 108, 0), (795, .istore 6, 2, 0, 0), (797, .aload_n 2, 1, 0, 0), (798, .invokevirtual 74, 3, 71, 0), (801, .iload 5, 2, 0, 0), (803, .if_icmp .eq 5, 3, 808, 0), (806, .iconst 0, 1, 0, 0), (807, .ireturn, 1, 0, 0), (808, .iload 5, 2, 0, 0), (810, .ifCond .ne 15, 3, 825, 0), (813, .aload_n 3, 1, 0, 0), (814, .iconst 0, 1, 0, 0), (815, .laload, 1, 0, 0), (816, .iload 6, 2, 0, 0), (818, .i2l, 1, 0, 0), (819, .lcmp, 1, 0, 0), (820, .ifCond .eq 5, 3, 825, 0), (823, .iconst 0, 1, 0, 0), (824, .ireturn, 1, 0, 0), (825, .goto 282, 3, 1107, 0)]
theorem yL_okC12 : kOkT (cL_law, yLC12) := by unfold kOkT; decide +kernel
def yLC13 : List kRow := [(828, .aload_n 1, 1, 0, 0), (829, .aload_n 0, 1, 0, 0), (830, .iload 4, 2, 0, 0), (832, .iconst 1, 1, 1, 0), (833, .iadd, 1, 0, 0), (834, .iaload, 1, 0, 0), (835, .aload_n 0, 1, 0, 0), (836, .iload 4, 2, 0, 0), (838, .iconst 2, 1, 2, 0), (839, .iadd, 1, 0, 0), (840, .iaload, 1, 0, 0), (841, .aload_n 0, 1, 0, 0), (842, .iload 4, 2, 0, 0), (844, .iconst 3, 1, 3, 0), (845, .iadd, 1, 0, 0), (846, .iaload, 1, 0, 0), (847, .aload_n 0, 1, 0, 0), (848, .iload 4, 2, 0, 0), (850, .iconst 4, 1, 4, 0), (851, .iadd, 1, 0, 0), (852, .iaload, 1, 0, 0), (853, .aload_n 3, 1, 0, 0), (854, .invokestatic 122, 3, 9, 0), (857, .istore 5, 2, 0, 0), (859, .aload_n 2, 1, 0, 0), (860, .aload_n 0, 1, 0, 0), (861, .iload 4, 2, 0, 0), (863, .iconst 1, 1, 1, 0), (864, .iadd, 1, 0, 0), (865, .iaload, 1, 0, 0), (866, .aload_n 0, 1, 0, 0), (867, .iload 4, 2, 0, 0), (869, .iconst 2, 1, 2, 0), (870, .iadd, 1, 0, 0), (871, .iaload, 1, 0, 0), (872, .aload_n 0, 1, 0, 0), (873, .iload 4, 2, 0, 0), (875, .iconst 3, 1, 3, 0), (876, .iadd, 1, 0, 0), (877, .iaload, 1, 0, 0), (878, .aload_n 0, 1, 0, 0), (879, .iload 4, 2, 0, 0), (881, .iconst 4, 1, 4, 0), (882, .iadd, 1, 0, 0), (883, .iaload, 1, 0, 0), (884, .invokevirtual 124, 3, 109, 0), (887, .istore 6, 2, 0, 0), (889, .aload_n 2, 1, 0, 0), (890, .invokevirtual 74, 3, 71, 0), (893, .iload 5, 2, 0, 0), (895, .if_icmp .eq 5, 3, 900, 0), (898, .iconst 0, 1, 0, 0), (899, .ireturn, 1, 0, 0), (900, .iload 5, 2, 0, 0), (902, .ifCond .ne 15, 3, 917, 0), (905, .aload_n 3, 1, 0, 0), (906, .iconst 0, 1, 0, 0), (907, .laload, 1, 0, 0), (908, .iload 6, 2, 0, 0), (910, .i2l, 1, 0, 0), (911, .lcmp, 1, 0, 0), (912, .ifCond .eq 5, 3, 917, 0), (915, .iconst 0, 1, 0, 0), (916, .ireturn, 1, 0, 0), (917, .goto 190, 3, 1107, 0)]
theorem yL_okC13 : kOkT (cL_law, yLC13) := by unfold kOkT; decide +kernel
def yLC14 : List kRow := [(920, .aload_n 1, 1, 0, 0), (921, .aload_n 0, 1, 0, 0), (922, .iload 4, 2, 0, 0), (924, .iconst 1, 1, 1, 0), (925, .iadd, 1, 0, 0), (926, .iaload, 1, 0, 0), (927, .aload_n 0, 1, 0, 0), (928, .iload 4, 2, 0, 0), (930, .iconst 2, 1, 2, 0), (931, .iadd, 1, 0, 0), (932, .iaload, 1, 0, 0), (933, .aload_n 3, 1, 0, 0), (934, .invokestatic 125, 3, 10, 0), (937, .istore 5, 2, 0, 0), (939, .aload_n 2, 1, 0, 0), (940, .aload_n 0, 1, 0, 0), (941, .iload 4, 2, 0, 0), (943, .iconst 1, 1, 1, 0), (944, .iadd, 1, 0, 0), (945, .iaload, 1, 0, 0), (946, .aload_n 0, 1, 0, 0), (947, .iload 4, 2, 0, 0), (949, .iconst 2, 1, 2, 0), (950, .iadd, 1, 0, 0), (951, .iaload, 1, 0, 0), (952, .invokevirtual 128, 3, 110, 0), (955, .istore 6, 2, 0, 0), (957, .aload_n 2, 1, 0, 0), (958, .invokevirtual 74, 3, 71, 0), (961, .iload 5, 2, 0, 0), (963, .if_icmp .eq 5, 3, 968, 0), (966, .iconst 0, 1, 0, 0), (967, .ireturn, 1, 0, 0), (968, .iload 5, 2, 0, 0), (970, .ifCond .ne 15, 3, 985, 0), (973, .aload_n 3, 1, 0, 0), (974, .iconst 0, 1, 0, 0), (975, .laload, 1, 0, 0), (976, .iload 6, 2, 0, 0), (978, .i2l, 1, 0, 0), (979, .lcmp, 1, 0, 0), (980, .ifCond .eq 5, 3, 985, 0), (983, .iconst 0, 1, 0, 0), (984, .ireturn, 1, 0, 0), (985, .goto 122, 3, 1107, 0)]
theorem yL_okC14 : kOkT (cL_law, yLC14) := by unfold kOkT; decide +kernel
def yLC15 : List kRow := [(988, .aload_n 1, 1, 0, 0), (989, .invokevirtual 129, 3, 37, 0), (992, .aload_n 2, 1, 0, 0), (993, .invokevirtual 132, 3, 111, 0), (996, .if_icmp .eq 111, 3, 1107, 0), (999, .iconst 0, 1, 0, 0), (1000, .ireturn, 1, 0, 0)]
theorem yL_okC15 : kOkT (cL_law, yLC15) := by unfold kOkT; decide +kernel
def yLC16 : List kRow := [(1001, .aload_n 1, 1, 0, 0), (1002, .invokevirtual 133, 3, 38, 0), (1005, .aload_n 2, 1, 0, 0), (1006, .invokevirtual 136, 3, 112, 0), (1009, .if_icmp .eq 98, 3, 1107, 0), (1012, .iconst 0, 1, 0, 0), (1013, .ireturn, 1, 0, 0)]
theorem yL_okC16 : kOkT (cL_law, yLC16) := by unfold kOkT; decide +kernel
def yLC17 : List kRow := [(1014, .aload_n 1, 1, 0, 0), (1015, .invokevirtual 137, 3, 39, 0), (1018, .aload_n 2, 1, 0, 0), (1019, .invokevirtual 140, 3, 113, 0), (1022, .if_icmp .eq 85, 3, 1107, 0), (1025, .iconst 0, 1, 0, 0), (1026, .ireturn, 1, 0, 0)]
theorem yL_okC17 : kOkT (cL_law, yLC17) := by unfold kOkT; decide +kernel
def yLC18 : List kRow := [(1027, .aload_n 1, 1, 0, 0), (1028, .aload_n 0, 1, 0, 0), (1029, .iload 4, 2, 0, 0), (1031, .iconst 1, 1, 1, 0), (1032, .iadd, 1, 0, 0), (1033, .iaload, 1, 0, 0), (1034, .invokestatic 141, 3, 11, 0), (1037, .istore 5, 2, 0, 0), (1039, .aload_n 2, 1, 0, 0), (1040, .aload_n 0, 1, 0, 0), (1041, .iload 4, 2, 0, 0), (1043, .iconst 1, 1, 1, 0), (1044, .iadd, 1, 0, 0), (1045, .iaload, 1, 0, 0), (1046, .invokevirtual 144, 3, 114, 0), (1049, .aload_n 2, 1, 0, 0), (1050, .invokevirtual 74, 3, 71, 0), (1053, .iload 5, 2, 0, 0), (1055, .if_icmp .eq 5, 3, 1060, 0), (1058, .iconst 0, 1, 0, 0), (1059, .ireturn, 1, 0, 0), (1060, .goto 47, 3, 1107, 0)]
theorem yL_okC18 : kOkT (cL_law, yLC18) := by unfold kOkT; decide +kernel
def yLC19 : List kRow := [(1063, .aload_n 1, 1, 0, 0), (1064, .aload_n 3, 1, 0, 0), (1065, .invokestatic 145, 3, 12, 0), (1068, .istore 5, 2, 0, 0), (1070, .aload_n 2, 1, 0, 0), (1071, .invokevirtual 147, 3, 116, 0), (1074, .istore 6, 2, 0, 0), (1076, .aload_n 2, 1, 0, 0), (1077, .invokevirtual 74, 3, 71, 0), (1080, .iload 5, 2, 0, 0), (1082, .if_icmp .eq 5, 3, 1087, 0), (1085, .iconst 0, 1, 0, 0), (1086, .ireturn, 1, 0, 0), (1087, .iload 5, 2, 0, 0), (1089, .ifCond .ne 15, 3, 1104, 0), (1092, .aload_n 3, 1, 0, 0), (1093, .iconst 0, 1, 0, 0), (1094, .laload, 1, 0, 0), (1095, .iload 6, 2, 0, 0), (1097, .i2l, 1, 0, 0), (1098, .lcmp, 1, 0, 0), (1099, .ifCond .eq 5, 3, 1104, 0), (1102, .iconst 0, 1, 0, 0), (1103, .ireturn, 1, 0, 0), (1104, .goto 3, 3, 1107, 0)]
theorem yL_okC19 : kOkT (cL_law, yLC19) := by unfold kOkT; decide +kernel
def yLE : List kRow := [(1107, .iinc 4 8, 3, 8, 0), (1110, .goto (-1087), 3, 23, 0), (1113, .iconst 1, 1, 1, 0), (1114, .ireturn, 1, 0, 0)]
theorem yL_okE : kOkT (cL_law, yLE) := by unfold kOkT; decide +kernel
def yVl : List (Nat × Nat) := [(7, 22), (15, 23), (21, 24), (25, 25), (29, 26), (32, 27), (38, 28), (42, 29), (45, 34), (48, 35), (51, 36), (55, 40), (61, 41), (73, 87), (74, 71), (80, 94), (84, 95), (88, 96), (91, 97), (95, 98), (99, 102), (102, 103), (103, 30), (106, 104), (107, 31), (110, 105), (111, 32), (114, 106), (115, 33), (118, 107), (121, 108), (124, 109), (128, 110), (129, 37), (132, 111), (133, 38), (136, 112), (137, 39), (140, 113), (144, 114), (147, 116)]
def ySl : List (Nat × Nat) := [(68, 0), (77, 1), (81, 2), (85, 3), (89, 4), (92, 5), (96, 6), (100, 7), (119, 8), (122, 9), (125, 10), (141, 11), (145, 12)]
abbrev yWt : Type := MethodName × ByteArray × Nat × List (Nat × Nat × Nat × Nat) × Nat × List kRow
def yWs : List yWt := [(yL_makeVolume, cL_makeVolume, 3, [(0, 8, 11, 13)], 2, yT0), (yL_write, cL_write, 7, [(0, 11, 14, 13), (0, 11, 18, 19)], 6, yT1), (yL_fill, cL_fill, 9, [(0, 15, 18, 13), (0, 15, 22, 19)], 8, yT2), (yL_read, cL_read, 7, [(0, 14, 17, 13), (0, 14, 21, 19)], 6, yT3), (yL_split, cL_split, 3, [(0, 8, 11, 13)], 2, yT4), (yL_rejoin, cL_rejoin, 4, [(0, 6, 9, 13), (0, 6, 12, 19), (0, 6, 15, 36)], 3, yT5), (yL_step, cL_step, 4, [(0, 9, 12, 13), (0, 9, 15, 19), (0, 9, 18, 36)], 3, yT6), (yL_run, cL_run, 4, [(0, 9, 12, 13), (0, 9, 15, 19), (0, 9, 18, 36)], 3, yT7), (yL_differing, cL_differing, 4, [(0, 9, 12, 19)], 3, yT8), (yL_raw, cL_raw, 7, [(0, 14, 17, 19)], 6, yT9), (yL_head, cL_head, 5, [(0, 10, 13, 19)], 4, yT10), (yL_cutAfter, cL_cutAfter, 3, [(0, 5, 8, 59)], 2, yT11), (yL_start, cL_start, 3, [(0, 8, 11, 13)], 2, yT12)]
theorem yWs_ok : ∀ q ∈ yWs, kOkT (q.2.1, q.2.2.2.2.2) := List.forall_mem_cons.mpr ⟨yT_ok0, List.forall_mem_cons.mpr ⟨yT_ok1, List.forall_mem_cons.mpr ⟨yT_ok2, List.forall_mem_cons.mpr ⟨yT_ok3, List.forall_mem_cons.mpr ⟨yT_ok4, List.forall_mem_cons.mpr ⟨yT_ok5, List.forall_mem_cons.mpr ⟨yT_ok6, List.forall_mem_cons.mpr ⟨yT_ok7, List.forall_mem_cons.mpr ⟨yT_ok8, List.forall_mem_cons.mpr ⟨yT_ok9, List.forall_mem_cons.mpr ⟨yT_ok10, List.forall_mem_cons.mpr ⟨yT_ok11, List.forall_mem_cons.mpr ⟨yT_ok12, fun _ h => absurd h List.not_mem_nil⟩⟩⟩⟩⟩⟩⟩⟩⟩⟩⟩⟩⟩
abbrev ya_makeVolume : Nat := 0
abbrev ya_write : Nat := 1
abbrev ya_fill : Nat := 2
abbrev ya_read : Nat := 3
abbrev ya_split : Nat := 4
abbrev ya_rejoin : Nat := 5
abbrev ya_step : Nat := 6
abbrev ya_run : Nat := 7
abbrev ya_differing : Nat := 8
abbrev ya_raw : Nat := 9
abbrev ya_head : Nat := 10
abbrev ya_cutAfter : Nat := 11
abbrev ya_start : Nat := 12
def yW (i : Nat) : yWt := yWs.getD i (yL_makeVolume, cL_makeVolume, 3, [], 2, [])
set_option maxRecDepth 100000 in
theorem yVl_ok : ∀ r ∈ yVl, Cond.methodLink RL r.1 (kY r.2) ∈ kG := by decide +kernel
set_option maxRecDepth 100000 in
theorem ySl_ok : ∀ r ∈ ySl, Cond.methodLink RL r.1 (yW r.2).1 ∈ kG ∧ r.2 < 13 := by decide +kernel
set_option maxRecDepth 100000 in
theorem yWs_in : ∀ i, i < 13 → Cond.codeWith (yW i).1 (yW i).2.1 (yW i).2.2.1 (some .int) (yW i).2.2.2.1 ∈ kG ∧ Cond.static (yW i).1 ∈ kG ∧ (yW i).1.cls = RL ∧ plainName (yW i).1.cls = true ∧ ((yW i).1.cls ≠ "java/lang/invoke/MethodHandle" ∧ (yW i).1.cls ≠ "java/lang/invoke/VarHandle") ∧ (parseMethodDescriptor (yW i).1.desc).map (fun d => d.parameters.length) = some (yW i).2.2.2.2.1 ∧ (yW i).2.2.1 ≤ 9 := by decide +kernel
set_option maxRecDepth 100000 in
theorem yRL_ok : Cond.initialized RL ∈ kG ∧ Cond.classLink RL 13 eS ∈ kG ∧ Cond.classLink RL 19 eB ∈ kG ∧ Cond.classLink RL 36 eU ∈ kG ∧ Cond.classLink RL 59 eA ∈ kG := by decide +kernel
end
section
/-! bodies of the law's class: a call by contract from whichever room; what stands fast -/
def yCx (cc : ByteArray) (nL d nm c0 s0 : Nat) (p : Program) (l : Launch) (R : Room) (s : State) (m : MethodId) (args : Array Value) (c : Code) (D : va_G) (ad : Nat → Nat) (cI cJ : ClassId) : Prop :=
  p.tables.exec = Jvm.exec ∧ c.code = cc ∧ c.maxLocals = nL ∧ s.vm.findClass RL = some m.cls ∧ (∀ w ∈ kG, w.before args s = true) ∧ va_K D vwCl (kTy cI cJ) s ∧ kz (kA ad s.heap.size) s s.heap ∧ l.stackTraces = false ∧ kInj ad ∧
  6 + d + 1 ≤ R.frames ∧ 90 + 28 * (d + 1) ≤ R.locals ∧ c0 + nm ≤ R.cells ∧ s0 + 6 * nm ≤ R.slots
section YL
variable {p : Program} {l : Launch} {e : Env} {R : Room} {s : State} {m : MethodId} {args : Array Value} {below : List Frame} {meth : Method} {c : Code} {D : va_G} {ad : Nat → Nat} {cI cJ : ClassId} {o : Int64} {cc : ByteArray} {nL d nm c0 s0 : Nat}
theorem y_met {callee n : Nat} (C : yCx cc nL d nm c0 s0 p l R s m args c D ad cI cJ) (hnm : n < nm) (hc : callee < 118) {av : List Value} {M : kMem} {P' : kRes → Prop} (hC : kC d callee av M P') {T : State} {locs : List Loc} (X : Stand p l e R s m args below meth c T locs (c0 + n) (s0 + 6 * n)) (hP : va_P D vwCl (kW ad cI cJ o M) T.heap) (hS : va_S (kA ad s.heap.size) s.heap T.heap locs)
    {g : JFrame} (hg : g.method = m) (hsize : g.locals.size = c.maxLocals) {ig : Instr} (hdg : decode c.code g.pc = .ok (ig, 3)) (hW : 2 * g.monitorRoom + (g.stack.map fun v => v.category).sum ≤ 8) {mk : MethodId} (hn : T.methodNamed? (kY callee) = some mk) :
    (∃ (v : Option Value) (M' : kMem) (B : State) (L : List Loc), P' (.inl (v, M')) ∧ va_P D vwCl (kW ad cI cJ o M') B.heap ∧ va_S (kA ad s.heap.size) s.heap B.heap (locs ++ L) ∧ Stand p l e R s m args below meth c B (locs ++ L) (c0 + n) (s0 + 6 * n) ∧
      Steps p.tables e below (doInvoke e (T.setTop g) [] mk (av.map (kv ad)).toArray).1 (B.setTop { g with pc := g.pc + 3, stack := (v.map (kv ad)).toList ++ g.stack })) ∨
    (∃ (q : Addr) (E : String) (M' : kMem) (ce : Cell) (B : State) (L : List Loc), P' (.inr (E, M')) ∧ va_P D vwCl (kW ad cI cJ o M') B.heap ∧ va_S (kA ad s.heap.size) s.heap B.heap (locs ++ L) ∧ Stand p l e R s m args below meth c B (locs ++ L) (c0 + (n + 1)) (s0 + 6 * (n + 1)) ∧ B.heap[q]? = some ce ∧ ce.vm = .none ∧ s.vm.findClass E = some ce.cls ∧
      Steps p.tables e below (doInvoke e (T.setTop g) [] mk (av.map (kv ad)).toArray).1 ((B.setTop g).pushFrame (.throwing q))) := by
  obtain ⟨hx, hb, hml, hown, hts, hK, hz, hst, hi, r1, r2, r3, r4⟩ := C
  obtain ⟨a1, a2, a3, a4, a5, a6⟩ := kAll_ok callee hc
  have hM := hC l D ad cI cJ o hst hi
  have hat : ∀ w ∈ kG, ∀ (a' : Array Value), w.before a' T = true := fun w hw a' => kG_at hw X.warmed (hts w hw)
  have h1 : (headSpec (kWs callee) (kR d)).pre.before (av.map (kv ad)).toArray T = true := atoms_intro fun w hw => (List.mem_cons.mp hw).elim (fun e9 => by rw [e9]; exact hat _ (kCode_in hc) _) (fun h9 => hat w h9 _)
  have h2 : (Cond.code (kY callee) (kB callee) (kL callee) (kRt callee)).before (av.map (kv ad)).toArray T = true := hat _ (kCode_in hc) _
  have h3 : (Cond.initialized (kY callee).cls).before (av.map (kv ad)).toArray T = true := by rw [a2]; exact hat _ a1 _
  obtain ⟨methY, cY, hmY, hcY, -, hlY, -, -, -, -⟩ := Cond.code_spec hn h2
  obtain ⟨kY9, hkY, -⟩ := className_of_methodNamed hn
  have hinitY : kY9.init = .initialized := Cond.initialized_spec (findClass_of_methodNamed hn) hkY h3
  have h : At T g.method c below := by rw [hg]; exact X.here
  have hrl : (headSpec (kWs callee) (kR d)).room = kR d := rfl
  have hroom : (T.calling g mk (av.map (kv ad)).toArray).hasRoom e.platform (kR d) = true :=
    X.room_calling (g := g) (R' := kR d) hsize hmY hcY (by show 6 + d + 1 ≤ _; omega) (by rw [hlY]; show _ + (90 + 28 * d) ≤ _; omega) (by show _ + 1 ≤ _; omega) (by show _ + 6 ≤ _; omega)
  have happ : (headSpec (kWs callee) (kR d)).appliesLoose (kY callee) e.platform (T.calling g mk (av.map (kv ad)).toArray) = true :=
    Spec.appliesLoose_calling (g := g) h hdg hn hkY hinitY (by rw [hrl]; exact hroom) h1
  obtain ⟨mid9, hmid⟩ := h.above
  have hfr : (T.setTop g).frames = (.java g :: mid9) ++ below := by rw [State.frames_setTop' g h.top, hmid]; rfl
  have hPc : kPc D ad cI cJ o av M (av.map (kv ad)).toArray (T.calling g mk (av.map (kv ad)).toArray) :=
    ⟨rfl, hP, va_K.moved (u := s) (U := T.calling g mk (av.map (kv ad)).toArray) X.warmed.alike hK, kz.moved (u := s) (U := T.calling g mk (av.map (kv ad)).toArray) X.warmed ((hz.kept hS.2.1).narrow (fun q hq => kA_mono hS.1 hq))⟩
  obtain ⟨oc, t, hsteps, -, hend, hq⟩ := Steps.callFree hM p X.admits X.cas X.clock (acts := []) hfr happ hPc trivial
  have hq' : kEnd D ad cI cJ o P' (T.calling g mk (av.map (kv ad)).toArray) oc t := hq
  rcases hq' with ⟨v, M', rfl, hp, f1, f2, f3, L, f4, f5⟩ | ⟨q, E, M', ce, rfl, hp, hce, hcv, hcl, f1, f2, f3, L, f4, f5⟩
  · obtain ⟨B, b1, b2, X', b3, -⟩ := k_back X hg hdg hsteps hend f3 f4
    exact Or.inl ⟨v, M', B, L, hp, by rw [b1]; exact f1, kS_on hS (U := T.calling g mk (av.map (kv ad)).toArray) rfl f2 f5 b1, X', b3 _ rfl⟩
  · obtain ⟨B, b1, b2, X', -, b3⟩ := k_back X hg hdg hsteps hend f3 f4
    have hcl' : s.vm.findClass E = some ce.cls := by
      have h9 : T.vm.findClass E = some ce.cls := hcl
      rw [X.warmed.alike.findClass] at h9
      exact h9
    have X'' : Stand p l e R s m args below meth c B (locs ++ L) (c0 + (n + 1)) (s0 + 6 * (n + 1)) := by
      rw [show c0 + (n + 1) = c0 + n + 1 by omega, show s0 + 6 * (n + 1) = s0 + 6 * n + 6 by omega]
      exact X'
    exact Or.inr ⟨q, E, M', ce, B, L, hp, by rw [b1]; exact f1, kS_on hS (U := T.calling g mk (av.map (kv ad)).toArray) rfl f2 f5 b1, X'', by rw [b1]; exact hce, hcv, hcl', b3 _ rfl⟩
/-- THE JUDGEMENT for bodies of the law's class -/
def yJ (p : Program) (l : Launch) (e : Env) (R : Room) (s : State) (m : MethodId) (args : Array Value) (below : List Frame) (meth : Method) (c : Code) (D : va_G) (ad : Nat → Nat) (cI cJ : ClassId) (nL c0 s0 : Nat) (Q : State → Prop) (pc : Nat) (lv : List (Nat × Value)) (st : List Value) (M : kMem) (o : Int64) (n : Nat) : Prop :=
  ∀ (H : Heap) (locs : List Loc) (ls : Array Slot), va_P D vwCl (kW ad cI cJ o M) H → va_S (kA ad s.heap.size) s.heap H locs → lv_has ls nL (lv.map (fun q => (q.1, kv ad q.2))) →
    W p l e R s m args below meth c H locs (c0 + n) (s0 + 6 * n) Q (F0 m pc ls (st.map (kv ad)))
end YL
end
section
/-! bodies of the law's class: what an instruction asks, computed -/
abbrev yKt : Type := Nat → List (Nat × Value) → List Value → kMem → Int64 → Nat → Prop
def kEx : List String := [eS, eB, eU, eA]
/-- which exception is which -/
def kAs (U : State) : Prop := ∀ E ∈ kEx, ∀ F ∈ kEx, ∃ a b, U.vm.findClass E = some a ∧ U.vm.findClass F = some b ∧ U.vm.assignable a b = decide (E = F)
theorem kAs.moved {u U : State} (h : u.vm.Alike U.vm) (k : kAs u) : kAs U := by
  intro E hE F hF
  obtain ⟨a, b, h1, h2, h3⟩ := k E hE F hF
  exact ⟨a, b, by rw [h.findClass]; exact h1, by rw [h.findClass]; exact h2, by rw [h.assignable]; exact h3⟩
def xEnd (D : va_G) (ad : Nat → Nat) (cI cJ : ClassId) (P : Int32 → kMem → Int64 → Prop) (s : State) (oc : Outcome) (t : State) : Prop :=
  ∃ (k : Int32) (M : kMem) (o : Int64), oc = .returned (some (.int k)) ∧ P k M o ∧ kFin D ad cI cJ o s t M 1 6
def xWd (i : Nat) : List Cond := Cond.codeWith (yW i).1 (yW i).2.1 (yW i).2.2.1 (some .int) (yW i).2.2.2.1 :: kG
/-- THE CONTRACT of a wrapper: its answer, the memory, what out holds -/
def xC (d i : Nat) (av : List Value) (M : kMem) (o : Int64) (P : Int32 → kMem → Int64 → Prop) : Prop :=
  ∀ (l : Launch) (D : va_G) (ad : Nat → Nat) (cI cJ : ClassId), l.stackTraces = false → kInj ad →
    MetFree l (yW i).1 (headSpec (xWd i) (kR d)) (fun v U => kPc D ad cI cJ o av M v U ∧ kAs U) (fun _ _ _ _ _ => True) (fun _ st oc t => xEnd D ad cI cJ P st oc t)
def ygo (K : yKt) (Hn : Nat → String → Option Nat) (pc : Nat) (lv : List (Nat × Value)) (st : List Value) (o : Int64) (n : Nat) : kRes → Prop := fun r => match r with
  | .inl q => K (pc + 3) lv (q.1.toList ++ st) q.2 o n
  | .inr q => match Hn pc q.1 with
    | some h => K h [] [] q.2 o (n + 1)
    | none => False
def ywp (nL d nm L : Nat) (sc : Bool) (xs : Nat → Int32) (Hn : Nat → String → Option Nat) (F : Int32 → kMem → Int64 → Nat → Prop) (K : yKt) (r : kRow) (lv : List (Nat × Value)) (st : List Value) (M : kMem) (o : Int64) (n : Nat) : Prop :=
  match r with
  | (pc, i, _, x, y) => match i with
    | .iconst _ => K (pc + 1) lv (.int (kcv x y) :: st) M o n
    | .bipush _ => K (pc + 2) lv (.int (kcv x y) :: st) M o n
    | .iload_n k => match kget lv k.val with
      | some (.int v) => K (pc + 1) lv (.int v :: st) M o n
      | _ => False
    | .iload k => match kget lv k with
      | some (.int v) => K (pc + 2) lv (.int v :: st) M o n
      | _ => False
    | .aload_n k => match kget lv k.val with
      | some (.ref v) => K (pc + 1) lv (.ref v :: st) M o n
      | _ => False
    | .aload k => match kget lv k with
      | some (.ref v) => K (pc + 2) lv (.ref v :: st) M o n
      | _ => False
    | .istore k => match st with
      | .int v :: st => if kcat lv = true ∧ k < nL then K (pc + 2) (kset lv k (.int v)) st M o n else False
      | _ => False
    | .iinc k _ => match kget lv k with
      | some (.int v) => if kcat lv = true ∧ k < nL then K (pc + 3) (kset lv k (.int (v + nI x))) st M o n else False
      | _ => False
    | .iadd => match st with
      | .int b :: .int a :: st => K (pc + 1) lv (.int (a + b) :: st) M o n
      | _ => False
    | .isub => match st with
      | .int b :: .int a :: st => K (pc + 1) lv (.int (a - b) :: st) M o n
      | _ => False
    | .iand => match st with
      | .int b :: .int a :: st => K (pc + 1) lv (.int (a &&& b) :: st) M o n
      | _ => False
    | .goto _ => K x lv st M o n
    | .ifCond .eq _ => match st with
      | .int a :: st => (a = 0 → K x lv st M o n) ∧ (¬ a = 0 → K (pc + 3) lv st M o n)
      | _ => False
    | .ifCond .ne _ => match st with
      | .int a :: st => (¬ a = 0 → K x lv st M o n) ∧ (a = 0 → K (pc + 3) lv st M o n)
      | _ => False
    | .if_icmp .eq _ => match st with
      | .int b :: .int a :: st => (a = b → K x lv st M o n) ∧ (¬ a = b → K (pc + 3) lv st M o n)
      | _ => False
    | .if_icmp .gt _ => match st with
      | .int b :: .int a :: st => (b < a → K x lv st M o n) ∧ (¬ b < a → K (pc + 3) lv st M o n)
      | _ => False
    | .iaload => match st with
      | .int i :: .ref 16 :: st => sc = true ∧ ∃ j, i = nI j ∧ j < L ∧ j < 2 ^ 31 ∧ K (pc + 1) lv (.int (xs j) :: st) M o n
      | _ => False
    | .arraylength => match st with
      | .ref 16 :: st => sc = true ∧ K (pc + 1) lv (.int (nI L) :: st) M o n
      | _ => False
    | .i2l => match st with
      | .int v :: st => K (pc + 1) lv (.long v.toInt64 :: st) M o n
      | _ => False
    | .lcmp => match st with
      | .long b :: .long a :: st => K (pc + 1) lv (.int (lg_cmp a b) :: st) M o n
      | _ => False
    | .laload => match st with
      | .int i :: .ref 15 :: st => i = nI 0 ∧ K (pc + 1) lv (.long o :: st) M o n
      | _ => False
    | .lastore => match st with
      | .long v :: .int i :: .ref 15 :: st => i = nI 0 ∧ K (pc + 1) lv st M v n
      | _ => False
    | .ireturn => match st with
      | [.int v] => F v M o n
      | _ => False
    | .invokevirtual idx => match st.drop (kN x) with
      | .ref a :: st' => match kob M a with
        | some q => n < nm ∧ (if (idx, x) ∈ yVl ∧ x ∈ kVi ∧ q.1 = kO x ∧ (st'.map fun v => v.category).sum ≤ 8 then kC d x (.ref a :: (st.take (kN x)).reverse) M (ygo K Hn pc lv st' o n) else False)
        | none => False
      | _ => False
    | .invokestatic idx => n < nm ∧ (if (idx, x) ∈ ySl ∧ (yW x).2.2.2.2.1 ≤ st.length ∧ ((st.drop (yW x).2.2.2.2.1).map fun v => v.category).sum ≤ 8 then xC d x (st.take (yW x).2.2.2.2.1).reverse M o (fun k M' o' => K (pc + 3) lv (.int k :: st.drop (yW x).2.2.2.2.1) M' o' (n + 1)) else False)
    | _ => False
end
section
/-! bodies of the law's class: the computed questions are enough -/
section YK
variable {p : Program} {l : Launch} {e : Env} {R : Room} {s : State} {m : MethodId} {args : Array Value} {below : List Frame} {meth : Method} {c : Code} {D : va_G} {ad : Nat → Nat} {cI cJ : ClassId} {o : Int64} {cc : ByteArray} {nL d nm c0 s0 : Nat} {Q : State → Prop}
theorem xCode {i : Nat} (h : i < 13) : Cond.codeWith (yW i).1 (yW i).2.1 (yW i).2.2.1 (some .int) (yW i).2.2.2.1 ∈ kG := (yWs_in i h).1
theorem y_metX {i n : Nat} (C : yCx cc nL d nm c0 s0 p l R s m args c D ad cI cJ) (hA : kAs s) (hnm : n < nm) (hc : i < 13) {av : List Value} {M : kMem} {P' : Int32 → kMem → Int64 → Prop} (hC : xC d i av M o P') {T : State} {locs : List Loc} (X : Stand p l e R s m args below meth c T locs (c0 + n) (s0 + 6 * n)) (hP : va_P D vwCl (kW ad cI cJ o M) T.heap) (hS : va_S (kA ad s.heap.size) s.heap T.heap locs)
    {g : JFrame} (hg : g.method = m) (hsize : g.locals.size = c.maxLocals) {ig : Instr} (hdg : decode c.code g.pc = .ok (ig, 3)) (hW : 2 * g.monitorRoom + (g.stack.map fun v => v.category).sum ≤ 8) {mk : MethodId} (hn : T.methodNamed? (yW i).1 = some mk) :
    ∃ (k : Int32) (M' : kMem) (o' : Int64) (B : State) (L : List Loc), P' k M' o' ∧ va_P D vwCl (kW ad cI cJ o' M') B.heap ∧ va_S (kA ad s.heap.size) s.heap B.heap (locs ++ L) ∧ Stand p l e R s m args below meth c B (locs ++ L) (c0 + (n + 1)) (s0 + 6 * (n + 1)) ∧
      Steps p.tables e below (doInvoke e (T.setTop g) [] mk (av.map (kv ad)).toArray).1 (B.setTop { g with pc := g.pc + 3, stack := .int k :: g.stack }) := by
  obtain ⟨hx, hb, hml, hown, hts, hK, hz, hst, hi, r1, r2, r3, r4⟩ := C
  obtain ⟨a1, a2, a3, a4, a5, a6, a7⟩ := yWs_in i hc
  have hM := hC l D ad cI cJ hst hi
  have hat : ∀ w ∈ kG, ∀ (a' : Array Value), w.before a' T = true := fun w hw a' => kG_at hw X.warmed (hts w hw)
  have h1 : (headSpec (xWd i) (kR d)).pre.before (av.map (kv ad)).toArray T = true := atoms_intro fun w hw => (List.mem_cons.mp hw).elim (fun e9 => by rw [e9]; exact hat _ a1 _) (fun h9 => hat w h9 _)
  have h3 : (Cond.initialized (yW i).1.cls).before (av.map (kv ad)).toArray T = true := by rw [a3]; exact hat _ yRL_ok.1 _
  obtain ⟨m9, methY, cY, hn9, hmY, hcY, -, hlY, -, -, -, -⟩ := Cond.codeWith_spec (hat _ a1 #[])
  cases Option.some.inj (hn9.symm.trans hn)
  obtain ⟨kY9, hkY, -⟩ := className_of_methodNamed hn
  have hinitY : kY9.init = .initialized := Cond.initialized_spec (findClass_of_methodNamed hn) hkY h3
  have h : At T g.method c below := by rw [hg]; exact X.here
  have hrl : (headSpec (xWd i) (kR d)).room = kR d := rfl
  have hroom : (T.calling g mk (av.map (kv ad)).toArray).hasRoom e.platform (kR d) = true :=
    X.room_calling (g := g) (R' := kR d) hsize hmY hcY (by show 6 + d + 1 ≤ _; omega) (by rw [hlY]; show _ + (90 + 28 * d) ≤ _; omega) (by show _ + 1 ≤ _; omega) (by show _ + 6 ≤ _; omega)
  have happ : (headSpec (xWd i) (kR d)).appliesLoose (yW i).1 e.platform (T.calling g mk (av.map (kv ad)).toArray) = true :=
    Spec.appliesLoose_calling (g := g) h hdg hn hkY hinitY (by rw [hrl]; exact hroom) h1
  obtain ⟨mid9, hmid⟩ := h.above
  have hfr : (T.setTop g).frames = (.java g :: mid9) ++ below := by rw [State.frames_setTop' g h.top, hmid]; rfl
  have hPc : kPc D ad cI cJ o av M (av.map (kv ad)).toArray (T.calling g mk (av.map (kv ad)).toArray) ∧ kAs (T.calling g mk (av.map (kv ad)).toArray) :=
    ⟨⟨rfl, hP, va_K.moved (u := s) (U := T.calling g mk (av.map (kv ad)).toArray) X.warmed.alike hK, kz.moved (u := s) (U := T.calling g mk (av.map (kv ad)).toArray) X.warmed ((hz.kept hS.2.1).narrow (fun q hq => kA_mono hS.1 hq))⟩, hA.moved (U := T.calling g mk (av.map (kv ad)).toArray) X.warmed.alike⟩
  obtain ⟨oc, t, hsteps, -, hend, hq⟩ := Steps.callFree hM p X.admits X.cas X.clock (acts := []) hfr happ hPc trivial
  have hq' : xEnd D ad cI cJ P' (T.calling g mk (av.map (kv ad)).toArray) oc t := hq
  obtain ⟨k, M', o', rfl, hp, f1, f2, f3, L, f4, f5⟩ := hq'
  obtain ⟨B, b1, b2, X', b3, -⟩ := k_back X hg hdg hsteps hend f3 f4
  have X'' : Stand p l e R s m args below meth c B (locs ++ L) (c0 + (n + 1)) (s0 + 6 * (n + 1)) := by
    rw [show c0 + (n + 1) = c0 + n + 1 by omega, show s0 + 6 * (n + 1) = s0 + 6 * n + 6 by omega]
    exact X'
  exact ⟨k, M', o', B, L, hp, by rw [b1]; exact f1, kS_on hS (U := T.calling g mk (av.map (kv ad)).toArray) rfl f2 f5 b1, X'', b3 _ rfl⟩
/-- what the body's table of handlers does -/
def yHn (e : Env) (s : State) (m : MethodId) (c : Code) (cc : ByteArray) (nL : Nat) (Hn : Nat → String → Option Nat) : Prop :=
  ∀ pc E h, Hn pc E = some h → ∀ th, s.vm.findClass E = some th → ∃ hp i, kct e.platform s m.cls pc th hp c.exceptionTable.toList ∧ i < nL ∧ ((decode cc hp = .ok (.astore i, 2) ∧ h = hp + 2) ∨ (∃ k : Fin 4, (k : Nat) = i ∧ decode cc hp = .ok (.astore_n k, 1) ∧ h = hp + 1))
theorem yj_callV {Hn : Nat → String → Option Nat} {K : yKt} (C : yCx cc nL d nm c0 s0 p l R s m args c D ad cI cJ) (hH : yHn e s m c cc nL Hn) (hK9 : ∀ pc lv st M o n, K pc lv st M o n → yJ p l e R s m args below meth c D ad cI cJ nL c0 s0 Q pc lv st M o n)
    {pc n : Nat} {lv : List (Nat × Value)} {st : List Value} {M : kMem} {idx callee a : Nat} {fs as : List Value} (hnm : n < nm) (hd : decode cc pc = .ok (.invokevirtual idx, 3)) (hl : (idx, callee) ∈ yVl) (hv : callee ∈ kVi) (ho : kob M a = some (kO callee, fs)) (hn : as.length = kN callee) (hw : (st.map fun v => v.category).sum ≤ 8)
    (k : kC d callee (.ref a :: as) M (ygo K Hn pc lv st o n)) : yJ p l e R s m args below meth c D ad cI cJ nL c0 s0 Q pc lv (as.reverse ++ .ref a :: st) M o n := by
  intro H locs ls hP hS hll
  have hc := kVi_lt callee hv
  obtain ⟨v1, v2, v3⟩ := kVi_ok callee hv
  obtain ⟨a1, a2, a3, a4, a5, a6⟩ := kAll_ok callee hc
  have hl1 := yVl_ok _ hl
  have C' := C
  obtain ⟨hx, hb, hml, hown, hts, hK, hz, hst, hi, r1, r2, r3, r4⟩ := C
  intro T hT X
  subst hT
  obtain ⟨cellB, hcB, hoB, hclB⟩ := va_recv hK hP (ci := kO callee) (q0 := a) (kcl (kO callee) v3) (kW_at (ad := ad) (kob_ok (cI := cI) (cJ := cJ) (o := o) ho))
  have hclB : s.vm.findClass (kCn (kO callee)) = some cellB.cls := hclB
  obtain ⟨mk, methM, hnamed, hmethM, hstM, habM⟩ := Cond.instanceMethod_spec (hts _ v1)
  obtain ⟨methM', cM, hmethM', -, -, -, -, -, -, hsigM⟩ := Cond.code_spec hnamed (hts _ (kCode_in hc))
  cases hmethM.symm.trans hmethM'
  obtain ⟨c2, r2', m2, q1, q2, q3, q4, kP, hkP, hkPi⟩ := Cond.selects_spec (hts _ v2)
  cases hclB.symm.trans q1
  cases (State.methodFound?_of_named hnamed a4).symm.trans q2
  cases hnamed.symm.trans q3
  have hselP : selectMethod e.platform s.vm cellB.cls mk = .method mk := by rw [Launch.admits_selectMethod X.admits]; exact q4
  have hlen : (as.map (kv ad)).length = methM.sig.parameters.length := by
    rw [hsigM] at a5
    rw [List.length_map, hn]
    exact (Option.some.inj a5).symm
  have hdg : decode c.code pc = .ok (.invokevirtual idx, 3) := by rw [hb]; exact hd
  obtain ⟨vm₁, X₁, hstep₁⟩ := X.invokevirtual hx hown (hts _ hl1) hnamed hmethM hstM hkP hkPi a4 (a := ad a) (cell := cellB) hcB
    (fun z h => by rw [h] at hoB; cases hoB) hselP hmethM habM hkP hkPi (g := F0 m pc ls ((as.reverse ++ .ref a :: st).map (kv ad))) rfl (argsL := as.map (kv ad)) (rest := st.map (kv ad)) hlen (by simp [kv]) hdg
  rcases y_met (o := o) C' hnm hc k X₁ hP hS (g := F0 m pc ls (st.map (kv ad))) rfl (hll.1.trans hml.symm) hdg (by show 2 * 0 + _ ≤ 8; rw [Nat.zero_add]; exact kst_cat hw) (X₁.named hnamed) with ⟨v, M', B, L, hp, g1, g2, X', g3⟩ | ⟨q, E, M', ce, B, L, hp, g1, g2, X', g4, g5, g6, g3⟩
  · have hp' : K (pc + 3) lv (v.toList ++ st) M' o n := hp
    obtain ⟨t, b1, b2⟩ := hK9 _ _ _ _ _ _ hp' B.heap (locs ++ L) ls g1 g2 hll B rfl X'
    refine ⟨t, hstep₁ _ (fun acts => ?_), b2⟩
    rw [doInvoke_state]
    refine Steps.trans g3 ?_
    have e9 : (v.toList ++ st).map (kv ad) = (v.map (kv ad)).toList ++ st.map (kv ad) := by cases v <;> simp
    rw [e9] at b1
    exact b1
  · have hp' : (match Hn pc E with | some h => K h [] [] M' o (n + 1) | none => False) := hp
    cases hh : Hn pc E with
    | none => rw [hh] at hp'; exact hp'.elim
    | some h =>
      rw [hh] at hp'
      have hp' : K h [] [] M' o (n + 1) := hp'
      obtain ⟨hp0, i, hk0, hiL, hdec⟩ := hH pc E h hh ce.cls g6
      obtain ⟨vm', X2, hst2⟩ := kct_steps X' (g := F0 m pc ls (st.map (kv ad))) rfl g4 g5 (by obtain ⟨k9, h9, -⟩ := Vm.findClass_spec g6; exact ⟨k9, h9⟩) hk0
      have hW : W p l e R s m args below meth c B.heap (locs ++ L) (c0 + (n + 1)) (s0 + 6 * (n + 1)) Q (F0 m hp0 ls [.ref q]) := by
        have nil : ∀ ls' : Array Slot, ls'.size = nL → lv_has ls nL (lv.map (fun q => (q.1, kv ad q.2))) → True := fun _ _ _ => trivial
        rcases hdec with ⟨h1, h2⟩ | ⟨k9, h0, h1, h2⟩
        · subst h2
          exact lv_astore hx hb h1 hll hiL rfl (fun ls' h' => hK9 _ _ _ _ _ _ hp' B.heap (locs ++ L) ls' g1 g2 ⟨h'.1, h'.2.1, fun q hq => absurd hq List.not_mem_nil⟩)
        · subst h2
          exact lv_astore_n hx hb h1 h0 hll hiL rfl (fun ls' h' => hK9 _ _ _ _ _ _ hp' B.heap (locs ++ L) ls' g1 g2 ⟨h'.1, h'.2.1, fun q hq => absurd hq List.not_mem_nil⟩)
      obtain ⟨t, b1, b2⟩ := hW (B.setVm vm') rfl X2
      refine ⟨t, hstep₁ _ (fun acts => ?_), b2⟩
      rw [doInvoke_state]
      exact Steps.trans g3 (hst2 _ b1)
theorem yj_callS {K : yKt} (C : yCx cc nL d nm c0 s0 p l R s m args c D ad cI cJ) (hA : kAs s) (hK9 : ∀ pc lv st M o n, K pc lv st M o n → yJ p l e R s m args below meth c D ad cI cJ nL c0 s0 Q pc lv st M o n)
    {pc n : Nat} {lv : List (Nat × Value)} {st : List Value} {M : kMem} {idx i : Nat} {as : List Value} (hnm : n < nm) (hd : decode cc pc = .ok (.invokestatic idx, 3)) (hl : (idx, i) ∈ ySl) (hn : as.length = (yW i).2.2.2.2.1) (hw : (st.map fun v => v.category).sum ≤ 8)
    (k : xC d i as M o (fun k M' o' => K (pc + 3) lv (.int k :: st) M' o' (n + 1))) : yJ p l e R s m args below meth c D ad cI cJ nL c0 s0 Q pc lv (as.reverse ++ st) M o n := by
  intro H locs ls hP hS hll
  obtain ⟨hl1, hc⟩ := ySl_ok _ hl
  obtain ⟨a1, a2, a3, a4, a5, a6, a7⟩ := yWs_in i hc
  have C' := C
  obtain ⟨hx, hb, hml, hown, hts, hK, hz, hst, hi, r1, r2, r3, r4⟩ := C
  intro T hT X
  subst hT
  obtain ⟨mk, methM, cM, hnamed, hmethM, -, -, -, -, -, -, hsigM⟩ := Cond.codeWith_spec (hts _ a1)
  have hstatic : methM.isStatic = true := Cond.static_spec hnamed hmethM (hts _ a2)
  obtain ⟨kP, hkP, -⟩ := className_of_methodNamed hnamed
  have hinitP : kP.init = .initialized := Cond.initialized_spec (findClass_of_methodNamed hnamed) hkP (by rw [a3]; exact hts _ yRL_ok.1)
  have hlen : (as.map (kv ad)).length = methM.sig.parameters.length := by
    rw [hsigM] at a6
    rw [List.length_map, hn]
    exact (Option.some.inj a6).symm
  have hdg : decode c.code pc = .ok (.invokestatic idx, 3) := by rw [hb]; exact hd
  obtain ⟨vm₁, X₁, hstep₁⟩ := X.invokestatic hx hown (hts _ hl1) hnamed hmethM hstatic hkP hinitP a5 (g := F0 m pc ls ((as.reverse ++ st).map (kv ad))) rfl (argsL := as.map (kv ad)) (rest := st.map (kv ad)) hlen (by simp) hdg
  obtain ⟨k9, M', o', B, L, hp, g1, g2, X', g3⟩ := y_metX (o := o) C' hA hnm hc k X₁ hP hS (g := F0 m pc ls (st.map (kv ad))) rfl (hll.1.trans hml.symm) hdg (by show 2 * 0 + _ ≤ 8; rw [Nat.zero_add]; exact kst_cat hw) (X₁.named hnamed)
  obtain ⟨t, b1, b2⟩ := hK9 _ _ _ _ _ _ hp B.heap (locs ++ L) ls g1 g2 hll B rfl X'
  refine ⟨t, hstep₁ _ (fun acts => ?_), b2⟩
  rw [doInvoke_state]
  exact Steps.trans g3 b1
end YK
end
section
/-! bodies of the law's class: the rows -/
theorem arr1 (cA : ClassId) {f g : Nat → Value} (h : f 0 = g 0) : arrV cA 1 f = arrV cA 1 g := by
  unfold arrV
  congr 1
  apply Array.ext
  · simp
  · intro i h1 h2
    simp at h1
    subst h1
    simp [h]
theorem kW_out {D : va_G} {ad : Nat → Nat} {cI cJ : ClassId} {o v : Int64} {M : kMem} {f : Nat → Int64} {H : Heap} (h : va_P D vwCl ((kW ad cI cJ o M).set 15 (ad 15, .inl (cJ, 1, .inr (.inl f)))) H) (hf : f 0 = v) : va_P D vwCl (kW ad cI cJ v M) H := by
  have e : kW ad cI cJ v M = (kW ad cI cJ o M).set 15 (ad 15, ke ad (.inl (cJ, 1, .inr (.inl (fun _ => v))))) := by
    unfold kW
    have h1 := kww_set ad (.inl (cJ, 1, .inr (.inl (fun _ => v)))) (kaw cI cJ o M) 0 15
    rw [Nat.zero_add] at h1
    rw [h1]
    rfl
  have hlen : 15 < (kW ad cI cJ o M).length := by
    have : (kW ad cI cJ o M)[15]? = some (ad 15, ke ad (.inl (cJ, 1, .inr (.inl (fun _ => o))))) := kW_at rfl
    exact (List.getElem?_eq_some_iff.mp this).1
  intro k q hq
  rw [e] at hq
  by_cases hk : k = 15
  · subst hk
    rw [List.getElem?_set_self hlen] at hq
    cases hq
    have h9 := h 15 _ (List.getElem?_set_self hlen)
    have h9 : H[ad 15]? = some (arrV cJ 1 (fun j => .long (f j))) := h9
    show H[ad 15]? = some (arrV cJ 1 (fun j => .long v))
    rw [h9]
    exact congrArg some (arr1 cJ (by rw [hf]))
  · rw [List.getElem?_set_ne (Ne.symm hk)] at hq
    exact h k q (by rw [List.getElem?_set_ne (Ne.symm hk)]; exact hq)
def yLook (rows : List kRow) (pc : Nat) : Option kRow := rows.find? (fun r => r.1 == pc)
section YR
variable {p : Program} {l : Launch} {e : Env} {R : Room} {s : State} {m : MethodId} {args : Array Value} {below : List Frame} {meth : Method} {c : Code} {D : va_G} {ad : Nat → Nat} {cI cJ : ClassId} {cc : ByteArray} {nL d nm c0 s0 : Nat} {Q : State → Prop}
/-- the law's script, where there is one -/
def yScr (s : State) (ad : Nat → Nat) (L : Nat) (sc : Bool) (xs : Nat → Int32) : Prop := sc = true → va_X (ad 16) L xs s s.heap ∧ ad 16 < s.heap.size ∧ ¬ kA ad s.heap.size (ad 16)
set_option maxHeartbeats 4000000 in
set_option maxRecDepth 100000 in
theorem ywp_ok {L : Nat} {sc : Bool} {xs : Nat → Int32} {Hn : Nat → String → Option Nat} {F : Int32 → kMem → Int64 → Nat → Prop} {K : yKt} (C : yCx cc nL d nm c0 s0 p l R s m args c D ad cI cJ) (hA : kAs s) (hH : yHn e s m c cc nL Hn) (hScr : yScr s ad L sc xs)
    (hF : ∀ v M o n pc ls H locs, F v M o n → decode cc pc = .ok (.ireturn, 1) → va_P D vwCl (kW ad cI cJ o M) H → va_S (kA ad s.heap.size) s.heap H locs → W p l e R s m args below meth c H locs (c0 + n) (s0 + 6 * n) Q (F0 m pc ls [.int v]))
    (hK : ∀ pc lv st M o n, K pc lv st M o n → yJ p l e R s m args below meth c D ad cI cJ nL c0 s0 Q pc lv st M o n)
    {rows : List kRow} (hrows : kOkT (cc, rows)) {r : kRow} {pc n : Nat} {lv : List (Nat × Value)} {st : List Value} {M : kMem} {o : Int64} (hr : yLook rows pc = some r) (h : ywp nL d nm L sc xs Hn F K r lv st M o n) : yJ p l e R s m args below meth c D ad cI cJ nL c0 s0 Q pc lv st M o n := by
  have h1 : r.1 = pc := by
    have := List.find?_some hr
    simpa using this
  obtain ⟨h2, h3⟩ := hrows r (List.mem_of_find?_eq_some hr)
  obtain ⟨pc', i, len, x, y⟩ := r
  have h1 : pc' = pc := h1
  subst h1
  have h3 : (len == kLn i && _) = true := h3
  rw [Bool.and_eq_true] at h3
  obtain ⟨h4, h5⟩ := h3
  have h4 : len = kLn i := by simpa using h4
  have h2 : decode cc pc' = .ok (i, len) := h2
  rw [h4] at h2
  clear h4 hr
  have C' := C
  obtain ⟨hx, hb, hml, hown, hts, hKv, hz, hst, hi, -⟩ := C
  unfold ywp at h
  dsimp only at h h5
  split at h
  case h_1 n9 => exact fun H locs ls hP hS hl => lv_iconst hx hb h2 (by simpa using h5) (hK _ _ _ _ _ _ h H locs ls hP hS hl)
  case h_2 n9 => exact fun H locs ls hP hS hl => lv_bipush hx hb h2 (by simpa using h5) (hK _ _ _ _ _ _ h H locs ls hP hS hl)
  case h_3 k9 =>
    split at h
    · rename_i v h6; exact fun H locs ls hP hS hl => lv_iload_n hx hb h2 rfl (kget_has hl h6) (hK _ _ _ _ _ _ h H locs ls hP hS hl)
    · exact h.elim
  case h_4 k9 =>
    split at h
    · rename_i v h6; exact fun H locs ls hP hS hl => lv_iload hx hb h2 (kget_has hl h6) (hK _ _ _ _ _ _ h H locs ls hP hS hl)
    · exact h.elim
  case h_5 k9 =>
    split at h
    · rename_i v h6; exact fun H locs ls hP hS hl => lv_aload_n hx hb h2 rfl (kget_has hl h6) (hK _ _ _ _ _ _ h H locs ls hP hS hl)
    · exact h.elim
  case h_6 k9 =>
    split at h
    · rename_i v h6; exact fun H locs ls hP hS hl => lv_aload hx hb h2 (kget_has hl h6) (hK _ _ _ _ _ _ h H locs ls hP hS hl)
    · exact h.elim
  case h_7 k9 =>
    split at h
    · split at h
      · rename_i v st9 h6; exact fun H locs ls hP hS hl => lv_istore hx hb h2 hl h6.2 rfl (fun ls' h' => hK _ _ _ _ _ _ h H locs ls' hP hS (kset_has (v := .int v) h6.1 h'))
      · exact h.elim
    · exact h.elim
  case h_8 k9 n9 z9 =>
    split at h
    · rename_i v h6
      split at h
      · rename_i h7
        refine fun H locs ls hP hS hl => ?_
        obtain ⟨j, hj⟩ := List.getElem?_of_mem (List.mem_map.mpr ⟨(k9, Value.int v), kget_ok h6, rfl⟩ : (k9, kv ad (.int v)) ∈ lv.map (fun q => (q.1, kv ad q.2)))
        have h8 : Int32.ofInt n9 = nI x := by simpa using h5
        exact lv_iinc hx hb h2 hl hj rfl h7.2 rfl (fun ls' h' => hK _ _ _ _ _ _ h H locs ls' hP hS (kset_has (v := .int (v + nI x)) h7.1 (by rw [h8] at h'; exact h')))
      · exact h.elim
    · exact h.elim
  case h_9 =>
    split at h
    · exact fun H locs ls hP hS hl => lv_iadd hx hb h2 (hK _ _ _ _ _ _ h H locs ls hP hS hl)
    · exact h.elim
  case h_10 =>
    split at h
    · exact fun H locs ls hP hS hl => lv_isub hx hb h2 (hK _ _ _ _ _ _ h H locs ls hP hS hl)
    · exact h.elim
  case h_11 =>
    split at h
    · exact fun H locs ls hP hS hl => lv_iand hx hb h2 (hK _ _ _ _ _ _ h H locs ls hP hS hl)
    · exact h.elim
  case h_12 off => exact fun H locs ls hP hS hl => lv_goto hx hb h2 (by simpa using h5) (hK _ _ _ _ _ _ h H locs ls hP hS hl)
  case h_13 off =>
    split at h
    · exact fun H locs ls hP hS hl => lv_if_eq hx hb h2 (by simpa using h5) (fun z => hK _ _ _ _ _ _ (h.1 z) H locs ls hP hS hl) (fun z => hK _ _ _ _ _ _ (h.2 z) H locs ls hP hS hl)
    · exact h.elim
  case h_14 off =>
    split at h
    · exact fun H locs ls hP hS hl => lv_if_ne hx hb h2 (by simpa using h5) (fun z => hK _ _ _ _ _ _ (h.1 z) H locs ls hP hS hl) (fun z => hK _ _ _ _ _ _ (h.2 z) H locs ls hP hS hl)
    · exact h.elim
  case h_15 off =>
    split at h
    · exact fun H locs ls hP hS hl => lv_icmp_eq hx hb h2 (by simpa using h5) (fun z => hK _ _ _ _ _ _ (h.1 z) H locs ls hP hS hl) (fun z => hK _ _ _ _ _ _ (h.2 z) H locs ls hP hS hl)
    · exact h.elim
  case h_16 off =>
    split at h
    · exact fun H locs ls hP hS hl => lv_icmp_gt hx hb h2 (by simpa using h5) (fun z => hK _ _ _ _ _ _ (h.1 z) H locs ls hP hS hl) (fun z => hK _ _ _ _ _ _ (h.2 z) H locs ls hP hS hl)
    · exact h.elim
  case h_17 =>
    split at h
    · obtain ⟨hs, j, rfl, hj, hj9, hk⟩ := h
      obtain ⟨x1, x2, x3⟩ := hScr hs
      refine fun H locs ls hP hS hl => ?_
      have hc : (nI j).toNatClampNeg = j := nI_clamp hj9
      have hk9 := hK _ _ _ _ _ _ hk H locs ls hP hS hl
      rw [← hc] at hk9
      rw [hc] at hk9
      exact va_sld hx hb x1 x2 x3 hS (i := nI j) (fun z => z.elim (nI_pos hj9) (fun z => by rw [hc] at z; omega)) h2 (by rw [hc]; exact hk9)
    · exact h.elim
  case h_18 =>
    split at h
    · obtain ⟨hs, hk⟩ := h
      obtain ⟨x1, x2, x3⟩ := hScr hs
      exact fun H locs ls hP hS hl => va_slen hx hb x1 x2 x3 hS h2 (hK _ _ _ _ _ _ hk H locs ls hP hS hl)
    · exact h.elim
  case h_19 =>
    split at h
    · exact fun H locs ls hP hS hl => lv_i2l hx hb h2 rfl (hK _ _ _ _ _ _ h H locs ls hP hS hl)
    · exact h.elim
  case h_20 =>
    split at h
    · exact fun H locs ls hP hS hl => W.lcmp hx hb h2 (hK _ _ _ _ _ _ h H locs ls hP hS hl)
    · exact h.elim
  case h_21 =>
    split at h
    · obtain ⟨rfl, hk⟩ := h
      exact fun H locs ls hP hS hl => va_lald hx hb hKv hP 15 1 (kW_at (x := .inl (cJ, 1, .inr (.inl (fun _ => o)))) rfl) rfl (show vp_in (nI 0) 1 by unfold vp_in; decide) h2 (hK _ _ _ _ _ _ hk H locs ls hP hS hl)
    · exact h.elim
  case h_22 =>
    split at h
    · obtain ⟨rfl, hk⟩ := h
      exact fun H locs ls hP hS hl => va_last hx hb hKv hP (kD hi cI cJ o M s.heap.size) hS 15 1 (kW_at (x := .inl (cJ, 1, .inr (.inl (fun _ => o)))) rfl) rfl (show vp_in (nI 0) 1 by unfold vp_in; decide) h2 (fun H1 locs1 p1 _ p3 => hK _ _ _ _ _ _ hk H1 locs1 ls (kW_out p1 rfl) p3 hl)
    · exact h.elim
  case h_23 =>
    split at h
    · exact fun H locs ls hP hS hl => hF _ _ _ _ _ _ _ _ h h2 hP hS
    · exact h.elim
  case h_24 idx =>
    split at h
    · rename_i a st' hst'
      split at h
      · rename_i q hq
        obtain ⟨hn9, h⟩ := h
        split at h
        · rename_i h6
          obtain ⟨q1, q2⟩ := q
          have e1 : q1 = kO x := h6.2.2.1
          subst e1
          have hlen : (st.take (kN x)).reverse.length = kN x := by
            have h7 : 0 < (st.drop (kN x)).length := by rw [hst']; exact Nat.succ_pos _
            rw [List.length_drop] at h7
            rw [List.length_reverse, List.length_take]
            omega
          have e2 : st = (st.take (kN x)).reverse.reverse ++ .ref a :: st' := by
            rw [List.reverse_reverse, ← hst', List.take_append_drop]
          rw [e2]
          exact yj_callV (o := o) C' hH hK hn9 h2 h6.1 h6.2.1 hq hlen h6.2.2.2 h
        · exact h.elim
      · exact h.elim
    · exact h.elim
  case h_25 idx =>
    obtain ⟨hn9, h⟩ := h
    split at h
    · rename_i h6
      have hlen : (st.take (yW x).2.2.2.2.1).reverse.length = (yW x).2.2.2.2.1 := by
        rw [List.length_reverse, List.length_take]
        omega
      have e2 : st = (st.take (yW x).2.2.2.2.1).reverse.reverse ++ st.drop (yW x).2.2.2.2.1 := by rw [List.reverse_reverse, List.take_append_drop]
      have h9 := yj_callS (o := o) (lv := lv) (e := e) (below := below) (meth := meth) (Q := Q) C' hA hK hn9 h2 h6.1 hlen h6.2.2 h
      rw [← e2] at h9
      exact h9
    · exact h.elim
  case h_26 => exact h.elim
/-- from pc, halting at the pcs of sl -/
def ywL (nL d nm L : Nat) (sc : Bool) (xs : Nat → Int32) (Hn : Nat → String → Option Nat) (F : Int32 → kMem → Int64 → Nat → Prop) (G : yKt) (rows : List kRow) (sl : List Nat) : Nat → yKt
  | 0, pc, lv, st, M, o, n => G pc lv st M o n
  | k + 1, pc, lv, st, M, o, n => if pc ∈ sl then G pc lv st M o n else (match yLook rows pc with
    | some r => ywp nL d nm L sc xs Hn F (ywL nL d nm L sc xs Hn F G rows sl k) r lv st M o n
    | none => False)
theorem ywL_ok {L : Nat} {sc : Bool} {xs : Nat → Int32} {Hn : Nat → String → Option Nat} {F : Int32 → kMem → Int64 → Nat → Prop} {G : yKt} (C : yCx cc nL d nm c0 s0 p l R s m args c D ad cI cJ) (hA : kAs s) (hH : yHn e s m c cc nL Hn) (hScr : yScr s ad L sc xs)
    (hF : ∀ v M o n pc ls H locs, F v M o n → decode cc pc = .ok (.ireturn, 1) → va_P D vwCl (kW ad cI cJ o M) H → va_S (kA ad s.heap.size) s.heap H locs → W p l e R s m args below meth c H locs (c0 + n) (s0 + 6 * n) Q (F0 m pc ls [.int v]))
    (hG : ∀ pc lv st M o n, G pc lv st M o n → yJ p l e R s m args below meth c D ad cI cJ nL c0 s0 Q pc lv st M o n)
    {rows : List kRow} (hrows : kOkT (cc, rows)) {sl : List Nat} : ∀ (k pc : Nat) (lv : List (Nat × Value)) (st : List Value) (M : kMem) (o : Int64) (n : Nat), ywL nL d nm L sc xs Hn F G rows sl k pc lv st M o n → yJ p l e R s m args below meth c D ad cI cJ nL c0 s0 Q pc lv st M o n := by
  intro k
  induction k with
  | zero => exact fun _ _ _ _ _ _ h => hG _ _ _ _ _ _ h
  | succ k ih =>
    intro pc lv st M o n h
    unfold ywL at h
    split at h
    · exact hG _ _ _ _ _ _ h
    · cases hx : yLook rows pc with
      | none => rw [hx] at h; exact h.elim
      | some r =>
        rw [hx] at h
        exact ywp_ok C hA hH hScr hF ih hrows hx h
end YR
end
section
/-! wrappers: their handlers, their contract out of their body -/
def yCt (ct : Nat) : String := if ct = 13 then eS else if ct = 19 then eB else if ct = 36 then eU else eA
def yFind (rows : List kRow) (E : String) : List (Nat × Nat × Nat × Nat) → Option Nat
  | [] => none
  | q :: t => if yCt q.2.2.2 = E then (yLook rows q.2.2.1).map (fun r => r.1 + r.2.2.1) else yFind rows E t
def yHk (rows : List kRow) (nL pc : Nat) (q : Nat × Nat × Nat × Nat) : Bool := decide (q.1 ≤ pc) && decide (pc < q.2.1) && decide (q.2.2.2 ∈ [13, 19, 36, 59]) && (match yLook rows q.2.2.1 with
  | some (_, .astore i, _, _, _) => decide (i < nL)
  | some (_, .astore_n k, _, _, _) => decide (k.val < nL)
  | _ => false)
def yHd (rows : List kRow) (nL : Nat) (hh : List (Nat × Nat × Nat × Nat)) (pc : Nat) (E : String) : Option Nat := if hh.all (yHk rows nL pc) = true ∧ E ∈ kEx then yFind rows E hh else none
theorem yCt_ok {ct : Nat} (h : ct ∈ [13, 19, 36, 59]) : Cond.classLink RL ct (yCt ct) ∈ kG ∧ yCt ct ∈ kEx ∧ ct ≠ 0 := by
  obtain ⟨-, w1, w2, w3, w4⟩ := yRL_ok
  simp only [List.mem_cons, List.not_mem_nil, or_false] at h
  rcases h with rfl | rfl | rfl | rfl
  · exact ⟨w1, by decide +kernel, by decide⟩
  · exact ⟨w2, by decide +kernel, by decide⟩
  · exact ⟨w3, by decide +kernel, by decide⟩
  · exact ⟨w4, by decide +kernel, by decide⟩
theorem yHd_ok {e : Env} {s : State} {m : MethodId} {args : Array Value} {c : Code} {cc : ByteArray} {nL : Nat} {rows : List kRow} {hh : List (Nat × Nat × Nat × Nat)} (hts : ∀ w ∈ kG, w.before args s = true) (hA : kAs s) (hown : s.vm.findClass RL = some m.cls) (hpl : e.platform.magicAccessors = ({} : Platform).magicAccessors) (htab : c.exceptionTable.toList = tableOf hh) (hrows : kOkT (cc, rows)) : yHn e s m c cc nL (yHd rows nL hh) := by
  intro pc E h hh0 th hth
  unfold yHd at hh0
  split at hh0
  · rename_i hc
    obtain ⟨h1, hE⟩ := hc
    rw [htab]
    have go : ∀ q : List (Nat × Nat × Nat × Nat), (∀ x ∈ q, yHk rows nL pc x = true) → yFind rows E q = some h → ∃ hp i, kct e.platform s m.cls pc th hp (tableOf q) ∧ i < nL ∧ ((decode cc hp = .ok (.astore i, 2) ∧ h = hp + 2) ∨ (∃ k : Fin 4, (k : Nat) = i ∧ decode cc hp = .ok (.astore_n k, 1) ∧ h = hp + 1)) := by
      intro q
      induction q with
      | nil => intro _ hf; cases hf
      | cons x t ih =>
        intro hall hf
        have hx := hall x List.mem_cons_self
        unfold yHk at hx
        rw [Bool.and_eq_true, Bool.and_eq_true, Bool.and_eq_true] at hx
        obtain ⟨⟨⟨x1, x2⟩, x3⟩, x4⟩ := hx
        have x3 := of_decide_eq_true x3
        obtain ⟨w1, w2, w3⟩ := yCt_ok x3
        obtain ⟨c', hc', hcl⟩ := Cond.classLink_spec hown (hts _ w1) e.platform hpl
        obtain ⟨a, b, g1, g2, g3⟩ := hA E hE (yCt x.2.2.2) w2
        cases Option.some.inj (g1.symm.trans hth)
        cases Option.some.inj (g2.symm.trans hc')
        have hcov : covers ⟨x.1, x.2.1, x.2.2.1, x.2.2.2⟩ pc = true := by
          show (decide (x.1 ≤ pc) && decide (pc < x.2.1)) = true
          rw [x1, x2]
          rfl
        unfold yFind at hf
        by_cases he : yCt x.2.2.2 = E
        · rw [if_pos he] at hf
          rw [decide_eq_true he.symm] at g3
          cases hl : yLook rows x.2.2.1 with
          | none => rw [hl] at hf; cases hf
          | some r =>
            rw [hl] at hf x4
            have hf : r.1 + r.2.2.1 = h := Option.some.inj hf
            have r1 : r.1 = x.2.2.1 := by
              have := List.find?_some hl
              simpa using this
            obtain ⟨d1, d2⟩ := hrows r (List.mem_of_find?_eq_some hl)
            obtain ⟨rp, ri, rl, rx, ry⟩ := r
            have r1 : rp = x.2.2.1 := r1
            have d1 : decode cc rp = .ok (ri, rl) := d1
            have d2 : (rl == kLn ri && _) = true := d2
            rw [Bool.and_eq_true] at d2
            have d3 : rl = kLn ri := by simpa using d2.1
            have hf : rp + rl = h := hf
            subst r1
            refine ⟨x.2.2.1, ?_⟩
            split at x4
            · rename_i z1 i z3 z4 z5 heq
              cases heq
              have d3 : rl = 2 := d3
              subst d3
              exact ⟨i, ⟨hcov, w3, _, hcl, Or.inl ⟨g3, rfl⟩⟩, of_decide_eq_true x4, Or.inl ⟨d1, hf.symm⟩⟩
            · rename_i z1 k z3 z4 z5 heq
              cases heq
              have d3 : rl = 1 := d3
              subst d3
              exact ⟨k.val, ⟨hcov, w3, _, hcl, Or.inl ⟨g3, rfl⟩⟩, of_decide_eq_true x4, Or.inr ⟨k, rfl, d1, hf.symm⟩⟩
            · cases x4
        · rw [if_neg he] at hf
          rw [decide_eq_false (fun z => he z.symm)] at g3
          obtain ⟨hp, i, k1, k2, k3⟩ := ih (fun y hy => hall y (List.mem_cons_of_mem _ hy)) hf
          exact ⟨hp, i, ⟨hcov, w3, _, hcl, Or.inr ⟨g3, k1⟩⟩, k2, k3⟩
    exact go hh (fun x hx => List.all_eq_true.mp h1 x hx) hh0
  · cases hh0
theorem kEnd_imp {D : va_G} {ad : Nat → Nat} {cI cJ : ClassId} {o : Int64} {P P' : kRes → Prop} (h : ∀ r, P r → P' r) {s : State} {oc : Outcome} {t : State} (k : kEnd D ad cI cJ o P s oc t) : kEnd D ad cI cJ o P' s oc t := by
  rcases k with ⟨v, M, h1, h2, h3⟩ | ⟨q, E, M, ce, h1, h2, h3⟩
  · exact Or.inl ⟨v, M, h1, h _ h2, h3⟩
  · exact Or.inr ⟨q, E, M, ce, h1, h _ h2, h3⟩
theorem kC_imp {d mid : Nat} {av : List Value} {M : kMem} {P P' : kRes → Prop} (h : ∀ r, P r → P' r) (k : kC d mid av M P) : kC d mid av M P' := by
  intro l D ad cI cJ o hst hi p e ha hc hk s m args below hf happ hP ht
  obtain ⟨k9, oc, h1, h2, h3, hQ⟩ := k l D ad cI cJ o hst hi p e ha hc hk s m args below hf happ hP ht
  exact ⟨k9, oc, h1, h2, h3, kEnd_imp h hQ⟩
abbrev yNo : yKt := fun _ _ _ _ _ _ => False
theorem xC_body {i : Nat} (hi : i < 13) {av : List Value} {M : kMem} {o : Int64} {P : Int32 → kMem → Int64 → Prop} (hn : (lg_sl av).length ≤ (yW i).2.2.1) (hrows : kOkT ((yW i).2.1, (yW i).2.2.2.2.2))
    (k : ywL (yW i).2.2.1 6 1 0 false (fun _ => 0) (yHd (yW i).2.2.2.2.2 (yW i).2.2.1 (yW i).2.2.2.1) (fun v M o n => P v M o ∧ n ≤ 1) yNo (yW i).2.2.2.2.2 [] 40 0 (lv_args 0 av) [] M o 0) : xC 7 i av M o P := by
  intro l D ad cI cJ hst hij
  obtain ⟨a1, a2, a3, a4, a5, a6, a7⟩ := yWs_in i hi
  have hw : ∀ {args : Array Value} {s : State}, (headSpec (xWd i) (kR 7)).pre.before args s = true → (Cond.codeWith (yW i).1 (yW i).2.1 (yW i).2.2.1 (some .int) (yW i).2.2.2.1).before args s = true := fun h => atoms_spec (ws := xWd i) h _ List.mem_cons_self
  refine MetFree.of_bodyS (code := (yW i).2.1) (maxLocals := (yW i).2.2.1) (ret := some .int) a4 ?_ ?_
  · intro args s m h hn9
    obtain ⟨m9, meth, c, h0, h1, h2, h3, h4, -, h5, h6, -⟩ := Cond.codeWith_spec (hw h)
    cases Option.some.inj (h0.symm.trans hn9)
    exact ⟨meth, c, h1, h2, h3, h4, h5, h6⟩
  · intro p e s m args below meth c s₁ B hml hP _
    obtain ⟨⟨rfl, hP1, hK, hz⟩, hA⟩ := hP
    have hh0 : s₁.heap = s.heap := by rw [B.state]; rfl
    have hown : s.vm.findClass RL = some m.cls := by rw [← a3]; exact findClass_of_methodNamed B.named
    have hts := atoms_spec (ws := xWd i) B.pre
    have htab : c.exceptionTable.toList = tableOf (yW i).2.2.2.1 := vx_table (x := yL_law) B (hw B.pre)
    have X0 := Stand.of_body B
    have hpl : e.platform.magicAccessors = ({} : Platform).magicAccessors := by rw [X0.admits.platform]
    have C : yCx (yW i).2.1 (yW i).2.2.1 6 1 0 0 p l (kR 7) s m (av.map (kv ad)).toArray c D ad cI cJ := ⟨B.exec, B.bytes, hml, hown, fun w hw9 => hts w (List.mem_cons_of_mem _ hw9), hK, hz, hst, hij, by show 6 + 6 + 1 ≤ 6 + 7; decide, by show 90 + 28 * (6 + 1) ≤ 90 + 28 * 7; decide, by show 0 + 1 ≤ 1; decide, by show 0 + 6 * 1 ≤ 6; decide⟩
    have hl := lv_entry (av.map (kv ad)) (n := (yW i).2.2.1) (by rw [kv_sl]; exact hn)
    rw [kv_args] at hl
    have hF : ∀ (v : Int32) (M : kMem) (o : Int64) (n pc : Nat) (ls : Array Slot) (H : Heap) (locs : List Loc), (P v M o ∧ n ≤ 1) → decode (yW i).2.1 pc = .ok (.ireturn, 1) → va_P D vwCl (kW ad cI cJ o M) H → va_S (kA ad s.heap.size) s.heap H locs → W p l e (kR 7) s m (av.map (kv ad)).toArray below meth c H locs (0 + n) (0 + 6 * n) (fun t => ∃ oc, t.status = .running ∧ Ended t below oc ∧ xEnd D ad cI cJ P s oc t) (F0 m pc ls [.int v]) := by
      intro v M o n pc ls H locs hp hd hP hS
      refine k_imp (fun t h => ?_) (W.iret (Qc := fun _ s' oc t => oc = .returned (some (.int v)) ∧ va_P D vwCl (kW ad cI cJ o M) t.heap ∧ va_F (kA ad s'.heap.size) s' t) (free := kA ad s.heap.size) B.exec B.bytes B.returns (fun t ht hW => ⟨rfl, by rw [ht]; exact hP, hS.F ht⟩) hS.2.2 hd B.notSynchronized)
      obtain ⟨oc, h1, h2, ⟨h3, h4, h5⟩, L, ⟨-, h6, h7⟩, h8⟩ := h
      exact ⟨oc, h1, h2, v, M, o, h3, hp.1, h4, h5, h6, L, h7.mono (by omega) (by omega), h8⟩
    have hS0 : yScr s ad 0 false (fun _ => 0) := fun z => absurd z (by decide)
    have hH0 : yHn e s m c (yW i).2.1 (yW i).2.2.1 (yHd (yW i).2.2.2.2.2 (yW i).2.2.1 (yW i).2.2.2.1) := yHd_ok (fun w hw9 => hts w (List.mem_cons_of_mem _ hw9)) hA hown hpl htab hrows
    have hG0 : ∀ (pc : Nat) (lv : List (Nat × Value)) (st : List Value) (M : kMem) (o : Int64) (n : Nat), yNo pc lv st M o n → yJ p l e (kR 7) s m (av.map (kv ad)).toArray below meth c D ad cI cJ (yW i).2.2.1 0 0 (fun t => ∃ oc, t.status = .running ∧ Ended t below oc ∧ xEnd D ad cI cJ P s oc t) pc lv st M o n := fun _ _ _ _ _ _ z => False.elim z
    have hj := ywL_ok (L := 0) (sc := false) (xs := fun _ => 0) (Hn := yHd (yW i).2.2.2.2.2 (yW i).2.2.1 (yW i).2.2.2.1) (F := fun v M o n => P v M o ∧ n ≤ 1) (G := yNo) C hA hH0 hS0 hF hG0 hrows (sl := []) 40 0 (lv_args 0 av) [] M o 0 k
    obtain ⟨t, b1, oc, b2, b3, b4⟩ := hj s.heap [] _ hP1 va_S.rf hl s₁ hh0 X0
    rw [lg_entry_eq]
    exact ⟨t, oc, b1, b2, b3, b4⟩
end
section
/-! the wrappers by contract (by wip/tools/genwrap.py) -/
def pX (dm mm : Nat) (as : List Value) : Int32 → kMem → Int64 → Prop := fun k M1 o' => kC dm mm as M1 (fun r' => ∃ y M2, r' = rI y M2 ∧ M2 9 4 = k ∧ (k = nI 0 → o' = y.toInt64) ∧ R M2 M2)
def pXv (dm mm : Nat) (as : List Value) : Int32 → kMem → Int64 → Prop := fun k M1 _ => kC dm mm as M1 (fun r' => ∃ M2, r' = rV M2 ∧ M2 9 4 = k ∧ R M2 M2)
theorem pX_i {dm mm : Nat} {as : List Value} {x : Int32} {M1 : kMem} (h : kC dm mm as M1 (fun r' => ∃ y M2, r' = rI y M2 ∧ M2 9 4 = nI 0 ∧ y = x ∧ R M2 M2)) : pX dm mm as (nI 0) M1 x.toInt64 := kC_imp (fun r ⟨y, M2, h1, h2, h3, h4⟩ => ⟨y, M2, h1, h2, fun _ => by rw [h3], h4⟩) h
theorem pX_x {dm mm kk : Nat} {as : List Value} {o : Int64} {M1 : kMem} (hk : 0 < kk ∧ kk < 4) (h : kC dm mm as M1 (fun r' => ∃ y M2, r' = rI y M2 ∧ M2 9 4 = nI kk ∧ R M2 M2)) : pX dm mm as (nI kk) M1 o := kC_imp (fun r ⟨y, M2, h1, h2, h4⟩ => ⟨y, M2, h1, h2, fun z => absurd ((nI_eq (by omega) (by decide)).mp z) (by omega), h4⟩) h
section XW
variable {dm : Nat} {M : kMem} {o : Int64} {as : List Value} {mm : Nat}
theorem x_makeVolume (h : kC 6 kc_makeVolume [.ref 0] M (pI cdS dm mm as)) : xC 7 ya_makeVolume [.ref 0, .ref 15] M o (pX dm mm as) := by
  have e0 : yHd (yW 0).2.2.2.2.2 (yW 0).2.2.1 (yW 0).2.2.2.1 3 eS = some 12 := by decide +kernel
  refine xC_body (by decide) (Nat.le_of_ble_eq_true rfl) yT_ok0 ?_
  refine ⟨by decide, ?_⟩
  refine kC_imp ?_ h
  intro r hr
  rcases r with ⟨v, M1⟩ | ⟨E, M1⟩
  · rcases v with _ | v
    · exact hr.elim
    · cases v with
      | int x => exact ⟨rfl, ⟨pX_i hr, by decide⟩⟩
      | _ => exact hr.elim
  · obtain ⟨kk, c1, c2⟩ := hr
    unfold cdS at c1
    split at c1
    · rename_i q0
      subst q0
      cases c1
      show (match yHd (yW 0).2.2.2.2.2 (yW 0).2.2.1 (yW 0).2.2.2.1 3 eS with | some h => _ | none => False)
      rw [e0]
      exact ⟨pX_x (by decide) c2, by decide⟩
    · cases c1
theorem x_write {a0 a1 a2 a3 a4 : Int32} (h : kC 6 kc_write [.ref 0, .int a0, .int a1, .int a2, .int a3, .int a4] M (pV cdSB dm mm as)) : xC 7 ya_write [.ref 0, .int a0, .int a1, .int a2, .int a3, .int a4] M o (pXv dm mm as) := by
  have e0 : yHd (yW 1).2.2.2.2.2 (yW 1).2.2.1 (yW 1).2.2.2.1 8 eS = some 16 := by decide +kernel
  have e1 : yHd (yW 1).2.2.2.2.2 (yW 1).2.2.1 (yW 1).2.2.2.1 8 eB = some 20 := by decide +kernel
  refine xC_body (by decide) (Nat.le_of_ble_eq_true rfl) yT_ok1 ?_
  refine ⟨by decide, ?_⟩
  refine kC_imp ?_ h
  intro r hr
  rcases r with ⟨v, M1⟩ | ⟨E, M1⟩
  · cases v with
    | some v => exact hr.elim
    | none => exact ⟨hr, by decide⟩
  · obtain ⟨kk, c1, c2⟩ := hr
    unfold cdSB at c1
    split at c1
    · rename_i q0
      subst q0
      cases c1
      show (match yHd (yW 1).2.2.2.2.2 (yW 1).2.2.1 (yW 1).2.2.2.1 8 eS with | some h => _ | none => False)
      rw [e0]
      exact ⟨c2, by decide⟩
    · skip
      split at c1
      · rename_i q1
        subst q1
        cases c1
        show (match yHd (yW 1).2.2.2.2.2 (yW 1).2.2.1 (yW 1).2.2.2.1 8 eB with | some h => _ | none => False)
        rw [e1]
        exact ⟨c2, by decide⟩
      · cases c1
theorem x_fill {a0 a1 a2 a3 a4 a5 a6 : Int32} (h : kC 6 kc_fill [.ref 0, .int a0, .int a1, .int a2, .int a3, .int a4, .int a5, .int a6] M (pV cdSB dm mm as)) : xC 7 ya_fill [.ref 0, .int a0, .int a1, .int a2, .int a3, .int a4, .int a5, .int a6] M o (pXv dm mm as) := by
  have e0 : yHd (yW 2).2.2.2.2.2 (yW 2).2.2.1 (yW 2).2.2.2.1 12 eS = some 20 := by decide +kernel
  have e1 : yHd (yW 2).2.2.2.2.2 (yW 2).2.2.1 (yW 2).2.2.2.1 12 eB = some 24 := by decide +kernel
  refine xC_body (by decide) (Nat.le_of_ble_eq_true rfl) yT_ok2 ?_
  refine ⟨by decide, ?_⟩
  refine kC_imp ?_ h
  intro r hr
  rcases r with ⟨v, M1⟩ | ⟨E, M1⟩
  · cases v with
    | some v => exact hr.elim
    | none => exact ⟨hr, by decide⟩
  · obtain ⟨kk, c1, c2⟩ := hr
    unfold cdSB at c1
    split at c1
    · rename_i q0
      subst q0
      cases c1
      show (match yHd (yW 2).2.2.2.2.2 (yW 2).2.2.1 (yW 2).2.2.2.1 12 eS with | some h => _ | none => False)
      rw [e0]
      exact ⟨c2, by decide⟩
    · skip
      split at c1
      · rename_i q1
        subst q1
        cases c1
        show (match yHd (yW 2).2.2.2.2.2 (yW 2).2.2.1 (yW 2).2.2.2.1 12 eB with | some h => _ | none => False)
        rw [e1]
        exact ⟨c2, by decide⟩
      · cases c1
theorem x_read {a0 a1 a2 a3 : Int32} (h : kC 6 kc_read [.ref 0, .int a0, .int a1, .int a2, .int a3] M (pI cdSB dm mm as)) : xC 7 ya_read [.ref 0, .int a0, .int a1, .int a2, .int a3, .ref 15] M o (pX dm mm as) := by
  have e0 : yHd (yW 3).2.2.2.2.2 (yW 3).2.2.1 (yW 3).2.2.2.1 9 eS = some 19 := by decide +kernel
  have e1 : yHd (yW 3).2.2.2.2.2 (yW 3).2.2.1 (yW 3).2.2.2.1 9 eB = some 23 := by decide +kernel
  refine xC_body (by decide) (Nat.le_of_ble_eq_true rfl) yT_ok3 ?_
  refine ⟨by decide, ?_⟩
  refine kC_imp ?_ h
  intro r hr
  rcases r with ⟨v, M1⟩ | ⟨E, M1⟩
  · rcases v with _ | v
    · exact hr.elim
    · cases v with
      | int x => exact ⟨rfl, ⟨pX_i hr, by decide⟩⟩
      | _ => exact hr.elim
  · obtain ⟨kk, c1, c2⟩ := hr
    unfold cdSB at c1
    split at c1
    · rename_i q0
      subst q0
      cases c1
      show (match yHd (yW 3).2.2.2.2.2 (yW 3).2.2.1 (yW 3).2.2.2.1 9 eS with | some h => _ | none => False)
      rw [e0]
      exact ⟨pX_x (by decide) c2, by decide⟩
    · skip
      split at c1
      · rename_i q1
        subst q1
        cases c1
        show (match yHd (yW 3).2.2.2.2.2 (yW 3).2.2.1 (yW 3).2.2.2.1 9 eB with | some h => _ | none => False)
        rw [e1]
        exact ⟨pX_x (by decide) c2, by decide⟩
      · cases c1
theorem x_split (h : kC 6 kc_split [.ref 0] M (pI cdS dm mm as)) : xC 7 ya_split [.ref 0, .ref 15] M o (pX dm mm as) := by
  have e0 : yHd (yW 4).2.2.2.2.2 (yW 4).2.2.1 (yW 4).2.2.2.1 3 eS = some 12 := by decide +kernel
  refine xC_body (by decide) (Nat.le_of_ble_eq_true rfl) yT_ok4 ?_
  refine ⟨by decide, ?_⟩
  refine kC_imp ?_ h
  intro r hr
  rcases r with ⟨v, M1⟩ | ⟨E, M1⟩
  · rcases v with _ | v
    · exact hr.elim
    · cases v with
      | int x => exact ⟨rfl, ⟨pX_i hr, by decide⟩⟩
      | _ => exact hr.elim
  · obtain ⟨kk, c1, c2⟩ := hr
    unfold cdS at c1
    split at c1
    · rename_i q0
      subst q0
      cases c1
      show (match yHd (yW 4).2.2.2.2.2 (yW 4).2.2.1 (yW 4).2.2.2.1 3 eS with | some h => _ | none => False)
      rw [e0]
      exact ⟨pX_x (by decide) c2, by decide⟩
    · cases c1
theorem x_rejoin {a0 a1 : Int32} (h : kC 6 kc_rejoin [.ref 0, .int a0, .int a1] M (pV cdSBU dm mm as)) : xC 7 ya_rejoin [.ref 0, .int a0, .int a1] M o (pXv dm mm as) := by
  have e0 : yHd (yW 5).2.2.2.2.2 (yW 5).2.2.1 (yW 5).2.2.2.1 3 eS = some 10 := by decide +kernel
  have e1 : yHd (yW 5).2.2.2.2.2 (yW 5).2.2.1 (yW 5).2.2.2.1 3 eB = some 13 := by decide +kernel
  have e2 : yHd (yW 5).2.2.2.2.2 (yW 5).2.2.1 (yW 5).2.2.2.1 3 eU = some 16 := by decide +kernel
  refine xC_body (by decide) (Nat.le_of_ble_eq_true rfl) yT_ok5 ?_
  refine ⟨by decide, ?_⟩
  refine kC_imp ?_ h
  intro r hr
  rcases r with ⟨v, M1⟩ | ⟨E, M1⟩
  · cases v with
    | some v => exact hr.elim
    | none => exact ⟨hr, by decide⟩
  · obtain ⟨kk, c1, c2⟩ := hr
    unfold cdSBU at c1
    split at c1
    · rename_i q0
      subst q0
      cases c1
      show (match yHd (yW 5).2.2.2.2.2 (yW 5).2.2.1 (yW 5).2.2.2.1 3 eS with | some h => _ | none => False)
      rw [e0]
      exact ⟨c2, by decide⟩
    · skip
      split at c1
      · rename_i q1
        subst q1
        cases c1
        show (match yHd (yW 5).2.2.2.2.2 (yW 5).2.2.1 (yW 5).2.2.2.1 3 eB with | some h => _ | none => False)
        rw [e1]
        exact ⟨c2, by decide⟩
      · skip
        split at c1
        · rename_i q2
          subst q2
          cases c1
          show (match yHd (yW 5).2.2.2.2.2 (yW 5).2.2.1 (yW 5).2.2.2.1 3 eU with | some h => _ | none => False)
          rw [e2]
          exact ⟨c2, by decide⟩
        · cases c1
theorem x_step {a0 : Int32} (h : kC 6 kc_step [.ref 0, .int a0] M (pI cdSBU dm mm as)) : xC 7 ya_step [.ref 0, .int a0, .ref 15] M o (pX dm mm as) := by
  have e0 : yHd (yW 6).2.2.2.2.2 (yW 6).2.2.1 (yW 6).2.2.2.1 4 eS = some 13 := by decide +kernel
  have e1 : yHd (yW 6).2.2.2.2.2 (yW 6).2.2.1 (yW 6).2.2.2.1 4 eB = some 16 := by decide +kernel
  have e2 : yHd (yW 6).2.2.2.2.2 (yW 6).2.2.1 (yW 6).2.2.2.1 4 eU = some 19 := by decide +kernel
  refine xC_body (by decide) (Nat.le_of_ble_eq_true rfl) yT_ok6 ?_
  refine ⟨by decide, ?_⟩
  refine kC_imp ?_ h
  intro r hr
  rcases r with ⟨v, M1⟩ | ⟨E, M1⟩
  · rcases v with _ | v
    · exact hr.elim
    · cases v with
      | int x => exact ⟨rfl, ⟨pX_i hr, by decide⟩⟩
      | _ => exact hr.elim
  · obtain ⟨kk, c1, c2⟩ := hr
    unfold cdSBU at c1
    split at c1
    · rename_i q0
      subst q0
      cases c1
      show (match yHd (yW 6).2.2.2.2.2 (yW 6).2.2.1 (yW 6).2.2.2.1 4 eS with | some h => _ | none => False)
      rw [e0]
      exact ⟨pX_x (by decide) c2, by decide⟩
    · skip
      split at c1
      · rename_i q1
        subst q1
        cases c1
        show (match yHd (yW 6).2.2.2.2.2 (yW 6).2.2.1 (yW 6).2.2.2.1 4 eB with | some h => _ | none => False)
        rw [e1]
        exact ⟨pX_x (by decide) c2, by decide⟩
      · skip
        split at c1
        · rename_i q2
          subst q2
          cases c1
          show (match yHd (yW 6).2.2.2.2.2 (yW 6).2.2.1 (yW 6).2.2.2.1 4 eU with | some h => _ | none => False)
          rw [e2]
          exact ⟨pX_x (by decide) c2, by decide⟩
        · cases c1
theorem x_run {a0 : Int32} (h : kC 6 kc_run [.ref 0, .int a0] M (pI cdSBU dm mm as)) : xC 7 ya_run [.ref 0, .int a0, .ref 15] M o (pX dm mm as) := by
  have e0 : yHd (yW 7).2.2.2.2.2 (yW 7).2.2.1 (yW 7).2.2.2.1 4 eS = some 13 := by decide +kernel
  have e1 : yHd (yW 7).2.2.2.2.2 (yW 7).2.2.1 (yW 7).2.2.2.1 4 eB = some 16 := by decide +kernel
  have e2 : yHd (yW 7).2.2.2.2.2 (yW 7).2.2.1 (yW 7).2.2.2.1 4 eU = some 19 := by decide +kernel
  refine xC_body (by decide) (Nat.le_of_ble_eq_true rfl) yT_ok7 ?_
  refine ⟨by decide, ?_⟩
  refine kC_imp ?_ h
  intro r hr
  rcases r with ⟨v, M1⟩ | ⟨E, M1⟩
  · rcases v with _ | v
    · exact hr.elim
    · cases v with
      | int x => exact ⟨rfl, ⟨pX_i hr, by decide⟩⟩
      | _ => exact hr.elim
  · obtain ⟨kk, c1, c2⟩ := hr
    unfold cdSBU at c1
    split at c1
    · rename_i q0
      subst q0
      cases c1
      show (match yHd (yW 7).2.2.2.2.2 (yW 7).2.2.1 (yW 7).2.2.2.1 4 eS with | some h => _ | none => False)
      rw [e0]
      exact ⟨pX_x (by decide) c2, by decide⟩
    · skip
      split at c1
      · rename_i q1
        subst q1
        cases c1
        show (match yHd (yW 7).2.2.2.2.2 (yW 7).2.2.1 (yW 7).2.2.2.1 4 eB with | some h => _ | none => False)
        rw [e1]
        exact ⟨pX_x (by decide) c2, by decide⟩
      · skip
        split at c1
        · rename_i q2
          subst q2
          cases c1
          show (match yHd (yW 7).2.2.2.2.2 (yW 7).2.2.1 (yW 7).2.2.2.1 4 eU with | some h => _ | none => False)
          rw [e2]
          exact ⟨pX_x (by decide) c2, by decide⟩
        · cases c1
theorem x_differing {a0 : Int32} (h : kC 6 kc_differing [.ref 0, .int a0] M (pI cdB dm mm as)) : xC 7 ya_differing [.ref 0, .int a0, .ref 15] M o (pX dm mm as) := by
  have e0 : yHd (yW 8).2.2.2.2.2 (yW 8).2.2.1 (yW 8).2.2.2.1 4 eB = some 13 := by decide +kernel
  refine xC_body (by decide) (Nat.le_of_ble_eq_true rfl) yT_ok8 ?_
  refine ⟨by decide, ?_⟩
  refine kC_imp ?_ h
  intro r hr
  rcases r with ⟨v, M1⟩ | ⟨E, M1⟩
  · rcases v with _ | v
    · exact hr.elim
    · cases v with
      | int x => exact ⟨rfl, ⟨pX_i hr, by decide⟩⟩
      | _ => exact hr.elim
  · obtain ⟨kk, c1, c2⟩ := hr
    unfold cdB at c1
    split at c1
    · rename_i q0
      subst q0
      cases c1
      show (match yHd (yW 8).2.2.2.2.2 (yW 8).2.2.1 (yW 8).2.2.2.1 4 eB with | some h => _ | none => False)
      rw [e0]
      exact ⟨pX_x (by decide) c2, by decide⟩
    · cases c1
theorem x_raw {a0 a1 a2 a3 : Int32} (h : kC 6 kc_raw [.ref 0, .int a0, .int a1, .int a2, .int a3] M (pI cdB dm mm as)) : xC 7 ya_raw [.ref 0, .int a0, .int a1, .int a2, .int a3, .ref 15] M o (pX dm mm as) := by
  have e0 : yHd (yW 9).2.2.2.2.2 (yW 9).2.2.1 (yW 9).2.2.2.1 9 eB = some 19 := by decide +kernel
  refine xC_body (by decide) (Nat.le_of_ble_eq_true rfl) yT_ok9 ?_
  refine ⟨by decide, ?_⟩
  refine kC_imp ?_ h
  intro r hr
  rcases r with ⟨v, M1⟩ | ⟨E, M1⟩
  · rcases v with _ | v
    · exact hr.elim
    · cases v with
      | int x => exact ⟨rfl, ⟨pX_i hr, by decide⟩⟩
      | _ => exact hr.elim
  · obtain ⟨kk, c1, c2⟩ := hr
    unfold cdB at c1
    split at c1
    · rename_i q0
      subst q0
      cases c1
      show (match yHd (yW 9).2.2.2.2.2 (yW 9).2.2.1 (yW 9).2.2.2.1 9 eB with | some h => _ | none => False)
      rw [e0]
      exact ⟨pX_x (by decide) c2, by decide⟩
    · cases c1
theorem x_head {a0 a1 : Int32} (h : kC 6 kc_head [.ref 0, .int a0, .int a1] M (pI cdB dm mm as)) : xC 7 ya_head [.ref 0, .int a0, .int a1, .ref 15] M o (pX dm mm as) := by
  have e0 : yHd (yW 10).2.2.2.2.2 (yW 10).2.2.1 (yW 10).2.2.2.1 5 eB = some 15 := by decide +kernel
  refine xC_body (by decide) (Nat.le_of_ble_eq_true rfl) yT_ok10 ?_
  refine ⟨by decide, ?_⟩
  refine kC_imp ?_ h
  intro r hr
  rcases r with ⟨v, M1⟩ | ⟨E, M1⟩
  · rcases v with _ | v
    · exact hr.elim
    · cases v with
      | int x => exact ⟨rfl, ⟨pX_i hr, by decide⟩⟩
      | _ => exact hr.elim
  · obtain ⟨kk, c1, c2⟩ := hr
    unfold cdB at c1
    split at c1
    · rename_i q0
      subst q0
      cases c1
      show (match yHd (yW 10).2.2.2.2.2 (yW 10).2.2.1 (yW 10).2.2.2.1 5 eB with | some h => _ | none => False)
      rw [e0]
      exact ⟨pX_x (by decide) c2, by decide⟩
    · cases c1
theorem x_cutAfter {a0 : Int32} (h : kC 6 kc_cutAfter [.ref 0, .int a0] M (pV cdA dm mm as)) : xC 7 ya_cutAfter [.ref 0, .int a0] M o (pXv dm mm as) := by
  have e0 : yHd (yW 11).2.2.2.2.2 (yW 11).2.2.1 (yW 11).2.2.2.1 2 eA = some 9 := by decide +kernel
  refine xC_body (by decide) (Nat.le_of_ble_eq_true rfl) yT_ok11 ?_
  refine ⟨by decide, ?_⟩
  refine kC_imp ?_ h
  intro r hr
  rcases r with ⟨v, M1⟩ | ⟨E, M1⟩
  · cases v with
    | some v => exact hr.elim
    | none => exact ⟨hr, by decide⟩
  · obtain ⟨kk, c1, c2⟩ := hr
    unfold cdA at c1
    split at c1
    · rename_i q0
      subst q0
      cases c1
      show (match yHd (yW 11).2.2.2.2.2 (yW 11).2.2.1 (yW 11).2.2.2.1 2 eA with | some h => _ | none => False)
      rw [e0]
      exact ⟨c2, by decide⟩
    · cases c1
theorem x_start (h : kC 6 kc_start [.ref 0] M (pI cdS dm mm as)) : xC 7 ya_start [.ref 0, .ref 15] M o (pX dm mm as) := by
  have e0 : yHd (yW 12).2.2.2.2.2 (yW 12).2.2.1 (yW 12).2.2.2.1 3 eS = some 12 := by decide +kernel
  refine xC_body (by decide) (Nat.le_of_ble_eq_true rfl) yT_ok12 ?_
  refine ⟨by decide, ?_⟩
  refine kC_imp ?_ h
  intro r hr
  rcases r with ⟨v, M1⟩ | ⟨E, M1⟩
  · rcases v with _ | v
    · exact hr.elim
    · cases v with
      | int x => exact ⟨rfl, ⟨pX_i hr, by decide⟩⟩
      | _ => exact hr.elim
  · obtain ⟨kk, c1, c2⟩ := hr
    unfold cdS at c1
    split at c1
    · rename_i q0
      subst q0
      cases c1
      show (match yHd (yW 12).2.2.2.2.2 (yW 12).2.2.1 (yW 12).2.2.2.1 3 eS with | some h => _ | none => False)
      rw [e0]
      exact ⟨pX_x (by decide) c2, by decide⟩
    · cases c1
end XW
end
section
/-! the cases of the law's switch (by wip/tools/gencase.py) -/
theorem xC_imp {d i : Nat} {av : List Value} {M : kMem} {o : Int64} {P P' : Int32 → kMem → Int64 → Prop} (h : ∀ k M o, P k M o → P' k M o) (k : xC d i av M o P) : xC d i av M o P' := by
  intro l D ad cI cJ hst hi p e ha hc hk s m args below hf happ hP ht
  obtain ⟨k9, oc, h1, h2, h3, v, M1, o1, q1, q2, q3⟩ := k l D ad cI cJ hst hi p e ha hc hk s m args below hf happ hP ht
  exact ⟨k9, oc, h1, h2, h3, v, M1, o1, q1, h _ _ _ q2, q3⟩
abbrev lLv (i : Nat) : List (Nat × Value) := [(0, .ref 16), (1, .ref 0), (2, .ref 9), (3, .ref 15), (4, .int (nI i))]
def lG (i n1 : Nat) : yKt := fun pc lv st M _ n => pc = 1107 ∧ st = [] ∧ R M M ∧ n ≤ n1 ∧ lv.filter (fun q => decide (q.1 < 5)) = lLv i
abbrev lHn : Nat → String → Option Nat := fun _ _ => none
abbrev lF : Int32 → kMem → Int64 → Nat → Prop := fun v _ _ n => v = nI 1 ∧ n ≤ 600
theorem cmp_self (x : Int64) : lg_cmp x x = 0 := by
  unfold lg_cmp
  simp
section LC
variable {L i n : Nat} {xs : Nat → Int32} {M : kMem} {o : Int64}
theorem l_case0 (hL : i + 8 ≤ L) (h4 : L ≤ 4096) (hn : n < 590) (r : R M M) : ywL 7 7 600 L true xs lHn lF (lG i (n + 1)) yLC0 [1107] 90 136 (lLv i) [] M o n := by
  refine ⟨by omega, ?_⟩
  refine xC_imp ?_ (x_makeVolume (op_makeVolume (d := 3) (dm := 4) r))
  intro k M1 o1 h1
  refine ⟨by omega, ?_⟩
  refine kC_imp ?_ h1
  rintro r' ⟨y, M2, rfl, hk, ho, r2⟩
  refine ⟨by omega, ?_⟩
  refine m_thrown ?_
  refine ⟨fun _ => ⟨fun _ => ⟨rfl, rfl, r2, Nat.le_refl _, rfl⟩, fun e => ⟨rfl, fun _ => ⟨rfl, rfl, r2, Nat.le_refl _, rfl⟩, fun e2 => absurd ?_ e2⟩⟩, fun e => absurd hk e⟩
  have e3 : o1 = y.toInt64 := ho e
  show lg_cmp o1 y.toInt64 = 0
  rw [e3]
  exact cmp_self _
theorem l_case1 (hL : i + 8 ≤ L) (h4 : L ≤ 4096) (hn : n < 590) (r : R M M) : ywL 7 7 600 L true xs lHn lF (lG i (n + 1)) yLC1 [1107] 90 180 (lLv i) [] M o n := by
  refine ⟨rfl, i + 1, nI_add i 1, by omega, by omega, rfl, i + 2, nI_add i 2, by omega, by omega, rfl, i + 3, nI_add i 3, by omega, by omega, rfl, i + 4, nI_add i 4, by omega, by omega, rfl, i + 5, nI_add i 5, by omega, by omega, by omega, ?_⟩
  refine xC_imp ?_ (x_write (op_write (d := 1) (dm := 3) r))
  intro k M1 o1 h1
  refine ⟨rfl, i + 1, nI_add i 1, by omega, by omega, rfl, i + 2, nI_add i 2, by omega, by omega, rfl, i + 3, nI_add i 3, by omega, by omega, rfl, i + 4, nI_add i 4, by omega, by omega, rfl, i + 5, nI_add i 5, by omega, by omega, by omega, ?_⟩
  refine kC_imp ?_ h1
  rintro r' ⟨M2, rfl, hk, r2⟩
  refine ⟨by omega, ?_⟩
  refine m_thrown ?_
  exact ⟨fun _ => ⟨rfl, rfl, r2, Nat.le_refl _, rfl⟩, fun e => absurd hk e⟩
theorem l_case2 (hL : i + 8 ≤ L) (h4 : L ≤ 4096) (hn : n < 590) (r : R M M) : ywL 7 7 600 L true xs lHn lF (lG i (n + 1)) yLC2 [1107] 90 264 (lLv i) [] M o n := by
  refine ⟨rfl, i + 1, nI_add i 1, by omega, by omega, rfl, i + 2, nI_add i 2, by omega, by omega, rfl, i + 3, nI_add i 3, by omega, by omega, rfl, i + 4, nI_add i 4, by omega, by omega, rfl, i + 5, nI_add i 5, by omega, by omega, rfl, i + 6, nI_add i 6, by omega, by omega, rfl, i + 7, nI_add i 7, by omega, by omega, by omega, ?_⟩
  refine xC_imp ?_ (x_fill (op_fill (d := 1) (dm := 3) r))
  intro k M1 o1 h1
  refine ⟨rfl, i + 1, nI_add i 1, by omega, by omega, rfl, i + 2, nI_add i 2, by omega, by omega, rfl, i + 3, nI_add i 3, by omega, by omega, rfl, i + 4, nI_add i 4, by omega, by omega, rfl, i + 5, nI_add i 5, by omega, by omega, rfl, i + 6, nI_add i 6, by omega, by omega, rfl, i + 7, nI_add i 7, by omega, by omega, by omega, ?_⟩
  refine kC_imp ?_ h1
  rintro r' ⟨M2, rfl, hk, r2⟩
  refine ⟨by omega, ?_⟩
  refine m_thrown ?_
  exact ⟨fun _ => ⟨rfl, rfl, r2, Nat.le_refl _, rfl⟩, fun e => absurd hk e⟩
theorem l_case3 (hL : i + 8 ≤ L) (h4 : L ≤ 4096) (hn : n < 590) (r : R M M) : ywL 7 7 600 L true xs lHn lF (lG i (n + 1)) yLC3 [1107] 90 376 (lLv i) [] M o n := by
  refine ⟨rfl, i + 1, nI_add i 1, by omega, by omega, rfl, i + 2, nI_add i 2, by omega, by omega, rfl, i + 3, nI_add i 3, by omega, by omega, rfl, i + 4, nI_add i 4, by omega, by omega, by omega, ?_⟩
  refine xC_imp ?_ (x_read (op_read (d := 1) (dm := 4) r))
  intro k M1 o1 h1
  refine ⟨rfl, i + 1, nI_add i 1, by omega, by omega, rfl, i + 2, nI_add i 2, by omega, by omega, rfl, i + 3, nI_add i 3, by omega, by omega, rfl, i + 4, nI_add i 4, by omega, by omega, by omega, ?_⟩
  refine kC_imp ?_ h1
  rintro r' ⟨y, M2, rfl, hk, ho, r2⟩
  refine ⟨by omega, ?_⟩
  refine m_thrown ?_
  refine ⟨fun _ => ⟨fun _ => ⟨rfl, rfl, r2, Nat.le_refl _, rfl⟩, fun e => ⟨rfl, fun _ => ⟨rfl, rfl, r2, Nat.le_refl _, rfl⟩, fun e2 => absurd ?_ e2⟩⟩, fun e => absurd hk e⟩
  have e3 : o1 = y.toInt64 := ho e
  show lg_cmp o1 y.toInt64 = 0
  rw [e3]
  exact cmp_self _
theorem l_case4 (hL : i + 8 ≤ L) (h4 : L ≤ 4096) (hn : n < 590) (r : R M M) : ywL 7 7 600 L true xs lHn lF (lG i (n + 1)) yLC4 [1107] 90 468 (lLv i) [] M o n := by
  refine ⟨by omega, ?_⟩
  refine xC_imp ?_ (x_split (op_split (d := 3) (dm := 4) r))
  intro k M1 o1 h1
  refine ⟨by omega, ?_⟩
  refine kC_imp ?_ h1
  rintro r' ⟨y, M2, rfl, hk, ho, r2⟩
  refine ⟨by omega, ?_⟩
  refine m_thrown ?_
  refine ⟨fun _ => ⟨fun _ => ⟨rfl, rfl, r2, Nat.le_refl _, rfl⟩, fun e => ⟨rfl, fun _ => ⟨rfl, rfl, r2, Nat.le_refl _, rfl⟩, fun e2 => absurd ?_ e2⟩⟩, fun e => absurd hk e⟩
  have e3 : o1 = y.toInt64 := ho e
  show lg_cmp o1 y.toInt64 = 0
  rw [e3]
  exact cmp_self _
theorem l_case5 (hL : i + 8 ≤ L) (h4 : L ≤ 4096) (hn : n < 590) (r : R M M) : ywL 7 7 600 L true xs lHn lF (lG i (n + 1)) yLC5 [1107] 90 512 (lLv i) [] M o n := by
  refine ⟨rfl, i + 1, nI_add i 1, by omega, by omega, rfl, i + 2, nI_add i 2, by omega, by omega, by omega, ?_⟩
  refine xC_imp ?_ (x_rejoin (op_rejoin (d := 3) (dm := 4) r))
  intro k M1 o1 h1
  refine ⟨rfl, i + 1, nI_add i 1, by omega, by omega, rfl, i + 2, nI_add i 2, by omega, by omega, by omega, ?_⟩
  refine kC_imp ?_ h1
  rintro r' ⟨M2, rfl, hk, r2⟩
  refine ⟨by omega, ?_⟩
  refine m_thrown ?_
  exact ⟨fun _ => ⟨rfl, rfl, r2, Nat.le_refl _, rfl⟩, fun e => absurd hk e⟩
theorem l_case6 (hL : i + 8 ≤ L) (h4 : L ≤ 4096) (hn : n < 590) (r : R M M) : ywL 7 7 600 L true xs lHn lF (lG i (n + 1)) yLC6 [1107] 90 560 (lLv i) [] M o n := by
  refine ⟨rfl, i + 1, nI_add i 1, by omega, by omega, by omega, ?_⟩
  refine xC_imp ?_ (x_step (op_step (d := 0) (dm := 2) r))
  intro k M1 o1 h1
  refine ⟨rfl, i + 1, nI_add i 1, by omega, by omega, by omega, ?_⟩
  refine kC_imp ?_ h1
  rintro r' ⟨y, M2, rfl, hk, ho, r2⟩
  refine ⟨by omega, ?_⟩
  refine m_thrown ?_
  refine ⟨fun _ => ⟨fun _ => ⟨rfl, rfl, r2, Nat.le_refl _, rfl⟩, fun e => ⟨rfl, fun _ => ⟨rfl, rfl, r2, Nat.le_refl _, rfl⟩, fun e2 => absurd ?_ e2⟩⟩, fun e => absurd hk e⟩
  have e3 : o1 = y.toInt64 := ho e
  show lg_cmp o1 y.toInt64 = 0
  rw [e3]
  exact cmp_self _
theorem l_case7 (hL : i + 8 ≤ L) (h4 : L ≤ 4096) (hn : n < 590) (r : R M M) : ywL 7 7 600 L true xs lHn lF (lG i (n + 1)) yLC7 [1107] 90 616 (lLv i) [] M o n := by
  refine ⟨rfl, i + 1, nI_add i 1, by omega, by omega, by omega, ?_⟩
  refine xC_imp ?_ (x_run (op_run (d := 0) (dm := 2) r))
  intro k M1 o1 h1
  refine ⟨rfl, i + 1, nI_add i 1, by omega, by omega, by omega, ?_⟩
  refine kC_imp ?_ h1
  rintro r' ⟨y, M2, rfl, hk, ho, r2⟩
  refine ⟨by omega, ?_⟩
  refine m_thrown ?_
  refine ⟨fun _ => ⟨fun _ => ⟨rfl, rfl, r2, Nat.le_refl _, rfl⟩, fun e => ⟨rfl, fun _ => ⟨rfl, rfl, r2, Nat.le_refl _, rfl⟩, fun e2 => absurd ?_ e2⟩⟩, fun e => absurd hk e⟩
  have e3 : o1 = y.toInt64 := ho e
  show lg_cmp o1 y.toInt64 = 0
  rw [e3]
  exact cmp_self _
theorem l_case8 (hL : i + 8 ≤ L) (h4 : L ≤ 4096) (hn : n < 590) (r : R M M) : ywL 7 7 600 L true xs lHn lF (lG i (n + 1)) yLC8 [1107] 90 672 (lLv i) [] M o n := by
  refine ⟨rfl, i + 1, nI_add i 1, by omega, by omega, by omega, ?_⟩
  refine kC_imp ?_ (op_state (d := 5) (dm := 6) r)
  intro q hq
  rcases q with ⟨v, M1⟩ | ⟨E, M1⟩
  · rcases v with _ | v
    · exact hq.elim
    · cases v with
      | int x =>
        refine ⟨rfl, i + 1, nI_add i 1, by omega, by omega, by omega, ?_⟩
        refine kC_imp ?_ hq
        rintro r' ⟨M2, rfl, r2⟩
        exact ⟨fun _ => ⟨rfl, rfl, r2, Nat.le_succ _, rfl⟩, fun e => absurd rfl e⟩
      | _ => exact hq.elim
  · exact hq.elim
theorem l_case9 (hL : i + 8 ≤ L) (h4 : L ≤ 4096) (hn : n < 590) (r : R M M) : ywL 7 7 600 L true xs lHn lF (lG i (n + 1)) yLC9 [1107] 90 697 (lLv i) [] M o n := by
  refine ⟨rfl, i + 1, nI_add i 1, by omega, by omega, rfl, i + 2, nI_add i 2, by omega, by omega, by omega, ?_⟩
  refine kC_imp ?_ (op_marked (d := 5) (dm := 6) r)
  intro q hq
  rcases q with ⟨v, M1⟩ | ⟨E, M1⟩
  · rcases v with _ | v
    · exact hq.elim
    · cases v with
      | int x =>
        refine ⟨rfl, i + 1, nI_add i 1, by omega, by omega, rfl, i + 2, nI_add i 2, by omega, by omega, by omega, ?_⟩
        refine kC_imp ?_ hq
        rintro r' ⟨M2, rfl, r2⟩
        exact ⟨fun _ => ⟨rfl, rfl, r2, Nat.le_succ _, rfl⟩, fun e => absurd rfl e⟩
      | _ => exact hq.elim
  · exact hq.elim
theorem l_case10 (hL : i + 8 ≤ L) (h4 : L ≤ 4096) (hn : n < 590) (r : R M M) : ywL 7 7 600 L true xs lHn lF (lG i (n + 1)) yLC10 [1107] 90 734 (lLv i) [] M o n := by
  refine ⟨rfl, i + 1, nI_add i 1, by omega, by omega, by omega, ?_⟩
  refine kC_imp ?_ (op_windowed (d := 6) (dm := 7) r)
  intro q hq
  rcases q with ⟨v, M1⟩ | ⟨E, M1⟩
  · rcases v with _ | v
    · exact hq.elim
    · cases v with
      | int x =>
        refine ⟨rfl, i + 1, nI_add i 1, by omega, by omega, by omega, ?_⟩
        refine kC_imp ?_ hq
        rintro r' ⟨M2, rfl, r2⟩
        exact ⟨fun _ => ⟨rfl, rfl, r2, Nat.le_succ _, rfl⟩, fun e => absurd rfl e⟩
      | _ => exact hq.elim
  · exact hq.elim
theorem l_case11 (hL : i + 8 ≤ L) (h4 : L ≤ 4096) (hn : n < 590) (r : R M M) : ywL 7 7 600 L true xs lHn lF (lG i (n + 1)) yLC11 [1107] 90 759 (lLv i) [] M o n := by
  refine ⟨by omega, ?_⟩
  refine kC_imp ?_ (op_volumes (d := 6) (dm := 7) r)
  intro q hq
  rcases q with ⟨v, M1⟩ | ⟨E, M1⟩
  · rcases v with _ | v
    · exact hq.elim
    · cases v with
      | int x =>
        refine ⟨by omega, ?_⟩
        refine kC_imp ?_ hq
        rintro r' ⟨M2, rfl, r2⟩
        exact ⟨fun _ => ⟨rfl, rfl, r2, Nat.le_succ _, rfl⟩, fun e => absurd rfl e⟩
      | _ => exact hq.elim
  · exact hq.elim
theorem l_case12 (hL : i + 8 ≤ L) (h4 : L ≤ 4096) (hn : n < 590) (r : R M M) : ywL 7 7 600 L true xs lHn lF (lG i (n + 1)) yLC12 [1107] 90 772 (lLv i) [] M o n := by
  refine ⟨rfl, i + 1, nI_add i 1, by omega, by omega, by omega, ?_⟩
  refine xC_imp ?_ (x_differing (op_differing (d := 4) (dm := 5) r))
  intro k M1 o1 h1
  refine ⟨rfl, i + 1, nI_add i 1, by omega, by omega, by omega, ?_⟩
  refine kC_imp ?_ h1
  rintro r' ⟨y, M2, rfl, hk, ho, r2⟩
  refine ⟨by omega, ?_⟩
  refine m_thrown ?_
  refine ⟨fun _ => ⟨fun _ => ⟨rfl, rfl, r2, Nat.le_refl _, rfl⟩, fun e => ⟨rfl, fun _ => ⟨rfl, rfl, r2, Nat.le_refl _, rfl⟩, fun e2 => absurd ?_ e2⟩⟩, fun e => absurd hk e⟩
  have e3 : o1 = y.toInt64 := ho e
  show lg_cmp o1 y.toInt64 = 0
  rw [e3]
  exact cmp_self _
theorem l_case13 (hL : i + 8 ≤ L) (h4 : L ≤ 4096) (hn : n < 590) (r : R M M) : ywL 7 7 600 L true xs lHn lF (lG i (n + 1)) yLC13 [1107] 90 828 (lLv i) [] M o n := by
  refine ⟨rfl, i + 1, nI_add i 1, by omega, by omega, rfl, i + 2, nI_add i 2, by omega, by omega, rfl, i + 3, nI_add i 3, by omega, by omega, rfl, i + 4, nI_add i 4, by omega, by omega, by omega, ?_⟩
  refine xC_imp ?_ (x_raw (op_raw (d := 4) (dm := 6) r))
  intro k M1 o1 h1
  refine ⟨rfl, i + 1, nI_add i 1, by omega, by omega, rfl, i + 2, nI_add i 2, by omega, by omega, rfl, i + 3, nI_add i 3, by omega, by omega, rfl, i + 4, nI_add i 4, by omega, by omega, by omega, ?_⟩
  refine kC_imp ?_ h1
  rintro r' ⟨y, M2, rfl, hk, ho, r2⟩
  refine ⟨by omega, ?_⟩
  refine m_thrown ?_
  refine ⟨fun _ => ⟨fun _ => ⟨rfl, rfl, r2, Nat.le_refl _, rfl⟩, fun e => ⟨rfl, fun _ => ⟨rfl, rfl, r2, Nat.le_refl _, rfl⟩, fun e2 => absurd ?_ e2⟩⟩, fun e => absurd hk e⟩
  have e3 : o1 = y.toInt64 := ho e
  show lg_cmp o1 y.toInt64 = 0
  rw [e3]
  exact cmp_self _
theorem l_case14 (hL : i + 8 ≤ L) (h4 : L ≤ 4096) (hn : n < 590) (r : R M M) : ywL 7 7 600 L true xs lHn lF (lG i (n + 1)) yLC14 [1107] 90 920 (lLv i) [] M o n := by
  refine ⟨rfl, i + 1, nI_add i 1, by omega, by omega, rfl, i + 2, nI_add i 2, by omega, by omega, by omega, ?_⟩
  refine xC_imp ?_ (x_head (op_head (d := 4) (dm := 7) r))
  intro k M1 o1 h1
  refine ⟨rfl, i + 1, nI_add i 1, by omega, by omega, rfl, i + 2, nI_add i 2, by omega, by omega, by omega, ?_⟩
  refine kC_imp ?_ h1
  rintro r' ⟨y, M2, rfl, hk, ho, r2⟩
  refine ⟨by omega, ?_⟩
  refine m_thrown ?_
  refine ⟨fun _ => ⟨fun _ => ⟨rfl, rfl, r2, Nat.le_refl _, rfl⟩, fun e => ⟨rfl, fun _ => ⟨rfl, rfl, r2, Nat.le_refl _, rfl⟩, fun e2 => absurd ?_ e2⟩⟩, fun e => absurd hk e⟩
  have e3 : o1 = y.toInt64 := ho e
  show lg_cmp o1 y.toInt64 = 0
  rw [e3]
  exact cmp_self _
theorem l_case15 (hL : i + 8 ≤ L) (h4 : L ≤ 4096) (hn : n < 590) (r : R M M) : ywL 7 7 600 L true xs lHn lF (lG i (n + 1)) yLC15 [1107] 90 988 (lLv i) [] M o n := by
  refine ⟨by omega, ?_⟩
  refine kC_imp ?_ (op_copied (d := 7) (dm := 7) r)
  intro q hq
  rcases q with ⟨v, M1⟩ | ⟨E, M1⟩
  · rcases v with _ | v
    · exact hq.elim
    · cases v with
      | int x =>
        refine ⟨by omega, ?_⟩
        refine kC_imp ?_ hq
        rintro r' ⟨M2, rfl, r2⟩
        exact ⟨fun _ => ⟨rfl, rfl, r2, Nat.le_succ _, rfl⟩, fun e => absurd rfl e⟩
      | _ => exact hq.elim
  · exact hq.elim
theorem l_case16 (hL : i + 8 ≤ L) (h4 : L ≤ 4096) (hn : n < 590) (r : R M M) : ywL 7 7 600 L true xs lHn lF (lG i (n + 1)) yLC16 [1107] 90 1001 (lLv i) [] M o n := by
  refine ⟨by omega, ?_⟩
  refine kC_imp ?_ (op_writes (d := 7) (dm := 7) r)
  intro q hq
  rcases q with ⟨v, M1⟩ | ⟨E, M1⟩
  · rcases v with _ | v
    · exact hq.elim
    · cases v with
      | int x =>
        refine ⟨by omega, ?_⟩
        refine kC_imp ?_ hq
        rintro r' ⟨M2, rfl, r2⟩
        exact ⟨fun _ => ⟨rfl, rfl, r2, Nat.le_succ _, rfl⟩, fun e => absurd rfl e⟩
      | _ => exact hq.elim
  · exact hq.elim
theorem l_case17 (hL : i + 8 ≤ L) (h4 : L ≤ 4096) (hn : n < 590) (r : R M M) : ywL 7 7 600 L true xs lHn lF (lG i (n + 1)) yLC17 [1107] 90 1014 (lLv i) [] M o n := by
  refine ⟨by omega, ?_⟩
  refine kC_imp ?_ (op_power (d := 7) (dm := 7) r)
  intro q hq
  rcases q with ⟨v, M1⟩ | ⟨E, M1⟩
  · rcases v with _ | v
    · exact hq.elim
    · cases v with
      | int x =>
        refine ⟨by omega, ?_⟩
        refine kC_imp ?_ hq
        rintro r' ⟨M2, rfl, r2⟩
        exact ⟨fun _ => ⟨rfl, rfl, r2, Nat.le_succ _, rfl⟩, fun e => absurd rfl e⟩
      | _ => exact hq.elim
  · exact hq.elim
theorem l_case18 (hL : i + 8 ≤ L) (h4 : L ≤ 4096) (hn : n < 590) (r : R M M) : ywL 7 7 600 L true xs lHn lF (lG i (n + 1)) yLC18 [1107] 90 1027 (lLv i) [] M o n := by
  refine ⟨rfl, i + 1, nI_add i 1, by omega, by omega, by omega, ?_⟩
  refine xC_imp ?_ (x_cutAfter (op_cutAfter (d := 6) (dm := 7) r))
  intro k M1 o1 h1
  refine ⟨rfl, i + 1, nI_add i 1, by omega, by omega, by omega, ?_⟩
  refine kC_imp ?_ h1
  rintro r' ⟨M2, rfl, hk, r2⟩
  refine ⟨by omega, ?_⟩
  refine m_thrown ?_
  exact ⟨fun _ => ⟨rfl, rfl, r2, Nat.le_refl _, rfl⟩, fun e => absurd hk e⟩
theorem l_case19 (hL : i + 8 ≤ L) (h4 : L ≤ 4096) (hn : n < 590) (r : R M M) : ywL 7 7 600 L true xs lHn lF (lG i (n + 1)) yLC19 [1107] 90 1063 (lLv i) [] M o n := by
  refine ⟨by omega, ?_⟩
  refine xC_imp ?_ (x_start (op_start (d := 0) (dm := 3) r))
  intro k M1 o1 h1
  refine ⟨by omega, ?_⟩
  refine kC_imp ?_ h1
  rintro r' ⟨y, M2, rfl, hk, ho, r2⟩
  refine ⟨by omega, ?_⟩
  refine m_thrown ?_
  refine ⟨fun _ => ⟨fun _ => ⟨rfl, rfl, r2, Nat.le_refl _, rfl⟩, fun e => ⟨rfl, fun _ => ⟨rfl, rfl, r2, Nat.le_refl _, rfl⟩, fun e2 => absurd ?_ e2⟩⟩, fun e => absurd hk e⟩
  have e3 : o1 = y.toInt64 := ho e
  show lg_cmp o1 y.toInt64 = 0
  rw [e3]
  exact cmp_self _
end LC
end
section
/-! the law's loop -/
theorem and31 (x : Int32) : ∃ w, w < 32 ∧ x &&& nI 31 = nI w := by
  have h1 : (x &&& nI 31).toBitVec.toNat < 32 := by
    rw [Int32.toBitVec_and, BitVec.toNat_and]
    exact Nat.lt_of_le_of_lt Nat.and_le_right (by decide)
  refine ⟨(x &&& nI 31).toBitVec.toNat, h1, ?_⟩
  apply Int32.toBitVec_inj.mp
  show (x &&& nI 31).toBitVec = BitVec.ofNat 32 (x &&& nI 31).toBitVec.toNat
  rw [BitVec.ofNat_toNat, BitVec.setWidth_eq]
theorem end_gt {L i : Nat} (hL : L ≤ 4096) (hi : i ≤ 8192) : (nI L - nI 8 < nI i) ↔ L < i + 8 := by
  rw [Int32.lt_iff_toInt_lt, pk_sub_toInt (by omega) (by omega)]
  have : (nI i).toInt = (i : Int) := Int32.toInt_ofNat_of_lt (by omega)
  rw [this]
  omega
def lHd (xs : Nat → Int32) (L i n0 : Nat) (M0 : kMem) (o0 : Int64) : yKt := fun pc lv st M o n => lv = lLv i ∧ M = M0 ∧ o = o0 ∧ n = n0 ∧ ((pc = 1113 ∧ st = []) ∨ (pc = 40 ∧ st = [.int (xs i &&& nI 31)] ∧ i + 8 ≤ L))
section LW
variable {L i n : Nat} {xs : Nat → Int32} {M : kMem} {o : Int64}
theorem l_head (hL : L ≤ 4096) (hi : i ≤ 8192) : ywL 7 7 600 L true xs lHn lF (lHd xs L i n M o) yLH [40, 1113] 20 23 (lLv i) [] M o n := by
  refine ⟨rfl, fun e => ⟨rfl, rfl, rfl, rfl, Or.inl ⟨rfl, rfl⟩⟩, fun e => ?_⟩
  have e : ¬ nI L - nI 8 < nI i := e
  rw [end_gt hL hi] at e
  exact ⟨rfl, i, rfl, by omega, by omega, rfl, rfl, rfl, rfl, Or.inr ⟨rfl, rfl, by omega⟩⟩
theorem l_end (hn : n ≤ 600) : ywL 7 7 600 L true xs lHn lF yNo yLE [] 10 1113 (lLv i) [] M o n := ⟨rfl, hn⟩
theorem l_next : ywL 7 7 600 L true xs lHn lF (fun pc lv st M' o' n' => pc = 23 ∧ lv = lLv (i + 8) ∧ st = [] ∧ M' = M ∧ o' = o ∧ n' = n) yLE [23] 10 1107 (lLv i) [] M o n := by
  refine ⟨rfl, ?_, rfl, rfl, rfl, rfl⟩
  show [(0, Value.ref 16), (1, .ref 0), (2, .ref 9), (3, .ref 15), (4, .int (nI i + nI 8))] = lLv (i + 8)
  rw [nI_add]
end LW
theorem d40 : decode cL_law 40 = .ok (.tableswitch 1067 0 19 #[96, 140, 224, 336, 428, 472, 520, 576, 632, 657, 694, 719, 732, 788, 880, 948, 961, 974, 987, 1023], 96) := by decide +kernel
section LO
variable {p : Program} {l : Launch} {e : Env} {R9 : Room} {s : State} {m : MethodId} {args : Array Value} {below : List Frame} {meth : Method} {c : Code} {D : va_G} {ad : Nat → Nat} {cI cJ : ClassId} {c0 s0 : Nat} {Q : State → Prop}
theorem yJ_sub {nL pc n : Nat} {lv lv' : List (Nat × Value)} {st : List Value} {M : kMem} {o : Int64} {f : Nat × Value → Bool} (h : lv.filter f = lv') (k : yJ p l e R9 s m args below meth c D ad cI cJ nL c0 s0 Q pc lv' st M o n) : yJ p l e R9 s m args below meth c D ad cI cJ nL c0 s0 Q pc lv st M o n := by
  intro H locs ls hP hS hl
  refine k H locs ls hP hS ⟨hl.1, hl.2.1, fun q hq => ?_⟩
  obtain ⟨q0, h0, rfl⟩ := List.mem_map.mp hq
  rw [← h] at h0
  exact hl.2.2 _ (List.mem_map.mpr ⟨q0, (List.mem_filter.mp h0).1, rfl⟩)
set_option maxHeartbeats 4000000 in
theorem law_loop {L : Nat} {xs : Nat → Int32} (C : yCx cL_law 7 7 600 c0 s0 p l R9 s m args c D ad cI cJ) (hA : kAs s) (hScr : yScr s ad L true xs) (hL : L ≤ 4096)
    (hF : ∀ v M o n pc ls H locs, lF v M o n → decode cL_law pc = .ok (.ireturn, 1) → va_P D vwCl (kW ad cI cJ o M) H → va_S (kA ad s.heap.size) s.heap H locs → W p l e R9 s m args below meth c H locs (c0 + n) (s0 + 6 * n) Q (F0 m pc ls [.int v])) :
    ∀ (k it n : Nat) (M : kMem) (o : Int64), R M M → n ≤ it → 8 * it ≤ L → L < 8 * it + 8 * k + 8 → yJ p l e R9 s m args below meth c D ad cI cJ 7 c0 s0 Q 23 (lLv (8 * it)) [] M o n := by
  have hH : yHn e s m c cL_law 7 lHn := fun _ _ _ h => by cases h
  intro k
  induction k with
  | zero =>
    intro it n M o r hn hi hk
    refine ywL_ok (G := lHd xs L (8 * it) n M o) C hA hH hScr hF ?_ yL_okH (sl := [40, 1113]) 20 23 (lLv (8 * it)) [] M o n (l_head hL (by omega))
    rintro pc lv st M' o' n' ⟨rfl, rfl, rfl, rfl, h⟩
    rcases h with ⟨rfl, rfl⟩ | ⟨rfl, rfl, h8⟩
    · exact ywL_ok (G := yNo) C hA hH hScr hF (fun _ _ _ _ _ _ z => False.elim z) yL_okE (sl := []) 10 1113 (lLv (8 * it)) [] M' o' n' (l_end (by omega))
    · omega
  | succ k ih =>
    intro it n M o r hn hi hk
    refine ywL_ok (G := lHd xs L (8 * it) n M o) C hA hH hScr hF ?_ yL_okH (sl := [40, 1113]) 20 23 (lLv (8 * it)) [] M o n (l_head hL (by omega))
    rintro pc lv st M' o' n' ⟨rfl, rfl, rfl, rfl, h⟩
    rcases h with ⟨rfl, rfl⟩ | ⟨rfl, rfl, h8⟩
    · exact ywL_ok (G := yNo) C hA hH hScr hF (fun _ _ _ _ _ _ z => False.elim z) yL_okE (sl := []) 10 1113 (lLv (8 * it)) [] M' o' n' (l_end (by omega))
    · obtain ⟨w, hw, ew⟩ := and31 (xs (8 * it))
      rw [ew]
      have nxt : ∀ (pc : Nat) (lv : List (Nat × Value)) (st : List Value) (M1 : kMem) (o1 : Int64) (n1 : Nat), lG (8 * it) (n' + 1) pc lv st M1 o1 n1 → yJ p l e R9 s m args below meth c D ad cI cJ 7 c0 s0 Q pc lv st M1 o1 n1 := by
        rintro pc lv st M1 o1 n1 ⟨rfl, rfl, r1, hn1, hlv⟩
        refine yJ_sub hlv ?_
        refine ywL_ok (G := fun pc lv st M9 o9 n9 => pc = 23 ∧ lv = lLv (8 * it + 8) ∧ st = [] ∧ M9 = M1 ∧ o9 = o1 ∧ n9 = n1) C hA hH hScr hF ?_ yL_okE (sl := [23]) 10 1107 (lLv (8 * it)) [] M1 o1 n1 l_next
        rintro pc lv st M2 o2 n2 ⟨rfl, rfl, rfl, rfl, rfl, rfl⟩
        exact ih (it + 1) n2 M2 o2 r1 (by omega) (by omega) (by omega)
      have hx := C.1
      have hb := C.2.1
      intro H locs ls hP hS hl
      by_cases h20 : w < 20
      · rcases (show w = 0 ∨ w = 1 ∨ w = 2 ∨ w = 3 ∨ w = 4 ∨ w = 5 ∨ w = 6 ∨ w = 7 ∨ w = 8 ∨ w = 9 ∨ w = 10 ∨ w = 11 ∨ w = 12 ∨ w = 13 ∨ w = 14 ∨ w = 15 ∨ w = 16 ∨ w = 17 ∨ w = 18 ∨ w = 19 by omega) with rfl | rfl | rfl | rfl | rfl | rfl | rfl | rfl | rfl | rfl | rfl | rfl | rfl | rfl | rfl | rfl | rfl | rfl | rfl | rfl
        · exact lv_tableIn (tgt := 136) hx hb d40 (by decide) (by decide) rfl (by decide) (ywL_ok (G := lG (8 * it) (n' + 1)) C hA hH hScr hF nxt yL_okC0 (sl := [1107]) 90 136 (lLv (8 * it)) [] M' o' n' (l_case0 (by omega) hL (by omega) r) H locs ls hP hS hl)
        · exact lv_tableIn (tgt := 180) hx hb d40 (by decide) (by decide) rfl (by decide) (ywL_ok (G := lG (8 * it) (n' + 1)) C hA hH hScr hF nxt yL_okC1 (sl := [1107]) 90 180 (lLv (8 * it)) [] M' o' n' (l_case1 (by omega) hL (by omega) r) H locs ls hP hS hl)
        · exact lv_tableIn (tgt := 264) hx hb d40 (by decide) (by decide) rfl (by decide) (ywL_ok (G := lG (8 * it) (n' + 1)) C hA hH hScr hF nxt yL_okC2 (sl := [1107]) 90 264 (lLv (8 * it)) [] M' o' n' (l_case2 (by omega) hL (by omega) r) H locs ls hP hS hl)
        · exact lv_tableIn (tgt := 376) hx hb d40 (by decide) (by decide) rfl (by decide) (ywL_ok (G := lG (8 * it) (n' + 1)) C hA hH hScr hF nxt yL_okC3 (sl := [1107]) 90 376 (lLv (8 * it)) [] M' o' n' (l_case3 (by omega) hL (by omega) r) H locs ls hP hS hl)
        · exact lv_tableIn (tgt := 468) hx hb d40 (by decide) (by decide) rfl (by decide) (ywL_ok (G := lG (8 * it) (n' + 1)) C hA hH hScr hF nxt yL_okC4 (sl := [1107]) 90 468 (lLv (8 * it)) [] M' o' n' (l_case4 (by omega) hL (by omega) r) H locs ls hP hS hl)
        · exact lv_tableIn (tgt := 512) hx hb d40 (by decide) (by decide) rfl (by decide) (ywL_ok (G := lG (8 * it) (n' + 1)) C hA hH hScr hF nxt yL_okC5 (sl := [1107]) 90 512 (lLv (8 * it)) [] M' o' n' (l_case5 (by omega) hL (by omega) r) H locs ls hP hS hl)
        · exact lv_tableIn (tgt := 560) hx hb d40 (by decide) (by decide) rfl (by decide) (ywL_ok (G := lG (8 * it) (n' + 1)) C hA hH hScr hF nxt yL_okC6 (sl := [1107]) 90 560 (lLv (8 * it)) [] M' o' n' (l_case6 (by omega) hL (by omega) r) H locs ls hP hS hl)
        · exact lv_tableIn (tgt := 616) hx hb d40 (by decide) (by decide) rfl (by decide) (ywL_ok (G := lG (8 * it) (n' + 1)) C hA hH hScr hF nxt yL_okC7 (sl := [1107]) 90 616 (lLv (8 * it)) [] M' o' n' (l_case7 (by omega) hL (by omega) r) H locs ls hP hS hl)
        · exact lv_tableIn (tgt := 672) hx hb d40 (by decide) (by decide) rfl (by decide) (ywL_ok (G := lG (8 * it) (n' + 1)) C hA hH hScr hF nxt yL_okC8 (sl := [1107]) 90 672 (lLv (8 * it)) [] M' o' n' (l_case8 (by omega) hL (by omega) r) H locs ls hP hS hl)
        · exact lv_tableIn (tgt := 697) hx hb d40 (by decide) (by decide) rfl (by decide) (ywL_ok (G := lG (8 * it) (n' + 1)) C hA hH hScr hF nxt yL_okC9 (sl := [1107]) 90 697 (lLv (8 * it)) [] M' o' n' (l_case9 (by omega) hL (by omega) r) H locs ls hP hS hl)
        · exact lv_tableIn (tgt := 734) hx hb d40 (by decide) (by decide) rfl (by decide) (ywL_ok (G := lG (8 * it) (n' + 1)) C hA hH hScr hF nxt yL_okC10 (sl := [1107]) 90 734 (lLv (8 * it)) [] M' o' n' (l_case10 (by omega) hL (by omega) r) H locs ls hP hS hl)
        · exact lv_tableIn (tgt := 759) hx hb d40 (by decide) (by decide) rfl (by decide) (ywL_ok (G := lG (8 * it) (n' + 1)) C hA hH hScr hF nxt yL_okC11 (sl := [1107]) 90 759 (lLv (8 * it)) [] M' o' n' (l_case11 (by omega) hL (by omega) r) H locs ls hP hS hl)
        · exact lv_tableIn (tgt := 772) hx hb d40 (by decide) (by decide) rfl (by decide) (ywL_ok (G := lG (8 * it) (n' + 1)) C hA hH hScr hF nxt yL_okC12 (sl := [1107]) 90 772 (lLv (8 * it)) [] M' o' n' (l_case12 (by omega) hL (by omega) r) H locs ls hP hS hl)
        · exact lv_tableIn (tgt := 828) hx hb d40 (by decide) (by decide) rfl (by decide) (ywL_ok (G := lG (8 * it) (n' + 1)) C hA hH hScr hF nxt yL_okC13 (sl := [1107]) 90 828 (lLv (8 * it)) [] M' o' n' (l_case13 (by omega) hL (by omega) r) H locs ls hP hS hl)
        · exact lv_tableIn (tgt := 920) hx hb d40 (by decide) (by decide) rfl (by decide) (ywL_ok (G := lG (8 * it) (n' + 1)) C hA hH hScr hF nxt yL_okC14 (sl := [1107]) 90 920 (lLv (8 * it)) [] M' o' n' (l_case14 (by omega) hL (by omega) r) H locs ls hP hS hl)
        · exact lv_tableIn (tgt := 988) hx hb d40 (by decide) (by decide) rfl (by decide) (ywL_ok (G := lG (8 * it) (n' + 1)) C hA hH hScr hF nxt yL_okC15 (sl := [1107]) 90 988 (lLv (8 * it)) [] M' o' n' (l_case15 (by omega) hL (by omega) r) H locs ls hP hS hl)
        · exact lv_tableIn (tgt := 1001) hx hb d40 (by decide) (by decide) rfl (by decide) (ywL_ok (G := lG (8 * it) (n' + 1)) C hA hH hScr hF nxt yL_okC16 (sl := [1107]) 90 1001 (lLv (8 * it)) [] M' o' n' (l_case16 (by omega) hL (by omega) r) H locs ls hP hS hl)
        · exact lv_tableIn (tgt := 1014) hx hb d40 (by decide) (by decide) rfl (by decide) (ywL_ok (G := lG (8 * it) (n' + 1)) C hA hH hScr hF nxt yL_okC17 (sl := [1107]) 90 1014 (lLv (8 * it)) [] M' o' n' (l_case17 (by omega) hL (by omega) r) H locs ls hP hS hl)
        · exact lv_tableIn (tgt := 1027) hx hb d40 (by decide) (by decide) rfl (by decide) (ywL_ok (G := lG (8 * it) (n' + 1)) C hA hH hScr hF nxt yL_okC18 (sl := [1107]) 90 1027 (lLv (8 * it)) [] M' o' n' (l_case18 (by omega) hL (by omega) r) H locs ls hP hS hl)
        · exact lv_tableIn (tgt := 1063) hx hb d40 (by decide) (by decide) rfl (by decide) (ywL_ok (G := lG (8 * it) (n' + 1)) C hA hH hScr hF nxt yL_okC19 (sl := [1107]) 90 1063 (lLv (8 * it)) [] M' o' n' (l_case19 (by omega) hL (by omega) r) H locs ls hP hS hl)
      · have ht : (nI w).toInt = (w : Int) := Int32.toInt_ofNat_of_lt (by omega)
        exact lv_tableOut (tgt := 1107) hx hb d40 (Or.inr (by rw [ht]; omega)) (by decide) (nxt 1107 (lLv (8 * it)) [] M' o' n' ⟨rfl, rfl, r, by omega, rfl⟩ H locs ls hP hS hl)
end LO
end
section
/-! constructors: Header -/
theorem dX0_init_0 : decode cX0_init 0 = .ok (.aload_n 0, 1) := by decide +kernel
theorem dX0_init_1 : decode cX0_init 1 = .ok (.invokespecial 3, 3) := by decide +kernel
theorem dX0_init_4 : decode cX0_init 4 = .ok (.aload_n 0, 1) := by decide +kernel
theorem dX0_init_5 : decode cX0_init 5 = .ok (.bipush 24, 2) := by decide +kernel
theorem dX0_init_7 : decode cX0_init 7 = .ok (.newarray .int, 2) := by decide +kernel
theorem dX0_init_9 : decode cX0_init 9 = .ok (.putfield 11, 3) := by decide +kernel
theorem dX0_init_12 : decode cX0_init 12 = .ok (.iconst 2, 1) := by decide +kernel
theorem dX0_init_13 : decode cX0_init 13 = .ok (.istore_n 1, 1) := by decide +kernel
theorem dX0_init_14 : decode cX0_init 14 = .ok (.iload_n 1, 1) := by decide +kernel
theorem dX0_init_15 : decode cX0_init 15 = .ok (.bipush 24, 2) := by decide +kernel
theorem dX0_init_17 : decode cX0_init 17 = .ok (.if_icmp .ge 16, 3) := by decide +kernel
theorem dX0_init_20 : decode cX0_init 20 = .ok (.aload_n 0, 1) := by decide +kernel
theorem dX0_init_21 : decode cX0_init 21 = .ok (.getfield 11, 3) := by decide +kernel
theorem dX0_init_24 : decode cX0_init 24 = .ok (.iload_n 1, 1) := by decide +kernel
theorem dX0_init_25 : decode cX0_init 25 = .ok (.iconst (-1), 1) := by decide +kernel
theorem dX0_init_26 : decode cX0_init 26 = .ok (.iastore, 1) := by decide +kernel
theorem dX0_init_27 : decode cX0_init 27 = .ok (.iinc 1 1, 3) := by decide +kernel
theorem dX0_init_30 : decode cX0_init 30 = .ok (.goto (-16), 3) := by decide +kernel
theorem dX0_init_33 : decode cX0_init 33 = .ok (.return_, 1) := by decide +kernel
theorem dX1_init_0 : decode cX1_init 0 = .ok (.aload_n 0, 1) := by decide +kernel
theorem dX1_init_1 : decode cX1_init 1 = .ok (.invokespecial 1, 3) := by decide +kernel
theorem dX1_init_4 : decode cX1_init 4 = .ok (.aload_n 0, 1) := by decide +kernel
theorem dX1_init_5 : decode cX1_init 5 = .ok (.sipush 3072, 3) := by decide +kernel
theorem dX1_init_8 : decode cX1_init 8 = .ok (.newarray .int, 2) := by decide +kernel
theorem dX1_init_10 : decode cX1_init 10 = .ok (.putfield 9, 3) := by decide +kernel
theorem dX1_init_13 : decode cX1_init 13 = .ok (.aload_n 0, 1) := by decide +kernel
theorem dX1_init_14 : decode cX1_init 14 = .ok (.new 13, 3) := by decide +kernel
theorem dX1_init_17 : decode cX1_init 17 = .ok (.dup, 1) := by decide +kernel
theorem dX1_init_18 : decode cX1_init 18 = .ok (.invokespecial 15, 3) := by decide +kernel
theorem dX1_init_21 : decode cX1_init 21 = .ok (.putfield 16, 3) := by decide +kernel
theorem dX1_init_24 : decode cX1_init 24 = .ok (.aload_n 0, 1) := by decide +kernel
theorem dX1_init_25 : decode cX1_init 25 = .ok (.new 13, 3) := by decide +kernel
theorem dX1_init_28 : decode cX1_init 28 = .ok (.dup, 1) := by decide +kernel
theorem dX1_init_29 : decode cX1_init 29 = .ok (.invokespecial 15, 3) := by decide +kernel
theorem dX1_init_32 : decode cX1_init 32 = .ok (.putfield 20, 3) := by decide +kernel
theorem dX1_init_35 : decode cX1_init 35 = .ok (.aload_n 0, 1) := by decide +kernel
theorem dX1_init_36 : decode cX1_init 36 = .ok (.new 13, 3) := by decide +kernel
theorem dX1_init_39 : decode cX1_init 39 = .ok (.dup, 1) := by decide +kernel
theorem dX1_init_40 : decode cX1_init 40 = .ok (.invokespecial 15, 3) := by decide +kernel
theorem dX1_init_43 : decode cX1_init 43 = .ok (.putfield 23, 3) := by decide +kernel
theorem dX1_init_46 : decode cX1_init 46 = .ok (.aload_n 0, 1) := by decide +kernel
theorem dX1_init_47 : decode cX1_init 47 = .ok (.iconst 4, 1) := by decide +kernel
theorem dX1_init_48 : decode cX1_init 48 = .ok (.newarray .int, 2) := by decide +kernel
theorem dX1_init_50 : decode cX1_init 50 = .ok (.putfield 26, 3) := by decide +kernel
theorem dX1_init_53 : decode cX1_init 53 = .ok (.aload_n 0, 1) := by decide +kernel
theorem dX1_init_54 : decode cX1_init 54 = .ok (.iconst 1, 1) := by decide +kernel
theorem dX1_init_55 : decode cX1_init 55 = .ok (.putfield 29, 3) := by decide +kernel
theorem dX1_init_58 : decode cX1_init 58 = .ok (.aload_n 0, 1) := by decide +kernel
theorem dX1_init_59 : decode cX1_init 59 = .ok (.iconst (-1), 1) := by decide +kernel
theorem dX1_init_60 : decode cX1_init 60 = .ok (.putfield 33, 3) := by decide +kernel
theorem dX1_init_63 : decode cX1_init 63 = .ok (.aload_n 0, 1) := by decide +kernel
theorem dX1_init_64 : decode cX1_init 64 = .ok (.iconst 0, 1) := by decide +kernel
theorem dX1_init_65 : decode cX1_init 65 = .ok (.putfield 37, 3) := by decide +kernel
theorem dX1_init_68 : decode cX1_init 68 = .ok (.aload_n 0, 1) := by decide +kernel
theorem dX1_init_69 : decode cX1_init 69 = .ok (.iconst 0, 1) := by decide +kernel
theorem dX1_init_70 : decode cX1_init 70 = .ok (.putfield 40, 3) := by decide +kernel
theorem dX1_init_73 : decode cX1_init 73 = .ok (.return_, 1) := by decide +kernel
theorem dX2_init_0 : decode cX2_init 0 = .ok (.aload_n 0, 1) := by decide +kernel
theorem dX2_init_1 : decode cX2_init 1 = .ok (.invokespecial 1, 3) := by decide +kernel
theorem dX2_init_4 : decode cX2_init 4 = .ok (.aload_n 0, 1) := by decide +kernel
theorem dX2_init_5 : decode cX2_init 5 = .ok (.sipush 3072, 3) := by decide +kernel
theorem dX2_init_8 : decode cX2_init 8 = .ok (.newarray .int, 2) := by decide +kernel
theorem dX2_init_10 : decode cX2_init 10 = .ok (.putfield 7, 3) := by decide +kernel
theorem dX2_init_13 : decode cX2_init 13 = .ok (.aload_n 0, 1) := by decide +kernel
theorem dX2_init_14 : decode cX2_init 14 = .ok (.bipush 24, 2) := by decide +kernel
theorem dX2_init_16 : decode cX2_init 16 = .ok (.newarray .int, 2) := by decide +kernel
theorem dX2_init_18 : decode cX2_init 18 = .ok (.putfield 13, 3) := by decide +kernel
theorem dX2_init_21 : decode cX2_init 21 = .ok (.aload_n 0, 1) := by decide +kernel
theorem dX2_init_22 : decode cX2_init 22 = .ok (.bipush 24, 2) := by decide +kernel
theorem dX2_init_24 : decode cX2_init 24 = .ok (.newarray .int, 2) := by decide +kernel
theorem dX2_init_26 : decode cX2_init 26 = .ok (.putfield 16, 3) := by decide +kernel
theorem dX2_init_29 : decode cX2_init 29 = .ok (.aload_n 0, 1) := by decide +kernel
theorem dX2_init_30 : decode cX2_init 30 = .ok (.bipush 24, 2) := by decide +kernel
theorem dX2_init_32 : decode cX2_init 32 = .ok (.newarray .int, 2) := by decide +kernel
theorem dX2_init_34 : decode cX2_init 34 = .ok (.putfield 19, 3) := by decide +kernel
theorem dX2_init_37 : decode cX2_init 37 = .ok (.aload_n 0, 1) := by decide +kernel
theorem dX2_init_38 : decode cX2_init 38 = .ok (.iconst (-1), 1) := by decide +kernel
theorem dX2_init_39 : decode cX2_init 39 = .ok (.putfield 22, 3) := by decide +kernel
theorem dX2_init_42 : decode cX2_init 42 = .ok (.aload_n 0, 1) := by decide +kernel
theorem dX2_init_43 : decode cX2_init 43 = .ok (.iconst 4, 1) := by decide +kernel
theorem dX2_init_44 : decode cX2_init 44 = .ok (.newarray .int, 2) := by decide +kernel
theorem dX2_init_46 : decode cX2_init 46 = .ok (.putfield 26, 3) := by decide +kernel
theorem dX2_init_49 : decode cX2_init 49 = .ok (.bipush 20, 2) := by decide +kernel
theorem dX2_init_51 : decode cX2_init 51 = .ok (.istore_n 1, 1) := by decide +kernel
theorem dX2_init_52 : decode cX2_init 52 = .ok (.iload_n 1, 1) := by decide +kernel
theorem dX2_init_53 : decode cX2_init 53 = .ok (.bipush 24, 2) := by decide +kernel
theorem dX2_init_55 : decode cX2_init 55 = .ok (.if_icmp .ge 30, 3) := by decide +kernel
theorem dX2_init_58 : decode cX2_init 58 = .ok (.aload_n 0, 1) := by decide +kernel
theorem dX2_init_59 : decode cX2_init 59 = .ok (.getfield 13, 3) := by decide +kernel
theorem dX2_init_62 : decode cX2_init 62 = .ok (.iload_n 1, 1) := by decide +kernel
theorem dX2_init_63 : decode cX2_init 63 = .ok (.iconst (-1), 1) := by decide +kernel
theorem dX2_init_64 : decode cX2_init 64 = .ok (.iastore, 1) := by decide +kernel
theorem dX2_init_65 : decode cX2_init 65 = .ok (.aload_n 0, 1) := by decide +kernel
theorem dX2_init_66 : decode cX2_init 66 = .ok (.getfield 16, 3) := by decide +kernel
theorem dX2_init_69 : decode cX2_init 69 = .ok (.iload_n 1, 1) := by decide +kernel
theorem dX2_init_70 : decode cX2_init 70 = .ok (.iconst (-1), 1) := by decide +kernel
theorem dX2_init_71 : decode cX2_init 71 = .ok (.iastore, 1) := by decide +kernel
theorem dX2_init_72 : decode cX2_init 72 = .ok (.aload_n 0, 1) := by decide +kernel
theorem dX2_init_73 : decode cX2_init 73 = .ok (.getfield 19, 3) := by decide +kernel
theorem dX2_init_76 : decode cX2_init 76 = .ok (.iload_n 1, 1) := by decide +kernel
theorem dX2_init_77 : decode cX2_init 77 = .ok (.iconst (-1), 1) := by decide +kernel
theorem dX2_init_78 : decode cX2_init 78 = .ok (.iastore, 1) := by decide +kernel
theorem dX2_init_79 : decode cX2_init 79 = .ok (.iinc 1 1, 3) := by decide +kernel
theorem dX2_init_82 : decode cX2_init 82 = .ok (.goto (-30), 3) := by decide +kernel
theorem dX2_init_85 : decode cX2_init 85 = .ok (.return_, 1) := by decide +kernel
theorem dL_law_0 : decode cL_law 0 = .ok (.new 8, 3) := by decide +kernel
theorem dL_law_3 : decode cL_law 3 = .ok (.dup, 1) := by decide +kernel
theorem dL_law_4 : decode cL_law 4 = .ok (.invokespecial 64, 3) := by decide +kernel
theorem dL_law_7 : decode cL_law 7 = .ok (.astore_n 1, 1) := by decide +kernel
theorem dL_law_8 : decode cL_law 8 = .ok (.new 65, 3) := by decide +kernel
theorem dL_law_11 : decode cL_law 11 = .ok (.dup, 1) := by decide +kernel
theorem dL_law_12 : decode cL_law 12 = .ok (.invokespecial 67, 3) := by decide +kernel
theorem dL_law_15 : decode cL_law 15 = .ok (.astore_n 2, 1) := by decide +kernel
theorem dL_law_16 : decode cL_law 16 = .ok (.iconst 1, 1) := by decide +kernel
theorem dL_law_17 : decode cL_law 17 = .ok (.newarray .long, 2) := by decide +kernel
theorem dL_law_19 : decode cL_law 19 = .ok (.astore_n 3, 1) := by decide +kernel
theorem dL_law_20 : decode cL_law 20 = .ok (.iconst 0, 1) := by decide +kernel
theorem dL_law_21 : decode cL_law 21 = .ok (.istore 4, 2) := by decide +kernel
def hd0 (i : Nat) : Nat → Int32 := fun k => if 2 ≤ k ∧ k < 2 + i then -1 else 0
theorem hd0_0 : hd0 0 = fun _ => 0 := by
  funext k
  unfold hd0
  rw [if_neg (by omega)]
theorem hd0_go (i : Nat) : upd (hd0 i) (2 + i) (-1) = hd0 (i + 1) := by
  funext k
  unfold hd0 upd
  by_cases h : k = 2 + i
  · rw [if_pos h, if_pos (by omega)]
  · rw [if_neg h]
    by_cases h2 : 2 ≤ k ∧ k < 2 + i
    · show (if 2 ≤ k ∧ k < 2 + i then (-1 : Int32) else 0) = _
      rw [if_pos h2, if_pos (by omega)]
    · show (if 2 ≤ k ∧ k < 2 + i then (-1 : Int32) else 0) = _
      rw [if_neg h2, if_neg (by omega)]
set_option maxRecDepth 100000 in
theorem kIn_ok : Cond.methodLink RX0 3 Lib.objectInit ∈ kG ∧ Cond.methodLink RX1 1 Lib.objectInit ∈ kG ∧ Cond.methodLink RX2 1 Lib.objectInit ∈ kG ∧ Cond.instanceMethod Lib.objectInit ∈ kG ∧ Cond.code Lib.objectInit ⟨#[0xb1]⟩ 1 none ∈ kG ∧ Cond.arrayClass .int ∈ kG ∧ Cond.arrayClass .long ∈ kG := by decide +kernel
theorem va_one {D : va_G} {tys : List (ClassId × FieldType)} {s : State} {cA cI : ClassId} (h : va_K D vwCl tys s) {i j : Nat} (h1 : tys[i]? = some (cA, .int)) (h2 : tys[j]? = some (cI, .int)) : cA = cI := by
  have e1 : s.vm.findClass ("[" ++ FieldType.int.toString) = some cA := (h.2 i _ h1).2
  have e2 : s.vm.findClass ("[" ++ FieldType.int.toString) = some cI := (h.2 j _ h2).2
  exact Option.some.inj (e1.symm.trans e2)
def wH : List Cond := Cond.code yX0_init cX0_init 2 none :: kG
abbrev hW0 (h0 : Nat) : va_W := [(h0, .inr (0, [.null]))]
abbrev hW1 (cI : ClassId) (h0 q : Nat) (f : Nat → Int32) : va_W := [(h0, .inr (0, [.ref q])), (q, .inl (cI, 24, .inl f))]
set_option maxHeartbeats 4000000 in
set_option maxRecDepth 100000 in
theorem c_Hdr_loop {p : Program} {l : Launch} {e : Env} {R9 : Room} {s : State} {m : MethodId} {args : Array Value} {below : List Frame} {meth : Method} {c : Code} {D : va_G} {cI cJ : ClassId} {A : Nat → Prop} {h0 q : Nat} {cells slots : Nat} {Q : State → Prop} (hx : p.tables.exec = Jvm.exec) (hb : c.code = cX0_init) (hts : ∀ w ∈ kG, w.before args s = true) (hown : s.vm.findClass RX0 = some m.cls) (hK : va_K D vwCl (kTy cI cJ) s)
    (hend : ∀ (H : Heap) (locs : List Loc) (ls : Array Slot), va_P D vwCl (hW1 cI h0 q (hd0 22)) H → va_D A (hW1 cI h0 q (hd0 22)) → va_S A s.heap H locs → W p l e R9 s m args below meth c H locs cells slots Q (F0 m 33 ls [])) :
    ∀ (n i : Nat) (x : Int32) (H : Heap) (locs : List Loc) (ls : Array Slot), i + n = 22 → x = nI (2 + i) → va_P D vwCl (hW1 cI h0 q (hd0 i)) H → va_D A (hW1 cI h0 q (hd0 i)) → va_S A s.heap H locs → lv_has ls 2 [(1, .int x), (0, .ref h0)] → W p l e R9 s m args below meth c H locs cells slots Q (F0 m 14 ls []) := by
  intro n
  induction n with
  | zero =>
    intro i x H locs ls hi hxx hP hD hS hl
    have hi : i = 22 := by omega
    subst hi; subst hxx
    refine lv_iload_n hx hb dX0_init_14 rfl (lv_at hl 0 rfl) ?_
    refine lv_bipush (v := nI 24) hx hb dX0_init_15 (by decide) ?_
    refine lv_icmp_ge (tgt := 33) hx hb dX0_init_17 (by decide) (fun _ => hend H locs ls hP hD hS) (fun z => absurd (by decide) z)
  | succ n ih =>
    intro i x H locs ls hi hxx hP hD hS hl
    subst hxx
    refine lv_iload_n hx hb dX0_init_14 rfl (lv_at hl 0 rfl) ?_
    refine lv_bipush (v := nI 24) hx hb dX0_init_15 (by decide) ?_
    refine lv_icmp_ge (tgt := 33) hx hb dX0_init_17 (by decide) (fun z => absurd z (nI_ge (by omega) (by decide))) (fun _ => ?_)
    refine lv_aload_n hx hb dX0_init_20 rfl (lv_at hl 1 rfl) ?_
    refine va_get (D := D) (ci := 0) (v := .ref q) (C := RX0) (T := TX0) (N := 1) hx hb hts kWs0_ok.1 hown hK hP 0 rfl rfl 0 (by decide) (hts _ (kFl_ok (0, 11, 0, 0) (by decide +kernel)).1) (fun _ h9 => h9) rfl dX0_init_21 ?_
    refine lv_iload_n hx hb dX0_init_24 rfl (lv_at hl 0 rfl) ?_
    refine lv_iconst (v := -1) hx hb dX0_init_25 (by decide) ?_
    have hc : (nI (2 + i)).toNatClampNeg = 2 + i := nI_clamp (by omega)
    refine va_iast hx hb hK hP hD hS 1 0 rfl rfl (i := nI (2 + i)) (x := -1) (fun z => z.elim (nI_pos (by omega)) (fun z => by rw [hc] at z; omega)) dX0_init_26 (fun H locs hP hD hS => ?_)
    rw [hc] at hP hD
    have hP : va_P D vwCl (hW1 cI h0 q (upd (hd0 i) (2 + i) (-1))) H := hP
    have hD : va_D A (hW1 cI h0 q (upd (hd0 i) (2 + i) (-1))) := hD
    rw [hd0_go] at hP hD
    refine lv_iinc (v := nI (2 + (i + 1))) (lv' := [(1, .int (nI (2 + (i + 1)))), (0, .ref h0)]) hx hb dX0_init_27 hl (k := 0) rfl (nI_1 _) (by decide) rfl (fun ls hl => ?_)
    refine lv_goto (tgt := 14) hx hb dX0_init_30 (by decide) ?_
    exact ih (i + 1) _ H locs ls (by omega) rfl hP hD hS hl
end
section
/-! constructors: Header, its contract -/
set_option maxHeartbeats 4000000 in
set_option maxRecDepth 100000 in
theorem c_Hdr (l : Launch) (D : va_G) (cI cJ : ClassId) (h0 sz : Nat) : Met l yX0_init wH ({ frames := 1, cells := 1, slots := 24, locals := 12 }) (va_Pc [.ref h0] (fun U => U.heap.size = sz ∧ va_P D vwCl (hW0 h0) U.heap ∧ va_K D vwCl (kTy cI cJ) U ∧ va_D (fun _ => True) (hW0 h0)))
    (va_Qv (fun _ : Nat => True) (fun q t => va_P D vwCl (hW1 cI h0 q (hd0 22)) t.heap ∧ va_K D vwCl (kTy cI cJ) t ∧ va_D (va_A (hW0 h0) sz) (hW1 cI h0 q (hd0 22))) (va_A (hW0 h0) sz)) 1 24 (va_A (hW0 h0) sz) := by
  refine Met.ofW (cc := cX0_init) (maxL := 2) (ret := none) (by decide) rfl ?_
  intro p e s m args below meth c s₁ B hml hv
  obtain ⟨rfl, hsz, hP, hK, hD0⟩ := hv
  have hx := B.exec
  have hb := B.bytes
  have hr := B.returns
  have hts : ∀ w ∈ kG, w.before #[Value.ref h0] s = true := fun w hw => atoms_spec (ws := wH) B.pre w (List.mem_cons_of_mem _ hw)
  have hown : s.vm.findClass RX0 = some m.cls := findClass_of_methodNamed B.named
  have hlocks := B.notSynchronized
  have hin : meth.name = "<init>" := (name_of_methodNamed B.named B.method).1
  subst hsz
  have hD := hD0.self (sz := s.heap.size)
  generalize hAe : va_A (hW0 h0) s.heap.size = A at hD ⊢
  have hA : ∀ q : Nat, s.heap.size ≤ q → A q := fun q h => by rw [← hAe]; exact Or.inr h
  have hS : va_S A s.heap s.heap [] := va_S.rf
  have hP : va_P D vwCl (hW0 h0) s.heap := hP
  have hl := lv_entry ([.ref h0]) (n := 2) (Nat.le_of_ble_eq_true rfl)
  rw [lg_entry_eq]
  generalize (lg_sl ([.ref h0]) ++ List.replicate (2 - (lg_sl ([.ref h0])).length) Slot.unset).toArray = ls at hl ⊢
  have hl : lv_has ls 2 [(0, .ref h0)] := hl
  refine lv_aload_n hx hb dX0_init_0 rfl (lv_at hl 0 rfl) ?_
  refine W.objInit hx hb hown (hts _ kIn_ok.1) (hts _ kIn_ok.2.2.2.1) (hts _ kIn_ok.2.2.2.2.1) rfl (by rw [hml]; exact hl.1) rfl dX0_init_1 (Nat.le_of_ble_eq_true rfl) (Nat.le_of_ble_eq_true rfl) ?_
  refine W.eq (g2 := F0 m 4 ls []) rfl ?_
  refine lv_aload_n hx hb dX0_init_4 rfl (lv_at hl 0 rfl) ?_
  refine lv_bipush (v := nI 24) hx hb dX0_init_5 (by decide) ?_
  refine va_newa (atype := .int) (n := nI 24) (N' := 24) (a0 := (24, .inl (fun _ => 0))) hx hb (hts _ kIn_ok.2.2.2.2.2.1) rfl hK hP hD hS hA (fun _ => rfl) (by decide) (by decide) (by decide) (Nat.le_of_ble_eq_true rfl) (Nat.le_of_ble_eq_true rfl) dX0_init_7 (fun q cA H hK2 hP hD hS => ?_)
  have eA : cA = cI := va_one hK2 (i := 2) (j := 0) rfl rfl
  subst eA
  have hP : va_P D vwCl [(h0, .inr (0, [.null])), (q, .inl (cA, 24, .inl (fun _ => 0)))] H := hP
  have hD : va_D A [(h0, .inr (0, [.null])), (q, .inl (cA, 24, .inl (fun _ => 0)))] := hD
  refine va_putF (D := D) (ci := 0) (v := .ref q) (ty := tyX0 0) (C := RX0) (T := TX0) (N := 1) hx hb hts kWs0_ok.1 tyX0 tyX0_ok nmX0 hown hK hP hD hS 0 rfl rfl 0 (by decide) (hts _ (kFl_ok (0, 11, 0, 0) (by decide +kernel)).1) (fun _ h9 => h9) rfl hin rfl (by decide +kernel) rfl rfl (Nat.le_of_ble_eq_true rfl) dX0_init_9 (fun H locs hP hD hS => ?_)
  have hP : va_P D vwCl (hW1 cA h0 q (fun _ => 0)) H := hP
  have hD : va_D A (hW1 cA h0 q (fun _ => 0)) := hD
  rw [← hd0_0] at hP hD
  refine lv_iconst (v := nI 2) hx hb dX0_init_12 (by decide) ?_
  refine lv_istore_n (lv' := [(1, .int (nI 2)), (0, .ref h0)]) hx hb dX0_init_13 rfl hl (by decide) rfl (fun ls hl => ?_)
  refine c_Hdr_loop hx hb hts hown hK (fun H locs ls hP hD hS => ?_) 22 0 (nI 2) H locs ls rfl rfl hP hD hS hl
  refine W.widen (k := 1) (n := 24) (Nat.le_of_ble_eq_true rfl) (Nat.le_of_ble_eq_true rfl) ?_
  exact W.vret hx hb hr (fun t ht hW => ⟨⟨q, rfl, trivial, by rw [ht]; exact hP, va_K.moved hW.alike hK, hD⟩, hS.F ht⟩) hS.2.2 dX0_init_33
end
section
/-! constructors: MirrorGroup -/
def wG : List Cond := Cond.code yX1_init cX1_init 1 none :: kG
abbrev gW0 (a : Nat) : va_W := [(a, .inr (1, [.null, .null, .null, .null, .null, .int 0, .int 0, .int 0, .int 0]))]
abbrev gW1 (cI : ClassId) (a b h1 h2 h3 q1 q2 q3 f : Nat) : va_W := [(a, .inr (1, [.ref b, .ref h1, .ref h2, .ref h3, .ref f, .int (nI 1), .int (-1), .int (nI 0), .int (nI 0)])), (b, .inl (cI, 3072, .inl (fun _ => 0))), (h1, .inr (0, [.ref q1])), (q1, .inl (cI, 24, .inl (hd0 22))), (h2, .inr (0, [.ref q2])), (q2, .inl (cI, 24, .inl (hd0 22))), (h3, .inr (0, [.ref q3])), (q3, .inl (cI, 24, .inl (hd0 22))), (f, .inl (cI, 4, .inl (fun _ => 0)))]
set_option maxRecDepth 100000 in
theorem kIn2_ok : Cond.classLink RX1 13 RX0 ∈ kG ∧ Cond.instantiable RX0 1 ∈ kG ∧ Cond.initialized RX0 ∈ kG ∧ Cond.methodLink RX1 15 yX0_init ∈ kG ∧ Cond.instanceMethod yX0_init ∈ kG ∧ Cond.code yX0_init cX0_init 2 none ∈ kG ∧ Cond.instantiable RX1 9 ∈ kG ∧ Cond.instantiable RX2 10 ∈ kG ∧ Cond.initialized RX1 ∈ kG ∧ Cond.initialized RX2 ∈ kG ∧ Cond.code yX1_init cX1_init 1 none ∈ kG ∧ Cond.code yX2_init cX2_init 2 none ∈ kG ∧ Cond.instanceMethod yX1_init ∈ kG ∧ Cond.instanceMethod yX2_init ∈ kG := by decide +kernel
theorem kG_in : GoodIn kG kG := fun w hw => ⟨hw, kG_good hw⟩
theorem wH_in : GoodIn kG wH := fun w hw => (List.mem_cons.mp hw).elim (fun e => by rw [e]; exact ⟨kIn2_ok.2.2.2.2.2.1, kG_good kIn2_ok.2.2.2.2.2.1⟩) (fun h => ⟨h, kG_good h⟩)
end
section
/-! constructors: MirrorGroup, its contract -/
set_option maxHeartbeats 8000000 in
set_option maxRecDepth 100000 in
theorem c_Grp (l : Launch) (D : va_G) (cI cJ : ClassId) (h0 sz : Nat) : Met l yX1_init wG ({ frames := 2, cells := 8, slots := 3151, locals := 40 }) (va_Pc [.ref h0] (fun U => U.heap.size = sz ∧ va_P D vwCl (gW0 h0) U.heap ∧ va_K D vwCl (kTy cI cJ) U ∧ va_D (fun _ => True) (gW0 h0)))
    (va_Qv (fun _ : Nat => True) (fun _ t => ∃ b h1 q1 h2 q2 h3 q3 f, va_P D vwCl (gW1 cI h0 b h1 h2 h3 q1 q2 q3 f) t.heap ∧ va_K D vwCl (kTy cI cJ) t ∧ va_D (va_A (gW0 h0) sz) (gW1 cI h0 b h1 h2 h3 q1 q2 q3 f)) (va_A (gW0 h0) sz)) 8 3151 (va_A (gW0 h0) sz) := by
  refine Met.ofW (cc := cX1_init) (maxL := 1) (ret := none) (by decide) rfl ?_
  intro p e s m args below meth c s₁ B hml hv
  obtain ⟨rfl, hsz, hP, hK, hD0⟩ := hv
  have hx := B.exec
  have hb := B.bytes
  have hr := B.returns
  have hts : ∀ w ∈ kG, w.before #[Value.ref h0] s = true := fun w hw => atoms_spec (ws := wG) B.pre w (List.mem_cons_of_mem _ hw)
  have hown : s.vm.findClass RX1 = some m.cls := findClass_of_methodNamed B.named
  have hlocks := B.notSynchronized
  have hin : meth.name = "<init>" := (name_of_methodNamed B.named B.method).1
  subst hsz
  have hD := hD0.self (sz := s.heap.size)
  generalize hAe : va_A (gW0 h0) s.heap.size = A at hD ⊢
  have hA : ∀ q : Nat, s.heap.size ≤ q → A q := fun q h => by rw [← hAe]; exact Or.inr h
  have hS : va_S A s.heap s.heap [] := va_S.rf
  have hP : va_P D vwCl (gW0 h0) s.heap := hP
  have hl := lv_entry ([.ref h0]) (n := 1) (Nat.le_of_ble_eq_true rfl)
  rw [lg_entry_eq]
  generalize (lg_sl ([.ref h0]) ++ List.replicate (1 - (lg_sl ([.ref h0])).length) Slot.unset).toArray = ls at hl ⊢
  have hl : lv_has ls 1 [(0, .ref h0)] := hl
  refine lv_aload_n hx hb dX1_init_0 rfl (lv_at hl 0 rfl) ?_
  refine W.objInit hx hb hown (hts _ kIn_ok.2.1) (hts _ kIn_ok.2.2.2.1) (hts _ kIn_ok.2.2.2.2.1) rfl (by rw [hml]; exact hl.1) rfl dX1_init_1 (Nat.le_of_ble_eq_true rfl) (Nat.le_of_ble_eq_true rfl) ?_
  refine W.eq (g2 := F0 m 4 ls []) rfl ?_
  refine lv_aload_n hx hb dX1_init_4 rfl (lv_at hl 0 rfl) ?_
  refine lv_sipush (v := nI 3072) hx hb dX1_init_5 (by decide) ?_
  refine va_newa (atype := .int) (n := nI 3072) (N' := 3072) (a0 := (3072, .inl (fun _ => 0))) hx hb (hts _ kIn_ok.2.2.2.2.2.1) rfl hK hP hD hS hA (fun _ => rfl) (by decide) (by decide) (by decide) (Nat.le_of_ble_eq_true rfl) (Nat.le_of_ble_eq_true rfl) dX1_init_8 (fun b cA H hK2 hP hD hS => ?_)
  have eA : cA = cI := va_one hK2 (i := 2) (j := 0) rfl rfl
  subst eA
  have hP : va_P D vwCl [(h0, .inr (1, [.null, .null, .null, .null, .null, .int 0, .int 0, .int 0, .int 0])), (b, .inl (cA, 3072, .inl (fun _ => 0)))] H := hP
  have hD : va_D A [(h0, .inr (1, [.null, .null, .null, .null, .null, .int 0, .int 0, .int 0, .int 0])), (b, .inl (cA, 3072, .inl (fun _ => 0)))] := hD
  have hK0 := hK
  refine va_putF (D := D) (ci := 1) (v := .ref b) (ty := tyX1 0) (C := RX1) (T := TX1) (N := 9) hx hb hts kWs0_ok.2.1 tyX1 tyX1_ok nmX1 hown hK hP hD hS 0 rfl rfl 0 (by decide) (hts _ (kFl_ok (1, 9, 1, 0) (by decide +kernel)).1) (fun _ h9 => h9) rfl hin rfl (by decide +kernel) rfl rfl (Nat.le_of_ble_eq_true rfl) dX1_init_10 (fun H locs hP hD hS => ?_)
  have hP : va_P D vwCl [(h0, .inr (1, [.ref b, .null, .null, .null, .null, .int 0, .int 0, .int 0, .int 0])), (b, .inl (cA, 3072, .inl (fun _ => 0)))] H := hP
  have hD : va_D A [(h0, .inr (1, [.ref b, .null, .null, .null, .null, .int 0, .int 0, .int 0, .int 0])), (b, .inl (cA, 3072, .inl (fun _ => 0)))] := hD
  refine lv_aload_n hx hb dX1_init_13 rfl (lv_at hl 0 rfl) ?_
  refine va_new (ci := 0) (fs := [.null]) (C := RX0) (T := TX0) (N := 1) hx hb hts kWs0_ok.1 tyX0 tyX0_ok hown (hts _ kIn2_ok.1) (hts _ kIn2_ok.2.1) (hts _ kIn2_ok.2.2.1) hK hP hD hS hA rfl (fun j hj => by rcases (show j = 0 by omega) with rfl <;> rfl) (Nat.le_of_ble_eq_true rfl) (Nat.le_of_ble_eq_true rfl) dX1_init_14 (fun h1 H hP hD hS => ?_)
  have hP : va_P D vwCl [(h0, .inr (1, [.ref b, .null, .null, .null, .null, .int 0, .int 0, .int 0, .int 0])), (b, .inl (cA, 3072, .inl (fun _ => 0))), (h1, .inr (0, [.null]))] H := hP
  have hD : va_D A [(h0, .inr (1, [.ref b, .null, .null, .null, .null, .int 0, .int 0, .int 0, .int 0])), (b, .inl (cA, 3072, .inl (fun _ => 0))), (h1, .inr (0, [.null]))] := hD
  refine lv_dup hx hb dX1_init_17 rfl ?_
  have hPc := hP.sub (ws' := hW0 h1) [2] rfl
  have hDc := hD.sub (ws' := hW0 h1) [2] (by decide) rfl
  have hFc := va_free (wc := hW0 h1) hD hS hA [2] rfl
  refine va_callv (va_runI (As := []) (rest := [.ref h1, .ref h0]) ⟨hx, hb, hml, hown, hts⟩ (c_Hdr l D cA cJ h1 H.size) (cwI 0 hts wH_in rfl rfl rfl (hts _ kIn2_ok.2.2.1) (hts _ kIn2_ok.2.2.2.1) (hts _ kIn2_ok.2.2.2.2.1) rfl (by decide +kernel) ⟨Nat.le_of_ble_eq_true rfl, Nat.le_of_ble_eq_true rfl⟩) ⟨fun a U g mk q => by obtain ⟨q0, q1, qP, qK, qD⟩ := q; exact ⟨q0, q1, qP, va_K.moved (u := U) (U := U.calling g mk a) (Vm.Alike.refl U.vm) qK, qD⟩, fun U hU hW => ⟨rfl, by rw [hU], by rw [hU]; exact hPc, va_K.moved hW.alike hK, hDc.weaken (fun _ _ _ _ => trivial)⟩⟩ rfl rfl hl.1 rfl (lv_room (Nat.le_of_ble_eq_true rfl)) dX1_init_18 ⟨Nat.le_of_ble_eq_true rfl, Nat.le_of_ble_eq_true rfl⟩) hS (fun q _ h => hFc q h) hFc (fun q1 t H1 locs ht hvm hw hB hz1 hk1 hS => ?_)
  obtain ⟨hP1, hK1, hD1⟩ := hB
  rw [ht] at hP1
  obtain ⟨hP, hD⟩ := va_join (wr := [(h0, .inr (1, [.ref b, .null, .null, .null, .null, .int 0, .int 0, .int 0, .int 0])), (b, .inl (cA, 3072, .inl (fun _ => 0)))]) (w1 := hW1 cA h1 q1 (hd0 22)) hP hD [2] [0, 1] rfl rfl (by decide) (by decide) hk1 hFc hP1 hD1
  generalize H1 = H at hP hS ⊢
  have hP : va_P D vwCl [(h0, .inr (1, [.ref b, .null, .null, .null, .null, .int 0, .int 0, .int 0, .int 0])), (b, .inl (cA, 3072, .inl (fun _ => 0))), (h1, .inr (0, [.ref q1])), (q1, .inl (cA, 24, .inl (hd0 22)))] H := hP
  have hD : va_D A [(h0, .inr (1, [.ref b, .null, .null, .null, .null, .int 0, .int 0, .int 0, .int 0])), (b, .inl (cA, 3072, .inl (fun _ => 0))), (h1, .inr (0, [.ref q1])), (q1, .inl (cA, 24, .inl (hd0 22)))] := hD
  refine va_putF (D := D) (ci := 1) (v := .ref h1) (ty := tyX1 1) (C := RX1) (T := TX1) (N := 9) hx hb hts kWs0_ok.2.1 tyX1 tyX1_ok nmX1 hown hK hP hD hS 0 rfl rfl 1 (by decide) (hts _ (kFl_ok (1, 16, 1, 1) (by decide +kernel)).1) (fun _ h9 => h9) rfl hin rfl (by decide +kernel) rfl rfl (Nat.le_of_ble_eq_true rfl) dX1_init_21 (fun H locs hP hD hS => ?_)
  have hP : va_P D vwCl [(h0, .inr (1, [.ref b, .ref h1, .null, .null, .null, .int 0, .int 0, .int 0, .int 0])), (b, .inl (cA, 3072, .inl (fun _ => 0))), (h1, .inr (0, [.ref q1])), (q1, .inl (cA, 24, .inl (hd0 22)))] H := hP
  have hD : va_D A [(h0, .inr (1, [.ref b, .ref h1, .null, .null, .null, .int 0, .int 0, .int 0, .int 0])), (b, .inl (cA, 3072, .inl (fun _ => 0))), (h1, .inr (0, [.ref q1])), (q1, .inl (cA, 24, .inl (hd0 22)))] := hD
  refine lv_aload_n hx hb dX1_init_24 rfl (lv_at hl 0 rfl) ?_
  refine va_new (ci := 0) (fs := [.null]) (C := RX0) (T := TX0) (N := 1) hx hb hts kWs0_ok.1 tyX0 tyX0_ok hown (hts _ kIn2_ok.1) (hts _ kIn2_ok.2.1) (hts _ kIn2_ok.2.2.1) hK hP hD hS hA rfl (fun j hj => by rcases (show j = 0 by omega) with rfl <;> rfl) (Nat.le_of_ble_eq_true rfl) (Nat.le_of_ble_eq_true rfl) dX1_init_25 (fun h2 H hP hD hS => ?_)
  have hP : va_P D vwCl [(h0, .inr (1, [.ref b, .ref h1, .null, .null, .null, .int 0, .int 0, .int 0, .int 0])), (b, .inl (cA, 3072, .inl (fun _ => 0))), (h1, .inr (0, [.ref q1])), (q1, .inl (cA, 24, .inl (hd0 22))), (h2, .inr (0, [.null]))] H := hP
  have hD : va_D A [(h0, .inr (1, [.ref b, .ref h1, .null, .null, .null, .int 0, .int 0, .int 0, .int 0])), (b, .inl (cA, 3072, .inl (fun _ => 0))), (h1, .inr (0, [.ref q1])), (q1, .inl (cA, 24, .inl (hd0 22))), (h2, .inr (0, [.null]))] := hD
  refine lv_dup hx hb dX1_init_28 rfl ?_
  have hPc := hP.sub (ws' := hW0 h2) [4] rfl
  have hDc := hD.sub (ws' := hW0 h2) [4] (by decide) rfl
  have hFc := va_free (wc := hW0 h2) hD hS hA [4] rfl
  refine va_callv (va_runI (As := []) (rest := [.ref h2, .ref h0]) ⟨hx, hb, hml, hown, hts⟩ (c_Hdr l D cA cJ h2 H.size) (cwI 0 hts wH_in rfl rfl rfl (hts _ kIn2_ok.2.2.1) (hts _ kIn2_ok.2.2.2.1) (hts _ kIn2_ok.2.2.2.2.1) rfl (by decide +kernel) ⟨Nat.le_of_ble_eq_true rfl, Nat.le_of_ble_eq_true rfl⟩) ⟨fun a U g mk q => by obtain ⟨q0, q1, qP, qK, qD⟩ := q; exact ⟨q0, q1, qP, va_K.moved (u := U) (U := U.calling g mk a) (Vm.Alike.refl U.vm) qK, qD⟩, fun U hU hW => ⟨rfl, by rw [hU], by rw [hU]; exact hPc, va_K.moved hW.alike hK, hDc.weaken (fun _ _ _ _ => trivial)⟩⟩ rfl rfl hl.1 rfl (lv_room (Nat.le_of_ble_eq_true rfl)) dX1_init_29 ⟨Nat.le_of_ble_eq_true rfl, Nat.le_of_ble_eq_true rfl⟩) hS (fun q _ h => hFc q h) hFc (fun q2 t H1 locs ht hvm hw hB hz1 hk1 hS => ?_)
  obtain ⟨hP1, hK1, hD1⟩ := hB
  rw [ht] at hP1
  obtain ⟨hP, hD⟩ := va_join (wr := [(h0, .inr (1, [.ref b, .ref h1, .null, .null, .null, .int 0, .int 0, .int 0, .int 0])), (b, .inl (cA, 3072, .inl (fun _ => 0))), (h1, .inr (0, [.ref q1])), (q1, .inl (cA, 24, .inl (hd0 22)))]) (w1 := hW1 cA h2 q2 (hd0 22)) hP hD [4] [0, 1, 2, 3] rfl rfl (by decide) (by decide) hk1 hFc hP1 hD1
  generalize H1 = H at hP hS ⊢
  have hP : va_P D vwCl [(h0, .inr (1, [.ref b, .ref h1, .null, .null, .null, .int 0, .int 0, .int 0, .int 0])), (b, .inl (cA, 3072, .inl (fun _ => 0))), (h1, .inr (0, [.ref q1])), (q1, .inl (cA, 24, .inl (hd0 22))), (h2, .inr (0, [.ref q2])), (q2, .inl (cA, 24, .inl (hd0 22)))] H := hP
  have hD : va_D A [(h0, .inr (1, [.ref b, .ref h1, .null, .null, .null, .int 0, .int 0, .int 0, .int 0])), (b, .inl (cA, 3072, .inl (fun _ => 0))), (h1, .inr (0, [.ref q1])), (q1, .inl (cA, 24, .inl (hd0 22))), (h2, .inr (0, [.ref q2])), (q2, .inl (cA, 24, .inl (hd0 22)))] := hD
  refine va_putF (D := D) (ci := 1) (v := .ref h2) (ty := tyX1 2) (C := RX1) (T := TX1) (N := 9) hx hb hts kWs0_ok.2.1 tyX1 tyX1_ok nmX1 hown hK hP hD hS 0 rfl rfl 2 (by decide) (hts _ (kFl_ok (1, 20, 1, 2) (by decide +kernel)).1) (fun _ h9 => h9) rfl hin rfl (by decide +kernel) rfl rfl (Nat.le_of_ble_eq_true rfl) dX1_init_32 (fun H locs hP hD hS => ?_)
  have hP : va_P D vwCl [(h0, .inr (1, [.ref b, .ref h1, .ref h2, .null, .null, .int 0, .int 0, .int 0, .int 0])), (b, .inl (cA, 3072, .inl (fun _ => 0))), (h1, .inr (0, [.ref q1])), (q1, .inl (cA, 24, .inl (hd0 22))), (h2, .inr (0, [.ref q2])), (q2, .inl (cA, 24, .inl (hd0 22)))] H := hP
  have hD : va_D A [(h0, .inr (1, [.ref b, .ref h1, .ref h2, .null, .null, .int 0, .int 0, .int 0, .int 0])), (b, .inl (cA, 3072, .inl (fun _ => 0))), (h1, .inr (0, [.ref q1])), (q1, .inl (cA, 24, .inl (hd0 22))), (h2, .inr (0, [.ref q2])), (q2, .inl (cA, 24, .inl (hd0 22)))] := hD
  refine lv_aload_n hx hb dX1_init_35 rfl (lv_at hl 0 rfl) ?_
  refine va_new (ci := 0) (fs := [.null]) (C := RX0) (T := TX0) (N := 1) hx hb hts kWs0_ok.1 tyX0 tyX0_ok hown (hts _ kIn2_ok.1) (hts _ kIn2_ok.2.1) (hts _ kIn2_ok.2.2.1) hK hP hD hS hA rfl (fun j hj => by rcases (show j = 0 by omega) with rfl <;> rfl) (Nat.le_of_ble_eq_true rfl) (Nat.le_of_ble_eq_true rfl) dX1_init_36 (fun h3 H hP hD hS => ?_)
  have hP : va_P D vwCl [(h0, .inr (1, [.ref b, .ref h1, .ref h2, .null, .null, .int 0, .int 0, .int 0, .int 0])), (b, .inl (cA, 3072, .inl (fun _ => 0))), (h1, .inr (0, [.ref q1])), (q1, .inl (cA, 24, .inl (hd0 22))), (h2, .inr (0, [.ref q2])), (q2, .inl (cA, 24, .inl (hd0 22))), (h3, .inr (0, [.null]))] H := hP
  have hD : va_D A [(h0, .inr (1, [.ref b, .ref h1, .ref h2, .null, .null, .int 0, .int 0, .int 0, .int 0])), (b, .inl (cA, 3072, .inl (fun _ => 0))), (h1, .inr (0, [.ref q1])), (q1, .inl (cA, 24, .inl (hd0 22))), (h2, .inr (0, [.ref q2])), (q2, .inl (cA, 24, .inl (hd0 22))), (h3, .inr (0, [.null]))] := hD
  refine lv_dup hx hb dX1_init_39 rfl ?_
  have hPc := hP.sub (ws' := hW0 h3) [6] rfl
  have hDc := hD.sub (ws' := hW0 h3) [6] (by decide) rfl
  have hFc := va_free (wc := hW0 h3) hD hS hA [6] rfl
  refine va_callv (va_runI (As := []) (rest := [.ref h3, .ref h0]) ⟨hx, hb, hml, hown, hts⟩ (c_Hdr l D cA cJ h3 H.size) (cwI 0 hts wH_in rfl rfl rfl (hts _ kIn2_ok.2.2.1) (hts _ kIn2_ok.2.2.2.1) (hts _ kIn2_ok.2.2.2.2.1) rfl (by decide +kernel) ⟨Nat.le_of_ble_eq_true rfl, Nat.le_of_ble_eq_true rfl⟩) ⟨fun a U g mk q => by obtain ⟨q0, q1, qP, qK, qD⟩ := q; exact ⟨q0, q1, qP, va_K.moved (u := U) (U := U.calling g mk a) (Vm.Alike.refl U.vm) qK, qD⟩, fun U hU hW => ⟨rfl, by rw [hU], by rw [hU]; exact hPc, va_K.moved hW.alike hK, hDc.weaken (fun _ _ _ _ => trivial)⟩⟩ rfl rfl hl.1 rfl (lv_room (Nat.le_of_ble_eq_true rfl)) dX1_init_40 ⟨Nat.le_of_ble_eq_true rfl, Nat.le_of_ble_eq_true rfl⟩) hS (fun q _ h => hFc q h) hFc (fun q3 t H1 locs ht hvm hw hB hz1 hk1 hS => ?_)
  obtain ⟨hP1, hK1, hD1⟩ := hB
  rw [ht] at hP1
  obtain ⟨hP, hD⟩ := va_join (wr := [(h0, .inr (1, [.ref b, .ref h1, .ref h2, .null, .null, .int 0, .int 0, .int 0, .int 0])), (b, .inl (cA, 3072, .inl (fun _ => 0))), (h1, .inr (0, [.ref q1])), (q1, .inl (cA, 24, .inl (hd0 22))), (h2, .inr (0, [.ref q2])), (q2, .inl (cA, 24, .inl (hd0 22)))]) (w1 := hW1 cA h3 q3 (hd0 22)) hP hD [6] [0, 1, 2, 3, 4, 5] rfl rfl (by decide) (by decide) hk1 hFc hP1 hD1
  generalize H1 = H at hP hS ⊢
  have hP : va_P D vwCl [(h0, .inr (1, [.ref b, .ref h1, .ref h2, .null, .null, .int 0, .int 0, .int 0, .int 0])), (b, .inl (cA, 3072, .inl (fun _ => 0))), (h1, .inr (0, [.ref q1])), (q1, .inl (cA, 24, .inl (hd0 22))), (h2, .inr (0, [.ref q2])), (q2, .inl (cA, 24, .inl (hd0 22))), (h3, .inr (0, [.ref q3])), (q3, .inl (cA, 24, .inl (hd0 22)))] H := hP
  have hD : va_D A [(h0, .inr (1, [.ref b, .ref h1, .ref h2, .null, .null, .int 0, .int 0, .int 0, .int 0])), (b, .inl (cA, 3072, .inl (fun _ => 0))), (h1, .inr (0, [.ref q1])), (q1, .inl (cA, 24, .inl (hd0 22))), (h2, .inr (0, [.ref q2])), (q2, .inl (cA, 24, .inl (hd0 22))), (h3, .inr (0, [.ref q3])), (q3, .inl (cA, 24, .inl (hd0 22)))] := hD
  refine va_putF (D := D) (ci := 1) (v := .ref h3) (ty := tyX1 3) (C := RX1) (T := TX1) (N := 9) hx hb hts kWs0_ok.2.1 tyX1 tyX1_ok nmX1 hown hK hP hD hS 0 rfl rfl 3 (by decide) (hts _ (kFl_ok (1, 23, 1, 3) (by decide +kernel)).1) (fun _ h9 => h9) rfl hin rfl (by decide +kernel) rfl rfl (Nat.le_of_ble_eq_true rfl) dX1_init_43 (fun H locs hP hD hS => ?_)
  have hP : va_P D vwCl [(h0, .inr (1, [.ref b, .ref h1, .ref h2, .ref h3, .null, .int 0, .int 0, .int 0, .int 0])), (b, .inl (cA, 3072, .inl (fun _ => 0))), (h1, .inr (0, [.ref q1])), (q1, .inl (cA, 24, .inl (hd0 22))), (h2, .inr (0, [.ref q2])), (q2, .inl (cA, 24, .inl (hd0 22))), (h3, .inr (0, [.ref q3])), (q3, .inl (cA, 24, .inl (hd0 22)))] H := hP
  have hD : va_D A [(h0, .inr (1, [.ref b, .ref h1, .ref h2, .ref h3, .null, .int 0, .int 0, .int 0, .int 0])), (b, .inl (cA, 3072, .inl (fun _ => 0))), (h1, .inr (0, [.ref q1])), (q1, .inl (cA, 24, .inl (hd0 22))), (h2, .inr (0, [.ref q2])), (q2, .inl (cA, 24, .inl (hd0 22))), (h3, .inr (0, [.ref q3])), (q3, .inl (cA, 24, .inl (hd0 22)))] := hD
  refine lv_aload_n hx hb dX1_init_46 rfl (lv_at hl 0 rfl) ?_
  refine lv_iconst (v := nI 4) hx hb dX1_init_47 (by decide) ?_
  refine va_newa (atype := .int) (n := nI 4) (N' := 4) (a0 := (4, .inl (fun _ => 0))) hx hb (hts _ kIn_ok.2.2.2.2.2.1) rfl hK hP hD hS hA (fun _ => rfl) (by decide) (by decide) (by decide) (Nat.le_of_ble_eq_true rfl) (Nat.le_of_ble_eq_true rfl) dX1_init_48 (fun f cB H hK2 hP hD hS => ?_)
  have eB : cB = cA := va_one hK2 (i := 2) (j := 0) rfl rfl
  subst eB
  have hP : va_P D vwCl [(h0, .inr (1, [.ref b, .ref h1, .ref h2, .ref h3, .null, .int 0, .int 0, .int 0, .int 0])), (b, .inl (cB, 3072, .inl (fun _ => 0))), (h1, .inr (0, [.ref q1])), (q1, .inl (cB, 24, .inl (hd0 22))), (h2, .inr (0, [.ref q2])), (q2, .inl (cB, 24, .inl (hd0 22))), (h3, .inr (0, [.ref q3])), (q3, .inl (cB, 24, .inl (hd0 22))), (f, .inl (cB, 4, .inl (fun _ => 0)))] H := hP
  have hD : va_D A [(h0, .inr (1, [.ref b, .ref h1, .ref h2, .ref h3, .null, .int 0, .int 0, .int 0, .int 0])), (b, .inl (cB, 3072, .inl (fun _ => 0))), (h1, .inr (0, [.ref q1])), (q1, .inl (cB, 24, .inl (hd0 22))), (h2, .inr (0, [.ref q2])), (q2, .inl (cB, 24, .inl (hd0 22))), (h3, .inr (0, [.ref q3])), (q3, .inl (cB, 24, .inl (hd0 22))), (f, .inl (cB, 4, .inl (fun _ => 0)))] := hD
  refine va_putF (D := D) (ci := 1) (v := .ref f) (ty := tyX1 4) (C := RX1) (T := TX1) (N := 9) hx hb hts kWs0_ok.2.1 tyX1 tyX1_ok nmX1 hown hK hP hD hS 0 rfl rfl 4 (by decide) (hts _ (kFl_ok (1, 26, 1, 4) (by decide +kernel)).1) (fun _ h9 => h9) rfl hin rfl (by decide +kernel) rfl rfl (Nat.le_of_ble_eq_true rfl) dX1_init_50 (fun H locs hP hD hS => ?_)
  have hP : va_P D vwCl [(h0, .inr (1, [.ref b, .ref h1, .ref h2, .ref h3, .ref f, .int 0, .int 0, .int 0, .int 0])), (b, .inl (cB, 3072, .inl (fun _ => 0))), (h1, .inr (0, [.ref q1])), (q1, .inl (cB, 24, .inl (hd0 22))), (h2, .inr (0, [.ref q2])), (q2, .inl (cB, 24, .inl (hd0 22))), (h3, .inr (0, [.ref q3])), (q3, .inl (cB, 24, .inl (hd0 22))), (f, .inl (cB, 4, .inl (fun _ => 0)))] H := hP
  have hD : va_D A [(h0, .inr (1, [.ref b, .ref h1, .ref h2, .ref h3, .ref f, .int 0, .int 0, .int 0, .int 0])), (b, .inl (cB, 3072, .inl (fun _ => 0))), (h1, .inr (0, [.ref q1])), (q1, .inl (cB, 24, .inl (hd0 22))), (h2, .inr (0, [.ref q2])), (q2, .inl (cB, 24, .inl (hd0 22))), (h3, .inr (0, [.ref q3])), (q3, .inl (cB, 24, .inl (hd0 22))), (f, .inl (cB, 4, .inl (fun _ => 0)))] := hD
  refine lv_aload_n hx hb dX1_init_53 rfl (lv_at hl 0 rfl) ?_
  refine lv_iconst (v := nI 1) hx hb dX1_init_54 (by decide) ?_
  refine va_put (D := D) (ci := 1) (v := .int (nI 1)) (ty := tyX1 5) (C := RX1) (T := TX1) (N := 9) hx hb hts kWs0_ok.2.1 tyX1 tyX1_ok nmX1 hown hK hP hD hS 0 rfl rfl 5 (by decide) (hts _ (kFl_ok (1, 29, 1, 5) (by decide +kernel)).1) (fun _ h9 => h9) rfl (by decide +kernel) rfl rfl (Nat.le_of_ble_eq_true rfl) dX1_init_55 (fun H locs hP hD hS => ?_)
  have hP : va_P D vwCl [(h0, .inr (1, [.ref b, .ref h1, .ref h2, .ref h3, .ref f, .int (nI 1), .int 0, .int 0, .int 0])), (b, .inl (cB, 3072, .inl (fun _ => 0))), (h1, .inr (0, [.ref q1])), (q1, .inl (cB, 24, .inl (hd0 22))), (h2, .inr (0, [.ref q2])), (q2, .inl (cB, 24, .inl (hd0 22))), (h3, .inr (0, [.ref q3])), (q3, .inl (cB, 24, .inl (hd0 22))), (f, .inl (cB, 4, .inl (fun _ => 0)))] H := hP
  have hD : va_D A [(h0, .inr (1, [.ref b, .ref h1, .ref h2, .ref h3, .ref f, .int (nI 1), .int 0, .int 0, .int 0])), (b, .inl (cB, 3072, .inl (fun _ => 0))), (h1, .inr (0, [.ref q1])), (q1, .inl (cB, 24, .inl (hd0 22))), (h2, .inr (0, [.ref q2])), (q2, .inl (cB, 24, .inl (hd0 22))), (h3, .inr (0, [.ref q3])), (q3, .inl (cB, 24, .inl (hd0 22))), (f, .inl (cB, 4, .inl (fun _ => 0)))] := hD
  refine lv_aload_n hx hb dX1_init_58 rfl (lv_at hl 0 rfl) ?_
  refine lv_iconst (v := -1) hx hb dX1_init_59 (by decide) ?_
  refine va_put (D := D) (ci := 1) (v := .int (-1)) (ty := tyX1 6) (C := RX1) (T := TX1) (N := 9) hx hb hts kWs0_ok.2.1 tyX1 tyX1_ok nmX1 hown hK hP hD hS 0 rfl rfl 6 (by decide) (hts _ (kFl_ok (1, 33, 1, 6) (by decide +kernel)).1) (fun _ h9 => h9) rfl (by decide +kernel) rfl rfl (Nat.le_of_ble_eq_true rfl) dX1_init_60 (fun H locs hP hD hS => ?_)
  have hP : va_P D vwCl [(h0, .inr (1, [.ref b, .ref h1, .ref h2, .ref h3, .ref f, .int (nI 1), .int (-1), .int 0, .int 0])), (b, .inl (cB, 3072, .inl (fun _ => 0))), (h1, .inr (0, [.ref q1])), (q1, .inl (cB, 24, .inl (hd0 22))), (h2, .inr (0, [.ref q2])), (q2, .inl (cB, 24, .inl (hd0 22))), (h3, .inr (0, [.ref q3])), (q3, .inl (cB, 24, .inl (hd0 22))), (f, .inl (cB, 4, .inl (fun _ => 0)))] H := hP
  have hD : va_D A [(h0, .inr (1, [.ref b, .ref h1, .ref h2, .ref h3, .ref f, .int (nI 1), .int (-1), .int 0, .int 0])), (b, .inl (cB, 3072, .inl (fun _ => 0))), (h1, .inr (0, [.ref q1])), (q1, .inl (cB, 24, .inl (hd0 22))), (h2, .inr (0, [.ref q2])), (q2, .inl (cB, 24, .inl (hd0 22))), (h3, .inr (0, [.ref q3])), (q3, .inl (cB, 24, .inl (hd0 22))), (f, .inl (cB, 4, .inl (fun _ => 0)))] := hD
  refine lv_aload_n hx hb dX1_init_63 rfl (lv_at hl 0 rfl) ?_
  refine lv_iconst (v := nI 0) hx hb dX1_init_64 (by decide) ?_
  refine va_put (D := D) (ci := 1) (v := .int (nI 0)) (ty := tyX1 7) (C := RX1) (T := TX1) (N := 9) hx hb hts kWs0_ok.2.1 tyX1 tyX1_ok nmX1 hown hK hP hD hS 0 rfl rfl 7 (by decide) (hts _ (kFl_ok (1, 37, 1, 7) (by decide +kernel)).1) (fun _ h9 => h9) rfl (by decide +kernel) rfl rfl (Nat.le_of_ble_eq_true rfl) dX1_init_65 (fun H locs hP hD hS => ?_)
  have hP : va_P D vwCl [(h0, .inr (1, [.ref b, .ref h1, .ref h2, .ref h3, .ref f, .int (nI 1), .int (-1), .int (nI 0), .int 0])), (b, .inl (cB, 3072, .inl (fun _ => 0))), (h1, .inr (0, [.ref q1])), (q1, .inl (cB, 24, .inl (hd0 22))), (h2, .inr (0, [.ref q2])), (q2, .inl (cB, 24, .inl (hd0 22))), (h3, .inr (0, [.ref q3])), (q3, .inl (cB, 24, .inl (hd0 22))), (f, .inl (cB, 4, .inl (fun _ => 0)))] H := hP
  have hD : va_D A [(h0, .inr (1, [.ref b, .ref h1, .ref h2, .ref h3, .ref f, .int (nI 1), .int (-1), .int (nI 0), .int 0])), (b, .inl (cB, 3072, .inl (fun _ => 0))), (h1, .inr (0, [.ref q1])), (q1, .inl (cB, 24, .inl (hd0 22))), (h2, .inr (0, [.ref q2])), (q2, .inl (cB, 24, .inl (hd0 22))), (h3, .inr (0, [.ref q3])), (q3, .inl (cB, 24, .inl (hd0 22))), (f, .inl (cB, 4, .inl (fun _ => 0)))] := hD
  refine lv_aload_n hx hb dX1_init_68 rfl (lv_at hl 0 rfl) ?_
  refine lv_iconst (v := nI 0) hx hb dX1_init_69 (by decide) ?_
  refine va_put (D := D) (ci := 1) (v := .int (nI 0)) (ty := tyX1 8) (C := RX1) (T := TX1) (N := 9) hx hb hts kWs0_ok.2.1 tyX1 tyX1_ok nmX1 hown hK hP hD hS 0 rfl rfl 8 (by decide) (hts _ (kFl_ok (1, 40, 1, 8) (by decide +kernel)).1) (fun _ h9 => h9) rfl (by decide +kernel) rfl rfl (Nat.le_of_ble_eq_true rfl) dX1_init_70 (fun H locs hP hD hS => ?_)
  have hP : va_P D vwCl [(h0, .inr (1, [.ref b, .ref h1, .ref h2, .ref h3, .ref f, .int (nI 1), .int (-1), .int (nI 0), .int (nI 0)])), (b, .inl (cB, 3072, .inl (fun _ => 0))), (h1, .inr (0, [.ref q1])), (q1, .inl (cB, 24, .inl (hd0 22))), (h2, .inr (0, [.ref q2])), (q2, .inl (cB, 24, .inl (hd0 22))), (h3, .inr (0, [.ref q3])), (q3, .inl (cB, 24, .inl (hd0 22))), (f, .inl (cB, 4, .inl (fun _ => 0)))] H := hP
  have hD : va_D A [(h0, .inr (1, [.ref b, .ref h1, .ref h2, .ref h3, .ref f, .int (nI 1), .int (-1), .int (nI 0), .int (nI 0)])), (b, .inl (cB, 3072, .inl (fun _ => 0))), (h1, .inr (0, [.ref q1])), (q1, .inl (cB, 24, .inl (hd0 22))), (h2, .inr (0, [.ref q2])), (q2, .inl (cB, 24, .inl (hd0 22))), (h3, .inr (0, [.ref q3])), (q3, .inl (cB, 24, .inl (hd0 22))), (f, .inl (cB, 4, .inl (fun _ => 0)))] := hD
  have hP : va_P D vwCl (gW1 cB h0 b h1 h2 h3 q1 q2 q3 f) H := hP
  have hD : va_D A (gW1 cB h0 b h1 h2 h3 q1 q2 q3 f) := hD
  refine W.widen (k := 8) (n := 3151) (Nat.le_of_ble_eq_true rfl) (Nat.le_of_ble_eq_true rfl) ?_
  exact W.vret hx hb hr (fun t ht hW => ⟨⟨0, rfl, trivial, b, h1, q1, h2, q2, h3, q3, f, by rw [ht]; exact hP, va_K.moved hW.alike hK, hD⟩, hS.F ht⟩) hS.2.2 dX1_init_73
end
section
/-! constructors: MirrorGroupModel -/
def wM : List Cond := Cond.code yX2_init cX2_init 2 none :: kG
theorem wM_in : GoodIn kG wM := fun w hw => (List.mem_cons.mp hw).elim (fun e => by rw [e]; exact ⟨kIn2_ok.2.2.2.2.2.2.2.2.2.2.2.1, kG_good kIn2_ok.2.2.2.2.2.2.2.2.2.2.2.1⟩) (fun h => ⟨h, kG_good h⟩)
theorem wG_in : GoodIn kG wG := fun w hw => (List.mem_cons.mp hw).elim (fun e => by rw [e]; exact ⟨kIn2_ok.2.2.2.2.2.2.2.2.2.2.1, kG_good kIn2_ok.2.2.2.2.2.2.2.2.2.2.1⟩) (fun h => ⟨h, kG_good h⟩)
def ho0 (i : Nat) : Nat → Int32 := fun k => if 20 ≤ k ∧ k < 20 + i then -1 else 0
theorem ho0_0 : ho0 0 = fun _ => 0 := by
  funext k
  unfold ho0
  rw [if_neg (by omega)]
theorem ho0_go (i : Nat) : upd (ho0 i) (20 + i) (-1) = ho0 (i + 1) := by
  funext k
  unfold ho0 upd
  by_cases h : k = 20 + i
  · rw [if_pos h, if_pos (by omega)]
  · rw [if_neg h]
    by_cases h2 : 20 ≤ k ∧ k < 20 + i
    · show (if 20 ≤ k ∧ k < 20 + i then (-1 : Int32) else 0) = _
      rw [if_pos h2, if_pos (by omega)]
    · show (if 20 ≤ k ∧ k < 20 + i then (-1 : Int32) else 0) = _
      rw [if_neg h2, if_neg (by omega)]
abbrev mW0 (a : Nat) : va_W := [(a, .inr (2, [.int 0, .null, .null, .null, .null, .int 0, .int 0, .int 0, .int 0, .null]))]
abbrev mW1 (cI : ClassId) (a b q1 q2 q3 f : Nat) (g : Nat → Int32) (g2 : Nat → Int32) (g3 : Nat → Int32) : va_W := [(a, .inr (2, [.int 0, .ref b, .ref q1, .ref q2, .ref q3, .int 0, .int (-1), .int 0, .int 0, .ref f])), (b, .inl (cI, 3072, .inl (fun _ => 0))), (q1, .inl (cI, 24, .inl g)), (q2, .inl (cI, 24, .inl g2)), (q3, .inl (cI, 24, .inl g3)), (f, .inl (cI, 4, .inl (fun _ => 0)))]
set_option maxHeartbeats 8000000 in
set_option maxRecDepth 100000 in
theorem c_Mdl_loop {p : Program} {l : Launch} {e : Env} {R9 : Room} {s : State} {m : MethodId} {args : Array Value} {below : List Frame} {meth : Method} {c : Code} {D : va_G} {cI cJ : ClassId} {A : Nat → Prop} {h0 b q1 q2 q3 f : Nat} {cells slots : Nat} {Q : State → Prop} (hx : p.tables.exec = Jvm.exec) (hb : c.code = cX2_init) (hts : ∀ w ∈ kG, w.before args s = true) (hown : s.vm.findClass RX2 = some m.cls) (hK : va_K D vwCl (kTy cI cJ) s)
    (hend : ∀ (H : Heap) (locs : List Loc) (ls : Array Slot), va_P D vwCl (mW1 cI h0 b q1 q2 q3 f (ho0 4) (ho0 4) (ho0 4)) H → va_D A (mW1 cI h0 b q1 q2 q3 f (ho0 4) (ho0 4) (ho0 4)) → va_S A s.heap H locs → W p l e R9 s m args below meth c H locs cells slots Q (F0 m 85 ls [])) :
    ∀ (n i : Nat) (x : Int32) (H : Heap) (locs : List Loc) (ls : Array Slot), i + n = 4 → x = nI (20 + i) → va_P D vwCl (mW1 cI h0 b q1 q2 q3 f (ho0 i) (ho0 i) (ho0 i)) H → va_D A (mW1 cI h0 b q1 q2 q3 f (ho0 i) (ho0 i) (ho0 i)) → va_S A s.heap H locs → lv_has ls 2 [(1, .int x), (0, .ref h0)] → W p l e R9 s m args below meth c H locs cells slots Q (F0 m 52 ls []) := by
  intro n
  induction n with
  | zero =>
    intro i x H locs ls hi hxx hP hD hS hl
    have hi : i = 4 := by omega
    subst hi; subst hxx
    refine lv_iload_n hx hb dX2_init_52 rfl (lv_at hl 0 rfl) ?_
    refine lv_bipush (v := nI 24) hx hb dX2_init_53 (by decide) ?_
    refine lv_icmp_ge (tgt := 85) hx hb dX2_init_55 (by decide) (fun _ => hend H locs ls hP hD hS) (fun z => absurd (by decide) z)
  | succ n ih =>
    intro i x H locs ls hi hxx hP hD hS hl
    subst hxx
    have hc : (nI (20 + i)).toNatClampNeg = 20 + i := nI_clamp (by omega)
    refine lv_iload_n hx hb dX2_init_52 rfl (lv_at hl 0 rfl) ?_
    refine lv_bipush (v := nI 24) hx hb dX2_init_53 (by decide) ?_
    refine lv_icmp_ge (tgt := 85) hx hb dX2_init_55 (by decide) (fun z => absurd z (nI_ge (by omega) (by decide))) (fun _ => ?_)
    refine lv_aload_n hx hb dX2_init_58 rfl (lv_at hl 1 rfl) ?_
    refine va_get (D := D) (ci := 2) (v := .ref q1) (C := RX2) (T := TX2) (N := 10) hx hb hts kWs0_ok.2.2 hown hK hP 0 rfl rfl 2 (by decide) (hts _ (kFl_ok (2, 13, 2, 2) (by decide +kernel)).1) (fun _ h9 => h9) rfl dX2_init_59 ?_
    refine lv_iload_n hx hb dX2_init_62 rfl (lv_at hl 0 rfl) ?_
    refine lv_iconst (v := -1) hx hb dX2_init_63 (by decide) ?_
    refine va_iast hx hb hK hP hD hS 2 0 rfl rfl (i := nI (20 + i)) (x := -1) (fun z => z.elim (nI_pos (by omega)) (fun z => by rw [hc] at z; omega)) dX2_init_64 (fun H locs hP hD hS => ?_)
    rw [hc] at hP hD
    have hP : va_P D vwCl (mW1 cI h0 b q1 q2 q3 f (upd (ho0 i) (20 + i) (-1)) (ho0 i) (ho0 i)) H := hP
    have hD : va_D A (mW1 cI h0 b q1 q2 q3 f (upd (ho0 i) (20 + i) (-1)) (ho0 i) (ho0 i)) := hD
    rw [ho0_go] at hP hD
    refine lv_aload_n hx hb dX2_init_65 rfl (lv_at hl 1 rfl) ?_
    refine va_get (D := D) (ci := 2) (v := .ref q2) (C := RX2) (T := TX2) (N := 10) hx hb hts kWs0_ok.2.2 hown hK hP 0 rfl rfl 3 (by decide) (hts _ (kFl_ok (2, 16, 2, 3) (by decide +kernel)).1) (fun _ h9 => h9) rfl dX2_init_66 ?_
    refine lv_iload_n hx hb dX2_init_69 rfl (lv_at hl 0 rfl) ?_
    refine lv_iconst (v := -1) hx hb dX2_init_70 (by decide) ?_
    refine va_iast hx hb hK hP hD hS 3 0 rfl rfl (i := nI (20 + i)) (x := -1) (fun z => z.elim (nI_pos (by omega)) (fun z => by rw [hc] at z; omega)) dX2_init_71 (fun H locs hP hD hS => ?_)
    rw [hc] at hP hD
    have hP : va_P D vwCl (mW1 cI h0 b q1 q2 q3 f (ho0 (i + 1)) (upd (ho0 i) (20 + i) (-1)) (ho0 i)) H := hP
    have hD : va_D A (mW1 cI h0 b q1 q2 q3 f (ho0 (i + 1)) (upd (ho0 i) (20 + i) (-1)) (ho0 i)) := hD
    rw [ho0_go] at hP hD
    refine lv_aload_n hx hb dX2_init_72 rfl (lv_at hl 1 rfl) ?_
    refine va_get (D := D) (ci := 2) (v := .ref q3) (C := RX2) (T := TX2) (N := 10) hx hb hts kWs0_ok.2.2 hown hK hP 0 rfl rfl 4 (by decide) (hts _ (kFl_ok (2, 19, 2, 4) (by decide +kernel)).1) (fun _ h9 => h9) rfl dX2_init_73 ?_
    refine lv_iload_n hx hb dX2_init_76 rfl (lv_at hl 0 rfl) ?_
    refine lv_iconst (v := -1) hx hb dX2_init_77 (by decide) ?_
    refine va_iast hx hb hK hP hD hS 4 0 rfl rfl (i := nI (20 + i)) (x := -1) (fun z => z.elim (nI_pos (by omega)) (fun z => by rw [hc] at z; omega)) dX2_init_78 (fun H locs hP hD hS => ?_)
    rw [hc] at hP hD
    have hP : va_P D vwCl (mW1 cI h0 b q1 q2 q3 f (ho0 (i + 1)) (ho0 (i + 1)) (upd (ho0 i) (20 + i) (-1))) H := hP
    have hD : va_D A (mW1 cI h0 b q1 q2 q3 f (ho0 (i + 1)) (ho0 (i + 1)) (upd (ho0 i) (20 + i) (-1))) := hD
    rw [ho0_go] at hP hD
    refine lv_iinc (v := nI (20 + (i + 1))) (lv' := [(1, .int (nI (20 + (i + 1)))), (0, .ref h0)]) hx hb dX2_init_79 hl (k := 0) rfl (nI_1 _) (by decide) rfl (fun ls hl => ?_)
    refine lv_goto (tgt := 52) hx hb dX2_init_82 (by decide) ?_
    exact ih (i + 1) _ H locs ls (by omega) rfl hP hD hS hl
end
section
/-! constructors: MirrorGroupModel, its contract -/
set_option maxHeartbeats 8000000 in
set_option maxRecDepth 100000 in
theorem c_Mdl (l : Launch) (D : va_G) (cI cJ : ClassId) (h0 sz : Nat) : Met l yX2_init wM ({ frames := 1, cells := 5, slots := 3148, locals := 12 }) (va_Pc [.ref h0] (fun U => U.heap.size = sz ∧ va_P D vwCl (mW0 h0) U.heap ∧ va_K D vwCl (kTy cI cJ) U ∧ va_D (fun _ => True) (mW0 h0)))
    (va_Qv (fun _ : Nat => True) (fun _ t => ∃ b q1 q2 q3 f, va_P D vwCl (mW1 cI h0 b q1 q2 q3 f (ho0 4) (ho0 4) (ho0 4)) t.heap ∧ va_K D vwCl (kTy cI cJ) t ∧ va_D (va_A (mW0 h0) sz) (mW1 cI h0 b q1 q2 q3 f (ho0 4) (ho0 4) (ho0 4))) (va_A (mW0 h0) sz)) 5 3148 (va_A (mW0 h0) sz) := by
  refine Met.ofW (cc := cX2_init) (maxL := 2) (ret := none) (by decide) rfl ?_
  intro p e s m args below meth c s₁ B hml hv
  obtain ⟨rfl, hsz, hP, hK, hD0⟩ := hv
  have hx := B.exec
  have hb := B.bytes
  have hr := B.returns
  have hts : ∀ w ∈ kG, w.before #[Value.ref h0] s = true := fun w hw => atoms_spec (ws := wM) B.pre w (List.mem_cons_of_mem _ hw)
  have hown : s.vm.findClass RX2 = some m.cls := findClass_of_methodNamed B.named
  have hlocks := B.notSynchronized
  have hin : meth.name = "<init>" := (name_of_methodNamed B.named B.method).1
  subst hsz
  have hD := hD0.self (sz := s.heap.size)
  generalize hAe : va_A (mW0 h0) s.heap.size = A at hD ⊢
  have hA : ∀ q : Nat, s.heap.size ≤ q → A q := fun q h => by rw [← hAe]; exact Or.inr h
  have hS : va_S A s.heap s.heap [] := va_S.rf
  have hP : va_P D vwCl (mW0 h0) s.heap := hP
  have hl := lv_entry ([.ref h0]) (n := 2) (Nat.le_of_ble_eq_true rfl)
  rw [lg_entry_eq]
  generalize (lg_sl ([.ref h0]) ++ List.replicate (2 - (lg_sl ([.ref h0])).length) Slot.unset).toArray = ls at hl ⊢
  have hl : lv_has ls 2 [(0, .ref h0)] := hl
  refine lv_aload_n hx hb dX2_init_0 rfl (lv_at hl 0 rfl) ?_
  refine W.objInit hx hb hown (hts _ kIn_ok.2.2.1) (hts _ kIn_ok.2.2.2.1) (hts _ kIn_ok.2.2.2.2.1) rfl (by rw [hml]; exact hl.1) rfl dX2_init_1 (Nat.le_of_ble_eq_true rfl) (Nat.le_of_ble_eq_true rfl) ?_
  refine W.eq (g2 := F0 m 4 ls []) rfl ?_
  refine lv_aload_n hx hb dX2_init_4 rfl (lv_at hl 0 rfl) ?_
  refine lv_sipush (v := nI 3072) hx hb dX2_init_5 (by decide) ?_
  refine va_newa (atype := .int) (n := nI 3072) (N' := 3072) (a0 := (3072, .inl (fun _ => 0))) hx hb (hts _ kIn_ok.2.2.2.2.2.1) rfl hK hP hD hS hA (fun _ => rfl) (by decide) (by decide) (by decide) (Nat.le_of_ble_eq_true rfl) (Nat.le_of_ble_eq_true rfl) dX2_init_8 (fun b c0 H hK2 hP hD hS => ?_)
  have eA : c0 = cI := va_one hK2 (i := 2) (j := 0) rfl rfl
  subst eA
  have hP : va_P D vwCl [(h0, .inr (2, [.int 0, .null, .null, .null, .null, .int 0, .int 0, .int 0, .int 0, .null])), (b, .inl (c0, 3072, .inl (fun _ => 0)))] H := hP
  have hD : va_D A [(h0, .inr (2, [.int 0, .null, .null, .null, .null, .int 0, .int 0, .int 0, .int 0, .null])), (b, .inl (c0, 3072, .inl (fun _ => 0)))] := hD
  refine va_putF (D := D) (ci := 2) (v := .ref b) (ty := tyX2 1) (C := RX2) (T := TX2) (N := 10) hx hb hts kWs0_ok.2.2 tyX2 tyX2_ok nmX2 hown hK hP hD hS 0 rfl rfl 1 (by decide) (hts _ (kFl_ok (2, 7, 2, 1) (by decide +kernel)).1) (fun _ h9 => h9) rfl hin rfl (by decide +kernel) rfl rfl (Nat.le_of_ble_eq_true rfl) dX2_init_10 (fun H locs hP hD hS => ?_)
  have hP : va_P D vwCl [(h0, .inr (2, [.int 0, .ref b, .null, .null, .null, .int 0, .int 0, .int 0, .int 0, .null])), (b, .inl (c0, 3072, .inl (fun _ => 0)))] H := hP
  have hD : va_D A [(h0, .inr (2, [.int 0, .ref b, .null, .null, .null, .int 0, .int 0, .int 0, .int 0, .null])), (b, .inl (c0, 3072, .inl (fun _ => 0)))] := hD
  refine lv_aload_n hx hb dX2_init_13 rfl (lv_at hl 0 rfl) ?_
  refine lv_bipush (v := nI 24) hx hb dX2_init_14 (by decide) ?_
  refine va_newa (atype := .int) (n := nI 24) (N' := 24) (a0 := (24, .inl (fun _ => 0))) hx hb (hts _ kIn_ok.2.2.2.2.2.1) rfl hK hP hD hS hA (fun _ => rfl) (by decide) (by decide) (by decide) (Nat.le_of_ble_eq_true rfl) (Nat.le_of_ble_eq_true rfl) dX2_init_16 (fun q1 c1 H hK2 hP hD hS => ?_)
  have eA : c1 = c0 := va_one hK2 (i := 2) (j := 0) rfl rfl
  subst eA
  have hP : va_P D vwCl [(h0, .inr (2, [.int 0, .ref b, .null, .null, .null, .int 0, .int 0, .int 0, .int 0, .null])), (b, .inl (c1, 3072, .inl (fun _ => 0))), (q1, .inl (c1, 24, .inl (fun _ => 0)))] H := hP
  have hD : va_D A [(h0, .inr (2, [.int 0, .ref b, .null, .null, .null, .int 0, .int 0, .int 0, .int 0, .null])), (b, .inl (c1, 3072, .inl (fun _ => 0))), (q1, .inl (c1, 24, .inl (fun _ => 0)))] := hD
  refine va_putF (D := D) (ci := 2) (v := .ref q1) (ty := tyX2 2) (C := RX2) (T := TX2) (N := 10) hx hb hts kWs0_ok.2.2 tyX2 tyX2_ok nmX2 hown hK hP hD hS 0 rfl rfl 2 (by decide) (hts _ (kFl_ok (2, 13, 2, 2) (by decide +kernel)).1) (fun _ h9 => h9) rfl hin rfl (by decide +kernel) rfl rfl (Nat.le_of_ble_eq_true rfl) dX2_init_18 (fun H locs hP hD hS => ?_)
  have hP : va_P D vwCl [(h0, .inr (2, [.int 0, .ref b, .ref q1, .null, .null, .int 0, .int 0, .int 0, .int 0, .null])), (b, .inl (c1, 3072, .inl (fun _ => 0))), (q1, .inl (c1, 24, .inl (fun _ => 0)))] H := hP
  have hD : va_D A [(h0, .inr (2, [.int 0, .ref b, .ref q1, .null, .null, .int 0, .int 0, .int 0, .int 0, .null])), (b, .inl (c1, 3072, .inl (fun _ => 0))), (q1, .inl (c1, 24, .inl (fun _ => 0)))] := hD
  refine lv_aload_n hx hb dX2_init_21 rfl (lv_at hl 0 rfl) ?_
  refine lv_bipush (v := nI 24) hx hb dX2_init_22 (by decide) ?_
  refine va_newa (atype := .int) (n := nI 24) (N' := 24) (a0 := (24, .inl (fun _ => 0))) hx hb (hts _ kIn_ok.2.2.2.2.2.1) rfl hK hP hD hS hA (fun _ => rfl) (by decide) (by decide) (by decide) (Nat.le_of_ble_eq_true rfl) (Nat.le_of_ble_eq_true rfl) dX2_init_24 (fun q2 c2 H hK2 hP hD hS => ?_)
  have eA : c2 = c1 := va_one hK2 (i := 2) (j := 0) rfl rfl
  subst eA
  have hP : va_P D vwCl [(h0, .inr (2, [.int 0, .ref b, .ref q1, .null, .null, .int 0, .int 0, .int 0, .int 0, .null])), (b, .inl (c2, 3072, .inl (fun _ => 0))), (q1, .inl (c2, 24, .inl (fun _ => 0))), (q2, .inl (c2, 24, .inl (fun _ => 0)))] H := hP
  have hD : va_D A [(h0, .inr (2, [.int 0, .ref b, .ref q1, .null, .null, .int 0, .int 0, .int 0, .int 0, .null])), (b, .inl (c2, 3072, .inl (fun _ => 0))), (q1, .inl (c2, 24, .inl (fun _ => 0))), (q2, .inl (c2, 24, .inl (fun _ => 0)))] := hD
  refine va_putF (D := D) (ci := 2) (v := .ref q2) (ty := tyX2 3) (C := RX2) (T := TX2) (N := 10) hx hb hts kWs0_ok.2.2 tyX2 tyX2_ok nmX2 hown hK hP hD hS 0 rfl rfl 3 (by decide) (hts _ (kFl_ok (2, 16, 2, 3) (by decide +kernel)).1) (fun _ h9 => h9) rfl hin rfl (by decide +kernel) rfl rfl (Nat.le_of_ble_eq_true rfl) dX2_init_26 (fun H locs hP hD hS => ?_)
  have hP : va_P D vwCl [(h0, .inr (2, [.int 0, .ref b, .ref q1, .ref q2, .null, .int 0, .int 0, .int 0, .int 0, .null])), (b, .inl (c2, 3072, .inl (fun _ => 0))), (q1, .inl (c2, 24, .inl (fun _ => 0))), (q2, .inl (c2, 24, .inl (fun _ => 0)))] H := hP
  have hD : va_D A [(h0, .inr (2, [.int 0, .ref b, .ref q1, .ref q2, .null, .int 0, .int 0, .int 0, .int 0, .null])), (b, .inl (c2, 3072, .inl (fun _ => 0))), (q1, .inl (c2, 24, .inl (fun _ => 0))), (q2, .inl (c2, 24, .inl (fun _ => 0)))] := hD
  refine lv_aload_n hx hb dX2_init_29 rfl (lv_at hl 0 rfl) ?_
  refine lv_bipush (v := nI 24) hx hb dX2_init_30 (by decide) ?_
  refine va_newa (atype := .int) (n := nI 24) (N' := 24) (a0 := (24, .inl (fun _ => 0))) hx hb (hts _ kIn_ok.2.2.2.2.2.1) rfl hK hP hD hS hA (fun _ => rfl) (by decide) (by decide) (by decide) (Nat.le_of_ble_eq_true rfl) (Nat.le_of_ble_eq_true rfl) dX2_init_32 (fun q3 c3 H hK2 hP hD hS => ?_)
  have eA : c3 = c2 := va_one hK2 (i := 2) (j := 0) rfl rfl
  subst eA
  have hP : va_P D vwCl [(h0, .inr (2, [.int 0, .ref b, .ref q1, .ref q2, .null, .int 0, .int 0, .int 0, .int 0, .null])), (b, .inl (c3, 3072, .inl (fun _ => 0))), (q1, .inl (c3, 24, .inl (fun _ => 0))), (q2, .inl (c3, 24, .inl (fun _ => 0))), (q3, .inl (c3, 24, .inl (fun _ => 0)))] H := hP
  have hD : va_D A [(h0, .inr (2, [.int 0, .ref b, .ref q1, .ref q2, .null, .int 0, .int 0, .int 0, .int 0, .null])), (b, .inl (c3, 3072, .inl (fun _ => 0))), (q1, .inl (c3, 24, .inl (fun _ => 0))), (q2, .inl (c3, 24, .inl (fun _ => 0))), (q3, .inl (c3, 24, .inl (fun _ => 0)))] := hD
  refine va_putF (D := D) (ci := 2) (v := .ref q3) (ty := tyX2 4) (C := RX2) (T := TX2) (N := 10) hx hb hts kWs0_ok.2.2 tyX2 tyX2_ok nmX2 hown hK hP hD hS 0 rfl rfl 4 (by decide) (hts _ (kFl_ok (2, 19, 2, 4) (by decide +kernel)).1) (fun _ h9 => h9) rfl hin rfl (by decide +kernel) rfl rfl (Nat.le_of_ble_eq_true rfl) dX2_init_34 (fun H locs hP hD hS => ?_)
  have hP : va_P D vwCl [(h0, .inr (2, [.int 0, .ref b, .ref q1, .ref q2, .ref q3, .int 0, .int 0, .int 0, .int 0, .null])), (b, .inl (c3, 3072, .inl (fun _ => 0))), (q1, .inl (c3, 24, .inl (fun _ => 0))), (q2, .inl (c3, 24, .inl (fun _ => 0))), (q3, .inl (c3, 24, .inl (fun _ => 0)))] H := hP
  have hD : va_D A [(h0, .inr (2, [.int 0, .ref b, .ref q1, .ref q2, .ref q3, .int 0, .int 0, .int 0, .int 0, .null])), (b, .inl (c3, 3072, .inl (fun _ => 0))), (q1, .inl (c3, 24, .inl (fun _ => 0))), (q2, .inl (c3, 24, .inl (fun _ => 0))), (q3, .inl (c3, 24, .inl (fun _ => 0)))] := hD
  refine lv_aload_n hx hb dX2_init_37 rfl (lv_at hl 0 rfl) ?_
  refine lv_iconst (v := -1) hx hb dX2_init_38 (by decide) ?_
  refine va_put (D := D) (ci := 2) (v := .int (-1)) (ty := tyX2 6) (C := RX2) (T := TX2) (N := 10) hx hb hts kWs0_ok.2.2 tyX2 tyX2_ok nmX2 hown hK hP hD hS 0 rfl rfl 6 (by decide) (hts _ (kFl_ok (2, 22, 2, 6) (by decide +kernel)).1) (fun _ h9 => h9) rfl (by decide +kernel) rfl rfl (Nat.le_of_ble_eq_true rfl) dX2_init_39 (fun H locs hP hD hS => ?_)
  have hP : va_P D vwCl [(h0, .inr (2, [.int 0, .ref b, .ref q1, .ref q2, .ref q3, .int 0, .int (-1), .int 0, .int 0, .null])), (b, .inl (c3, 3072, .inl (fun _ => 0))), (q1, .inl (c3, 24, .inl (fun _ => 0))), (q2, .inl (c3, 24, .inl (fun _ => 0))), (q3, .inl (c3, 24, .inl (fun _ => 0)))] H := hP
  have hD : va_D A [(h0, .inr (2, [.int 0, .ref b, .ref q1, .ref q2, .ref q3, .int 0, .int (-1), .int 0, .int 0, .null])), (b, .inl (c3, 3072, .inl (fun _ => 0))), (q1, .inl (c3, 24, .inl (fun _ => 0))), (q2, .inl (c3, 24, .inl (fun _ => 0))), (q3, .inl (c3, 24, .inl (fun _ => 0)))] := hD
  refine lv_aload_n hx hb dX2_init_42 rfl (lv_at hl 0 rfl) ?_
  refine lv_iconst (v := nI 4) hx hb dX2_init_43 (by decide) ?_
  refine va_newa (atype := .int) (n := nI 4) (N' := 4) (a0 := (4, .inl (fun _ => 0))) hx hb (hts _ kIn_ok.2.2.2.2.2.1) rfl hK hP hD hS hA (fun _ => rfl) (by decide) (by decide) (by decide) (Nat.le_of_ble_eq_true rfl) (Nat.le_of_ble_eq_true rfl) dX2_init_44 (fun f c4 H hK2 hP hD hS => ?_)
  have eA : c4 = c3 := va_one hK2 (i := 2) (j := 0) rfl rfl
  subst eA
  have hP : va_P D vwCl [(h0, .inr (2, [.int 0, .ref b, .ref q1, .ref q2, .ref q3, .int 0, .int (-1), .int 0, .int 0, .null])), (b, .inl (c4, 3072, .inl (fun _ => 0))), (q1, .inl (c4, 24, .inl (fun _ => 0))), (q2, .inl (c4, 24, .inl (fun _ => 0))), (q3, .inl (c4, 24, .inl (fun _ => 0))), (f, .inl (c4, 4, .inl (fun _ => 0)))] H := hP
  have hD : va_D A [(h0, .inr (2, [.int 0, .ref b, .ref q1, .ref q2, .ref q3, .int 0, .int (-1), .int 0, .int 0, .null])), (b, .inl (c4, 3072, .inl (fun _ => 0))), (q1, .inl (c4, 24, .inl (fun _ => 0))), (q2, .inl (c4, 24, .inl (fun _ => 0))), (q3, .inl (c4, 24, .inl (fun _ => 0))), (f, .inl (c4, 4, .inl (fun _ => 0)))] := hD
  refine va_putF (D := D) (ci := 2) (v := .ref f) (ty := tyX2 9) (C := RX2) (T := TX2) (N := 10) hx hb hts kWs0_ok.2.2 tyX2 tyX2_ok nmX2 hown hK hP hD hS 0 rfl rfl 9 (by decide) (hts _ (kFl_ok (2, 26, 2, 9) (by decide +kernel)).1) (fun _ h9 => h9) rfl hin rfl (by decide +kernel) rfl rfl (Nat.le_of_ble_eq_true rfl) dX2_init_46 (fun H locs hP hD hS => ?_)
  have hP : va_P D vwCl [(h0, .inr (2, [.int 0, .ref b, .ref q1, .ref q2, .ref q3, .int 0, .int (-1), .int 0, .int 0, .ref f])), (b, .inl (c4, 3072, .inl (fun _ => 0))), (q1, .inl (c4, 24, .inl (fun _ => 0))), (q2, .inl (c4, 24, .inl (fun _ => 0))), (q3, .inl (c4, 24, .inl (fun _ => 0))), (f, .inl (c4, 4, .inl (fun _ => 0)))] H := hP
  have hD : va_D A [(h0, .inr (2, [.int 0, .ref b, .ref q1, .ref q2, .ref q3, .int 0, .int (-1), .int 0, .int 0, .ref f])), (b, .inl (c4, 3072, .inl (fun _ => 0))), (q1, .inl (c4, 24, .inl (fun _ => 0))), (q2, .inl (c4, 24, .inl (fun _ => 0))), (q3, .inl (c4, 24, .inl (fun _ => 0))), (f, .inl (c4, 4, .inl (fun _ => 0)))] := hD
  have hP : va_P D vwCl (mW1 c4 h0 b q1 q2 q3 f (fun _ => 0) (fun _ => 0) (fun _ => 0)) H := hP
  have hD : va_D A (mW1 c4 h0 b q1 q2 q3 f (fun _ => 0) (fun _ => 0) (fun _ => 0)) := hD
  have hP : va_P D vwCl (mW1 c4 h0 b q1 q2 q3 f (ho0 0) (ho0 0) (ho0 0)) H := by rw [ho0_0]; exact hP
  have hD : va_D A (mW1 c4 h0 b q1 q2 q3 f (ho0 0) (ho0 0) (ho0 0)) := by rw [ho0_0]; exact hD
  refine lv_bipush (v := nI 20) hx hb dX2_init_49 (by decide) ?_
  refine lv_istore_n (lv' := [(1, .int (nI 20)), (0, .ref h0)]) hx hb dX2_init_51 rfl hl (by decide) rfl (fun ls hl => ?_)
  refine c_Mdl_loop hx hb hts hown hK (fun H locs ls hP hD hS => ?_) 4 0 (nI 20) H locs ls rfl rfl hP hD hS hl
  refine W.widen (k := 5) (n := 3148) (Nat.le_of_ble_eq_true rfl) (Nat.le_of_ble_eq_true rfl) ?_
  exact W.vret hx hb hr (fun t ht hW => ⟨⟨0, rfl, trivial, b, q1, q2, q3, f, by rw [ht]; exact hP, va_K.moved hW.alike hK, hD⟩, hS.F ht⟩) hS.2.2 dX2_init_85
end
section
/-! the law's entry: which exception is which; the statics; the classes -/
set_option maxRecDepth 100000 in
theorem kNot_in : ∀ E ∈ kEx, ∀ F ∈ kEx, E ≠ F → Cond.not (.castable E F) ∈ flatC (Jvm.Cond.and given_1 narrow_1) := by decide +kernel
set_option maxRecDepth 100000 in
theorem kCas_in : ∀ E ∈ kEx, Cond.castable E E ∈ lw_tbl := by decide +kernel
set_option maxRecDepth 100000 in
theorem kSta_in : Cond.laysStatic Bundle.tN "UNASSIGNED_STACK" Bundle.steD ∈ lw_tbl ∧ Cond.laysStatic Bundle.tN "SUPPRESSED_SENTINEL" Bundle.listD ∈ lw_tbl ∧ Cond.initialized Bundle.tN ∈ lw_tbl := by decide +kernel
set_option maxRecDepth 100000 in
theorem kSta2_in : Cond.isRef (.static Bundle.tN "UNASSIGNED_STACK" Bundle.steD) ∈ flatC (Jvm.Cond.and given_1 narrow_1) ∧ Cond.isRef (.static Bundle.tN "SUPPRESSED_SENTINEL" Bundle.listD) ∈ flatC (Jvm.Cond.and given_1 narrow_1) := by decide +kernel
set_option maxRecDepth 100000 in
theorem kStr_in : ∀ r ∈ kTh, Cond.stringRef RX1 r.2.2.2.1 r.2.2.2.2.2.2 ∈ lw_tbl := by decide +kernel
section EN
variable {s : State} {args : Array Value}
theorem kAs_of (h : (Jvm.Cond.and given_1 narrow_1).before args s = true) (hts : ∀ w ∈ lw_tbl, w.before args s = true) : kAs s := by
  have hs := flat_of_before _ h
  intro E hE F hF
  by_cases hEF : E = F
  · subst hEF
    obtain ⟨a, b, h1, h2, h3⟩ := Cond.castable_spec (hts _ (kCas_in E hE))
    exact ⟨a, b, h1, h2, by rw [h3]; simp⟩
  · obtain ⟨a, _, a1, _, _⟩ := Cond.castable_spec (hts _ (kCas_in E hE))
    obtain ⟨b, _, b1, _, _⟩ := Cond.castable_spec (hts _ (kCas_in F hF))
    have h9 := Cond.holds_not_iff.mp (hs _ (kNot_in E hE F hF hEF))
    have h9 : s.vm.assignable a b = false := by simpa [Cond.value, a1, b1] using h9
    exact ⟨a, b, a1, b1, by rw [h9]; simp [hEF]⟩
theorem kz_of {A : Nat → Prop} (h : (Jvm.Cond.and given_1 narrow_1).before args s = true) (hts : ∀ w ∈ lw_tbl, w.before args s = true) (hA : ∀ a : Nat, a < s.heap.size → ¬ A a) : kz A s s.heap := by
  have hs := flat_of_before _ h
  refine ⟨vx_Zqof (hts _ kSta_in.1) (hts _ kSta_in.2.2) (hs _ kSta2_in.1) hA, vx_Zqof (hts _ kSta_in.2.1) (hts _ kSta_in.2.2) (hs _ kSta2_in.2) hA, fun r hr => ?_, fun w hw a => kface_moved (Vm.Alike.refl s.vm) (List.mem_filter.mp hw).2 (hts w (List.mem_filter.mp hw).1)⟩
  have h1 := hts _ (kStr_in r hr)
  obtain ⟨cC, kC9, hfc, -, -, -⟩ := Cond.instantiable_spec (hts _ (List.mem_filter.mp kIn2_ok.2.2.2.2.2.2.1).1)
  obtain ⟨_, _, _, sa, _, _, _, _, _, h2⟩ := Cond.stringRef_spec hfc h1
  exact ⟨sa, vk_R.of h1 h2⟩
theorem va_K_of (hts : ∀ w ∈ kG, w.before args s = true) : ∃ (D : va_G) (cI cJ : ClassId), va_K D vwCl (kTy cI cJ) s := by
  obtain ⟨c0, i0, h0⟩ := u_known (C := RX0) (T := TX0) (N := 1) hts kWs0_ok.1 (hts _ kIn2_ok.2.1)
  obtain ⟨c1, i1, h1⟩ := u_known (C := RX1) (T := TX1) (N := 9) hts kWs0_ok.2.1 (hts _ kIn2_ok.2.2.2.2.2.2.1)
  obtain ⟨c2, i2, h2⟩ := u_known (C := RX2) (T := TX2) (N := 10) hts kWs0_ok.2.2 (hts _ kIn2_ok.2.2.2.2.2.2.2.1)
  obtain ⟨cI, kI, nI9, e1, e2, e3⟩ := Cond.arrayClass_spec (hts _ kIn_ok.2.2.2.2.2.1)
  obtain ⟨cJ, kJ9, nJ9, f1, f2, f3⟩ := Cond.arrayClass_spec (hts _ kIn_ok.2.2.2.2.2.2)
  refine ⟨(fun c => match c with | 0 => c0 | 1 => c1 | _ => c2, fun c => match c with | 0 => i0 | 1 => i1 | _ => i2), cI, cJ, fun c q hq => ?_, fun k q hk => ?_⟩
  · match c, hq with
    | 0, hq => cases hq; exact h0
    | 1, hq => cases hq; exact h1
    | 2, hq => cases hq; exact h2
    | (n + 3), hq => cases hq
  · match k, hk with
    | 0, hk => cases hk; exact ⟨fun n z => ⟨fun k h => (by cases h), kI, e2, nI9, e3⟩, e1⟩
    | 1, hk => cases hk; exact ⟨fun n z => ⟨fun k h => (by cases h), kJ9, f2, nJ9, f3⟩, f1⟩
    | (n + 2), hk => cases hk
end EN
end
section
/-! the law's start: its world -/
set_option maxRecDepth 100000 in
theorem kIn3_ok : Cond.classLink RL 8 RX1 ∈ kG ∧ Cond.classLink RL 65 RX2 ∈ kG ∧ Cond.methodLink RL 64 yX1_init ∈ kG ∧ Cond.methodLink RL 67 yX2_init ∈ kG := by decide +kernel
def M0 : kMem := fun k j => match k with
  | 0 => if j = 0 then nI 1 else if j = 1 then -1 else nI 0
  | 2 => hd0 22 j
  | 3 => hd0 22 j
  | 4 => hd0 22 j
  | 9 => if j = 1 then -1 else 0
  | 11 => ho0 4 j
  | 12 => ho0 4 j
  | 13 => ho0 4 j
  | _ => 0
theorem HR0 : HR (hd0 22) (ho0 4) := by
  refine ⟨0, fun k hk => ⟨fun h => ?_, fun h => ?_⟩, Nat.zero_le _, rfl, fun v hv => absurd hv (Nat.not_lt_zero v), 0, Nat.zero_le _, fun i hi => absurd hi (Nat.not_lt_zero i), fun i _ hi => ?_⟩
  · obtain ⟨h1, h2, -⟩ := h
    refine ⟨?_, fun _ => ?_⟩
    · unfold hd0
      rw [if_pos ⟨h1, by omega⟩]
    · unfold ho0
      rw [if_neg (by omega)]
      rfl
  · have h9 : ¬ (2 ≤ k ∧ k < 20) := fun z => h ⟨z.1, z.2, Nat.zero_le _⟩
    unfold hd0 ho0
    by_cases h20 : 20 ≤ k
    · rw [if_pos ⟨by omega, by omega⟩, if_pos ⟨h20, by omega⟩]
    · rw [if_neg (by omega), if_neg (by omega)]
  · unfold hd0
    rw [if_pos ⟨by omega, by omega⟩]
theorem R0 : R M0 M0 := ⟨Or.inl ⟨rfl, rfl⟩, rfl, rfl, rfl, rfl, rfl, HR0, HR0, HR0⟩
abbrev ad0 (a b q1 q2 q3 f h1 h2 h3 a2 b2 p1 p2 p3 f2 o sc : Nat) : Nat → Nat := fun k => ([a, b, q1, q2, q3, f, h1, h2, h3, a2, b2, p1, p2, p3, f2, o, sc] : List Nat).getD k 0
abbrev sW (cI cJ : ClassId) (a b q1 q2 q3 f h1 h2 h3 a2 b2 p1 p2 p3 f2 o : Nat) : va_W := gW1 cI a b h1 h2 h3 q1 q2 q3 f ++ mW1 cI a2 b2 p1 p2 p3 f2 (ho0 4) (ho0 4) (ho0 4) ++ [(o, .inl (cJ, 1, .inr (.inl (fun _ => 0))))]
theorem kW_inj {ad : Nat → Nat} {cI cJ : ClassId} {o : Int64} {M : kMem} {A : Nat → Prop} (h : va_D A (kW ad cI cJ o M)) : kInj ad ∧ ∀ k, k < 16 → A (ad k) := by
  have key : ∀ k, k < 16 → ∃ x, (kW ad cI cJ o M)[k]? = some (ad k, x) := fun k hk => by
    have h1 : (kaw cI cJ o M)[k]? = some ((kaw cI cJ o M)[k]'hk) := List.getElem?_eq_getElem hk
    exact ⟨_, kW_at h1⟩
  refine ⟨fun i j hi hj e => ?_, fun k hk => ?_⟩
  · obtain ⟨x, h1⟩ := key i hi
    obtain ⟨y, h2⟩ := key j hj
    exact h.1 i j _ _ h1 h2 e
  · obtain ⟨x, h1⟩ := key k hk
    exact h.2 k _ h1
theorem sW_kW {D : va_G} {cI cJ : ClassId} {a b q1 q2 q3 f h1 h2 h3 a2 b2 p1 p2 p3 f2 o : Nat} (sc : Nat) {H : Heap} {A : Nat → Prop} (hP : va_P D vwCl (sW cI cJ a b q1 q2 q3 f h1 h2 h3 a2 b2 p1 p2 p3 f2 o) H) (hD : va_D A (sW cI cJ a b q1 q2 q3 f h1 h2 h3 a2 b2 p1 p2 p3 f2 o)) :
    va_P D vwCl (kW (ad0 a b q1 q2 q3 f h1 h2 h3 a2 b2 p1 p2 p3 f2 o sc) cI cJ 0 M0) H ∧ va_D A (kW (ad0 a b q1 q2 q3 f h1 h2 h3 a2 b2 p1 p2 p3 f2 o sc) cI cJ 0 M0) :=
  ⟨hP.sub [0, 1, 3, 5, 7, 8, 2, 4, 6, 9, 10, 11, 12, 13, 14, 15] rfl, hD.sub [0, 1, 3, 5, 7, 8, 2, 4, 6, 9, 10, 11, 12, 13, 14, 15] (by decide) rfl⟩
end
section
/-! the law's start -/
def R_law : String := "MirrorGroupLaw"
def lw_P (b : Addr) (xs : List Int32) (args : Array Value) (s : State) : Prop := args = #[.ref b] ∧ s.IntsAt b xs ∧ xs.length ≤ 4096 ∧ (Jvm.Cond.and given_1 narrow_1).before args s = true
def lw_Q (_ : Array Value) (s : State) (o : Outcome) (t : State) : Prop := o = .returned (some (.int 1)) ∧ Framed s o t [] 1051 14577
def lw_Z (below : List Frame) (a : Array Value) (s : State) : State → Prop := fun t => ∃ o, t.status = .running ∧ Ended t below o ∧ lw_Q a s o t
theorem lw_ret {p : Program} {l : Launch} {e : Env} {s : State} {m : MethodId} {below : List Frame} {meth : Method} {c : Code} {b : Nat} (hx : p.tables.exec = Jvm.exec) (hb : c.code = code) (hr : meth.sig.returnType = ret) (hlocks : meth.locks = false) {pc : Nat} {H : Heap} {ls : Array Slot} (hdg : decode code pc = .ok (.ireturn, 1)) : W p l e room_1 s m #[Value.ref b] below meth c H [] 1051 14577 (lw_Z below #[Value.ref b] s) (F0 m pc ls [.int 1]) := by
  intro T hT X
  obtain ⟨fs, hret, hrun, hended, hW, hframe⟩ := X.leave (v := some (.int 1)) (hlocks := hlocks) (fun h => by rw [hr] at h; cases h)
  have hmeth' : T.vm.method? m = some meth := X.method'
  refine ⟨T.setFrames fs, ?_, .returned (some (.int 1)), hrun, hended, rfl, ⟨_, rfl⟩, hW, hframe⟩
  jvm_step X.here [X.here.top, hx, hb, hdg, hmeth', hr, ret, narrow_b1]
  (try refine ⟨rfl, ?_⟩); (try refine ⟨rfl, ?_⟩)
  first | (intro acts; rw [hret _ acts rfl rfl rfl]) | rw [hret _ _ rfl rfl rfl]
  exact Steps.refl _
def lw_At (p : Program) (s : State) (m : MethodId) (meth : Method) (c : Code) (b L : Nat) (xs : Nat → Int32) : Prop :=
  p.tables.exec = Jvm.exec ∧ c.code = code ∧ meth.sig.returnType = ret ∧ c.maxLocals = 7 ∧ s.vm.findClass R_law = some m.cls ∧ (∀ w ∈ lw_tbl, w.before #[Value.ref b] s = true) ∧ va_X b L xs s s.heap ∧ b < s.heap.size ∧ meth.locks = false ∧ (Jvm.Cond.and given_1 narrow_1).before #[Value.ref b] s = true
set_option maxHeartbeats 8000000 in
set_option maxRecDepth 100000 in
theorem whole_start {p : Program} {e : Env} {s : State} {m : MethodId} {below : List Frame} {meth : Method} {c : Code} (l : Launch) (hst : l.stackTraces = false) {b L : Nat} {xs : Nat → Int32} (hL : L ≤ 4096) (C0 : lw_At p s m meth c b L xs) : W p l e room_1 s m #[Value.ref b] below meth c s.heap [] 0 0 (lw_Z below #[Value.ref b] s) (entryFrame m ([Value.ref b] : List Value).toArray 7) := by
  obtain ⟨hx, hb, hr, hml, hown, hts0, hX, hbl, hlocks, hgv⟩ := C0
  have hb : c.code = cL_law := hb
  have hown : s.vm.findClass RL = some m.cls := hown
  have hts : ∀ w ∈ kG, w.before #[Value.ref b] s = true := fun w hw => hts0 w (List.mem_filter.mp hw).1
  have hA : ∀ q : Nat, s.heap.size ≤ q → (fun q : Nat => s.heap.size ≤ q) q := fun _ h => h
  obtain ⟨D, cI, cJ, hK⟩ := va_K_of hts
  have hS : va_S (fun q : Nat => s.heap.size ≤ q) s.heap s.heap [] := va_S.rf
  have hP : va_P D vwCl [] s.heap := fun k q h => by simp at h
  have hD : va_D (fun q : Nat => s.heap.size ≤ q) [] := ⟨fun i j p q h => by simp at h, fun k q h => by simp at h⟩
  have hl := lv_entry ([.ref b]) (n := 7) (Nat.le_of_ble_eq_true rfl)
  rw [lg_entry_eq]
  generalize (lg_sl ([.ref b]) ++ List.replicate (7 - (lg_sl ([.ref b])).length) Slot.unset).toArray = ls at hl ⊢
  have hl : lv_has ls 7 [(0, .ref b)] := hl
  refine va_new (ci := 1) (fs := [.null, .null, .null, .null, .null, .int 0, .int 0, .int 0, .int 0]) (C := RX1) (T := TX1) (N := 9) hx hb hts kWs0_ok.2.1 tyX1 tyX1_ok hown (hts _ kIn3_ok.1) (hts _ kIn2_ok.2.2.2.2.2.2.1) (hts _ kIn2_ok.2.2.2.2.2.2.2.2.1) hK hP hD hS hA rfl (fun j hj => by rcases (show j = 0 ∨ j = 1 ∨ j = 2 ∨ j = 3 ∨ j = 4 ∨ j = 5 ∨ j = 6 ∨ j = 7 ∨ j = 8 by omega) with rfl | rfl | rfl | rfl | rfl | rfl | rfl | rfl | rfl <;> rfl) (Nat.le_of_ble_eq_true rfl) (Nat.le_of_ble_eq_true rfl) dL_law_0 (fun a H hP hD hS => ?_)
  have hP : va_P D vwCl (gW0 a) H := hP
  have hD : va_D (fun q : Nat => s.heap.size ≤ q) (gW0 a) := hD
  refine lv_dup hx hb dL_law_3 rfl ?_
  have hFc := va_free (wc := gW0 a) hD hS hA [0] rfl
  refine va_callv (va_runI (As := []) (rest := [.ref a]) ⟨hx, hb, hml, hown, hts⟩ (c_Grp l D cI cJ a H.size) (cwI 0 hts wG_in rfl rfl rfl (hts _ kIn2_ok.2.2.2.2.2.2.2.2.1) (hts _ kIn3_ok.2.2.1) (hts _ kIn2_ok.2.2.2.2.2.2.2.2.2.2.2.2.1) rfl (by decide +kernel) ⟨Nat.le_of_ble_eq_true rfl, Nat.le_of_ble_eq_true rfl⟩) ⟨fun a U g mk q => by obtain ⟨q0, q1, qP, qK, qD⟩ := q; exact ⟨q0, q1, qP, va_K.moved (u := U) (U := U.calling g mk a) (Vm.Alike.refl U.vm) qK, qD⟩, fun U hU hW => ⟨rfl, by rw [hU], by rw [hU]; exact hP, va_K.moved hW.alike hK, hD.weaken (fun _ _ _ _ => trivial)⟩⟩ rfl rfl hl.1 rfl (lv_room (Nat.le_of_ble_eq_true rfl)) dL_law_4 ⟨Nat.le_of_ble_eq_true rfl, Nat.le_of_ble_eq_true rfl⟩) hS (fun q _ h => hFc q h) hFc (fun u t H1 locs ht hvm hw hB hz1 hk1 hS => ?_)
  obtain ⟨b1, h1, q1, h2, q2, h3, q3, f, hP1, hK1, hD1⟩ := hB
  rw [ht] at hP1
  obtain ⟨hP, hD⟩ := va_join (wr := []) (w1 := gW1 cI a b1 h1 h2 h3 q1 q2 q3 f) hP hD [0] [] rfl rfl (by decide) (by decide) hk1 hFc hP1 hD1
  generalize H1 = H at hP hS ⊢
  have hP : va_P D vwCl (gW1 cI a b1 h1 h2 h3 q1 q2 q3 f) H := hP
  have hD : va_D (fun q : Nat => s.heap.size ≤ q) (gW1 cI a b1 h1 h2 h3 q1 q2 q3 f) := hD
  refine W.widen (k := 9) (n := 3160) (Nat.le_of_ble_eq_true rfl) (Nat.le_of_ble_eq_true rfl) ?_
  refine lv_astore_n (lv' := [(1, .ref a), (0, .ref b)]) hx hb dL_law_7 rfl hl (by decide) rfl (fun ls hl => ?_)
  refine va_new (ci := 2) (fs := [.int 0, .null, .null, .null, .null, .int 0, .int 0, .int 0, .int 0, .null]) (C := RX2) (T := TX2) (N := 10) hx hb hts kWs0_ok.2.2 tyX2 tyX2_ok hown (hts _ kIn3_ok.2.1) (hts _ kIn2_ok.2.2.2.2.2.2.2.1) (hts _ kIn2_ok.2.2.2.2.2.2.2.2.2.1) hK hP hD hS hA rfl (fun j hj => by rcases (show j = 0 ∨ j = 1 ∨ j = 2 ∨ j = 3 ∨ j = 4 ∨ j = 5 ∨ j = 6 ∨ j = 7 ∨ j = 8 ∨ j = 9 by omega) with rfl | rfl | rfl | rfl | rfl | rfl | rfl | rfl | rfl | rfl <;> rfl) (Nat.le_of_ble_eq_true rfl) (Nat.le_of_ble_eq_true rfl) dL_law_8 (fun a2 H hP hD hS => ?_)
  have hP : va_P D vwCl (gW1 cI a b1 h1 h2 h3 q1 q2 q3 f ++ mW0 a2) H := hP
  have hD : va_D (fun q : Nat => s.heap.size ≤ q) (gW1 cI a b1 h1 h2 h3 q1 q2 q3 f ++ mW0 a2) := hD
  refine lv_dup hx hb dL_law_11 rfl ?_
  have hPc := hP.sub (ws' := mW0 a2) [9] rfl
  have hDc := hD.sub (ws' := mW0 a2) [9] (by decide) rfl
  have hFc := va_free (wc := mW0 a2) hD hS hA [9] rfl
  refine va_callv (va_runI (As := []) (rest := [.ref a2]) ⟨hx, hb, hml, hown, hts⟩ (c_Mdl l D cI cJ a2 H.size) (cwI 0 hts wM_in rfl rfl rfl (hts _ kIn2_ok.2.2.2.2.2.2.2.2.2.1) (hts _ kIn3_ok.2.2.2) (hts _ kIn2_ok.2.2.2.2.2.2.2.2.2.2.2.2.2) rfl (by decide +kernel) ⟨Nat.le_of_ble_eq_true rfl, Nat.le_of_ble_eq_true rfl⟩) ⟨fun a U g mk q => by obtain ⟨q0, q1, qP, qK, qD⟩ := q; exact ⟨q0, q1, qP, va_K.moved (u := U) (U := U.calling g mk a) (Vm.Alike.refl U.vm) qK, qD⟩, fun U hU hW => ⟨rfl, by rw [hU], by rw [hU]; exact hPc, va_K.moved hW.alike hK, hDc.weaken (fun _ _ _ _ => trivial)⟩⟩ rfl rfl hl.1 rfl (lv_room (Nat.le_of_ble_eq_true rfl)) dL_law_12 ⟨Nat.le_of_ble_eq_true rfl, Nat.le_of_ble_eq_true rfl⟩) hS (fun q _ h => hFc q h) hFc (fun u t H1 locs ht hvm hw hB hz1 hk1 hS => ?_)
  obtain ⟨b2, p1, p2, p3, f2, hP1, hK1, hD1⟩ := hB
  rw [ht] at hP1
  obtain ⟨hP, hD⟩ := va_join (wr := gW1 cI a b1 h1 h2 h3 q1 q2 q3 f) (w1 := mW1 cI a2 b2 p1 p2 p3 f2 (ho0 4) (ho0 4) (ho0 4)) hP hD [9] [0, 1, 2, 3, 4, 5, 6, 7, 8] rfl rfl (by decide) (by decide) hk1 hFc hP1 hD1
  generalize H1 = H at hP hS ⊢
  refine W.widen (k := 15) (n := 6318) (Nat.le_of_ble_eq_true rfl) (Nat.le_of_ble_eq_true rfl) ?_
  refine lv_astore_n (lv' := [(2, .ref a2), (1, .ref a), (0, .ref b)]) hx hb dL_law_15 rfl hl (by decide) rfl (fun ls hl => ?_)
  refine lv_iconst (v := nI 1) hx hb dL_law_16 (by decide) ?_
  refine va_newa (atype := .long) (n := nI 1) (N' := 1) (a0 := (1, .inr (.inl (fun _ => 0)))) hx hb (hts _ kIn_ok.2.2.2.2.2.2) rfl hK hP hD hS hA (fun _ => rfl) (by decide) (by decide) (by decide) (Nat.le_of_ble_eq_true rfl) (Nat.le_of_ble_eq_true rfl) dL_law_17 (fun o cB H hK2 hP hD hS => ?_)
  have eB : cB = cJ := by
    have e1 : s.vm.findClass ("[" ++ FieldType.long.toString) = some cB := (hK2.2 2 _ rfl).2
    have e2 : s.vm.findClass ("[" ++ FieldType.long.toString) = some cJ := (hK2.2 1 _ rfl).2
    exact Option.some.inj (e1.symm.trans e2)
  subst eB
  refine lv_astore_n (lv' := [(3, .ref o), (2, .ref a2), (1, .ref a), (0, .ref b)]) hx hb dL_law_19 rfl hl (by decide) rfl (fun ls hl => ?_)
  refine lv_iconst (v := nI 0) hx hb dL_law_20 (by decide) ?_
  refine lv_istore (lv' := [(4, .int (nI 0)), (3, .ref o), (2, .ref a2), (1, .ref a), (0, .ref b)]) hx hb dL_law_21 hl (by decide) rfl (fun ls hl => ?_)
  obtain ⟨hP, hD⟩ := sW_kW (q1 := q1) (q2 := q2) (q3 := q3) (f := f) (h1 := h1) (h2 := h2) (h3 := h3) (a := a) (b := b1) (a2 := a2) (b2 := b2) (p1 := p1) (p2 := p2) (p3 := p3) (f2 := f2) (o := o) b hP hD
  have had : ad0 a b1 q1 q2 q3 f h1 h2 h3 a2 b2 p1 p2 p3 f2 o b 16 = b := rfl
  have hl : lv_has ls 7 ((lLv 0).map (fun q => (q.1, kv (ad0 a b1 q1 q2 q3 f h1 h2 h3 a2 b2 p1 p2 p3 f2 o b) q.2))) := lv_sub hl [4, 3, 2, 1, 0] rfl
  generalize ad0 a b1 q1 q2 q3 f h1 h2 h3 a2 b2 p1 p2 p3 f2 o b = ad at hP hD had hl
  obtain ⟨hi, hge⟩ := kW_inj hD
  have hkA : ∀ q : Nat, kA ad s.heap.size q → s.heap.size ≤ q := fun q h => h.elim (fun ⟨k, h1, h2⟩ => by rw [h2]; exact hge k h1) (fun h => h)
  have hS : va_S (kA ad s.heap.size) s.heap H locs := ⟨hS.1, fun q h1 h2 => hS.2.1 q h1 (fun z => absurd z (Nat.not_le.mpr h1)), fun q hq => Or.inr (hS.2.2 q hq)⟩
  have hz := kz_of (A := kA ad s.heap.size) hgv hts0 (fun q h1 h2 => absurd (hkA q h2) (Nat.not_le.mpr h1))
  have C : yCx cL_law 7 7 600 16 6319 p l room_1 s m #[Value.ref b] c D ad cI cB := ⟨hx, hb, hml, hown, hts, hK, hz, hst, hi, Nat.le_of_ble_eq_true rfl, Nat.le_of_ble_eq_true rfl, Nat.le_of_ble_eq_true rfl, Nat.le_of_ble_eq_true rfl⟩
  have hScr : yScr s ad L true xs := fun _ => by rw [had]; exact ⟨hX, hbl, fun z => absurd (hkA b z) (Nat.not_le.mpr hbl)⟩
  refine law_loop (L := L) (xs := xs) C (kAs_of hgv hts0) hScr hL ?_ 512 0 0 M0 0 R0 (Nat.zero_le _) (Nat.zero_le _) (by omega) H locs ls hP hS hl
  rintro v M o n pc ls H locs ⟨rfl, hn⟩ hdg hP hS
  refine va_forget (fun q hq => hkA q.base (hS.2.2 q hq)) ?_
  refine W.widen (k := 1051) (n := 14577) (by omega) (by omega) ?_
  exact lw_ret hx hb hr hlocks hdg
end
section
/-! the claim -/
set_option maxHeartbeats 4000000 in
theorem lw_walk (l : Launch) (hst : l.stackTraces = false) (b : Addr) (xs : List Int32) : MetFree l x (headSpec (Jvm.Cond.code x code maxLocals ret :: tables_1) room_1) (lw_P b xs) (fun _ _ _ _ _ => True) lw_Q := by
  refine MetFree.of_bodyS (code := code) (maxLocals := maxLocals) (ret := ret) (by decide) ?_ ?_
  · intro args s m h hn
    obtain ⟨meth, c, h1, h2, h3, h4, h5, h6, -, -⟩ := Cond.code_spec hn (atoms_spec (ws := Jvm.Cond.code x code maxLocals ret :: tables_1) h _ List.mem_cons_self)
    exact ⟨meth, c, h1, h2, h3, h4, h5, h6⟩
  · intro p e s m args below meth c s₁ B hml0 hP _
    obtain ⟨rfl, hx, hbd, hgv⟩ := hP
    obtain ⟨scr, harrAt, hlist, hof, hsmall⟩ := hx
    obtain ⟨hcb, hkn, -, -⟩ := State.arrayAt?_spec harrAt
    have hown : s.vm.findClass R_law = some m.cls := findClass_of_methodNamed B.named
    have hts0 : ∀ c ∈ (Jvm.Cond.code x code maxLocals ret :: tables_1), c.before #[Value.ref b] s = true := atoms_spec (ws := Jvm.Cond.code x code maxLocals ret :: tables_1) B.pre
    have hts : ∀ w ∈ lw_tbl, w.before #[Value.ref b] s = true := k2_hts_sels lw_privs (fun w hw => hts0 w (List.mem_cons_of_mem _ hw)) lw_privs_ok
    have hml : c.maxLocals = 7 := B.maxLocals_eq (hts0 _ List.mem_cons_self)
    have X₀ : Stand p l e room_1 s m #[Value.ref b] below meth c s₁ [] 0 0 := Stand.of_body B
    have hh0 : s₁.heap = s.heap := by rw [B.state]; rfl
    have hsz : scr.slots.size = xs.length := by rw [← Array.length_toList, hlist, List.length_map]
    have hval : ∀ j : Nat, j < xs.length → scr.slots[j]? = some (.int (xs.getD j 0)) := fun j hj => by
      rw [← Array.getElem?_toList, hlist]
      simp [hj]
    have hbl : b < s.heap.size := (Array.getElem?_eq_some_iff.mp hcb).1
    have hX : va_X b xs.length (fun j => xs.getD j 0) s s.heap := ⟨scr, hcb, hof, hkn, hsz, hval⟩
    have K : W p l e room_1 s m #[Value.ref b] below meth c s₁.heap [] 0 0 (lw_Z below #[Value.ref b] s) (entryFrame m ([Value.ref b] : List Value).toArray 7) := by
      rw [hh0]
      exact whole_start l hst hbd ⟨B.exec, B.bytes, B.returns, hml, hown, hts, hX, hbl, B.notSynchronized, hgv⟩
    obtain ⟨t, a1, o, b1, b2, b3⟩ := K s₁ rfl X₀
    exact ⟨t, o, a1, b1, b2, b3⟩
theorem lw_pre_spec {args : Array Value} {s : State} (h : (Jvm.Cond.and given_1 narrow_1).before args s = true) (hr : rest_1_c.before args s = true) : ∃ (b : Addr) (xs : List Int32), lw_P b xs args s := by
  have hs := flat_of_before _ h
  have hq := flat_of_before _ hr
  have hc : (Cond.count 1).before args s = true := hs _ (by decide +kernel)
  have harr : (Cond.arrayOf (.arg 0) .int).before args s = true := hs _ (by decide +kernel)
  have hle : (Cond.le (.length (.arg 0)) (.int 4096)).before args s = true := hs _ (by decide +kernel)
  have hlen : (Cond.isInt (.length (.arg 0))).before args s = true := hq _ (by decide +kernel)
  have hall : (Cond.all (.arg 0) (.isInt (.elem (.arg 0) (.index 0)))).before args s = true := hq _ (by decide +kernel)
  obtain ⟨b, xs, hb, hx⟩ := State.ints_of_pre rfl harr hlen hall
  have hsm : xs.length < 2 ^ 31 := hx.choose_spec.2.2.2
  have hev : (Term.length (.arg 0)).eval args s none [] s = some (.int xs.length.toInt32) := hx.length_eval hb
  have hv := Cond.le_ints hev (show (Term.int 4096).eval args s none [] s = some (.int 4096) from rfl)
  have hd : xs.length.toInt32 ≤ 4096 := by
    simpa [Cond.before, Cond.holds, hv] using hle
  have hN : xs.length ≤ 4096 := (Int32.ofNat_le_ofNat hsm (by decide)).mp (show Int32.ofNat xs.length ≤ Int32.ofNat 4096 from hd)
  exact ⟨b, xs, Cond.one_arg hc (show args[0]? = some (.ref b) from hb), hx, hN, h⟩
theorem lw_comes (l : Launch) (hst : l.stackTraces = false) : Comes l x (Jvm.Cond.code x code maxLocals ret :: tables_1) room_1 (fun tb e args s => Calls_1 tb e args s ∧ rest_1 tb e args s ∧ Pre_1 tb e args s)
    (fun _ _ args s o t => lw_Q args s o t) := by
  intro p e ha hc hk s m args below hf hfit hheap happ hpre
  obtain ⟨b, xs, hP⟩ := lw_pre_spec hpre.2.2 hpre.2.1
  obtain ⟨k, o, h1, h2, h3, hQ⟩ := lw_walk l hst b xs p e ha hc hk s m args below hf ((Spec.applies_iff_loose hf).mp happ).1 hP trivial
  exact ⟨k, o, h1, h2, h3, hQ⟩
theorem lw_frame {s t : State} {o : Outcome} {args : Array Value} (h : Framed s o t [] 1051 14577) :
    Framed s o t (fieldLocs frame_1_writes args s ++ arrayLocs frame_1_arrays args s ++ staticLocs frame_1_statics s) 1051 14577 := h
theorem lw_limb (L : Cond) (hL : ∀ (args : Array Value) (s t : State), L.after args s (.returned (some (.int 1))) t = true) :
    ArmFor flags0 classFile x code maxLocals ret World_1 tables_1 room_1 Calls_1 rest_1 Pre_1
      (fun tb e a s o t => postC L tb e a s o t ∧ Framed s o t (fieldLocs frame_1_writes a s ++ arrayLocs frame_1_arrays a s ++ staticLocs frame_1_statics s) 1051 14577) := by
  intro l hfl _ _ p e ha hc hk s m args below hf hfit hheap happ hpre
  obtain ⟨k, o, h1, h2, h3, rfl, hF⟩ := lw_comes l (by unfold Launch.stackTraces; rw [hfl]; decide) p e ha hc hk s m args below hf hfit hheap happ hpre
  exact ⟨k, _, h1, h2, h3, hL args s _, lw_frame hF⟩
theorem i_vc : Claimed_1_1 ∧ Claimed_1_2 := ⟨lw_limb limb_1_1 (fun args s t => by simp [limb_1_1, Cond.after, Cond.holds, Cond.value]), lw_limb limb_1_2 (fun args s t => Cond.after_iff.mpr (by
  first | (rw [show limb_1_2 = Cond.eq .result (.int 1) from rfl, Cond.eq_ints (x := 1) (y := 1) rfl rfl]; simp; done) | (simp [limb_1_2, Cond.value, Term.eval]; done)))⟩
end
section
theorem zz_last : True := trivial
end
