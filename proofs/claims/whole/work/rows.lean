section
-- ===== PART A: goes FIRST, ahead of the names: the tables' words, and 'selects' of the private methods out of them =====
/-- a private method of a class that the tables say can be made, by its rows of tables_1 -/
def lw_okq (q : MethodName × Nat) : Prop := (q.1.cls ≠ "java/lang/invoke/MethodHandle" ∧ q.1.cls ≠ "java/lang/invoke/VarHandle") ∧ Cond.instantiable q.1.cls q.2 ∈ tables_1 ∧ Cond.privateMethod q.1 ∈ tables_1 ∧ Cond.instanceMethod q.1 ∈ tables_1
theorem lw_p0 : lw_okq (⟨"StripDies", "sheetAt", "(I)LStripDies$Sheet;"⟩, 16) := ⟨⟨by decide +kernel, by decide +kernel⟩, List.mem_of_getElem? (i := 16) (by decide +kernel), List.mem_of_getElem? (i := 211) (by decide +kernel), List.mem_of_getElem? (i := 212) (by decide +kernel)⟩
theorem lw_p1 : lw_okq (⟨"StripDies", "faulted", "(I)I"⟩, 16) := ⟨⟨by decide +kernel, by decide +kernel⟩, List.mem_of_getElem? (i := 16) (by decide +kernel), List.mem_of_getElem? (i := 226) (by decide +kernel), List.mem_of_getElem? (i := 227) (by decide +kernel)⟩
theorem lw_p2 : lw_okq (⟨"StripDies", "addShape", "(J)I"⟩, 16) := ⟨⟨by decide +kernel, by decide +kernel⟩, List.mem_of_getElem? (i := 16) (by decide +kernel), List.mem_of_getElem? (i := 234) (by decide +kernel), List.mem_of_getElem? (i := 235) (by decide +kernel)⟩
theorem lw_p3 : lw_okq (⟨"StripDies", "shapeAt", "(I)LStripDies$Shape;"⟩, 16) := ⟨⟨by decide +kernel, by decide +kernel⟩, List.mem_of_getElem? (i := 16) (by decide +kernel), List.mem_of_getElem? (i := 275) (by decide +kernel), List.mem_of_getElem? (i := 276) (by decide +kernel)⟩
theorem lw_p4 : lw_okq (⟨"StripDies$Shape", "turnedOver", "()J"⟩, 3) := ⟨⟨by decide +kernel, by decide +kernel⟩, List.mem_of_getElem? (i := 237) (by decide +kernel), List.mem_of_getElem? (i := 283) (by decide +kernel), List.mem_of_getElem? (i := 284) (by decide +kernel)⟩
theorem lw_p5 : lw_okq (⟨"StripDies$Shape", "pieceFrom", "(J)J"⟩, 3) := ⟨⟨by decide +kernel, by decide +kernel⟩, List.mem_of_getElem? (i := 237) (by decide +kernel), List.mem_of_getElem? (i := 317) (by decide +kernel), List.mem_of_getElem? (i := 318) (by decide +kernel)⟩
theorem lw_p6 : lw_okq (⟨"StripDies", "changeWeb", "(I)I"⟩, 16) := ⟨⟨by decide +kernel, by decide +kernel⟩, List.mem_of_getElem? (i := 16) (by decide +kernel), List.mem_of_getElem? (i := 335) (by decide +kernel), List.mem_of_getElem? (i := 336) (by decide +kernel)⟩
theorem lw_p7 : lw_okq (⟨"StripDies", "changeMargin", "(I)I"⟩, 16) := ⟨⟨by decide +kernel, by decide +kernel⟩, List.mem_of_getElem? (i := 16) (by decide +kernel), List.mem_of_getElem? (i := 343) (by decide +kernel), List.mem_of_getElem? (i := 344) (by decide +kernel)⟩
theorem lw_p8 : lw_okq (⟨"StripDies", "changeWall", "(I)I"⟩, 16) := ⟨⟨by decide +kernel, by decide +kernel⟩, List.mem_of_getElem? (i := 16) (by decide +kernel), List.mem_of_getElem? (i := 347) (by decide +kernel), List.mem_of_getElem? (i := 348) (by decide +kernel)⟩
theorem lw_p9 : lw_okq (⟨"StripDies$Layout", "bestShift", "(JJII)I"⟩, 3) := ⟨⟨by decide +kernel, by decide +kernel⟩, List.mem_of_getElem? (i := 42) (by decide +kernel), List.mem_of_getElem? (i := 416) (by decide +kernel), List.mem_of_getElem? (i := 417) (by decide +kernel)⟩
theorem lw_p10 : lw_okq (⟨"StripDies", "isPunch", "(I)Z"⟩, 16) := ⟨⟨by decide +kernel, by decide +kernel⟩, List.mem_of_getElem? (i := 16) (by decide +kernel), List.mem_of_getElem? (i := 461) (by decide +kernel), List.mem_of_getElem? (i := 462) (by decide +kernel)⟩
theorem lw_p11 : lw_okq (⟨"StripDies", "punchAt", "(I)LStripDies$Punch;"⟩, 16) := ⟨⟨by decide +kernel, by decide +kernel⟩, List.mem_of_getElem? (i := 16) (by decide +kernel), List.mem_of_getElem? (i := 489) (by decide +kernel), List.mem_of_getElem? (i := 490) (by decide +kernel)⟩
theorem lw_p12 : lw_okq (⟨"StripDies", "areWalled", "(LStripDies$Punch;LStripDies$Punch;)Z"⟩, 16) := ⟨⟨by decide +kernel, by decide +kernel⟩, List.mem_of_getElem? (i := 16) (by decide +kernel), List.mem_of_getElem? (i := 494) (by decide +kernel), List.mem_of_getElem? (i := 495) (by decide +kernel)⟩
theorem lw_p13 : lw_okq (⟨"StripDies", "refreshPlan", "()V"⟩, 16) := ⟨⟨by decide +kernel, by decide +kernel⟩, List.mem_of_getElem? (i := 16) (by decide +kernel), List.mem_of_getElem? (i := 508) (by decide +kernel), List.mem_of_getElem? (i := 509) (by decide +kernel)⟩
theorem lw_p14 : lw_okq (⟨"StripDies", "fittingTo", "(I)I"⟩, 16) := ⟨⟨by decide +kernel, by decide +kernel⟩, List.mem_of_getElem? (i := 16) (by decide +kernel), List.mem_of_getElem? (i := 512) (by decide +kernel), List.mem_of_getElem? (i := 513) (by decide +kernel)⟩
theorem lw_p15 : lw_okq (⟨"StripDies$Plan", "findJoins", "(I)V"⟩, 8) := ⟨⟨by decide +kernel, by decide +kernel⟩, List.mem_of_getElem? (i := 72) (by decide +kernel), List.mem_of_getElem? (i := 520) (by decide +kernel), List.mem_of_getElem? (i := 521) (by decide +kernel)⟩
def lw_privs_1 : List (MethodName × Nat) := [(⟨"StripDies", "sheetAt", "(I)LStripDies$Sheet;"⟩, 16), (⟨"StripDies", "faulted", "(I)I"⟩, 16), (⟨"StripDies", "addShape", "(J)I"⟩, 16), (⟨"StripDies", "shapeAt", "(I)LStripDies$Shape;"⟩, 16), (⟨"StripDies$Shape", "turnedOver", "()J"⟩, 3), (⟨"StripDies$Shape", "pieceFrom", "(J)J"⟩, 3), (⟨"StripDies", "changeWeb", "(I)I"⟩, 16), (⟨"StripDies", "changeMargin", "(I)I"⟩, 16), (⟨"StripDies", "changeWall", "(I)I"⟩, 16), (⟨"StripDies$Layout", "bestShift", "(JJII)I"⟩, 3), (⟨"StripDies", "isPunch", "(I)Z"⟩, 16), (⟨"StripDies", "punchAt", "(I)LStripDies$Punch;"⟩, 16), (⟨"StripDies", "areWalled", "(LStripDies$Punch;LStripDies$Punch;)Z"⟩, 16), (⟨"StripDies", "refreshPlan", "()V"⟩, 16), (⟨"StripDies", "fittingTo", "(I)I"⟩, 16), (⟨"StripDies$Plan", "findJoins", "(I)V"⟩, 8)]
theorem lw_r1 : ∀ q ∈ lw_privs_1, lw_okq q := List.forall_mem_cons.mpr ⟨lw_p0, List.forall_mem_cons.mpr ⟨lw_p1, List.forall_mem_cons.mpr ⟨lw_p2, List.forall_mem_cons.mpr ⟨lw_p3, List.forall_mem_cons.mpr ⟨lw_p4, List.forall_mem_cons.mpr ⟨lw_p5, List.forall_mem_cons.mpr ⟨lw_p6, List.forall_mem_cons.mpr ⟨lw_p7, List.forall_mem_cons.mpr ⟨lw_p8, List.forall_mem_cons.mpr ⟨lw_p9, List.forall_mem_cons.mpr ⟨lw_p10, List.forall_mem_cons.mpr ⟨lw_p11, List.forall_mem_cons.mpr ⟨lw_p12, List.forall_mem_cons.mpr ⟨lw_p13, List.forall_mem_cons.mpr ⟨lw_p14, List.forall_mem_cons.mpr ⟨lw_p15, fun _ h => absurd h List.not_mem_nil⟩⟩⟩⟩⟩⟩⟩⟩⟩⟩⟩⟩⟩⟩⟩⟩
theorem lw_p16 : lw_okq (⟨"StripDies$Plan", "addStation", "(I[I)V"⟩, 8) := ⟨⟨by decide +kernel, by decide +kernel⟩, List.mem_of_getElem? (i := 72) (by decide +kernel), List.mem_of_getElem? (i := 528) (by decide +kernel), List.mem_of_getElem? (i := 529) (by decide +kernel)⟩
theorem lw_p17 : lw_okq (⟨"StripDies$Plan", "readyAfter", "(I[I)I"⟩, 8) := ⟨⟨by decide +kernel, by decide +kernel⟩, List.mem_of_getElem? (i := 72) (by decide +kernel), List.mem_of_getElem? (i := 532) (by decide +kernel), List.mem_of_getElem? (i := 533) (by decide +kernel)⟩
theorem lw_p18 : lw_okq (⟨"StripDies$Plan", "fillStation", "(II)V"⟩, 8) := ⟨⟨by decide +kernel, by decide +kernel⟩, List.mem_of_getElem? (i := 72) (by decide +kernel), List.mem_of_getElem? (i := 536) (by decide +kernel), List.mem_of_getElem? (i := 537) (by decide +kernel)⟩
theorem lw_p19 : lw_okq (⟨"StripDies$Plan", "digitsOf", "(I)J"⟩, 8) := ⟨⟨by decide +kernel, by decide +kernel⟩, List.mem_of_getElem? (i := 72) (by decide +kernel), List.mem_of_getElem? (i := 540) (by decide +kernel), List.mem_of_getElem? (i := 541) (by decide +kernel)⟩
theorem lw_p20 : lw_okq (⟨"StripDies$Press", "spread", "(III)V"⟩, 6) := ⟨⟨by decide +kernel, by decide +kernel⟩, List.mem_of_getElem? (i := 106) (by decide +kernel), List.mem_of_getElem? (i := 591) (by decide +kernel), List.mem_of_getElem? (i := 592) (by decide +kernel)⟩
theorem lw_p21 : lw_okq (⟨"StripDies$Press", "hasTwin", "(I)Z"⟩, 6) := ⟨⟨by decide +kernel, by decide +kernel⟩, List.mem_of_getElem? (i := 106) (by decide +kernel), List.mem_of_getElem? (i := 595) (by decide +kernel), List.mem_of_getElem? (i := 596) (by decide +kernel)⟩
theorem lw_p22 : lw_okq (⟨"StripDies$Coil", "priceWith", "(IIJ)J"⟩, 1) := ⟨⟨by decide +kernel, by decide +kernel⟩, List.mem_of_getElem? (i := 131) (by decide +kernel), List.mem_of_getElem? (i := 612) (by decide +kernel), List.mem_of_getElem? (i := 613) (by decide +kernel)⟩
theorem lw_p23 : lw_okq (⟨"StripDies", "bendTells", "(LStripDies$Punch;)I"⟩, 16) := ⟨⟨by decide +kernel, by decide +kernel⟩, List.mem_of_getElem? (i := 16) (by decide +kernel), List.mem_of_getElem? (i := 660) (by decide +kernel), List.mem_of_getElem? (i := 661) (by decide +kernel)⟩
theorem lw_p24 : lw_okq (⟨"StripDies", "leave", "(I)V"⟩, 16) := ⟨⟨by decide +kernel, by decide +kernel⟩, List.mem_of_getElem? (i := 16) (by decide +kernel), List.mem_of_getElem? (i := 664) (by decide +kernel), List.mem_of_getElem? (i := 665) (by decide +kernel)⟩
theorem lw_p25 : lw_okq (⟨"StripDies", "pilotTells", "(LStripDies$Punch;)I"⟩, 16) := ⟨⟨by decide +kernel, by decide +kernel⟩, List.mem_of_getElem? (i := 16) (by decide +kernel), List.mem_of_getElem? (i := 668) (by decide +kernel), List.mem_of_getElem? (i := 669) (by decide +kernel)⟩
theorem lw_p26 : lw_okq (⟨"StripDies", "cutTells", "(LStripDies$Punch;)I"⟩, 16) := ⟨⟨by decide +kernel, by decide +kernel⟩, List.mem_of_getElem? (i := 16) (by decide +kernel), List.mem_of_getElem? (i := 672) (by decide +kernel), List.mem_of_getElem? (i := 673) (by decide +kernel)⟩
theorem lw_p27 : lw_okq (⟨"StripDies", "bendKeeps", "()I"⟩, 16) := ⟨⟨by decide +kernel, by decide +kernel⟩, List.mem_of_getElem? (i := 16) (by decide +kernel), List.mem_of_getElem? (i := 680) (by decide +kernel), List.mem_of_getElem? (i := 681) (by decide +kernel)⟩
theorem lw_p28 : lw_okq (⟨"StripDies", "lentKeeps", "(II)I"⟩, 16) := ⟨⟨by decide +kernel, by decide +kernel⟩, List.mem_of_getElem? (i := 16) (by decide +kernel), List.mem_of_getElem? (i := 684) (by decide +kernel), List.mem_of_getElem? (i := 685) (by decide +kernel)⟩
theorem lw_p29 : lw_okq (⟨"StripDiesModel", "fails", "(I)I"⟩, 38) := ⟨⟨by decide +kernel, by decide +kernel⟩, List.mem_of_getElem? (i := 714) (by decide +kernel), List.mem_of_getElem? (i := 842) (by decide +kernel), List.mem_of_getElem? (i := 843) (by decide +kernel)⟩
theorem lw_p30 : lw_okq (⟨"StripDiesModel", "comes", "()I"⟩, 38) := ⟨⟨by decide +kernel, by decide +kernel⟩, List.mem_of_getElem? (i := 714) (by decide +kernel), List.mem_of_getElem? (i := 846) (by decide +kernel), List.mem_of_getElem? (i := 847) (by decide +kernel)⟩
theorem lw_p31 : lw_okq (⟨"StripDiesModel", "isShape", "(I)Z"⟩, 38) := ⟨⟨by decide +kernel, by decide +kernel⟩, List.mem_of_getElem? (i := 714) (by decide +kernel), List.mem_of_getElem? (i := 860) (by decide +kernel), List.mem_of_getElem? (i := 861) (by decide +kernel)⟩
def lw_privs_2 : List (MethodName × Nat) := [(⟨"StripDies$Plan", "addStation", "(I[I)V"⟩, 8), (⟨"StripDies$Plan", "readyAfter", "(I[I)I"⟩, 8), (⟨"StripDies$Plan", "fillStation", "(II)V"⟩, 8), (⟨"StripDies$Plan", "digitsOf", "(I)J"⟩, 8), (⟨"StripDies$Press", "spread", "(III)V"⟩, 6), (⟨"StripDies$Press", "hasTwin", "(I)Z"⟩, 6), (⟨"StripDies$Coil", "priceWith", "(IIJ)J"⟩, 1), (⟨"StripDies", "bendTells", "(LStripDies$Punch;)I"⟩, 16), (⟨"StripDies", "leave", "(I)V"⟩, 16), (⟨"StripDies", "pilotTells", "(LStripDies$Punch;)I"⟩, 16), (⟨"StripDies", "cutTells", "(LStripDies$Punch;)I"⟩, 16), (⟨"StripDies", "bendKeeps", "()I"⟩, 16), (⟨"StripDies", "lentKeeps", "(II)I"⟩, 16), (⟨"StripDiesModel", "fails", "(I)I"⟩, 38), (⟨"StripDiesModel", "comes", "()I"⟩, 38), (⟨"StripDiesModel", "isShape", "(I)Z"⟩, 38)]
theorem lw_r2 : ∀ q ∈ lw_privs_2, lw_okq q := List.forall_mem_cons.mpr ⟨lw_p16, List.forall_mem_cons.mpr ⟨lw_p17, List.forall_mem_cons.mpr ⟨lw_p18, List.forall_mem_cons.mpr ⟨lw_p19, List.forall_mem_cons.mpr ⟨lw_p20, List.forall_mem_cons.mpr ⟨lw_p21, List.forall_mem_cons.mpr ⟨lw_p22, List.forall_mem_cons.mpr ⟨lw_p23, List.forall_mem_cons.mpr ⟨lw_p24, List.forall_mem_cons.mpr ⟨lw_p25, List.forall_mem_cons.mpr ⟨lw_p26, List.forall_mem_cons.mpr ⟨lw_p27, List.forall_mem_cons.mpr ⟨lw_p28, List.forall_mem_cons.mpr ⟨lw_p29, List.forall_mem_cons.mpr ⟨lw_p30, List.forall_mem_cons.mpr ⟨lw_p31, fun _ h => absurd h List.not_mem_nil⟩⟩⟩⟩⟩⟩⟩⟩⟩⟩⟩⟩⟩⟩⟩⟩
theorem lw_p32 : lw_okq (⟨"StripDiesModel", "turnOf", "(II)V"⟩, 38) := ⟨⟨by decide +kernel, by decide +kernel⟩, List.mem_of_getElem? (i := 714) (by decide +kernel), List.mem_of_getElem? (i := 864) (by decide +kernel), List.mem_of_getElem? (i := 865) (by decide +kernel)⟩
theorem lw_p33 : lw_okq (⟨"StripDiesModel", "cellsOf", "(I)I"⟩, 38) := ⟨⟨by decide +kernel, by decide +kernel⟩, List.mem_of_getElem? (i := 714) (by decide +kernel), List.mem_of_getElem? (i := 875) (by decide +kernel), List.mem_of_getElem? (i := 876) (by decide +kernel)⟩
theorem lw_p34 : lw_okq (⟨"StripDiesModel", "edgeOf", "(I)I"⟩, 38) := ⟨⟨by decide +kernel, by decide +kernel⟩, List.mem_of_getElem? (i := 714) (by decide +kernel), List.mem_of_getElem? (i := 882) (by decide +kernel), List.mem_of_getElem? (i := 883) (by decide +kernel)⟩
theorem lw_p35 : lw_okq (⟨"StripDiesModel", "hasCell", "(III)Z"⟩, 38) := ⟨⟨by decide +kernel, by decide +kernel⟩, List.mem_of_getElem? (i := 714) (by decide +kernel), List.mem_of_getElem? (i := 886) (by decide +kernel), List.mem_of_getElem? (i := 887) (by decide +kernel)⟩
theorem lw_p36 : lw_okq (⟨"StripDiesModel", "piecesOf", "(I)I"⟩, 38) := ⟨⟨by decide +kernel, by decide +kernel⟩, List.mem_of_getElem? (i := 714) (by decide +kernel), List.mem_of_getElem? (i := 890) (by decide +kernel), List.mem_of_getElem? (i := 891) (by decide +kernel)⟩
theorem lw_p37 : lw_okq (⟨"StripDiesModel", "layFirst", "(I)V"⟩, 38) := ⟨⟨by decide +kernel, by decide +kernel⟩, List.mem_of_getElem? (i := 714) (by decide +kernel), List.mem_of_getElem? (i := 906) (by decide +kernel), List.mem_of_getElem? (i := 907) (by decide +kernel)⟩
theorem lw_p38 : lw_okq (⟨"StripDiesModel", "told", "(II)I"⟩, 38) := ⟨⟨by decide +kernel, by decide +kernel⟩, List.mem_of_getElem? (i := 714) (by decide +kernel), List.mem_of_getElem? (i := 913) (by decide +kernel), List.mem_of_getElem? (i := 914) (by decide +kernel)⟩
theorem lw_p39 : lw_okq (⟨"StripDiesModel", "pitchOf", "(I)I"⟩, 38) := ⟨⟨by decide +kernel, by decide +kernel⟩, List.mem_of_getElem? (i := 714) (by decide +kernel), List.mem_of_getElem? (i := 920) (by decide +kernel), List.mem_of_getElem? (i := 921) (by decide +kernel)⟩
theorem lw_p40 : lw_okq (⟨"StripDiesModel", "spreadOut", "([JI)V"⟩, 38) := ⟨⟨by decide +kernel, by decide +kernel⟩, List.mem_of_getElem? (i := 714) (by decide +kernel), List.mem_of_getElem? (i := 927) (by decide +kernel), List.mem_of_getElem? (i := 928) (by decide +kernel)⟩
theorem lw_p41 : lw_okq (⟨"StripDiesModel", "isClear", "([JI)Z"⟩, 38) := ⟨⟨by decide +kernel, by decide +kernel⟩, List.mem_of_getElem? (i := 714) (by decide +kernel), List.mem_of_getElem? (i := 931) (by decide +kernel), List.mem_of_getElem? (i := 932) (by decide +kernel)⟩
theorem lw_p42 : lw_okq (⟨"StripDiesModel", "layBoth", "(III)Z"⟩, 38) := ⟨⟨by decide +kernel, by decide +kernel⟩, List.mem_of_getElem? (i := 714) (by decide +kernel), List.mem_of_getElem? (i := 939) (by decide +kernel), List.mem_of_getElem? (i := 940) (by decide +kernel)⟩
theorem lw_p43 : lw_okq (⟨"StripDiesModel", "findBest", "(II)V"⟩, 38) := ⟨⟨by decide +kernel, by decide +kernel⟩, List.mem_of_getElem? (i := 714) (by decide +kernel), List.mem_of_getElem? (i := 947) (by decide +kernel), List.mem_of_getElem? (i := 948) (by decide +kernel)⟩
theorem lw_p44 : lw_okq (⟨"StripDiesModel", "isPunch", "(I)Z"⟩, 38) := ⟨⟨by decide +kernel, by decide +kernel⟩, List.mem_of_getElem? (i := 714) (by decide +kernel), List.mem_of_getElem? (i := 960) (by decide +kernel), List.mem_of_getElem? (i := 961) (by decide +kernel)⟩
theorem lw_p45 : lw_okq (⟨"StripDiesModel", "allAhead", "(I)I"⟩, 38) := ⟨⟨by decide +kernel, by decide +kernel⟩, List.mem_of_getElem? (i := 714) (by decide +kernel), List.mem_of_getElem? (i := 964) (by decide +kernel), List.mem_of_getElem? (i := 965) (by decide +kernel)⟩
theorem lw_p46 : lw_okq (⟨"StripDiesModel", "areTogether", "(II)Z"⟩, 38) := ⟨⟨by decide +kernel, by decide +kernel⟩, List.mem_of_getElem? (i := 714) (by decide +kernel), List.mem_of_getElem? (i := 980) (by decide +kernel), List.mem_of_getElem? (i := 981) (by decide +kernel)⟩
theorem lw_p47 : lw_okq (⟨"StripDiesModel", "isWalled", "(II)Z"⟩, 38) := ⟨⟨by decide +kernel, by decide +kernel⟩, List.mem_of_getElem? (i := 714) (by decide +kernel), List.mem_of_getElem? (i := 984) (by decide +kernel), List.mem_of_getElem? (i := 985) (by decide +kernel)⟩
def lw_privs_3 : List (MethodName × Nat) := [(⟨"StripDiesModel", "turnOf", "(II)V"⟩, 38), (⟨"StripDiesModel", "cellsOf", "(I)I"⟩, 38), (⟨"StripDiesModel", "edgeOf", "(I)I"⟩, 38), (⟨"StripDiesModel", "hasCell", "(III)Z"⟩, 38), (⟨"StripDiesModel", "piecesOf", "(I)I"⟩, 38), (⟨"StripDiesModel", "layFirst", "(I)V"⟩, 38), (⟨"StripDiesModel", "told", "(II)I"⟩, 38), (⟨"StripDiesModel", "pitchOf", "(I)I"⟩, 38), (⟨"StripDiesModel", "spreadOut", "([JI)V"⟩, 38), (⟨"StripDiesModel", "isClear", "([JI)Z"⟩, 38), (⟨"StripDiesModel", "layBoth", "(III)Z"⟩, 38), (⟨"StripDiesModel", "findBest", "(II)V"⟩, 38), (⟨"StripDiesModel", "isPunch", "(I)Z"⟩, 38), (⟨"StripDiesModel", "allAhead", "(I)I"⟩, 38), (⟨"StripDiesModel", "areTogether", "(II)Z"⟩, 38), (⟨"StripDiesModel", "isWalled", "(II)Z"⟩, 38)]
theorem lw_r3 : ∀ q ∈ lw_privs_3, lw_okq q := List.forall_mem_cons.mpr ⟨lw_p32, List.forall_mem_cons.mpr ⟨lw_p33, List.forall_mem_cons.mpr ⟨lw_p34, List.forall_mem_cons.mpr ⟨lw_p35, List.forall_mem_cons.mpr ⟨lw_p36, List.forall_mem_cons.mpr ⟨lw_p37, List.forall_mem_cons.mpr ⟨lw_p38, List.forall_mem_cons.mpr ⟨lw_p39, List.forall_mem_cons.mpr ⟨lw_p40, List.forall_mem_cons.mpr ⟨lw_p41, List.forall_mem_cons.mpr ⟨lw_p42, List.forall_mem_cons.mpr ⟨lw_p43, List.forall_mem_cons.mpr ⟨lw_p44, List.forall_mem_cons.mpr ⟨lw_p45, List.forall_mem_cons.mpr ⟨lw_p46, List.forall_mem_cons.mpr ⟨lw_p47, fun _ h => absurd h List.not_mem_nil⟩⟩⟩⟩⟩⟩⟩⟩⟩⟩⟩⟩⟩⟩⟩⟩
theorem lw_p48 : lw_okq (⟨"StripDiesModel", "makePlan", "()V"⟩, 38) := ⟨⟨by decide +kernel, by decide +kernel⟩, List.mem_of_getElem? (i := 714) (by decide +kernel), List.mem_of_getElem? (i := 992) (by decide +kernel), List.mem_of_getElem? (i := 993) (by decide +kernel)⟩
theorem lw_p49 : lw_okq (⟨"StripDiesModel", "findMates", "()V"⟩, 38) := ⟨⟨by decide +kernel, by decide +kernel⟩, List.mem_of_getElem? (i := 714) (by decide +kernel), List.mem_of_getElem? (i := 996) (by decide +kernel), List.mem_of_getElem? (i := 997) (by decide +kernel)⟩
theorem lw_p50 : lw_okq (⟨"StripDiesModel", "findFewest", "()V"⟩, 38) := ⟨⟨by decide +kernel, by decide +kernel⟩, List.mem_of_getElem? (i := 714) (by decide +kernel), List.mem_of_getElem? (i := 1000) (by decide +kernel), List.mem_of_getElem? (i := 1001) (by decide +kernel)⟩
theorem lw_p51 : lw_okq (⟨"StripDiesModel", "isOneStation", "(II)Z"⟩, 38) := ⟨⟨by decide +kernel, by decide +kernel⟩, List.mem_of_getElem? (i := 714) (by decide +kernel), List.mem_of_getElem? (i := 1004) (by decide +kernel), List.mem_of_getElem? (i := 1005) (by decide +kernel)⟩
theorem lw_p52 : lw_okq (⟨"StripDiesModel", "findBounds", "()V"⟩, 38) := ⟨⟨by decide +kernel, by decide +kernel⟩, List.mem_of_getElem? (i := 714) (by decide +kernel), List.mem_of_getElem? (i := 1008) (by decide +kernel), List.mem_of_getElem? (i := 1009) (by decide +kernel)⟩
theorem lw_p53 : lw_okq (⟨"StripDiesModel", "mayBe", "(II)Z"⟩, 38) := ⟨⟨by decide +kernel, by decide +kernel⟩, List.mem_of_getElem? (i := 714) (by decide +kernel), List.mem_of_getElem? (i := 1012) (by decide +kernel), List.mem_of_getElem? (i := 1013) (by decide +kernel)⟩
theorem lw_p54 : lw_okq (⟨"StripDiesModel", "forceOf", "(I)I"⟩, 38) := ⟨⟨by decide +kernel, by decide +kernel⟩, List.mem_of_getElem? (i := 714) (by decide +kernel), List.mem_of_getElem? (i := 1025) (by decide +kernel), List.mem_of_getElem? (i := 1026) (by decide +kernel)⟩
theorem lw_p55 : lw_okq (⟨"StripDiesModel", "lost", "(I)J"⟩, 38) := ⟨⟨by decide +kernel, by decide +kernel⟩, List.mem_of_getElem? (i := 714) (by decide +kernel), List.mem_of_getElem? (i := 1067) (by decide +kernel), List.mem_of_getElem? (i := 1068) (by decide +kernel)⟩
theorem lw_p56 : lw_okq (⟨"StripDiesModel", "begins", "(I)V"⟩, 38) := ⟨⟨by decide +kernel, by decide +kernel⟩, List.mem_of_getElem? (i := 714) (by decide +kernel), List.mem_of_getElem? (i := 1075) (by decide +kernel), List.mem_of_getElem? (i := 1076) (by decide +kernel)⟩
def lw_privs_4 : List (MethodName × Nat) := [(⟨"StripDiesModel", "makePlan", "()V"⟩, 38), (⟨"StripDiesModel", "findMates", "()V"⟩, 38), (⟨"StripDiesModel", "findFewest", "()V"⟩, 38), (⟨"StripDiesModel", "isOneStation", "(II)Z"⟩, 38), (⟨"StripDiesModel", "findBounds", "()V"⟩, 38), (⟨"StripDiesModel", "mayBe", "(II)Z"⟩, 38), (⟨"StripDiesModel", "forceOf", "(I)I"⟩, 38), (⟨"StripDiesModel", "lost", "(I)J"⟩, 38), (⟨"StripDiesModel", "begins", "(I)V"⟩, 38)]
theorem lw_r4 : ∀ q ∈ lw_privs_4, lw_okq q := List.forall_mem_cons.mpr ⟨lw_p48, List.forall_mem_cons.mpr ⟨lw_p49, List.forall_mem_cons.mpr ⟨lw_p50, List.forall_mem_cons.mpr ⟨lw_p51, List.forall_mem_cons.mpr ⟨lw_p52, List.forall_mem_cons.mpr ⟨lw_p53, List.forall_mem_cons.mpr ⟨lw_p54, List.forall_mem_cons.mpr ⟨lw_p55, List.forall_mem_cons.mpr ⟨lw_p56, fun _ h => absurd h List.not_mem_nil⟩⟩⟩⟩⟩⟩⟩⟩⟩
def lw_privs : List (MethodName × Nat) := lw_privs_1 ++ (lw_privs_2 ++ (lw_privs_3 ++ (lw_privs_4)))
def lw_tbl : List Cond := k2_sels lw_privs ++ tables_1
theorem lw_privs_ok : ∀ q ∈ lw_privs, lw_okq q := by
  show ∀ q ∈ lw_privs_1 ++ (lw_privs_2 ++ (lw_privs_3 ++ (lw_privs_4))), lw_okq q
  exact List.forall_mem_append.mpr ⟨lw_r1, List.forall_mem_append.mpr ⟨lw_r2, List.forall_mem_append.mpr ⟨lw_r3, lw_r4⟩⟩⟩
end
section
/-! ===== BEGIN words of one list among another's, by their places ===== -/
theorem goodIn_r {big : List Cond} (ws : List Cond) (ps : List Nat) (hp : ws = ps.filterMap (fun i => big[i]?)) (h : ws.all goodWord = true) : GoodIn big ws := by
  intro w hw
  have h1 := List.all_eq_true.mp h w hw
  rw [hp] at hw
  obtain ⟨i, -, hi⟩ := List.mem_filterMap.mp hw
  have hm : w ∈ big := by first | exact List.mem_of_getElem? hi | exact List.getElem?_mem hi
  exact ⟨hm, good_of_word h1⟩
theorem goodIn_app {big a b : List Cond} (ha : GoodIn big a) (hb : GoodIn big b) : GoodIn big (a ++ b) := fun w h => (List.mem_append.mp h).elim (ha w) (hb w)
theorem goodIn_ca {big a b : List Cond} {c : Cond} (ha : GoodIn big (c :: a)) (hb : GoodIn big b) : GoodIn big (c :: (a ++ b)) := fun w h => (List.mem_cons.mp h).elim (fun e => ha w (List.mem_cons.mpr (Or.inl e))) (fun h => (List.mem_append.mp h).elim (fun h => ha w (List.mem_cons.mpr (Or.inr h))) (hb w))
theorem goodIn_sub {big ws : List Cond} (hm : ∀ w ∈ ws, w ∈ big) (h : ws.all goodWord = true) : GoodIn big ws := fun w hw => ⟨hm w hw, good_of_word (List.all_eq_true.mp h w hw)⟩
/-! ===== END ===== -/

/-! ===== BEGIN printed: names, fields, word lists, decode rows ===== -/
def RX0 : String := "StripDies$Coil"
def TX0 : u_T := fun k => match k with
  | _ => ("StripDies$Coil", "prices", "[J", true)
def tyX0 : Nat → FieldType := fun k => match k with
  | _ => .array .long
abbrev wsX00 : List Cond := u_ws RX0 TX0 1
theorem nmX0 : ∀ a, a < 1 → ∀ b, b < 1 → a ≠ b → (TX0 a).2.1 ≠ (TX0 b).2.1 := by decide +kernel
theorem tyX0_ok : ∀ k, k < 1 → parseFieldDescriptor (TX0 k).2.2.1 = some (tyX0 k) := by decide +kernel
abbrev cX0_init : ByteArray := prog_2_method_1_code
def yX0_init : MethodName := ⟨RX0, "<init>", "()V"⟩
abbrev cX0_price : ByteArray := prog_2_method_2_code
def yX0_price : MethodName := ⟨RX0, "price", "(IIII)V"⟩
abbrev cX0_priceWith : ByteArray := prog_2_method_3_code
def yX0_priceWith : MethodName := ⟨RX0, "priceWith", "(IIJ)J"⟩
abbrev cX0_lesser : ByteArray := prog_2_method_4_code
def yX0_lesser : MethodName := ⟨RX0, "lesser", "(JJ)J"⟩
abbrev cX0_answer : ByteArray := prog_2_method_5_code
def yX0_answer : MethodName := ⟨RX0, "answer", "(II)I"⟩
def RX1 : String := "StripDies$Laws"
def TX1 : u_T := fun k => match k with
  | _ => ("StripDies$Laws", "before", "[I", true)
def tyX1 : Nat → FieldType := fun k => match k with
  | _ => .array .int
abbrev wsX10 : List Cond := u_ws RX1 TX1 1
theorem nmX1 : ∀ a, a < 1 → ∀ b, b < 1 → a ≠ b → (TX1 a).2.1 ≠ (TX1 b).2.1 := by decide +kernel
theorem tyX1_ok : ∀ k, k < 1 → parseFieldDescriptor (TX1 k).2.2.1 = some (tyX1 k) := by decide +kernel
abbrev cX1_init : ByteArray := prog_3_method_1_code
def yX1_init : MethodName := ⟨RX1, "<init>", "()V"⟩
abbrev cX1_hasLaw : ByteArray := prog_3_method_2_code
def yX1_hasLaw : MethodName := ⟨RX1, "hasLaw", "(II)Z"⟩
abbrev cX1_change : ByteArray := prog_3_method_3_code
def yX1_change : MethodName := ⟨RX1, "change", "(II)V"⟩
abbrev cX1_count : ByteArray := prog_3_method_4_code
def yX1_count : MethodName := ⟨RX1, "count", "()I"⟩
abbrev cX1_mustLead : ByteArray := prog_3_method_5_code
def yX1_mustLead : MethodName := ⟨RX1, "mustLead", "(II)Z"⟩
def RX2 : String := "StripDies$Layout"
def TX2 : u_T := fun k => match k with
  | 0 => ("StripDies$Layout", "known", "[I", true)
  | 1 => ("StripDies$Layout", "near", "LStripDies$Nearness;", true)
  | _ => ("StripDies$Layout", "multiples", "[J", true)
def tyX2 : Nat → FieldType := fun k => match k with
  | 0 => .array .int
  | 1 => .object "StripDies$Nearness"
  | _ => .array .long
abbrev wsX20 : List Cond := u_ws RX2 TX2 3
theorem nmX2 : ∀ a, a < 3 → ∀ b, b < 3 → a ≠ b → (TX2 a).2.1 ≠ (TX2 b).2.1 := by decide +kernel
theorem tyX2_ok : ∀ k, k < 3 → parseFieldDescriptor (TX2 k).2.2.1 = some (tyX2 k) := by decide +kernel
abbrev cX2_init : ByteArray := prog_4_method_1_code
def yX2_init : MethodName := ⟨RX2, "<init>", "()V"⟩
abbrev cX2_forget : ByteArray := prog_4_method_2_code
def yX2_forget : MethodName := ⟨RX2, "forget", "()V"⟩
abbrev cX2_pitchOf : ByteArray := prog_4_method_3_code
def yX2_pitchOf : MethodName := ⟨RX2, "pitchOf", "(J)I"⟩
abbrev cX2_clashesWithItself : ByteArray := prog_4_method_4_code
def yX2_clashesWithItself : MethodName := ⟨RX2, "clashesWithItself", "(LStripDies$Shape;I)J"⟩
abbrev cX2_pitchOfPair : ByteArray := prog_4_method_5_code
def yX2_pitchOfPair : MethodName := ⟨RX2, "pitchOfPair", "(LStripDies$Shape;LStripDies$Shape;III)I"⟩
abbrev cX2_stripOf : ByteArray := prog_4_method_6_code
def yX2_stripOf : MethodName := ⟨RX2, "stripOf", "(LStripDies$Shape;LStripDies$Shape;II)I"⟩
abbrev cX2_bestPair : ByteArray := prog_4_method_7_code
def yX2_bestPair : MethodName := ⟨RX2, "bestPair", "(LStripDies$Shape;LStripDies$Shape;II)I"⟩
abbrev cX2_bestShift : ByteArray := prog_4_method_8_code
def yX2_bestShift : MethodName := ⟨RX2, "bestShift", "(JJII)I"⟩
abbrev cX2_partOf : ByteArray := prog_4_method_9_code
def yX2_partOf : MethodName := ⟨RX2, "partOf", "(II)I"⟩
abbrev cX2_isApart : ByteArray := prog_4_method_10_code
def yX2_isApart : MethodName := ⟨RX2, "isApart", "(JI)Z"⟩
abbrev cX2_clashesAcross : ByteArray := prog_4_method_11_code
def yX2_clashesAcross : MethodName := ⟨RX2, "clashesAcross", "(JJI)J"⟩
abbrev cX2_mirrored : ByteArray := prog_4_method_12_code
def yX2_mirrored : MethodName := ⟨RX2, "mirrored", "(J)J"⟩
def RX3 : String := "StripDies$Nearness"
def TX3 : u_T := fun k => match k with
  | _ => ("StripDies$Nearness", "grown", "[I", true)
def tyX3 : Nat → FieldType := fun k => match k with
  | _ => .array .int
abbrev wsX30 : List Cond := u_ws RX3 TX3 1
theorem nmX3 : ∀ a, a < 1 → ∀ b, b < 1 → a ≠ b → (TX3 a).2.1 ≠ (TX3 b).2.1 := by decide +kernel
theorem tyX3_ok : ∀ k, k < 1 → parseFieldDescriptor (TX3 k).2.2.1 = some (tyX3 k) := by decide +kernel
abbrev cX3_init : ByteArray := prog_5_method_1_code
def yX3_init : MethodName := ⟨RX3, "<init>", "()V"⟩
abbrev cX3_grow : ByteArray := prog_5_method_2_code
def yX3_grow : MethodName := ⟨RX3, "grow", "(LStripDies$Shape;I)V"⟩
abbrev cX3_shiftsOf : ByteArray := prog_5_method_3_code
def yX3_shiftsOf : MethodName := ⟨RX3, "shiftsOf", "(LStripDies$Shape;I)J"⟩
abbrev cX3_isNear : ByteArray := prog_5_method_4_code
def yX3_isNear : MethodName := ⟨RX3, "isNear", "(LStripDies$Shape;II)Z"⟩
def RX4 : String := "StripDies$Plan"
def TX4 : u_T := fun k => match k with
  | 0 => ("StripDies$Plan", "isFresh", "Z", false)
  | 1 => ("StripDies$Plan", "count", "I", false)
  | 2 => ("StripDies$Plan", "fits", "[I", true)
  | 3 => ("StripDies$Plan", "joins", "[I", true)
  | 4 => ("StripDies$Plan", "done", "[J", false)
  | 5 => ("StripDies$Plan", "next", "[J", false)
  | 6 => ("StripDies$Plan", "row", "J", false)
  | _ => ("StripDies$Plan", "punches", "I", false)
def tyX4 : Nat → FieldType := fun k => match k with
  | 0 => .boolean
  | 1 => .int
  | 2 => .array .int
  | 3 => .array .int
  | 4 => .array .long
  | 5 => .array .long
  | 6 => .long
  | _ => .int
abbrev wsX40 : List Cond := u_ws RX4 TX4 8
theorem nmX4 : ∀ a, a < 8 → ∀ b, b < 8 → a ≠ b → (TX4 a).2.1 ≠ (TX4 b).2.1 := by decide +kernel
theorem tyX4_ok : ∀ k, k < 8 → parseFieldDescriptor (TX4 k).2.2.1 = some (tyX4 k) := by decide +kernel
abbrev cX4_init : ByteArray := prog_6_method_1_code
def yX4_init : MethodName := ⟨RX4, "<init>", "()V"⟩
abbrev cX4_hasStation : ByteArray := prog_6_method_2_code
def yX4_hasStation : MethodName := ⟨RX4, "hasStation", "(I)Z"⟩
abbrev cX4_stationOf : ByteArray := prog_6_method_3_code
def yX4_stationOf : MethodName := ⟨RX4, "stationOf", "(I)I"⟩
abbrev cX4_make : ByteArray := prog_6_method_4_code
def yX4_make : MethodName := ⟨RX4, "make", "(I[I)V"⟩
abbrev cX4_findJoins : ByteArray := prog_6_method_5_code
def yX4_findJoins : MethodName := ⟨RX4, "findJoins", "(I)V"⟩
abbrev cX4_clear : ByteArray := prog_6_method_6_code
def yX4_clear : MethodName := ⟨RX4, "clear", "([JI)V"⟩
abbrev cX4_addStation : ByteArray := prog_6_method_7_code
def yX4_addStation : MethodName := ⟨RX4, "addStation", "(I[I)V"⟩
abbrev cX4_readyAfter : ByteArray := prog_6_method_8_code
def yX4_readyAfter : MethodName := ⟨RX4, "readyAfter", "(I[I)I"⟩
abbrev cX4_fillStation : ByteArray := prog_6_method_9_code
def yX4_fillStation : MethodName := ⟨RX4, "fillStation", "(II)V"⟩
abbrev cX4_digitsOf : ByteArray := prog_6_method_10_code
def yX4_digitsOf : MethodName := ⟨RX4, "digitsOf", "(I)J"⟩
def RX5 : String := "StripDies$Press"
def TX5 : u_T := fun k => match k with
  | 0 => ("StripDies$Press", "forces", "[I", true)
  | 1 => ("StripDies$Press", "steps", "[I", true)
  | 2 => ("StripDies$Press", "count", "I", false)
  | 3 => ("StripDies$Press", "sum", "I", false)
  | 4 => ("StripDies$Press", "least", "I", false)
  | _ => ("StripDies$Press", "floor", "I", false)
def tyX5 : Nat → FieldType := fun k => match k with
  | 0 => .array .int
  | 1 => .array .int
  | 2 => .int
  | 3 => .int
  | 4 => .int
  | _ => .int
abbrev wsX50 : List Cond := u_ws RX5 TX5 6
theorem nmX5 : ∀ a, a < 6 → ∀ b, b < 6 → a ≠ b → (TX5 a).2.1 ≠ (TX5 b).2.1 := by decide +kernel
theorem tyX5_ok : ∀ k, k < 6 → parseFieldDescriptor (TX5 k).2.2.1 = some (tyX5 k) := by decide +kernel
abbrev cX5_init : ByteArray := prog_7_method_1_code
def yX5_init : MethodName := ⟨RX5, "<init>", "()V"⟩
abbrev cX5_clear : ByteArray := prog_7_method_2_code
def yX5_clear : MethodName := ⟨RX5, "clear", "()V"⟩
abbrev cX5_add : ByteArray := prog_7_method_3_code
def yX5_add : MethodName := ⟨RX5, "add", "(I)V"⟩
abbrev cX5_leastPeak : ByteArray := prog_7_method_4_code
def yX5_leastPeak : MethodName := ⟨RX5, "leastPeak", "(I)I"⟩
abbrev cX5_spread : ByteArray := prog_7_method_5_code
def yX5_spread : MethodName := ⟨RX5, "spread", "(III)V"⟩
abbrev cX5_hasTwin : ByteArray := prog_7_method_6_code
def yX5_hasTwin : MethodName := ⟨RX5, "hasTwin", "(I)Z"⟩
def RX6 : String := "StripDies$Punch"
def TX6 : u_T := fun k => match k with
  | 0 => ("StripDies$Punch", "kind", "I", true)
  | 1 => ("StripDies$Punch", "formNumber", "I", true)
  | 2 => ("StripDies$Punch", "x", "I", true)
  | 3 => ("StripDies$Punch", "y", "I", true)
  | 4 => ("StripDies$Punch", "thick", "I", true)
  | _ => ("StripDies$Punch", "form", "LStripDies$Shape;", true)
def tyX6 : Nat → FieldType := fun k => match k with
  | 0 => .int
  | 1 => .int
  | 2 => .int
  | 3 => .int
  | 4 => .int
  | _ => .object "StripDies$Shape"
abbrev wsX60 : List Cond := u_ws RX6 TX6 6
theorem nmX6 : ∀ a, a < 6 → ∀ b, b < 6 → a ≠ b → (TX6 a).2.1 ≠ (TX6 b).2.1 := by decide +kernel
theorem tyX6_ok : ∀ k, k < 6 → parseFieldDescriptor (TX6 k).2.2.1 = some (tyX6 k) := by decide +kernel
abbrev cX6_init : ByteArray := prog_8_method_1_code
def yX6_init : MethodName := ⟨RX6, "<init>", "(IILStripDies$Shape;III)V"⟩
abbrev cX6_strength : ByteArray := prog_8_method_2_code
def yX6_strength : MethodName := ⟨RX6, "strength", "()I"⟩
abbrev cX6_share : ByteArray := prog_8_method_3_code
def yX6_share : MethodName := ⟨RX6, "share", "(I)J"⟩
def RX7 : String := "StripDies$Shape"
def TX7 : u_T := fun k => match k with
  | 0 => ("StripDies$Shape", "cells", "J", true)
  | 1 => ("StripDies$Shape", "width", "I", true)
  | _ => ("StripDies$Shape", "height", "I", true)
def tyX7 : Nat → FieldType := fun k => match k with
  | 0 => .long
  | 1 => .int
  | _ => .int
abbrev wsX70 : List Cond := u_ws RX7 TX7 3
theorem nmX7 : ∀ a, a < 3 → ∀ b, b < 3 → a ≠ b → (TX7 a).2.1 ≠ (TX7 b).2.1 := by decide +kernel
theorem tyX7_ok : ∀ k, k < 3 → parseFieldDescriptor (TX7 k).2.2.1 = some (tyX7 k) := by decide +kernel
abbrev cX7_init : ByteArray := prog_9_method_1_code
def yX7_init : MethodName := ⟨RX7, "<init>", "(J)V"⟩
abbrev cX7_row : ByteArray := prog_9_method_2_code
def yX7_row : MethodName := ⟨RX7, "row", "(I)I"⟩
abbrev cX7_cellCount : ByteArray := prog_9_method_3_code
def yX7_cellCount : MethodName := ⟨RX7, "cellCount", "()I"⟩
abbrev cX7_edge : ByteArray := prog_9_method_4_code
def yX7_edge : MethodName := ⟨RX7, "edge", "()I"⟩
abbrev cX7_pieces : ByteArray := prog_9_method_5_code
def yX7_pieces : MethodName := ⟨RX7, "pieces", "()I"⟩
abbrev cX7_pieceFrom : ByteArray := prog_9_method_6_code
def yX7_pieceFrom : MethodName := ⟨RX7, "pieceFrom", "(J)J"⟩
abbrev cX7_turned : ByteArray := prog_9_method_7_code
def yX7_turned : MethodName := ⟨RX7, "turned", "(I)J"⟩
abbrev cX7_turnedOver : ByteArray := prog_9_method_8_code
def yX7_turnedOver : MethodName := ⟨RX7, "turnedOver", "()J"⟩
abbrev cX7_quarterTurned : ByteArray := prog_9_method_9_code
def yX7_quarterTurned : MethodName := ⟨RX7, "quarterTurned", "(JI)J"⟩
abbrev cX7_cellAt : ByteArray := prog_9_method_10_code
def yX7_cellAt : MethodName := ⟨RX7, "cellAt", "(II)J"⟩
abbrev cX7_toCorner : ByteArray := prog_9_method_11_code
def yX7_toCorner : MethodName := ⟨RX7, "toCorner", "(J)J"⟩
abbrev cX7_widthOf : ByteArray := prog_9_method_12_code
def yX7_widthOf : MethodName := ⟨RX7, "widthOf", "(J)I"⟩
abbrev cX7_heightOf : ByteArray := prog_9_method_13_code
def yX7_heightOf : MethodName := ⟨RX7, "heightOf", "(J)I"⟩
def RX8 : String := "StripDies$Sheet"
def TX8 : u_T := fun k => match k with
  | 0 => ("StripDies$Sheet", "cells", "[I", true)
  | 1 => ("StripDies$Sheet", "lane", "I", false)
  | _ => ("StripDies$Sheet", "length", "I", false)
def tyX8 : Nat → FieldType := fun k => match k with
  | 0 => .array .int
  | 1 => .int
  | _ => .int
abbrev wsX80 : List Cond := u_ws RX8 TX8 3
theorem nmX8 : ∀ a, a < 3 → ∀ b, b < 3 → a ≠ b → (TX8 a).2.1 ≠ (TX8 b).2.1 := by decide +kernel
theorem tyX8_ok : ∀ k, k < 3 → parseFieldDescriptor (TX8 k).2.2.1 = some (tyX8 k) := by decide +kernel
abbrev cX8_init : ByteArray := prog_10_method_1_code
def yX8_init : MethodName := ⟨RX8, "<init>", "()V"⟩
abbrev cX8_hasRow : ByteArray := prog_10_method_2_code
def yX8_hasRow : MethodName := ⟨RX8, "hasRow", "()Z"⟩
abbrev cX8_renew : ByteArray := prog_10_method_3_code
def yX8_renew : MethodName := ⟨RX8, "renew", "(II)V"⟩
abbrev cX8_drop : ByteArray := prog_10_method_4_code
def yX8_drop : MethodName := ⟨RX8, "drop", "()V"⟩
abbrev cX8_faultOf : ByteArray := prog_10_method_5_code
def yX8_faultOf : MethodName := ⟨RX8, "faultOf", "(III)I"⟩
abbrev cX8_write : ByteArray := prog_10_method_6_code
def yX8_write : MethodName := ⟨RX8, "write", "(II)V"⟩
abbrev cX8_cellsFrom : ByteArray := prog_10_method_7_code
def yX8_cellsFrom : MethodName := ⟨RX8, "cellsFrom", "(I)J"⟩
def RX9 : String := "StripDies"
def TX9 : u_T := fun k => match k with
  | 0 => ("StripDies", "shapes", "[LStripDies$Shape;", true)
  | 1 => ("StripDies", "punches", "[LStripDies$Punch;", true)
  | 2 => ("StripDies", "sheets", "[LStripDies$Sheet;", true)
  | 3 => ("StripDies", "laws", "LStripDies$Laws;", true)
  | 4 => ("StripDies", "layout", "LStripDies$Layout;", true)
  | 5 => ("StripDies", "walls", "LStripDies$Nearness;", true)
  | 6 => ("StripDies", "plan", "LStripDies$Plan;", true)
  | 7 => ("StripDies", "press", "LStripDies$Press;", true)
  | 8 => ("StripDies", "coil", "LStripDies$Coil;", true)
  | 9 => ("StripDies", "shapeCount", "I", false)
  | 10 => ("StripDies", "punchCount", "I", false)
  | 11 => ("StripDies", "web", "I", false)
  | 12 => ("StripDies", "margin", "I", false)
  | 13 => ("StripDies", "wall", "I", false)
  | 14 => ("StripDies", "trace", "I", false)
  | _ => ("StripDies", "fault", "I", false)
def tyX9 : Nat → FieldType := fun k => match k with
  | 0 => .array (.object "StripDies$Shape")
  | 1 => .array (.object "StripDies$Punch")
  | 2 => .array (.object "StripDies$Sheet")
  | 3 => .object "StripDies$Laws"
  | 4 => .object "StripDies$Layout"
  | 5 => .object "StripDies$Nearness"
  | 6 => .object "StripDies$Plan"
  | 7 => .object "StripDies$Press"
  | 8 => .object "StripDies$Coil"
  | 9 => .int
  | 10 => .int
  | 11 => .int
  | 12 => .int
  | 13 => .int
  | 14 => .int
  | _ => .int
abbrev wsX90 : List Cond := u_ws RX9 TX9 16
theorem nmX9 : ∀ a, a < 16 → ∀ b, b < 16 → a ≠ b → (TX9 a).2.1 ≠ (TX9 b).2.1 := by decide +kernel
theorem tyX9_ok : ∀ k, k < 16 → parseFieldDescriptor (TX9 k).2.2.1 = some (tyX9 k) := by decide +kernel
abbrev cX9_init : ByteArray := prog_1_method_1_code
def yX9_init : MethodName := ⟨RX9, "<init>", "()V"⟩
abbrev cX9_shape : ByteArray := prog_1_method_2_code
def yX9_shape : MethodName := ⟨RX9, "shape", "(III)I"⟩
abbrev cX9_turn : ByteArray := prog_1_method_3_code
def yX9_turn : MethodName := ⟨RX9, "turn", "(II)I"⟩
abbrev cX9_about : ByteArray := prog_1_method_4_code
def yX9_about : MethodName := ⟨RX9, "about", "(II)I"⟩
abbrev cX9_has : ByteArray := prog_1_method_5_code
def yX9_has : MethodName := ⟨RX9, "has", "(III)I"⟩
abbrev cX9_rule : ByteArray := prog_1_method_6_code
def yX9_rule : MethodName := ⟨RX9, "rule", "(II)I"⟩
abbrev cX9_alone : ByteArray := prog_1_method_7_code
def yX9_alone : MethodName := ⟨RX9, "alone", "(II)I"⟩
abbrev cX9_pair : ByteArray := prog_1_method_8_code
def yX9_pair : MethodName := ⟨RX9, "pair", "(IIIIII)I"⟩
abbrev cX9_best : ByteArray := prog_1_method_9_code
def yX9_best : MethodName := ⟨RX9, "best", "(III)I"⟩
abbrev cX9_punch : ByteArray := prog_1_method_10_code
def yX9_punch : MethodName := ⟨RX9, "punch", "(IIIII)I"⟩
abbrev cX9_ahead : ByteArray := prog_1_method_11_code
def yX9_ahead : MethodName := ⟨RX9, "ahead", "(II)I"⟩
abbrev cX9_free : ByteArray := prog_1_method_12_code
def yX9_free : MethodName := ⟨RX9, "free", "(II)I"⟩
abbrev cX9_must : ByteArray := prog_1_method_13_code
def yX9_must : MethodName := ⟨RX9, "must", "(II)I"⟩
abbrev cX9_together : ByteArray := prog_1_method_14_code
def yX9_together : MethodName := ⟨RX9, "together", "(II)I"⟩
abbrev cX9_stations : ByteArray := prog_1_method_15_code
def yX9_stations : MethodName := ⟨RX9, "stations", "()I"⟩
abbrev cX9_station : ByteArray := prog_1_method_16_code
def yX9_station : MethodName := ⟨RX9, "station", "(I)I"⟩
abbrev cX9_force : ByteArray := prog_1_method_17_code
def yX9_force : MethodName := ⟨RX9, "force", "(II)J"⟩
abbrev cX9_peak : ByteArray := prog_1_method_18_code
def yX9_peak : MethodName := ⟨RX9, "peak", "(II)I"⟩
abbrev cX9_punched : ByteArray := prog_1_method_19_code
def yX9_punched : MethodName := ⟨RX9, "punched", "(II)I"⟩
abbrev cX9_slit : ByteArray := prog_1_method_20_code
def yX9_slit : MethodName := ⟨RX9, "slit", "(IIIII)I"⟩
abbrev cX9_sheet : ByteArray := prog_1_method_21_code
def yX9_sheet : MethodName := ⟨RX9, "sheet", "(III)I"⟩
abbrev cX9_lose : ByteArray := prog_1_method_22_code
def yX9_lose : MethodName := ⟨RX9, "lose", "(I)I"⟩
abbrev cX9_put : ByteArray := prog_1_method_23_code
def yX9_put : MethodName := ⟨RX9, "put", "(III)I"⟩
abbrev cX9_at : ByteArray := prog_1_method_24_code
def yX9_at : MethodName := ⟨RX9, "at", "(III)J"⟩
abbrev cX9_tell : ByteArray := prog_1_method_25_code
def yX9_tell : MethodName := ⟨RX9, "tell", "(I)I"⟩
abbrev cX9_keep : ByteArray := prog_1_method_26_code
def yX9_keep : MethodName := ⟨RX9, "keep", "(I)I"⟩
abbrev cX9_as : ByteArray := prog_1_method_27_code
def yX9_as : MethodName := ⟨RX9, "as", "(II)I"⟩
abbrev cX9_trace : ByteArray := prog_1_method_28_code
def yX9_trace : MethodName := ⟨RX9, "trace", "()I"⟩
abbrev cX9_fault : ByteArray := prog_1_method_29_code
def yX9_fault : MethodName := ⟨RX9, "fault", "()I"⟩
abbrev cX9_told : ByteArray := prog_1_method_30_code
def yX9_told : MethodName := ⟨RX9, "told", "(I)I"⟩
abbrev cX9_isWithin : ByteArray := prog_1_method_31_code
def yX9_isWithin : MethodName := ⟨RX9, "isWithin", "(III)Z"⟩
abbrev cX9_shapeAt : ByteArray := prog_1_method_32_code
def yX9_shapeAt : MethodName := ⟨RX9, "shapeAt", "(I)LStripDies$Shape;"⟩
abbrev cX9_isPunch : ByteArray := prog_1_method_33_code
def yX9_isPunch : MethodName := ⟨RX9, "isPunch", "(I)Z"⟩
abbrev cX9_punchAt : ByteArray := prog_1_method_34_code
def yX9_punchAt : MethodName := ⟨RX9, "punchAt", "(I)LStripDies$Punch;"⟩
abbrev cX9_sheetAt : ByteArray := prog_1_method_35_code
def yX9_sheetAt : MethodName := ⟨RX9, "sheetAt", "(I)LStripDies$Sheet;"⟩
abbrev cX9_faulted : ByteArray := prog_1_method_36_code
def yX9_faulted : MethodName := ⟨RX9, "faulted", "(I)I"⟩
abbrev cX9_addShape : ByteArray := prog_1_method_37_code
def yX9_addShape : MethodName := ⟨RX9, "addShape", "(J)I"⟩
abbrev cX9_changeWeb : ByteArray := prog_1_method_38_code
def yX9_changeWeb : MethodName := ⟨RX9, "changeWeb", "(I)I"⟩
abbrev cX9_changeMargin : ByteArray := prog_1_method_39_code
def yX9_changeMargin : MethodName := ⟨RX9, "changeMargin", "(I)I"⟩
abbrev cX9_changeWall : ByteArray := prog_1_method_40_code
def yX9_changeWall : MethodName := ⟨RX9, "changeWall", "(I)I"⟩
abbrev cX9_ofLaying : ByteArray := prog_1_method_41_code
def yX9_ofLaying : MethodName := ⟨RX9, "ofLaying", "(IIII)I"⟩
abbrev cX9_areWalled : ByteArray := prog_1_method_42_code
def yX9_areWalled : MethodName := ⟨RX9, "areWalled", "(LStripDies$Punch;LStripDies$Punch;)Z"⟩
abbrev cX9_refreshPlan : ByteArray := prog_1_method_43_code
def yX9_refreshPlan : MethodName := ⟨RX9, "refreshPlan", "()V"⟩
abbrev cX9_fittingTo : ByteArray := prog_1_method_44_code
def yX9_fittingTo : MethodName := ⟨RX9, "fittingTo", "(I)I"⟩
abbrev cX9_leave : ByteArray := prog_1_method_45_code
def yX9_leave : MethodName := ⟨RX9, "leave", "(I)V"⟩
abbrev cX9_cutTells : ByteArray := prog_1_method_46_code
def yX9_cutTells : MethodName := ⟨RX9, "cutTells", "(LStripDies$Punch;)I"⟩
abbrev cX9_pilotTells : ByteArray := prog_1_method_47_code
def yX9_pilotTells : MethodName := ⟨RX9, "pilotTells", "(LStripDies$Punch;)I"⟩
abbrev cX9_bendTells : ByteArray := prog_1_method_48_code
def yX9_bendTells : MethodName := ⟨RX9, "bendTells", "(LStripDies$Punch;)I"⟩
abbrev cX9_lentKeeps : ByteArray := prog_1_method_49_code
def yX9_lentKeeps : MethodName := ⟨RX9, "lentKeeps", "(II)I"⟩
abbrev cX9_bendKeeps : ByteArray := prog_1_method_50_code
def yX9_bendKeeps : MethodName := ⟨RX9, "bendKeeps", "()I"⟩
def RX10 : String := "StripDiesModel"
def TX10 : u_T := fun k => match k with
  | 0 => ("StripDiesModel", "fault", "I", false)
  | 1 => ("StripDiesModel", "trace", "I", false)
  | 2 => ("StripDiesModel", "shapes", "I", false)
  | 3 => ("StripDiesModel", "rows", "[I", true)
  | 4 => ("StripDiesModel", "widths", "[I", true)
  | 5 => ("StripDiesModel", "heights", "[I", true)
  | 6 => ("StripDiesModel", "now", "[I", true)
  | 7 => ("StripDiesModel", "then", "[I", true)
  | 8 => ("StripDiesModel", "rules", "[I", true)
  | 9 => ("StripDiesModel", "lanes", "[I", true)
  | 10 => ("StripDiesModel", "sheetLong", "[I", true)
  | 11 => ("StripDiesModel", "cells", "[I", true)
  | 12 => ("StripDiesModel", "first", "[J", true)
  | 13 => ("StripDiesModel", "second", "[J", true)
  | 14 => ("StripDiesModel", "spread", "[J", true)
  | 15 => ("StripDiesModel", "bestT", "I", false)
  | 16 => ("StripDiesModel", "bestX", "I", false)
  | 17 => ("StripDiesModel", "bestY", "I", false)
  | 18 => ("StripDiesModel", "bestSpent", "I", false)
  | 19 => ("StripDiesModel", "punches", "I", false)
  | 20 => ("StripDiesModel", "kinds", "[I", true)
  | 21 => ("StripDiesModel", "shapeOf", "[I", true)
  | 22 => ("StripDiesModel", "atX", "[I", true)
  | 23 => ("StripDiesModel", "atY", "[I", true)
  | 24 => ("StripDiesModel", "thick", "[I", true)
  | 25 => ("StripDiesModel", "laws", "I", false)
  | 26 => ("StripDiesModel", "aheadOf", "[I", true)
  | 27 => ("StripDiesModel", "mates", "[I", true)
  | 28 => ("StripDiesModel", "fewest", "[I", true)
  | 29 => ("StripDiesModel", "plan", "[I", true)
  | 30 => ("StripDiesModel", "planMany", "I", false)
  | 31 => ("StripDiesModel", "soonest", "[I", true)
  | 32 => ("StripDiesModel", "latest", "[I", true)
  | 33 => ("StripDiesModel", "forces", "[I", true)
  | 34 => ("StripDiesModel", "loads", "[I", true)
  | 35 => ("StripDiesModel", "chosen", "[I", true)
  | 36 => ("StripDiesModel", "few", "[I", true)
  | _ => ("StripDiesModel", "fewer", "[I", true)
def tyX10 : Nat → FieldType := fun k => match k with
  | 0 => .int
  | 1 => .int
  | 2 => .int
  | 3 => .array .int
  | 4 => .array .int
  | 5 => .array .int
  | 6 => .array .int
  | 7 => .array .int
  | 8 => .array .int
  | 9 => .array .int
  | 10 => .array .int
  | 11 => .array .int
  | 12 => .array .long
  | 13 => .array .long
  | 14 => .array .long
  | 15 => .int
  | 16 => .int
  | 17 => .int
  | 18 => .int
  | 19 => .int
  | 20 => .array .int
  | 21 => .array .int
  | 22 => .array .int
  | 23 => .array .int
  | 24 => .array .int
  | 25 => .int
  | 26 => .array .int
  | 27 => .array .int
  | 28 => .array .int
  | 29 => .array .int
  | 30 => .int
  | 31 => .array .int
  | 32 => .array .int
  | 33 => .array .int
  | 34 => .array .int
  | 35 => .array .int
  | 36 => .array .int
  | _ => .array .int
abbrev wsX100 : List Cond := u_ws RX10 TX10 38
theorem nmX10 : ∀ a, a < 38 → ∀ b, b < 38 → a ≠ b → (TX10 a).2.1 ≠ (TX10 b).2.1 := by decide +kernel
theorem tyX10_ok : ∀ k, k < 38 → parseFieldDescriptor (TX10 k).2.2.1 = some (tyX10 k) := by decide +kernel
abbrev cX10_init : ByteArray := prog_12_method_1_code
def yX10_init : MethodName := ⟨RX10, "<init>", "()V"⟩
abbrev cX10_fails : ByteArray := prog_12_method_3_code
def yX10_fails : MethodName := ⟨RX10, "fails", "(I)I"⟩
abbrev cX10_lost : ByteArray := prog_12_method_4_code
def yX10_lost : MethodName := ⟨RX10, "lost", "(I)J"⟩
abbrev cX10_within : ByteArray := prog_12_method_5_code
def yX10_within : MethodName := ⟨RX10, "within", "(III)Z"⟩
abbrev cX10_isShape : ByteArray := prog_12_method_6_code
def yX10_isShape : MethodName := ⟨RX10, "isShape", "(I)Z"⟩
abbrev cX10_bits : ByteArray := prog_12_method_7_code
def yX10_bits : MethodName := ⟨RX10, "bits", "(I)I"⟩
abbrev cX10_widthOf : ByteArray := prog_12_method_8_code
def yX10_widthOf : MethodName := ⟨RX10, "widthOf", "([I)I"⟩
abbrev cX10_heightOf : ByteArray := prog_12_method_9_code
def yX10_heightOf : MethodName := ⟨RX10, "heightOf", "([I)I"⟩
abbrev cX10_comes : ByteArray := prog_12_method_10_code
def yX10_comes : MethodName := ⟨RX10, "comes", "()I"⟩
abbrev cX10_shape : ByteArray := prog_12_method_11_code
def yX10_shape : MethodName := ⟨RX10, "shape", "(III)I"⟩
abbrev cX10_hasBit : ByteArray := prog_12_method_12_code
def yX10_hasBit : MethodName := ⟨RX10, "hasBit", "([III)Z"⟩
abbrev cX10_turnOf : ByteArray := prog_12_method_13_code
def yX10_turnOf : MethodName := ⟨RX10, "turnOf", "(II)V"⟩
abbrev cX10_turn : ByteArray := prog_12_method_14_code
def yX10_turn : MethodName := ⟨RX10, "turn", "(II)I"⟩
abbrev cX10_cellsOf : ByteArray := prog_12_method_15_code
def yX10_cellsOf : MethodName := ⟨RX10, "cellsOf", "(I)I"⟩
abbrev cX10_hasCell : ByteArray := prog_12_method_16_code
def yX10_hasCell : MethodName := ⟨RX10, "hasCell", "(III)Z"⟩
abbrev cX10_edgeOf : ByteArray := prog_12_method_17_code
def yX10_edgeOf : MethodName := ⟨RX10, "edgeOf", "(I)I"⟩
abbrev cX10_piecesOf : ByteArray := prog_12_method_18_code
def yX10_piecesOf : MethodName := ⟨RX10, "piecesOf", "(I)I"⟩
abbrev cX10_about : ByteArray := prog_12_method_19_code
def yX10_about : MethodName := ⟨RX10, "about", "(II)I"⟩
abbrev cX10_has : ByteArray := prog_12_method_20_code
def yX10_has : MethodName := ⟨RX10, "has", "(III)I"⟩
abbrev cX10_rule : ByteArray := prog_12_method_21_code
def yX10_rule : MethodName := ⟨RX10, "rule", "(II)I"⟩
abbrev cX10_clear : ByteArray := prog_12_method_22_code
def yX10_clear : MethodName := ⟨RX10, "clear", "([J)V"⟩
abbrev cX10_spreadOut : ByteArray := prog_12_method_23_code
def yX10_spreadOut : MethodName := ⟨RX10, "spreadOut", "([JI)V"⟩
abbrev cX10_isClear : ByteArray := prog_12_method_24_code
def yX10_isClear : MethodName := ⟨RX10, "isClear", "([JI)Z"⟩
abbrev cX10_spanOf : ByteArray := prog_12_method_25_code
def yX10_spanOf : MethodName := ⟨RX10, "spanOf", "([J)I"⟩
abbrev cX10_stripOf : ByteArray := prog_12_method_26_code
def yX10_stripOf : MethodName := ⟨RX10, "stripOf", "([J)I"⟩
abbrev cX10_pitchOf : ByteArray := prog_12_method_27_code
def yX10_pitchOf : MethodName := ⟨RX10, "pitchOf", "(I)I"⟩
abbrev cX10_layFirst : ByteArray := prog_12_method_28_code
def yX10_layFirst : MethodName := ⟨RX10, "layFirst", "(I)V"⟩
abbrev cX10_layBoth : ByteArray := prog_12_method_29_code
def yX10_layBoth : MethodName := ⟨RX10, "layBoth", "(III)Z"⟩
abbrev cX10_told : ByteArray := prog_12_method_30_code
def yX10_told : MethodName := ⟨RX10, "told", "(II)I"⟩
abbrev cX10_alone : ByteArray := prog_12_method_31_code
def yX10_alone : MethodName := ⟨RX10, "alone", "(II)I"⟩
abbrev cX10_pair : ByteArray := prog_12_method_32_code
def yX10_pair : MethodName := ⟨RX10, "pair", "(IIIIII)I"⟩
abbrev cX10_findBest : ByteArray := prog_12_method_33_code
def yX10_findBest : MethodName := ⟨RX10, "findBest", "(II)V"⟩
abbrev cX10_best : ByteArray := prog_12_method_34_code
def yX10_best : MethodName := ⟨RX10, "best", "(III)I"⟩
abbrev cX10_isPunch : ByteArray := prog_12_method_35_code
def yX10_isPunch : MethodName := ⟨RX10, "isPunch", "(I)Z"⟩
abbrev cX10_punch : ByteArray := prog_12_method_36_code
def yX10_punch : MethodName := ⟨RX10, "punch", "(IIIII)I"⟩
abbrev cX10_allAhead : ByteArray := prog_12_method_37_code
def yX10_allAhead : MethodName := ⟨RX10, "allAhead", "(I)I"⟩
abbrev cX10_ahead : ByteArray := prog_12_method_38_code
def yX10_ahead : MethodName := ⟨RX10, "ahead", "(II)I"⟩
abbrev cX10_free : ByteArray := prog_12_method_39_code
def yX10_free : MethodName := ⟨RX10, "free", "(II)I"⟩
abbrev cX10_must : ByteArray := prog_12_method_40_code
def yX10_must : MethodName := ⟨RX10, "must", "(II)I"⟩
abbrev cX10_isWalled : ByteArray := prog_12_method_41_code
def yX10_isWalled : MethodName := ⟨RX10, "isWalled", "(II)Z"⟩
abbrev cX10_areTogether : ByteArray := prog_12_method_42_code
def yX10_areTogether : MethodName := ⟨RX10, "areTogether", "(II)Z"⟩
abbrev cX10_together : ByteArray := prog_12_method_43_code
def yX10_together : MethodName := ⟨RX10, "together", "(II)I"⟩
abbrev cX10_findMates : ByteArray := prog_12_method_44_code
def yX10_findMates : MethodName := ⟨RX10, "findMates", "()V"⟩
abbrev cX10_isOneStation : ByteArray := prog_12_method_45_code
def yX10_isOneStation : MethodName := ⟨RX10, "isOneStation", "(II)Z"⟩
abbrev cX10_findFewest : ByteArray := prog_12_method_46_code
def yX10_findFewest : MethodName := ⟨RX10, "findFewest", "()V"⟩
abbrev cX10_mayBe : ByteArray := prog_12_method_47_code
def yX10_mayBe : MethodName := ⟨RX10, "mayBe", "(II)Z"⟩
abbrev cX10_findBounds : ByteArray := prog_12_method_48_code
def yX10_findBounds : MethodName := ⟨RX10, "findBounds", "()V"⟩
abbrev cX10_makePlan : ByteArray := prog_12_method_49_code
def yX10_makePlan : MethodName := ⟨RX10, "makePlan", "()V"⟩
abbrev cX10_stations : ByteArray := prog_12_method_50_code
def yX10_stations : MethodName := ⟨RX10, "stations", "()I"⟩
abbrev cX10_station : ByteArray := prog_12_method_51_code
def yX10_station : MethodName := ⟨RX10, "station", "(I)I"⟩
abbrev cX10_forceOf : ByteArray := prog_12_method_52_code
def yX10_forceOf : MethodName := ⟨RX10, "forceOf", "(I)I"⟩
abbrev cX10_force : ByteArray := prog_12_method_53_code
def yX10_force : MethodName := ⟨RX10, "force", "(II)J"⟩
abbrev cX10_peak : ByteArray := prog_12_method_54_code
def yX10_peak : MethodName := ⟨RX10, "peak", "(II)I"⟩
abbrev cX10_punched : ByteArray := prog_12_method_55_code
def yX10_punched : MethodName := ⟨RX10, "punched", "(II)I"⟩
abbrev cX10_addWidth : ByteArray := prog_12_method_56_code
def yX10_addWidth : MethodName := ⟨RX10, "addWidth", "([III)V"⟩
abbrev cX10_begin : ByteArray := prog_12_method_57_code
def yX10_begin : MethodName := ⟨RX10, "begin", "([II)V"⟩
abbrev cX10_slit : ByteArray := prog_12_method_58_code
def yX10_slit : MethodName := ⟨RX10, "slit", "(IIIII)I"⟩
abbrev cX10_isRest : ByteArray := prog_12_method_59_code
def yX10_isRest : MethodName := ⟨RX10, "isRest", "(III)Z"⟩
abbrev cX10_sheet : ByteArray := prog_12_method_60_code
def yX10_sheet : MethodName := ⟨RX10, "sheet", "(III)I"⟩
abbrev cX10_lose : ByteArray := prog_12_method_61_code
def yX10_lose : MethodName := ⟨RX10, "lose", "(I)I"⟩
abbrev cX10_put : ByteArray := prog_12_method_62_code
def yX10_put : MethodName := ⟨RX10, "put", "(III)I"⟩
abbrev cX10_at : ByteArray := prog_12_method_63_code
def yX10_at : MethodName := ⟨RX10, "at", "(III)J"⟩
abbrev cX10_begins : ByteArray := prog_12_method_64_code
def yX10_begins : MethodName := ⟨RX10, "begins", "(I)V"⟩
abbrev cX10_tell : ByteArray := prog_12_method_65_code
def yX10_tell : MethodName := ⟨RX10, "tell", "(I)I"⟩
abbrev cX10_keep : ByteArray := prog_12_method_66_code
def yX10_keep : MethodName := ⟨RX10, "keep", "(I)I"⟩
abbrev cX10_as : ByteArray := prog_12_method_67_code
def yX10_as : MethodName := ⟨RX10, "as", "(II)I"⟩
abbrev cX10_trace : ByteArray := prog_12_method_68_code
def yX10_trace : MethodName := ⟨RX10, "trace", "()I"⟩
abbrev cX10_fault : ByteArray := prog_12_method_69_code
def yX10_fault : MethodName := ⟨RX10, "fault", "()I"⟩
abbrev cX10_told_ : ByteArray := prog_12_method_70_code
def yX10_told_ : MethodName := ⟨RX10, "told", "(I)I"⟩
def RJ6 : String := "java/lang/Integer"
def TJ6 : u_T := fun k => match k with
  | _ => ("", "", "", false)
def tyJ6 : Nat → FieldType := fun k => match k with
  | _ => .int
abbrev wsJ60 : List Cond := u_ws RJ6 TJ6 0
theorem nmJ6 : ∀ a, a < 0 → ∀ b, b < 0 → a ≠ b → (TJ6 a).2.1 ≠ (TJ6 b).2.1 := by decide +kernel
theorem tyJ6_ok : ∀ k, k < 0 → parseFieldDescriptor (TJ6 k).2.2.1 = some (tyJ6 k) := by decide +kernel
abbrev cJ6_bitCount_0f7a4 : ByteArray := prog_13_method_49_code
def yJ6_bitCount_0f7a4 : MethodName := ⟨RJ6, "bitCount", "(I)I"⟩
def RJ13 : String := "java/lang/Long"
def TJ13 : u_T := fun k => match k with
  | _ => ("", "", "", false)
def tyJ13 : Nat → FieldType := fun k => match k with
  | _ => .int
abbrev wsJ130 : List Cond := u_ws RJ13 TJ13 0
theorem nmJ13 : ∀ a, a < 0 → ∀ b, b < 0 → a ≠ b → (TJ13 a).2.1 ≠ (TJ13 b).2.1 := by decide +kernel
theorem tyJ13_ok : ∀ k, k < 0 → parseFieldDescriptor (TJ13 k).2.2.1 = some (tyJ13 k) := by decide +kernel
abbrev cJ13_bitCount_95d88 : ByteArray := prog_14_method_50_code
def yJ13_bitCount_95d88 : MethodName := ⟨RJ13, "bitCount", "(J)I"⟩
def RJ9 : String := "java/lang/Math"
def TJ9 : u_T := fun k => match k with
  | _ => ("", "", "", false)
def tyJ9 : Nat → FieldType := fun k => match k with
  | _ => .int
abbrev wsJ90 : List Cond := u_ws RJ9 TJ9 0
theorem nmJ9 : ∀ a, a < 0 → ∀ b, b < 0 → a ≠ b → (TJ9 a).2.1 ≠ (TJ9 b).2.1 := by decide +kernel
theorem tyJ9_ok : ∀ k, k < 0 → parseFieldDescriptor (TJ9 k).2.2.1 = some (tyJ9 k) := by decide +kernel
abbrev cJ9_max_7cf53 : ByteArray := prog_15_method_65_code
def yJ9_max_7cf53 : MethodName := ⟨RJ9, "max", "(II)I"⟩
abbrev cJ9_min_7cf53 : ByteArray := prog_15_method_69_code
def yJ9_min_7cf53 : MethodName := ⟨RJ9, "min", "(II)I"⟩
def RL : String := "StripDiesLaw"
abbrev cL_law : ByteArray := code
def yL_law : MethodName := ⟨RL, "law", "([I)Z"⟩
abbrev vwCl : List vw_C := [(RX0, TX0, 1), (RX1, TX1, 1), (RX2, TX2, 3), (RX3, TX3, 1), (RX4, TX4, 8), (RX5, TX5, 6), (RX6, TX6, 6), (RX7, TX7, 3), (RX8, TX8, 3), (RX9, TX9, 16), (RX10, TX10, 38)]
end
section
/-! ABSTRACT HEAPS: cells are numbered as they come; q gives the address of each. A cell has a shape (tag, length): tag below 11 an object of that class number (vwCl), 11 an int array, 12 a long array, 13 .. 15 arrays of Punch, Shape, Sheet. I, J, Q: what the cells hold, ints, longs, references (as cell numbers). -/
abbrev hI : Type := Nat → Nat → Int32
abbrev hJ : Type := Nat → Nat → Int64
abbrev hQ : Type := Nat → Nat → Option Nat
/-- how many cells there are, cells used, slots used, their shapes -/
abbrev hA : Type := Nat × Nat × Nat × (Nat → Nat × Nat)
abbrev hTF : Type := Nat → Option (Nat × Nat)
abbrev hQF : Type := Nat → Nat → Option Nat
def tE (tF : hTF) (t : Nat → Nat × Nat) (k : Nat) : Nat × Nat := match tF k with
  | some x => x
  | none => t k
def qE (qF : hQF) (Q : hQ) (k j : Nat) : Option Nat := match qF k j with
  | some x => some x
  | none => Q k j
/-- the kinds of a class's fields: 0 int, 1 long, 2 reference, 3 boolean -/
def kd (ci : Nat) : List Nat := match ci with
  | 0 => [2]
  | 1 => [2]
  | 2 => [2, 2, 2]
  | 3 => [2]
  | 4 => [3, 0, 2, 2, 2, 2, 1, 0]
  | 5 => [2, 2, 0, 0, 0, 0]
  | 6 => [0, 0, 0, 0, 0, 2]
  | 7 => [1, 0, 0]
  | 8 => [2, 0, 0]
  | 9 => [2, 2, 2, 2, 2, 2, 2, 2, 2, 0, 0, 0, 0, 0, 0, 0]
  | 10 => [0, 0, 0, 2, 2, 2, 2, 2, 2, 2, 2, 2, 2, 2, 2, 0, 0, 0, 0, 0, 2, 2, 2, 2, 2, 0, 2, 2, 2, 2, 0, 2, 2, 2, 2, 2, 2, 2]
  | _ => []
def up2 {α : Type} (f : Nat → Nat → α) (k j : Nat) (v : α) : Nat → Nat → α := fun k' j' => if k' = k then (if j' = j then v else f k' j') else f k' j'
theorem up2_ne {α : Type} {f : Nat → Nat → α} {k j k' : Nat} {v : α} (h : k' ≠ k) : up2 f k j v k' = f k' := by
  funext j'
  simp [up2, h]
theorem up2_at {α : Type} {f : Nat → Nat → α} {k j : Nat} {v : α} : up2 f k j v k j = v := by simp [up2]
theorem up2_nej {α : Type} {f : Nat → Nat → α} {k k' j j' : Nat} {v : α} (h : j' ≠ j) : up2 f k j v k' j' = f k' j' := by simp [up2, h]
def hV (q : Nat → Nat) (qF : hQF) (I : hI) (J : hJ) (Q : hQ) (k j x : Nat) : Value := if x = 1 then .long (J k j) else if x = 2 then va_rf ((qE qF Q k j).map q) else .int (I k j)
def hE (cA : Nat → ClassId) (q : Nat → Nat) (tF : hTF) (qF : hQF) (t : Nat → Nat × Nat) (I : hI) (J : hJ) (Q : hQ) (k : Nat) : va_E :=
  if (tE tF t k).1 < 11 then .inr ((tE tF t k).1, (kd (tE tF t k).1).mapIdx (fun j x => hV q qF I J Q k j x))
  else if (tE tF t k).1 = 11 then .inl (cA 11, (tE tF t k).2, .inl (I k))
  else if (tE tF t k).1 = 12 then .inl (cA 12, (tE tF t k).2, .inr (.inl (J k)))
  else .inl (cA (tE tF t k).1, (tE tF t k).2, .inr (.inr (.inr (.inr (fun j => (qE qF Q k j).map q)))))
def hW (cA : Nat → ClassId) (q : Nat → Nat) (tF : hTF) (qF : hQF) (a : hA) (I : hI) (J : hJ) (Q : hQ) : va_W := (List.range a.1).map (fun k => (q k, hE cA q tF qF a.2.2.2 I J Q k))
theorem hW_len {cA : Nat → ClassId} {q : Nat → Nat} {tF : hTF} {qF : hQF} {a : hA} {I : hI} {J : hJ} {Q : hQ} : (hW cA q tF qF a I J Q).length = a.1 := by simp [hW]
theorem hW_get {cA : Nat → ClassId} {q : Nat → Nat} {tF : hTF} {qF : hQF} {a : hA} {I : hI} {J : hJ} {Q : hQ} {k : Nat} (h : k < a.1) : (hW cA q tF qF a I J Q)[k]? = some (q k, hE cA q tF qF a.2.2.2 I J Q k) := by
  simp [hW, List.getElem?_range h]
theorem hW_lt {cA : Nat → ClassId} {q : Nat → Nat} {tF : hTF} {qF : hQF} {a : hA} {I : hI} {J : hJ} {Q : hQ} {k : Nat} {x : Nat × va_E} (h : (hW cA q tF qF a I J Q)[k]? = some x) : k < a.1 := by
  have h1 := (List.getElem?_eq_some_iff.mp h).1
  rwa [hW_len] at h1
theorem hW_set {cA : Nat → ClassId} {q : Nat → Nat} {tF : hTF} {qF : hQF} {a : hA} {I I' : hI} {J J' : hJ} {Q Q' : hQ} {k : Nat} {e : va_E} (hk : k < a.1) (h1 : hE cA q tF qF a.2.2.2 I' J' Q' k = e) (h2 : ∀ k', k' ≠ k → hE cA q tF qF a.2.2.2 I' J' Q' k' = hE cA q tF qF a.2.2.2 I J Q k') : (hW cA q tF qF a I J Q).set k (q k, e) = hW cA q tF qF a I' J' Q' := by
  apply List.ext_getElem?
  intro n
  by_cases hn : n < a.1
  · rw [hW_get hn]
    by_cases he : n = k
    · subst he
      rw [List.getElem?_set_self (by rw [hW_len]; exact hn), h1]
    · rw [List.getElem?_set_ne (Ne.symm he), hW_get hn, h2 n he]
  · rw [List.getElem?_eq_none (by rw [List.length_set, hW_len]; omega), List.getElem?_eq_none (by rw [hW_len]; omega)]
theorem hE_obj {cA : Nat → ClassId} {q : Nat → Nat} {tF : hTF} {qF : hQF} {t : Nat → Nat × Nat} {I : hI} {J : hJ} {Q : hQ} {k ci : Nat} (h : (tE tF t k).1 = ci) (hc : ci < 11) : hE cA q tF qF t I J Q k = .inr (ci, (kd ci).mapIdx (fun j x => hV q qF I J Q k j x)) := by
  subst h
  unfold hE
  rw [if_pos hc]
theorem hE_int {cA : Nat → ClassId} {q : Nat → Nat} {tF : hTF} {qF : hQF} {t : Nat → Nat × Nat} {I : hI} {J : hJ} {Q : hQ} {k : Nat} (h : (tE tF t k).1 = 11) : hE cA q tF qF t I J Q k = .inl (cA 11, (tE tF t k).2, .inl (I k)) := by
  unfold hE
  rw [h, if_neg (by decide), if_pos rfl]
theorem hE_long {cA : Nat → ClassId} {q : Nat → Nat} {tF : hTF} {qF : hQF} {t : Nat → Nat × Nat} {I : hI} {J : hJ} {Q : hQ} {k : Nat} (h : (tE tF t k).1 = 12) : hE cA q tF qF t I J Q k = .inl (cA 12, (tE tF t k).2, .inr (.inl (J k))) := by
  unfold hE
  rw [h, if_neg (by decide), if_neg (by decide), if_pos rfl]
theorem hE_ref {cA : Nat → ClassId} {q : Nat → Nat} {tF : hTF} {qF : hQF} {t : Nat → Nat × Nat} {I : hI} {J : hJ} {Q : hQ} {k x : Nat} (h : (tE tF t k).1 = x) (h2 : 12 < x) : hE cA q tF qF t I J Q k = .inl (cA x, (tE tF t k).2, .inr (.inr (.inr (.inr (fun j => (qE qF Q k j).map q))))) := by
  unfold hE
  rw [h, if_neg (by omega), if_neg (by omega), if_neg (by omega)]
/-- what a cell holds is of its own numbers alone -/
theorem hE_cong {cA : Nat → ClassId} {q : Nat → Nat} {tF : hTF} {qF : hQF} {t t' : Nat → Nat × Nat} {I I' : hI} {J J' : hJ} {Q Q' : hQ} {k : Nat} (ht : tE tF t' k = tE tF t k) (h1 : I' k = I k) (h2 : J' k = J k) (h3 : qE qF Q' k = qE qF Q k) : hE cA q tF qF t' I' J' Q' k = hE cA q tF qF t I J Q k := by
  unfold hE hV
  rw [ht, h1, h2, h3]
theorem mapIdx_set {α β : Type} (l : List α) (f g : Nat → α → β) (j : Nat) (v : β) (h1 : ∀ x, l[j]? = some x → g j x = v) (h2 : ∀ i x, i ≠ j → g i x = f i x) : (l.mapIdx f).set j v = l.mapIdx g := by
  apply List.ext_getElem?
  intro n
  by_cases hn : n = j
  · subst hn
    by_cases hl : n < l.length
    · rw [List.getElem?_set_self (by simpa using hl), List.getElem?_mapIdx, List.getElem?_eq_getElem hl]
      simp [h1 _ (List.getElem?_eq_getElem hl)]
    · rw [List.getElem?_eq_none (by simp; omega), List.getElem?_eq_none (by simp; omega)]
  · rw [List.getElem?_set_ne (Ne.symm hn), List.getElem?_mapIdx, List.getElem?_mapIdx]
    cases l[n]? with
    | none => rfl
    | some x => simp [h2 n x hn]
theorem up2_row (I : hI) (k j : Nat) (x : Int32) : up2 I k j x k = upd (I k) j x := by
  funext i
  simp [up2, upd]
theorem up2_rowL (J : hJ) (k j : Nat) (x : Int64) : up2 J k j x k = vp_updL (J k) j x := by
  funext i
  simp [up2, vp_updL]
end
section
/-! WHAT A STRETCH OF BYTECODE ASKS, as a proposition over abstract heaps: wpx one instruction, wpc up to the next label. -/
/-- an instruction: pc, what decode gives, its length; then as its kind has it: a target, a class, a callee (x), a field (y), an int, a long, a switch's rows -/
abbrev en : Type := Nat × Instr × Nat × Nat × Nat × Int32 × Int64 × List (Int32 × Nat)
abbrev hR : Type := Option Value → hA → hI → hJ → hQ → Prop
abbrev hS : Type := List Value → hA → hI → hJ → hQ → hR → Prop
abbrev lL : Type := List (Option Value)
abbrev hG : Type := Nat → lL → List Value → hA → hI → hJ → hQ → Prop
def ck (b : Bool) (P : Prop) : Prop := match b with
  | true => P
  | false => False
/-- for a callee that makes cells: the references are of cells that are there -/
def ca (b : Bool) (P S : Prop) : Prop := match b with
  | true => P ∧ S
  | false => S
theorem ca_ok {b : Bool} {P S : Prop} (h : ca b P S) : (b = true → P) ∧ S := by
  cases b with
  | true => exact ⟨fun _ => h.1, h.2⟩
  | false => exact ⟨fun h => Bool.noConfusion h, h⟩
theorem ck_iff {b : Bool} {P : Prop} : ck b P ↔ b = true ∧ P := by cases b <;> simp [ck]
def rv (o : Option Nat) : Value := match o with
  | some k => .ref k
  | none => .null
def lg (lv : lL) (i : Nat) : Option Value := match lv[i]? with
  | some o => o
  | none => none
def isW (o : Option Value) : Bool := match o with
  | some (.long _) => true
  | some (.double _) => true
  | _ => false
/-- a place below that holds a value of two slots loses it -/
def lc (lv : lL) (i : Nat) : lL := match i with
  | 0 => lv
  | i + 1 => match isW (lg lv i) with
    | true => lv.set i none
    | false => lv
def s1 (lv : lL) (i : Nat) (v : Value) (r : List Value) : Option (lL × List Value) := match Nat.blt i lv.length with
  | true => some ((lc lv i).set i (some v), r)
  | false => none
def s2 (lv : lL) (i : Nat) (v : Value) (r : List Value) : Option (lL × List Value) := match Nat.blt (i + 1) lv.length with
  | true => some (((lc lv i).set i (some v)).set (i + 1) none, r)
  | false => none
def li (lv : lL) (i : Nat) (st : List Value) : Option (lL × List Value) := match lg lv i with
  | some (.int x) => some (lv, .int x :: st)
  | _ => none
def ll (lv : lL) (i : Nat) (st : List Value) : Option (lL × List Value) := match lg lv i with
  | some (.long x) => some (lv, .long x :: st)
  | _ => none
def la (lv : lL) (i : Nat) (st : List Value) : Option (lL × List Value) := match lg lv i with
  | some (.ref x) => some (lv, .ref x :: st)
  | some .null => some (lv, .null :: st)
  | _ => none
def si (lv : lL) (i : Nat) (st : List Value) : Option (lL × List Value) := match st with
  | .int x :: r => s1 lv i (.int x) r
  | _ => none
def sl (lv : lL) (i : Nat) (st : List Value) : Option (lL × List Value) := match st with
  | .long x :: r => s2 lv i (.long x) r
  | _ => none
def sa (lv : lL) (i : Nat) (st : List Value) : Option (lL × List Value) := match st with
  | .ref x :: r => s1 lv i (.ref x) r
  | .null :: r => s1 lv i .null r
  | _ => none
def bi (lv : lL) (st : List Value) (f : Int32 → Int32 → Int32) : Option (lL × List Value) := match st with
  | .int y :: .int x :: r => some (lv, .int (f x y) :: r)
  | _ => none
def bl (lv : lL) (st : List Value) (f : Int64 → Int64 → Int64) : Option (lL × List Value) := match st with
  | .long y :: .long x :: r => some (lv, .long (f x y) :: r)
  | _ => none
def bs (lv : lL) (st : List Value) (f : Int64 → Int32 → Int64) : Option (lL × List Value) := match st with
  | .int y :: .long x :: r => some (lv, .long (f x y) :: r)
  | _ => none
def is1 (v : Value) : Bool := match v with
  | .int _ => true
  | .ref _ => true
  | .null => true
  | _ => false
/-- instructions that touch locals and the stack alone -/
def sm (i : Instr) (len : Nat) (c : Int32) (d : Int64) (lv : lL) (st : List Value) : Option (lL × List Value) := match i with
  | .aconst_null => some (lv, .null :: st)
  | .iconst _ => some (lv, .int c :: st)
  | .bipush _ => some (lv, .int c :: st)
  | .sipush _ => some (lv, .int c :: st)
  | .ldc _ => some (lv, .int c :: st)
  | .ldc_w _ => some (lv, .int c :: st)
  | .lconst _ => some (lv, .long d :: st)
  | .ldc2_w _ => some (lv, .long d :: st)
  | .iload i => li lv i st
  | .iload_n i => li lv i.val st
  | .lload i => ll lv i st
  | .lload_n i => ll lv i.val st
  | .aload i => la lv i st
  | .aload_n i => la lv i.val st
  | .istore i => si lv i st
  | .istore_n i => si lv i.val st
  | .lstore i => sl lv i st
  | .lstore_n i => sl lv i.val st
  | .astore i => sa lv i st
  | .astore_n i => sa lv i.val st
  | .iinc i _ => match lg lv i with
    | some (.int x) => s1 lv i (.int (x + c)) st
    | _ => none
  | .iadd => bi lv st (fun x y => x + y)
  | .isub => bi lv st (fun x y => x - y)
  | .imul => bi lv st (fun x y => x * y)
  | .iand => bi lv st (fun x y => x &&& y)
  | .ior => bi lv st (fun x y => x ||| y)
  | .ixor => bi lv st (fun x y => x ^^^ y)
  | .ishl => bi lv st (fun x y => x <<< (y &&& 31))
  | .ishr => bi lv st (fun x y => x >>> (y &&& 31))
  | .iushr => bi lv st (fun x y => (x.toUInt32 >>> (y.toUInt32 &&& Int32.toUInt32 31)).toInt32)
  | .ladd => bl lv st (fun x y => x + y)
  | .lsub => bl lv st (fun x y => x - y)
  | .lmul => bl lv st (fun x y => x * y)
  | .land => bl lv st (fun x y => x &&& y)
  | .lor => bl lv st (fun x y => x ||| y)
  | .lxor => bl lv st (fun x y => x ^^^ y)
  | .lshl => bs lv st (fun x y => x <<< (y.toInt64 &&& 63))
  | .lshr => bs lv st (fun x y => x >>> (y.toInt64 &&& 63))
  | .lushr => bs lv st (fun x y => (x.toUInt64 >>> (y.toInt64.toUInt64 &&& Int64.toUInt64 63)).toInt64)
  | .ineg => match st with
    | .int x :: r => some (lv, .int (-x) :: r)
    | _ => none
  | .lneg => match st with
    | .long x :: r => some (lv, .long (-x) :: r)
    | _ => none
  | .i2l => match st with
    | .int x :: r => some (lv, .long x.toInt64 :: r)
    | _ => none
  | .l2i => match st with
    | .long x :: r => some (lv, .int x.toInt32 :: r)
    | _ => none
  | .i2b => match st with
    | .int x :: r => some (lv, .int x.toInt8.toInt32 :: r)
    | _ => none
  | .i2s => match st with
    | .int x :: r => some (lv, .int x.toInt16.toInt32 :: r)
    | _ => none
  | .lcmp => match st with
    | .long y :: .long x :: r => some (lv, .int (lg_cmp x y) :: r)
    | _ => none
  | .dup => match st with
    | v :: r => match is1 v with
      | true => some (lv, v :: v :: r)
      | false => none
    | _ => none
  | .dup_x1 => match st with
    | v :: w :: r => match is1 v && is1 w with
      | true => some (lv, v :: w :: v :: r)
      | false => none
    | _ => none
  | .dup2 => match st with
    | .long x :: r => some (lv, .long x :: .long x :: r)
    | v :: w :: r => match is1 v && is1 w with
      | true => some (lv, v :: w :: v :: w :: r)
      | false => none
    | _ => none
  | _ => none
/-- the code from a pc on -/
def sk (code : List en) (pc : Nat) : List en := match code with
  | [] => []
  | x :: r => match Nat.beq x.1 pc with
    | true => x :: r
    | false => sk r pc
def pcOf (cs : List en) : Nat := match cs with
  | [] => 0
  | x :: _ => x.1
def ifc (cd : ClassFile.Cond) (x y : Int32) (A B : Prop) : Prop := match cd with
  | .eq => (x = y → A) ∧ (¬ x = y → B)
  | .ne => (¬ x = y → A) ∧ (x = y → B)
  | .lt => (x < y → A) ∧ (¬ x < y → B)
  | .ge => (y ≤ x → A) ∧ (¬ y ≤ x → B)
  | .gt => (y < x → A) ∧ (¬ y < x → B)
  | .le => (x ≤ y → A) ∧ (¬ x ≤ y → B)
def swx (x : Int32) (L : List (Int32 × Nat)) (T : Nat → Prop) (dflt : Prop) : Prop := match L with
  | [] => dflt
  | (v, t) :: L => (x = v → T t) ∧ (¬ x = v → swx x L T dflt)
/-- references among values are below N -/
def rlt (N : Nat) (v : Value) : Prop := match v with
  | .ref k => k < N
  | _ => True
def rok (N : Nat) (lv : lL) (st : List Value) : Prop := (∀ (i : Nat) (v : Value), lv[i]? = some (some v) → rlt N v) ∧ ∀ v ∈ st, rlt N v
/-- a callee: how many arguments (its receiver with them), the receiver's class (99: none is asked), whether it makes cells, how many, of how many slots, what it asks -/
abbrev ev : Type := Nat × Nat × Bool × Nat × Nat × hS
/-- a cell is there -/
def cin (base : Nat) (a : hA) (k : Nat) : Bool := Nat.blt k base || Nat.blt k a.1
def fin9 (ci j : Nat) : Bool := match vwCl[ci]? with
  | some r => (r.2.1 j).2.2.2
  | none => true
def hnew (a : hA) (n : Nat) (x : Nat × Nat) : hA := (a.1 + 1, a.2.1 + 1, a.2.2.1 + n, va_up a.2.2.2 a.1 x)
def cat8 (st : List Value) : Nat := match st with
  | [] => 0
  | v :: r => (if is1 v then 1 else 2) + cat8 r
def wpx (tF : hTF) (qF : hQF) (al : Bool) (base um zm : Nat) (env : List ev) (ini rz : Bool) (code : List en) (Rt : hR) (k : List en → lL → List Value → hA → hI → hJ → hQ → Prop) (cs : List en) (lv : lL) (st : List Value) (a : hA) (I : hI) (J : hJ) (Q : hQ) : Prop := match cs with
  | [] => False
  | (_, i, len, x, y, c, d, L) :: cs => match sm i len c d lv st with
    | some z => k cs z.1 z.2 a I J Q
    | none => match i with
      | .goto _ => k (sk code x) lv st a I J Q
      | .ifCond cd _ => match st with
        | .int v :: r => ifc cd v 0 (k (sk code x) lv r a I J Q) (k cs lv r a I J Q)
        | _ => False
      | .if_icmp cd _ => match st with
        | .int w :: .int v :: r => ifc cd v w (k (sk code x) lv r a I J Q) (k cs lv r a I J Q)
        | _ => False
      | .ifnull _ => match st with
        | .ref _ :: r => k cs lv r a I J Q
        | .null :: r => k (sk code x) lv r a I J Q
        | _ => False
      | .ifnonnull _ => match st with
        | .ref _ :: r => k (sk code x) lv r a I J Q
        | .null :: r => k cs lv r a I J Q
        | _ => False
      | .tableswitch _ _ _ _ => match st with
        | .int v :: r => swx v L (fun t => k (sk code t) lv r a I J Q) (k (sk code x) lv r a I J Q)
        | _ => False
      | .lookupswitch _ _ => match st with
        | .int v :: r => swx v L (fun t => k (sk code t) lv r a I J Q) (k (sk code x) lv r a I J Q)
        | _ => False
      | .idiv => match st with
        | .int w :: .int v :: r => ¬ w = 0 ∧ k cs lv (.int (v / w) :: r) a I J Q
        | _ => False
      | .irem => match st with
        | .int w :: .int v :: r => ¬ w = 0 ∧ k cs lv (.int (v - v / w * w) :: r) a I J Q
        | _ => False
      | .getfield _ => match st with
        | .ref o :: r => ck (cin base a o && Nat.beq (tE tF a.2.2.2 o).1 x) (match (kd x)[y]? with
          | some 1 => k cs lv (.long (J o y) :: r) a I J Q
          | some 2 => k cs lv (rv (qE qF Q o y) :: r) a I J Q
          | some _ => k cs lv (.int (I o y) :: r) a I J Q
          | none => False)
        | _ => False
      | .putfield _ => match st with
        | .int v :: .ref o :: r => ck (cin base a o && Nat.beq (tE tF a.2.2.2 o).1 x && (!fin9 x y || ini)) (match (kd x)[y]? with
          | some 0 => k cs lv r a (up2 I o y v) J Q
          | some 3 => (v = 0 ∨ v = 1) ∧ k cs lv r a (up2 I o y v) J Q
          | _ => False)
        | .long v :: .ref o :: r => ck (cin base a o && Nat.beq (tE tF a.2.2.2 o).1 x && (!fin9 x y || ini)) (match (kd x)[y]? with
          | some 1 => k cs lv r a I (up2 J o y v) Q
          | _ => False)
        | .ref v :: .ref o :: r => ck (cin base a o && Nat.beq (tE tF a.2.2.2 o).1 x && (!fin9 x y || ini) && (qF o y).isNone && cin base a v) (match (kd x)[y]? with
          | some 2 => k cs lv r a I J (up2 Q o y (some v))
          | _ => False)
        | _ => False
      | .iaload => match st with
        | .int i :: .ref o :: r => ck (cin base a o && Nat.beq (tE tF a.2.2.2 o).1 11) (vp_in i (tE tF a.2.2.2 o).2 ∧ k cs lv (.int (I o i.toNatClampNeg) :: r) a I J Q)
        | _ => False
      | .laload => match st with
        | .int i :: .ref o :: r => ck (cin base a o && Nat.beq (tE tF a.2.2.2 o).1 12) (vp_in i (tE tF a.2.2.2 o).2 ∧ k cs lv (.long (J o i.toNatClampNeg) :: r) a I J Q)
        | _ => False
      | .aaload => match st with
        | .int i :: .ref o :: r => ck (cin base a o && Nat.blt 12 (tE tF a.2.2.2 o).1 && Nat.blt (tE tF a.2.2.2 o).1 16) (vp_in i (tE tF a.2.2.2 o).2 ∧ k cs lv (rv (qE qF Q o i.toNatClampNeg) :: r) a I J Q)
        | _ => False
      | .iastore => match st with
        | .int v :: .int i :: .ref o :: r => ck (cin base a o && Nat.beq (tE tF a.2.2.2 o).1 11) (vp_in i (tE tF a.2.2.2 o).2 ∧ k cs lv r a (up2 I o i.toNatClampNeg v) J Q)
        | _ => False
      | .lastore => match st with
        | .long v :: .int i :: .ref o :: r => ck (cin base a o && Nat.beq (tE tF a.2.2.2 o).1 12) (vp_in i (tE tF a.2.2.2 o).2 ∧ k cs lv r a I (up2 J o i.toNatClampNeg v) Q)
        | _ => False
      | .aastore => match st with
        | .ref v :: .int i :: .ref o :: r => ck (cin base a o && cin base a v && Nat.beq ((tE tF a.2.2.2 v).1 + 7) (tE tF a.2.2.2 o).1 && Nat.blt 5 (tE tF a.2.2.2 v).1 && Nat.blt (tE tF a.2.2.2 v).1 9) (vp_in i (tE tF a.2.2.2 o).2 ∧ (qF o i.toNatClampNeg = none) ∧ k cs lv r a I J (up2 Q o i.toNatClampNeg (some v)))
        | _ => False
      | .arraylength => match st with
        | .ref o :: r => ck (cin base a o && Nat.blt 10 (tE tF a.2.2.2 o).1 && Nat.blt (tE tF a.2.2.2 o).1 16) (k cs lv (.int (Int32.ofNat (tE tF a.2.2.2 o).2) :: r) a I J Q)
        | _ => False
      | .new _ => ck (al && Nat.blt x 11) ((tF a.1 = none ∧ ∀ j, qF a.1 j = none) ∧ rok a.1 lv st ∧ (a.2.1 + 1 ≤ um ∧ a.2.2.1 + (kd x).length ≤ zm) ∧ k cs lv (.ref a.1 :: st) (hnew a (kd x).length (x, 0)) (va_up I a.1 (fun _ => 0)) (va_up J a.1 (fun _ => 0)) (va_up Q a.1 (fun _ => none)))
      | .newarray _ => match st with
        | .int v :: r => ck (al && decide (v.toNatClampNeg = y) && decide (¬ v < 0)) ((tF a.1 = none ∧ ∀ j, qF a.1 j = none) ∧ rok a.1 lv r ∧ (a.2.1 + 1 ≤ um ∧ a.2.2.1 + y ≤ zm) ∧ k cs lv (.ref a.1 :: r) (hnew a y (x, y)) (va_up I a.1 (fun _ => 0)) (va_up J a.1 (fun _ => 0)) (va_up Q a.1 (fun _ => none)))
        | _ => False
      | .anewarray _ => match st with
        | .int v :: r => ck (al && decide (v.toNatClampNeg = y) && decide (¬ v < 0)) ((tF a.1 = none ∧ ∀ j, qF a.1 j = none) ∧ rok a.1 lv r ∧ (a.2.1 + 1 ≤ um ∧ a.2.2.1 + y ≤ zm) ∧ k cs lv (.ref a.1 :: r) (hnew a y (x, y)) (va_up I a.1 (fun _ => 0)) (va_up J a.1 (fun _ => 0)) (va_up Q a.1 (fun _ => none)))
        | _ => False
      | .invokespecial _ => match Nat.beq x 99999 with
        | true => match st with
          | .ref _ :: r => ck (Nat.ble (cat8 r) 8) (k cs lv r a I J Q)
          | _ => False
        | false => match env[x]? with
          | some e => match (st.take e.1).reverse with
            | .ref o :: av => ck ((!e.2.2.1 || al) && Nat.ble e.1 st.length && Nat.ble (cat8 (st.drop e.1)) 8 && (Nat.beq e.2.2.2.1 0 || Nat.ble (a.2.1 + e.2.2.2.1) um) && (Nat.beq e.2.2.2.2.1 0 || Nat.ble (a.2.2.1 + e.2.2.2.2.1) zm)) (ca e.2.2.1 (rok a.1 lv (st.drop e.1)) (e.2.2.2.2.2 (.ref o :: av) a I J Q (fun v a' I' J' Q' => k cs lv (v.toList ++ st.drop e.1) a' I' J' Q')))
            | _ => False
          | none => False
      | .invokestatic _ => match Nat.beq x 99998 with
        | true => match st with
          | .int w :: .int v :: r => ck (Nat.ble (cat8 r) 8) (k cs lv (.int (if v < w then w else v) :: r) a I J Q)
          | _ => False
        | false => match Nat.beq x 99997 with
          | true => match st with
            | .int w :: .int v :: r => ck (Nat.ble (cat8 r) 8) (k cs lv (.int (if w < v then w else v) :: r) a I J Q)
            | _ => False
          | false => match env[x]? with
            | some e => ck ((!e.2.2.1 || al) && Nat.ble e.1 st.length && Nat.ble (cat8 (st.drop e.1)) 8 && (Nat.beq e.2.2.2.1 0 || Nat.ble (a.2.1 + e.2.2.2.1) um) && (Nat.beq e.2.2.2.2.1 0 || Nat.ble (a.2.2.1 + e.2.2.2.2.1) zm)) (ca e.2.2.1 (rok a.1 lv (st.drop e.1)) (e.2.2.2.2.2 (st.take e.1).reverse a I J Q (fun v a' I' J' Q' => k cs lv (v.toList ++ st.drop e.1) a' I' J' Q')))
            | none => False
      | .invokevirtual _ => match env[x]? with
        | some e => match (st.take e.1).reverse with
          | .ref o :: av => ck ((!e.2.2.1 || al) && Nat.ble e.1 st.length && Nat.ble (cat8 (st.drop e.1)) 8 && (Nat.beq e.2.2.2.1 0 || Nat.ble (a.2.1 + e.2.2.2.1) um) && (Nat.beq e.2.2.2.2.1 0 || Nat.ble (a.2.2.1 + e.2.2.2.2.1) zm) && cin base a o && Nat.beq (tE tF a.2.2.2 o).1 e.2.1) (ca e.2.2.1 (rok a.1 lv (st.drop e.1)) (e.2.2.2.2.2 (.ref o :: av) a I J Q (fun v a' I' J' Q' => k cs lv (v.toList ++ st.drop e.1) a' I' J' Q')))
          | _ => False
        | none => False
      | .ireturn => match st with
        | [.int v] => match rz with
          | true => (v = 0 ∨ v = 1) ∧ Rt (some (.int v)) a I J Q
          | false => Rt (some (.int v)) a I J Q
        | _ => False
      | .lreturn => match st with
        | [.long v] => Rt (some (.long v)) a I J Q
        | _ => False
      | .areturn => match st with
        | [.ref v] => Rt (some (.ref v)) a I J Q
        | [.null] => Rt (some .null) a I J Q
        | _ => False
      | .return_ => match st with
        | [] => Rt none a I J Q
        | _ => False
      | _ => False
/-- up to the next of the labels -/
def wpc (tF : hTF) (qF : hQF) (al : Bool) (base um zm : Nat) (env : List ev) (ini rz : Bool) (code : List en) (stops : List Nat) (G : hG) (Rt : hR) : Nat → List en → lL → List Value → hA → hI → hJ → hQ → Prop
  | 0, _, _, _, _, _, _, _ => False
  | n + 1, cs, lv, st, a, I, J, Q => wpx tF qF al base um zm env ini rz code Rt (fun cs' lv' st' a' I' J' Q' => match stops.elem (pcOf cs') with
    | true => match cs' with
      | [] => False
      | _ => G (pcOf cs') lv' st' a' I' J' Q'
    | false => wpc tF qF al base um zm env ini rz code stops G Rt n cs' lv' st' a' I' J' Q') cs lv st a I J Q
end
section
/-! THE MACHINE AT A STATE OF THE ABSTRACT HEAP: gw; and that a stretch's proposition brings the machine there: instructions on locals and the stack -/
def cv (q : Nat → Nat) (v : Value) : Value := match v with
  | .ref k => .ref (q k)
  | v => v
def hLs (ls : Array Slot) (n : Nat) (q : Nat → Nat) (lv : lL) : Prop := lv.length = n ∧ ∃ l, lv_has ls n l ∧ ∀ (i : Nat) (v : Value), lv[i]? = some (some v) → (i, cv q v) ∈ l
theorem cv_cat (q : Nat → Nat) (v : Value) : (cv q v).category = v.category := by cases v <;> rfl
theorem is1_cat {v : Value} (h : is1 v = true) : v.category = 1 := by cases v <;> first | rfl | cases h
theorem lg_at {ls : Array Slot} {n : Nat} {q : Nat → Nat} {lv : lL} {i : Nat} {v : Value} (h : hLs ls n q lv) (hg : lg lv i = some v) : ls[i]? = some (.val (cv q v)) := by
  obtain ⟨-, l, h1, h2⟩ := h
  refine h1.2.2 _ (h2 i v ?_)
  unfold lg at hg
  split at hg
  · rename_i o ho
    rw [ho, hg]
  · cases hg
theorem lc_len (lv : lL) (i : Nat) : (lc lv i).length = lv.length := by
  unfold lc
  split
  · rfl
  · split <;> simp
theorem lc_get {lv : lL} {i j : Nat} {w : Value} (h : (lc lv i)[j]? = some (some w)) : lv[j]? = some (some w) ∧ ¬ (j + 1 = i ∧ w.category = 2) := by
  unfold lc at h
  split at h
  · exact ⟨h, by omega⟩
  · rename_i i
    split at h
    · rename_i hw
      by_cases hj : i = j
      · subst hj
        by_cases hl : i < lv.length
        · rw [List.getElem?_set_self hl] at h
          cases h
        · rw [List.getElem?_eq_none (by simp; omega)] at h
          cases h
      · rw [List.getElem?_set_ne hj] at h
        exact ⟨h, by omega⟩
    · rename_i hw
      refine ⟨h, fun ⟨e1, e2⟩ => ?_⟩
      have e : j = i := by omega
      subst e
      simp only [lg, h] at hw
      cases w <;> first | (simp [isW] at hw; done) | (simp [Value.category] at e2; done)
theorem s1_ok {lv lv' : lL} {i : Nat} {v : Value} {r r' : List Value} (h : s1 lv i v r = some (lv', r')) : i < lv.length ∧ lv' = (lc lv i).set i (some v) ∧ r' = r := by
  unfold s1 at h
  split at h
  · rename_i hb
    cases h
    exact ⟨by simpa [Nat.blt_eq] using hb, rfl, rfl⟩
  · cases h
theorem s2_ok {lv lv' : lL} {i : Nat} {v : Value} {r r' : List Value} (h : s2 lv i v r = some (lv', r')) : i + 1 < lv.length ∧ lv' = ((lc lv i).set i (some v)).set (i + 1) none ∧ r' = r := by
  unfold s2 at h
  split at h
  · rename_i hb
    cases h
    exact ⟨by simpa [Nat.blt_eq] using hb, rfl, rfl⟩
  · cases h
theorem hLs_s1 {ls : Array Slot} {n : Nat} {q : Nat → Nat} {lv : lL} {i : Nat} {v : Value} {l : List (Nat × Value)} (hn : lv.length = n) (hi : i < n) (h2 : ∀ (j : Nat) (w : Value), lv[j]? = some (some w) → (j, cv q w) ∈ l) (h : lv_has ls n ((i, cv q v) :: l.filter (fun q => !(q.1 == i) && !(q.1 + 1 == i && q.2.category == 2)))) : hLs ls n q ((lc lv i).set i (some v)) := by
  refine ⟨by rw [List.length_set, lc_len, hn], _, h, fun j w hj => ?_⟩
  by_cases he : i = j
  · subst he
    rw [List.getElem?_set_self (by rw [lc_len, hn]; exact hi)] at hj
    cases hj
    exact List.mem_cons_self
  · rw [List.getElem?_set_ne he] at hj
    obtain ⟨a, b⟩ := lc_get hj
    refine List.mem_cons_of_mem _ (List.mem_filter.mpr ⟨h2 j w a, ?_⟩)
    have e1 : (j == i) = false := by simpa using Ne.symm he
    simp only [e1, Bool.not_false, Bool.true_and, cv_cat]
    rw [Bool.not_eq_true']
    simpa using fun x => by intro y; exact b ⟨x, y⟩
theorem hLs_s2 {ls : Array Slot} {n : Nat} {q : Nat → Nat} {lv : lL} {i : Nat} {v : Value} {l : List (Nat × Value)} (hn : lv.length = n) (hi : i + 1 < n) (h2 : ∀ (j : Nat) (w : Value), lv[j]? = some (some w) → (j, cv q w) ∈ l) (h : lv_has ls n ((i, cv q v) :: l.filter (fun q => !(q.1 == i) && (!(q.1 == i + 1) && !(q.1 + 1 == i && q.2.category == 2))))) : hLs ls n q (((lc lv i).set i (some v)).set (i + 1) none) := by
  refine ⟨by rw [List.length_set, List.length_set, lc_len, hn], _, h, fun j w hj => ?_⟩
  by_cases he1 : i + 1 = j
  · subst he1
    rw [List.getElem?_set_self (by rw [List.length_set, lc_len, hn]; exact hi)] at hj
    cases hj
  · rw [List.getElem?_set_ne he1] at hj
    by_cases he : i = j
    · subst he
      rw [List.getElem?_set_self (by rw [lc_len, hn]; omega)] at hj
      cases hj
      exact List.mem_cons_self
    · rw [List.getElem?_set_ne he] at hj
      obtain ⟨a, b⟩ := lc_get hj
      refine List.mem_cons_of_mem _ (List.mem_filter.mpr ⟨h2 j w a, ?_⟩)
      have e1 : (j == i) = false := by simpa using Ne.symm he
      have e2 : (j == i + 1) = false := by simpa using Ne.symm he1
      simp only [e1, e2, Bool.not_false, Bool.true_and, cv_cat]
      rw [Bool.not_eq_true']
      simpa using fun x => by intro y; exact b ⟨x, y⟩
def lw_g : List Cond := lw_tbl.filter goodWord
def isNest (w : Cond) : Bool := match w with
  | .methodLinkNest _ _ _ _ => true
  | _ => false
def lw_n : List Cond := lw_tbl.filter isNest
def tysA (cA : Nat → ClassId) : List (ClassId × FieldType) := [(cA 11, .int), (cA 12, .long), (cA 13, .object RX6), (cA 14, .object RX7), (cA 15, .object RX8)]
/-- what the tables say of the classes -/
def kk (D : va_G) (cA : Nat → ClassId) (U : State) : Prop := va_K D vwCl (tysA cA) U ∧ (∀ w ∈ lw_n, va_Nw w U) ∧ va_AO RX6 U ∧ va_AO RX7 U ∧ va_AO RX8 U
/-- what holds all through a method: the machine, the code, the words, its room -/
def cx (p : Program) (R : Room) (s : State) (m : MethodId) (args : Array Value) (meth : Method) (c : Code) (A : Nat → Prop) (D : va_G) (cA : Nat → ClassId) (cc : ByteArray) (own : String) (nL : Nat) (ret : Option FieldType) (ini : Bool) (d N0 base u0 z0 um zm : Nat) : Prop :=
  p.tables.exec = Jvm.exec ∧ c.code = cc ∧ c.maxLocals = nL ∧ meth.sig.returnType = ret ∧ meth.locks = false ∧ s.vm.findClass own = some m.cls ∧ (∀ w ∈ lw_g, w.before args s = true) ∧ kk D cA s ∧ (∀ q, s.heap.size ≤ q → A q) ∧ (ini = true → meth.name = "<init>") ∧ um = u0 + R.cells ∧ zm = z0 + R.slots ∧ R.frames = d ∧ R.locals = 64 * d ∧ base ≤ N0
def wfQ (qF : hQF) (a : hA) (Q : hQ) : Prop := ∀ k j x, k < a.1 → qE qF Q k j = some x → x < a.1
/-- the machine at pc, with these locals, this stack, this heap, comes to its end Qx -/
def gw (p : Program) (l : Launch) (e : Env) (R : Room) (s : State) (m : MethodId) (args : Array Value) (below : List Frame) (meth : Method) (c : Code) (Qx : State → Prop) (A : Nat → Prop) (D : va_G) (cA : Nat → ClassId) (q0 : Nat → Nat) (tF : hTF) (qF : hQF) (al : Bool) (N0 u0 z0 um zm : Nat) (pc : Nat) (lv : lL) (st : List Value) (a : hA) (I : hI) (J : hJ) (Q : hQ) : Prop :=
  ∀ (q : Nat → Nat) (H : Heap) (locs : List Loc) (ls : Array Slot), ((∀ k, k < N0 → q k = q0 k) ∧ (al = false → q = q0)) → (N0 ≤ a.1 ∧ u0 ≤ a.2.1 ∧ a.2.1 ≤ um ∧ z0 ≤ a.2.2.1 ∧ a.2.2.1 ≤ zm ∧ wfQ qF a Q) → va_P D vwCl (hW cA q tF qF a I J Q) H → va_D A (hW cA q tF qF a I J Q) → va_S A s.heap H locs → hLs ls c.maxLocals q lv → W p l e R s m args below meth c H locs (a.2.1 - u0) (a.2.2.1 - z0) Qx (F0 m pc ls (st.map (cv q)))
def ilen (i : Instr) : Nat := match i with
  | .bipush _ => 2
  | .sipush _ => 3
  | .ldc _ => 2
  | .ldc_w _ => 3
  | .ldc2_w _ => 3
  | .iload _ => 2
  | .lload _ => 2
  | .aload _ => 2
  | .istore _ => 2
  | .lstore _ => 2
  | .astore _ => 2
  | .iinc _ _ => 3
  | .goto _ => 3
  | .ifCond _ _ => 3
  | .if_icmp _ _ => 3
  | .ifnull _ => 3
  | .ifnonnull _ => 3
  | .getfield _ => 3
  | .putfield _ => 3
  | .invokespecial _ => 3
  | .invokestatic _ => 3
  | .invokevirtual _ => 3
  | .new _ => 3
  | .newarray _ => 2
  | .anewarray _ => 3
  | _ => 1
/-- a word of the tables at its place -/
def memH (n : Nat) (w : Cond) : Bool := decide (lw_tbl[n]? = some w) && goodWord w
def memN (n : Nat) (w : Cond) : Bool := decide (lw_tbl[n]? = some w) && isNest w
theorem memH_ok {n : Nat} {w : Cond} (h : memH n w = true) : w ∈ lw_g := by
  unfold memH at h
  rw [Bool.and_eq_true, decide_eq_true_eq] at h
  exact List.mem_filter.mpr ⟨List.mem_of_getElem? h.1, h.2⟩
theorem memN_ok {n : Nat} {w : Cond} (h : memN n w = true) : w ∈ lw_n := by
  unfold memN at h
  rw [Bool.and_eq_true, decide_eq_true_eq] at h
  exact List.mem_filter.mpr ⟨List.mem_of_getElem? h.1, h.2⟩
/-- the places of an instruction's words stand in its row -/
def hn (L : List (Int32 × Nat)) (i : Nat) : Nat := match L[i]? with
  | some y => y.2
  | none => 0
/-- the row's own constants are the instruction's -/
def okC (own : String) (i : Instr) (c : Int32) (d : Int64) (L : List (Int32 × Nat)) : Bool := match i with
  | .iconst n => decide (Int32.ofInt n = c)
  | .bipush n => decide ((Int8.ofInt n).toInt32 = c)
  | .sipush n => decide ((Int16.ofInt n).toInt32 = c)
  | .ldc x => memH (hn L 0) (Cond.constant own x c)
  | .ldc_w x => memH (hn L 0) (Cond.constant own x c)
  | .lconst n => decide (Int64.ofNat (n : Nat) = d)
  | .ldc2_w x => memH (hn L 0) (Cond.constantLong own x d)
  | .iinc _ n => decide (Int32.ofInt n = c)
  | _ => true
section GW1
variable {p : Program} {l : Launch} {e : Env} {R : Room} {s : State} {m : MethodId} {args : Array Value} {below : List Frame} {meth : Method} {c : Code} {Qx : State → Prop} {A : Nat → Prop} {D : va_G} {cA : Nat → ClassId} {q0 : Nat → Nat} {tF : hTF} {qF : hQF} {al : Bool} {N0 u0 z0 um zm base nL d : Nat} {cc : ByteArray} {own : String} {ret : Option FieldType} {ini : Bool} {pc : Nat} {lv lv' : lL} {st st' : List Value} {a : hA} {I : hI} {J : hJ} {Q : hQ}
theorem li_ok {i : Nat} (h : li lv i st = some (lv', st')) : ∃ x, lg lv i = some (.int x) ∧ lv' = lv ∧ st' = .int x :: st := by
  unfold li at h
  split at h
  · rename_i x hx
    cases h
    exact ⟨x, hx, rfl, rfl⟩
  · cases h
theorem ll_ok {i : Nat} (h : ll lv i st = some (lv', st')) : ∃ x, lg lv i = some (.long x) ∧ lv' = lv ∧ st' = .long x :: st := by
  unfold ll at h
  split at h
  · rename_i x hx
    cases h
    exact ⟨x, hx, rfl, rfl⟩
  · cases h
theorem la_ok {i : Nat} (h : la lv i st = some (lv', st')) : (∃ x, lg lv i = some (.ref x) ∧ lv' = lv ∧ st' = .ref x :: st) ∨ (lg lv i = some .null ∧ lv' = lv ∧ st' = .null :: st) := by
  unfold la at h
  split at h
  · rename_i x hx
    cases h
    exact Or.inl ⟨x, hx, rfl, rfl⟩
  · rename_i hx
    cases h
    exact Or.inr ⟨hx, rfl, rfl⟩
  · cases h
theorem si_ok {i : Nat} (h : si lv i st = some (lv', st')) : ∃ x, st = .int x :: st' ∧ i < lv.length ∧ lv' = (lc lv i).set i (some (.int x)) := by
  unfold si at h
  split at h
  · rename_i x r
    obtain ⟨h1, h2, h3⟩ := s1_ok h
    exact ⟨x, by rw [h3], h1, h2⟩
  · cases h
theorem sl_ok {i : Nat} (h : sl lv i st = some (lv', st')) : ∃ x, st = .long x :: st' ∧ i + 1 < lv.length ∧ lv' = ((lc lv i).set i (some (.long x))).set (i + 1) none := by
  unfold sl at h
  split at h
  · rename_i x r
    obtain ⟨h1, h2, h3⟩ := s2_ok h
    exact ⟨x, by rw [h3], h1, h2⟩
  · cases h
theorem sa_ok {i : Nat} (h : sa lv i st = some (lv', st')) : (∃ x, st = .ref x :: st' ∧ i < lv.length ∧ lv' = (lc lv i).set i (some (.ref x))) ∨ (st = .null :: st' ∧ i < lv.length ∧ lv' = (lc lv i).set i (some .null)) := by
  unfold sa at h
  split at h
  · rename_i x r
    obtain ⟨h1, h2, h3⟩ := s1_ok h
    exact Or.inl ⟨x, by rw [h3], h1, h2⟩
  · obtain ⟨h1, h2, h3⟩ := s1_ok h
    exact Or.inr ⟨by rw [h3], h1, h2⟩
  · cases h
theorem bi_ok {f : Int32 → Int32 → Int32} (h : bi lv st f = some (lv', st')) : ∃ x y r, st = .int y :: .int x :: r ∧ lv' = lv ∧ st' = .int (f x y) :: r := by
  unfold bi at h
  split at h
  · rename_i y x r
    cases h
    exact ⟨x, y, r, rfl, rfl, rfl⟩
  · cases h
theorem bl_ok {f : Int64 → Int64 → Int64} (h : bl lv st f = some (lv', st')) : ∃ x y r, st = .long y :: .long x :: r ∧ lv' = lv ∧ st' = .long (f x y) :: r := by
  unfold bl at h
  split at h
  · rename_i y x r
    cases h
    exact ⟨x, y, r, rfl, rfl, rfl⟩
  · cases h
theorem bs_ok {f : Int64 → Int32 → Int64} (h : bs lv st f = some (lv', st')) : ∃ x y r, st = .int y :: .long x :: r ∧ lv' = lv ∧ st' = .long (f x y) :: r := by
  unfold bs at h
  split at h
  · rename_i y x r
    cases h
    exact ⟨x, y, r, rfl, rfl, rfl⟩
  · cases h
end GW1
end
section
/-! soundness of the instructions on locals and the stack -/
theorem lg_get {lv : lL} {i : Nat} {v : Value} (hg : lg lv i = some v) : lv[i]? = some (some v) := by
  unfold lg at hg
  split at hg
  · rename_i o ho
    rw [ho, hg]
  · cases hg
section SM
variable {p : Program} {l : Launch} {e : Env} {R : Room} {s : State} {m : MethodId} {args : Array Value} {below : List Frame} {meth : Method} {c : Code} {Qx : State → Prop} {A : Nat → Prop} {D : va_G} {cA : Nat → ClassId} {q0 : Nat → Nat} {tF : hTF} {qF : hQF} {al : Bool} {N0 u0 z0 um zm base nL d : Nat} {cc : ByteArray} {own : String} {ret : Option FieldType} {ini : Bool} {pc : Nat} {lv lv' : lL} {st st' : List Value} {a : hA} {I : hI} {J : hJ} {Q : hQ}
set_option maxHeartbeats 4000000 in
theorem sm_sound {i : Instr} {len : Nat} {cI : Int32} {dJ : Int64} (C : cx p R s m args meth c A D cA cc own nL ret ini d N0 base u0 z0 um zm) (hd : decode cc pc = .ok (i, ilen i)) {L : List (Int32 × Nat)} (ho : okC own i cI dJ L = true) (h : sm i len cI dJ lv st = some (lv', st'))
    (k : gw p l e R s m args below meth c Qx A D cA q0 tF qF al N0 u0 z0 um zm (pc + ilen i) lv' st' a I J Q) : gw p l e R s m args below meth c Qx A D cA q0 tF qF al N0 u0 z0 um zm pc lv st a I J Q := by
  obtain ⟨hx, hb, hml, -, -, hown, hts, -⟩ := C
  intro q H locs ls h1 h2 hP hD hS hl
  have k := k q H locs
  have kz := k ls h1 h2 hP hD hS
  have hlen := hl.1
  unfold sm at h
  split at h
  · cases h; exact lv_null hx hb hd (kz hl)
  · cases h; exact lv_iconst hx hb hd (by simpa [okC] using ho) (kz hl)
  · cases h; exact lv_bipush hx hb hd (by simpa [okC] using ho) (kz hl)
  · cases h; exact lv_sipush hx hb hd (by simpa [okC] using ho) (kz hl)
  · cases h; exact lv_ldc hx hb hown (hts _ (memH_ok ho)) hd (kz hl)
  · cases h; exact lv_ldcw hx hb hown (hts _ (memH_ok ho)) hd (kz hl)
  · cases h; exact lv_lconst hx hb hd (by simpa [okC] using ho) (kz hl)
  · cases h; exact lv_ldc2 hx hb hown (hts _ (memH_ok ho)) hd (kz hl)
  · obtain ⟨x, g, rfl, rfl⟩ := li_ok h; exact lv_iload hx hb hd (lg_at hl g) (kz hl)
  · obtain ⟨x, g, rfl, rfl⟩ := li_ok h; exact lv_iload_n hx hb hd rfl (lg_at hl g) (kz hl)
  · obtain ⟨x, g, rfl, rfl⟩ := ll_ok h; exact lv_lload hx hb hd (lg_at hl g) (kz hl)
  · obtain ⟨x, g, rfl, rfl⟩ := ll_ok h; exact lv_lload_n hx hb hd rfl (lg_at hl g) (kz hl)
  · rcases la_ok h with ⟨x, g, rfl, rfl⟩ | ⟨g, rfl, rfl⟩
    · exact lv_aload hx hb hd (lg_at hl g) (kz hl)
    · exact lv_aloadN hx hb hd (lg_at hl g) (kz hl)
  · rcases la_ok h with ⟨x, g, rfl, rfl⟩ | ⟨g, rfl, rfl⟩
    · exact lv_aload_n hx hb hd rfl (lg_at hl g) (kz hl)
    · exact lv_aload_nN hx hb hd rfl (lg_at hl g) (kz hl)
  · obtain ⟨x, rfl, g, rfl⟩ := si_ok h
    obtain ⟨-, l0, h8, h9⟩ := hl
    exact lv_istore hx hb hd h8 (by omega) rfl (fun ls1 hl1 => k ls1 h1 h2 hP hD hS (hLs_s1 hlen (by omega) h9 hl1))
  · obtain ⟨x, rfl, g, rfl⟩ := si_ok h
    obtain ⟨-, l0, h8, h9⟩ := hl
    exact lv_istore_n hx hb hd rfl h8 (by omega) rfl (fun ls1 hl1 => k ls1 h1 h2 hP hD hS (hLs_s1 hlen (by omega) h9 hl1))
  · obtain ⟨x, rfl, g, rfl⟩ := sl_ok h
    obtain ⟨-, l0, h8, h9⟩ := hl
    exact lv_lstore hx hb hd h8 (by omega) rfl (fun ls1 hl1 => k ls1 h1 h2 hP hD hS (hLs_s2 hlen (by omega) h9 hl1))
  · obtain ⟨x, rfl, g, rfl⟩ := sl_ok h
    obtain ⟨-, l0, h8, h9⟩ := hl
    exact lv_lstore_n hx hb hd rfl h8 (by omega) rfl (fun ls1 hl1 => k ls1 h1 h2 hP hD hS (hLs_s2 hlen (by omega) h9 hl1))
  · rcases sa_ok h with ⟨x, rfl, g, rfl⟩ | ⟨rfl, g, rfl⟩
    · obtain ⟨-, l0, h8, h9⟩ := hl
      exact lv_astore hx hb hd h8 (by omega) rfl (fun ls1 hl1 => k ls1 h1 h2 hP hD hS (hLs_s1 hlen (by omega) h9 hl1))
    · obtain ⟨-, l0, h8, h9⟩ := hl
      exact lv_astoreN hx hb hd h8 (by omega) rfl (fun ls1 hl1 => k ls1 h1 h2 hP hD hS (hLs_s1 hlen (by omega) h9 hl1))
  · rcases sa_ok h with ⟨x, rfl, g, rfl⟩ | ⟨rfl, g, rfl⟩
    · obtain ⟨-, l0, h8, h9⟩ := hl
      exact lv_astore_n hx hb hd rfl h8 (by omega) rfl (fun ls1 hl1 => k ls1 h1 h2 hP hD hS (hLs_s1 hlen (by omega) h9 hl1))
    · obtain ⟨-, l0, h8, h9⟩ := hl
      exact lv_astore_nN hx hb hd rfl h8 (by omega) rfl (fun ls1 hl1 => k ls1 h1 h2 hP hD hS (hLs_s1 hlen (by omega) h9 hl1))
  · split at h
    · rename_i x g
      obtain ⟨g1, rfl, rfl⟩ := s1_ok h
      have ga := g
      obtain ⟨-, l0, h8, h9⟩ := hl
      have hm := h9 _ (.int x) (lg_get g)
      obtain ⟨j, hj⟩ := List.getElem?_of_mem hm
      exact lv_iinc hx hb hd h8 hj (by have := ho; simp [okC] at this; rw [this]) (by omega) rfl (fun ls1 hl1 => k ls1 h1 h2 hP hD hS (hLs_s1 hlen (by omega) h9 hl1))
    · cases h
  · obtain ⟨x, y, r, rfl, rfl, rfl⟩ := bi_ok h; exact lv_iadd hx hb hd (kz hl)
  · obtain ⟨x, y, r, rfl, rfl, rfl⟩ := bi_ok h; exact lv_isub hx hb hd (kz hl)
  · obtain ⟨x, y, r, rfl, rfl, rfl⟩ := bi_ok h; exact lv_imul hx hb hd (kz hl)
  · obtain ⟨x, y, r, rfl, rfl, rfl⟩ := bi_ok h; exact lv_iand hx hb hd (kz hl)
  · obtain ⟨x, y, r, rfl, rfl, rfl⟩ := bi_ok h; exact lv_ior hx hb hd (kz hl)
  · obtain ⟨x, y, r, rfl, rfl, rfl⟩ := bi_ok h; exact lv_ixor hx hb hd (kz hl)
  · obtain ⟨x, y, r, rfl, rfl, rfl⟩ := bi_ok h; exact lv_ishl hx hb hd (kz hl)
  · obtain ⟨x, y, r, rfl, rfl, rfl⟩ := bi_ok h; exact lv_ishr hx hb hd (kz hl)
  · obtain ⟨x, y, r, rfl, rfl, rfl⟩ := bi_ok h; exact lv_iushr hx hb hd rfl (kz hl)
  · obtain ⟨x, y, r, rfl, rfl, rfl⟩ := bl_ok h; exact lv_ladd hx hb hd (kz hl)
  · obtain ⟨x, y, r, rfl, rfl, rfl⟩ := bl_ok h; exact lv_lsub hx hb hd (kz hl)
  · obtain ⟨x, y, r, rfl, rfl, rfl⟩ := bl_ok h; exact lv_lmul hx hb hd (kz hl)
  · obtain ⟨x, y, r, rfl, rfl, rfl⟩ := bl_ok h; exact lv_land hx hb hd (kz hl)
  · obtain ⟨x, y, r, rfl, rfl, rfl⟩ := bl_ok h; exact lv_lor hx hb hd (kz hl)
  · obtain ⟨x, y, r, rfl, rfl, rfl⟩ := bl_ok h; exact lv_lxor hx hb hd (kz hl)
  · obtain ⟨x, y, r, rfl, rfl, rfl⟩ := bs_ok h; exact lv_lshl hx hb hd rfl (kz hl)
  · obtain ⟨x, y, r, rfl, rfl, rfl⟩ := bs_ok h; exact lv_lshr hx hb hd rfl (kz hl)
  · obtain ⟨x, y, r, rfl, rfl, rfl⟩ := bs_ok h; exact lv_lushr hx hb hd rfl (kz hl)
  · split at h
    · cases h; exact lv_ineg hx hb hd (kz hl)
    · cases h
  · split at h
    · cases h; exact lv_lneg hx hb hd (kz hl)
    · cases h
  · split at h
    · cases h; exact lv_i2l hx hb hd rfl (kz hl)
    · cases h
  · split at h
    · cases h; exact lv_l2i hx hb hd rfl (kz hl)
    · cases h
  · split at h
    · cases h; exact lv_i2b hx hb hd rfl (kz hl)
    · cases h
  · split at h
    · cases h; exact lv_i2s hx hb hd rfl (kz hl)
    · cases h
  · split at h
    · cases h; exact W.lcmp hx hb hd (kz hl)
    · cases h
  · split at h
    · split at h
      · rename_i v r hv
        cases h; exact lv_dup hx hb hd (by rw [cv_cat]; exact is1_cat hv) (kz hl)
      · cases h
    · cases h
  · split at h
    · split at h
      · rename_i v w r hv
        cases h
        rw [Bool.and_eq_true] at hv
        exact lv_dup_x1 hx hb hd (by rw [cv_cat]; exact is1_cat hv.1) (by rw [cv_cat]; exact is1_cat hv.2) (kz hl)
      · cases h
    · cases h
  · split at h
    · cases h; exact lv_dup2_2 hx hb hd rfl (kz hl)
    · split at h
      · rename_i v w r _ hv
        cases h
        rw [Bool.and_eq_true] at hv
        exact lv_dup2_11 hx hb hd (by rw [cv_cat]; exact is1_cat hv.1) (by rw [cv_cat]; exact is1_cat hv.2) (kz hl)
      · cases h
    · cases h
  · cases h
end SM
end
section
/-! soundness of the instructions on the heap -/
def tyA (ci : Nat) : Nat → FieldType := match ci with
  | 0 => tyX0
  | 1 => tyX1
  | 2 => tyX2
  | 3 => tyX3
  | 4 => tyX4
  | 5 => tyX5
  | 6 => tyX6
  | 7 => tyX7
  | 8 => tyX8
  | 9 => tyX9
  | _ => tyX10
def kty (x : Nat) (ty : FieldType) : Bool := match x with
  | 0 => decide (ty = .int)
  | 1 => decide (ty = .long)
  | 3 => decide (ty = .boolean)
  | _ => match ty with
    | .object _ => true
    | .array _ => true
    | _ => false
def cls_P (ci : Nat) (r : vw_C) : Prop := (∀ w ∈ u_ws r.1 r.2.1 r.2.2, w ∈ lw_g) ∧ (∀ k, k < r.2.2 → parseFieldDescriptor (r.2.1 k).2.2.1 = some (tyA ci k)) ∧ (∀ a, a < r.2.2 → ∀ b, b < r.2.2 → a ≠ b → (r.2.1 a).2.1 ≠ (r.2.1 b).2.1) ∧ (kd ci).length = r.2.2 ∧ (∀ j, j < r.2.2 → kty ((kd ci).getD j 9) (tyA ci j) = true) ∧ Cond.instantiable r.1 r.2.2 ∈ lw_g ∧ Cond.initialized r.1 ∈ lw_g
set_option maxRecDepth 100000 in
theorem cls_0 : cls_P 0 (RX0, TX0, 1) := ⟨by decide +kernel, tyX0_ok, nmX0, by decide +kernel, by decide +kernel, by decide +kernel, by decide +kernel⟩
set_option maxRecDepth 100000 in
theorem cls_1 : cls_P 1 (RX1, TX1, 1) := ⟨by decide +kernel, tyX1_ok, nmX1, by decide +kernel, by decide +kernel, by decide +kernel, by decide +kernel⟩
set_option maxRecDepth 100000 in
theorem cls_2 : cls_P 2 (RX2, TX2, 3) := ⟨by decide +kernel, tyX2_ok, nmX2, by decide +kernel, by decide +kernel, by decide +kernel, by decide +kernel⟩
set_option maxRecDepth 100000 in
theorem cls_3 : cls_P 3 (RX3, TX3, 1) := ⟨by decide +kernel, tyX3_ok, nmX3, by decide +kernel, by decide +kernel, by decide +kernel, by decide +kernel⟩
set_option maxRecDepth 100000 in
theorem cls_4 : cls_P 4 (RX4, TX4, 8) := ⟨by decide +kernel, tyX4_ok, nmX4, by decide +kernel, by decide +kernel, by decide +kernel, by decide +kernel⟩
set_option maxRecDepth 100000 in
theorem cls_5 : cls_P 5 (RX5, TX5, 6) := ⟨by decide +kernel, tyX5_ok, nmX5, by decide +kernel, by decide +kernel, by decide +kernel, by decide +kernel⟩
set_option maxRecDepth 100000 in
theorem cls_6 : cls_P 6 (RX6, TX6, 6) := ⟨by decide +kernel, tyX6_ok, nmX6, by decide +kernel, by decide +kernel, by decide +kernel, by decide +kernel⟩
set_option maxRecDepth 100000 in
theorem cls_7 : cls_P 7 (RX7, TX7, 3) := ⟨by decide +kernel, tyX7_ok, nmX7, by decide +kernel, by decide +kernel, by decide +kernel, by decide +kernel⟩
set_option maxRecDepth 100000 in
theorem cls_8 : cls_P 8 (RX8, TX8, 3) := ⟨by decide +kernel, tyX8_ok, nmX8, by decide +kernel, by decide +kernel, by decide +kernel, by decide +kernel⟩
set_option maxRecDepth 100000 in
theorem cls_9 : cls_P 9 (RX9, TX9, 16) := ⟨by decide +kernel, tyX9_ok, nmX9, by decide +kernel, by decide +kernel, by decide +kernel, by decide +kernel⟩
set_option maxRecDepth 100000 in
theorem cls_10 : cls_P 10 (RX10, TX10, 38) := ⟨by decide +kernel, tyX10_ok, nmX10, by decide +kernel, by decide +kernel, by decide +kernel, by decide +kernel⟩
theorem cls_ok (ci : Nat) (h : ci < 11) : ∃ r : vw_C, vwCl[ci]? = some r ∧ cls_P ci r := by
  match ci, h with
  | 0, _ => exact ⟨_, rfl, cls_0⟩
  | 1, _ => exact ⟨_, rfl, cls_1⟩
  | 2, _ => exact ⟨_, rfl, cls_2⟩
  | 3, _ => exact ⟨_, rfl, cls_3⟩
  | 4, _ => exact ⟨_, rfl, cls_4⟩
  | 5, _ => exact ⟨_, rfl, cls_5⟩
  | 6, _ => exact ⟨_, rfl, cls_6⟩
  | 7, _ => exact ⟨_, rfl, cls_7⟩
  | 8, _ => exact ⟨_, rfl, cls_8⟩
  | 9, _ => exact ⟨_, rfl, cls_9⟩
  | 10, _ => exact ⟨_, rfl, cls_10⟩
  | n + 11, h => omega
/-- the word of a field's link -/
def okF (own : String) (idx x y : Nat) (L : List (Int32 × Nat)) : Bool := match vwCl[x]? with
  | some r => memH (hn L 0) (Cond.fieldLink own idx (r.2.1 y).1 (r.2.1 y).2.1 (r.2.1 y).2.2.1)
  | none => false
/-- a final field is put by its own class's constructor -/
def okP (own : String) (x y : Nat) : Bool := match vwCl[x]? with
  | some r => !(r.2.1 y).2.2.2 || decide ((r.2.1 y).1 = own)
  | none => false
section HO
variable {p : Program} {l : Launch} {e : Env} {R : Room} {s : State} {m : MethodId} {args : Array Value} {below : List Frame} {meth : Method} {c : Code} {Qx : State → Prop} {A : Nat → Prop} {D : va_G} {cA : Nat → ClassId} {q0 : Nat → Nat} {tF : hTF} {qF : hQF} {al : Bool} {N0 u0 z0 um zm base nL d : Nat} {cc : ByteArray} {own : String} {ret : Option FieldType} {ini : Bool} {pc : Nat} {lv lv' : lL} {st st' : List Value} {a : hA} {I : hI} {J : hJ} {Q : hQ}
theorem cin_lt {k : Nat} (hb : base ≤ N0) (hN : N0 ≤ a.1) (h : cin base a k = true) : k < a.1 := by
  unfold cin at h
  rw [Bool.or_eq_true, Nat.blt_eq, Nat.blt_eq] at h
  omega
theorem cv_rv (q : Nat → Nat) (o : Option Nat) : cv q (rv o) = va_rf (o.map q) := by cases o <;> rfl
theorem gw_getfield {idx x y o κ : Nat} {v : Value} {r : List Value} (C : cx p R s m args meth c A D cA cc own nL ret ini d N0 base u0 z0 um zm) (hd : decode cc pc = .ok (.getfield idx, 3)) {L : List (Int32 × Nat)} (ho : okF own idx x y L = true) (hin : cin base a o = true) (ht : (tE tF a.2.2.2 o).1 = x) (h11 : x < 11) (hy : (kd x)[y]? = some κ) (hv : ∀ q, hV q qF I J Q o y κ = cv q v)
    (k : gw p l e R s m args below meth c Qx A D cA q0 tF qF al N0 u0 z0 um zm (pc + 3) lv (v :: r) a I J Q) : gw p l e R s m args below meth c Qx A D cA q0 tF qF al N0 u0 z0 um zm pc lv (.ref o :: r) a I J Q := by
  obtain ⟨hx, hb, hml, -, -, hown, hts, hK, -, -, -, -, -, -, hbs⟩ := C
  intro q H locs ls h1 h2 hP hD hS hl
  have hlt := cin_lt hbs h2.1 hin
  obtain ⟨rc, e1, e2, e3, e4, e5, -⟩ := cls_ok x h11
  have hyl : y < rc.2.2 := by rw [← e5]; exact (List.getElem?_eq_some_iff.mp hy).1
  have hlk : Cond.fieldLink own idx (rc.2.1 y).1 (rc.2.1 y).2.1 (rc.2.1 y).2.2.1 ∈ lw_g := by
    unfold okF at ho
    rw [e1] at ho
    exact memH_ok ho
  have hcell := hW_get (cA := cA) (q := q) (tF := tF) (qF := qF) (I := I) (J := J) (Q := Q) hlt
  rw [hE_obj ht h11] at hcell
  exact va_get hx hb hts e2 hown hK.1 hP o hcell e1 y hyl (hts _ hlk) (fun _ h9 => h9) (v := cv q v) (by rw [List.getElem?_mapIdx, hy]; simp [hv]) hd (k q H locs ls h1 h2 hP hD hS hl)
theorem gw_put {idx x y o κ : Nat} {v : Value} {r : List Value} {I' : hI} {J' : hJ} {Q' : hQ} (C : cx p R s m args meth c A D cA cc own nL ret ini d N0 base u0 z0 um zm) (hd : decode cc pc = .ok (.putfield idx, 3)) {L : List (Int32 × Nat)} (ho : okF own idx x y L = true) (hop : okP own x y = true) (hin : cin base a o = true) (ht : (tE tF a.2.2.2 o).1 = x) (h11 : x < 11) (hy : (kd x)[y]? = some κ) (hfin : (!fin9 x y || ini) = true)
    (hn : ∀ q, narrow (tyA x y) (cv q v) = cv q v) (hf : ∀ q, fits (tyA x y) (cv q v) = true) (hv : ∀ q, hV q qF I' J' Q' o y κ = cv q v) (hj : ∀ q j z, j ≠ y → hV q qF I' J' Q' o j z = hV q qF I J Q o j z) (hoth : ∀ k', k' ≠ o → I' k' = I k' ∧ J' k' = J k' ∧ qE qF Q' k' = qE qF Q k') (hwf : N0 ≤ a.1 → wfQ qF a Q → wfQ qF a Q')
    (k : gw p l e R s m args below meth c Qx A D cA q0 tF qF al N0 u0 z0 um zm (pc + 3) lv r a I' J' Q') : gw p l e R s m args below meth c Qx A D cA q0 tF qF al N0 u0 z0 um zm pc lv (v :: .ref o :: r) a I J Q := by
  obtain ⟨hx, hb, hml, -, -, hown, hts, hK, -, hini, -, -, -, -, hbs⟩ := C
  intro q H locs ls h1 h2 hP hD hS hl
  have hlt := cin_lt hbs h2.1 hin
  obtain ⟨rc, e1, e2, e3, e4, e5, -⟩ := cls_ok x h11
  have hyl : y < rc.2.2 := by rw [← e5]; exact (List.getElem?_eq_some_iff.mp hy).1
  have hlk : Cond.fieldLink own idx (rc.2.1 y).1 (rc.2.1 y).2.1 (rc.2.1 y).2.2.1 ∈ lw_g := by
    unfold okF at ho
    rw [e1] at ho
    exact memH_ok ho
  have hcell := hW_get (cA := cA) (q := q) (tF := tF) (qF := qF) (I := I) (J := J) (Q := Q) hlt
  rw [hE_obj ht h11] at hcell
  have hset : (hW cA q tF qF a I J Q).set o (q o, .inr (x, ((kd x).mapIdx (fun j z => hV q qF I J Q o j z)).set y (cv q v))) = hW cA q tF qF a I' J' Q' := by
    refine hW_set hlt ?_ (fun k' hk' => hE_cong rfl (hoth k' hk').1 (hoth k' hk').2.1 (hoth k' hk').2.2)
    rw [hE_obj ht h11, mapIdx_set _ _ (fun j z => hV q qF I' J' Q' o j z) y (cv q v) (fun z hz => ?_) (fun j z hj' => hj q j z hj')]
    rw [hy] at hz
    cases hz
    exact hv q
  have kz : ∀ (H1 : Heap) (locs1 : List Loc), va_P D vwCl ((hW cA q tF qF a I J Q).set o (q o, .inr (x, ((kd x).mapIdx (fun j z => hV q qF I J Q o j z)).set y (cv q v)))) H1 → va_D A ((hW cA q tF qF a I J Q).set o (q o, .inr (x, ((kd x).mapIdx (fun j z => hV q qF I J Q o j z)).set y (cv q v)))) → va_S A s.heap H1 locs1 → W p l e R s m args below meth c H1 locs1 (a.2.1 - u0) (a.2.2.1 - z0) Qx (F0 m (pc + 3) ls (r.map (cv q))) := by
    intro H1 locs1 hP1 hD1 hS1
    rw [hset] at hP1 hD1
    exact k q H1 locs1 ls h1 ⟨h2.1, h2.2.1, h2.2.2.1, h2.2.2.2.1, h2.2.2.2.2.1, hwf h2.1 h2.2.2.2.2.2⟩ hP1 hD1 hS1 hl
  have hyl2 : y < ((kd x).mapIdx (fun j z => hV q qF I J Q o j z)).length := by rw [List.length_mapIdx, e5]; exact hyl
  cases hfb : (rc.2.1 y).2.2.2 with
  | false => exact va_put (v := cv q v) (ty := tyA x y) hx hb hts e2 (tyA x) e3 e4 hown hK.1 hP hD hS o hcell e1 y hyl (hts _ hlk) (fun _ h9 => h9) hfb (e3 y hyl) (hn q) (hf q) hyl2 hd kz
  | true =>
    have hi : ini = true := by
      have : fin9 x y = true := by unfold fin9; rw [e1]; exact hfb
      rw [this] at hfin
      simpa using hfin
    have hdecl : (rc.2.1 y).1 = own := by
      unfold okP at hop
      rw [e1] at hop
      simp only [hfb, Bool.not_true, Bool.false_or, decide_eq_true_eq] at hop
      exact hop
    exact va_putF (v := cv q v) (ty := tyA x y) hx hb hts e2 (tyA x) e3 e4 hown hK.1 hP hD hS o hcell e1 y hyl (hts _ hlk) (fun _ h9 => h9) hfb (hini hi) hdecl (e3 y hyl) (hn q) (hf q) hyl2 hd kz
end HO
end
section
/-! soundness: arrays, new, branches -/
section AO8
variable {p : Program} {l : Launch} {e : Env} {R : Room} {s : State} {m : MethodId} {args : Array Value} {below : List Frame} {meth : Method} {c : Code} {Qx : State → Prop} {A : Nat → Prop} {D : va_G} {cA : Nat → ClassId} {q0 : Nat → Nat} {tF : hTF} {qF : hQF} {al : Bool} {N0 u0 z0 um zm base nL d : Nat} {cc : ByteArray} {own : String} {ret : Option FieldType} {ini : Bool} {pc : Nat} {lv lv' : lL} {st st' : List Value} {a : hA} {I : hI} {J : hJ} {Q : hQ}
theorem gw_iaload {o : Nat} {i : Int32} {r : List Value} (C : cx p R s m args meth c A D cA cc own nL ret ini d N0 base u0 z0 um zm) (hd : decode cc pc = .ok (.iaload, 1)) (hin : cin base a o = true) (ht : (tE tF a.2.2.2 o).1 = 11) (hi : vp_in i (tE tF a.2.2.2 o).2)
    (k : gw p l e R s m args below meth c Qx A D cA q0 tF qF al N0 u0 z0 um zm (pc + 1) lv (.int (I o i.toNatClampNeg) :: r) a I J Q) : gw p l e R s m args below meth c Qx A D cA q0 tF qF al N0 u0 z0 um zm pc lv (.int i :: .ref o :: r) a I J Q := by
  obtain ⟨hx, hb, hml, -, -, hown, hts, hK, -, -, -, -, -, -, hbs⟩ := C
  intro q H locs ls h1 h2 hP hD hS hl
  have hcell := hW_get (cA := cA) (q := q) (tF := tF) (qF := qF) (I := I) (J := J) (Q := Q) (cin_lt hbs h2.1 hin)
  rw [hE_int ht] at hcell
  exact va_iald hx hb hK.1 hP o 0 hcell rfl hi hd (k q H locs ls h1 h2 hP hD hS hl)
theorem gw_laload {o : Nat} {i : Int32} {r : List Value} (C : cx p R s m args meth c A D cA cc own nL ret ini d N0 base u0 z0 um zm) (hd : decode cc pc = .ok (.laload, 1)) (hin : cin base a o = true) (ht : (tE tF a.2.2.2 o).1 = 12) (hi : vp_in i (tE tF a.2.2.2 o).2)
    (k : gw p l e R s m args below meth c Qx A D cA q0 tF qF al N0 u0 z0 um zm (pc + 1) lv (.long (J o i.toNatClampNeg) :: r) a I J Q) : gw p l e R s m args below meth c Qx A D cA q0 tF qF al N0 u0 z0 um zm pc lv (.int i :: .ref o :: r) a I J Q := by
  obtain ⟨hx, hb, hml, -, -, hown, hts, hK, -, -, -, -, -, -, hbs⟩ := C
  intro q H locs ls h1 h2 hP hD hS hl
  have hcell := hW_get (cA := cA) (q := q) (tF := tF) (qF := qF) (I := I) (J := J) (Q := Q) (cin_lt hbs h2.1 hin)
  rw [hE_long ht] at hcell
  exact va_lald hx hb hK.1 hP o 1 hcell rfl hi hd (k q H locs ls h1 h2 hP hD hS hl)
theorem gw_aaload {o : Nat} {i : Int32} {r : List Value} (C : cx p R s m args meth c A D cA cc own nL ret ini d N0 base u0 z0 um zm) (hd : decode cc pc = .ok (.aaload, 1)) (hin : cin base a o = true) (ht : 12 < (tE tF a.2.2.2 o).1) (ht2 : (tE tF a.2.2.2 o).1 < 16) (hi : vp_in i (tE tF a.2.2.2 o).2)
    (k : gw p l e R s m args below meth c Qx A D cA q0 tF qF al N0 u0 z0 um zm (pc + 1) lv (rv (qE qF Q o i.toNatClampNeg) :: r) a I J Q) : gw p l e R s m args below meth c Qx A D cA q0 tF qF al N0 u0 z0 um zm pc lv (.int i :: .ref o :: r) a I J Q := by
  obtain ⟨hx, hb, hml, -, -, hown, hts, hK, -, -, -, -, -, -, hbs⟩ := C
  intro q H locs ls h1 h2 hP hD hS hl
  have hcell := hW_get (cA := cA) (q := q) (tF := tF) (qF := qF) (I := I) (J := J) (Q := Q) (cin_lt hbs h2.1 hin)
  rw [hE_ref rfl ht] at hcell
  have kz := k q H locs ls h1 h2 hP hD hS hl
  rw [List.map_cons, cv_rv] at kz
  rcases (show (tE tF a.2.2.2 o).1 = 13 ∨ (tE tF a.2.2.2 o).1 = 14 ∨ (tE tF a.2.2.2 o).1 = 15 by omega) with e | e | e <;> rw [e] at hcell
  · exact va_aldq (C := RX6) hx hb hK.1 hP o 2 hcell rfl hi hd kz
  · exact va_aldq (C := RX7) hx hb hK.1 hP o 3 hcell rfl hi hd kz
  · exact va_aldq (C := RX8) hx hb hK.1 hP o 4 hcell rfl hi hd kz
theorem gw_iastore {o : Nat} {i v : Int32} {r : List Value} (C : cx p R s m args meth c A D cA cc own nL ret ini d N0 base u0 z0 um zm) (hd : decode cc pc = .ok (.iastore, 1)) (hin : cin base a o = true) (ht : (tE tF a.2.2.2 o).1 = 11) (hi : vp_in i (tE tF a.2.2.2 o).2)
    (k : gw p l e R s m args below meth c Qx A D cA q0 tF qF al N0 u0 z0 um zm (pc + 1) lv r a (up2 I o i.toNatClampNeg v) J Q) : gw p l e R s m args below meth c Qx A D cA q0 tF qF al N0 u0 z0 um zm pc lv (.int v :: .int i :: .ref o :: r) a I J Q := by
  obtain ⟨hx, hb, hml, -, -, hown, hts, hK, -, -, -, -, -, -, hbs⟩ := C
  intro q H locs ls h1 h2 hP hD hS hl
  have hlt := cin_lt hbs h2.1 hin
  have hcell := hW_get (cA := cA) (q := q) (tF := tF) (qF := qF) (I := I) (J := J) (Q := Q) hlt
  rw [hE_int ht] at hcell
  refine va_iast hx hb hK.1 hP hD hS o 0 hcell rfl hi hd (fun H1 locs1 hP1 hD1 hS1 => ?_)
  have hset : (hW cA q tF qF a I J Q).set o (q o, .inl (cA 11, (tE tF a.2.2.2 o).2, .inl (upd (I o) i.toNatClampNeg v))) = hW cA q tF qF a (up2 I o i.toNatClampNeg v) J Q := by
    refine hW_set hlt ?_ (fun k' hk' => hE_cong rfl (up2_ne hk') rfl rfl)
    rw [hE_int ht, up2_row]
  rw [hset] at hP1 hD1
  exact k q H1 locs1 ls h1 h2 hP1 hD1 hS1 hl
theorem gw_lastore {o : Nat} {i : Int32} {v : Int64} {r : List Value} (C : cx p R s m args meth c A D cA cc own nL ret ini d N0 base u0 z0 um zm) (hd : decode cc pc = .ok (.lastore, 1)) (hin : cin base a o = true) (ht : (tE tF a.2.2.2 o).1 = 12) (hi : vp_in i (tE tF a.2.2.2 o).2)
    (k : gw p l e R s m args below meth c Qx A D cA q0 tF qF al N0 u0 z0 um zm (pc + 1) lv r a I (up2 J o i.toNatClampNeg v) Q) : gw p l e R s m args below meth c Qx A D cA q0 tF qF al N0 u0 z0 um zm pc lv (.long v :: .int i :: .ref o :: r) a I J Q := by
  obtain ⟨hx, hb, hml, -, -, hown, hts, hK, -, -, -, -, -, -, hbs⟩ := C
  intro q H locs ls h1 h2 hP hD hS hl
  have hlt := cin_lt hbs h2.1 hin
  have hcell := hW_get (cA := cA) (q := q) (tF := tF) (qF := qF) (I := I) (J := J) (Q := Q) hlt
  rw [hE_long ht] at hcell
  refine va_last hx hb hK.1 hP hD hS o 1 hcell rfl hi hd (fun H1 locs1 hP1 hD1 hS1 => ?_)
  have hset : (hW cA q tF qF a I J Q).set o (q o, .inl (cA 12, (tE tF a.2.2.2 o).2, .inr (.inl (vp_updL (J o) i.toNatClampNeg v)))) = hW cA q tF qF a I (up2 J o i.toNatClampNeg v) Q := by
    refine hW_set hlt ?_ (fun k' hk' => hE_cong rfl rfl (up2_ne hk') rfl)
    rw [hE_long ht, up2_rowL]
  rw [hset] at hP1 hD1
  exact k q H1 locs1 ls h1 h2 hP1 hD1 hS1 hl
theorem qE_ne {o j k' : Nat} {v : Option Nat} (h : k' ≠ o) : qE qF (up2 Q o j v) k' = qE qF Q k' := by
  funext i
  unfold qE
  rw [up2_ne h]
theorem qE_row {o j : Nat} {v : Nat} (h : qF o j = none) : (fun i => (qE qF (up2 Q o j (some v)) o i)) = va_up (qE qF Q o) j (some v) := by
  funext i
  unfold qE va_up up2
  by_cases hi : i = j
  · subst hi
    simp [h]
  · simp [hi]
theorem wf_up {o j v : Nat} (h : qF o j = none) (hv : v < a.1) (hw : wfQ qF a Q) : wfQ qF a (up2 Q o j (some v)) := by
  intro k i x hk hq
  by_cases ho : k = o
  · subst ho
    have e := congrFun (qE_row (qF := qF) (Q := Q) (v := v) h) i
    rw [e] at hq
    unfold va_up at hq
    split at hq
    · cases hq; exact hv
    · exact hw k i x hk hq
  · rw [qE_ne ho] at hq
    exact hw k i x hk hq
theorem gw_aastore {o v : Nat} {i : Int32} {r : List Value} (C : cx p R s m args meth c A D cA cc own nL ret ini d N0 base u0 z0 um zm) (hd : decode cc pc = .ok (.aastore, 1)) (hin : cin base a o = true) (hinv : cin base a v = true) (ht : (tE tF a.2.2.2 v).1 + 7 = (tE tF a.2.2.2 o).1) (h5 : 5 < (tE tF a.2.2.2 v).1) (h9 : (tE tF a.2.2.2 v).1 < 9) (hi : vp_in i (tE tF a.2.2.2 o).2) (hq : qF o i.toNatClampNeg = none)
    (k : gw p l e R s m args below meth c Qx A D cA q0 tF qF al N0 u0 z0 um zm (pc + 1) lv r a I J (up2 Q o i.toNatClampNeg (some v))) : gw p l e R s m args below meth c Qx A D cA q0 tF qF al N0 u0 z0 um zm pc lv (.ref v :: .int i :: .ref o :: r) a I J Q := by
  obtain ⟨hx, hb, hml, -, -, hown, hts, hK, -, -, -, -, -, -, hbs⟩ := C
  intro q H locs ls h1 h2 hP hD hS hl
  have hlt := cin_lt hbs h2.1 hin
  have hlv := cin_lt hbs h2.1 hinv
  have hcell := hW_get (cA := cA) (q := q) (tF := tF) (qF := qF) (I := I) (J := J) (Q := Q) hlt
  have hcv := hW_get (cA := cA) (q := q) (tF := tF) (qF := qF) (I := I) (J := J) (Q := Q) hlv
  rw [hE_ref ht.symm (by omega)] at hcell
  rw [hE_obj rfl (by omega)] at hcv
  have kz : ∀ (H1 : Heap) (locs1 : List Loc), va_P D vwCl ((hW cA q tF qF a I J Q).set o (q o, .inl (cA ((tE tF a.2.2.2 v).1 + 7), (tE tF a.2.2.2 o).2, .inr (.inr (.inr (.inr (va_up (fun j => (qE qF Q o j).map q) i.toNatClampNeg (some (q v))))))))) H1 → va_D A ((hW cA q tF qF a I J Q).set o (q o, .inl (cA ((tE tF a.2.2.2 v).1 + 7), (tE tF a.2.2.2 o).2, .inr (.inr (.inr (.inr (va_up (fun j => (qE qF Q o j).map q) i.toNatClampNeg (some (q v))))))))) → va_S A s.heap H1 locs1 → W p l e R s m args below meth c H1 locs1 (a.2.1 - u0) (a.2.2.1 - z0) Qx (F0 m (pc + 1) ls (r.map (cv q))) := by
    intro H1 locs1 hP1 hD1 hS1
    have hset : (hW cA q tF qF a I J Q).set o (q o, .inl (cA ((tE tF a.2.2.2 v).1 + 7), (tE tF a.2.2.2 o).2, .inr (.inr (.inr (.inr (va_up (fun j => (qE qF Q o j).map q) i.toNatClampNeg (some (q v)))))))) = hW cA q tF qF a I J (up2 Q o i.toNatClampNeg (some v)) := by
      refine hW_set hlt ?_ (fun k' hk' => hE_cong rfl rfl rfl (qE_ne hk'))
      rw [hE_ref ht.symm (by omega)]
      have e : (fun j => (qE qF (up2 Q o i.toNatClampNeg (some v)) o j).map q) = va_up (fun j => (qE qF Q o j).map q) i.toNatClampNeg (some (q v)) := by
        funext j
        have e := congrFun (qE_row (qF := qF) (Q := Q) (v := v) hq) j
        rw [e]
        unfold va_up
        split <;> rfl
      rw [e]
    rw [hset] at hP1 hD1
    exact k q H1 locs1 ls h1 ⟨h2.1, h2.2.1, h2.2.2.1, h2.2.2.2.1, h2.2.2.2.2.1, wf_up hq hlv h2.2.2.2.2.2⟩ hP1 hD1 hS1 hl
  rcases (show (tE tF a.2.2.2 v).1 = 6 ∨ (tE tF a.2.2.2 v).1 = 7 ∨ (tE tF a.2.2.2 v).1 = 8 by omega) with e | e | e <;> rw [e] at hcell hcv kz
  · exact va_astq (r := (RX6, TX6, 6)) hx hb hK.1 hP hD hS o 2 v 6 hcell rfl hcv rfl hi hd kz
  · exact va_astq (r := (RX7, TX7, 3)) hx hb hK.1 hP hD hS o 3 v 7 hcell rfl hcv rfl hi hd kz
  · exact va_astq (r := (RX8, TX8, 3)) hx hb hK.1 hP hD hS o 4 v 8 hcell rfl hcv rfl hi hd kz
theorem gw_alen {o : Nat} {r : List Value} (C : cx p R s m args meth c A D cA cc own nL ret ini d N0 base u0 z0 um zm) (hd : decode cc pc = .ok (.arraylength, 1)) (hin : cin base a o = true) (ht : 10 < (tE tF a.2.2.2 o).1) (ht2 : (tE tF a.2.2.2 o).1 < 16)
    (k : gw p l e R s m args below meth c Qx A D cA q0 tF qF al N0 u0 z0 um zm (pc + 1) lv (.int (Int32.ofNat (tE tF a.2.2.2 o).2) :: r) a I J Q) : gw p l e R s m args below meth c Qx A D cA q0 tF qF al N0 u0 z0 um zm pc lv (.ref o :: r) a I J Q := by
  obtain ⟨hx, hb, hml, -, -, hown, hts, hK, -, -, -, -, -, -, hbs⟩ := C
  intro q H locs ls h1 h2 hP hD hS hl
  have hcell := hW_get (cA := cA) (q := q) (tF := tF) (qF := qF) (I := I) (J := J) (Q := Q) (cin_lt hbs h2.1 hin)
  have kz := k q H locs ls h1 h2 hP hD hS hl
  rcases (show (tE tF a.2.2.2 o).1 = 11 ∨ (tE tF a.2.2.2 o).1 = 12 ∨ (tE tF a.2.2.2 o).1 = 13 ∨ (tE tF a.2.2.2 o).1 = 14 ∨ (tE tF a.2.2.2 o).1 = 15 by omega) with e | e | e | e | e
  · rw [hE_int e] at hcell
    exact va_alen hx hb hK.1 hP o 0 hcell rfl rfl hd kz
  · rw [hE_long e] at hcell
    exact va_alen hx hb hK.1 hP o 1 hcell rfl rfl hd kz
  · rw [hE_ref e (by omega)] at hcell
    exact va_alen hx hb hK.1 hP o 2 hcell rfl rfl hd kz
  · rw [hE_ref e (by omega)] at hcell
    exact va_alen hx hb hK.1 hP o 3 hcell rfl rfl hd kz
  · rw [hE_ref e (by omega)] at hcell
    exact va_alen hx hb hK.1 hP o 4 hcell rfl rfl hd kz
theorem gw_if {cd : ClassFile.Cond} {off : Int} {tgt : Nat} {x : Int32} {r : List Value} (C : cx p R s m args meth c A D cA cc own nL ret ini d N0 base u0 z0 um zm) (hd : decode cc pc = .ok (.ifCond cd off, 3)) (ht : (pc : Int) + off = (tgt : Int))
    (k : ifc cd x 0 (gw p l e R s m args below meth c Qx A D cA q0 tF qF al N0 u0 z0 um zm tgt lv r a I J Q) (gw p l e R s m args below meth c Qx A D cA q0 tF qF al N0 u0 z0 um zm (pc + 3) lv r a I J Q)) : gw p l e R s m args below meth c Qx A D cA q0 tF qF al N0 u0 z0 um zm pc lv (.int x :: r) a I J Q := by
  obtain ⟨hx, hb, -⟩ := C
  intro q H locs ls h1 h2 hP hD hS hl
  cases cd with
  | eq => exact lv_if_eq hx hb hd ht (fun c => k.1 c q H locs ls h1 h2 hP hD hS hl) (fun c => k.2 c q H locs ls h1 h2 hP hD hS hl)
  | ne => exact lv_if_ne hx hb hd ht (fun c => k.1 c q H locs ls h1 h2 hP hD hS hl) (fun c => k.2 c q H locs ls h1 h2 hP hD hS hl)
  | lt => exact lv_if_lt hx hb hd ht (fun c => k.1 c q H locs ls h1 h2 hP hD hS hl) (fun c => k.2 c q H locs ls h1 h2 hP hD hS hl)
  | ge => exact lv_if_ge hx hb hd ht (fun c => k.1 c q H locs ls h1 h2 hP hD hS hl) (fun c => k.2 c q H locs ls h1 h2 hP hD hS hl)
  | gt => exact lv_if_gt hx hb hd ht (fun c => k.1 c q H locs ls h1 h2 hP hD hS hl) (fun c => k.2 c q H locs ls h1 h2 hP hD hS hl)
  | le => exact lv_if_le hx hb hd ht (fun c => k.1 c q H locs ls h1 h2 hP hD hS hl) (fun c => k.2 c q H locs ls h1 h2 hP hD hS hl)
theorem gw_icmp {cd : ClassFile.Cond} {off : Int} {tgt : Nat} {x y : Int32} {r : List Value} (C : cx p R s m args meth c A D cA cc own nL ret ini d N0 base u0 z0 um zm) (hd : decode cc pc = .ok (.if_icmp cd off, 3)) (ht : (pc : Int) + off = (tgt : Int))
    (k : ifc cd x y (gw p l e R s m args below meth c Qx A D cA q0 tF qF al N0 u0 z0 um zm tgt lv r a I J Q) (gw p l e R s m args below meth c Qx A D cA q0 tF qF al N0 u0 z0 um zm (pc + 3) lv r a I J Q)) : gw p l e R s m args below meth c Qx A D cA q0 tF qF al N0 u0 z0 um zm pc lv (.int y :: .int x :: r) a I J Q := by
  obtain ⟨hx, hb, -⟩ := C
  intro q H locs ls h1 h2 hP hD hS hl
  cases cd with
  | eq => exact lv_icmp_eq hx hb hd ht (fun c => k.1 c q H locs ls h1 h2 hP hD hS hl) (fun c => k.2 c q H locs ls h1 h2 hP hD hS hl)
  | ne => exact lv_icmp_ne hx hb hd ht (fun c => k.1 c q H locs ls h1 h2 hP hD hS hl) (fun c => k.2 c q H locs ls h1 h2 hP hD hS hl)
  | lt => exact lv_icmp_lt hx hb hd ht (fun c => k.1 c q H locs ls h1 h2 hP hD hS hl) (fun c => k.2 c q H locs ls h1 h2 hP hD hS hl)
  | ge => exact lv_icmp_ge hx hb hd ht (fun c => k.1 c q H locs ls h1 h2 hP hD hS hl) (fun c => k.2 c q H locs ls h1 h2 hP hD hS hl)
  | gt => exact lv_icmp_gt hx hb hd ht (fun c => k.1 c q H locs ls h1 h2 hP hD hS hl) (fun c => k.2 c q H locs ls h1 h2 hP hD hS hl)
  | le => exact lv_icmp_le hx hb hd ht (fun c => k.1 c q H locs ls h1 h2 hP hD hS hl) (fun c => k.2 c q H locs ls h1 h2 hP hD hS hl)
theorem gw_goto {off : Int} {tgt : Nat} {r : List Value} (C : cx p R s m args meth c A D cA cc own nL ret ini d N0 base u0 z0 um zm) (hd : decode cc pc = .ok (.goto off, 3)) (ht : (pc : Int) + off = (tgt : Int))
    (k : gw p l e R s m args below meth c Qx A D cA q0 tF qF al N0 u0 z0 um zm tgt lv r a I J Q) : gw p l e R s m args below meth c Qx A D cA q0 tF qF al N0 u0 z0 um zm pc lv r a I J Q := by
  obtain ⟨hx, hb, -⟩ := C
  intro q H locs ls h1 h2 hP hD hS hl
  exact lv_goto hx hb hd ht (k q H locs ls h1 h2 hP hD hS hl)
end AO8
end
section
/-! soundness: new cells, nulls, switches, divisions, returns -/
theorem hW_push {cA : Nat → ClassId} {q : Nat → Nat} {tF : hTF} {qF : hQF} {a : hA} {I : hI} {J : hJ} {Q : hQ} {n q' : Nat} {x : Nat × Nat} (hw : wfQ qF a Q) (ht : tF a.1 = none) (hq : ∀ j, qF a.1 j = none) :
    hW cA (va_up q a.1 q') tF qF (hnew a n x) (va_up I a.1 (fun _ => 0)) (va_up J a.1 (fun _ => 0)) (va_up Q a.1 (fun _ => none)) = hW cA q tF qF a I J Q ++ [(q', hE cA q (fun _ => none) (fun _ _ => none) (fun _ => x) (fun _ _ => 0) (fun _ _ => 0) (fun _ _ => none) 0)] := by
  have e0 : ∀ k, k < a.1 → hE cA (va_up q a.1 q') tF qF (va_up a.2.2.2 a.1 x) (va_up I a.1 (fun _ => 0)) (va_up J a.1 (fun _ => 0)) (va_up Q a.1 (fun _ => none)) k = hE cA q tF qF a.2.2.2 I J Q k := by
    intro k hk
    have hne : k ≠ a.1 := by omega
    have e1 : tE tF (va_up a.2.2.2 a.1 x) k = tE tF a.2.2.2 k := by unfold tE va_up; simp [hne]
    have e2 : qE qF (va_up Q a.1 (fun _ => none)) k = qE qF Q k := by funext j; unfold qE va_up; simp [hne]
    rw [hE_cong (I := I) (J := J) (Q := Q) (t := a.2.2.2) e1 (va_up_ne _ _ hne) (va_up_ne _ _ hne) e2]
    have e3 : ∀ j, (qE qF Q k j).map (va_up q a.1 q') = (qE qF Q k j).map q := by
      intro j
      cases h : qE qF Q k j with
      | none => rfl
      | some z =>
        have hz := hw k j z hk h
        simp only [Option.map_some]
        rw [va_up_ne _ _ (by omega)]
    unfold hE hV
    simp only [e3]
  unfold hW
  show (List.range (a.1 + 1)).map _ = _
  rw [List.range_succ, List.map_append]
  congr 1
  · apply List.map_congr_left
    intro k hk
    have hk' : k < a.1 := by simpa using hk
    show (va_up q a.1 q' k, hE cA (va_up q a.1 q') tF qF (va_up a.2.2.2 a.1 x) _ _ _ k) = _
    rw [e0 k hk', va_up_ne _ _ (by omega)]
  · show [(va_up q a.1 q' a.1, hE cA (va_up q a.1 q') tF qF (va_up a.2.2.2 a.1 x) _ _ _ a.1)] = _
    rw [va_up_self]
    have e1 : tE tF (va_up a.2.2.2 a.1 x) a.1 = x := by unfold tE; rw [ht]; exact va_up_self _ _ _
    have e2 : ∀ j, qE qF (va_up Q a.1 (fun _ => none)) a.1 j = none := by intro j; unfold qE; rw [hq]; show va_up Q a.1 (fun _ => none) a.1 j = none; rw [va_up_self]
    congr 2
    unfold hE hV
    simp only [e1, e2, va_up_self]
    rfl
theorem wf_new {qF : hQF} {a : hA} {Q : hQ} {n : Nat} {x : Nat × Nat} (hw : wfQ qF a Q) (hq : ∀ j, qF a.1 j = none) : wfQ qF (hnew a n x) (va_up Q a.1 (fun _ => none)) := by
  intro k j z hk h
  have hk' : k < a.1 + 1 := hk
  show z < a.1 + 1
  by_cases e : k = a.1
  · subst e
    unfold qE at h
    rw [hq, va_up_self] at h
    cases h
  · have : qE qF (va_up Q a.1 (fun _ => none)) k j = qE qF Q k j := by unfold qE va_up; simp [e]
    rw [this] at h
    have := hw k j z (by omega) h
    omega
theorem cv_new {q : Nat → Nat} {N q' : Nat} {v : Value} (h : rlt N v) : cv (va_up q N q') v = cv q v := by
  cases v with
  | ref k =>
    have hk : k < N := h
    show Value.ref (va_up q N q' k) = Value.ref (q k)
    rw [va_up_ne _ _ (Nat.ne_of_lt hk)]
  | _ => rfl
theorem hLs_new {ls : Array Slot} {n N q' : Nat} {q : Nat → Nat} {lv : lL} (h : hLs ls n q lv) (hr : ∀ (i : Nat) (v : Value), lv[i]? = some (some v) → rlt N v) : hLs ls n (va_up q N q') lv := by
  obtain ⟨h0, l, h1, h2⟩ := h
  exact ⟨h0, l, h1, fun i v hv => by rw [cv_new (hr i v hv)]; exact h2 i v hv⟩
theorem map_new {q : Nat → Nat} {N q' : Nat} {st : List Value} (hr : ∀ v ∈ st, rlt N v) : st.map (cv (va_up q N q')) = st.map (cv q) := List.map_congr_left fun v hv => cv_new (hr v hv)
theorem kd_len (x : Nat) (h : x < 11) : ∀ j, j < (kd x).length → (kd x).getD j 9 < 4 := by
  match x, h with
  | 0, _ => decide
  | 1, _ => decide
  | 2, _ => decide
  | 3, _ => decide
  | 4, _ => decide
  | 5, _ => decide
  | 6, _ => decide
  | 7, _ => decide
  | 8, _ => decide
  | 9, _ => decide
  | 10, _ => decide
  | n + 11, h => omega
section NW9
variable {p : Program} {l : Launch} {e : Env} {R : Room} {s : State} {m : MethodId} {args : Array Value} {below : List Frame} {meth : Method} {c : Code} {Qx : State → Prop} {A : Nat → Prop} {D : va_G} {cA : Nat → ClassId} {q0 : Nat → Nat} {tF : hTF} {qF : hQF} {al : Bool} {N0 u0 z0 um zm base nL d : Nat} {cc : ByteArray} {own : String} {ret : Option FieldType} {ini : Bool} {pc : Nat} {lv lv' : lL} {st st' : List Value} {a : hA} {I : hI} {J : hJ} {Q : hQ}
theorem dflt_kind {x : Nat} {ty : FieldType} (h4 : x < 4) (h : kty x ty = true) : defaultValue ty = hV (fun k => k) (fun _ _ => none) (fun _ _ => 0) (fun _ _ => 0) (fun _ _ => none) 0 0 x := by
  match x, h4 with
  | 0, _ => simp only [kty, decide_eq_true_eq] at h; subst h; rfl
  | 1, _ => simp only [kty, decide_eq_true_eq] at h; subst h; rfl
  | 2, _ => cases ty <;> first | rfl | (simp [kty] at h; done)
  | 3, _ => simp only [kty, decide_eq_true_eq] at h; subst h; rfl
  | n + 4, h4 => omega
theorem gw_new {idx x : Nat} (C : cx p R s m args meth c A D cA cc own nL ret ini d N0 base u0 z0 um zm) (hal : al = true) (hd : decode cc pc = .ok (.new idx, 3)) (hlk : ∀ r, vwCl[x]? = some r → Cond.classLink own idx r.1 ∈ lw_g) (h11 : x < 11) (ht : tF a.1 = none ∧ ∀ j, qF a.1 j = none) (hr : rok a.1 lv st) (hu : a.2.1 + 1 ≤ um ∧ a.2.2.1 + (kd x).length ≤ zm)
    (k : gw p l e R s m args below meth c Qx A D cA q0 tF qF al N0 u0 z0 um zm (pc + 3) lv (.ref a.1 :: st) (hnew a (kd x).length (x, 0)) (va_up I a.1 (fun _ => 0)) (va_up J a.1 (fun _ => 0)) (va_up Q a.1 (fun _ => none))) : gw p l e R s m args below meth c Qx A D cA q0 tF qF al N0 u0 z0 um zm pc lv st a I J Q := by
  obtain ⟨hx, hb, hml, -, -, hown, hts, hK, hA, -, hum, hzm, -, -, hbs⟩ := C
  intro q H locs ls h1 h2 hP hD hS hl
  obtain ⟨rc, e1, e2, e3, e4, e5, e6, e7, e8⟩ := cls_ok x h11
  have hfs : ∀ j, j < rc.2.2 → defaultValue (tyA x j) = vp_V ((kd x).mapIdx (fun j z => hV q (fun _ _ => none) (fun _ _ => 0) (fun _ _ => 0) (fun _ _ => none) 0 j z)) j := by
    intro j hj
    have hj' : j < (kd x).length := by rw [e5]; exact hj
    unfold vp_V
    have hg : (kd x)[j]? = some ((kd x).getD j 9) := by rw [List.getD_eq_getElem?_getD, List.getElem?_eq_getElem hj']; rfl
    rw [dflt_kind (kd_len x h11 j hj') (e6 j hj), List.getD_eq_getElem?_getD (l := List.mapIdx _ _), List.getElem?_mapIdx, hg]
    rfl
  obtain ⟨g1, g2, g3, g4, g5, g6⟩ := h2
  refine va_new hx hb hts e2 (tyA x) e3 hown (hts _ (hlk rc e1)) (hts _ e7) (hts _ e8) hK.1 hP hD hS hA e1 hfs (by omega) (by rw [← e5]; omega) hd (fun q' H1 hP1 hD1 hS1 => ?_)
  have hcellE : hE cA q (fun _ => none) (fun _ _ => none) (fun _ => (x, 0)) (fun _ _ => 0) (fun _ _ => 0) (fun _ _ => none) 0 = .inr (x, (kd x).mapIdx (fun j z => hV q (fun _ _ => none) (fun _ _ => 0) (fun _ _ => 0) (fun _ _ => none) 0 j z)) := hE_obj rfl h11
  rw [← hcellE, ← hW_push (n := (kd x).length) g6 ht.1 ht.2] at hP1 hD1
  have kz := k (va_up q a.1 q') H1 locs ls ⟨fun k' hk' => by rw [va_up_ne _ _ (by omega)]; exact h1.1 k' hk', fun h => absurd (h.symm.trans hal) (by decide)⟩ ⟨Nat.le_succ_of_le g1, Nat.le_succ_of_le g2, hu.1, Nat.le_trans g4 (Nat.le_add_right _ _), hu.2, wf_new g6 ht.2⟩ hP1 hD1 hS1 (hLs_new hl hr.1)
  rw [List.map_cons, map_new hr.2] at kz
  have ec : cv (va_up q a.1 q') (.ref a.1) = .ref q' := by show Value.ref (va_up q a.1 q' a.1) = _; rw [va_up_self]
  rw [ec] at kz
  have eu : (hnew a (kd x).length (x, 0)).2.1 - u0 = a.2.1 - u0 + 1 := by show a.2.1 + 1 - u0 = _; omega
  have ez : (hnew a (kd x).length (x, 0)).2.2.1 - z0 = a.2.2.1 - z0 + rc.2.2 := by show a.2.2.1 + (kd x).length - z0 = _; rw [e5]; omega
  rw [eu, ez] at kz
  exact kz
theorem same_arr {U : State} {cB : ClassId} {ty : FieldType} {i : Nat} {cC : ClassId} (hK : va_K D vwCl (tysA cA ++ [(cB, ty)]) U) (hi : (tysA cA)[i]? = some (cC, ty)) (hn : ∀ C, ty = .object C → va_RA U cB (.object C) → va_RA U cC (.object C) → cB = cC) : cB = cC := by
  have h1 := (hK.2 5 (cB, ty) rfl).2
  have hi' : (tysA cA ++ [(cB, ty)])[i]? = some (cC, ty) := by
    have hl := (List.getElem?_eq_some_iff.mp hi).1
    rw [List.getElem?_append_left hl]
    exact hi
  have h2 := (hK.2 i (cC, ty) hi').2
  cases ty with
  | object C => exact hn C rfl h1 h2
  | _ => exact Option.some.inj (Eq.trans (Eq.symm h1) h2)
theorem same_arrO {U : State} {cB cC : ClassId} {C : String} (h1 : va_RA U cB (.object C)) (h2 : va_RA U cC (.object C)) : cB = cC := by
  obtain ⟨kA, comp, a1, a2, a3, a4⟩ := h1
  obtain ⟨kB, comp2, b1, b2, b3, b4⟩ := h2
  exact Option.some.inj (a4.symm.trans b4)
theorem gw_newi {y : Nat} {v : Int32} {r : List Value} (C : cx p R s m args meth c A D cA cc own nL ret ini d N0 base u0 z0 um zm) (hal : al = true) (hd : decode cc pc = .ok (.newarray .int, 2)) (hw : Cond.arrayClass .int ∈ lw_g) (hy : y ≤ 10000) (hv : v.toNatClampNeg = y) (hv0 : ¬ v < 0) (ht : tF a.1 = none ∧ ∀ j, qF a.1 j = none) (hr : rok a.1 lv r) (hu : a.2.1 + 1 ≤ um ∧ a.2.2.1 + y ≤ zm)
    (k : gw p l e R s m args below meth c Qx A D cA q0 tF qF al N0 u0 z0 um zm (pc + 2) lv (.ref a.1 :: r) (hnew a y (11, y)) (va_up I a.1 (fun _ => 0)) (va_up J a.1 (fun _ => 0)) (va_up Q a.1 (fun _ => none))) : gw p l e R s m args below meth c Qx A D cA q0 tF qF al N0 u0 z0 um zm pc lv (.int v :: r) a I J Q := by
  obtain ⟨hx, hb, hml, -, -, hown, hts, hK, hA, -, hum, hzm, -, -, hbs⟩ := C
  intro q H locs ls h1 h2 hP hD hS hl
  obtain ⟨g1, g2, g3, g4, g5, g6⟩ := h2
  refine va_newa (a0 := (y, .inl (fun _ => 0))) (atype := .int) (ty := .int) hx hb (hts _ hw) rfl hK.1 hP hD hS hA (fun _ => rfl) hv0 hv (Nat.le_trans (Nat.mul_le_mul hy (Nat.le_refl _)) (by decide)) (by omega) (by omega) hd (fun q' cB H1 hK1 hP1 hD1 hS1 => ?_)
  obtain rfl : cB = cA 11 := same_arr hK1 (i := 0) rfl (fun C hC => by cases hC)
  have hcellE : hE cA q (fun _ => none) (fun _ _ => none) (fun _ => (11, y)) (fun _ _ => 0) (fun _ _ => 0) (fun _ _ => none) 0 = .inl (cA 11, y, .inl (fun _ => 0)) := hE_int rfl
  rw [← hcellE, ← hW_push (n := y) g6 ht.1 ht.2] at hP1 hD1
  have kz := k (va_up q a.1 q') H1 locs ls ⟨fun k' hk' => by rw [va_up_ne _ _ (by omega)]; exact h1.1 k' hk', fun h => absurd (h.symm.trans hal) (by decide)⟩ ⟨Nat.le_succ_of_le g1, Nat.le_succ_of_le g2, hu.1, Nat.le_trans g4 (Nat.le_add_right _ _), hu.2, wf_new g6 ht.2⟩ hP1 hD1 hS1 (hLs_new hl hr.1)
  rw [List.map_cons, map_new hr.2] at kz
  have ec : cv (va_up q a.1 q') (.ref a.1) = .ref q' := by show Value.ref (va_up q a.1 q' a.1) = _; rw [va_up_self]
  rw [ec] at kz
  have eu : (hnew a y (11, y)).2.1 - u0 = a.2.1 - u0 + 1 := by show a.2.1 + 1 - u0 = _; omega
  have ez : (hnew a y (11, y)).2.2.1 - z0 = a.2.2.1 - z0 + y := by show a.2.2.1 + y - z0 = _; omega
  rw [eu, ez] at kz
  exact kz
theorem gw_newl {y : Nat} {v : Int32} {r : List Value} (C : cx p R s m args meth c A D cA cc own nL ret ini d N0 base u0 z0 um zm) (hal : al = true) (hd : decode cc pc = .ok (.newarray .long, 2)) (hw : Cond.arrayClass .long ∈ lw_g) (hy : y ≤ 10000) (hv : v.toNatClampNeg = y) (hv0 : ¬ v < 0) (ht : tF a.1 = none ∧ ∀ j, qF a.1 j = none) (hr : rok a.1 lv r) (hu : a.2.1 + 1 ≤ um ∧ a.2.2.1 + y ≤ zm)
    (k : gw p l e R s m args below meth c Qx A D cA q0 tF qF al N0 u0 z0 um zm (pc + 2) lv (.ref a.1 :: r) (hnew a y (12, y)) (va_up I a.1 (fun _ => 0)) (va_up J a.1 (fun _ => 0)) (va_up Q a.1 (fun _ => none))) : gw p l e R s m args below meth c Qx A D cA q0 tF qF al N0 u0 z0 um zm pc lv (.int v :: r) a I J Q := by
  obtain ⟨hx, hb, hml, -, -, hown, hts, hK, hA, -, hum, hzm, -, -, hbs⟩ := C
  intro q H locs ls h1 h2 hP hD hS hl
  obtain ⟨g1, g2, g3, g4, g5, g6⟩ := h2
  refine va_newa (a0 := (y, .inr (.inl (fun _ => 0)))) (atype := .long) (ty := .long) hx hb (hts _ hw) rfl hK.1 hP hD hS hA (fun _ => rfl) hv0 hv (Nat.le_trans (Nat.mul_le_mul hy (Nat.le_refl _)) (by decide)) (by omega) (by omega) hd (fun q' cB H1 hK1 hP1 hD1 hS1 => ?_)
  obtain rfl : cB = cA 12 := same_arr hK1 (i := 1) rfl (fun C hC => by cases hC)
  have hcellE : hE cA q (fun _ => none) (fun _ _ => none) (fun _ => (12, y)) (fun _ _ => 0) (fun _ _ => 0) (fun _ _ => none) 0 = .inl (cA 12, y, .inr (.inl (fun _ => 0))) := hE_long rfl
  rw [← hcellE, ← hW_push (n := y) g6 ht.1 ht.2] at hP1 hD1
  have kz := k (va_up q a.1 q') H1 locs ls ⟨fun k' hk' => by rw [va_up_ne _ _ (by omega)]; exact h1.1 k' hk', fun h => absurd (h.symm.trans hal) (by decide)⟩ ⟨Nat.le_succ_of_le g1, Nat.le_succ_of_le g2, hu.1, Nat.le_trans g4 (Nat.le_add_right _ _), hu.2, wf_new g6 ht.2⟩ hP1 hD1 hS1 (hLs_new hl hr.1)
  rw [List.map_cons, map_new hr.2] at kz
  have ec : cv (va_up q a.1 q') (.ref a.1) = .ref q' := by show Value.ref (va_up q a.1 q' a.1) = _; rw [va_up_self]
  rw [ec] at kz
  have eu : (hnew a y (12, y)).2.1 - u0 = a.2.1 - u0 + 1 := by show a.2.1 + 1 - u0 = _; omega
  have ez : (hnew a y (12, y)).2.2.1 - z0 = a.2.2.1 - z0 + y := by show a.2.2.1 + y - z0 = _; omega
  rw [eu, ez] at kz
  exact kz
theorem gw_newq {idx x y : Nat} {K : String} {v : Int32} {r : List Value} (C : cx p R s m args meth c A D cA cc own nL ret ini d N0 base u0 z0 um zm) (hal : al = true) (hd : decode cc pc = .ok (.anewarray idx, 3)) (hlk : Cond.classLink own idx K ∈ lw_g) (hKx : (x = 13 ∧ K = RX6) ∨ (x = 14 ∧ K = RX7) ∨ (x = 15 ∧ K = RX8)) (hy : y ≤ 10000) (hv : v.toNatClampNeg = y) (hv0 : ¬ v < 0) (ht : tF a.1 = none ∧ ∀ j, qF a.1 j = none) (hr : rok a.1 lv r) (hu : a.2.1 + 1 ≤ um ∧ a.2.2.1 + y ≤ zm)
    (k : gw p l e R s m args below meth c Qx A D cA q0 tF qF al N0 u0 z0 um zm (pc + 3) lv (.ref a.1 :: r) (hnew a y (x, y)) (va_up I a.1 (fun _ => 0)) (va_up J a.1 (fun _ => 0)) (va_up Q a.1 (fun _ => none))) : gw p l e R s m args below meth c Qx A D cA q0 tF qF al N0 u0 z0 um zm pc lv (.int v :: r) a I J Q := by
  obtain ⟨hx, hb, hml, -, -, hown, hts, hK, hA, -, hum, hzm, -, -, hbs⟩ := C
  intro q H locs ls h1 h2 hP hD hS hl
  obtain ⟨g1, g2, g3, g4, g5, g6⟩ := h2
  have hao : va_AO K s := by
    rcases hKx with ⟨-, rfl⟩ | ⟨-, rfl⟩ | ⟨-, rfl⟩
    · exact hK.2.2.1
    · exact hK.2.2.2.1
    · exact hK.2.2.2.2
  refine va_newq hx hb hown (hts _ hlk) hao hK.1 hP hD hS hA hv0 hv (by omega) (by omega) (by omega) hd (fun q' cB H1 hK1 hP1 hD1 hS1 => ?_)
  obtain rfl : cB = cA x := by
    rcases hKx with ⟨rfl, rfl⟩ | ⟨rfl, rfl⟩ | ⟨rfl, rfl⟩
    · exact same_arr hK1 (i := 2) rfl (fun C hC h1 h2 => same_arrO h1 h2)
    · exact same_arr hK1 (i := 3) rfl (fun C hC h1 h2 => same_arrO h1 h2)
    · exact same_arr hK1 (i := 4) rfl (fun C hC h1 h2 => same_arrO h1 h2)
  have hcellE : hE cA q (fun _ => none) (fun _ _ => none) (fun _ => (x, y)) (fun _ _ => 0) (fun _ _ => 0) (fun _ _ => none) 0 = .inl (cA x, y, .inr (.inr (.inr (.inr (fun _ => none))))) := hE_ref rfl (by rcases hKx with ⟨rfl, -⟩ | ⟨rfl, -⟩ | ⟨rfl, -⟩ <;> decide)
  rw [← hcellE, ← hW_push (n := y) g6 ht.1 ht.2] at hP1 hD1
  have kz := k (va_up q a.1 q') H1 locs ls ⟨fun k' hk' => by rw [va_up_ne _ _ (by omega)]; exact h1.1 k' hk', fun h => absurd (h.symm.trans hal) (by decide)⟩ ⟨Nat.le_succ_of_le g1, Nat.le_succ_of_le g2, hu.1, Nat.le_trans g4 (Nat.le_add_right _ _), hu.2, wf_new g6 ht.2⟩ hP1 hD1 hS1 (hLs_new hl hr.1)
  rw [List.map_cons, map_new hr.2] at kz
  have ec : cv (va_up q a.1 q') (.ref a.1) = .ref q' := by show Value.ref (va_up q a.1 q' a.1) = _; rw [va_up_self]
  rw [ec] at kz
  have eu : (hnew a y (x, y)).2.1 - u0 = a.2.1 - u0 + 1 := by show a.2.1 + 1 - u0 = _; omega
  have ez : (hnew a y (x, y)).2.2.1 - z0 = a.2.2.1 - z0 + y := by show a.2.2.1 + y - z0 = _; omega
  rw [eu, ez] at kz
  exact kz
end NW9
end
section
/-! CONTRACTS over abstract heaps; calls and returns -/
/-- a callee's data: name, code, locals, what it returns, how deep its calls go -/
abbrev cdT : Type := MethodName × ByteArray × Nat × Option FieldType × Nat
def rmd (d mc ms : Nat) : Room := { frames := d, cells := mc, slots := ms, locals := 64 * d }
def lwm (dd : cdT) : List Cond := Cond.code dd.1 dd.2.1 dd.2.2.1 dd.2.2.2.1 :: lw_g
def cPre (D : va_G) (cA : Nat → ClassId) (q : Nat → Nat) (tF : hTF) (qF : hQF) (a : hA) (I : hI) (J : hJ) (Q : hQ) (sz : Nat) (U : State) : Prop := U.heap.size = sz ∧ va_P D vwCl (hW cA q tF qF a I J Q) U.heap ∧ kk D cA U ∧ va_D (fun _ => True) (hW cA q tF qF a I J Q)
def cEnd (D : va_G) (cA : Nat → ClassId) (q : Nat → Nat) (tF : hTF) (qF : hQF) (al : Bool) (a : hA) (I : hI) (J : hJ) (Q : hQ) (A : Nat → Prop) (mc ms : Nat) (K : hR) (oc : Outcome) (H : Heap) : Prop :=
  ∃ (v : Option Value) (a' : hA) (I' : hI) (J' : hJ) (Q' : hQ) (q' : Nat → Nat), oc = .returned (v.map (cv q')) ∧ K v (a'.1, a.2.1 + mc, a.2.2.1 + ms, a'.2.2.2) I' J' Q' ∧ ((∀ k, k < a.1 → q' k = q k) ∧ (al = false → q' = q)) ∧ a.1 ≤ a'.1 ∧ wfQ qF a' Q' ∧ va_P D vwCl (hW cA q' tF qF a' I' J' Q') H ∧ va_D A (hW cA q' tF qF a' I' J' Q')
def cPost (D : va_G) (cA : Nat → ClassId) (q : Nat → Nat) (tF : hTF) (qF : hQF) (al : Bool) (a : hA) (I : hI) (J : hJ) (Q : hQ) (A : Nat → Prop) (mc ms : Nat) (K : hR) : Array Value → State → Outcome → State → Prop := fun _ st oc t =>
  cEnd D cA q tF qF al a I J Q A mc ms K oc t.heap ∧ va_F A st t
def Con (l : Launch) (tF : hTF) (qF : hQF) (base : Nat) (dd : cdT) (e : ev) : Prop :=
  Cond.code dd.1 dd.2.1 dd.2.2.1 dd.2.2.2.1 ∈ lw_g ∧ ∀ (D : va_G) (cA : Nat → ClassId) (q : Nat → Nat) (av : List Value) (a : hA) (I : hI) (J : hJ) (Q : hQ) (K : hR) (sz : Nat), base ≤ a.1 → wfQ qF a Q → av.length = e.1 → e.2.2.2.2.2 av a I J Q K →
    Met l dd.1 (lwm dd) (rmd dd.2.2.2.2 e.2.2.2.1 e.2.2.2.2.1) (va_Pc (av.map (cv q)) (cPre D cA q tF qF a I J Q sz)) (cPost D cA q tF qF e.2.2.1 a I J Q (va_A (hW cA q tF qF a I J Q) sz) e.2.2.2.1 e.2.2.2.2.1 K) e.2.2.2.1 e.2.2.2.2.1 (va_A (hW cA q tF qF a I J Q) sz)
theorem kk_moved {D : va_G} {cA : Nat → ClassId} {s U : State} (hW : s.WarmedH U.vm) (h : kk D cA s) : kk D cA U := by
  obtain ⟨h1, h2, h3, h4, h5⟩ := h
  refine ⟨va_K.moved hW.alike h1, fun w hw => ?_, va_AO.moved hW.alike h3, va_AO.moved hW.alike h4, va_AO.moved hW.alike h5⟩
  have hn := (List.mem_filter.mp hw).2
  have hz := h2 w hw
  cases w with
  | methodLinkNest a i x h => exact va_Nw.warmM hW hz
  | _ => cases hn
theorem kk_calling {D : va_G} {cA : Nat → ClassId} {U : State} {g : JFrame} {mk : MethodId} {a : Array Value} (h : kk D cA U) : kk D cA (U.calling g mk a) := by
  obtain ⟨h1, h2, h3, h4, h5⟩ := h
  refine ⟨va_K.moved (u := U) (U := U.calling g mk a) (Vm.Alike.refl U.vm) h1, fun w hw => ?_, va_AO.moved (u := U) (U := U.calling g mk a) (Vm.Alike.refl U.vm) h3, va_AO.moved (u := U) (U := U.calling g mk a) (Vm.Alike.refl U.vm) h4, va_AO.moved (u := U) (U := U.calling g mk a) (Vm.Alike.refl U.vm) h5⟩
  have hn := (List.mem_filter.mp hw).2
  have hz := h2 w hw
  cases w with
  | methodLinkNest a i x h => exact va_Nw.same rfl rfl hz
  | _ => cases hn
theorem pre_blind {D : va_G} {cA : Nat → ClassId} {q : Nat → Nat} {tF : hTF} {qF : hQF} {a : hA} {I : hI} {J : hJ} {Q : hQ} {sz : Nat} {av : List Value} : FrameBlind (va_Pc av (cPre D cA q tF qF a I J Q sz)) := by
  intro b U g mk h
  obtain ⟨h0, h1, h2, h3, h4⟩ := h
  exact ⟨h0, h1, h2, kk_calling h3, h4⟩
theorem lwg_good : ∀ w ∈ lw_g, goodWord w = true := fun w hw => (List.mem_filter.mp hw).2
theorem good_lwm {dd : cdT} (h : Cond.code dd.1 dd.2.1 dd.2.2.1 dd.2.2.2.1 ∈ lw_g) : GoodIn lw_g (lwm dd) := by
  intro w hw
  rcases List.mem_cons.mp hw with rfl | hw
  · exact ⟨h, good_of_word (lwg_good _ h)⟩
  · exact ⟨hw, good_of_word (lwg_good _ hw)⟩
theorem cat8_sum (q : Nat → Nat) (st : List Value) : ((st.map (cv q)).map fun v => v.category).sum ≤ cat8 st := by
  induction st with
  | nil => simp [cat8]
  | cons v r ih =>
    simp only [List.map_cons, List.sum_cons, cat8]
    have : (cv q v).category ≤ (if is1 v = true then 1 else 2) := by
      rw [cv_cat]
      cases v <;> simp [is1, Value.category]
    omega
section CALL
variable {p : Program} {l : Launch} {e : Env} {R : Room} {s : State} {m : MethodId} {args : Array Value} {below : List Frame} {meth : Method} {c : Code} {Qx : State → Prop} {A : Nat → Prop} {D : va_G} {cA : Nat → ClassId} {q0 : Nat → Nat} {tF : hTF} {qF : hQF} {al : Bool} {N0 u0 z0 um zm base nL d : Nat} {cc : ByteArray} {own : String} {ret : Option FieldType} {ini : Bool} {pc : Nat} {lv lv' : lL} {st st' : List Value} {a : hA} {I : hI} {J : hJ} {Q : hQ}
/-- behind a call -/
theorem call_go {q : Nat → Nat} {H : Heap} {locs : List Loc} {cells slots mc ms : Nat} {g : JFrame} {rest : List Value} {A1 : Nat → Prop} {al1 : Bool} {K : hR} {arr : Array Value} (hr : va_Run p l e R s m args below meth c H locs cells slots mc ms g rest (cPost D cA q tF qF al1 a I J Q A1 mc ms K arr) A1) (hS : va_S A s.heap H locs) (hAq : ∀ q, A1 q → A q)
    (k : ∀ (v : Option Value) (a' : hA) (I' : hI) (J' : hJ) (Q' : hQ) (q' : Nat → Nat) (H1 : Heap) (locs1 : List Loc), K v (a'.1, a.2.1 + mc, a.2.2.1 + ms, a'.2.2.2) I' J' Q' → ((∀ k, k < a.1 → q' k = q k) ∧ (al1 = false → q' = q)) → a.1 ≤ a'.1 → wfQ qF a' Q' → va_P D vwCl (hW cA q' tF qF a' I' J' Q') H1 → va_D A1 (hW cA q' tF qF a' I' J' Q') → va_S A s.heap H1 locs1 → W p l e R s m args below meth c H1 locs1 (cells + mc) (slots + ms) Qx { g with pc := g.pc + 3, stack := (v.map (cv q')).toList ++ rest }) : W p l e R s m args below meth c H locs cells slots Qx g := by
  intro T hT X
  obtain ⟨v, st₀, t, T', L, h0, X', hL, e1, e2, ⟨⟨v2, a', I', J', Q', q', hv, hK, b1, b2, b3, b4, b5⟩, hz, hk⟩, st⟩ := hr T hT X
  cases hv
  rw [h0] at hz hk
  obtain ⟨t2, x1, y1⟩ := k v2 a' I' J' Q' q' T'.heap (locs ++ L) hK b1 b2 b3 (by rw [e1]; exact b4) b5
    ⟨Nat.le_trans hS.1 (by rw [e1]; exact hz), fun q h1 h2 => by rw [e1, hk q (Nat.lt_of_lt_of_le h1 hS.1) (fun z => h2 (hAq q z))]; exact hS.2.1 q h1 h2, fun q hq => by
      rcases List.mem_append.mp hq with h | h
      · exact hS.2.2 q h
      · exact hAq _ (hL q h)⟩ T' rfl X'
  exact ⟨t2, st t2 x1, y1⟩
/-- what a call of whatever kind asks: the run, made of the callee's contract, at every address map -/
theorem gw_call {dd : cdT} {ee : ev} (C : cx p R s m args meth c A D cA cc own nL ret ini d N0 base u0 z0 um zm)
    (hal : ee.2.2.1 = true → al = true) (hlen : ee.1 ≤ st.length) (hu : a.2.1 ≤ um → a.2.1 + ee.2.2.2.1 ≤ um) (hz : a.2.2.1 ≤ zm → a.2.2.1 + ee.2.2.2.2.1 ≤ zm) (hrok : ee.2.2.1 = true → rok a.1 lv (st.drop ee.1))
    {K : hR} (hM : ∀ q sz, base ≤ a.1 → wfQ qF a Q → Met l dd.1 (lwm dd) (rmd dd.2.2.2.2 ee.2.2.2.1 ee.2.2.2.2.1) (va_Pc (((st.take ee.1).reverse).map (cv q)) (cPre D cA q tF qF a I J Q sz)) (cPost D cA q tF qF ee.2.2.1 a I J Q (va_A (hW cA q tF qF a I J Q) sz) ee.2.2.2.1 ee.2.2.2.2.1 K) ee.2.2.2.1 ee.2.2.2.2.1 (va_A (hW cA q tF qF a I J Q) sz))
    (hrun : ∀ (q : Nat → Nat) (H : Heap) (locs : List Loc) (ls : Array Slot), a.2.1 - u0 + ee.2.2.2.1 ≤ R.cells ∧ a.2.2.1 - z0 + ee.2.2.2.2.1 ≤ R.slots → N0 ≤ a.1 → ls.size = c.maxLocals → va_P D vwCl (hW cA q tF qF a I J Q) H → (∀ U : State, U.heap = H → s.WarmedH U.vm → va_Pc (((st.take ee.1).reverse).map (cv q)) (cPre D cA q tF qF a I J Q H.size) (((st.take ee.1).reverse).map (cv q)).toArray U) → Met l dd.1 (lwm dd) (rmd dd.2.2.2.2 ee.2.2.2.1 ee.2.2.2.2.1) (va_Pc (((st.take ee.1).reverse).map (cv q)) (cPre D cA q tF qF a I J Q H.size)) (cPost D cA q tF qF ee.2.2.1 a I J Q (va_A (hW cA q tF qF a I J Q) H.size) ee.2.2.2.1 ee.2.2.2.2.1 K) ee.2.2.2.1 ee.2.2.2.2.1 (va_A (hW cA q tF qF a I J Q) H.size) →
      va_Run p l e R s m args below meth c H locs (a.2.1 - u0) (a.2.2.1 - z0) ee.2.2.2.1 ee.2.2.2.2.1 (F0 m pc ls (st.map (cv q))) ((st.drop ee.1).map (cv q)) (cPost D cA q tF qF ee.2.2.1 a I J Q (va_A (hW cA q tF qF a I J Q) H.size) ee.2.2.2.1 ee.2.2.2.2.1 K (((st.take ee.1).reverse).map (cv q)).toArray) (va_A (hW cA q tF qF a I J Q) H.size))
    (k : ∀ v a' I' J' Q', K v a' I' J' Q' → gw p l e R s m args below meth c Qx A D cA q0 tF qF al N0 u0 z0 um zm (pc + 3) lv (v.toList ++ st.drop ee.1) a' I' J' Q') : gw p l e R s m args below meth c Qx A D cA q0 tF qF al N0 u0 z0 um zm pc lv st a I J Q := by
  obtain ⟨hx, hb, hml, -, -, hown, hts, hK, hA, -, hum, hzm, -, -, hbs⟩ := C
  intro q H locs ls h1 h2 hP hD hS hl
  obtain ⟨g1, g2, g3, g4, g5, g6⟩ := h2
  have hu' := hu g3
  have hz' := hz g5
  have hAA : ∀ x, va_A (hW cA q tF qF a I J Q) H.size x → A x := by
    intro x hxx
    rcases hxx with ⟨k0, e0, h0⟩ | h0
    · exact hD.2 k0 _ h0
    · exact hA _ (Nat.le_trans hS.1 h0)
  have hpc : ∀ U : State, U.heap = H → s.WarmedH U.vm → va_Pc (((st.take ee.1).reverse).map (cv q)) (cPre D cA q tF qF a I J Q H.size) (((st.take ee.1).reverse).map (cv q)).toArray U := fun U hU hWm => ⟨rfl, by rw [hU], by rw [hU]; exact hP, kk_moved hWm hK, hD.weaken (fun _ _ _ _ => trivial)⟩
  obtain ⟨hll, l0, h8, h9⟩ := id hl
  refine call_go (hrun q H locs ls (by omega) g1 h8.1 hP hpc (hM q H.size (Nat.le_trans hbs g1) g6)) hS hAA (fun v a' I' J' Q' q' H1 locs1 hKv b1 b2 b3 b4 b5 b6 => ?_)
  have kz := k v (a'.1, a.2.1 + ee.2.2.2.1, a.2.2.1 + ee.2.2.2.2.1, a'.2.2.2) I' J' Q' hKv q' H1 locs1 ls
    ⟨fun k' hk' => (b1.1 k' (by omega)).trans (h1.1 k' hk'), fun h => by
      cases hb1 : ee.2.2.1 with
      | false => rw [b1.2 hb1]; exact h1.2 h
      | true => exact absurd (h.symm.trans (hal hb1)) (by decide)⟩
    ⟨Nat.le_trans g1 b2, Nat.le_trans g2 (Nat.le_add_right _ _), hu', Nat.le_trans g4 (Nat.le_add_right _ _), hz', b3⟩ b4 (b5.weaken (fun _ x _ hx => hAA _ hx)) b6
  have hmap : hLs ls c.maxLocals q' lv ∧ (st.drop ee.1).map (cv q') = (st.drop ee.1).map (cv q) := by
    cases hb1 : ee.2.2.1 with
    | false => rw [b1.2 hb1]; exact ⟨hl, rfl⟩
    | true =>
      have hro := hrok hb1
      have cvq : ∀ w, rlt a.1 w → cv q' w = cv q w := by
        intro w hw
        cases w with
        | ref k0 => exact congrArg Value.ref (b1.1 k0 hw)
        | _ => rfl
      refine ⟨⟨hll, l0, h8, fun i w hw => by rw [cvq w (hro.1 i w hw)]; exact h9 i w hw⟩, List.map_congr_left fun w hw => cvq w (hro.2 w hw)⟩
  have kz := kz hmap.1
  rw [List.map_append, hmap.2] at kz
  have eo : (v.map (cv q')).toList = v.toList.map (cv q') := by cases v <;> rfl
  have eu : a.2.1 + ee.2.2.2.1 - u0 = a.2.1 - u0 + ee.2.2.2.1 := by omega
  have ez : a.2.2.1 + ee.2.2.2.2.1 - z0 = a.2.2.1 - z0 + ee.2.2.2.2.1 := by omega
  rw [eo]
  have kz2 : W p l e R s m args below meth c H1 locs1 (a.2.1 + ee.2.2.2.1 - u0) (a.2.2.1 + ee.2.2.2.2.1 - z0) Qx (F0 m (pc + 3) ls (v.toList.map (cv q') ++ (st.drop ee.1).map (cv q))) := kz
  rw [eu, ez] at kz2
  exact kz2
end CALL
end
section
/-! soundness: returns, nulls, divisions, switches, the kinds of calls -/
section RS
variable {p : Program} {l : Launch} {e : Env} {R : Room} {s : State} {m : MethodId} {args : Array Value} {below : List Frame} {meth : Method} {c : Code} {Qx : State → Prop} {A : Nat → Prop} {D : va_G} {cA : Nat → ClassId} {q0 : Nat → Nat} {tF : hTF} {qF : hQF} {al : Bool} {N0 u0 z0 um zm base nL d : Nat} {cc : ByteArray} {own : String} {ret : Option FieldType} {ini : Bool} {pc : Nat} {lv lv' : lL} {st st' : List Value} {a : hA} {I : hI} {J : hJ} {Q : hQ}
/-- the end of a method -/
def mq (below : List Frame) (s : State) (args : Array Value) (A : Nat → Prop) (D : va_G) (cA : Nat → ClassId) (q0 : Nat → Nat) (tF : hTF) (qF : hQF) (al : Bool) (N0 u0 z0 mc ms : Nat) (t0 : Nat → Nat × Nat) (I0 : hI) (J0 : hJ) (Q0 : hQ) (K : hR) : State → Prop := MQ below (cPost D cA q0 tF qF al (N0, u0, z0, t0) I0 J0 Q0 A mc ms K) args s mc ms A
def rtK (K : hR) (u0 z0 mc ms : Nat) : hR := fun v a I J Q => K v (a.1, u0 + mc, z0 + ms, a.2.2.2) I J Q
theorem ret_post {mc ms : Nat} {t0 : Nat → Nat × Nat} {I0 : hI} {J0 : hJ} {Q0 : hQ} {K : hR} {v : Option Value} {q : Nat → Nat} {H : Heap} {locs : List Loc} (hR : rtK K u0 z0 mc ms v a I J Q) (h1 : (∀ k, k < N0 → q k = q0 k) ∧ (al = false → q = q0)) (h2 : N0 ≤ a.1 ∧ u0 ≤ a.2.1 ∧ a.2.1 ≤ um ∧ z0 ≤ a.2.2.1 ∧ a.2.2.1 ≤ zm ∧ wfQ qF a Q) (hP : va_P D vwCl (hW cA q tF qF a I J Q) H) (hD : va_D A (hW cA q tF qF a I J Q)) (hS : va_S A s.heap H locs) (t : State) (ht : t.heap = H) : cPost D cA q0 tF qF al (N0, u0, z0, t0) I0 J0 Q0 A mc ms K args s (.returned (v.map (cv q))) t :=
  ⟨⟨v, a, I, J, Q, q, rfl, hR, h1, h2.1, h2.2.2.2.2.2, by rw [ht]; exact hP, hD⟩, hS.F ht⟩
theorem gw_ireturn {mc ms : Nat} {t0 : Nat → Nat × Nat} {I0 : hI} {J0 : hJ} {Q0 : hQ} {K : hR} {x : Int32} {ty : FieldType} (C : cx p R s m args meth c A D cA cc own nL ret ini d N0 base u0 z0 um zm) (hc : R.cells = mc) (hs : R.slots = ms) (hd : decode cc pc = .ok (.ireturn, 1)) (hr : ret = some ty) (hn : narrow ty (.int x) = .int x) (hR : rtK K u0 z0 mc ms (some (.int x)) a I J Q) :
    gw p l e R s m args below meth c (mq below s args A D cA q0 tF qF al N0 u0 z0 mc ms t0 I0 J0 Q0 K) A D cA q0 tF qF al N0 u0 z0 um zm pc lv [.int x] a I J Q := by
  obtain ⟨hx, hb, hml, hrt, hlocks, hown, hts, hK, hA, -, hum, hzm, -, -, hbs⟩ := C
  intro q H locs ls h1 h2 hP hD hS hl
  refine W.widen (k := mc) (n := ms) (by omega) (by omega) ?_
  exact W.zret hx hb (hrt.trans hr) hn (fun t ht hW => ret_post hR h1 h2 hP hD hS t ht) hS.2.2 hd hlocks
theorem gw_lreturn {mc ms : Nat} {t0 : Nat → Nat × Nat} {I0 : hI} {J0 : hJ} {Q0 : hQ} {K : hR} {x : Int64} (C : cx p R s m args meth c A D cA cc own nL ret ini d N0 base u0 z0 um zm) (hc : R.cells = mc) (hs : R.slots = ms) (hd : decode cc pc = .ok (.lreturn, 1)) (hr : ret = some .long) (hR : rtK K u0 z0 mc ms (some (.long x)) a I J Q) :
    gw p l e R s m args below meth c (mq below s args A D cA q0 tF qF al N0 u0 z0 mc ms t0 I0 J0 Q0 K) A D cA q0 tF qF al N0 u0 z0 um zm pc lv [.long x] a I J Q := by
  obtain ⟨hx, hb, hml, hrt, hlocks, hown, hts, hK, hA, -, hum, hzm, -, -, hbs⟩ := C
  intro q H locs ls h1 h2 hP hD hS hl
  refine W.widen (k := mc) (n := ms) (by omega) (by omega) ?_
  exact W.lret hx hb (hrt.trans hr) (fun t ht hW => ret_post hR h1 h2 hP hD hS t ht) hS.2.2 hd hlocks
theorem gw_areturn {mc ms : Nat} {t0 : Nat → Nat × Nat} {I0 : hI} {J0 : hJ} {Q0 : hQ} {K : hR} {v : Value} {ty : FieldType} (C : cx p R s m args meth c A D cA cc own nL ret ini d N0 base u0 z0 um zm) (hc : R.cells = mc) (hs : R.slots = ms) (hd : decode cc pc = .ok (.areturn, 1)) (hr : ret = some ty) (hty : (∃ n, ty = .object n) ∨ ∃ t, ty = .array t) (hv : v = .null ∨ ∃ k, v = .ref k) (hR : rtK K u0 z0 mc ms (some v) a I J Q) :
    gw p l e R s m args below meth c (mq below s args A D cA q0 tF qF al N0 u0 z0 mc ms t0 I0 J0 Q0 K) A D cA q0 tF qF al N0 u0 z0 um zm pc lv [v] a I J Q := by
  obtain ⟨hx, hb, hml, hrt, hlocks, hown, hts, hK, hA, -, hum, hzm, -, -, hbs⟩ := C
  intro q H locs ls h1 h2 hP hD hS hl
  refine W.widen (k := mc) (n := ms) (by omega) (by omega) ?_
  exact W.aret (v := cv q v) hx hb (hrt.trans hr) hty (by rcases hv with rfl | ⟨k, rfl⟩; exact Or.inl rfl; exact Or.inr ⟨_, rfl⟩) (fun t ht hW => ret_post hR h1 h2 hP hD hS t ht) hS.2.2 hd hlocks
theorem gw_return {mc ms : Nat} {t0 : Nat → Nat × Nat} {I0 : hI} {J0 : hJ} {Q0 : hQ} {K : hR} (C : cx p R s m args meth c A D cA cc own nL ret ini d N0 base u0 z0 um zm) (hc : R.cells = mc) (hs : R.slots = ms) (hd : decode cc pc = .ok (.return_, 1)) (hr : ret = none) (hR : rtK K u0 z0 mc ms none a I J Q) :
    gw p l e R s m args below meth c (mq below s args A D cA q0 tF qF al N0 u0 z0 mc ms t0 I0 J0 Q0 K) A D cA q0 tF qF al N0 u0 z0 um zm pc lv [] a I J Q := by
  obtain ⟨hx, hb, hml, hrt, hlocks, hown, hts, hK, hA, -, hum, hzm, -, -, hbs⟩ := C
  intro q H locs ls h1 h2 hP hD hS hl
  refine W.widen (k := mc) (n := ms) (by omega) (by omega) ?_
  exact W.vret hx hb (hrt.trans hr) (fun t ht hW => ret_post hR h1 h2 hP hD hS t ht) hS.2.2 hd hlocks
theorem gw_div {x y : Int32} {r : List Value} (C : cx p R s m args meth c A D cA cc own nL ret ini d N0 base u0 z0 um zm) (hd : decode cc pc = .ok (.idiv, 1)) (hne : ¬ y = 0) (k : gw p l e R s m args below meth c Qx A D cA q0 tF qF al N0 u0 z0 um zm (pc + 1) lv (.int (x / y) :: r) a I J Q) : gw p l e R s m args below meth c Qx A D cA q0 tF qF al N0 u0 z0 um zm pc lv (.int y :: .int x :: r) a I J Q := by
  obtain ⟨hx, hb, -⟩ := C
  intro q H locs ls h1 h2 hP hD hS hl
  exact lv_idiv hx hb hd hne (k q H locs ls h1 h2 hP hD hS hl)
theorem gw_rem {x y : Int32} {r : List Value} (C : cx p R s m args meth c A D cA cc own nL ret ini d N0 base u0 z0 um zm) (hd : decode cc pc = .ok (.irem, 1)) (hne : ¬ y = 0) (k : gw p l e R s m args below meth c Qx A D cA q0 tF qF al N0 u0 z0 um zm (pc + 1) lv (.int (x - x / y * y) :: r) a I J Q) : gw p l e R s m args below meth c Qx A D cA q0 tF qF al N0 u0 z0 um zm pc lv (.int y :: .int x :: r) a I J Q := by
  obtain ⟨hx, hb, -⟩ := C
  intro q H locs ls h1 h2 hP hD hS hl
  exact lv_irem hx hb hd hne (k q H locs ls h1 h2 hP hD hS hl)
theorem gw_ifnullR {off : Int} {k0 : Nat} {r : List Value} (C : cx p R s m args meth c A D cA cc own nL ret ini d N0 base u0 z0 um zm) (hd : decode cc pc = .ok (.ifnull off, 3)) (k : gw p l e R s m args below meth c Qx A D cA q0 tF qF al N0 u0 z0 um zm (pc + 3) lv r a I J Q) : gw p l e R s m args below meth c Qx A D cA q0 tF qF al N0 u0 z0 um zm pc lv (.ref k0 :: r) a I J Q := by
  obtain ⟨hx, hb, -⟩ := C
  intro q H locs ls h1 h2 hP hD hS hl
  exact lv_ifnull hx hb hd (k q H locs ls h1 h2 hP hD hS hl)
theorem gw_ifnullN {off : Int} {tgt : Nat} {r : List Value} (C : cx p R s m args meth c A D cA cc own nL ret ini d N0 base u0 z0 um zm) (hd : decode cc pc = .ok (.ifnull off, 3)) (ht : (pc : Int) + off = (tgt : Int)) (k : gw p l e R s m args below meth c Qx A D cA q0 tF qF al N0 u0 z0 um zm tgt lv r a I J Q) : gw p l e R s m args below meth c Qx A D cA q0 tF qF al N0 u0 z0 um zm pc lv (.null :: r) a I J Q := by
  obtain ⟨hx, hb, -⟩ := C
  intro q H locs ls h1 h2 hP hD hS hl
  exact lv_ifnullN hx hb hd ht (k q H locs ls h1 h2 hP hD hS hl)
theorem gw_ifnonnullR {off : Int} {tgt k0 : Nat} {r : List Value} (C : cx p R s m args meth c A D cA cc own nL ret ini d N0 base u0 z0 um zm) (hd : decode cc pc = .ok (.ifnonnull off, 3)) (ht : (pc : Int) + off = (tgt : Int)) (k : gw p l e R s m args below meth c Qx A D cA q0 tF qF al N0 u0 z0 um zm tgt lv r a I J Q) : gw p l e R s m args below meth c Qx A D cA q0 tF qF al N0 u0 z0 um zm pc lv (.ref k0 :: r) a I J Q := by
  obtain ⟨hx, hb, -⟩ := C
  intro q H locs ls h1 h2 hP hD hS hl
  exact lv_ifnonnull hx hb hd ht (k q H locs ls h1 h2 hP hD hS hl)
theorem gw_ifnonnullN {off : Int} {r : List Value} (C : cx p R s m args meth c A D cA cc own nL ret ini d N0 base u0 z0 um zm) (hd : decode cc pc = .ok (.ifnonnull off, 3)) (k : gw p l e R s m args below meth c Qx A D cA q0 tF qF al N0 u0 z0 um zm (pc + 3) lv r a I J Q) : gw p l e R s m args below meth c Qx A D cA q0 tF qF al N0 u0 z0 um zm pc lv (.null :: r) a I J Q := by
  obtain ⟨hx, hb, -⟩ := C
  intro q H locs ls h1 h2 hP hD hS hl
  exact lv_ifnonnullN hx hb hd (k q H locs ls h1 h2 hP hD hS hl)
theorem swx_miss {x : Int32} {L : List (Int32 × Nat)} {T : Nat → Prop} {dp : Prop} (h : swx x L T dp) (hn : ∀ v t, (v, t) ∈ L → x ≠ v) : dp := by
  induction L with
  | nil => exact h
  | cons y L ih => exact ih (h.2 (hn y.1 y.2 List.mem_cons_self)) (fun v t hv => hn v t (List.mem_cons_of_mem _ hv))
theorem swx_hit {x : Int32} {L : List (Int32 × Nat)} {T : Nat → Prop} {dp : Prop} (h : swx x L T dp) (he : ∃ v t, (v, t) ∈ L ∧ x = v) : ∃ (i : Nat) (v : Int32) (t : Nat), L[i]? = some (v, t) ∧ x = v ∧ T t ∧ ∀ j, j < i → ∀ w u, L[j]? = some (w, u) → x ≠ w := by
  induction L with
  | nil => obtain ⟨v, t, h1, -⟩ := he; cases h1
  | cons y L ih =>
    by_cases e : x = y.1
    · exact ⟨0, y.1, y.2, rfl, e, h.1 e, fun j hj => by omega⟩
    · obtain ⟨v, t, h1, h2⟩ := he
      have h3 : (v, t) ∈ L := by
        rcases List.mem_cons.mp h1 with h4 | h4
        · exact absurd (by rw [h2, ← h4]) e
        · exact h4
      obtain ⟨i, v', t', g1, g2, g3, g4⟩ := ih (h.2 e) ⟨v, t, h3, h2⟩
      refine ⟨i + 1, v', t', g1, g2, g3, fun j hj w u hw => ?_⟩
      cases j with
      | zero => cases hw; exact e
      | succ j => exact g4 j (by omega) w u hw
def tabOK (pc : Nat) (dflt lo hi : Int) (offs : Array Int) (x : Nat) (L : List (Int32 × Nat)) : Bool := decide ((pc : Int) + dflt = (x : Int)) && decide (hi - lo + 1 = (L.length : Int)) && (List.range L.length).all (fun j => match L[j]?, offs[j]? with
  | some y, some o => decide (y.1.toInt = lo + (j : Int)) && decide ((pc : Int) + o = (y.2 : Int))
  | _, _ => false)
def lookOK (pc : Nat) (dflt : Int) (ps : Array (Int × Int)) (x : Nat) (L : List (Int32 × Nat)) : Bool := decide ((pc : Int) + dflt = (x : Int)) && decide (ps.toList = L.map (fun y => (y.1.toInt, (y.2 : Int) - (pc : Int)))) && (ps.toList.zip (ps.toList.drop 1)).all (fun y => decide (y.1.1 < y.2.1))
theorem gw_table {dflt lo hi : Int} {offs : Array Int} {len x : Nat} {L : List (Int32 × Nat)} {v : Int32} {r : List Value} (C : cx p R s m args meth c A D cA cc own nL ret ini d N0 base u0 z0 um zm) (hd : decode cc pc = .ok (.tableswitch dflt lo hi offs, len)) (hok : tabOK pc dflt lo hi offs x L = true)
    (k : swx v L (fun t => gw p l e R s m args below meth c Qx A D cA q0 tF qF al N0 u0 z0 um zm t lv r a I J Q) (gw p l e R s m args below meth c Qx A D cA q0 tF qF al N0 u0 z0 um zm x lv r a I J Q)) : gw p l e R s m args below meth c Qx A D cA q0 tF qF al N0 u0 z0 um zm pc lv (.int v :: r) a I J Q := by
  obtain ⟨hx, hb, -⟩ := C
  unfold tabOK at hok
  rw [Bool.and_eq_true, Bool.and_eq_true, decide_eq_true_eq, decide_eq_true_eq, List.all_eq_true] at hok
  obtain ⟨⟨o1, o2⟩, o3⟩ := hok
  have o4 : ∀ j, j < L.length → ∃ y o, L[j]? = some y ∧ offs[j]? = some o ∧ y.1.toInt = lo + (j : Int) ∧ (pc : Int) + o = (y.2 : Int) := by
    intro j hj
    have := o3 j (List.mem_range.mpr hj)
    split at this
    · rename_i y o hy ho
      rw [Bool.and_eq_true, decide_eq_true_eq, decide_eq_true_eq] at this
      exact ⟨y, o, hy, ho, this.1, this.2⟩
    · cases this
  by_cases hin : lo ≤ v.toInt ∧ v.toInt ≤ hi
  · have hj : (v.toInt - lo).toNat < L.length := by omega
    obtain ⟨y, o, y1, y2, y3, y4⟩ := o4 _ hj
    have hv : v = y.1 := Int32.toInt_inj.mp (by rw [y3]; omega)
    obtain ⟨i, w, t, g1, g2, g3, -⟩ := swx_hit k ⟨y.1, y.2, List.mem_of_getElem? y1, hv⟩
    obtain ⟨y', o', z1, z2, z3, z4⟩ := o4 i (List.getElem?_eq_some_iff.mp g1).1
    rw [g1] at z1
    cases z1
    have ei : i = (v.toInt - lo).toNat := by
      have : v.toInt = lo + (i : Int) := by rw [g2]; exact z3
      omega
    subst ei
    intro q H locs ls h1 h2 hP hD hS hl
    exact lv_tableIn hx hb hd (by omega) (by omega) z2 z4 (g3 q H locs ls h1 h2 hP hD hS hl)
  · have hm := swx_miss k (fun w t hw he => by
      obtain ⟨i, hi'⟩ := List.getElem?_of_mem hw
      obtain ⟨y', o', z1, z2, z3, z4⟩ := o4 i (List.getElem?_eq_some_iff.mp hi').1
      rw [hi'] at z1
      cases z1
      have hl := (List.getElem?_eq_some_iff.mp hi').1
      have z3' : w.toInt = lo + (i : Int) := z3
      rw [← he] at z3'
      exact hin ⟨by omega, by omega⟩)
    intro q H locs ls h1 h2 hP hD hS hl
    exact lv_tableOut hx hb hd (by omega) o1 (hm q H locs ls h1 h2 hP hD hS hl)
theorem look_off {L : List (Int32 × Nat)} {v : Int32} {T : Nat → Prop} {dp : Prop} {dflt : Int} {x pc : Nat} (hx : (pc : Int) + dflt = (x : Int)) (h : swx v L T dp) : ∃ (off : Int) (tgt : Nat), Op.lookupswitch.offset (L.map (fun y => (y.1.toInt, (y.2 : Int) - (pc : Int)))) dflt v.toInt = off ∧ (pc : Int) + off = (tgt : Int) ∧ (T tgt ∨ (tgt = x ∧ dp)) := by
  induction L with
  | nil => exact ⟨dflt, x, rfl, hx, Or.inr ⟨rfl, h⟩⟩
  | cons y L ih =>
    by_cases e : v = y.1
    · refine ⟨(y.2 : Int) - (pc : Int), y.2, ?_, by omega, Or.inl (h.1 e)⟩
      rw [List.map_cons, Op.lookupswitch.offset_cons, if_pos (by rw [e])]
    · obtain ⟨off, tgt, a1, a2, a3⟩ := ih (h.2 e)
      refine ⟨off, tgt, ?_, a2, a3⟩
      rw [List.map_cons, Op.lookupswitch.offset_cons, if_neg (fun he => e (Int32.toInt_inj.mp he.symm)), a1]
theorem gw_look {dflt : Int} {ps : Array (Int × Int)} {len x : Nat} {L : List (Int32 × Nat)} {v : Int32} {r : List Value} (C : cx p R s m args meth c A D cA cc own nL ret ini d N0 base u0 z0 um zm) (hd : decode cc pc = .ok (.lookupswitch dflt ps, len)) (hok : lookOK pc dflt ps x L = true)
    (k : swx v L (fun t => gw p l e R s m args below meth c Qx A D cA q0 tF qF al N0 u0 z0 um zm t lv r a I J Q) (gw p l e R s m args below meth c Qx A D cA q0 tF qF al N0 u0 z0 um zm x lv r a I J Q)) : gw p l e R s m args below meth c Qx A D cA q0 tF qF al N0 u0 z0 um zm pc lv (.int v :: r) a I J Q := by
  obtain ⟨hx, hb, -⟩ := C
  unfold lookOK at hok
  rw [Bool.and_eq_true, Bool.and_eq_true, decide_eq_true_eq, decide_eq_true_eq] at hok
  obtain ⟨⟨o1, o2⟩, o3⟩ := hok
  obtain ⟨off, tgt, a1, a2, a3⟩ := look_off o1 k
  intro q H locs ls h1 h2 hP hD hS hl
  refine lv_lookup hx hb hd ?_ (by rw [o2]; exact a1) a2 ?_
  · exact o3
  · rcases a3 with a3 | ⟨rfl, a3⟩
    · exact a3 q H locs ls h1 h2 hP hD hS hl
    · exact a3 q H locs ls h1 h2 hP hD hS hl
end RS
end
section
/-! the kinds of calls -/
def okM (own : String) (idx d : Nat) (dd : cdT) (n kind rc : Nat) (L : List (Int32 × Nat)) : Bool :=
  decide (dd.1.cls ≠ "java/lang/invoke/MethodHandle") && decide (dd.1.cls ≠ "java/lang/invoke/VarHandle") && decide ((parseMethodDescriptor dd.1.desc).map (fun z => z.parameters.length) = some (if kind = 1 then n else n - 1)) && decide (dd.2.2.2.2 + 1 ≤ d) && decide (dd.2.2.1 ≤ 45) && memH (hn L 1) (Cond.initialized dd.1.cls)
    && (if kind = 0 then decide (dd.1.name = "<init>") && memH (hn L 2) (Cond.instanceMethod dd.1) && decide (dd.2.2.2.1 = none) && decide (1 ≤ n) && (memH (hn L 0) (Cond.methodLink own idx dd.1) || memN (hn L 0) (Cond.methodLinkNest own idx dd.1 RX9))
      else if kind = 1 then memH (hn L 2) (Cond.static dd.1) && (memH (hn L 0) (Cond.methodLink own idx dd.1) || memN (hn L 0) (Cond.methodLinkNest own idx dd.1 RX9))
      else memH (hn L 2) (Cond.instanceMethod dd.1) && memH (hn L 3) (Cond.selects dd.1.cls dd.1 dd.1) && decide (1 ≤ n) && memH (hn L 0) (Cond.methodLink own idx dd.1) && decide ((vwCl[rc]?).map (fun r => r.1) = some dd.1.cls))
section CK
variable {p : Program} {l : Launch} {e : Env} {R : Room} {s : State} {m : MethodId} {args : Array Value} {below : List Frame} {meth : Method} {c : Code} {Qx : State → Prop} {A : Nat → Prop} {D : va_G} {cA : Nat → ClassId} {q0 : Nat → Nat} {tF : hTF} {qF : hQF} {al : Bool} {N0 u0 z0 um zm base nL d : Nat} {cc : ByteArray} {own : String} {ret : Option FieldType} {ini : Bool} {pc : Nat} {lv lv' : lL} {st st' : List Value} {a : hA} {I : hI} {J : hJ} {Q : hQ}
theorem take_map {q : Nat → Nat} {n : Nat} {o : Nat} {av : List Value} (h : (st.take n).reverse = .ref o :: av) : st.map (cv q) = (av.map (cv q)).reverse ++ .ref (q o) :: (st.drop n).map (cv q) := by
  have h1 : st.take n = av.reverse ++ [.ref o] := by
    rw [← List.reverse_reverse (st.take n), h, List.reverse_cons]
  conv => lhs; rw [← List.take_append_drop n st, h1]
  simp [cv]
theorem take_mapS {q : Nat → Nat} {n : Nat} : st.map (cv q) = (((st.take n).reverse).map (cv q)).reverse ++ (st.drop n).map (cv q) := by
  conv => lhs; rw [← List.take_append_drop n st]
  simp
theorem gw_virtual {idx : Nat} {dd : cdT} {ee : ev} {o : Nat} {av : List Value} (C : cx p R s m args meth c A D cA cc own nL ret ini d N0 base u0 z0 um zm) (hcon : Con l tF qF base dd ee) (hd : decode cc pc = .ok (.invokevirtual idx, 3)) {L : List (Int32 × Nat)} (hok : okM own idx d dd ee.1 2 ee.2.1 L = true)
    (hal : ee.2.2.1 = true → al = true) (hlen : ee.1 ≤ st.length) (hu : a.2.1 ≤ um → a.2.1 + ee.2.2.2.1 ≤ um) (hz : a.2.2.1 ≤ zm → a.2.2.1 + ee.2.2.2.2.1 ≤ zm) (hrok : ee.2.2.1 = true → rok a.1 lv (st.drop ee.1)) (hc8 : cat8 (st.drop ee.1) ≤ 8) (hav : (st.take ee.1).reverse = .ref o :: av) (hin : cin base a o = true) (ht : (tE tF a.2.2.2 o).1 = ee.2.1)
    (k : ee.2.2.2.2.2 (.ref o :: av) a I J Q (fun v a' I' J' Q' => gw p l e R s m args below meth c Qx A D cA q0 tF qF al N0 u0 z0 um zm (pc + 3) lv (v.toList ++ st.drop ee.1) a' I' J' Q')) : gw p l e R s m args below meth c Qx A D cA q0 tF qF al N0 u0 z0 um zm pc lv st a I J Q := by
  have hlen2 : (Value.ref o :: av).length = ee.1 := by rw [← hav, List.length_reverse, List.length_take]; omega
  unfold okM at hok
  simp only [Bool.and_eq_true, decide_eq_true_eq, if_neg (show ¬ (2 : Nat) = 0 by decide), if_neg (show ¬ (2 : Nat) = 1 by decide)] at hok
  obtain ⟨⟨⟨⟨⟨⟨m1, m2⟩, m3⟩, m4⟩, m5⟩, m6⟩, ⟨⟨⟨m7, m8⟩, m9⟩, m10⟩, m11⟩ := hok
  have m6 := memH_ok m6
  have m7 := memH_ok m7
  have m8 := memH_ok m8
  have m10 := memH_ok m10
  refine gw_call (dd := dd) (ee := ee) C hal hlen hu hz hrok (K := fun v a' I' J' Q' => gw p l e R s m args below meth c Qx A D cA q0 tF qF al N0 u0 z0 um zm (pc + 3) lv (v.toList ++ st.drop ee.1) a' I' J' Q') (fun q sz hb hw => hcon.2 D cA q _ a I J Q _ sz hb hw (by rw [hav]; exact hlen2) (by rw [hav]; exact k)) ?_ (fun v a' I' J' Q' h => h)
  obtain ⟨hx, hb, hml, -, -, hown, hts, hK, hA, -, hum, hzm, hfr, hlo, hbs⟩ := C
  intro q H locs ls hcs hN hls hP hpre hM
  have hlt := cin_lt hbs hN hin
  obtain ⟨rc, e1, e2⟩ : ∃ rc, vwCl[ee.2.1]? = some rc ∧ rc.1 = dd.1.cls := by
    cases h : vwCl[ee.2.1]? with
    | none => rw [h] at m11; cases m11
    | some rc => rw [h] at m11; exact ⟨rc, rfl, Option.some.inj m11⟩
  have h11 : ee.2.1 < 11 := (List.getElem?_eq_some_iff.mp e1).1
  have hcell := hW_get (cA := cA) (q := q) (tF := tF) (qF := qF) (I := I) (J := J) (Q := Q) hlt
  rw [hE_obj ht h11] at hcell
  obtain ⟨cell, w1, w2, w3⟩ := va_recv hK.1 hP e1 hcell
  rw [hav] at hM hpre ⊢
  have hcw : CallW R s args own dd.1.cls idx dd.1 dd.2.1 dd.2.2.1 dd.2.2.2.1 (lwm dd) (rmd dd.2.2.2.2 ee.2.2.2.1 ee.2.2.2.2.1) ee.2.2.2.1 ee.2.2.2.2.1 (ee.1 - 1) :=
    ⟨callB_of (ee.1 - 1) hts (good_lwm hcon.1) rfl rfl rfl (hts _ m6) (hts _ m10) ⟨m1, m2, m3⟩ ⟨by rw [hfr]; exact m4, by rw [hlo]; show 8 + (dd.2.2.1 + 11) + 64 * dd.2.2.2.2 ≤ 64 * d; omega⟩, hts _ m7, hts _ m8⟩
  exact va_runV (As := av.map (cv q)) (b := q o) ⟨hx, hb, hml, hown, hts⟩ hM hcw ⟨pre_blind, ⟨cell, w1, w2, by rw [← e2]; exact w3⟩, hpre⟩ rfl (by rw [List.length_map]; simp at hlen2; omega) (hls.trans hml) (take_map hav) (by
    show 2 * 0 + _ ≤ 8
    have := cat8_sum q (st.drop ee.1)
    omega) hd hcs
theorem gw_static {idx : Nat} {dd : cdT} {ee : ev} (C : cx p R s m args meth c A D cA cc own nL ret ini d N0 base u0 z0 um zm) (hcon : Con l tF qF base dd ee) (hd : decode cc pc = .ok (.invokestatic idx, 3)) {L : List (Int32 × Nat)} (hok : okM own idx d dd ee.1 1 ee.2.1 L = true)
    (hal : ee.2.2.1 = true → al = true) (hlen : ee.1 ≤ st.length) (hu : a.2.1 ≤ um → a.2.1 + ee.2.2.2.1 ≤ um) (hz : a.2.2.1 ≤ zm → a.2.2.1 + ee.2.2.2.2.1 ≤ zm) (hrok : ee.2.2.1 = true → rok a.1 lv (st.drop ee.1)) (hc8 : cat8 (st.drop ee.1) ≤ 8)
    (k : ee.2.2.2.2.2 (st.take ee.1).reverse a I J Q (fun v a' I' J' Q' => gw p l e R s m args below meth c Qx A D cA q0 tF qF al N0 u0 z0 um zm (pc + 3) lv (v.toList ++ st.drop ee.1) a' I' J' Q')) : gw p l e R s m args below meth c Qx A D cA q0 tF qF al N0 u0 z0 um zm pc lv st a I J Q := by
  have hlen2 : ((st.take ee.1).reverse).length = ee.1 := by rw [List.length_reverse, List.length_take]; omega
  unfold okM at hok
  simp only [Bool.and_eq_true, Bool.or_eq_true, decide_eq_true_eq, if_neg (show ¬ (1 : Nat) = 0 by decide), if_true] at hok
  obtain ⟨⟨⟨⟨⟨⟨m1, m2⟩, m3⟩, m4⟩, m5⟩, m6⟩, m7, m8⟩ := hok
  have m6 := memH_ok m6
  have m7 := memH_ok m7
  have m8 := m8.imp memH_ok memN_ok
  refine gw_call (dd := dd) (ee := ee) C hal hlen hu hz hrok (K := fun v a' I' J' Q' => gw p l e R s m args below meth c Qx A D cA q0 tF qF al N0 u0 z0 um zm (pc + 3) lv (v.toList ++ st.drop ee.1) a' I' J' Q') (fun q sz hb hw => hcon.2 D cA q _ a I J Q _ sz hb hw hlen2 k) ?_ (fun v a' I' J' Q' h => h)
  obtain ⟨hx, hb, hml, -, -, hown, hts, hK, hA, -, hum, hzm, hfr, hlo, hbs⟩ := C
  intro q H locs ls hcs hN hls hP hpre hM
  have hroom : (rmd dd.2.2.2.2 ee.2.2.2.1 ee.2.2.2.2.1).frames + 1 ≤ R.frames ∧ 8 + (dd.2.2.1 + 11) + (rmd dd.2.2.2.2 ee.2.2.2.1 ee.2.2.2.2.1).locals ≤ R.locals := ⟨by rw [hfr]; exact m4, by rw [hlo]; show 8 + (dd.2.2.1 + 11) + 64 * dd.2.2.2.2 ≤ 64 * d; omega⟩
  have h8 : 2 * (F0 m pc ls (st.map (cv q))).monitorRoom + (((st.drop ee.1).map (cv q)).map fun v => v.category).sum ≤ 8 := by
    show 2 * 0 + _ ≤ 8
    have := cat8_sum q (st.drop ee.1)
    omega
  rcases m8 with m8 | m8
  · exact va_runS (As := ((st.take ee.1).reverse).map (cv q)) ⟨hx, hb, hml, hown, hts⟩ hM ⟨callB_of ee.1 hts (good_lwm hcon.1) rfl rfl rfl (hts _ m6) (hts _ m8) ⟨m1, m2, m3⟩ hroom, hts _ m7⟩ ⟨pre_blind, hpre⟩ rfl (by rw [List.length_map]; exact hlen2) (hls.trans hml) take_mapS h8 hd hcs
  · exact va_runSN (As := ((st.take ee.1).reverse).map (cv q)) ⟨hx, hb, hml, hown, hts⟩ hM ⟨va_cnB ee.1 hts (good_lwm hcon.1) rfl rfl rfl (hK.2.1 _ m8) (hts _ m6) ⟨m1, m2, m3⟩ hroom, hts _ m7, trivial⟩ ⟨pre_blind, hpre⟩ rfl (by rw [List.length_map]; exact hlen2) (hls.trans hml) take_mapS h8 hd hcs
theorem gw_special {idx : Nat} {dd : cdT} {ee : ev} {o : Nat} {av : List Value} (C : cx p R s m args meth c A D cA cc own nL ret ini d N0 base u0 z0 um zm) (hcon : Con l tF qF base dd ee) (hd : decode cc pc = .ok (.invokespecial idx, 3)) {L : List (Int32 × Nat)} (hok : okM own idx d dd ee.1 0 ee.2.1 L = true)
    (hal : ee.2.2.1 = true → al = true) (hlen : ee.1 ≤ st.length) (hu : a.2.1 ≤ um → a.2.1 + ee.2.2.2.1 ≤ um) (hz : a.2.2.1 ≤ zm → a.2.2.1 + ee.2.2.2.2.1 ≤ zm) (hrok : ee.2.2.1 = true → rok a.1 lv (st.drop ee.1)) (hc8 : cat8 (st.drop ee.1) ≤ 8) (hav : (st.take ee.1).reverse = .ref o :: av)
    (k : ee.2.2.2.2.2 (.ref o :: av) a I J Q (fun v a' I' J' Q' => gw p l e R s m args below meth c Qx A D cA q0 tF qF al N0 u0 z0 um zm (pc + 3) lv (v.toList ++ st.drop ee.1) a' I' J' Q')) : gw p l e R s m args below meth c Qx A D cA q0 tF qF al N0 u0 z0 um zm pc lv st a I J Q := by
  have hlen2 : (Value.ref o :: av).length = ee.1 := by rw [← hav, List.length_reverse, List.length_take]; omega
  unfold okM at hok
  simp only [Bool.and_eq_true, Bool.or_eq_true, decide_eq_true_eq, if_true, if_neg (show ¬ (0 : Nat) = 1 by decide)] at hok
  obtain ⟨⟨⟨⟨⟨⟨m1, m2⟩, m3⟩, m4⟩, m5⟩, m6⟩, ⟨⟨⟨m7, m8⟩, m9⟩, m10⟩, m11⟩ := hok
  have m6 := memH_ok m6
  have m8 := memH_ok m8
  have m11 := m11.imp memH_ok memN_ok
  refine gw_call (dd := dd) (ee := ee) C hal hlen hu hz hrok (K := fun v a' I' J' Q' => gw p l e R s m args below meth c Qx A D cA q0 tF qF al N0 u0 z0 um zm (pc + 3) lv (v.toList ++ st.drop ee.1) a' I' J' Q') (fun q sz hb hw => hcon.2 D cA q _ a I J Q _ sz hb hw (by rw [hav]; exact hlen2) (by rw [hav]; exact k)) ?_ (fun v a' I' J' Q' h => h)
  obtain ⟨hx, hb, hml, -, -, hown, hts, hK, hA, -, hum, hzm, hfr, hlo, hbs⟩ := C
  intro q H locs ls hcs hN hls hP hpre hM
  rw [hav] at hM hpre ⊢
  have hroom : (rmd dd.2.2.2.2 ee.2.2.2.1 ee.2.2.2.2.1).frames + 1 ≤ R.frames ∧ 8 + (dd.2.2.1 + 11) + (rmd dd.2.2.2.2 ee.2.2.2.1 ee.2.2.2.2.1).locals ≤ R.locals := ⟨by rw [hfr]; exact m4, by rw [hlo]; show 8 + (dd.2.2.1 + 11) + 64 * dd.2.2.2.2 ≤ 64 * d; omega⟩
  have h8 : 2 * (F0 m pc ls (st.map (cv q))).monitorRoom + (((st.drop ee.1).map (cv q)).map fun v => v.category).sum ≤ 8 := by
    show 2 * 0 + _ ≤ 8
    have := cat8_sum q (st.drop ee.1)
    omega
  have hlw : lwm dd = Cond.code dd.1 dd.2.1 dd.2.2.1 none :: lw_g := by unfold lwm; rw [m9]
  rcases m11 with m11 | m11
  · exact va_runI (As := av.map (cv q)) (b := q o) ⟨hx, hb, hml, hown, hts⟩ hM ⟨callB_of (ee.1 - 1) hts (good_lwm hcon.1) hlw rfl rfl (hts _ m6) (hts _ m11) ⟨m1, m2, m3⟩ hroom, m7, hts _ m8⟩ ⟨pre_blind, hpre⟩ rfl (by rw [List.length_map]; simp at hlen2; omega) (hls.trans hml) (take_map hav) h8 hd hcs
  · exact va_runIN (As := av.map (cv q)) (b := q o) ⟨hx, hb, hml, hown, hts⟩ hM ⟨va_cnB (ee.1 - 1) hts (good_lwm hcon.1) hlw rfl rfl (hK.2.1 _ m11) (hts _ m6) ⟨m1, m2, m3⟩ hroom, m7, hts _ m8⟩ ⟨pre_blind, hpre⟩ rfl (by rw [List.length_map]; simp at hlen2; omega) (hls.trans hml) (take_map hav) h8 hd hcs
theorem gw_object {idx : Nat} {o : Nat} {r : List Value} (C : cx p R s m args meth c A D cA cc own nL ret ini d N0 base u0 z0 um zm) (hd1 : 1 ≤ d) (hd : decode cc pc = .ok (.invokespecial idx, 3)) (w1 : Cond.methodLink own idx objectInit ∈ lw_g) (w2 : Cond.instanceMethod objectInit ∈ lw_g) (w3 : Cond.code objectInit ⟨#[0xb1]⟩ 1 none ∈ lw_g) (hc8 : cat8 r ≤ 8)
    (k : gw p l e R s m args below meth c Qx A D cA q0 tF qF al N0 u0 z0 um zm (pc + 3) lv r a I J Q) : gw p l e R s m args below meth c Qx A D cA q0 tF qF al N0 u0 z0 um zm pc lv (.ref o :: r) a I J Q := by
  obtain ⟨hx, hb, hml, -, -, hown, hts, hK, hA, -, hum, hzm, hfr, hlo, hbs⟩ := C
  intro q H locs ls h1 h2 hP hD hS hl
  obtain ⟨hll, l0, h8, h9⟩ := id hl
  refine W.objInit hx hb hown (hts _ w1) (hts _ w2) (hts _ w3) rfl h8.1 rfl hd (by rw [hfr]; exact hd1) ?_ (k q H locs ls h1 h2 hP hD hS hl)
  show 2 * 0 + _ + 12 ≤ R.locals
  have := cat8_sum q r
  rw [hlo]
  omega
theorem gw_max {idx : Nat} {x y : Int32} {r : List Value} (C : cx p R s m args meth c A D cA cc own nL ret ini d N0 base u0 z0 um zm) (hd1 : 1 ≤ d) (hd : decode cc pc = .ok (.invokestatic idx, 3)) (w1 : Cond.methodLink own idx Lib.Math.max.name ∈ lw_g) (w2 : Cond.static Lib.Math.max.name ∈ lw_g) (w3 : Cond.initialized "java/lang/Math" ∈ lw_g) (w4 : Cond.code Lib.Math.max.name Lib.Math.max.code 2 (some .int) ∈ lw_g) (hc8 : cat8 r ≤ 8)
    (k : gw p l e R s m args below meth c Qx A D cA q0 tF qF al N0 u0 z0 um zm (pc + 3) lv (.int (if x < y then y else x) :: r) a I J Q) : gw p l e R s m args below meth c Qx A D cA q0 tF qF al N0 u0 z0 um zm pc lv (.int y :: .int x :: r) a I J Q := by
  obtain ⟨hx, hb, hml, -, -, hown, hts, hK, hA, -, hum, hzm, hfr, hlo, hbs⟩ := C
  intro q H locs ls h1 h2 hP hD hS hl
  obtain ⟨hll, l0, h8, h9⟩ := id hl
  have := cat8_sum q r
  exact va_mmax hx hb h8.1.symm hown (hts _ w1) (hts _ w2) (hts _ w3) (hts _ w4) (by rw [hfr]; exact hd1) (by rw [hlo]; omega) (by omega) (by omega) hd (k q H locs ls h1 h2 hP hD hS hl)
theorem gw_min {idx : Nat} {x y : Int32} {r : List Value} (C : cx p R s m args meth c A D cA cc own nL ret ini d N0 base u0 z0 um zm) (hd1 : 1 ≤ d) (hd : decode cc pc = .ok (.invokestatic idx, 3)) (w1 : Cond.methodLink own idx Lib.Math.min.name ∈ lw_g) (w2 : Cond.static Lib.Math.min.name ∈ lw_g) (w3 : Cond.initialized "java/lang/Math" ∈ lw_g) (w4 : Cond.code Lib.Math.min.name Lib.Math.min.code 2 (some .int) ∈ lw_g) (hc8 : cat8 r ≤ 8)
    (k : gw p l e R s m args below meth c Qx A D cA q0 tF qF al N0 u0 z0 um zm (pc + 3) lv (.int (if y < x then y else x) :: r) a I J Q) : gw p l e R s m args below meth c Qx A D cA q0 tF qF al N0 u0 z0 um zm pc lv (.int y :: .int x :: r) a I J Q := by
  obtain ⟨hx, hb, hml, -, -, hown, hts, hK, hA, -, hum, hzm, hfr, hlo, hbs⟩ := C
  intro q H locs ls h1 h2 hP hD hS hl
  obtain ⟨hll, l0, h8, h9⟩ := id hl
  have := cat8_sum q r
  exact va_mmin hx hb h8.1.symm hown (hts _ w1) (hts _ w2) (hts _ w3) (hts _ w4) (by rw [hfr]; exact hd1) (by rw [hlo]; omega) (by omega) (by omega) hd (k q H locs ls h1 h2 hP hD hS hl)
end CK
end
section
/-! a stretch's proposition is enough: wpx_sound, wpc_sound, and a contract out of it -/
abbrev edT : Type := cdT × Nat × Nat
def isO (r : Option FieldType) : Bool := match r with
  | some (.object _) => true
  | some (.array _) => true
  | _ => false
/-- an instruction's row is what the code has, and its words are there -/
def okE (own : String) (cc : ByteArray) (ed : List edT) (d : Nat) (ret : Option FieldType) (rz : Bool) (w : en) : Bool := match w with
  | (pc, i, len, x, y, c, dj, L) => decide (decode cc pc = .ok (i, len)) && okC own i c dj L && (match i with
    | .goto off => decide ((pc : Int) + off = (x : Int)) && Nat.beq len 3
    | .ifCond _ off => decide ((pc : Int) + off = (x : Int)) && Nat.beq len 3
    | .if_icmp _ off => decide ((pc : Int) + off = (x : Int)) && Nat.beq len 3
    | .ifnull off => decide ((pc : Int) + off = (x : Int)) && Nat.beq len 3
    | .ifnonnull off => decide ((pc : Int) + off = (x : Int)) && Nat.beq len 3
    | .tableswitch dflt lo hi offs => tabOK pc dflt lo hi offs x L
    | .lookupswitch dflt ps => lookOK pc dflt ps x L
    | .getfield idx => okF own idx x y L && Nat.blt x 11 && Nat.beq len 3
    | .putfield idx => okF own idx x y L && okP own x y && Nat.blt x 11 && Nat.beq len 3
    | .new idx => (match vwCl[x]? with
      | some r => memH (hn L 0) (Cond.classLink own idx r.1)
      | none => false) && Nat.beq len 3
    | .newarray t => ((decide (t = .int) && Nat.beq x 11 && memH (hn L 0) (Cond.arrayClass .int)) || (decide (t = .long) && Nat.beq x 12 && memH (hn L 0) (Cond.arrayClass .long))) && Nat.ble y 10000 && Nat.beq len 2
    | .anewarray idx => ((Nat.beq x 13 && memH (hn L 0) (Cond.classLink own idx RX6)) || (Nat.beq x 14 && memH (hn L 0) (Cond.classLink own idx RX7)) || (Nat.beq x 15 && memH (hn L 0) (Cond.classLink own idx RX8))) && Nat.ble y 10000 && Nat.beq len 3
    | .invokespecial idx => Nat.beq len 3 && (match Nat.beq x 99999 with
      | true => memH (hn L 0) (Cond.methodLink own idx objectInit) && memH (hn L 1) (Cond.instanceMethod objectInit) && memH (hn L 2) (Cond.code objectInit ⟨#[0xb1]⟩ 1 none) && Nat.ble 1 d
      | false => match ed[x]? with
        | some z => okM own idx d z.1 z.2.1 0 z.2.2 L
        | none => false)
    | .invokestatic idx => Nat.beq len 3 && (match Nat.beq x 99998 with
      | true => memH (hn L 0) (Cond.methodLink own idx Lib.Math.max.name) && memH (hn L 1) (Cond.static Lib.Math.max.name) && memH (hn L 2) (Cond.initialized "java/lang/Math") && memH (hn L 3) (Cond.code Lib.Math.max.name Lib.Math.max.code 2 (some .int)) && Nat.ble 1 d
      | false => match Nat.beq x 99997 with
        | true => memH (hn L 0) (Cond.methodLink own idx Lib.Math.min.name) && memH (hn L 1) (Cond.static Lib.Math.min.name) && memH (hn L 2) (Cond.initialized "java/lang/Math") && memH (hn L 3) (Cond.code Lib.Math.min.name Lib.Math.min.code 2 (some .int)) && Nat.ble 1 d
        | false => match ed[x]? with
          | some z => okM own idx d z.1 z.2.1 1 z.2.2 L
          | none => false)
    | .invokevirtual idx => Nat.beq len 3 && (match ed[x]? with
      | some z => okM own idx d z.1 z.2.1 2 z.2.2 L
      | none => false)
    | .ireturn => Nat.beq len 1 && ((decide (ret = some .int) && !rz) || (decide (ret = some .boolean) && rz))
    | .lreturn => Nat.beq len 1 && decide (ret = some .long)
    | .areturn => Nat.beq len 1 && isO ret
    | .return_ => Nat.beq len 1 && decide (ret = none)
    | i => Nat.beq len (ilen i))
def okL (own : String) (cc : ByteArray) (ed : List edT) (d : Nat) (ret : Option FieldType) (rz : Bool) : List en → Bool
  | [] => true
  | w :: r => okE own cc ed d ret rz w && (match r with
    | [] => true
    | w' :: _ => Nat.beq w'.1 (w.1 + w.2.2.1)) && okL own cc ed d ret rz r
theorem okL_suf {own : String} {cc : ByteArray} {ed : List edT} {d : Nat} {ret : Option FieldType} {rz : Bool} : ∀ {code cs : List en}, cs <:+ code → okL own cc ed d ret rz code = true → okL own cc ed d ret rz cs = true
  | [], cs, h, hk => by
    rw [List.suffix_nil.mp h]
    rfl
  | w :: r, cs, h, hk => by
    rcases List.suffix_cons_iff.mp h with h | h
    · rw [h]; exact hk
    · unfold okL at hk
      rw [Bool.and_eq_true] at hk
      exact okL_suf h hk.2
theorem sk_suf : ∀ (code : List en) (pc : Nat), sk code pc <:+ code
  | [], _ => List.suffix_refl _
  | w :: r, pc => by
    unfold sk
    split
    · exact List.suffix_refl _
    · exact (sk_suf r pc).trans (List.suffix_cons w r)
theorem sk_pc : ∀ (code : List en) (pc : Nat), sk code pc ≠ [] → pcOf (sk code pc) = pc
  | [], _, h => absurd rfl h
  | w :: r, pc, h => by
    unfold sk at h ⊢
    split
    · rename_i hb
      exact Nat.eq_of_beq_eq_true hb
    · rename_i hb
      simp only [hb] at h
      exact sk_pc r pc h
theorem pc_next {own : String} {cc : ByteArray} {ed : List edT} {d : Nat} {ret : Option FieldType} {rz : Bool} {w : en} {cs : List en} (h : okL own cc ed d ret rz (w :: cs) = true) (hn : cs ≠ []) : pcOf cs = w.1 + w.2.2.1 := by
  unfold okL at h
  cases cs with
  | nil => exact absurd rfl hn
  | cons w' r =>
    simp only [Bool.and_eq_true] at h
    exact Nat.eq_of_beq_eq_true h.1.2
section SD
variable {p : Program} {l : Launch} {e : Env} {R : Room} {s : State} {m : MethodId} {args : Array Value} {below : List Frame} {meth : Method} {c : Code} {A : Nat → Prop} {D : va_G} {cA : Nat → ClassId} {q0 : Nat → Nat} {tF : hTF} {qF : hQF} {al : Bool} {N0 u0 z0 um zm base nL d : Nat} {cc : ByteArray} {own : String} {ret : Option FieldType} {ini rz : Bool} {lv : lL} {st : List Value} {a : hA} {I : hI} {J : hJ} {Q : hQ}
theorem ifc_mono {cd : ClassFile.Cond} {x y : Int32} {P1 P2 Q1 Q2 : Prop} (h : ifc cd x y P1 P2) (h1 : P1 → Q1) (h2 : P2 → Q2) : ifc cd x y Q1 Q2 := by
  cases cd <;> exact ⟨fun c => h1 (h.1 c), fun c => h2 (h.2 c)⟩
theorem swx_mono {x : Int32} {L : List (Int32 × Nat)} {T T' : Nat → Prop} {P P' : Prop} (h : swx x L T P) (h1 : ∀ t, T t → T' t) (h2 : P → P') : swx x L T' P' := by
  induction L with
  | nil => exact h2 h
  | cons y L ih => exact ⟨fun c => h1 _ (h.1 c), fun c => ih (h.2 c)⟩
theorem bor_le {a b x : Nat} (h : (Nat.beq b 0 || Nat.ble (a + b) x) = true) (h1 : a ≤ x) : a + b ≤ x := by
  rw [Bool.or_eq_true] at h
  rcases h with h | h
  · have : b = 0 := Nat.eq_of_beq_eq_true h
    omega
  · exact Nat.le_of_ble_eq_true h
set_option maxHeartbeats 4000000 in
theorem wpx_sound {mc ms : Nat} {t0 : Nat → Nat × Nat} {I0 : hI} {J0 : hJ} {Q0 : hQ} {K : hR} {env : List ev} {ed : List edT} {code cs : List en} {k : List en → lL → List Value → hA → hI → hJ → hQ → Prop}
    (C : cx p R s m args meth c A D cA cc own nL ret ini d N0 base u0 z0 um zm) (hc : R.cells = mc) (hs : R.slots = ms) (hcode : okL own cc ed d ret rz code = true) (hsuf : cs <:+ code)
    (henv : ∀ (x : Nat) (ee : ev), env[x]? = some ee → ∃ dd, ed[x]? = some (dd, ee.1, ee.2.1) ∧ Con l tF qF base dd ee)
    (mono : ∀ (x : Nat) (ee : ev), env[x]? = some ee → ∀ av a I J Q (K1 K2 : hR), (∀ v a' I' J' Q', K1 v a' I' J' Q' → K2 v a' I' J' Q') → ee.2.2.2.2.2 av a I J Q K1 → ee.2.2.2.2.2 av a I J Q K2)
    (hk : ∀ cs' lv' st' a' I' J' Q', cs' <:+ code → k cs' lv' st' a' I' J' Q' → cs' ≠ [] ∧ gw p l e R s m args below meth c (mq below s args A D cA q0 tF qF al N0 u0 z0 mc ms t0 I0 J0 Q0 K) A D cA q0 tF qF al N0 u0 z0 um zm (pcOf cs') lv' st' a' I' J' Q')
    (h : wpx tF qF al base um zm env ini rz code (rtK K u0 z0 mc ms) k cs lv st a I J Q) : gw p l e R s m args below meth c (mq below s args A D cA q0 tF qF al N0 u0 z0 mc ms t0 I0 J0 Q0 K) A D cA q0 tF qF al N0 u0 z0 um zm (pcOf cs) lv st a I J Q := by
  have hok := okL_suf hsuf hcode
  cases cs with
  | nil => exact h.elim
  | cons w cs =>
    have hsuf' : cs <:+ code := (List.suffix_cons w cs).trans hsuf
    have hpn : cs ≠ [] → pcOf cs = w.1 + w.2.2.1 := pc_next hok
    unfold okL at hok
    rw [Bool.and_eq_true, Bool.and_eq_true] at hok
    have hE := hok.1.1
    obtain ⟨pc, i, len, x, y, ci, dj, L⟩ := w
    show gw p l e R s m args below meth c (mq below s args A D cA q0 tF qF al N0 u0 z0 mc ms t0 I0 J0 Q0 K) A D cA q0 tF qF al N0 u0 z0 um zm pc lv st a I J Q
    have next : ∀ n lv' st' a' I' J' Q', len = n → k cs lv' st' a' I' J' Q' → gw p l e R s m args below meth c (mq below s args A D cA q0 tF qF al N0 u0 z0 mc ms t0 I0 J0 Q0 K) A D cA q0 tF qF al N0 u0 z0 um zm (pc + n) lv' st' a' I' J' Q' := by
      intro n lv' st' a' I' J' Q' hn hkk
      obtain ⟨h1, h2⟩ := hk cs lv' st' a' I' J' Q' hsuf' hkk
      rw [hpn h1] at h2
      rw [← hn]
      exact h2
    have jump : ∀ t lv' st' a' I' J' Q', k (sk code t) lv' st' a' I' J' Q' → gw p l e R s m args below meth c (mq below s args A D cA q0 tF qF al N0 u0 z0 mc ms t0 I0 J0 Q0 K) A D cA q0 tF qF al N0 u0 z0 um zm t lv' st' a' I' J' Q' := by
      intro t lv' st' a' I' J' Q' hkk
      obtain ⟨h1, h2⟩ := hk _ lv' st' a' I' J' Q' (sk_suf code t) hkk
      rw [sk_pc code t h1] at h2
      exact h2
    unfold okE at hE
    simp only [Bool.and_eq_true, decide_eq_true_eq] at hE
    obtain ⟨⟨hd, hoC⟩, hE⟩ := hE
    unfold wpx at h
    simp only at h
    split at h
    · rename_i z hz
      have hl : len = ilen i := by
        unfold sm at hz
        split at hz <;> first | exact Nat.eq_of_beq_eq_true hE | cases hz
      rw [hl] at hd
      exact sm_sound C hd hoC hz (next _ _ _ _ _ _ _ hl h)
    · rename_i hz
      clear hz hoC
      split at h
      · -- goto
        simp only [Bool.and_eq_true, decide_eq_true_eq] at hE
        obtain rfl := Nat.eq_of_beq_eq_true hE.2
        exact gw_goto C hd hE.1 (jump _ _ _ _ _ _ _ h)
      · -- ifCond
        simp only [Bool.and_eq_true, decide_eq_true_eq] at hE
        obtain rfl := Nat.eq_of_beq_eq_true hE.2
        split at h
        · exact gw_if C hd hE.1 (ifc_mono h (jump _ _ _ _ _ _ _) (next 3 _ _ _ _ _ _ rfl))
        · exact h.elim
      · -- if_icmp
        simp only [Bool.and_eq_true, decide_eq_true_eq] at hE
        obtain rfl := Nat.eq_of_beq_eq_true hE.2
        split at h
        · exact gw_icmp C hd hE.1 (ifc_mono h (jump _ _ _ _ _ _ _) (next 3 _ _ _ _ _ _ rfl))
        · exact h.elim
      · -- ifnull
        simp only [Bool.and_eq_true, decide_eq_true_eq] at hE
        obtain rfl := Nat.eq_of_beq_eq_true hE.2
        split at h
        · exact gw_ifnullR C hd (next 3 _ _ _ _ _ _ rfl h)
        · exact gw_ifnullN C hd hE.1 (jump _ _ _ _ _ _ _ h)
        · exact h.elim
      · -- ifnonnull
        simp only [Bool.and_eq_true, decide_eq_true_eq] at hE
        obtain rfl := Nat.eq_of_beq_eq_true hE.2
        split at h
        · exact gw_ifnonnullR C hd hE.1 (jump _ _ _ _ _ _ _ h)
        · exact gw_ifnonnullN C hd (next 3 _ _ _ _ _ _ rfl h)
        · exact h.elim
      · -- tableswitch
        split at h
        · exact gw_table C hd hE (swx_mono h (fun t => jump t _ _ _ _ _ _) (jump _ _ _ _ _ _ _))
        · exact h.elim
      · -- lookupswitch
        split at h
        · exact gw_look C hd hE (swx_mono h (fun t => jump t _ _ _ _ _ _) (jump _ _ _ _ _ _ _))
        · exact h.elim
      · -- idiv
        obtain rfl : len = 1 := Nat.eq_of_beq_eq_true hE
        split at h
        · exact gw_div C hd h.1 (next 1 _ _ _ _ _ _ rfl h.2)
        · exact h.elim
      · -- irem
        obtain rfl : len = 1 := Nat.eq_of_beq_eq_true hE
        split at h
        · exact gw_rem C hd h.1 (next 1 _ _ _ _ _ _ rfl h.2)
        · exact h.elim
      · -- getfield
        simp only [Bool.and_eq_true] at hE
        obtain rfl := Nat.eq_of_beq_eq_true hE.2
        have h11 : x < 11 := by simpa [Nat.blt_eq] using hE.1.2
        split at h
        · rw [ck_iff, Bool.and_eq_true] at h
          obtain ⟨⟨g1, g2⟩, h⟩ := h
          have g2 := Nat.eq_of_beq_eq_true g2
          split at h
          · rename_i hy
            exact gw_getfield C hd hE.1.1 g1 g2 h11 hy (fun q => rfl) (next 3 _ _ _ _ _ _ rfl h)
          · rename_i hy
            exact gw_getfield C hd hE.1.1 g1 g2 h11 hy (fun q => by unfold hV; rw [if_neg (by decide), if_pos rfl, cv_rv]) (next 3 _ _ _ _ _ _ rfl h)
          · rename_i z hy1 hy2 hy
            exact gw_getfield C hd hE.1.1 g1 g2 h11 hy (fun q => by unfold hV; rw [if_neg (by simpa using hy1), if_neg (by simpa using hy2)]; rfl) (next 3 _ _ _ _ _ _ rfl h)
          · exact h.elim
        · exact h.elim
      · -- putfield
        simp only [Bool.and_eq_true] at hE
        obtain ⟨⟨⟨o1, o2⟩, o3⟩, o4⟩ := hE
        obtain rfl := Nat.eq_of_beq_eq_true o4
        have h11 : x < 11 := by simpa [Nat.blt_eq] using o3
        obtain ⟨rc, e1, e2, e3, e4, e5, e6, -⟩ := cls_ok x h11
        have hkty : ∀ κ, (kd x)[y]? = some κ → kty κ (tyA x y) = true := by
          intro κ hκ
          have hy : y < rc.2.2 := by rw [← e5]; exact (List.getElem?_eq_some_iff.mp hκ).1
          have := e6 y hy
          rw [List.getD_eq_getElem?_getD, hκ] at this
          exact this
        split at h
        · rename_i v o r
          rw [ck_iff, Bool.and_eq_true, Bool.and_eq_true] at h
          obtain ⟨⟨⟨g1, g2⟩, g3⟩, h⟩ := h
          have g2 := Nat.eq_of_beq_eq_true g2
          split at h
          · rename_i hy
            have ht : tyA x y = .int := by simpa [kty] using hkty _ hy
            refine gw_put (I' := up2 I o y v) (J' := J) (Q' := Q) C hd o1 o2 g1 g2 h11 hy g3 (fun q => by rw [ht]; rfl) (fun q => by rw [ht]; rfl) (fun q => ?_) (fun q j z hj => ?_) (fun k' hk' => ⟨up2_ne hk', rfl, rfl⟩) (fun _ h => h) (next 3 _ _ _ _ _ _ rfl h)
            · unfold hV; rw [if_neg (by decide), if_neg (by decide), up2_at]; rfl
            · unfold hV; rw [up2_nej hj]
          · rename_i hy
            have ht : tyA x y = .boolean := by simpa [kty] using hkty _ hy
            refine gw_put (I' := up2 I o y v) (J' := J) (Q' := Q) C hd o1 o2 g1 g2 h11 hy g3 (fun q => by rw [ht]; rcases h.1 with e | e <;> rw [e] <;> rfl) (fun q => by rw [ht]; rcases h.1 with e | e <;> rw [e] <;> rfl) (fun q => ?_) (fun q j z hj => ?_) (fun k' hk' => ⟨up2_ne hk', rfl, rfl⟩) (fun _ h => h) (next 3 _ _ _ _ _ _ rfl h.2)
            · unfold hV; rw [if_neg (by decide), if_neg (by decide), up2_at]; rfl
            · unfold hV; rw [up2_nej hj]
          · exact h.elim
        · rename_i v o r
          rw [ck_iff, Bool.and_eq_true, Bool.and_eq_true] at h
          obtain ⟨⟨⟨g1, g2⟩, g3⟩, h⟩ := h
          have g2 := Nat.eq_of_beq_eq_true g2
          split at h
          · rename_i hy
            have ht : tyA x y = .long := by simpa [kty] using hkty _ hy
            refine gw_put (I' := I) (J' := up2 J o y v) (Q' := Q) C hd o1 o2 g1 g2 h11 hy g3 (fun q => by rw [ht]; rfl) (fun q => by rw [ht]; rfl) (fun q => ?_) (fun q j z hj => ?_) (fun k' hk' => ⟨rfl, up2_ne hk', rfl⟩) (fun _ h => h) (next 3 _ _ _ _ _ _ rfl h)
            · unfold hV; rw [if_pos rfl, up2_at]; rfl
            · unfold hV; rw [up2_nej hj]
          · exact h.elim
        · rename_i v o r
          rw [ck_iff, Bool.and_eq_true, Bool.and_eq_true, Bool.and_eq_true, Bool.and_eq_true] at h
          obtain ⟨⟨⟨⟨⟨g1, g2⟩, g3⟩, g4⟩, g5⟩, h⟩ := h
          have g2 := Nat.eq_of_beq_eq_true g2
          have g4 : qF o y = none := by simpa using g4
          split at h
          · rename_i hy
            have ht := hkty _ hy
            have hbs := C.2.2.2.2.2.2.2.2.2.2.2.2.2.2
            refine gw_put (I' := I) (J' := J) (Q' := up2 Q o y (some v)) C hd o1 o2 g1 g2 h11 hy g3 (fun q => ?_) (fun q => ?_) (fun q => ?_) (fun q j z hj => ?_) (fun k' hk' => ⟨rfl, rfl, qE_ne hk'⟩) (fun hN hw => wf_up g4 (cin_lt hbs hN g5) hw) (next 3 _ _ _ _ _ _ rfl h)
            · cases hta : tyA x y <;> rw [hta] at ht <;> first | rfl | (simp [kty] at ht; done)
            · cases hta : tyA x y <;> rw [hta] at ht <;> first | rfl | (simp [kty] at ht; done)
            · unfold hV qE; rw [if_neg (by decide), if_pos rfl, g4, up2_at]; rfl
            · unfold hV qE; rw [up2_nej hj]
          · exact h.elim
        · exact h.elim
      · -- iaload
        obtain rfl : len = 1 := Nat.eq_of_beq_eq_true hE
        split at h
        · rw [ck_iff, Bool.and_eq_true] at h
          obtain ⟨⟨g1, g2⟩, h1, h⟩ := h
          exact gw_iaload C hd g1 (Nat.eq_of_beq_eq_true g2) h1 (next 1 _ _ _ _ _ _ rfl h)
        · exact h.elim
      · -- laload
        obtain rfl : len = 1 := Nat.eq_of_beq_eq_true hE
        split at h
        · rw [ck_iff, Bool.and_eq_true] at h
          obtain ⟨⟨g1, g2⟩, h1, h⟩ := h
          exact gw_laload C hd g1 (Nat.eq_of_beq_eq_true g2) h1 (next 1 _ _ _ _ _ _ rfl h)
        · exact h.elim
      · -- aaload
        obtain rfl : len = 1 := Nat.eq_of_beq_eq_true hE
        split at h
        · rw [ck_iff, Bool.and_eq_true, Bool.and_eq_true] at h
          obtain ⟨⟨⟨g1, g2⟩, g3⟩, h1, h⟩ := h
          exact gw_aaload C hd g1 (by simpa [Nat.blt_eq] using g2) (by simpa [Nat.blt_eq] using g3) h1 (next 1 _ _ _ _ _ _ rfl h)
        · exact h.elim
      · -- iastore
        obtain rfl : len = 1 := Nat.eq_of_beq_eq_true hE
        split at h
        · rw [ck_iff, Bool.and_eq_true] at h
          obtain ⟨⟨g1, g2⟩, h1, h⟩ := h
          exact gw_iastore C hd g1 (Nat.eq_of_beq_eq_true g2) h1 (next 1 _ _ _ _ _ _ rfl h)
        · exact h.elim
      · -- lastore
        obtain rfl : len = 1 := Nat.eq_of_beq_eq_true hE
        split at h
        · rw [ck_iff, Bool.and_eq_true] at h
          obtain ⟨⟨g1, g2⟩, h1, h⟩ := h
          exact gw_lastore C hd g1 (Nat.eq_of_beq_eq_true g2) h1 (next 1 _ _ _ _ _ _ rfl h)
        · exact h.elim
      · -- aastore
        obtain rfl : len = 1 := Nat.eq_of_beq_eq_true hE
        split at h
        · rw [ck_iff, Bool.and_eq_true, Bool.and_eq_true, Bool.and_eq_true, Bool.and_eq_true] at h
          obtain ⟨⟨⟨⟨⟨g1, g2⟩, g3⟩, g4⟩, g5⟩, h1, h2, h⟩ := h
          exact gw_aastore C hd g1 g2 (Nat.eq_of_beq_eq_true g3) (by simpa [Nat.blt_eq] using g4) (by simpa [Nat.blt_eq] using g5) h1 h2 (next 1 _ _ _ _ _ _ rfl h)
        · exact h.elim
      · -- arraylength
        obtain rfl : len = 1 := Nat.eq_of_beq_eq_true hE
        split at h
        · rw [ck_iff, Bool.and_eq_true, Bool.and_eq_true] at h
          obtain ⟨⟨⟨g1, g2⟩, g3⟩, h⟩ := h
          exact gw_alen C hd g1 (by simpa [Nat.blt_eq] using g2) (by simpa [Nat.blt_eq] using g3) (next 1 _ _ _ _ _ _ rfl h)
        · exact h.elim
      · -- new
        rw [Bool.and_eq_true] at hE
        obtain rfl := Nat.eq_of_beq_eq_true hE.2
        rw [ck_iff, Bool.and_eq_true] at h
        obtain ⟨⟨g1, g2⟩, h1, h2, h3, h⟩ := h
        refine gw_new C g1 hd (fun r hr => ?_) (by simpa [Nat.blt_eq] using g2) h1 h2 h3 (next 3 _ _ _ _ _ _ rfl h)
        have := hE.1
        rw [hr] at this
        exact memH_ok this
      · -- newarray
        simp only [Bool.and_eq_true, Bool.or_eq_true, decide_eq_true_eq] at hE
        obtain ⟨⟨o1, o2⟩, o3⟩ := hE
        obtain rfl := Nat.eq_of_beq_eq_true o3
        have o2 := Nat.le_of_ble_eq_true o2
        split at h
        · rw [ck_iff, Bool.and_eq_true, Bool.and_eq_true, decide_eq_true_eq, decide_eq_true_eq] at h
          obtain ⟨⟨⟨g1, g2⟩, g3⟩, h1, h2, h3, h⟩ := h
          rcases o1 with ⟨⟨rfl, o5⟩, o6⟩ | ⟨⟨rfl, o5⟩, o6⟩
          · obtain rfl := Nat.eq_of_beq_eq_true o5
            exact gw_newi C g1 hd (memH_ok o6) o2 g2 g3 h1 h2 h3 (next 2 _ _ _ _ _ _ rfl h)
          · obtain rfl := Nat.eq_of_beq_eq_true o5
            exact gw_newl C g1 hd (memH_ok o6) o2 g2 g3 h1 h2 h3 (next 2 _ _ _ _ _ _ rfl h)
        · exact h.elim
      · -- anewarray
        simp only [Bool.and_eq_true, Bool.or_eq_true, decide_eq_true_eq] at hE
        obtain ⟨⟨o1, o2⟩, o3⟩ := hE
        obtain rfl := Nat.eq_of_beq_eq_true o3
        have o2 := Nat.le_of_ble_eq_true o2
        split at h
        · rw [ck_iff, Bool.and_eq_true, Bool.and_eq_true, decide_eq_true_eq, decide_eq_true_eq] at h
          obtain ⟨⟨⟨g1, g2⟩, g3⟩, h1, h2, h3, h⟩ := h
          rcases o1 with (⟨o5, o6⟩ | ⟨o5, o6⟩) | ⟨o5, o6⟩
          · exact gw_newq C g1 hd (memH_ok o6) (Or.inl ⟨Nat.eq_of_beq_eq_true o5, rfl⟩) o2 g2 g3 h1 h2 h3 (next 3 _ _ _ _ _ _ rfl h)
          · exact gw_newq C g1 hd (memH_ok o6) (Or.inr (Or.inl ⟨Nat.eq_of_beq_eq_true o5, rfl⟩)) o2 g2 g3 h1 h2 h3 (next 3 _ _ _ _ _ _ rfl h)
          · exact gw_newq C g1 hd (memH_ok o6) (Or.inr (Or.inr ⟨Nat.eq_of_beq_eq_true o5, rfl⟩)) o2 g2 g3 h1 h2 h3 (next 3 _ _ _ _ _ _ rfl h)
        · exact h.elim
      · -- invokespecial
        rw [Bool.and_eq_true] at hE
        obtain rfl := Nat.eq_of_beq_eq_true hE.1
        have hE := hE.2
        split at h
        · rename_i hb
          rw [hb] at hE
          simp only [Bool.and_eq_true, decide_eq_true_eq] at hE
          split at h
          · rw [ck_iff] at h
            exact gw_object C (Nat.le_of_ble_eq_true hE.2) hd (memH_ok hE.1.1.1) (memH_ok hE.1.1.2) (memH_ok hE.1.2) (Nat.le_of_ble_eq_true h.1) (next 3 _ _ _ _ _ _ rfl h.2)
          · exact h.elim
        · rename_i hb
          rw [hb] at hE
          split at h
          · rename_i ee he
            obtain ⟨dd, hdd, hcon⟩ := henv _ ee he
            simp only [hdd] at hE
            split at h
            · rename_i o av hav
              rw [ck_iff] at h
              simp only [Bool.and_eq_true] at h
              obtain ⟨⟨⟨⟨⟨g1, g2⟩, g3⟩, g4⟩, g5⟩, h⟩ := h
              obtain ⟨h1, h⟩ := ca_ok h
              exact gw_special C hcon hd hE (fun h9 => by simpa [h9] using g1) (Nat.le_of_ble_eq_true g2) (bor_le g4) (bor_le g5) h1 (Nat.le_of_ble_eq_true g3) hav (mono _ ee he _ _ _ _ _ _ _ (fun v a' I' J' Q' h => next 3 _ _ _ _ _ _ rfl h) h)
            · exact h.elim
          · exact h.elim
      · -- invokestatic
        rw [Bool.and_eq_true] at hE
        obtain rfl := Nat.eq_of_beq_eq_true hE.1
        have hE := hE.2
        split at h
        · rename_i hb
          rw [hb] at hE
          simp only [Bool.and_eq_true, decide_eq_true_eq] at hE
          obtain ⟨⟨⟨⟨o1, o2⟩, o3⟩, o4⟩, o5⟩ := hE
          split at h
          · rw [ck_iff] at h
            exact gw_max C (Nat.le_of_ble_eq_true o5) hd (memH_ok o1) (memH_ok o2) (memH_ok o3) (memH_ok o4) (Nat.le_of_ble_eq_true h.1) (next 3 _ _ _ _ _ _ rfl h.2)
          · exact h.elim
        · rename_i hb
          rw [hb] at hE
          split at h
          · rename_i hb2
            simp only [hb2, Bool.and_eq_true, decide_eq_true_eq] at hE
            obtain ⟨⟨⟨⟨o1, o2⟩, o3⟩, o4⟩, o5⟩ := hE
            split at h
            · rw [ck_iff] at h
              exact gw_min C (Nat.le_of_ble_eq_true o5) hd (memH_ok o1) (memH_ok o2) (memH_ok o3) (memH_ok o4) (Nat.le_of_ble_eq_true h.1) (next 3 _ _ _ _ _ _ rfl h.2)
            · exact h.elim
          · rename_i hb2
            simp only [hb2] at hE
            split at h
            · rename_i ee he
              obtain ⟨dd, hdd, hcon⟩ := henv _ ee he
              simp only [hdd] at hE
              rw [ck_iff] at h
              simp only [Bool.and_eq_true] at h
              obtain ⟨⟨⟨⟨⟨g1, g2⟩, g3⟩, g4⟩, g5⟩, h⟩ := h
              obtain ⟨h1, h⟩ := ca_ok h
              exact gw_static C hcon hd hE (fun h9 => by simpa [h9] using g1) (Nat.le_of_ble_eq_true g2) (bor_le g4) (bor_le g5) h1 (Nat.le_of_ble_eq_true g3) (mono _ ee he _ _ _ _ _ _ _ (fun v a' I' J' Q' h => next 3 _ _ _ _ _ _ rfl h) h)
            · exact h.elim
      · -- invokevirtual
        rw [Bool.and_eq_true] at hE
        obtain rfl := Nat.eq_of_beq_eq_true hE.1
        have hE := hE.2
        split at h
        · rename_i ee he
          obtain ⟨dd, hdd, hcon⟩ := henv _ ee he
          simp only [hdd] at hE
          split at h
          · rename_i o av hav
            rw [ck_iff] at h
            simp only [Bool.and_eq_true] at h
            obtain ⟨⟨⟨⟨⟨⟨⟨g1, g2⟩, g3⟩, g4⟩, g5⟩, g6⟩, g7⟩, h⟩ := h
            obtain ⟨h1, h⟩ := ca_ok h
            exact gw_virtual C hcon hd hE (fun h9 => by simpa [h9] using g1) (Nat.le_of_ble_eq_true g2) (bor_le g4) (bor_le g5) h1 (Nat.le_of_ble_eq_true g3) hav g6 (Nat.eq_of_beq_eq_true g7) (mono _ ee he _ _ _ _ _ _ _ (fun v a' I' J' Q' h => next 3 _ _ _ _ _ _ rfl h) h)
          · exact h.elim
        · exact h.elim
      · -- ireturn
        simp only [Bool.and_eq_true, Bool.or_eq_true, decide_eq_true_eq] at hE
        obtain rfl := Nat.eq_of_beq_eq_true hE.1
        split at h
        · split at h
          · rcases hE.2 with ⟨hr, h0⟩ | ⟨hr, h0⟩
            · cases h0
            · exact gw_ireturn C hc hs hd hr (by rcases h.1 with e | e <;> rw [e] <;> rfl) h.2
          · rcases hE.2 with ⟨hr, h0⟩ | ⟨hr, h0⟩
            · exact gw_ireturn C hc hs hd hr rfl h
            · cases h0
        · exact h.elim
      · -- lreturn
        simp only [Bool.and_eq_true, decide_eq_true_eq] at hE
        obtain rfl := Nat.eq_of_beq_eq_true hE.1
        split at h
        · exact gw_lreturn C hc hs hd hE.2 h
        · exact h.elim
      · -- areturn
        simp only [Bool.and_eq_true] at hE
        obtain rfl := Nat.eq_of_beq_eq_true hE.1
        have hty : ∃ ty, ret = some ty ∧ ((∃ n, ty = .object n) ∨ ∃ t, ty = .array t) := by
          have := hE.2
          unfold isO at this
          split at this
          · exact ⟨_, rfl, Or.inl ⟨_, rfl⟩⟩
          · exact ⟨_, rfl, Or.inr ⟨_, rfl⟩⟩
          · cases this
        obtain ⟨ty, hr, hty⟩ := hty
        split at h
        · exact gw_areturn C hc hs hd hr hty (Or.inr ⟨_, rfl⟩) h
        · exact gw_areturn C hc hs hd hr hty (Or.inl rfl) h
        · exact h.elim
      · -- return
        simp only [Bool.and_eq_true, decide_eq_true_eq] at hE
        obtain rfl := Nat.eq_of_beq_eq_true hE.1
        split at h
        · exact gw_return C hc hs hd hE.2 h
        · exact h.elim
      · exact h.elim
theorem wpc_sound {mc ms : Nat} {t0 : Nat → Nat × Nat} {I0 : hI} {J0 : hJ} {Q0 : hQ} {K : hR} {env : List ev} {ed : List edT} {code : List en} {stops : List Nat}
    (C : cx p R s m args meth c A D cA cc own nL ret ini d N0 base u0 z0 um zm) (hc : R.cells = mc) (hs : R.slots = ms) (hcode : okL own cc ed d ret rz code = true)
    (henv : ∀ (x : Nat) (ee : ev), env[x]? = some ee → ∃ dd, ed[x]? = some (dd, ee.1, ee.2.1) ∧ Con l tF qF base dd ee)
    (mono : ∀ (x : Nat) (ee : ev), env[x]? = some ee → ∀ av a I J Q (K1 K2 : hR), (∀ v a' I' J' Q', K1 v a' I' J' Q' → K2 v a' I' J' Q') → ee.2.2.2.2.2 av a I J Q K1 → ee.2.2.2.2.2 av a I J Q K2) :
    ∀ (n : Nat) (cs : List en) (lv : lL) (st : List Value) (a : hA) (I : hI) (J : hJ) (Q : hQ), cs <:+ code →
      wpc tF qF al base um zm env ini rz code stops (gw p l e R s m args below meth c (mq below s args A D cA q0 tF qF al N0 u0 z0 mc ms t0 I0 J0 Q0 K) A D cA q0 tF qF al N0 u0 z0 um zm) (rtK K u0 z0 mc ms) n cs lv st a I J Q →
      gw p l e R s m args below meth c (mq below s args A D cA q0 tF qF al N0 u0 z0 mc ms t0 I0 J0 Q0 K) A D cA q0 tF qF al N0 u0 z0 um zm (pcOf cs) lv st a I J Q
  | 0, _, _, _, _, _, _, _, _, h => h.elim
  | n + 1, cs, lv, st, a, I, J, Q, hsuf, h => by
    refine wpx_sound C hc hs hcode hsuf henv mono (fun cs' lv' st' a' I' J' Q' hs' hk => ?_) h
    have hne : cs' ≠ [] := by
      intro e
      subst e
      split at hk
      · exact hk
      · cases n with
        | zero => exact hk
        | succ n => exact hk
    split at hk
    · split at hk
      · exact hk.elim
      · exact ⟨hne, hk⟩
    · exact ⟨hne, wpc_sound C hc hs hcode henv mono n cs' lv' st' a' I' J' Q' hs' hk⟩
end SD
end
section
/-! a contract out of a pure row over the method's stretches -/
theorem pn_long : plainName "java/lang/Long" = true := by decide +kernel
theorem pn_int : plainName "java/lang/Integer" = true := by decide +kernel
def lvA : List Value → lL
  | [] => []
  | v :: r => match is1 v with
    | true => some v :: lvA r
    | false => some v :: none :: lvA r
/-- the locals with which a method begins -/
def lvIn (nL : Nat) (av : List Value) : lL := lvA av ++ List.replicate (nL - (lvA av).length) none
def isV (v : Value) : Prop := is1 v = true ↔ v.category = 1
theorem is1_iff (v : Value) (h : is1 v = true ∨ (∃ x, v = .long x)) : (is1 v = true → ¬ v.category = 2) ∧ (is1 v = false → v.category = 2) := by
  rcases h with h | ⟨x, rfl⟩
  · exact ⟨fun _ => by rw [is1_cat h]; decide, fun h2 => by rw [h] at h2; cases h2⟩
  · exact ⟨fun h => (by cases h), fun _ => rfl⟩
/-- values of the kinds that there are here -/
def okv (av : List Value) : Prop := ∀ v ∈ av, is1 v = true ∨ ∃ x, v = .long x
theorem lvA_len {q : Nat → Nat} : ∀ {av : List Value}, okv av → (lg_sl (av.map (cv q))).length = (lvA av).length
  | [], _ => rfl
  | v :: r, h => by
    have ih := lvA_len (q := q) (av := r) (fun w hw => h w (List.mem_cons_of_mem _ hw))
    have hv := is1_iff v (h v List.mem_cons_self)
    unfold lg_sl at ih ⊢
    rw [List.map_cons, List.flatMap_cons, List.length_append, ih]
    cases hb : is1 v with
    | true => rw [if_neg (by rw [cv_cat]; exact hv.1 hb)]; simp only [lvA, hb, List.length_cons, List.length_nil]; omega
    | false => rw [if_pos (by rw [cv_cat]; exact hv.2 hb)]; simp only [lvA, hb, List.length_cons, List.length_nil]; omega
theorem lvA_mem {q : Nat → Nat} : ∀ {av : List Value} (n i : Nat) (v : Value), okv av → (lvA av)[i]? = some (some v) → (n + i, cv q v) ∈ lv_args n (av.map (cv q))
  | [], n, i, v, _, h => by simp [lvA] at h
  | w :: r, n, i, v, hok, h => by
    have hok' : okv r := fun w hw => hok w (List.mem_cons_of_mem _ hw)
    have hv := is1_iff w (hok w List.mem_cons_self)
    rw [lvA] at h
    rw [List.map_cons, lv_args]
    cases hb : is1 w with
    | true =>
      simp only [hb] at h
      rw [if_neg (by rw [cv_cat]; exact hv.1 hb)]
      cases i with
      | zero => cases h; exact List.mem_cons_self
      | succ i =>
        refine List.mem_cons_of_mem _ ?_
        have := lvA_mem (q := q) (n + 1) i v hok' h
        rwa [show n + 1 + i = n + (i + 1) by omega] at this
    | false =>
      simp only [hb] at h
      rw [if_pos (by rw [cv_cat]; exact hv.2 hb)]
      match i with
      | 0 => cases h; exact List.mem_cons_self
      | 1 => cases h
      | i + 2 =>
        refine List.mem_cons_of_mem _ ?_
        have := lvA_mem (q := q) (n + 2) i v hok' h
        rwa [show n + 2 + i = n + (i + 2) by omega] at this
theorem con_of {l : Launch} {tF : hTF} {qF : hQF} {base : Nat} {dd : cdT} {ee : ev} (own : String) (ed : List edT) (env : List ev) (ini rz : Bool) (code : List en) (hcw : Cond.code dd.1 dd.2.1 dd.2.2.1 dd.2.2.2.1 ∈ lw_g) (hy : plainName dd.1.cls = true) (hown : dd.1.cls = own) (hcode : okL own dd.2.1 ed dd.2.2.2.2 dd.2.2.2.1 rz code = true) (hini : ini = true → dd.1.name = "<init>")
    (henv : ∀ (x : Nat) (ee : ev), env[x]? = some ee → ∃ dd, ed[x]? = some (dd, ee.1, ee.2.1) ∧ Con l tF qF base dd ee)
    (mono : ∀ (x : Nat) (ee : ev), env[x]? = some ee → ∀ av a I J Q (K1 K2 : hR), (∀ v a' I' J' Q', K1 v a' I' J' Q' → K2 v a' I' J' Q') → ee.2.2.2.2.2 av a I J Q K1 → ee.2.2.2.2.2 av a I J Q K2)
    (body : ∀ (G : hG) (K : hR) (av : List Value) (a : hA) (I : hI) (J : hJ) (Q : hQ), (∀ (stops : List Nat) (n pc : Nat) (lv : lL) (st : List Value) (a' : hA) (I' : hI) (J' : hJ) (Q' : hQ), wpc tF qF ee.2.2.1 base (a.2.1 + ee.2.2.2.1) (a.2.2.1 + ee.2.2.2.2.1) env ini rz code stops G (rtK K a.2.1 a.2.2.1 ee.2.2.2.1 ee.2.2.2.2.1) n (sk code pc) lv st a' I' J' Q' → G pc lv st a' I' J' Q') → base ≤ a.1 → av.length = ee.1 → ee.2.2.2.2.2 av a I J Q K → (okv av ∧ (lvA av).length ≤ dd.2.2.1) ∧ G 0 (lvIn dd.2.2.1 av) [] a I J Q) : Con l tF qF base dd ee := by
  refine ⟨hcw, fun D cA q av a I J Q K sz hbase hwf hlen hS => ?_⟩
  refine Met.ofW (cc := dd.2.1) (maxL := dd.2.2.1) (ret := dd.2.2.2.1) (ws' := lw_g) hy rfl ?_
  intro p e s m args below meth c s₁ B hml hv
  obtain ⟨rfl, hsz, hP, hKK, hD0⟩ := hv
  have hts0 := atoms_spec (ws := lwm dd) B.pre
  have hts : ∀ w ∈ lw_g, w.before (av.map (cv q)).toArray s = true := fun w hw => hts0 w (List.mem_cons_of_mem _ hw)
  have hown' : s.vm.findClass own = some m.cls := by rw [← hown]; exact findClass_of_methodNamed B.named
  have hname : meth.name = dd.1.name := (name_of_methodNamed B.named B.method).1
  subst hsz
  have hD := hD0.self (sz := s.heap.size)
  have C : cx p (headSpec (lwm dd) (rmd dd.2.2.2.2 ee.2.2.2.1 ee.2.2.2.2.1)).room s m (av.map (cv q)).toArray meth c (va_A (hW cA q tF qF a I J Q) s.heap.size) D cA dd.2.1 own dd.2.2.1 dd.2.2.2.1 ini dd.2.2.2.2 a.1 base a.2.1 a.2.2.1 (a.2.1 + ee.2.2.2.1) (a.2.2.1 + ee.2.2.2.2.1) :=
    ⟨B.exec, B.bytes, hml, B.returns, B.notSynchronized, hown', hts, hKK, fun x hx => Or.inr hx, fun h => by rw [hname]; exact hini h, rfl, rfl, rfl, rfl, hbase⟩
  obtain ⟨⟨hokv, hlvA⟩, hG⟩ := body (gw p l e (headSpec (lwm dd) (rmd dd.2.2.2.2 ee.2.2.2.1 ee.2.2.2.2.1)).room s m (av.map (cv q)).toArray below meth c (mq below s (av.map (cv q)).toArray (va_A (hW cA q tF qF a I J Q) s.heap.size) D cA q tF qF ee.2.2.1 a.1 a.2.1 a.2.2.1 ee.2.2.2.1 ee.2.2.2.2.1 a.2.2.2 I J Q K) (va_A (hW cA q tF qF a I J Q) s.heap.size) D cA q tF qF ee.2.2.1 a.1 a.2.1 a.2.2.1 (a.2.1 + ee.2.2.2.1) (a.2.2.1 + ee.2.2.2.2.1)) K av a I J Q (fun stops n pc lv st a' I' J' Q' h => by
      by_cases hne : sk code pc = []
      · rw [hne] at h
        cases n with
        | zero => exact h.elim
        | succ n => exact h.elim
      · have := wpc_sound C rfl rfl hcode henv mono n (sk code pc) lv st a' I' J' Q' (sk_suf code pc) h
        rw [sk_pc code pc hne] at this
        exact this) hbase hlen hS
  have hent := lv_entry (av.map (cv q)) (n := dd.2.2.1) (by rw [lvA_len hokv]; exact hlvA)
  rw [lg_entry_eq]
  have hls : hLs ((lg_sl (av.map (cv q)) ++ List.replicate (dd.2.2.1 - (lg_sl (av.map (cv q))).length) Slot.unset).toArray) c.maxLocals q (lvIn dd.2.2.1 av) := by
    rw [hml]
    refine ⟨by unfold lvIn; rw [List.length_append, List.length_replicate]; omega, _, hent, fun i v hi => ?_⟩
    unfold lvIn at hi
    by_cases hl : i < (lvA av).length
    · rw [List.getElem?_append_left hl] at hi
      have := lvA_mem (q := q) 0 i v hokv hi
      rwa [Nat.zero_add] at this
    · rw [List.getElem?_append_right (by omega), List.getElem?_replicate] at hi
      split at hi <;> cases hi
  have := hG q s.heap [] _ ⟨fun _ _ => rfl, fun _ => rfl⟩ ⟨Nat.le_refl _, Nat.le_refl _, Nat.le_add_right _ _, Nat.le_refl _, Nat.le_add_right _ _, hwf⟩ hP hD va_S.rf hls
  rw [Nat.sub_self, Nat.sub_self] at this
  exact this
end
