section
-- ===== PART A: goes FIRST, ahead of the names: the tables' words, and 'selects' of the private methods out of them =====
/-- a private method of a class that the tables say can be made, by its rows of tables_1 -/
def lw_okq (q : MethodName × Nat) : Prop := (q.1.cls ≠ "java/lang/invoke/MethodHandle" ∧ q.1.cls ≠ "java/lang/invoke/VarHandle") ∧ Cond.instantiable q.1.cls q.2 ∈ tables_1 ∧ Cond.privateMethod q.1 ∈ tables_1 ∧ Cond.instanceMethod q.1 ∈ tables_1
theorem lw_p0 : lw_okq (⟨"FieldCounts", "start", "(I)V"⟩, 10) := ⟨⟨by decide +kernel, by decide +kernel⟩, List.mem_of_getElem? (i := 10) (by decide +kernel), List.mem_of_getElem? (i := 138) (by decide +kernel), List.mem_of_getElem? (i := 139) (by decide +kernel)⟩
theorem lw_p1 : lw_okq (⟨"FieldCounts", "fieldAt", "(I)LFieldCounts$Field;"⟩, 10) := ⟨⟨by decide +kernel, by decide +kernel⟩, List.mem_of_getElem? (i := 10) (by decide +kernel), List.mem_of_getElem? (i := 153) (by decide +kernel), List.mem_of_getElem? (i := 154) (by decide +kernel)⟩
theorem lw_p2 : lw_okq (⟨"FieldCounts", "isCurvePolynomial", "(I)Z"⟩, 10) := ⟨⟨by decide +kernel, by decide +kernel⟩, List.mem_of_getElem? (i := 10) (by decide +kernel), List.mem_of_getElem? (i := 324) (by decide +kernel), List.mem_of_getElem? (i := 325) (by decide +kernel)⟩
theorem lw_p3 : lw_okq (⟨"FieldCounts", "curveAt", "(I)LFieldCounts$Curve;"⟩, 10) := ⟨⟨by decide +kernel, by decide +kernel⟩, List.mem_of_getElem? (i := 10) (by decide +kernel), List.mem_of_getElem? (i := 368) (by decide +kernel), List.mem_of_getElem? (i := 369) (by decide +kernel)⟩
theorem lw_p4 : lw_okq (⟨"FieldCounts", "shareOf", "(LFieldCounts$Curve;)[I"⟩, 10) := ⟨⟨by decide +kernel, by decide +kernel⟩, List.mem_of_getElem? (i := 10) (by decide +kernel), List.mem_of_getElem? (i := 414) (by decide +kernel), List.mem_of_getElem? (i := 415) (by decide +kernel)⟩
theorem lw_p5 : lw_okq (⟨"FieldCounts", "listAt", "(I)LFieldCounts$ClassList;"⟩, 10) := ⟨⟨by decide +kernel, by decide +kernel⟩, List.mem_of_getElem? (i := 10) (by decide +kernel), List.mem_of_getElem? (i := 458) (by decide +kernel), List.mem_of_getElem? (i := 459) (by decide +kernel)⟩
theorem lw_p6 : lw_okq (⟨"FieldCounts$ClassList", "goThrough", "()V"⟩, 5) := ⟨⟨by decide +kernel, by decide +kernel⟩, List.mem_of_getElem? (i := 76) (by decide +kernel), List.mem_of_getElem? (i := 480) (by decide +kernel), List.mem_of_getElem? (i := 481) (by decide +kernel)⟩
theorem lw_p7 : lw_okq (⟨"FieldCounts$ClassList", "listWith", "(II)V"⟩, 5) := ⟨⟨by decide +kernel, by decide +kernel⟩, List.mem_of_getElem? (i := 76) (by decide +kernel), List.mem_of_getElem? (i := 484) (by decide +kernel), List.mem_of_getElem? (i := 485) (by decide +kernel)⟩
theorem lw_p8 : lw_okq (⟨"FieldCounts$ClassList", "reduced", "(II)I"⟩, 5) := ⟨⟨by decide +kernel, by decide +kernel⟩, List.mem_of_getElem? (i := 76) (by decide +kernel), List.mem_of_getElem? (i := 537) (by decide +kernel), List.mem_of_getElem? (i := 538) (by decide +kernel)⟩
theorem lw_p9 : lw_okq (⟨"FieldCountsModel", "begins", "(I)V"⟩, 23) := ⟨⟨by decide +kernel, by decide +kernel⟩, List.mem_of_getElem? (i := 576) (by decide +kernel), List.mem_of_getElem? (i := 582) (by decide +kernel), List.mem_of_getElem? (i := 583) (by decide +kernel)⟩
theorem lw_p10 : lw_okq (⟨"FieldCountsModel", "least", "(II)I"⟩, 23) := ⟨⟨by decide +kernel, by decide +kernel⟩, List.mem_of_getElem? (i := 576) (by decide +kernel), List.mem_of_getElem? (i := 586) (by decide +kernel), List.mem_of_getElem? (i := 587) (by decide +kernel)⟩
theorem lw_p11 : lw_okq (⟨"FieldCountsModel", "load", "(II)V"⟩, 23) := ⟨⟨by decide +kernel, by decide +kernel⟩, List.mem_of_getElem? (i := 576) (by decide +kernel), List.mem_of_getElem? (i := 590) (by decide +kernel), List.mem_of_getElem? (i := 591) (by decide +kernel)⟩
theorem lw_p12 : lw_okq (⟨"FieldCountsModel", "divide", "(IIII)V"⟩, 23) := ⟨⟨by decide +kernel, by decide +kernel⟩, List.mem_of_getElem? (i := 576) (by decide +kernel), List.mem_of_getElem? (i := 594) (by decide +kernel), List.mem_of_getElem? (i := 595) (by decide +kernel)⟩
theorem lw_p13 : lw_okq (⟨"FieldCountsModel", "clear", "(I)V"⟩, 23) := ⟨⟨by decide +kernel, by decide +kernel⟩, List.mem_of_getElem? (i := 576) (by decide +kernel), List.mem_of_getElem? (i := 598) (by decide +kernel), List.mem_of_getElem? (i := 599) (by decide +kernel)⟩
theorem lw_p14 : lw_okq (⟨"FieldCountsModel", "copy", "(II)V"⟩, 23) := ⟨⟨by decide +kernel, by decide +kernel⟩, List.mem_of_getElem? (i := 576) (by decide +kernel), List.mem_of_getElem? (i := 602) (by decide +kernel), List.mem_of_getElem? (i := 603) (by decide +kernel)⟩
theorem lw_p15 : lw_okq (⟨"FieldCountsModel", "degree", "(I)I"⟩, 23) := ⟨⟨by decide +kernel, by decide +kernel⟩, List.mem_of_getElem? (i := 576) (by decide +kernel), List.mem_of_getElem? (i := 606) (by decide +kernel), List.mem_of_getElem? (i := 607) (by decide +kernel)⟩
def lw_privs_1 : List (MethodName × Nat) := [(⟨"FieldCounts", "start", "(I)V"⟩, 10), (⟨"FieldCounts", "fieldAt", "(I)LFieldCounts$Field;"⟩, 10), (⟨"FieldCounts", "isCurvePolynomial", "(I)Z"⟩, 10), (⟨"FieldCounts", "curveAt", "(I)LFieldCounts$Curve;"⟩, 10), (⟨"FieldCounts", "shareOf", "(LFieldCounts$Curve;)[I"⟩, 10), (⟨"FieldCounts", "listAt", "(I)LFieldCounts$ClassList;"⟩, 10), (⟨"FieldCounts$ClassList", "goThrough", "()V"⟩, 5), (⟨"FieldCounts$ClassList", "listWith", "(II)V"⟩, 5), (⟨"FieldCounts$ClassList", "reduced", "(II)I"⟩, 5), (⟨"FieldCountsModel", "begins", "(I)V"⟩, 23), (⟨"FieldCountsModel", "least", "(II)I"⟩, 23), (⟨"FieldCountsModel", "load", "(II)V"⟩, 23), (⟨"FieldCountsModel", "divide", "(IIII)V"⟩, 23), (⟨"FieldCountsModel", "clear", "(I)V"⟩, 23), (⟨"FieldCountsModel", "copy", "(II)V"⟩, 23), (⟨"FieldCountsModel", "degree", "(I)I"⟩, 23)]
theorem lw_r1 : ∀ q ∈ lw_privs_1, lw_okq q := List.forall_mem_cons.mpr ⟨lw_p0, List.forall_mem_cons.mpr ⟨lw_p1, List.forall_mem_cons.mpr ⟨lw_p2, List.forall_mem_cons.mpr ⟨lw_p3, List.forall_mem_cons.mpr ⟨lw_p4, List.forall_mem_cons.mpr ⟨lw_p5, List.forall_mem_cons.mpr ⟨lw_p6, List.forall_mem_cons.mpr ⟨lw_p7, List.forall_mem_cons.mpr ⟨lw_p8, List.forall_mem_cons.mpr ⟨lw_p9, List.forall_mem_cons.mpr ⟨lw_p10, List.forall_mem_cons.mpr ⟨lw_p11, List.forall_mem_cons.mpr ⟨lw_p12, List.forall_mem_cons.mpr ⟨lw_p13, List.forall_mem_cons.mpr ⟨lw_p14, List.forall_mem_cons.mpr ⟨lw_p15, fun _ h => absurd h List.not_mem_nil⟩⟩⟩⟩⟩⟩⟩⟩⟩⟩⟩⟩⟩⟩⟩⟩
theorem lw_p16 : lw_okq (⟨"FieldCountsModel", "inverse", "(I)I"⟩, 23) := ⟨⟨by decide +kernel, by decide +kernel⟩, List.mem_of_getElem? (i := 576) (by decide +kernel), List.mem_of_getElem? (i := 610) (by decide +kernel), List.mem_of_getElem? (i := 611) (by decide +kernel)⟩
theorem lw_p17 : lw_okq (⟨"FieldCountsModel", "left", "(I)I"⟩, 23) := ⟨⟨by decide +kernel, by decide +kernel⟩, List.mem_of_getElem? (i := 576) (by decide +kernel), List.mem_of_getElem? (i := 614) (by decide +kernel), List.mem_of_getElem? (i := 615) (by decide +kernel)⟩
theorem lw_p18 : lw_okq (⟨"FieldCountsModel", "needSigns", "(I)V"⟩, 23) := ⟨⟨by decide +kernel, by decide +kernel⟩, List.mem_of_getElem? (i := 576) (by decide +kernel), List.mem_of_getElem? (i := 618) (by decide +kernel), List.mem_of_getElem? (i := 619) (by decide +kernel)⟩
theorem lw_p19 : lw_okq (⟨"FieldCountsModel", "product", "(III)I"⟩, 23) := ⟨⟨by decide +kernel, by decide +kernel⟩, List.mem_of_getElem? (i := 576) (by decide +kernel), List.mem_of_getElem? (i := 622) (by decide +kernel), List.mem_of_getElem? (i := 623) (by decide +kernel)⟩
theorem lw_p20 : lw_okq (⟨"FieldCountsModel", "multiply", "(III)V"⟩, 23) := ⟨⟨by decide +kernel, by decide +kernel⟩, List.mem_of_getElem? (i := 576) (by decide +kernel), List.mem_of_getElem? (i := 626) (by decide +kernel), List.mem_of_getElem? (i := 627) (by decide +kernel)⟩
theorem lw_p21 : lw_okq (⟨"FieldCountsModel", "number", "(I)I"⟩, 23) := ⟨⟨by decide +kernel, by decide +kernel⟩, List.mem_of_getElem? (i := 576) (by decide +kernel), List.mem_of_getElem? (i := 630) (by decide +kernel), List.mem_of_getElem? (i := 631) (by decide +kernel)⟩
theorem lw_p22 : lw_okq (⟨"FieldCountsModel", "isField", "(I)Z"⟩, 23) := ⟨⟨by decide +kernel, by decide +kernel⟩, List.mem_of_getElem? (i := 576) (by decide +kernel), List.mem_of_getElem? (i := 712) (by decide +kernel), List.mem_of_getElem? (i := 713) (by decide +kernel)⟩
theorem lw_p23 : lw_okq (⟨"FieldCountsModel", "isNumber", "(II)Z"⟩, 23) := ⟨⟨by decide +kernel, by decide +kernel⟩, List.mem_of_getElem? (i := 576) (by decide +kernel), List.mem_of_getElem? (i := 727) (by decide +kernel), List.mem_of_getElem? (i := 728) (by decide +kernel)⟩
theorem lw_p24 : lw_okq (⟨"FieldCountsModel", "sum", "(II)I"⟩, 23) := ⟨⟨by decide +kernel, by decide +kernel⟩, List.mem_of_getElem? (i := 576) (by decide +kernel), List.mem_of_getElem? (i := 731) (by decide +kernel), List.mem_of_getElem? (i := 732) (by decide +kernel)⟩
theorem lw_p25 : lw_okq (⟨"FieldCountsModel", "power", "(III)I"⟩, 23) := ⟨⟨by decide +kernel, by decide +kernel⟩, List.mem_of_getElem? (i := 576) (by decide +kernel), List.mem_of_getElem? (i := 747) (by decide +kernel), List.mem_of_getElem? (i := 748) (by decide +kernel)⟩
theorem lw_p26 : lw_okq (⟨"FieldCountsModel", "isShaped", "(I)Z"⟩, 23) := ⟨⟨by decide +kernel, by decide +kernel⟩, List.mem_of_getElem? (i := 576) (by decide +kernel), List.mem_of_getElem? (i := 773) (by decide +kernel), List.mem_of_getElem? (i := 774) (by decide +kernel)⟩
theorem lw_p27 : lw_okq (⟨"FieldCountsModel", "isDegree", "(II)Z"⟩, 23) := ⟨⟨by decide +kernel, by decide +kernel⟩, List.mem_of_getElem? (i := 576) (by decide +kernel), List.mem_of_getElem? (i := 777) (by decide +kernel), List.mem_of_getElem? (i := 778) (by decide +kernel)⟩
theorem lw_p28 : lw_okq (⟨"FieldCountsModel", "knotOf", "(I)I"⟩, 23) := ⟨⟨by decide +kernel, by decide +kernel⟩, List.mem_of_getElem? (i := 576) (by decide +kernel), List.mem_of_getElem? (i := 781) (by decide +kernel), List.mem_of_getElem? (i := 782) (by decide +kernel)⟩
theorem lw_p29 : lw_okq (⟨"FieldCountsModel", "common", "(IIIII)V"⟩, 23) := ⟨⟨by decide +kernel, by decide +kernel⟩, List.mem_of_getElem? (i := 576) (by decide +kernel), List.mem_of_getElem? (i := 785) (by decide +kernel), List.mem_of_getElem? (i := 786) (by decide +kernel)⟩
theorem lw_p30 : lw_okq (⟨"FieldCountsModel", "join", "(IIII)V"⟩, 23) := ⟨⟨by decide +kernel, by decide +kernel⟩, List.mem_of_getElem? (i := 576) (by decide +kernel), List.mem_of_getElem? (i := 789) (by decide +kernel), List.mem_of_getElem? (i := 790) (by decide +kernel)⟩
theorem lw_p31 : lw_okq (⟨"FieldCountsModel", "scale", "(II)V"⟩, 23) := ⟨⟨by decide +kernel, by decide +kernel⟩, List.mem_of_getElem? (i := 576) (by decide +kernel), List.mem_of_getElem? (i := 793) (by decide +kernel), List.mem_of_getElem? (i := 794) (by decide +kernel)⟩
def lw_privs_2 : List (MethodName × Nat) := [(⟨"FieldCountsModel", "inverse", "(I)I"⟩, 23), (⟨"FieldCountsModel", "left", "(I)I"⟩, 23), (⟨"FieldCountsModel", "needSigns", "(I)V"⟩, 23), (⟨"FieldCountsModel", "product", "(III)I"⟩, 23), (⟨"FieldCountsModel", "multiply", "(III)V"⟩, 23), (⟨"FieldCountsModel", "number", "(I)I"⟩, 23), (⟨"FieldCountsModel", "isField", "(I)Z"⟩, 23), (⟨"FieldCountsModel", "isNumber", "(II)Z"⟩, 23), (⟨"FieldCountsModel", "sum", "(II)I"⟩, 23), (⟨"FieldCountsModel", "power", "(III)I"⟩, 23), (⟨"FieldCountsModel", "isShaped", "(I)Z"⟩, 23), (⟨"FieldCountsModel", "isDegree", "(II)Z"⟩, 23), (⟨"FieldCountsModel", "knotOf", "(I)I"⟩, 23), (⟨"FieldCountsModel", "common", "(IIIII)V"⟩, 23), (⟨"FieldCountsModel", "join", "(IIII)V"⟩, 23), (⟨"FieldCountsModel", "scale", "(II)V"⟩, 23)]
theorem lw_r2 : ∀ q ∈ lw_privs_2, lw_okq q := List.forall_mem_cons.mpr ⟨lw_p16, List.forall_mem_cons.mpr ⟨lw_p17, List.forall_mem_cons.mpr ⟨lw_p18, List.forall_mem_cons.mpr ⟨lw_p19, List.forall_mem_cons.mpr ⟨lw_p20, List.forall_mem_cons.mpr ⟨lw_p21, List.forall_mem_cons.mpr ⟨lw_p22, List.forall_mem_cons.mpr ⟨lw_p23, List.forall_mem_cons.mpr ⟨lw_p24, List.forall_mem_cons.mpr ⟨lw_p25, List.forall_mem_cons.mpr ⟨lw_p26, List.forall_mem_cons.mpr ⟨lw_p27, List.forall_mem_cons.mpr ⟨lw_p28, List.forall_mem_cons.mpr ⟨lw_p29, List.forall_mem_cons.mpr ⟨lw_p30, List.forall_mem_cons.mpr ⟨lw_p31, fun _ h => absurd h List.not_mem_nil⟩⟩⟩⟩⟩⟩⟩⟩⟩⟩⟩⟩⟩⟩⟩⟩
theorem lw_p32 : lw_okq (⟨"FieldCountsModel", "isCurve", "(I)Z"⟩, 23) := ⟨⟨by decide +kernel, by decide +kernel⟩, List.mem_of_getElem? (i := 576) (by decide +kernel), List.mem_of_getElem? (i := 805) (by decide +kernel), List.mem_of_getElem? (i := 806) (by decide +kernel)⟩
theorem lw_p33 : lw_okq (⟨"FieldCountsModel", "degreeOf", "(I)I"⟩, 23) := ⟨⟨by decide +kernel, by decide +kernel⟩, List.mem_of_getElem? (i := 576) (by decide +kernel), List.mem_of_getElem? (i := 810) (by decide +kernel), List.mem_of_getElem? (i := 811) (by decide +kernel)⟩
theorem lw_p34 : lw_okq (⟨"FieldCountsModel", "genusOf", "(I)I"⟩, 23) := ⟨⟨by decide +kernel, by decide +kernel⟩, List.mem_of_getElem? (i := 576) (by decide +kernel), List.mem_of_getElem? (i := 814) (by decide +kernel), List.mem_of_getElem? (i := 815) (by decide +kernel)⟩
theorem lw_p35 : lw_okq (⟨"FieldCountsModel", "loadOwn", "(II)V"⟩, 23) := ⟨⟨by decide +kernel, by decide +kernel⟩, List.mem_of_getElem? (i := 576) (by decide +kernel), List.mem_of_getElem? (i := 818) (by decide +kernel), List.mem_of_getElem? (i := 819) (by decide +kernel)⟩
theorem lw_p36 : lw_okq (⟨"FieldCountsModel", "valueOf", "(III)I"⟩, 23) := ⟨⟨by decide +kernel, by decide +kernel⟩, List.mem_of_getElem? (i := 576) (by decide +kernel), List.mem_of_getElem? (i := 828) (by decide +kernel), List.mem_of_getElem? (i := 829) (by decide +kernel)⟩
theorem lw_p37 : lw_okq (⟨"FieldCountsModel", "countOf", "(II)I"⟩, 23) := ⟨⟨by decide +kernel, by decide +kernel⟩, List.mem_of_getElem? (i := 576) (by decide +kernel), List.mem_of_getElem? (i := 836) (by decide +kernel), List.mem_of_getElem? (i := 837) (by decide +kernel)⟩
theorem lw_p38 : lw_okq (⟨"FieldCountsModel", "beyondOf", "(II)I"⟩, 23) := ⟨⟨by decide +kernel, by decide +kernel⟩, List.mem_of_getElem? (i := 576) (by decide +kernel), List.mem_of_getElem? (i := 840) (by decide +kernel), List.mem_of_getElem? (i := 841) (by decide +kernel)⟩
theorem lw_p39 : lw_okq (⟨"FieldCountsModel", "needShares", "(I)V"⟩, 23) := ⟨⟨by decide +kernel, by decide +kernel⟩, List.mem_of_getElem? (i := 576) (by decide +kernel), List.mem_of_getElem? (i := 852) (by decide +kernel), List.mem_of_getElem? (i := 853) (by decide +kernel)⟩
theorem lw_p40 : lw_okq (⟨"FieldCountsModel", "wholeOf", "(I)I"⟩, 23) := ⟨⟨by decide +kernel, by decide +kernel⟩, List.mem_of_getElem? (i := 576) (by decide +kernel), List.mem_of_getElem? (i := 866) (by decide +kernel), List.mem_of_getElem? (i := 867) (by decide +kernel)⟩
theorem lw_p41 : lw_okq (⟨"FieldCountsModel", "hasClasses", "(I)Z"⟩, 23) := ⟨⟨by decide +kernel, by decide +kernel⟩, List.mem_of_getElem? (i := 576) (by decide +kernel), List.mem_of_getElem? (i := 890) (by decide +kernel), List.mem_of_getElem? (i := 891) (by decide +kernel)⟩
theorem lw_p42 : lw_okq (⟨"FieldCountsModel", "isClassOf", "(III)Z"⟩, 23) := ⟨⟨by decide +kernel, by decide +kernel⟩, List.mem_of_getElem? (i := 576) (by decide +kernel), List.mem_of_getElem? (i := 894) (by decide +kernel), List.mem_of_getElem? (i := 895) (by decide +kernel)⟩
theorem lw_p43 : lw_okq (⟨"FieldCountsModel", "goesIn", "(III)Z"⟩, 23) := ⟨⟨by decide +kernel, by decide +kernel⟩, List.mem_of_getElem? (i := 576) (by decide +kernel), List.mem_of_getElem? (i := 898) (by decide +kernel), List.mem_of_getElem? (i := 899) (by decide +kernel)⟩
theorem lw_p44 : lw_okq (⟨"FieldCountsModel", "needClasses", "(I)V"⟩, 23) := ⟨⟨by decide +kernel, by decide +kernel⟩, List.mem_of_getElem? (i := 576) (by decide +kernel), List.mem_of_getElem? (i := 906) (by decide +kernel), List.mem_of_getElem? (i := 907) (by decide +kernel)⟩
theorem lw_p45 : lw_okq (⟨"FieldCountsModel", "leaves", "(III)Z"⟩, 23) := ⟨⟨by decide +kernel, by decide +kernel⟩, List.mem_of_getElem? (i := 576) (by decide +kernel), List.mem_of_getElem? (i := 910) (by decide +kernel), List.mem_of_getElem? (i := 911) (by decide +kernel)⟩
theorem lw_p46 : lw_okq (⟨"FieldCountsModel", "isThere", "(II)Z"⟩, 23) := ⟨⟨by decide +kernel, by decide +kernel⟩, List.mem_of_getElem? (i := 576) (by decide +kernel), List.mem_of_getElem? (i := 922) (by decide +kernel), List.mem_of_getElem? (i := 923) (by decide +kernel)⟩
theorem lw_p47 : lw_okq (⟨"FieldCountsModel", "addOf", "(III)I"⟩, 23) := ⟨⟨by decide +kernel, by decide +kernel⟩, List.mem_of_getElem? (i := 576) (by decide +kernel), List.mem_of_getElem? (i := 926) (by decide +kernel), List.mem_of_getElem? (i := 927) (by decide +kernel)⟩
def lw_privs_3 : List (MethodName × Nat) := [(⟨"FieldCountsModel", "isCurve", "(I)Z"⟩, 23), (⟨"FieldCountsModel", "degreeOf", "(I)I"⟩, 23), (⟨"FieldCountsModel", "genusOf", "(I)I"⟩, 23), (⟨"FieldCountsModel", "loadOwn", "(II)V"⟩, 23), (⟨"FieldCountsModel", "valueOf", "(III)I"⟩, 23), (⟨"FieldCountsModel", "countOf", "(II)I"⟩, 23), (⟨"FieldCountsModel", "beyondOf", "(II)I"⟩, 23), (⟨"FieldCountsModel", "needShares", "(I)V"⟩, 23), (⟨"FieldCountsModel", "wholeOf", "(I)I"⟩, 23), (⟨"FieldCountsModel", "hasClasses", "(I)Z"⟩, 23), (⟨"FieldCountsModel", "isClassOf", "(III)Z"⟩, 23), (⟨"FieldCountsModel", "goesIn", "(III)Z"⟩, 23), (⟨"FieldCountsModel", "needClasses", "(I)V"⟩, 23), (⟨"FieldCountsModel", "leaves", "(III)Z"⟩, 23), (⟨"FieldCountsModel", "isThere", "(II)Z"⟩, 23), (⟨"FieldCountsModel", "addOf", "(III)I"⟩, 23)]
theorem lw_r3 : ∀ q ∈ lw_privs_3, lw_okq q := List.forall_mem_cons.mpr ⟨lw_p32, List.forall_mem_cons.mpr ⟨lw_p33, List.forall_mem_cons.mpr ⟨lw_p34, List.forall_mem_cons.mpr ⟨lw_p35, List.forall_mem_cons.mpr ⟨lw_p36, List.forall_mem_cons.mpr ⟨lw_p37, List.forall_mem_cons.mpr ⟨lw_p38, List.forall_mem_cons.mpr ⟨lw_p39, List.forall_mem_cons.mpr ⟨lw_p40, List.forall_mem_cons.mpr ⟨lw_p41, List.forall_mem_cons.mpr ⟨lw_p42, List.forall_mem_cons.mpr ⟨lw_p43, List.forall_mem_cons.mpr ⟨lw_p44, List.forall_mem_cons.mpr ⟨lw_p45, List.forall_mem_cons.mpr ⟨lw_p46, List.forall_mem_cons.mpr ⟨lw_p47, fun _ h => absurd h List.not_mem_nil⟩⟩⟩⟩⟩⟩⟩⟩⟩⟩⟩⟩⟩⟩⟩⟩
theorem lw_p48 : lw_okq (⟨"FieldCountsModel", "find", "(II)I"⟩, 23) := ⟨⟨by decide +kernel, by decide +kernel⟩, List.mem_of_getElem? (i := 576) (by decide +kernel), List.mem_of_getElem? (i := 930) (by decide +kernel), List.mem_of_getElem? (i := 931) (by decide +kernel)⟩
def lw_privs_4 : List (MethodName × Nat) := [(⟨"FieldCountsModel", "find", "(II)I"⟩, 23)]
theorem lw_r4 : ∀ q ∈ lw_privs_4, lw_okq q := List.forall_mem_cons.mpr ⟨lw_p48, fun _ h => absurd h List.not_mem_nil⟩
def lw_privs : List (MethodName × Nat) := lw_privs_1 ++ (lw_privs_2 ++ (lw_privs_3 ++ (lw_privs_4)))
def lw_tbl : List Cond := k2_sels lw_privs ++ tables_1
theorem lw_privs_ok : ∀ q ∈ lw_privs, lw_okq q := by
  show ∀ q ∈ lw_privs_1 ++ (lw_privs_2 ++ (lw_privs_3 ++ (lw_privs_4))), lw_okq q
  exact List.forall_mem_append.mpr ⟨lw_r1, List.forall_mem_append.mpr ⟨lw_r2, List.forall_mem_append.mpr ⟨lw_r3, lw_r4⟩⟩⟩
end
section

def RX0 : String := "FieldCounts$ClassList"
def TX0 : u_T := fun k => match k with
  | 0 => ("FieldCounts$ClassList", "ring", "LFieldCounts$Polynomials;", true)
  | 1 => ("FieldCounts$ClassList", "keys", "[I", true)
  | 2 => ("FieldCounts$ClassList", "polynomial", "I", false)
  | 3 => ("FieldCounts$ClassList", "genus", "I", false)
  | _ => ("FieldCounts$ClassList", "listed", "I", false)
def tyX0 : Nat → FieldType := fun k => match k with
  | 0 => .object "FieldCounts$Polynomials"
  | 1 => .array .int
  | 2 => .int
  | 3 => .int
  | _ => .int
abbrev wsX00 : List Cond := u_ws RX0 TX0 5
theorem nmX0 : ∀ a, a < 5 → ∀ b, b < 5 → a ≠ b → (TX0 a).2.1 ≠ (TX0 b).2.1 := by decide +kernel
theorem tyX0_ok : ∀ k, k < 5 → parseFieldDescriptor (TX0 k).2.2.1 = some (tyX0 k) := by decide +kernel
abbrev cX0_init : ByteArray := prog_2_method_1_code
def yX0_init : MethodName := ⟨RX0, "<init>", "(LFieldCounts$Polynomials;)V"⟩
abbrev cX0_begin : ByteArray := prog_2_method_2_code
def yX0_begin : MethodName := ⟨RX0, "begin", "(II)V"⟩
abbrev cX0_holds : ByteArray := prog_2_method_3_code
def yX0_holds : MethodName := ⟨RX0, "holds", "(II)Z"⟩
abbrev cX0_many : ByteArray := prog_2_method_4_code
def yX0_many : MethodName := ⟨RX0, "many", "()I"⟩
abbrev cX0_reaches : ByteArray := prog_2_method_5_code
def yX0_reaches : MethodName := ⟨RX0, "reaches", "(I)Z"⟩
abbrev cX0_keyAt : ByteArray := prog_2_method_6_code
def yX0_keyAt : MethodName := ⟨RX0, "keyAt", "(I)I"⟩
abbrev cX0_keyOf : ByteArray := prog_2_method_7_code
def yX0_keyOf : MethodName := ⟨RX0, "keyOf", "(II)I"⟩
abbrev cX0_uOf : ByteArray := prog_2_method_8_code
def yX0_uOf : MethodName := ⟨RX0, "uOf", "(I)I"⟩
abbrev cX0_vOf : ByteArray := prog_2_method_9_code
def yX0_vOf : MethodName := ⟨RX0, "vOf", "(I)I"⟩
abbrev cX0_placeOf : ByteArray := prog_2_method_10_code
def yX0_placeOf : MethodName := ⟨RX0, "placeOf", "(I)I"⟩
abbrev cX0_oppositeOf : ByteArray := prog_2_method_11_code
def yX0_oppositeOf : MethodName := ⟨RX0, "oppositeOf", "(I)I"⟩
abbrev cX0_orderOf : ByteArray := prog_2_method_12_code
def yX0_orderOf : MethodName := ⟨RX0, "orderOf", "(I)I"⟩
abbrev cX0_multipleOf : ByteArray := prog_2_method_13_code
def yX0_multipleOf : MethodName := ⟨RX0, "multipleOf", "(II)I"⟩
abbrev cX0_sumOf : ByteArray := prog_2_method_14_code
def yX0_sumOf : MethodName := ⟨RX0, "sumOf", "(II)I"⟩
abbrev cX0_reduced : ByteArray := prog_2_method_15_code
def yX0_reduced : MethodName := ⟨RX0, "reduced", "(II)I"⟩
abbrev cX0_goThrough : ByteArray := prog_2_method_16_code
def yX0_goThrough : MethodName := ⟨RX0, "goThrough", "()V"⟩
abbrev cX0_listWith : ByteArray := prog_2_method_17_code
def yX0_listWith : MethodName := ⟨RX0, "listWith", "(II)V"⟩
def RX1 : String := "FieldCounts$Curve"
def TX1 : u_T := fun k => match k with
  | 0 => ("FieldCounts$Curve", "ring", "LFieldCounts$Polynomials;", true)
  | 1 => ("FieldCounts$Curve", "list", "LFieldCounts$ClassList;", true)
  | 2 => ("FieldCounts$Curve", "share", "[I", true)
  | 3 => ("FieldCounts$Curve", "shareKnown", "Z", false)
  | 4 => ("FieldCounts$Curve", "kind", "I", false)
  | 5 => ("FieldCounts$Curve", "f", "I", false)
  | 6 => ("FieldCounts$Curve", "t", "I", false)
  | 7 => ("FieldCounts$Curve", "degree", "I", false)
  | 8 => ("FieldCounts$Curve", "genus", "I", false)
  | _ => ("FieldCounts$Curve", "polynomial", "I", false)
def tyX1 : Nat → FieldType := fun k => match k with
  | 0 => .object "FieldCounts$Polynomials"
  | 1 => .object "FieldCounts$ClassList"
  | 2 => .array .int
  | 3 => .boolean
  | 4 => .int
  | 5 => .int
  | 6 => .int
  | 7 => .int
  | 8 => .int
  | _ => .int
abbrev wsX10 : List Cond := u_ws RX1 TX1 10
theorem nmX1 : ∀ a, a < 10 → ∀ b, b < 10 → a ≠ b → (TX1 a).2.1 ≠ (TX1 b).2.1 := by decide +kernel
theorem tyX1_ok : ∀ k, k < 10 → parseFieldDescriptor (TX1 k).2.2.1 = some (tyX1 k) := by decide +kernel
abbrev cX1_init : ByteArray := prog_3_method_1_code
def yX1_init : MethodName := ⟨RX1, "<init>", "(LFieldCounts$Polynomials;)V"⟩
abbrev cX1_begin : ByteArray := prog_3_method_2_code
def yX1_begin : MethodName := ⟨RX1, "begin", "(IIII)V"⟩
abbrev cX1_makeShare : ByteArray := prog_3_method_3_code
def yX1_makeShare : MethodName := ⟨RX1, "makeShare", "(LFieldCounts$Field;LFieldCounts$Field;)V"⟩
def RX2 : String := "FieldCounts$Field"
def TX2 : u_T := fun k => match k with
  | 0 => ("FieldCounts$Field", "ring", "LFieldCounts$Polynomials;", true)
  | 1 => ("FieldCounts$Field", "n", "I", true)
  | 2 => ("FieldCounts$Field", "powers", "[I", true)
  | 3 => ("FieldCounts$Field", "exponents", "[I", true)
  | 4 => ("FieldCounts$Field", "madeFor", "I", false)
  | 5 => ("FieldCounts$Field", "size", "I", false)
  | 6 => ("FieldCounts$Field", "units", "I", false)
  | _ => ("FieldCounts$Field", "divisor", "I", false)
def tyX2 : Nat → FieldType := fun k => match k with
  | 0 => .object "FieldCounts$Polynomials"
  | 1 => .int
  | 2 => .array .int
  | 3 => .array .int
  | 4 => .int
  | 5 => .int
  | 6 => .int
  | _ => .int
abbrev wsX20 : List Cond := u_ws RX2 TX2 8
theorem nmX2 : ∀ a, a < 8 → ∀ b, b < 8 → a ≠ b → (TX2 a).2.1 ≠ (TX2 b).2.1 := by decide +kernel
theorem tyX2_ok : ∀ k, k < 8 → parseFieldDescriptor (TX2 k).2.2.1 = some (tyX2 k) := by decide +kernel
abbrev cX2_init : ByteArray := prog_4_method_1_code
def yX2_init : MethodName := ⟨RX2, "<init>", "(LFieldCounts$Polynomials;I)V"⟩
abbrev cX2_fit : ByteArray := prog_4_method_2_code
def yX2_fit : MethodName := ⟨RX2, "fit", "()V"⟩
abbrev cX2_walk : ByteArray := prog_4_method_3_code
def yX2_walk : MethodName := ⟨RX2, "walk", "(I)I"⟩
abbrev cX2_has : ByteArray := prog_4_method_4_code
def yX2_has : MethodName := ⟨RX2, "has", "(I)Z"⟩
abbrev cX2_product : ByteArray := prog_4_method_5_code
def yX2_product : MethodName := ⟨RX2, "product", "(II)I"⟩
abbrev cX2_power : ByteArray := prog_4_method_6_code
def yX2_power : MethodName := ⟨RX2, "power", "(II)I"⟩
abbrev cX2_squareSign : ByteArray := prog_4_method_7_code
def yX2_squareSign : MethodName := ⟨RX2, "squareSign", "(I)I"⟩
abbrev cX2_turnsOf : ByteArray := prog_4_method_8_code
def yX2_turnsOf : MethodName := ⟨RX2, "turnsOf", "(I)I"⟩
abbrev cX2_valueOf : ByteArray := prog_4_method_9_code
def yX2_valueOf : MethodName := ⟨RX2, "valueOf", "(II)I"⟩
abbrev cX2_signSum : ByteArray := prog_4_method_10_code
def yX2_signSum : MethodName := ⟨RX2, "signSum", "(I)I"⟩
abbrev cX2_pointsBeyond : ByteArray := prog_4_method_11_code
def yX2_pointsBeyond : MethodName := ⟨RX2, "pointsBeyond", "(I)I"⟩
abbrev cX2_pointsOf : ByteArray := prog_4_method_12_code
def yX2_pointsOf : MethodName := ⟨RX2, "pointsOf", "(I)I"⟩
def RX3 : String := "FieldCounts$Polynomials"
def TX3 : u_T := fun k => match k with
  | _ => ("FieldCounts$Polynomials", "p", "I", false)
def tyX3 : Nat → FieldType := fun k => match k with
  | _ => .int
abbrev wsX30 : List Cond := u_ws RX3 TX3 1
theorem nmX3 : ∀ a, a < 1 → ∀ b, b < 1 → a ≠ b → (TX3 a).2.1 ≠ (TX3 b).2.1 := by decide +kernel
theorem tyX3_ok : ∀ k, k < 1 → parseFieldDescriptor (TX3 k).2.2.1 = some (tyX3 k) := by decide +kernel
abbrev cX3_init : ByteArray := prog_5_method_1_code
def yX3_init : MethodName := ⟨RX3, "<init>", "()V"⟩
abbrev cX3_begin : ByteArray := prog_5_method_2_code
def yX3_begin : MethodName := ⟨RX3, "begin", "(I)V"⟩
abbrev cX3_place : ByteArray := prog_5_method_3_code
def yX3_place : MethodName := ⟨RX3, "place", "(I)I"⟩
abbrev cX3_coefficient : ByteArray := prog_5_method_4_code
def yX3_coefficient : MethodName := ⟨RX3, "coefficient", "(II)I"⟩
abbrev cX3_degree : ByteArray := prog_5_method_5_code
def yX3_degree : MethodName := ⟨RX3, "degree", "(I)I"⟩
abbrev cX3_lead : ByteArray := prog_5_method_6_code
def yX3_lead : MethodName := ⟨RX3, "lead", "(I)I"⟩
abbrev cX3_sum : ByteArray := prog_5_method_7_code
def yX3_sum : MethodName := ⟨RX3, "sum", "(II)I"⟩
abbrev cX3_difference : ByteArray := prog_5_method_8_code
def yX3_difference : MethodName := ⟨RX3, "difference", "(II)I"⟩
abbrev cX3_scaled : ByteArray := prog_5_method_9_code
def yX3_scaled : MethodName := ⟨RX3, "scaled", "(II)I"⟩
abbrev cX3_product : ByteArray := prog_5_method_10_code
def yX3_product : MethodName := ⟨RX3, "product", "(II)I"⟩
abbrev cX3_inverse : ByteArray := prog_5_method_11_code
def yX3_inverse : MethodName := ⟨RX3, "inverse", "(I)I"⟩
abbrev cX3_quotient : ByteArray := prog_5_method_12_code
def yX3_quotient : MethodName := ⟨RX3, "quotient", "(II)I"⟩
abbrev cX3_rest : ByteArray := prog_5_method_13_code
def yX3_rest : MethodName := ⟨RX3, "rest", "(II)I"⟩
abbrev cX3_monic : ByteArray := prog_5_method_14_code
def yX3_monic : MethodName := ⟨RX3, "monic", "(I)I"⟩
abbrev cX3_commonDivisor : ByteArray := prog_5_method_15_code
def yX3_commonDivisor : MethodName := ⟨RX3, "commonDivisor", "(II)I"⟩
abbrev cX3_cofactor : ByteArray := prog_5_method_16_code
def yX3_cofactor : MethodName := ⟨RX3, "cofactor", "(II)I"⟩
abbrev cX3_derivative : ByteArray := prog_5_method_17_code
def yX3_derivative : MethodName := ⟨RX3, "derivative", "(I)I"⟩
abbrev cX3_knotOf : ByteArray := prog_5_method_18_code
def yX3_knotOf : MethodName := ⟨RX3, "knotOf", "(I)I"⟩
abbrev cX3_movedBy : ByteArray := prog_5_method_19_code
def yX3_movedBy : MethodName := ⟨RX3, "movedBy", "(II)I"⟩
abbrev cX3_squareRest : ByteArray := prog_5_method_20_code
def yX3_squareRest : MethodName := ⟨RX3, "squareRest", "(II)I"⟩
abbrev cX3_isProduct : ByteArray := prog_5_method_21_code
def yX3_isProduct : MethodName := ⟨RX3, "isProduct", "(II)Z"⟩
def RX4 : String := "FieldCounts"
def TX4 : u_T := fun k => match k with
  | 0 => ("FieldCounts", "ring", "LFieldCounts$Polynomials;", true)
  | 1 => ("FieldCounts", "fields", "[LFieldCounts$Field;", true)
  | 2 => ("FieldCounts", "curves", "[LFieldCounts$Curve;", true)
  | 3 => ("FieldCounts", "tally", "[I", true)
  | 4 => ("FieldCounts", "powerSums", "[J", true)
  | 5 => ("FieldCounts", "fieldCount", "I", false)
  | 6 => ("FieldCounts", "curveCount", "I", false)
  | 7 => ("FieldCounts", "leastNonSquare", "I", false)
  | 8 => ("FieldCounts", "knot", "I", false)
  | _ => ("FieldCounts", "trace", "J", false)
def tyX4 : Nat → FieldType := fun k => match k with
  | 0 => .object "FieldCounts$Polynomials"
  | 1 => .array (.object "FieldCounts$Field")
  | 2 => .array (.object "FieldCounts$Curve")
  | 3 => .array .int
  | 4 => .array .long
  | 5 => .int
  | 6 => .int
  | 7 => .int
  | 8 => .int
  | _ => .long
abbrev wsX40 : List Cond := u_ws RX4 TX4 10
theorem nmX4 : ∀ a, a < 10 → ∀ b, b < 10 → a ≠ b → (TX4 a).2.1 ≠ (TX4 b).2.1 := by decide +kernel
theorem tyX4_ok : ∀ k, k < 10 → parseFieldDescriptor (TX4 k).2.2.1 = some (tyX4 k) := by decide +kernel
abbrev cX4_init : ByteArray := prog_1_method_1_code
def yX4_init : MethodName := ⟨RX4, "<init>", "()V"⟩
abbrev cX4_prime : ByteArray := prog_1_method_2_code
def yX4_prime : MethodName := ⟨RX4, "prime", "(I)I"⟩
abbrev cX4_size : ByteArray := prog_1_method_3_code
def yX4_size : MethodName := ⟨RX4, "size", "(I)I"⟩
abbrev cX4_modulus : ByteArray := prog_1_method_4_code
def yX4_modulus : MethodName := ⟨RX4, "modulus", "(I)I"⟩
abbrev cX4_plus : ByteArray := prog_1_method_5_code
def yX4_plus : MethodName := ⟨RX4, "plus", "(III)I"⟩
abbrev cX4_times : ByteArray := prog_1_method_6_code
def yX4_times : MethodName := ⟨RX4, "times", "(III)I"⟩
abbrev cX4_over : ByteArray := prog_1_method_7_code
def yX4_over : MethodName := ⟨RX4, "over", "(II)I"⟩
abbrev cX4_raise : ByteArray := prog_1_method_8_code
def yX4_raise : MethodName := ⟨RX4, "raise", "(III)I"⟩
abbrev cX4_sign : ByteArray := prog_1_method_9_code
def yX4_sign : MethodName := ⟨RX4, "sign", "(II)I"⟩
abbrev cX4_turns : ByteArray := prog_1_method_10_code
def yX4_turns : MethodName := ⟨RX4, "turns", "(II)I"⟩
abbrev cX4_trace : ByteArray := prog_1_method_11_code
def yX4_trace : MethodName := ⟨RX4, "trace", "(II)I"⟩
abbrev cX4_forms : ByteArray := prog_1_method_12_code
def yX4_forms : MethodName := ⟨RX4, "forms", "(IIII)I"⟩
abbrev cX4_curve : ByteArray := prog_1_method_13_code
def yX4_curve : MethodName := ⟨RX4, "curve", "(III)I"⟩
abbrev cX4_knot : ByteArray := prog_1_method_14_code
def yX4_knot : MethodName := ⟨RX4, "knot", "()I"⟩
abbrev cX4_about : ByteArray := prog_1_method_15_code
def yX4_about : MethodName := ⟨RX4, "about", "(II)I"⟩
abbrev cX4_value : ByteArray := prog_1_method_16_code
def yX4_value : MethodName := ⟨RX4, "value", "(III)I"⟩
abbrev cX4_count : ByteArray := prog_1_method_17_code
def yX4_count : MethodName := ⟨RX4, "count", "(II)I"⟩
abbrev cX4_beyond : ByteArray := prog_1_method_18_code
def yX4_beyond : MethodName := ⟨RX4, "beyond", "(II)I"⟩
abbrev cX4_share : ByteArray := prog_1_method_19_code
def yX4_share : MethodName := ⟨RX4, "share", "(II)I"⟩
abbrev cX4_further : ByteArray := prog_1_method_20_code
def yX4_further : MethodName := ⟨RX4, "further", "(II)J"⟩
abbrev cX4_whole : ByteArray := prog_1_method_21_code
def yX4_whole : MethodName := ⟨RX4, "whole", "(I)I"⟩
abbrev cX4_bound : ByteArray := prog_1_method_22_code
def yX4_bound : MethodName := ⟨RX4, "bound", "(I)I"⟩
abbrev cX4_surface : ByteArray := prog_1_method_23_code
def yX4_surface : MethodName := ⟨RX4, "surface", "(III)I"⟩
abbrev cX4_best : ByteArray := prog_1_method_24_code
def yX4_best : MethodName := ⟨RX4, "best", "(III)I"⟩
abbrev cX4_isClass : ByteArray := prog_1_method_25_code
def yX4_isClass : MethodName := ⟨RX4, "isClass", "(III)I"⟩
abbrev cX4_classes : ByteArray := prog_1_method_26_code
def yX4_classes : MethodName := ⟨RX4, "classes", "(I)I"⟩
abbrev cX4_classAt : ByteArray := prog_1_method_27_code
def yX4_classAt : MethodName := ⟨RX4, "classAt", "(III)I"⟩
abbrev cX4_add : ByteArray := prog_1_method_28_code
def yX4_add : MethodName := ⟨RX4, "add", "(III)I"⟩
abbrev cX4_minus : ByteArray := prog_1_method_29_code
def yX4_minus : MethodName := ⟨RX4, "minus", "(II)I"⟩
abbrev cX4_order : ByteArray := prog_1_method_30_code
def yX4_order : MethodName := ⟨RX4, "order", "(II)I"⟩
abbrev cX4_told : ByteArray := prog_1_method_31_code
def yX4_told : MethodName := ⟨RX4, "told", "(I)I"⟩
abbrev cX4_traced : ByteArray := prog_1_method_32_code
def yX4_traced : MethodName := ⟨RX4, "traced", "()J"⟩
abbrev cX4_start : ByteArray := prog_1_method_33_code
def yX4_start : MethodName := ⟨RX4, "start", "(I)V"⟩
abbrev cX4_fieldAt : ByteArray := prog_1_method_34_code
def yX4_fieldAt : MethodName := ⟨RX4, "fieldAt", "(I)LFieldCounts$Field;"⟩
abbrev cX4_curveAt : ByteArray := prog_1_method_35_code
def yX4_curveAt : MethodName := ⟨RX4, "curveAt", "(I)LFieldCounts$Curve;"⟩
abbrev cX4_listAt : ByteArray := prog_1_method_36_code
def yX4_listAt : MethodName := ⟨RX4, "listAt", "(I)LFieldCounts$ClassList;"⟩
abbrev cX4_isCurvePolynomial : ByteArray := prog_1_method_37_code
def yX4_isCurvePolynomial : MethodName := ⟨RX4, "isCurvePolynomial", "(I)Z"⟩
abbrev cX4_shareOf : ByteArray := prog_1_method_38_code
def yX4_shareOf : MethodName := ⟨RX4, "shareOf", "(LFieldCounts$Curve;)[I"⟩
abbrev cX4_at : ByteArray := prog_1_method_39_code
def yX4_at : MethodName := ⟨RX4, "at", "([II)I"⟩
abbrev cX4_put : ByteArray := prog_1_method_40_code
def yX4_put : MethodName := ⟨RX4, "put", "([III)V"⟩
def RX5 : String := "FieldCountsModel"
def TX5 : u_T := fun k => match k with
  | 0 => ("FieldCountsModel", "thrown", "I", false)
  | 1 => ("FieldCountsModel", "p", "I", false)
  | 2 => ("FieldCountsModel", "fields", "I", false)
  | 3 => ("FieldCountsModel", "sizes", "[I", true)
  | 4 => ("FieldCountsModel", "moduli", "[I", true)
  | 5 => ("FieldCountsModel", "d", "I", false)
  | 6 => ("FieldCountsModel", "curves", "I", false)
  | 7 => ("FieldCountsModel", "kind", "[I", true)
  | 8 => ("FieldCountsModel", "told", "[I", true)
  | 9 => ("FieldCountsModel", "moved", "[I", true)
  | 10 => ("FieldCountsModel", "own", "[I", true)
  | 11 => ("FieldCountsModel", "knot", "I", false)
  | 12 => ("FieldCountsModel", "trace", "J", false)
  | 13 => ("FieldCountsModel", "w", "[I", true)
  | 14 => ("FieldCountsModel", "signs", "[I", true)
  | 15 => ("FieldCountsModel", "signsOf", "I", false)
  | 16 => ("FieldCountsModel", "listed", "I", false)
  | 17 => ("FieldCountsModel", "many", "I", false)
  | 18 => ("FieldCountsModel", "first", "[I", true)
  | 19 => ("FieldCountsModel", "second", "[I", true)
  | 20 => ("FieldCountsModel", "forms", "[I", true)
  | 21 => ("FieldCountsModel", "shares", "[I", true)
  | _ => ("FieldCountsModel", "powers", "[J", true)
def tyX5 : Nat → FieldType := fun k => match k with
  | 0 => .int
  | 1 => .int
  | 2 => .int
  | 3 => .array .int
  | 4 => .array .int
  | 5 => .int
  | 6 => .int
  | 7 => .array .int
  | 8 => .array .int
  | 9 => .array .int
  | 10 => .array .int
  | 11 => .int
  | 12 => .long
  | 13 => .array .int
  | 14 => .array .int
  | 15 => .int
  | 16 => .int
  | 17 => .int
  | 18 => .array .int
  | 19 => .array .int
  | 20 => .array .int
  | 21 => .array .int
  | _ => .array .long
abbrev wsX50 : List Cond := u_ws RX5 TX5 23
theorem nmX5 : ∀ a, a < 23 → ∀ b, b < 23 → a ≠ b → (TX5 a).2.1 ≠ (TX5 b).2.1 := by decide +kernel
theorem tyX5_ok : ∀ k, k < 23 → parseFieldDescriptor (TX5 k).2.2.1 = some (tyX5 k) := by decide +kernel
abbrev cX5_init : ByteArray := prog_7_method_1_code
def yX5_init : MethodName := ⟨RX5, "<init>", "()V"⟩
abbrev cX5_in : ByteArray := prog_7_method_3_code
def yX5_in : MethodName := ⟨RX5, "in", "(JJJ)Z"⟩
abbrev cX5_left : ByteArray := prog_7_method_4_code
def yX5_left : MethodName := ⟨RX5, "left", "(I)I"⟩
abbrev cX5_inverse : ByteArray := prog_7_method_5_code
def yX5_inverse : MethodName := ⟨RX5, "inverse", "(I)I"⟩
abbrev cX5_clear : ByteArray := prog_7_method_6_code
def yX5_clear : MethodName := ⟨RX5, "clear", "(I)V"⟩
abbrev cX5_load : ByteArray := prog_7_method_7_code
def yX5_load : MethodName := ⟨RX5, "load", "(II)V"⟩
abbrev cX5_number : ByteArray := prog_7_method_8_code
def yX5_number : MethodName := ⟨RX5, "number", "(I)I"⟩
abbrev cX5_copy : ByteArray := prog_7_method_9_code
def yX5_copy : MethodName := ⟨RX5, "copy", "(II)V"⟩
abbrev cX5_degree : ByteArray := prog_7_method_10_code
def yX5_degree : MethodName := ⟨RX5, "degree", "(I)I"⟩
abbrev cX5_join : ByteArray := prog_7_method_11_code
def yX5_join : MethodName := ⟨RX5, "join", "(IIII)V"⟩
abbrev cX5_scale : ByteArray := prog_7_method_12_code
def yX5_scale : MethodName := ⟨RX5, "scale", "(II)V"⟩
abbrev cX5_multiply : ByteArray := prog_7_method_13_code
def yX5_multiply : MethodName := ⟨RX5, "multiply", "(III)V"⟩
abbrev cX5_divide : ByteArray := prog_7_method_14_code
def yX5_divide : MethodName := ⟨RX5, "divide", "(IIII)V"⟩
abbrev cX5_common : ByteArray := prog_7_method_15_code
def yX5_common : MethodName := ⟨RX5, "common", "(IIIII)V"⟩
abbrev cX5_begins : ByteArray := prog_7_method_16_code
def yX5_begins : MethodName := ⟨RX5, "begins", "(I)V"⟩
abbrev cX5_least : ByteArray := prog_7_method_17_code
def yX5_least : MethodName := ⟨RX5, "least", "(II)I"⟩
abbrev cX5_product : ByteArray := prog_7_method_18_code
def yX5_product : MethodName := ⟨RX5, "product", "(III)I"⟩
abbrev cX5_sum : ByteArray := prog_7_method_19_code
def yX5_sum : MethodName := ⟨RX5, "sum", "(II)I"⟩
abbrev cX5_power : ByteArray := prog_7_method_20_code
def yX5_power : MethodName := ⟨RX5, "power", "(III)I"⟩
abbrev cX5_needSigns : ByteArray := prog_7_method_21_code
def yX5_needSigns : MethodName := ⟨RX5, "needSigns", "(I)V"⟩
abbrev cX5_isField : ByteArray := prog_7_method_22_code
def yX5_isField : MethodName := ⟨RX5, "isField", "(I)Z"⟩
abbrev cX5_isNumber : ByteArray := prog_7_method_23_code
def yX5_isNumber : MethodName := ⟨RX5, "isNumber", "(II)Z"⟩
abbrev cX5_prime : ByteArray := prog_7_method_24_code
def yX5_prime : MethodName := ⟨RX5, "prime", "(I)I"⟩
abbrev cX5_size : ByteArray := prog_7_method_25_code
def yX5_size : MethodName := ⟨RX5, "size", "(I)I"⟩
abbrev cX5_modulus : ByteArray := prog_7_method_26_code
def yX5_modulus : MethodName := ⟨RX5, "modulus", "(I)I"⟩
abbrev cX5_plus : ByteArray := prog_7_method_27_code
def yX5_plus : MethodName := ⟨RX5, "plus", "(III)I"⟩
abbrev cX5_times : ByteArray := prog_7_method_28_code
def yX5_times : MethodName := ⟨RX5, "times", "(III)I"⟩
abbrev cX5_over : ByteArray := prog_7_method_29_code
def yX5_over : MethodName := ⟨RX5, "over", "(II)I"⟩
abbrev cX5_raise : ByteArray := prog_7_method_30_code
def yX5_raise : MethodName := ⟨RX5, "raise", "(III)I"⟩
abbrev cX5_sign : ByteArray := prog_7_method_31_code
def yX5_sign : MethodName := ⟨RX5, "sign", "(II)I"⟩
abbrev cX5_turns : ByteArray := prog_7_method_32_code
def yX5_turns : MethodName := ⟨RX5, "turns", "(II)I"⟩
abbrev cX5_trace : ByteArray := prog_7_method_33_code
def yX5_trace : MethodName := ⟨RX5, "trace", "(II)I"⟩
abbrev cX5_forms : ByteArray := prog_7_method_34_code
def yX5_forms : MethodName := ⟨RX5, "forms", "(IIII)I"⟩
abbrev cX5_isCurve : ByteArray := prog_7_method_35_code
def yX5_isCurve : MethodName := ⟨RX5, "isCurve", "(I)Z"⟩
abbrev cX5_degreeOf : ByteArray := prog_7_method_36_code
def yX5_degreeOf : MethodName := ⟨RX5, "degreeOf", "(I)I"⟩
abbrev cX5_genusOf : ByteArray := prog_7_method_37_code
def yX5_genusOf : MethodName := ⟨RX5, "genusOf", "(I)I"⟩
abbrev cX5_loadOwn : ByteArray := prog_7_method_38_code
def yX5_loadOwn : MethodName := ⟨RX5, "loadOwn", "(II)V"⟩
abbrev cX5_isDegree : ByteArray := prog_7_method_39_code
def yX5_isDegree : MethodName := ⟨RX5, "isDegree", "(II)Z"⟩
abbrev cX5_isShaped : ByteArray := prog_7_method_40_code
def yX5_isShaped : MethodName := ⟨RX5, "isShaped", "(I)Z"⟩
abbrev cX5_knotOf : ByteArray := prog_7_method_41_code
def yX5_knotOf : MethodName := ⟨RX5, "knotOf", "(I)I"⟩
abbrev cX5_curve : ByteArray := prog_7_method_42_code
def yX5_curve : MethodName := ⟨RX5, "curve", "(III)I"⟩
abbrev cX5_knot : ByteArray := prog_7_method_43_code
def yX5_knot : MethodName := ⟨RX5, "knot", "()I"⟩
abbrev cX5_about : ByteArray := prog_7_method_44_code
def yX5_about : MethodName := ⟨RX5, "about", "(II)I"⟩
abbrev cX5_valueOf : ByteArray := prog_7_method_45_code
def yX5_valueOf : MethodName := ⟨RX5, "valueOf", "(III)I"⟩
abbrev cX5_value : ByteArray := prog_7_method_46_code
def yX5_value : MethodName := ⟨RX5, "value", "(III)I"⟩
abbrev cX5_beyondOf : ByteArray := prog_7_method_47_code
def yX5_beyondOf : MethodName := ⟨RX5, "beyondOf", "(II)I"⟩
abbrev cX5_countOf : ByteArray := prog_7_method_48_code
def yX5_countOf : MethodName := ⟨RX5, "countOf", "(II)I"⟩
abbrev cX5_count : ByteArray := prog_7_method_49_code
def yX5_count : MethodName := ⟨RX5, "count", "(II)I"⟩
abbrev cX5_beyond : ByteArray := prog_7_method_50_code
def yX5_beyond : MethodName := ⟨RX5, "beyond", "(II)I"⟩
abbrev cX5_needShares : ByteArray := prog_7_method_51_code
def yX5_needShares : MethodName := ⟨RX5, "needShares", "(I)V"⟩
abbrev cX5_share : ByteArray := prog_7_method_52_code
def yX5_share : MethodName := ⟨RX5, "share", "(II)I"⟩
abbrev cX5_further : ByteArray := prog_7_method_53_code
def yX5_further : MethodName := ⟨RX5, "further", "(II)J"⟩
abbrev cX5_wholeOf : ByteArray := prog_7_method_54_code
def yX5_wholeOf : MethodName := ⟨RX5, "wholeOf", "(I)I"⟩
abbrev cX5_whole : ByteArray := prog_7_method_55_code
def yX5_whole : MethodName := ⟨RX5, "whole", "(I)I"⟩
abbrev cX5_bound : ByteArray := prog_7_method_56_code
def yX5_bound : MethodName := ⟨RX5, "bound", "(I)I"⟩
abbrev cX5_surface : ByteArray := prog_7_method_57_code
def yX5_surface : MethodName := ⟨RX5, "surface", "(III)I"⟩
abbrev cX5_best : ByteArray := prog_7_method_58_code
def yX5_best : MethodName := ⟨RX5, "best", "(III)I"⟩
abbrev cX5_hasClasses : ByteArray := prog_7_method_59_code
def yX5_hasClasses : MethodName := ⟨RX5, "hasClasses", "(I)Z"⟩
abbrev cX5_goesIn : ByteArray := prog_7_method_60_code
def yX5_goesIn : MethodName := ⟨RX5, "goesIn", "(III)Z"⟩
abbrev cX5_isClassOf : ByteArray := prog_7_method_61_code
def yX5_isClassOf : MethodName := ⟨RX5, "isClassOf", "(III)Z"⟩
abbrev cX5_needClasses : ByteArray := prog_7_method_62_code
def yX5_needClasses : MethodName := ⟨RX5, "needClasses", "(I)V"⟩
abbrev cX5_leaves : ByteArray := prog_7_method_63_code
def yX5_leaves : MethodName := ⟨RX5, "leaves", "(III)Z"⟩
abbrev cX5_isClass : ByteArray := prog_7_method_64_code
def yX5_isClass : MethodName := ⟨RX5, "isClass", "(III)I"⟩
abbrev cX5_classes : ByteArray := prog_7_method_65_code
def yX5_classes : MethodName := ⟨RX5, "classes", "(I)I"⟩
abbrev cX5_classAt : ByteArray := prog_7_method_66_code
def yX5_classAt : MethodName := ⟨RX5, "classAt", "(III)I"⟩
abbrev cX5_find : ByteArray := prog_7_method_67_code
def yX5_find : MethodName := ⟨RX5, "find", "(II)I"⟩
abbrev cX5_addOf : ByteArray := prog_7_method_68_code
def yX5_addOf : MethodName := ⟨RX5, "addOf", "(III)I"⟩
abbrev cX5_isThere : ByteArray := prog_7_method_69_code
def yX5_isThere : MethodName := ⟨RX5, "isThere", "(II)Z"⟩
abbrev cX5_add : ByteArray := prog_7_method_70_code
def yX5_add : MethodName := ⟨RX5, "add", "(III)I"⟩
abbrev cX5_minus : ByteArray := prog_7_method_71_code
def yX5_minus : MethodName := ⟨RX5, "minus", "(II)I"⟩
abbrev cX5_order : ByteArray := prog_7_method_72_code
def yX5_order : MethodName := ⟨RX5, "order", "(II)I"⟩
abbrev cX5_told : ByteArray := prog_7_method_73_code
def yX5_told : MethodName := ⟨RX5, "told", "(I)I"⟩
abbrev cX5_traced : ByteArray := prog_7_method_74_code
def yX5_traced : MethodName := ⟨RX5, "traced", "()J"⟩
def RJ9 : String := "java/lang/Math"
def TJ9 : u_T := fun k => match k with
  | _ => ("", "", "", false)
def tyJ9 : Nat → FieldType := fun k => match k with
  | _ => .int
abbrev wsJ90 : List Cond := u_ws RJ9 TJ9 0
theorem nmJ9 : ∀ a, a < 0 → ∀ b, b < 0 → a ≠ b → (TJ9 a).2.1 ≠ (TJ9 b).2.1 := by decide +kernel
theorem tyJ9_ok : ∀ k, k < 0 → parseFieldDescriptor (TJ9 k).2.2.1 = some (tyJ9 k) := by decide +kernel
abbrev cJ9_max_7cf53 : ByteArray := prog_8_method_65_code
def yJ9_max_7cf53 : MethodName := ⟨RJ9, "max", "(II)I"⟩
abbrev cJ9_min_7cf53 : ByteArray := prog_8_method_69_code
def yJ9_min_7cf53 : MethodName := ⟨RJ9, "min", "(II)I"⟩
def RJ7 : String := "java/util/Arrays"
def TJ7 : u_T := fun k => match k with
  | _ => ("", "", "", false)
def tyJ7 : Nat → FieldType := fun k => match k with
  | _ => .int
abbrev wsJ70 : List Cond := u_ws RJ7 TJ7 0
theorem nmJ7 : ∀ a, a < 0 → ∀ b, b < 0 → a ≠ b → (TJ7 a).2.1 ≠ (TJ7 b).2.1 := by decide +kernel
theorem tyJ7_ok : ∀ k, k < 0 → parseFieldDescriptor (TJ7 k).2.2.1 = some (tyJ7 k) := by decide +kernel
abbrev cJ7_fill_53178 : ByteArray := prog_9_method_103_code
def yJ7_fill_53178 : MethodName := ⟨RJ7, "fill", "([II)V"⟩
def RL : String := "FieldCountsLaw"
abbrev cL_law : ByteArray := code
def yL_law : MethodName := ⟨RL, "law", "([I)Z"⟩
def wsL_law_r1 : List Cond := [Cond.classLink RL 7 RX4, Cond.instantiable RX4 10, Cond.initialized RX4, Cond.classLink RL 10 RX5, Cond.instantiable RX5 23, Cond.initialized RX5, Cond.methodLink RL 9 yX4_init, Cond.instanceMethod yX4_init, Cond.code yX4_init cX4_init 2 none, Cond.methodLink RX4 1 objectInit, Cond.instanceMethod objectInit, Cond.code objectInit ⟨#[0xb1]⟩ 1 none, Cond.classLink RX4 7 RX3, Cond.instantiable RX3 1, Cond.initialized RX3, Cond.fieldLink RX4 10 "FieldCounts" "ring" "LFieldCounts$Polynomials;", Cond.classLink RX4 16 RX2, Cond.fieldLink RX4 18 "FieldCounts" "fields" "[LFieldCounts$Field;", Cond.classLink RX4 22 RX1, Cond.fieldLink RX4 24 "FieldCounts" "curves" "[LFieldCounts$Curve;", Cond.arrayClass .int, Cond.fieldLink RX4 28 "FieldCounts" "tally" "[I", Cond.arrayClass .long, Cond.fieldLink RX4 32 "FieldCounts" "powerSums" "[J"]
def wsL_law_r2 : List Cond := [Cond.fieldLink RX4 36 "FieldCounts" "knot" "I", Cond.instantiable RX2 8, Cond.initialized RX2, Cond.instantiable RX1 10, Cond.initialized RX1, Cond.instanceMethod yX3_init, Cond.code yX3_init cX3_init 1 none, Cond.methodLink RX3 3 objectInit, Cond.fieldLink RX3 9 "FieldCounts$Polynomials" "p" "I", Cond.methodLink RX4 40 yX2_init, Cond.instanceMethod yX2_init, Cond.code yX2_init cX2_init 3 none, Cond.methodLink RX2 3 objectInit, Cond.fieldLink RX2 9 "FieldCounts$Field" "powers" "[I", Cond.fieldLink RX2 15 "FieldCounts$Field" "exponents" "[I", Cond.fieldLink RX2 18 "FieldCounts$Field" "madeFor" "I", Cond.fieldLink RX2 22 "FieldCounts$Field" "size" "I", Cond.fieldLink RX2 25 "FieldCounts$Field" "units" "I", Cond.fieldLink RX2 28 "FieldCounts$Field" "divisor" "I", Cond.fieldLink RX2 31 "FieldCounts$Field" "ring" "LFieldCounts$Polynomials;", Cond.fieldLink RX2 35 "FieldCounts$Field" "n" "I", Cond.methodLink RX4 43 yX1_init, Cond.instanceMethod yX1_init, Cond.code yX1_init cX1_init 2 none]
def wsL_law_r3 : List Cond := [Cond.methodLink RX1 3 objectInit, Cond.fieldLink RX1 9 "FieldCounts$Curve" "share" "[I", Cond.fieldLink RX1 15 "FieldCounts$Curve" "ring" "LFieldCounts$Polynomials;", Cond.classLink RX1 19 RX0, Cond.instantiable RX0 5, Cond.initialized RX0, Cond.fieldLink RX1 24 "FieldCounts$Curve" "list" "LFieldCounts$ClassList;", Cond.methodLink RX1 21 yX0_init, Cond.instanceMethod yX0_init, Cond.code yX0_init cX0_init 2 none, Cond.methodLink RX0 3 objectInit, Cond.fieldLink RX0 9 "FieldCounts$ClassList" "keys" "[I", Cond.fieldLink RX0 15 "FieldCounts$ClassList" "genus" "I", Cond.fieldLink RX0 19 "FieldCounts$ClassList" "ring" "LFieldCounts$Polynomials;", Cond.methodLink RX4 46 yX4_start, Cond.instanceMethod yX4_start, Cond.selects RX4 yX4_start yX4_start, Cond.code yX4_start cX4_start 3 none, Cond.fieldLink RX4 120 "FieldCounts" "curveCount" "I", Cond.fieldLink RX4 53 "FieldCounts" "fieldCount" "I", Cond.fieldLink RX4 123 "FieldCounts" "leastNonSquare" "I", Cond.methodLink RX4 226 yX3_begin, Cond.instanceMethod yX3_begin, Cond.selects RX3 yX3_begin yX3_begin]
def wsL_law_r4 : List Cond := [Cond.code yX3_begin cX3_begin 2 none, Cond.methodLink RX3 15 Lib.Math.max.name, Cond.static Lib.Math.max.name, Cond.initialized "java/lang/Math", Cond.code Lib.Math.max.name Lib.Math.max.code 2 (some .int), Cond.methodLink RX4 177 yX3_place, Cond.instanceMethod yX3_place, Cond.selects RX3 yX3_place yX3_place, Cond.code yX3_place cX3_place 4 (some .int), Cond.methodLink RX4 56 yX4_fieldAt, Cond.instanceMethod yX4_fieldAt, Cond.selects RX4 yX4_fieldAt yX4_fieldAt, Cond.code yX4_fieldAt cX4_fieldAt 3 (some (.object "FieldCounts$Field")), Cond.methodLink RX4 228 yX2_fit, Cond.instanceMethod yX2_fit, Cond.selects RX2 yX2_fit yX2_fit, Cond.code yX2_fit cX2_fit 3 none, Cond.methodLink RX2 47 Lib.Math.max.name, Cond.methodLink RX2 43 yX3_place, Cond.methodLink RX2 53 yX3_isProduct, Cond.instanceMethod yX3_isProduct, Cond.selects RX3 yX3_isProduct yX3_isProduct, Cond.code yX3_isProduct cX3_isProduct 6 (some .boolean), Cond.methodLink RX3 40 yX3_place]
def wsL_law_r5 : List Cond := [Cond.methodLink RX3 46 yX3_rest, Cond.instanceMethod yX3_rest, Cond.selects RX3 yX3_rest yX3_rest, Cond.code yX3_rest cX3_rest 8 (some .int), Cond.methodLink RX3 27 yX3_degree, Cond.instanceMethod yX3_degree, Cond.selects RX3 yX3_degree yX3_degree, Cond.code yX3_degree cX3_degree 4 (some .int), Cond.methodLink RX3 31 yX3_lead, Cond.instanceMethod yX3_lead, Cond.selects RX3 yX3_lead yX3_lead, Cond.code yX3_lead cX3_lead 4 (some .int), Cond.methodLink RX3 34 yX3_inverse, Cond.instanceMethod yX3_inverse, Cond.selects RX3 yX3_inverse yX3_inverse, Cond.code yX3_inverse cX3_inverse 3 (some .int), Cond.methodLink RX3 37 yX3_coefficient, Cond.instanceMethod yX3_coefficient, Cond.selects RX3 yX3_coefficient yX3_coefficient, Cond.code yX3_coefficient cX3_coefficient 5 (some .int), Cond.methodLink RX3 21 yX3_scaled, Cond.instanceMethod yX3_scaled, Cond.selects RX3 yX3_scaled yX3_scaled, Cond.code yX3_scaled cX3_scaled 7 (some .int)]
def wsL_law_r6 : List Cond := [Cond.methodLink RX3 43 yX3_difference, Cond.instanceMethod yX3_difference, Cond.selects RX3 yX3_difference yX3_difference, Cond.code yX3_difference cX3_difference 8 (some .int), Cond.methodLink RX2 57 yX2_walk, Cond.instanceMethod yX2_walk, Cond.selects RX2 yX2_walk yX2_walk, Cond.code yX2_walk cX2_walk 4 (some .int), Cond.static yX4_put, Cond.code yX4_put cX4_put 3 none, Cond.methodLink RX2 68 yX3_product, Cond.instanceMethod yX3_product, Cond.selects RX3 yX3_product yX3_product, Cond.code yX3_product cX3_product 7 (some .int), Cond.methodLink RX3 24 yX3_sum, Cond.instanceMethod yX3_sum, Cond.selects RX3 yX3_sum yX3_sum, Cond.code yX3_sum cX3_sum 8 (some .int), Cond.methodLink RX2 71 yX3_rest, Cond.static yX4_at, Cond.code yX4_at cX4_at 2 (some .int), Cond.methodLink RX4 84 yX2_squareSign, Cond.instanceMethod yX2_squareSign, Cond.selects RX2 yX2_squareSign yX2_squareSign]
def wsL_law_r7 : List Cond := [Cond.code yX2_squareSign cX2_squareSign 2 (some .int), Cond.methodLink RL 12 yX5_init, Cond.instanceMethod yX5_init, Cond.code yX5_init cX5_init 1 none, Cond.methodLink RX5 1 objectInit, Cond.fieldLink RX5 7 "FieldCountsModel" "p" "I", Cond.fieldLink RX5 13 "FieldCountsModel" "fields" "I", Cond.fieldLink RX5 16 "FieldCountsModel" "sizes" "[I", Cond.fieldLink RX5 20 "FieldCountsModel" "moduli" "[I", Cond.fieldLink RX5 23 "FieldCountsModel" "kind" "[I", Cond.fieldLink RX5 26 "FieldCountsModel" "told" "[I", Cond.fieldLink RX5 29 "FieldCountsModel" "moved" "[I", Cond.fieldLink RX5 32 "FieldCountsModel" "own" "[I", Cond.fieldLink RX5 35 "FieldCountsModel" "knot" "I", Cond.fieldLink RX5 38 "FieldCountsModel" "w" "[I", Cond.fieldLink RX5 41 "FieldCountsModel" "signs" "[I", Cond.fieldLink RX5 44 "FieldCountsModel" "listed" "I", Cond.fieldLink RX5 47 "FieldCountsModel" "first" "[I", Cond.fieldLink RX5 50 "FieldCountsModel" "second" "[I", Cond.fieldLink RX5 53 "FieldCountsModel" "forms" "[I", Cond.fieldLink RX5 56 "FieldCountsModel" "shares" "[I", Cond.fieldLink RX5 59 "FieldCountsModel" "powers" "[J", Cond.methodLink RX5 63 yX5_begins, Cond.instanceMethod yX5_begins]
def wsL_law_r8 : List Cond := [Cond.selects RX5 yX5_begins yX5_begins, Cond.code yX5_begins cX5_begins 3 none, Cond.fieldLink RX5 108 "FieldCountsModel" "curves" "I", Cond.fieldLink RX5 111 "FieldCountsModel" "signsOf" "I", Cond.fieldLink RX5 117 "FieldCountsModel" "d" "I", Cond.methodLink RX5 104 yX5_least, Cond.instanceMethod yX5_least, Cond.selects RX5 yX5_least yX5_least, Cond.code yX5_least cX5_least 8 (some .int), Cond.methodLink RX5 87 yX5_load, Cond.instanceMethod yX5_load, Cond.selects RX5 yX5_load yX5_load, Cond.code yX5_load cX5_load 5 none, Cond.methodLink RX5 90 yX5_divide, Cond.instanceMethod yX5_divide, Cond.selects RX5 yX5_divide yX5_divide, Cond.code yX5_divide cX5_divide 10 none, Cond.methodLink RX5 74 yX5_clear, Cond.instanceMethod yX5_clear, Cond.selects RX5 yX5_clear yX5_clear, Cond.code yX5_clear cX5_clear 3 none, Cond.methodLink RX5 80 yX5_copy, Cond.instanceMethod yX5_copy, Cond.selects RX5 yX5_copy yX5_copy]
def wsL_law_r9 : List Cond := [Cond.code yX5_copy cX5_copy 4 none, Cond.methodLink RX5 77 yX5_degree, Cond.instanceMethod yX5_degree, Cond.selects RX5 yX5_degree yX5_degree, Cond.code yX5_degree cX5_degree 3 (some .int), Cond.methodLink RX5 84 yX5_inverse, Cond.instanceMethod yX5_inverse, Cond.selects RX5 yX5_inverse yX5_inverse, Cond.code yX5_inverse cX5_inverse 3 (some .int), Cond.methodLink RX5 70 yX5_left, Cond.instanceMethod yX5_left, Cond.selects RX5 yX5_left yX5_left, Cond.code yX5_left cX5_left 3 (some .int), Cond.methodLink RX5 114 yX5_needSigns, Cond.instanceMethod yX5_needSigns, Cond.selects RX5 yX5_needSigns yX5_needSigns, Cond.code yX5_needSigns cX5_needSigns 3 none, Cond.methodLink RX5 123 yX5_product, Cond.instanceMethod yX5_product, Cond.selects RX5 yX5_product yX5_product, Cond.code yX5_product cX5_product 4 (some .int), Cond.methodLink RX5 94 yX5_multiply, Cond.instanceMethod yX5_multiply, Cond.selects RX5 yX5_multiply yX5_multiply]
def wsL_law_r10 : List Cond := [Cond.code yX5_multiply cX5_multiply 8 none, Cond.methodLink RX5 120 yX5_number, Cond.instanceMethod yX5_number, Cond.selects RX5 yX5_number yX5_number, Cond.code yX5_number cX5_number 4 (some .int), Cond.methodLink RL 13 yX4_prime, Cond.instanceMethod yX4_prime, Cond.selects RX4 yX4_prime yX4_prime, Cond.code yX4_prime cX4_prime 6 (some .int), Cond.fieldLink RX4 50 "FieldCounts" "PRIMES" "[I", Cond.methodLink RL 17 yX5_prime, Cond.instanceMethod yX5_prime, Cond.selects RX5 yX5_prime yX5_prime, Cond.code yX5_prime cX5_prime 2 (some .int), Cond.fieldLink RX5 67 "FieldCountsModel" "thrown" "I", Cond.methodLink RL 18 yX4_size, Cond.instanceMethod yX4_size, Cond.selects RX4 yX4_size yX4_size, Cond.code yX4_size cX4_size 3 (some .int), Cond.methodLink RL 21 yX5_size, Cond.instanceMethod yX5_size, Cond.selects RX5 yX5_size yX5_size, Cond.code yX5_size cX5_size 2 (some .int), Cond.methodLink RX5 131 yX5_isField]
def wsL_law_r11 : List Cond := [Cond.instanceMethod yX5_isField, Cond.selects RX5 yX5_isField yX5_isField, Cond.code yX5_isField cX5_isField 2 (some .boolean), Cond.methodLink RX5 127 yX5_in, Cond.static yX5_in, Cond.code yX5_in cX5_in 6 (some .boolean), Cond.methodLink RL 22 yX4_modulus, Cond.instanceMethod yX4_modulus, Cond.selects RX4 yX4_modulus yX4_modulus, Cond.code yX4_modulus cX4_modulus 3 (some .int), Cond.methodLink RL 25 yX5_modulus, Cond.instanceMethod yX5_modulus, Cond.selects RX5 yX5_modulus yX5_modulus, Cond.code yX5_modulus cX5_modulus 2 (some .int), Cond.methodLink RL 26 yX4_plus, Cond.instanceMethod yX4_plus, Cond.selects RX4 yX4_plus yX4_plus, Cond.code yX4_plus cX4_plus 5 (some .int), Cond.methodLink RX4 66 yX2_has, Cond.instanceMethod yX2_has, Cond.selects RX2 yX2_has yX2_has, Cond.code yX2_has cX2_has 2 (some .boolean), Cond.methodLink RX4 70 yX3_sum, Cond.methodLink RL 30 yX5_plus]
def wsL_law_r12 : List Cond := [Cond.instanceMethod yX5_plus, Cond.selects RX5 yX5_plus yX5_plus, Cond.code yX5_plus cX5_plus 4 (some .int), Cond.methodLink RX5 135 yX5_isNumber, Cond.instanceMethod yX5_isNumber, Cond.selects RX5 yX5_isNumber yX5_isNumber, Cond.code yX5_isNumber cX5_isNumber 3 (some .boolean), Cond.methodLink RX5 139 yX5_sum, Cond.instanceMethod yX5_sum, Cond.selects RX5 yX5_sum yX5_sum, Cond.code yX5_sum cX5_sum 7 (some .int), Cond.methodLink RL 31 yX4_times, Cond.instanceMethod yX4_times, Cond.selects RX4 yX4_times yX4_times, Cond.code yX4_times cX4_times 5 (some .int), Cond.methodLink RX4 74 yX2_product, Cond.instanceMethod yX2_product, Cond.selects RX2 yX2_product yX2_product, Cond.code yX2_product cX2_product 3 (some .int), Cond.methodLink RL 34 yX5_times, Cond.instanceMethod yX5_times, Cond.selects RX5 yX5_times yX5_times, Cond.code yX5_times cX5_times 4 (some .int), Cond.methodLink RL 35 yX4_over]
def wsL_law_r13 : List Cond := [Cond.instanceMethod yX4_over, Cond.selects RX4 yX4_over yX4_over, Cond.code yX4_over cX4_over 4 (some .int), Cond.methodLink RX4 80 yX2_power, Cond.instanceMethod yX2_power, Cond.selects RX2 yX2_power yX2_power, Cond.code yX2_power cX2_power 3 (some .int), Cond.methodLink RL 39 yX5_over, Cond.instanceMethod yX5_over, Cond.selects RX5 yX5_over yX5_over, Cond.code yX5_over cX5_over 4 (some .int), Cond.methodLink RL 40 yX4_raise, Cond.instanceMethod yX4_raise, Cond.selects RX4 yX4_raise yX4_raise, Cond.code yX4_raise cX4_raise 5 (some .int), Cond.methodLink RL 43 yX5_raise, Cond.instanceMethod yX5_raise, Cond.selects RX5 yX5_raise yX5_raise, Cond.code yX5_raise cX5_raise 4 (some .int), Cond.methodLink RX5 142 yX5_power, Cond.instanceMethod yX5_power, Cond.selects RX5 yX5_power yX5_power, Cond.code yX5_power cX5_power 7 (some .int), Cond.methodLink RL 44 yX4_sign]
def wsL_law_r14 : List Cond := [Cond.instanceMethod yX4_sign, Cond.selects RX4 yX4_sign yX4_sign, Cond.code yX4_sign cX4_sign 4 (some .int), Cond.constant RX4 83 (-1000000000), Cond.methodLink RL 47 yX5_sign, Cond.instanceMethod yX5_sign, Cond.selects RX5 yX5_sign yX5_sign, Cond.code yX5_sign cX5_sign 3 (some .int), Cond.constant RX5 145 (-1000000000), Cond.methodLink RL 48 yX4_turns, Cond.instanceMethod yX4_turns, Cond.selects RX4 yX4_turns yX4_turns, Cond.code yX4_turns cX4_turns 4 (some .int), Cond.methodLink RX4 88 yX2_turnsOf, Cond.instanceMethod yX2_turnsOf, Cond.selects RX2 yX2_turnsOf yX2_turnsOf, Cond.code yX2_turnsOf cX2_turnsOf 3 (some .int), Cond.methodLink RL 51 yX5_turns, Cond.instanceMethod yX5_turns, Cond.selects RX5 yX5_turns yX5_turns, Cond.code yX5_turns cX5_turns 5 (some .int), Cond.methodLink RL 52 yX4_trace, Cond.instanceMethod yX4_trace, Cond.selects RX4 yX4_trace yX4_trace]
def wsL_law_r15 : List Cond := [Cond.code yX4_trace cX4_trace 7 (some .int), Cond.methodLink RL 55 yX5_trace, Cond.instanceMethod yX5_trace, Cond.selects RX5 yX5_trace yX5_trace, Cond.code yX5_trace cX5_trace 6 (some .int), Cond.methodLink RL 56 yX4_forms, Cond.instanceMethod yX4_forms, Cond.selects RX4 yX4_forms yX4_forms, Cond.code yX4_forms cX4_forms 8 (some .int), Cond.methodLink RX4 94 yJ7_fill_53178, Cond.static yJ7_fill_53178, Cond.initialized RJ7, Cond.code yJ7_fill_53178 cJ7_fill_53178 4 none, Cond.methodLink RX4 100 yX4_at, Cond.methodLink RX4 104 yX4_put, Cond.methodLink RX4 108 yX3_difference, Cond.methodLink RL 60 yX5_forms, Cond.instanceMethod yX5_forms, Cond.selects RX5 yX5_forms yX5_forms, Cond.code yX5_forms cX5_forms 9 (some .int), Cond.methodLink RL 61 yX4_curve, Cond.instanceMethod yX4_curve, Cond.selects RX4 yX4_curve yX4_curve, Cond.code yX4_curve cX4_curve 5 (some .int)]
def wsL_law_r16 : List Cond := [Cond.methodLink RX4 111 yX4_isCurvePolynomial, Cond.instanceMethod yX4_isCurvePolynomial, Cond.selects RX4 yX4_isCurvePolynomial yX4_isCurvePolynomial, Cond.code yX4_isCurvePolynomial cX4_isCurvePolynomial 2 (some .boolean), Cond.methodLink RX4 114 yX3_knotOf, Cond.instanceMethod yX3_knotOf, Cond.selects RX3 yX3_knotOf yX3_knotOf, Cond.code yX3_knotOf cX3_knotOf 2 (some .int), Cond.methodLink RX3 58 yX3_derivative, Cond.instanceMethod yX3_derivative, Cond.selects RX3 yX3_derivative yX3_derivative, Cond.code yX3_derivative cX3_derivative 4 (some .int), Cond.methodLink RX3 61 yX3_commonDivisor, Cond.instanceMethod yX3_commonDivisor, Cond.selects RX3 yX3_commonDivisor yX3_commonDivisor, Cond.code yX3_commonDivisor cX3_commonDivisor 7 (some .int), Cond.methodLink RX3 49 yX3_monic, Cond.instanceMethod yX3_monic, Cond.selects RX3 yX3_monic yX3_monic, Cond.code yX3_monic cX3_monic 2 (some .int), Cond.methodLink RX4 117 yX3_degree, Cond.methodLink RX4 126 yX1_begin, Cond.instanceMethod yX1_begin, Cond.selects RX1 yX1_begin yX1_begin]
def wsL_law_r17 : List Cond := [Cond.code yX1_begin cX1_begin 5 none, Cond.fieldLink RX1 28 "FieldCounts$Curve" "kind" "I", Cond.fieldLink RX1 32 "FieldCounts$Curve" "f" "I", Cond.fieldLink RX1 35 "FieldCounts$Curve" "t" "I", Cond.fieldLink RX1 44 "FieldCounts$Curve" "degree" "I", Cond.fieldLink RX1 46 "FieldCounts$Curve" "genus" "I", Cond.fieldLink RX1 56 "FieldCounts$Curve" "polynomial" "I", Cond.fieldLink RX1 59 "FieldCounts$Curve" "shareKnown" "Z", Cond.methodLink RX1 38 yX3_degree, Cond.methodLink RX1 49 yX3_scaled, Cond.methodLink RX1 53 yX3_movedBy, Cond.instanceMethod yX3_movedBy, Cond.selects RX3 yX3_movedBy yX3_movedBy, Cond.code yX3_movedBy cX3_movedBy 5 (some .int), Cond.methodLink RX3 55 yX3_product, Cond.methodLink RX1 63 yX0_begin, Cond.instanceMethod yX0_begin, Cond.selects RX0 yX0_begin yX0_begin, Cond.code yX0_begin cX0_begin 3 none, Cond.fieldLink RX0 23 "FieldCounts$ClassList" "polynomial" "I", Cond.fieldLink RX0 26 "FieldCounts$ClassList" "listed" "I", Cond.methodLink RL 64 yX5_curve, Cond.instanceMethod yX5_curve, Cond.selects RX5 yX5_curve yX5_curve]
def wsL_law_r18 : List Cond := [Cond.code yX5_curve cX5_curve 6 (some .int), Cond.constantLong RX5 156 (2), Cond.methodLink RX5 158 yX5_isShaped, Cond.instanceMethod yX5_isShaped, Cond.selects RX5 yX5_isShaped yX5_isShaped, Cond.code yX5_isShaped cX5_isShaped 2 (some .boolean), Cond.methodLink RX5 149 yX5_isDegree, Cond.instanceMethod yX5_isDegree, Cond.selects RX5 yX5_isDegree yX5_isDegree, Cond.code yX5_isDegree cX5_isDegree 6 (some .boolean), Cond.methodLink RX5 161 yX5_knotOf, Cond.instanceMethod yX5_knotOf, Cond.selects RX5 yX5_knotOf yX5_knotOf, Cond.code yX5_knotOf cX5_knotOf 3 (some .int), Cond.methodLink RX5 152 yX5_common, Cond.instanceMethod yX5_common, Cond.selects RX5 yX5_common yX5_common, Cond.code yX5_common cX5_common 7 none, Cond.methodLink RX5 98 yX5_join, Cond.instanceMethod yX5_join, Cond.selects RX5 yX5_join yX5_join, Cond.code yX5_join cX5_join 6 none, Cond.methodLink RX5 101 yX5_scale, Cond.instanceMethod yX5_scale]
def wsL_law_r19 : List Cond := [Cond.selects RX5 yX5_scale yX5_scale, Cond.code yX5_scale cX5_scale 4 none, Cond.methodLink RL 65 yX4_knot, Cond.instanceMethod yX4_knot, Cond.selects RX4 yX4_knot yX4_knot, Cond.code yX4_knot cX4_knot 1 (some .int), Cond.methodLink RL 69 yX5_knot, Cond.instanceMethod yX5_knot, Cond.selects RX5 yX5_knot yX5_knot, Cond.code yX5_knot cX5_knot 1 (some .int), Cond.methodLink RL 70 yX4_about, Cond.instanceMethod yX4_about, Cond.selects RX4 yX4_about yX4_about, Cond.code yX4_about cX4_about 4 (some .int), Cond.methodLink RX4 130 yX4_curveAt, Cond.instanceMethod yX4_curveAt, Cond.selects RX4 yX4_curveAt yX4_curveAt, Cond.code yX4_curveAt cX4_curveAt 2 (some (.object "FieldCounts$Curve")), Cond.methodLink RL 73 yX5_about, Cond.instanceMethod yX5_about, Cond.selects RX5 yX5_about yX5_about, Cond.code yX5_about cX5_about 3 (some .int), Cond.constantLong RX5 167 (5), Cond.methodLink RX5 164 yX5_isCurve]
def wsL_law_r20 : List Cond := [Cond.instanceMethod yX5_isCurve, Cond.selects RX5 yX5_isCurve yX5_isCurve, Cond.code yX5_isCurve cX5_isCurve 2 (some .boolean), Cond.methodLink RX5 146 yX5_degreeOf, Cond.instanceMethod yX5_degreeOf, Cond.selects RX5 yX5_degreeOf yX5_degreeOf, Cond.code yX5_degreeOf cX5_degreeOf 3 (some .int), Cond.methodLink RX5 169 yX5_genusOf, Cond.instanceMethod yX5_genusOf, Cond.selects RX5 yX5_genusOf yX5_genusOf, Cond.code yX5_genusOf cX5_genusOf 2 (some .int), Cond.methodLink RX5 172 yX5_loadOwn, Cond.instanceMethod yX5_loadOwn, Cond.selects RX5 yX5_loadOwn yX5_loadOwn, Cond.code yX5_loadOwn cX5_loadOwn 4 none, Cond.methodLink RL 74 yX4_value, Cond.instanceMethod yX4_value, Cond.selects RX4 yX4_value yX4_value, Cond.code yX4_value cX4_value 6 (some .int), Cond.fieldLink RX4 151 "FieldCounts" "trace" "J", Cond.fieldLink RX4 155 "FieldCounts" "TRACES" "[I", Cond.methodLink RX4 158 yX2_valueOf, Cond.instanceMethod yX2_valueOf, Cond.selects RX2 yX2_valueOf yX2_valueOf]
def wsL_law_r21 : List Cond := [Cond.code yX2_valueOf cX2_valueOf 5 (some .int), Cond.methodLink RX2 74 yX3_degree, Cond.methodLink RX2 77 yX2_product, Cond.methodLink RX2 78 yX3_coefficient, Cond.methodLink RX2 81 yX3_sum, Cond.methodLink RL 77 yX5_value, Cond.instanceMethod yX5_value, Cond.selects RX5 yX5_value yX5_value, Cond.code yX5_value cX5_value 4 (some .int), Cond.fieldLink RX5 175 "FieldCountsModel" "trace" "J", Cond.constantLong RX5 179 (11), Cond.constantLong RX5 181 (111), Cond.methodLink RX5 183 yX5_valueOf, Cond.instanceMethod yX5_valueOf, Cond.selects RX5 yX5_valueOf yX5_valueOf, Cond.code yX5_valueOf cX5_valueOf 6 (some .int), Cond.methodLink RL 78 yX4_count, Cond.instanceMethod yX4_count, Cond.selects RX4 yX4_count yX4_count, Cond.code yX4_count cX4_count 5 (some .int), Cond.methodLink RX4 161 yX2_pointsOf, Cond.instanceMethod yX2_pointsOf, Cond.selects RX2 yX2_pointsOf yX2_pointsOf, Cond.code yX2_pointsOf cX2_pointsOf 2 (some .int)]
def wsL_law_r22 : List Cond := [Cond.methodLink RX2 93 yX2_signSum, Cond.instanceMethod yX2_signSum, Cond.selects RX2 yX2_signSum yX2_signSum, Cond.code yX2_signSum cX2_signSum 4 (some .int), Cond.methodLink RX2 84 yX2_valueOf, Cond.methodLink RX2 87 yX2_squareSign, Cond.methodLink RX2 96 yX2_pointsBeyond, Cond.instanceMethod yX2_pointsBeyond, Cond.selects RX2 yX2_pointsBeyond yX2_pointsBeyond, Cond.code yX2_pointsBeyond cX2_pointsBeyond 2 (some .int), Cond.methodLink RX2 90 yX3_lead, Cond.methodLink RL 81 yX5_count, Cond.instanceMethod yX5_count, Cond.selects RX5 yX5_count yX5_count, Cond.code yX5_count cX5_count 3 (some .int), Cond.methodLink RX5 189 yX5_countOf, Cond.instanceMethod yX5_countOf, Cond.selects RX5 yX5_countOf yX5_countOf, Cond.code yX5_countOf cX5_countOf 5 (some .int), Cond.methodLink RX5 186 yX5_beyondOf, Cond.instanceMethod yX5_beyondOf, Cond.selects RX5 yX5_beyondOf yX5_beyondOf, Cond.code yX5_beyondOf cX5_beyondOf 4 (some .int), Cond.methodLink RL 82 yX4_beyond]
def wsL_law_r23 : List Cond := [Cond.instanceMethod yX4_beyond, Cond.selects RX4 yX4_beyond yX4_beyond, Cond.code yX4_beyond cX4_beyond 5 (some .int), Cond.methodLink RX4 164 yX2_pointsBeyond, Cond.methodLink RL 85 yX5_beyond, Cond.instanceMethod yX5_beyond, Cond.selects RX5 yX5_beyond yX5_beyond, Cond.code yX5_beyond cX5_beyond 3 (some .int), Cond.methodLink RL 86 yX4_share, Cond.instanceMethod yX4_share, Cond.selects RX4 yX4_share yX4_share, Cond.code yX4_share cX4_share 4 (some .int), Cond.methodLink RX4 167 yX4_shareOf, Cond.instanceMethod yX4_shareOf, Cond.selects RX4 yX4_shareOf yX4_shareOf, Cond.code yX4_shareOf cX4_shareOf 4 (some (.array .int)), Cond.methodLink RX4 239 yX1_makeShare, Cond.instanceMethod yX1_makeShare, Cond.selects RX1 yX1_makeShare yX1_makeShare, Cond.code yX1_makeShare cX1_makeShare 6 none, Cond.methodLink RX1 70 yX2_pointsOf, Cond.methodLink RX1 75 yJ7_fill_53178, Cond.methodLink RX1 85 yX3_place, Cond.methodLink RL 89 yX5_share]
def wsL_law_r24 : List Cond := [Cond.instanceMethod yX5_share, Cond.selects RX5 yX5_share yX5_share, Cond.code yX5_share cX5_share 3 (some .int), Cond.methodLink RX5 192 yX5_needShares, Cond.instanceMethod yX5_needShares, Cond.selects RX5 yX5_needShares yX5_needShares, Cond.code yX5_needShares cX5_needShares 3 none, Cond.methodLink RL 90 yX4_further, Cond.instanceMethod yX4_further, Cond.selects RX4 yX4_further yX4_further, Cond.code yX4_further cX4_further 11 (some .long), Cond.constantLong RX4 171 (-1), Cond.methodLink RL 94 yX5_further, Cond.instanceMethod yX5_further, Cond.selects RX5 yX5_further yX5_further, Cond.code yX5_further cX5_further 9 (some .long), Cond.constantLong RX5 195 (12), Cond.constantLong RX5 197 (-1), Cond.methodLink RL 95 yX4_whole, Cond.instanceMethod yX4_whole, Cond.selects RX4 yX4_whole yX4_whole, Cond.code yX4_whole cX4_whole 8 (some .int), Cond.methodLink RL 98 yX5_whole, Cond.instanceMethod yX5_whole]
def wsL_law_r25 : List Cond := [Cond.selects RX5 yX5_whole yX5_whole, Cond.code yX5_whole cX5_whole 2 (some .int), Cond.methodLink RX5 199 yX5_wholeOf, Cond.instanceMethod yX5_wholeOf, Cond.selects RX5 yX5_wholeOf yX5_wholeOf, Cond.code yX5_wholeOf cX5_wholeOf 2 (some .int), Cond.methodLink RL 99 yX4_bound, Cond.instanceMethod yX4_bound, Cond.selects RX4 yX4_bound yX4_bound, Cond.code yX4_bound cX4_bound 4 (some .int), Cond.methodLink RL 102 yX5_bound, Cond.instanceMethod yX5_bound, Cond.selects RX5 yX5_bound yX5_bound, Cond.code yX5_bound cX5_bound 3 (some .int), Cond.methodLink RL 103 yX4_surface, Cond.instanceMethod yX4_surface, Cond.selects RX4 yX4_surface yX4_surface, Cond.code yX4_surface cX4_surface 8 (some .int), Cond.methodLink RX4 173 yX2_signSum, Cond.methodLink RL 106 yX5_surface, Cond.instanceMethod yX5_surface, Cond.selects RX5 yX5_surface yX5_surface, Cond.code yX5_surface cX5_surface 12 (some .int), Cond.methodLink RL 107 yX4_best]
def wsL_law_r26 : List Cond := [Cond.instanceMethod yX4_best, Cond.selects RX4 yX4_best yX4_best, Cond.code yX4_best cX4_best 11 (some .int), Cond.constant RX4 176 (1000000), Cond.methodLink RX4 180 Lib.Math.max.name, Cond.methodLink RX4 185 Lib.Math.min.name, Cond.static Lib.Math.min.name, Cond.code Lib.Math.min.name Lib.Math.min.code 2 (some .int), Cond.methodLink RL 110 yX5_best, Cond.instanceMethod yX5_best, Cond.selects RX5 yX5_best yX5_best, Cond.code yX5_best cX5_best 11 (some .int), Cond.constantLong RX5 202 (3), Cond.constantLong RX5 204 (6), Cond.constantLong RX5 206 (1000000), Cond.constantLong RX5 208 (100), Cond.methodLink RL 111 yX4_isClass, Cond.instanceMethod yX4_isClass, Cond.selects RX4 yX4_isClass yX4_isClass, Cond.code yX4_isClass cX4_isClass 5 (some .int), Cond.methodLink RX4 188 yX4_listAt, Cond.instanceMethod yX4_listAt, Cond.selects RX4 yX4_listAt yX4_listAt, Cond.code yX4_listAt cX4_listAt 3 (some (.object "FieldCounts$ClassList"))]
def wsL_law_r27 : List Cond := [Cond.methodLink RX4 192 yX0_holds, Cond.instanceMethod yX0_holds, Cond.selects RX0 yX0_holds yX0_holds, Cond.code yX0_holds cX0_holds 5 (some .boolean), Cond.methodLink RX0 29 yX3_place, Cond.methodLink RX0 35 yX3_squareRest, Cond.instanceMethod yX3_squareRest, Cond.selects RX3 yX3_squareRest yX3_squareRest, Cond.code yX3_squareRest cX3_squareRest 9 (some .int), Cond.methodLink RX0 39 yX3_rest, Cond.methodLink RL 114 yX5_isClass, Cond.instanceMethod yX5_isClass, Cond.selects RX5 yX5_isClass yX5_isClass, Cond.code yX5_isClass cX5_isClass 4 (some .int), Cond.methodLink RX5 220 yX5_hasClasses, Cond.instanceMethod yX5_hasClasses, Cond.selects RX5 yX5_hasClasses yX5_hasClasses, Cond.code yX5_hasClasses cX5_hasClasses 2 (some .boolean), Cond.methodLink RX5 223 yX5_isClassOf, Cond.instanceMethod yX5_isClassOf, Cond.selects RX5 yX5_isClassOf yX5_isClassOf, Cond.code yX5_isClassOf cX5_isClassOf 6 (some .boolean), Cond.methodLink RX5 210 yX5_goesIn, Cond.instanceMethod yX5_goesIn]
def wsL_law_r28 : List Cond := [Cond.selects RX5 yX5_goesIn yX5_goesIn, Cond.code yX5_goesIn cX5_goesIn 4 (some .boolean), Cond.methodLink RL 115 yX4_classes, Cond.instanceMethod yX4_classes, Cond.selects RX4 yX4_classes yX4_classes, Cond.code yX4_classes cX4_classes 3 (some .int), Cond.methodLink RX4 198 yX0_many, Cond.instanceMethod yX0_many, Cond.selects RX0 yX0_many yX0_many, Cond.code yX0_many cX0_many 1 (some .int), Cond.methodLink RX0 42 yX0_goThrough, Cond.instanceMethod yX0_goThrough, Cond.selects RX0 yX0_goThrough yX0_goThrough, Cond.code yX0_goThrough cX0_goThrough 4 none, Cond.methodLink RX0 98 yX0_listWith, Cond.instanceMethod yX0_listWith, Cond.selects RX0 yX0_listWith yX0_listWith, Cond.code yX0_listWith cX0_listWith 5 none, Cond.methodLink RX0 65 yX0_keyOf, Cond.instanceMethod yX0_keyOf, Cond.selects RX0 yX0_keyOf yX0_keyOf, Cond.code yX0_keyOf cX0_keyOf 3 (some .int), Cond.methodLink RL 118 yX5_classes, Cond.instanceMethod yX5_classes]
def wsL_law_r29 : List Cond := [Cond.selects RX5 yX5_classes yX5_classes, Cond.code yX5_classes cX5_classes 2 (some .int), Cond.fieldLink RX5 214 "FieldCountsModel" "many" "I", Cond.methodLink RX5 226 yX5_needClasses, Cond.instanceMethod yX5_needClasses, Cond.selects RX5 yX5_needClasses yX5_needClasses, Cond.code yX5_needClasses cX5_needClasses 6 none, Cond.methodLink RX5 217 yX5_leaves, Cond.instanceMethod yX5_leaves, Cond.selects RX5 yX5_leaves yX5_leaves, Cond.code yX5_leaves cX5_leaves 6 (some .boolean), Cond.methodLink RL 119 yX4_classAt, Cond.instanceMethod yX4_classAt, Cond.selects RX4 yX4_classAt yX4_classAt, Cond.code yX4_classAt cX4_classAt 6 (some .int), Cond.methodLink RX4 202 yX0_keyAt, Cond.instanceMethod yX0_keyAt, Cond.selects RX0 yX0_keyAt yX0_keyAt, Cond.code yX0_keyAt cX0_keyAt 2 (some .int), Cond.methodLink RX4 205 yX0_uOf, Cond.instanceMethod yX0_uOf, Cond.selects RX0 yX0_uOf yX0_uOf, Cond.code yX0_uOf cX0_uOf 2 (some .int), Cond.methodLink RX4 208 yX0_vOf]
def wsL_law_r30 : List Cond := [Cond.instanceMethod yX0_vOf, Cond.selects RX0 yX0_vOf yX0_vOf, Cond.code yX0_vOf cX0_vOf 2 (some .int), Cond.methodLink RL 122 yX5_classAt, Cond.instanceMethod yX5_classAt, Cond.selects RX5 yX5_classAt yX5_classAt, Cond.code yX5_classAt cX5_classAt 4 (some .int), Cond.methodLink RL 123 yX4_add, Cond.instanceMethod yX4_add, Cond.selects RX4 yX4_add yX4_add, Cond.code yX4_add cX4_add 5 (some .int), Cond.methodLink RX4 211 yX0_reaches, Cond.instanceMethod yX0_reaches, Cond.selects RX0 yX0_reaches yX0_reaches, Cond.code yX0_reaches cX0_reaches 2 (some .boolean), Cond.methodLink RX0 45 yX0_many, Cond.methodLink RX4 214 yX0_sumOf, Cond.instanceMethod yX0_sumOf, Cond.selects RX0 yX0_sumOf yX0_sumOf, Cond.code yX0_sumOf cX0_sumOf 18 (some .int), Cond.methodLink RX0 56 yX0_uOf, Cond.methodLink RX0 59 yX0_vOf, Cond.methodLink RX0 74 yX3_commonDivisor, Cond.methodLink RX0 77 yX3_cofactor]
def wsL_law_r31 : List Cond := [Cond.instanceMethod yX3_cofactor, Cond.selects RX3 yX3_cofactor yX3_cofactor, Cond.code yX3_cofactor cX3_cofactor 11 (some .int), Cond.methodLink RX3 52 yX3_quotient, Cond.instanceMethod yX3_quotient, Cond.selects RX3 yX3_quotient yX3_quotient, Cond.code yX3_quotient cX3_quotient 9 (some .int), Cond.methodLink RX0 80 yX3_product, Cond.methodLink RX0 62 yX3_difference, Cond.methodLink RX0 83 yX3_quotient, Cond.methodLink RX0 86 yX3_sum, Cond.methodLink RX0 89 yX0_reduced, Cond.instanceMethod yX0_reduced, Cond.selects RX0 yX0_reduced yX0_reduced, Cond.code yX0_reduced cX0_reduced 6 (some .int), Cond.methodLink RX0 92 yX3_degree, Cond.methodLink RX0 95 yX3_monic, Cond.methodLink RX4 217 yX0_placeOf, Cond.instanceMethod yX0_placeOf, Cond.selects RX0 yX0_placeOf yX0_placeOf, Cond.code yX0_placeOf cX0_placeOf 3 (some .int), Cond.methodLink RL 126 yX5_add, Cond.instanceMethod yX5_add, Cond.selects RX5 yX5_add yX5_add]
def wsL_law_r32 : List Cond := [Cond.code yX5_add cX5_add 4 (some .int), Cond.methodLink RX5 232 yX5_isThere, Cond.instanceMethod yX5_isThere, Cond.selects RX5 yX5_isThere yX5_isThere, Cond.code yX5_isThere cX5_isThere 3 (some .boolean), Cond.methodLink RX5 235 yX5_addOf, Cond.instanceMethod yX5_addOf, Cond.selects RX5 yX5_addOf yX5_addOf, Cond.code yX5_addOf cX5_addOf 4 (some .int), Cond.methodLink RX5 229 yX5_find, Cond.instanceMethod yX5_find, Cond.selects RX5 yX5_find yX5_find, Cond.code yX5_find cX5_find 4 (some .int), Cond.methodLink RL 127 yX4_minus, Cond.instanceMethod yX4_minus, Cond.selects RX4 yX4_minus yX4_minus, Cond.code yX4_minus cX4_minus 4 (some .int), Cond.methodLink RX4 220 yX0_oppositeOf, Cond.instanceMethod yX0_oppositeOf, Cond.selects RX0 yX0_oppositeOf yX0_oppositeOf, Cond.code yX0_oppositeOf cX0_oppositeOf 2 (some .int), Cond.methodLink RL 130 yX5_minus, Cond.instanceMethod yX5_minus, Cond.selects RX5 yX5_minus yX5_minus]
def wsL_law_r33 : List Cond := [Cond.code yX5_minus cX5_minus 3 (some .int), Cond.methodLink RL 131 yX4_order, Cond.instanceMethod yX4_order, Cond.selects RX4 yX4_order yX4_order, Cond.code yX4_order cX4_order 4 (some .int), Cond.methodLink RX4 223 yX0_orderOf, Cond.instanceMethod yX0_orderOf, Cond.selects RX0 yX0_orderOf yX0_orderOf, Cond.code yX0_orderOf cX0_orderOf 5 (some .int), Cond.methodLink RX0 68 yX0_multipleOf, Cond.instanceMethod yX0_multipleOf, Cond.selects RX0 yX0_multipleOf yX0_multipleOf, Cond.code yX0_multipleOf cX0_multipleOf 6 (some .int), Cond.methodLink RX0 71 yX0_sumOf, Cond.methodLink RL 134 yX5_order, Cond.instanceMethod yX5_order, Cond.selects RX5 yX5_order yX5_order, Cond.code yX5_order cX5_order 5 (some .int), Cond.methodLink RL 135 yX4_told, Cond.instanceMethod yX4_told, Cond.selects RX4 yX4_told yX4_told, Cond.code yX4_told cX4_told 2 (some .int), Cond.methodLink RL 138 yX5_told, Cond.instanceMethod yX5_told]
def wsL_law_r34 : List Cond := [Cond.selects RX5 yX5_told yX5_told, Cond.code yX5_told cX5_told 2 (some .int), Cond.methodLink RL 139 yX4_traced, Cond.instanceMethod yX4_traced, Cond.selects RX4 yX4_traced yX4_traced, Cond.code yX4_traced cX4_traced 1 (some .long), Cond.methodLink RL 143 yX5_traced, Cond.instanceMethod yX5_traced, Cond.selects RX5 yX5_traced yX5_traced, Cond.code yX5_traced cX5_traced 1 (some .long)]
abbrev vwCl : List vw_C := [(RX0, TX0, 5), (RX1, TX1, 10), (RX2, TX2, 8), (RX3, TX3, 1), (RX4, TX4, 10), (RX5, TX5, 23)]

def wsL_law : List Cond := (wsL_law_r1 ++ (wsL_law_r2 ++ (wsL_law_r3 ++ (wsL_law_r4 ++ (wsL_law_r5 ++ (wsL_law_r6 ++ (wsL_law_r7 ++ (wsL_law_r8 ++ (wsL_law_r9 ++ (wsL_law_r10 ++ (wsL_law_r11 ++ (wsL_law_r12 ++ (wsL_law_r13 ++ (wsL_law_r14 ++ (wsL_law_r15 ++ (wsL_law_r16 ++ (wsL_law_r17 ++ (wsL_law_r18 ++ (wsL_law_r19 ++ (wsL_law_r20 ++ (wsL_law_r21 ++ (wsL_law_r22 ++ (wsL_law_r23 ++ (wsL_law_r24 ++ (wsL_law_r25 ++ (wsL_law_r26 ++ (wsL_law_r27 ++ (wsL_law_r28 ++ (wsL_law_r29 ++ (wsL_law_r30 ++ (wsL_law_r31 ++ (wsL_law_r32 ++ (wsL_law_r33 ++ wsL_law_r34))))))))))))))))))))))))))))))))) ++ wsX40 ++ wsX50 ++ wsX30 ++ wsX20 ++ wsX10 ++ wsX00 ++ ([] : List Cond)
theorem inl_X4 : ∀ w ∈ wsX40, w ∈ wsL_law := fun _ h => List.mem_append_left _ (List.mem_append_left _ (List.mem_append_left _ (List.mem_append_left _ (List.mem_append_left _ (List.mem_append_left _ (List.mem_append_right _ h))))))
theorem inl_X5 : ∀ w ∈ wsX50, w ∈ wsL_law := fun _ h => List.mem_append_left _ (List.mem_append_left _ (List.mem_append_left _ (List.mem_append_left _ (List.mem_append_left _ (List.mem_append_right _ h)))))
theorem inl_X3 : ∀ w ∈ wsX30, w ∈ wsL_law := fun _ h => List.mem_append_left _ (List.mem_append_left _ (List.mem_append_left _ (List.mem_append_left _ (List.mem_append_right _ h))))
theorem inl_X2 : ∀ w ∈ wsX20, w ∈ wsL_law := fun _ h => List.mem_append_left _ (List.mem_append_left _ (List.mem_append_left _ (List.mem_append_right _ h)))
theorem inl_X1 : ∀ w ∈ wsX10, w ∈ wsL_law := fun _ h => List.mem_append_left _ (List.mem_append_left _ (List.mem_append_right _ h))
theorem inl_X0 : ∀ w ∈ wsX00, w ∈ wsL_law := fun _ h => List.mem_append_left _ (List.mem_append_right _ h)
theorem inr_1 : ∀ w ∈ wsL_law_r1, w ∈ wsL_law := fun _ h => List.mem_append_left _ (List.mem_append_left _ (List.mem_append_left _ (List.mem_append_left _ (List.mem_append_left _ (List.mem_append_left _ (List.mem_append_left _ (List.mem_append_left _ (h))))))))
theorem inr_2 : ∀ w ∈ wsL_law_r2, w ∈ wsL_law := fun _ h => List.mem_append_left _ (List.mem_append_left _ (List.mem_append_left _ (List.mem_append_left _ (List.mem_append_left _ (List.mem_append_left _ (List.mem_append_left _ (List.mem_append_right _ (List.mem_append_left _ (h)))))))))
theorem inr_3 : ∀ w ∈ wsL_law_r3, w ∈ wsL_law := fun _ h => List.mem_append_left _ (List.mem_append_left _ (List.mem_append_left _ (List.mem_append_left _ (List.mem_append_left _ (List.mem_append_left _ (List.mem_append_left _ (List.mem_append_right _ (List.mem_append_right _ (List.mem_append_left _ (h))))))))))
theorem inr_4 : ∀ w ∈ wsL_law_r4, w ∈ wsL_law := fun _ h => List.mem_append_left _ (List.mem_append_left _ (List.mem_append_left _ (List.mem_append_left _ (List.mem_append_left _ (List.mem_append_left _ (List.mem_append_left _ (List.mem_append_right _ (List.mem_append_right _ (List.mem_append_right _ (List.mem_append_left _ (h)))))))))))
theorem inr_5 : ∀ w ∈ wsL_law_r5, w ∈ wsL_law := fun _ h => List.mem_append_left _ (List.mem_append_left _ (List.mem_append_left _ (List.mem_append_left _ (List.mem_append_left _ (List.mem_append_left _ (List.mem_append_left _ (List.mem_append_right _ (List.mem_append_right _ (List.mem_append_right _ (List.mem_append_right _ (List.mem_append_left _ (h))))))))))))
theorem inr_6 : ∀ w ∈ wsL_law_r6, w ∈ wsL_law := fun _ h => List.mem_append_left _ (List.mem_append_left _ (List.mem_append_left _ (List.mem_append_left _ (List.mem_append_left _ (List.mem_append_left _ (List.mem_append_left _ (List.mem_append_right _ (List.mem_append_right _ (List.mem_append_right _ (List.mem_append_right _ (List.mem_append_right _ (List.mem_append_left _ (h)))))))))))))
theorem inr_7 : ∀ w ∈ wsL_law_r7, w ∈ wsL_law := fun _ h => List.mem_append_left _ (List.mem_append_left _ (List.mem_append_left _ (List.mem_append_left _ (List.mem_append_left _ (List.mem_append_left _ (List.mem_append_left _ (List.mem_append_right _ (List.mem_append_right _ (List.mem_append_right _ (List.mem_append_right _ (List.mem_append_right _ (List.mem_append_right _ (List.mem_append_left _ (h))))))))))))))
theorem inr_8 : ∀ w ∈ wsL_law_r8, w ∈ wsL_law := fun _ h => List.mem_append_left _ (List.mem_append_left _ (List.mem_append_left _ (List.mem_append_left _ (List.mem_append_left _ (List.mem_append_left _ (List.mem_append_left _ (List.mem_append_right _ (List.mem_append_right _ (List.mem_append_right _ (List.mem_append_right _ (List.mem_append_right _ (List.mem_append_right _ (List.mem_append_right _ (List.mem_append_left _ (h)))))))))))))))
theorem inr_9 : ∀ w ∈ wsL_law_r9, w ∈ wsL_law := fun _ h => List.mem_append_left _ (List.mem_append_left _ (List.mem_append_left _ (List.mem_append_left _ (List.mem_append_left _ (List.mem_append_left _ (List.mem_append_left _ (List.mem_append_right _ (List.mem_append_right _ (List.mem_append_right _ (List.mem_append_right _ (List.mem_append_right _ (List.mem_append_right _ (List.mem_append_right _ (List.mem_append_right _ (List.mem_append_left _ (h))))))))))))))))
theorem inr_10 : ∀ w ∈ wsL_law_r10, w ∈ wsL_law := fun _ h => List.mem_append_left _ (List.mem_append_left _ (List.mem_append_left _ (List.mem_append_left _ (List.mem_append_left _ (List.mem_append_left _ (List.mem_append_left _ (List.mem_append_right _ (List.mem_append_right _ (List.mem_append_right _ (List.mem_append_right _ (List.mem_append_right _ (List.mem_append_right _ (List.mem_append_right _ (List.mem_append_right _ (List.mem_append_right _ (List.mem_append_left _ (h)))))))))))))))))
theorem inr_11 : ∀ w ∈ wsL_law_r11, w ∈ wsL_law := fun _ h => List.mem_append_left _ (List.mem_append_left _ (List.mem_append_left _ (List.mem_append_left _ (List.mem_append_left _ (List.mem_append_left _ (List.mem_append_left _ (List.mem_append_right _ (List.mem_append_right _ (List.mem_append_right _ (List.mem_append_right _ (List.mem_append_right _ (List.mem_append_right _ (List.mem_append_right _ (List.mem_append_right _ (List.mem_append_right _ (List.mem_append_right _ (List.mem_append_left _ (h))))))))))))))))))
theorem inr_12 : ∀ w ∈ wsL_law_r12, w ∈ wsL_law := fun _ h => List.mem_append_left _ (List.mem_append_left _ (List.mem_append_left _ (List.mem_append_left _ (List.mem_append_left _ (List.mem_append_left _ (List.mem_append_left _ (List.mem_append_right _ (List.mem_append_right _ (List.mem_append_right _ (List.mem_append_right _ (List.mem_append_right _ (List.mem_append_right _ (List.mem_append_right _ (List.mem_append_right _ (List.mem_append_right _ (List.mem_append_right _ (List.mem_append_right _ (List.mem_append_left _ (h)))))))))))))))))))
theorem inr_13 : ∀ w ∈ wsL_law_r13, w ∈ wsL_law := fun _ h => List.mem_append_left _ (List.mem_append_left _ (List.mem_append_left _ (List.mem_append_left _ (List.mem_append_left _ (List.mem_append_left _ (List.mem_append_left _ (List.mem_append_right _ (List.mem_append_right _ (List.mem_append_right _ (List.mem_append_right _ (List.mem_append_right _ (List.mem_append_right _ (List.mem_append_right _ (List.mem_append_right _ (List.mem_append_right _ (List.mem_append_right _ (List.mem_append_right _ (List.mem_append_right _ (List.mem_append_left _ (h))))))))))))))))))))
theorem inr_14 : ∀ w ∈ wsL_law_r14, w ∈ wsL_law := fun _ h => List.mem_append_left _ (List.mem_append_left _ (List.mem_append_left _ (List.mem_append_left _ (List.mem_append_left _ (List.mem_append_left _ (List.mem_append_left _ (List.mem_append_right _ (List.mem_append_right _ (List.mem_append_right _ (List.mem_append_right _ (List.mem_append_right _ (List.mem_append_right _ (List.mem_append_right _ (List.mem_append_right _ (List.mem_append_right _ (List.mem_append_right _ (List.mem_append_right _ (List.mem_append_right _ (List.mem_append_right _ (List.mem_append_left _ (h)))))))))))))))))))))
theorem inr_15 : ∀ w ∈ wsL_law_r15, w ∈ wsL_law := fun _ h => List.mem_append_left _ (List.mem_append_left _ (List.mem_append_left _ (List.mem_append_left _ (List.mem_append_left _ (List.mem_append_left _ (List.mem_append_left _ (List.mem_append_right _ (List.mem_append_right _ (List.mem_append_right _ (List.mem_append_right _ (List.mem_append_right _ (List.mem_append_right _ (List.mem_append_right _ (List.mem_append_right _ (List.mem_append_right _ (List.mem_append_right _ (List.mem_append_right _ (List.mem_append_right _ (List.mem_append_right _ (List.mem_append_right _ (List.mem_append_left _ (h))))))))))))))))))))))
theorem inr_16 : ∀ w ∈ wsL_law_r16, w ∈ wsL_law := fun _ h => List.mem_append_left _ (List.mem_append_left _ (List.mem_append_left _ (List.mem_append_left _ (List.mem_append_left _ (List.mem_append_left _ (List.mem_append_left _ (List.mem_append_right _ (List.mem_append_right _ (List.mem_append_right _ (List.mem_append_right _ (List.mem_append_right _ (List.mem_append_right _ (List.mem_append_right _ (List.mem_append_right _ (List.mem_append_right _ (List.mem_append_right _ (List.mem_append_right _ (List.mem_append_right _ (List.mem_append_right _ (List.mem_append_right _ (List.mem_append_right _ (List.mem_append_left _ (h)))))))))))))))))))))))
theorem inr_17 : ∀ w ∈ wsL_law_r17, w ∈ wsL_law := fun _ h => List.mem_append_left _ (List.mem_append_left _ (List.mem_append_left _ (List.mem_append_left _ (List.mem_append_left _ (List.mem_append_left _ (List.mem_append_left _ (List.mem_append_right _ (List.mem_append_right _ (List.mem_append_right _ (List.mem_append_right _ (List.mem_append_right _ (List.mem_append_right _ (List.mem_append_right _ (List.mem_append_right _ (List.mem_append_right _ (List.mem_append_right _ (List.mem_append_right _ (List.mem_append_right _ (List.mem_append_right _ (List.mem_append_right _ (List.mem_append_right _ (List.mem_append_right _ (List.mem_append_left _ (h))))))))))))))))))))))))
theorem inr_18 : ∀ w ∈ wsL_law_r18, w ∈ wsL_law := fun _ h => List.mem_append_left _ (List.mem_append_left _ (List.mem_append_left _ (List.mem_append_left _ (List.mem_append_left _ (List.mem_append_left _ (List.mem_append_left _ (List.mem_append_right _ (List.mem_append_right _ (List.mem_append_right _ (List.mem_append_right _ (List.mem_append_right _ (List.mem_append_right _ (List.mem_append_right _ (List.mem_append_right _ (List.mem_append_right _ (List.mem_append_right _ (List.mem_append_right _ (List.mem_append_right _ (List.mem_append_right _ (List.mem_append_right _ (List.mem_append_right _ (List.mem_append_right _ (List.mem_append_right _ (List.mem_append_left _ (h)))))))))))))))))))))))))
theorem inr_19 : ∀ w ∈ wsL_law_r19, w ∈ wsL_law := fun _ h => List.mem_append_left _ (List.mem_append_left _ (List.mem_append_left _ (List.mem_append_left _ (List.mem_append_left _ (List.mem_append_left _ (List.mem_append_left _ (List.mem_append_right _ (List.mem_append_right _ (List.mem_append_right _ (List.mem_append_right _ (List.mem_append_right _ (List.mem_append_right _ (List.mem_append_right _ (List.mem_append_right _ (List.mem_append_right _ (List.mem_append_right _ (List.mem_append_right _ (List.mem_append_right _ (List.mem_append_right _ (List.mem_append_right _ (List.mem_append_right _ (List.mem_append_right _ (List.mem_append_right _ (List.mem_append_right _ (List.mem_append_left _ (h))))))))))))))))))))))))))
theorem inr_20 : ∀ w ∈ wsL_law_r20, w ∈ wsL_law := fun _ h => List.mem_append_left _ (List.mem_append_left _ (List.mem_append_left _ (List.mem_append_left _ (List.mem_append_left _ (List.mem_append_left _ (List.mem_append_left _ (List.mem_append_right _ (List.mem_append_right _ (List.mem_append_right _ (List.mem_append_right _ (List.mem_append_right _ (List.mem_append_right _ (List.mem_append_right _ (List.mem_append_right _ (List.mem_append_right _ (List.mem_append_right _ (List.mem_append_right _ (List.mem_append_right _ (List.mem_append_right _ (List.mem_append_right _ (List.mem_append_right _ (List.mem_append_right _ (List.mem_append_right _ (List.mem_append_right _ (List.mem_append_right _ (List.mem_append_left _ (h)))))))))))))))))))))))))))
theorem inr_21 : ∀ w ∈ wsL_law_r21, w ∈ wsL_law := fun _ h => List.mem_append_left _ (List.mem_append_left _ (List.mem_append_left _ (List.mem_append_left _ (List.mem_append_left _ (List.mem_append_left _ (List.mem_append_left _ (List.mem_append_right _ (List.mem_append_right _ (List.mem_append_right _ (List.mem_append_right _ (List.mem_append_right _ (List.mem_append_right _ (List.mem_append_right _ (List.mem_append_right _ (List.mem_append_right _ (List.mem_append_right _ (List.mem_append_right _ (List.mem_append_right _ (List.mem_append_right _ (List.mem_append_right _ (List.mem_append_right _ (List.mem_append_right _ (List.mem_append_right _ (List.mem_append_right _ (List.mem_append_right _ (List.mem_append_right _ (List.mem_append_left _ (h))))))))))))))))))))))))))))
theorem inr_22 : ∀ w ∈ wsL_law_r22, w ∈ wsL_law := fun _ h => List.mem_append_left _ (List.mem_append_left _ (List.mem_append_left _ (List.mem_append_left _ (List.mem_append_left _ (List.mem_append_left _ (List.mem_append_left _ (List.mem_append_right _ (List.mem_append_right _ (List.mem_append_right _ (List.mem_append_right _ (List.mem_append_right _ (List.mem_append_right _ (List.mem_append_right _ (List.mem_append_right _ (List.mem_append_right _ (List.mem_append_right _ (List.mem_append_right _ (List.mem_append_right _ (List.mem_append_right _ (List.mem_append_right _ (List.mem_append_right _ (List.mem_append_right _ (List.mem_append_right _ (List.mem_append_right _ (List.mem_append_right _ (List.mem_append_right _ (List.mem_append_right _ (List.mem_append_left _ (h)))))))))))))))))))))))))))))
theorem inr_23 : ∀ w ∈ wsL_law_r23, w ∈ wsL_law := fun _ h => List.mem_append_left _ (List.mem_append_left _ (List.mem_append_left _ (List.mem_append_left _ (List.mem_append_left _ (List.mem_append_left _ (List.mem_append_left _ (List.mem_append_right _ (List.mem_append_right _ (List.mem_append_right _ (List.mem_append_right _ (List.mem_append_right _ (List.mem_append_right _ (List.mem_append_right _ (List.mem_append_right _ (List.mem_append_right _ (List.mem_append_right _ (List.mem_append_right _ (List.mem_append_right _ (List.mem_append_right _ (List.mem_append_right _ (List.mem_append_right _ (List.mem_append_right _ (List.mem_append_right _ (List.mem_append_right _ (List.mem_append_right _ (List.mem_append_right _ (List.mem_append_right _ (List.mem_append_right _ (List.mem_append_left _ (h))))))))))))))))))))))))))))))
theorem inr_24 : ∀ w ∈ wsL_law_r24, w ∈ wsL_law := fun _ h => List.mem_append_left _ (List.mem_append_left _ (List.mem_append_left _ (List.mem_append_left _ (List.mem_append_left _ (List.mem_append_left _ (List.mem_append_left _ (List.mem_append_right _ (List.mem_append_right _ (List.mem_append_right _ (List.mem_append_right _ (List.mem_append_right _ (List.mem_append_right _ (List.mem_append_right _ (List.mem_append_right _ (List.mem_append_right _ (List.mem_append_right _ (List.mem_append_right _ (List.mem_append_right _ (List.mem_append_right _ (List.mem_append_right _ (List.mem_append_right _ (List.mem_append_right _ (List.mem_append_right _ (List.mem_append_right _ (List.mem_append_right _ (List.mem_append_right _ (List.mem_append_right _ (List.mem_append_right _ (List.mem_append_right _ (List.mem_append_left _ (h)))))))))))))))))))))))))))))))
theorem inr_25 : ∀ w ∈ wsL_law_r25, w ∈ wsL_law := fun _ h => List.mem_append_left _ (List.mem_append_left _ (List.mem_append_left _ (List.mem_append_left _ (List.mem_append_left _ (List.mem_append_left _ (List.mem_append_left _ (List.mem_append_right _ (List.mem_append_right _ (List.mem_append_right _ (List.mem_append_right _ (List.mem_append_right _ (List.mem_append_right _ (List.mem_append_right _ (List.mem_append_right _ (List.mem_append_right _ (List.mem_append_right _ (List.mem_append_right _ (List.mem_append_right _ (List.mem_append_right _ (List.mem_append_right _ (List.mem_append_right _ (List.mem_append_right _ (List.mem_append_right _ (List.mem_append_right _ (List.mem_append_right _ (List.mem_append_right _ (List.mem_append_right _ (List.mem_append_right _ (List.mem_append_right _ (List.mem_append_right _ (List.mem_append_left _ (h))))))))))))))))))))))))))))))))
theorem inr_26 : ∀ w ∈ wsL_law_r26, w ∈ wsL_law := fun _ h => List.mem_append_left _ (List.mem_append_left _ (List.mem_append_left _ (List.mem_append_left _ (List.mem_append_left _ (List.mem_append_left _ (List.mem_append_left _ (List.mem_append_right _ (List.mem_append_right _ (List.mem_append_right _ (List.mem_append_right _ (List.mem_append_right _ (List.mem_append_right _ (List.mem_append_right _ (List.mem_append_right _ (List.mem_append_right _ (List.mem_append_right _ (List.mem_append_right _ (List.mem_append_right _ (List.mem_append_right _ (List.mem_append_right _ (List.mem_append_right _ (List.mem_append_right _ (List.mem_append_right _ (List.mem_append_right _ (List.mem_append_right _ (List.mem_append_right _ (List.mem_append_right _ (List.mem_append_right _ (List.mem_append_right _ (List.mem_append_right _ (List.mem_append_right _ (List.mem_append_left _ (h)))))))))))))))))))))))))))))))))
theorem inr_27 : ∀ w ∈ wsL_law_r27, w ∈ wsL_law := fun _ h => List.mem_append_left _ (List.mem_append_left _ (List.mem_append_left _ (List.mem_append_left _ (List.mem_append_left _ (List.mem_append_left _ (List.mem_append_left _ (List.mem_append_right _ (List.mem_append_right _ (List.mem_append_right _ (List.mem_append_right _ (List.mem_append_right _ (List.mem_append_right _ (List.mem_append_right _ (List.mem_append_right _ (List.mem_append_right _ (List.mem_append_right _ (List.mem_append_right _ (List.mem_append_right _ (List.mem_append_right _ (List.mem_append_right _ (List.mem_append_right _ (List.mem_append_right _ (List.mem_append_right _ (List.mem_append_right _ (List.mem_append_right _ (List.mem_append_right _ (List.mem_append_right _ (List.mem_append_right _ (List.mem_append_right _ (List.mem_append_right _ (List.mem_append_right _ (List.mem_append_right _ (List.mem_append_left _ (h))))))))))))))))))))))))))))))))))
theorem inr_28 : ∀ w ∈ wsL_law_r28, w ∈ wsL_law := fun _ h => List.mem_append_left _ (List.mem_append_left _ (List.mem_append_left _ (List.mem_append_left _ (List.mem_append_left _ (List.mem_append_left _ (List.mem_append_left _ (List.mem_append_right _ (List.mem_append_right _ (List.mem_append_right _ (List.mem_append_right _ (List.mem_append_right _ (List.mem_append_right _ (List.mem_append_right _ (List.mem_append_right _ (List.mem_append_right _ (List.mem_append_right _ (List.mem_append_right _ (List.mem_append_right _ (List.mem_append_right _ (List.mem_append_right _ (List.mem_append_right _ (List.mem_append_right _ (List.mem_append_right _ (List.mem_append_right _ (List.mem_append_right _ (List.mem_append_right _ (List.mem_append_right _ (List.mem_append_right _ (List.mem_append_right _ (List.mem_append_right _ (List.mem_append_right _ (List.mem_append_right _ (List.mem_append_right _ (List.mem_append_left _ (h)))))))))))))))))))))))))))))))))))
theorem inr_29 : ∀ w ∈ wsL_law_r29, w ∈ wsL_law := fun _ h => List.mem_append_left _ (List.mem_append_left _ (List.mem_append_left _ (List.mem_append_left _ (List.mem_append_left _ (List.mem_append_left _ (List.mem_append_left _ (List.mem_append_right _ (List.mem_append_right _ (List.mem_append_right _ (List.mem_append_right _ (List.mem_append_right _ (List.mem_append_right _ (List.mem_append_right _ (List.mem_append_right _ (List.mem_append_right _ (List.mem_append_right _ (List.mem_append_right _ (List.mem_append_right _ (List.mem_append_right _ (List.mem_append_right _ (List.mem_append_right _ (List.mem_append_right _ (List.mem_append_right _ (List.mem_append_right _ (List.mem_append_right _ (List.mem_append_right _ (List.mem_append_right _ (List.mem_append_right _ (List.mem_append_right _ (List.mem_append_right _ (List.mem_append_right _ (List.mem_append_right _ (List.mem_append_right _ (List.mem_append_right _ (List.mem_append_left _ (h))))))))))))))))))))))))))))))))))))
theorem inr_30 : ∀ w ∈ wsL_law_r30, w ∈ wsL_law := fun _ h => List.mem_append_left _ (List.mem_append_left _ (List.mem_append_left _ (List.mem_append_left _ (List.mem_append_left _ (List.mem_append_left _ (List.mem_append_left _ (List.mem_append_right _ (List.mem_append_right _ (List.mem_append_right _ (List.mem_append_right _ (List.mem_append_right _ (List.mem_append_right _ (List.mem_append_right _ (List.mem_append_right _ (List.mem_append_right _ (List.mem_append_right _ (List.mem_append_right _ (List.mem_append_right _ (List.mem_append_right _ (List.mem_append_right _ (List.mem_append_right _ (List.mem_append_right _ (List.mem_append_right _ (List.mem_append_right _ (List.mem_append_right _ (List.mem_append_right _ (List.mem_append_right _ (List.mem_append_right _ (List.mem_append_right _ (List.mem_append_right _ (List.mem_append_right _ (List.mem_append_right _ (List.mem_append_right _ (List.mem_append_right _ (List.mem_append_right _ (List.mem_append_left _ (h)))))))))))))))))))))))))))))))))))))
theorem inr_31 : ∀ w ∈ wsL_law_r31, w ∈ wsL_law := fun _ h => List.mem_append_left _ (List.mem_append_left _ (List.mem_append_left _ (List.mem_append_left _ (List.mem_append_left _ (List.mem_append_left _ (List.mem_append_left _ (List.mem_append_right _ (List.mem_append_right _ (List.mem_append_right _ (List.mem_append_right _ (List.mem_append_right _ (List.mem_append_right _ (List.mem_append_right _ (List.mem_append_right _ (List.mem_append_right _ (List.mem_append_right _ (List.mem_append_right _ (List.mem_append_right _ (List.mem_append_right _ (List.mem_append_right _ (List.mem_append_right _ (List.mem_append_right _ (List.mem_append_right _ (List.mem_append_right _ (List.mem_append_right _ (List.mem_append_right _ (List.mem_append_right _ (List.mem_append_right _ (List.mem_append_right _ (List.mem_append_right _ (List.mem_append_right _ (List.mem_append_right _ (List.mem_append_right _ (List.mem_append_right _ (List.mem_append_right _ (List.mem_append_right _ (List.mem_append_left _ (h))))))))))))))))))))))))))))))))))))))
theorem inr_32 : ∀ w ∈ wsL_law_r32, w ∈ wsL_law := fun _ h => List.mem_append_left _ (List.mem_append_left _ (List.mem_append_left _ (List.mem_append_left _ (List.mem_append_left _ (List.mem_append_left _ (List.mem_append_left _ (List.mem_append_right _ (List.mem_append_right _ (List.mem_append_right _ (List.mem_append_right _ (List.mem_append_right _ (List.mem_append_right _ (List.mem_append_right _ (List.mem_append_right _ (List.mem_append_right _ (List.mem_append_right _ (List.mem_append_right _ (List.mem_append_right _ (List.mem_append_right _ (List.mem_append_right _ (List.mem_append_right _ (List.mem_append_right _ (List.mem_append_right _ (List.mem_append_right _ (List.mem_append_right _ (List.mem_append_right _ (List.mem_append_right _ (List.mem_append_right _ (List.mem_append_right _ (List.mem_append_right _ (List.mem_append_right _ (List.mem_append_right _ (List.mem_append_right _ (List.mem_append_right _ (List.mem_append_right _ (List.mem_append_right _ (List.mem_append_right _ (List.mem_append_left _ (h)))))))))))))))))))))))))))))))))))))))
theorem inr_33 : ∀ w ∈ wsL_law_r33, w ∈ wsL_law := fun _ h => List.mem_append_left _ (List.mem_append_left _ (List.mem_append_left _ (List.mem_append_left _ (List.mem_append_left _ (List.mem_append_left _ (List.mem_append_left _ (List.mem_append_right _ (List.mem_append_right _ (List.mem_append_right _ (List.mem_append_right _ (List.mem_append_right _ (List.mem_append_right _ (List.mem_append_right _ (List.mem_append_right _ (List.mem_append_right _ (List.mem_append_right _ (List.mem_append_right _ (List.mem_append_right _ (List.mem_append_right _ (List.mem_append_right _ (List.mem_append_right _ (List.mem_append_right _ (List.mem_append_right _ (List.mem_append_right _ (List.mem_append_right _ (List.mem_append_right _ (List.mem_append_right _ (List.mem_append_right _ (List.mem_append_right _ (List.mem_append_right _ (List.mem_append_right _ (List.mem_append_right _ (List.mem_append_right _ (List.mem_append_right _ (List.mem_append_right _ (List.mem_append_right _ (List.mem_append_right _ (List.mem_append_right _ (List.mem_append_left _ (h))))))))))))))))))))))))))))))))))))))))
theorem inr_34 : ∀ w ∈ wsL_law_r34, w ∈ wsL_law := fun _ h => List.mem_append_left _ (List.mem_append_left _ (List.mem_append_left _ (List.mem_append_left _ (List.mem_append_left _ (List.mem_append_left _ (List.mem_append_left _ (List.mem_append_right _ (List.mem_append_right _ (List.mem_append_right _ (List.mem_append_right _ (List.mem_append_right _ (List.mem_append_right _ (List.mem_append_right _ (List.mem_append_right _ (List.mem_append_right _ (List.mem_append_right _ (List.mem_append_right _ (List.mem_append_right _ (List.mem_append_right _ (List.mem_append_right _ (List.mem_append_right _ (List.mem_append_right _ (List.mem_append_right _ (List.mem_append_right _ (List.mem_append_right _ (List.mem_append_right _ (List.mem_append_right _ (List.mem_append_right _ (List.mem_append_right _ (List.mem_append_right _ (List.mem_append_right _ (List.mem_append_right _ (List.mem_append_right _ (List.mem_append_right _ (List.mem_append_right _ (List.mem_append_right _ (List.mem_append_right _ (List.mem_append_right _ (List.mem_append_right _ (h))))))))))))))))))))))))))))))))))))))))
theorem mw_1_0 : Cond.classLink RL 7 RX4 ∈ wsL_law := inr_1 _ (List.mem_of_getElem? (i := 0) rfl)
theorem mw_1_1 : Cond.instantiable RX4 10 ∈ wsL_law := inr_1 _ (List.mem_of_getElem? (i := 1) rfl)
theorem mw_1_2 : Cond.initialized RX4 ∈ wsL_law := inr_1 _ (List.mem_of_getElem? (i := 2) rfl)
theorem mw_1_3 : Cond.classLink RL 10 RX5 ∈ wsL_law := inr_1 _ (List.mem_of_getElem? (i := 3) rfl)
theorem mw_1_4 : Cond.instantiable RX5 23 ∈ wsL_law := inr_1 _ (List.mem_of_getElem? (i := 4) rfl)
theorem mw_1_5 : Cond.initialized RX5 ∈ wsL_law := inr_1 _ (List.mem_of_getElem? (i := 5) rfl)
theorem mw_1_6 : Cond.methodLink RL 9 yX4_init ∈ wsL_law := inr_1 _ (List.mem_of_getElem? (i := 6) rfl)
theorem mw_1_7 : Cond.instanceMethod yX4_init ∈ wsL_law := inr_1 _ (List.mem_of_getElem? (i := 7) rfl)
theorem mw_1_8 : Cond.code yX4_init cX4_init 2 none ∈ wsL_law := inr_1 _ (List.mem_of_getElem? (i := 8) rfl)
theorem mw_1_9 : Cond.methodLink RX4 1 objectInit ∈ wsL_law := inr_1 _ (List.mem_of_getElem? (i := 9) rfl)
theorem mw_1_10 : Cond.instanceMethod objectInit ∈ wsL_law := inr_1 _ (List.mem_of_getElem? (i := 10) rfl)
theorem mw_1_11 : Cond.code objectInit ⟨#[0xb1]⟩ 1 none ∈ wsL_law := inr_1 _ (List.mem_of_getElem? (i := 11) rfl)
theorem mw_1_12 : Cond.classLink RX4 7 RX3 ∈ wsL_law := inr_1 _ (List.mem_of_getElem? (i := 12) rfl)
theorem mw_1_13 : Cond.instantiable RX3 1 ∈ wsL_law := inr_1 _ (List.mem_of_getElem? (i := 13) rfl)
theorem mw_1_14 : Cond.initialized RX3 ∈ wsL_law := inr_1 _ (List.mem_of_getElem? (i := 14) rfl)
theorem mw_1_15 : Cond.fieldLink RX4 10 "FieldCounts" "ring" "LFieldCounts$Polynomials;" ∈ wsL_law := inr_1 _ (List.mem_of_getElem? (i := 15) rfl)
theorem mw_1_16 : Cond.classLink RX4 16 RX2 ∈ wsL_law := inr_1 _ (List.mem_of_getElem? (i := 16) rfl)
theorem mw_1_17 : Cond.fieldLink RX4 18 "FieldCounts" "fields" "[LFieldCounts$Field;" ∈ wsL_law := inr_1 _ (List.mem_of_getElem? (i := 17) rfl)
theorem mw_1_18 : Cond.classLink RX4 22 RX1 ∈ wsL_law := inr_1 _ (List.mem_of_getElem? (i := 18) rfl)
theorem mw_1_19 : Cond.fieldLink RX4 24 "FieldCounts" "curves" "[LFieldCounts$Curve;" ∈ wsL_law := inr_1 _ (List.mem_of_getElem? (i := 19) rfl)
theorem mw_1_20 : Cond.arrayClass .int ∈ wsL_law := inr_1 _ (List.mem_of_getElem? (i := 20) rfl)
theorem mw_1_21 : Cond.fieldLink RX4 28 "FieldCounts" "tally" "[I" ∈ wsL_law := inr_1 _ (List.mem_of_getElem? (i := 21) rfl)
theorem mw_1_22 : Cond.arrayClass .long ∈ wsL_law := inr_1 _ (List.mem_of_getElem? (i := 22) rfl)
theorem mw_1_23 : Cond.fieldLink RX4 32 "FieldCounts" "powerSums" "[J" ∈ wsL_law := inr_1 _ (List.mem_of_getElem? (i := 23) rfl)
theorem mw_2_0 : Cond.fieldLink RX4 36 "FieldCounts" "knot" "I" ∈ wsL_law := inr_2 _ (List.mem_of_getElem? (i := 0) rfl)
theorem mw_2_1 : Cond.instantiable RX2 8 ∈ wsL_law := inr_2 _ (List.mem_of_getElem? (i := 1) rfl)
theorem mw_2_2 : Cond.initialized RX2 ∈ wsL_law := inr_2 _ (List.mem_of_getElem? (i := 2) rfl)
theorem mw_2_3 : Cond.instantiable RX1 10 ∈ wsL_law := inr_2 _ (List.mem_of_getElem? (i := 3) rfl)
theorem mw_2_4 : Cond.initialized RX1 ∈ wsL_law := inr_2 _ (List.mem_of_getElem? (i := 4) rfl)
theorem mw_2_5 : Cond.instanceMethod yX3_init ∈ wsL_law := inr_2 _ (List.mem_of_getElem? (i := 5) rfl)
theorem mw_2_6 : Cond.code yX3_init cX3_init 1 none ∈ wsL_law := inr_2 _ (List.mem_of_getElem? (i := 6) rfl)
theorem mw_2_7 : Cond.methodLink RX3 3 objectInit ∈ wsL_law := inr_2 _ (List.mem_of_getElem? (i := 7) rfl)
theorem mw_2_8 : Cond.fieldLink RX3 9 "FieldCounts$Polynomials" "p" "I" ∈ wsL_law := inr_2 _ (List.mem_of_getElem? (i := 8) rfl)
theorem mw_2_9 : Cond.methodLink RX4 40 yX2_init ∈ wsL_law := inr_2 _ (List.mem_of_getElem? (i := 9) rfl)
theorem mw_2_10 : Cond.instanceMethod yX2_init ∈ wsL_law := inr_2 _ (List.mem_of_getElem? (i := 10) rfl)
theorem mw_2_11 : Cond.code yX2_init cX2_init 3 none ∈ wsL_law := inr_2 _ (List.mem_of_getElem? (i := 11) rfl)
theorem mw_2_12 : Cond.methodLink RX2 3 objectInit ∈ wsL_law := inr_2 _ (List.mem_of_getElem? (i := 12) rfl)
theorem mw_2_13 : Cond.fieldLink RX2 9 "FieldCounts$Field" "powers" "[I" ∈ wsL_law := inr_2 _ (List.mem_of_getElem? (i := 13) rfl)
theorem mw_2_14 : Cond.fieldLink RX2 15 "FieldCounts$Field" "exponents" "[I" ∈ wsL_law := inr_2 _ (List.mem_of_getElem? (i := 14) rfl)
theorem mw_2_15 : Cond.fieldLink RX2 18 "FieldCounts$Field" "madeFor" "I" ∈ wsL_law := inr_2 _ (List.mem_of_getElem? (i := 15) rfl)
theorem mw_2_16 : Cond.fieldLink RX2 22 "FieldCounts$Field" "size" "I" ∈ wsL_law := inr_2 _ (List.mem_of_getElem? (i := 16) rfl)
theorem mw_2_17 : Cond.fieldLink RX2 25 "FieldCounts$Field" "units" "I" ∈ wsL_law := inr_2 _ (List.mem_of_getElem? (i := 17) rfl)
theorem mw_2_18 : Cond.fieldLink RX2 28 "FieldCounts$Field" "divisor" "I" ∈ wsL_law := inr_2 _ (List.mem_of_getElem? (i := 18) rfl)
theorem mw_2_19 : Cond.fieldLink RX2 31 "FieldCounts$Field" "ring" "LFieldCounts$Polynomials;" ∈ wsL_law := inr_2 _ (List.mem_of_getElem? (i := 19) rfl)
theorem mw_2_20 : Cond.fieldLink RX2 35 "FieldCounts$Field" "n" "I" ∈ wsL_law := inr_2 _ (List.mem_of_getElem? (i := 20) rfl)
theorem mw_2_21 : Cond.methodLink RX4 43 yX1_init ∈ wsL_law := inr_2 _ (List.mem_of_getElem? (i := 21) rfl)
theorem mw_2_22 : Cond.instanceMethod yX1_init ∈ wsL_law := inr_2 _ (List.mem_of_getElem? (i := 22) rfl)
theorem mw_2_23 : Cond.code yX1_init cX1_init 2 none ∈ wsL_law := inr_2 _ (List.mem_of_getElem? (i := 23) rfl)
theorem mw_3_0 : Cond.methodLink RX1 3 objectInit ∈ wsL_law := inr_3 _ (List.mem_of_getElem? (i := 0) rfl)
theorem mw_3_1 : Cond.fieldLink RX1 9 "FieldCounts$Curve" "share" "[I" ∈ wsL_law := inr_3 _ (List.mem_of_getElem? (i := 1) rfl)
theorem mw_3_2 : Cond.fieldLink RX1 15 "FieldCounts$Curve" "ring" "LFieldCounts$Polynomials;" ∈ wsL_law := inr_3 _ (List.mem_of_getElem? (i := 2) rfl)
theorem mw_3_3 : Cond.classLink RX1 19 RX0 ∈ wsL_law := inr_3 _ (List.mem_of_getElem? (i := 3) rfl)
theorem mw_3_4 : Cond.instantiable RX0 5 ∈ wsL_law := inr_3 _ (List.mem_of_getElem? (i := 4) rfl)
theorem mw_3_5 : Cond.initialized RX0 ∈ wsL_law := inr_3 _ (List.mem_of_getElem? (i := 5) rfl)
theorem mw_3_6 : Cond.fieldLink RX1 24 "FieldCounts$Curve" "list" "LFieldCounts$ClassList;" ∈ wsL_law := inr_3 _ (List.mem_of_getElem? (i := 6) rfl)
theorem mw_3_7 : Cond.methodLink RX1 21 yX0_init ∈ wsL_law := inr_3 _ (List.mem_of_getElem? (i := 7) rfl)
theorem mw_3_8 : Cond.instanceMethod yX0_init ∈ wsL_law := inr_3 _ (List.mem_of_getElem? (i := 8) rfl)
theorem mw_3_9 : Cond.code yX0_init cX0_init 2 none ∈ wsL_law := inr_3 _ (List.mem_of_getElem? (i := 9) rfl)
theorem mw_3_10 : Cond.methodLink RX0 3 objectInit ∈ wsL_law := inr_3 _ (List.mem_of_getElem? (i := 10) rfl)
theorem mw_3_11 : Cond.fieldLink RX0 9 "FieldCounts$ClassList" "keys" "[I" ∈ wsL_law := inr_3 _ (List.mem_of_getElem? (i := 11) rfl)
theorem mw_3_12 : Cond.fieldLink RX0 15 "FieldCounts$ClassList" "genus" "I" ∈ wsL_law := inr_3 _ (List.mem_of_getElem? (i := 12) rfl)
theorem mw_3_13 : Cond.fieldLink RX0 19 "FieldCounts$ClassList" "ring" "LFieldCounts$Polynomials;" ∈ wsL_law := inr_3 _ (List.mem_of_getElem? (i := 13) rfl)
theorem mw_3_14 : Cond.methodLink RX4 46 yX4_start ∈ wsL_law := inr_3 _ (List.mem_of_getElem? (i := 14) rfl)
theorem mw_3_15 : Cond.instanceMethod yX4_start ∈ wsL_law := inr_3 _ (List.mem_of_getElem? (i := 15) rfl)
theorem mw_3_16 : Cond.selects RX4 yX4_start yX4_start ∈ wsL_law := inr_3 _ (List.mem_of_getElem? (i := 16) rfl)
theorem mw_3_17 : Cond.code yX4_start cX4_start 3 none ∈ wsL_law := inr_3 _ (List.mem_of_getElem? (i := 17) rfl)
theorem mw_3_18 : Cond.fieldLink RX4 120 "FieldCounts" "curveCount" "I" ∈ wsL_law := inr_3 _ (List.mem_of_getElem? (i := 18) rfl)
theorem mw_3_19 : Cond.fieldLink RX4 53 "FieldCounts" "fieldCount" "I" ∈ wsL_law := inr_3 _ (List.mem_of_getElem? (i := 19) rfl)
theorem mw_3_20 : Cond.fieldLink RX4 123 "FieldCounts" "leastNonSquare" "I" ∈ wsL_law := inr_3 _ (List.mem_of_getElem? (i := 20) rfl)
theorem mw_3_21 : Cond.methodLink RX4 226 yX3_begin ∈ wsL_law := inr_3 _ (List.mem_of_getElem? (i := 21) rfl)
theorem mw_3_22 : Cond.instanceMethod yX3_begin ∈ wsL_law := inr_3 _ (List.mem_of_getElem? (i := 22) rfl)
theorem mw_3_23 : Cond.selects RX3 yX3_begin yX3_begin ∈ wsL_law := inr_3 _ (List.mem_of_getElem? (i := 23) rfl)
theorem mw_4_0 : Cond.code yX3_begin cX3_begin 2 none ∈ wsL_law := inr_4 _ (List.mem_of_getElem? (i := 0) rfl)
theorem mw_4_1 : Cond.methodLink RX3 15 Lib.Math.max.name ∈ wsL_law := inr_4 _ (List.mem_of_getElem? (i := 1) rfl)
theorem mw_4_2 : Cond.static Lib.Math.max.name ∈ wsL_law := inr_4 _ (List.mem_of_getElem? (i := 2) rfl)
theorem mw_4_3 : Cond.initialized "java/lang/Math" ∈ wsL_law := inr_4 _ (List.mem_of_getElem? (i := 3) rfl)
theorem mw_4_4 : Cond.code Lib.Math.max.name Lib.Math.max.code 2 (some .int) ∈ wsL_law := inr_4 _ (List.mem_of_getElem? (i := 4) rfl)
theorem mw_4_5 : Cond.methodLink RX4 177 yX3_place ∈ wsL_law := inr_4 _ (List.mem_of_getElem? (i := 5) rfl)
theorem mw_4_6 : Cond.instanceMethod yX3_place ∈ wsL_law := inr_4 _ (List.mem_of_getElem? (i := 6) rfl)
theorem mw_4_7 : Cond.selects RX3 yX3_place yX3_place ∈ wsL_law := inr_4 _ (List.mem_of_getElem? (i := 7) rfl)
theorem mw_4_8 : Cond.code yX3_place cX3_place 4 (some .int) ∈ wsL_law := inr_4 _ (List.mem_of_getElem? (i := 8) rfl)
theorem mw_4_9 : Cond.methodLink RX4 56 yX4_fieldAt ∈ wsL_law := inr_4 _ (List.mem_of_getElem? (i := 9) rfl)
theorem mw_4_10 : Cond.instanceMethod yX4_fieldAt ∈ wsL_law := inr_4 _ (List.mem_of_getElem? (i := 10) rfl)
theorem mw_4_11 : Cond.selects RX4 yX4_fieldAt yX4_fieldAt ∈ wsL_law := inr_4 _ (List.mem_of_getElem? (i := 11) rfl)
theorem mw_4_12 : Cond.code yX4_fieldAt cX4_fieldAt 3 (some (.object "FieldCounts$Field")) ∈ wsL_law := inr_4 _ (List.mem_of_getElem? (i := 12) rfl)
theorem mw_4_13 : Cond.methodLink RX4 228 yX2_fit ∈ wsL_law := inr_4 _ (List.mem_of_getElem? (i := 13) rfl)
theorem mw_4_14 : Cond.instanceMethod yX2_fit ∈ wsL_law := inr_4 _ (List.mem_of_getElem? (i := 14) rfl)
theorem mw_4_15 : Cond.selects RX2 yX2_fit yX2_fit ∈ wsL_law := inr_4 _ (List.mem_of_getElem? (i := 15) rfl)
theorem mw_4_16 : Cond.code yX2_fit cX2_fit 3 none ∈ wsL_law := inr_4 _ (List.mem_of_getElem? (i := 16) rfl)
theorem mw_4_17 : Cond.methodLink RX2 47 Lib.Math.max.name ∈ wsL_law := inr_4 _ (List.mem_of_getElem? (i := 17) rfl)
theorem mw_4_18 : Cond.methodLink RX2 43 yX3_place ∈ wsL_law := inr_4 _ (List.mem_of_getElem? (i := 18) rfl)
theorem mw_4_19 : Cond.methodLink RX2 53 yX3_isProduct ∈ wsL_law := inr_4 _ (List.mem_of_getElem? (i := 19) rfl)
theorem mw_4_20 : Cond.instanceMethod yX3_isProduct ∈ wsL_law := inr_4 _ (List.mem_of_getElem? (i := 20) rfl)
theorem mw_4_21 : Cond.selects RX3 yX3_isProduct yX3_isProduct ∈ wsL_law := inr_4 _ (List.mem_of_getElem? (i := 21) rfl)
theorem mw_4_22 : Cond.code yX3_isProduct cX3_isProduct 6 (some .boolean) ∈ wsL_law := inr_4 _ (List.mem_of_getElem? (i := 22) rfl)
theorem mw_4_23 : Cond.methodLink RX3 40 yX3_place ∈ wsL_law := inr_4 _ (List.mem_of_getElem? (i := 23) rfl)
theorem mw_5_0 : Cond.methodLink RX3 46 yX3_rest ∈ wsL_law := inr_5 _ (List.mem_of_getElem? (i := 0) rfl)
theorem mw_5_1 : Cond.instanceMethod yX3_rest ∈ wsL_law := inr_5 _ (List.mem_of_getElem? (i := 1) rfl)
theorem mw_5_2 : Cond.selects RX3 yX3_rest yX3_rest ∈ wsL_law := inr_5 _ (List.mem_of_getElem? (i := 2) rfl)
theorem mw_5_3 : Cond.code yX3_rest cX3_rest 8 (some .int) ∈ wsL_law := inr_5 _ (List.mem_of_getElem? (i := 3) rfl)
theorem mw_5_4 : Cond.methodLink RX3 27 yX3_degree ∈ wsL_law := inr_5 _ (List.mem_of_getElem? (i := 4) rfl)
theorem mw_5_5 : Cond.instanceMethod yX3_degree ∈ wsL_law := inr_5 _ (List.mem_of_getElem? (i := 5) rfl)
theorem mw_5_6 : Cond.selects RX3 yX3_degree yX3_degree ∈ wsL_law := inr_5 _ (List.mem_of_getElem? (i := 6) rfl)
theorem mw_5_7 : Cond.code yX3_degree cX3_degree 4 (some .int) ∈ wsL_law := inr_5 _ (List.mem_of_getElem? (i := 7) rfl)
theorem mw_5_8 : Cond.methodLink RX3 31 yX3_lead ∈ wsL_law := inr_5 _ (List.mem_of_getElem? (i := 8) rfl)
theorem mw_5_9 : Cond.instanceMethod yX3_lead ∈ wsL_law := inr_5 _ (List.mem_of_getElem? (i := 9) rfl)
theorem mw_5_10 : Cond.selects RX3 yX3_lead yX3_lead ∈ wsL_law := inr_5 _ (List.mem_of_getElem? (i := 10) rfl)
theorem mw_5_11 : Cond.code yX3_lead cX3_lead 4 (some .int) ∈ wsL_law := inr_5 _ (List.mem_of_getElem? (i := 11) rfl)
theorem mw_5_12 : Cond.methodLink RX3 34 yX3_inverse ∈ wsL_law := inr_5 _ (List.mem_of_getElem? (i := 12) rfl)
theorem mw_5_13 : Cond.instanceMethod yX3_inverse ∈ wsL_law := inr_5 _ (List.mem_of_getElem? (i := 13) rfl)
theorem mw_5_14 : Cond.selects RX3 yX3_inverse yX3_inverse ∈ wsL_law := inr_5 _ (List.mem_of_getElem? (i := 14) rfl)
theorem mw_5_15 : Cond.code yX3_inverse cX3_inverse 3 (some .int) ∈ wsL_law := inr_5 _ (List.mem_of_getElem? (i := 15) rfl)
theorem mw_5_16 : Cond.methodLink RX3 37 yX3_coefficient ∈ wsL_law := inr_5 _ (List.mem_of_getElem? (i := 16) rfl)
theorem mw_5_17 : Cond.instanceMethod yX3_coefficient ∈ wsL_law := inr_5 _ (List.mem_of_getElem? (i := 17) rfl)
theorem mw_5_18 : Cond.selects RX3 yX3_coefficient yX3_coefficient ∈ wsL_law := inr_5 _ (List.mem_of_getElem? (i := 18) rfl)
theorem mw_5_19 : Cond.code yX3_coefficient cX3_coefficient 5 (some .int) ∈ wsL_law := inr_5 _ (List.mem_of_getElem? (i := 19) rfl)
theorem mw_5_20 : Cond.methodLink RX3 21 yX3_scaled ∈ wsL_law := inr_5 _ (List.mem_of_getElem? (i := 20) rfl)
theorem mw_5_21 : Cond.instanceMethod yX3_scaled ∈ wsL_law := inr_5 _ (List.mem_of_getElem? (i := 21) rfl)
theorem mw_5_22 : Cond.selects RX3 yX3_scaled yX3_scaled ∈ wsL_law := inr_5 _ (List.mem_of_getElem? (i := 22) rfl)
theorem mw_5_23 : Cond.code yX3_scaled cX3_scaled 7 (some .int) ∈ wsL_law := inr_5 _ (List.mem_of_getElem? (i := 23) rfl)
theorem mw_6_0 : Cond.methodLink RX3 43 yX3_difference ∈ wsL_law := inr_6 _ (List.mem_of_getElem? (i := 0) rfl)
theorem mw_6_1 : Cond.instanceMethod yX3_difference ∈ wsL_law := inr_6 _ (List.mem_of_getElem? (i := 1) rfl)
theorem mw_6_2 : Cond.selects RX3 yX3_difference yX3_difference ∈ wsL_law := inr_6 _ (List.mem_of_getElem? (i := 2) rfl)
theorem mw_6_3 : Cond.code yX3_difference cX3_difference 8 (some .int) ∈ wsL_law := inr_6 _ (List.mem_of_getElem? (i := 3) rfl)
theorem mw_6_4 : Cond.methodLink RX2 57 yX2_walk ∈ wsL_law := inr_6 _ (List.mem_of_getElem? (i := 4) rfl)
theorem mw_6_5 : Cond.instanceMethod yX2_walk ∈ wsL_law := inr_6 _ (List.mem_of_getElem? (i := 5) rfl)
theorem mw_6_6 : Cond.selects RX2 yX2_walk yX2_walk ∈ wsL_law := inr_6 _ (List.mem_of_getElem? (i := 6) rfl)
theorem mw_6_7 : Cond.code yX2_walk cX2_walk 4 (some .int) ∈ wsL_law := inr_6 _ (List.mem_of_getElem? (i := 7) rfl)
theorem mw_6_8 : Cond.static yX4_put ∈ wsL_law := inr_6 _ (List.mem_of_getElem? (i := 8) rfl)
theorem mw_6_9 : Cond.code yX4_put cX4_put 3 none ∈ wsL_law := inr_6 _ (List.mem_of_getElem? (i := 9) rfl)
theorem mw_6_10 : Cond.methodLink RX2 68 yX3_product ∈ wsL_law := inr_6 _ (List.mem_of_getElem? (i := 10) rfl)
theorem mw_6_11 : Cond.instanceMethod yX3_product ∈ wsL_law := inr_6 _ (List.mem_of_getElem? (i := 11) rfl)
theorem mw_6_12 : Cond.selects RX3 yX3_product yX3_product ∈ wsL_law := inr_6 _ (List.mem_of_getElem? (i := 12) rfl)
theorem mw_6_13 : Cond.code yX3_product cX3_product 7 (some .int) ∈ wsL_law := inr_6 _ (List.mem_of_getElem? (i := 13) rfl)
theorem mw_6_14 : Cond.methodLink RX3 24 yX3_sum ∈ wsL_law := inr_6 _ (List.mem_of_getElem? (i := 14) rfl)
theorem mw_6_15 : Cond.instanceMethod yX3_sum ∈ wsL_law := inr_6 _ (List.mem_of_getElem? (i := 15) rfl)
theorem mw_6_16 : Cond.selects RX3 yX3_sum yX3_sum ∈ wsL_law := inr_6 _ (List.mem_of_getElem? (i := 16) rfl)
theorem mw_6_17 : Cond.code yX3_sum cX3_sum 8 (some .int) ∈ wsL_law := inr_6 _ (List.mem_of_getElem? (i := 17) rfl)
theorem mw_6_18 : Cond.methodLink RX2 71 yX3_rest ∈ wsL_law := inr_6 _ (List.mem_of_getElem? (i := 18) rfl)
theorem mw_6_19 : Cond.static yX4_at ∈ wsL_law := inr_6 _ (List.mem_of_getElem? (i := 19) rfl)
theorem mw_6_20 : Cond.code yX4_at cX4_at 2 (some .int) ∈ wsL_law := inr_6 _ (List.mem_of_getElem? (i := 20) rfl)
theorem mw_6_21 : Cond.methodLink RX4 84 yX2_squareSign ∈ wsL_law := inr_6 _ (List.mem_of_getElem? (i := 21) rfl)
theorem mw_6_22 : Cond.instanceMethod yX2_squareSign ∈ wsL_law := inr_6 _ (List.mem_of_getElem? (i := 22) rfl)
theorem mw_6_23 : Cond.selects RX2 yX2_squareSign yX2_squareSign ∈ wsL_law := inr_6 _ (List.mem_of_getElem? (i := 23) rfl)
theorem mw_7_0 : Cond.code yX2_squareSign cX2_squareSign 2 (some .int) ∈ wsL_law := inr_7 _ (List.mem_of_getElem? (i := 0) rfl)
theorem mw_7_1 : Cond.methodLink RL 12 yX5_init ∈ wsL_law := inr_7 _ (List.mem_of_getElem? (i := 1) rfl)
theorem mw_7_2 : Cond.instanceMethod yX5_init ∈ wsL_law := inr_7 _ (List.mem_of_getElem? (i := 2) rfl)
theorem mw_7_3 : Cond.code yX5_init cX5_init 1 none ∈ wsL_law := inr_7 _ (List.mem_of_getElem? (i := 3) rfl)
theorem mw_7_4 : Cond.methodLink RX5 1 objectInit ∈ wsL_law := inr_7 _ (List.mem_of_getElem? (i := 4) rfl)
theorem mw_7_5 : Cond.fieldLink RX5 7 "FieldCountsModel" "p" "I" ∈ wsL_law := inr_7 _ (List.mem_of_getElem? (i := 5) rfl)
theorem mw_7_6 : Cond.fieldLink RX5 13 "FieldCountsModel" "fields" "I" ∈ wsL_law := inr_7 _ (List.mem_of_getElem? (i := 6) rfl)
theorem mw_7_7 : Cond.fieldLink RX5 16 "FieldCountsModel" "sizes" "[I" ∈ wsL_law := inr_7 _ (List.mem_of_getElem? (i := 7) rfl)
theorem mw_7_8 : Cond.fieldLink RX5 20 "FieldCountsModel" "moduli" "[I" ∈ wsL_law := inr_7 _ (List.mem_of_getElem? (i := 8) rfl)
theorem mw_7_9 : Cond.fieldLink RX5 23 "FieldCountsModel" "kind" "[I" ∈ wsL_law := inr_7 _ (List.mem_of_getElem? (i := 9) rfl)
theorem mw_7_10 : Cond.fieldLink RX5 26 "FieldCountsModel" "told" "[I" ∈ wsL_law := inr_7 _ (List.mem_of_getElem? (i := 10) rfl)
theorem mw_7_11 : Cond.fieldLink RX5 29 "FieldCountsModel" "moved" "[I" ∈ wsL_law := inr_7 _ (List.mem_of_getElem? (i := 11) rfl)
theorem mw_7_12 : Cond.fieldLink RX5 32 "FieldCountsModel" "own" "[I" ∈ wsL_law := inr_7 _ (List.mem_of_getElem? (i := 12) rfl)
theorem mw_7_13 : Cond.fieldLink RX5 35 "FieldCountsModel" "knot" "I" ∈ wsL_law := inr_7 _ (List.mem_of_getElem? (i := 13) rfl)
theorem mw_7_14 : Cond.fieldLink RX5 38 "FieldCountsModel" "w" "[I" ∈ wsL_law := inr_7 _ (List.mem_of_getElem? (i := 14) rfl)
theorem mw_7_15 : Cond.fieldLink RX5 41 "FieldCountsModel" "signs" "[I" ∈ wsL_law := inr_7 _ (List.mem_of_getElem? (i := 15) rfl)
theorem mw_7_16 : Cond.fieldLink RX5 44 "FieldCountsModel" "listed" "I" ∈ wsL_law := inr_7 _ (List.mem_of_getElem? (i := 16) rfl)
theorem mw_7_17 : Cond.fieldLink RX5 47 "FieldCountsModel" "first" "[I" ∈ wsL_law := inr_7 _ (List.mem_of_getElem? (i := 17) rfl)
theorem mw_7_18 : Cond.fieldLink RX5 50 "FieldCountsModel" "second" "[I" ∈ wsL_law := inr_7 _ (List.mem_of_getElem? (i := 18) rfl)
theorem mw_7_19 : Cond.fieldLink RX5 53 "FieldCountsModel" "forms" "[I" ∈ wsL_law := inr_7 _ (List.mem_of_getElem? (i := 19) rfl)
theorem mw_7_20 : Cond.fieldLink RX5 56 "FieldCountsModel" "shares" "[I" ∈ wsL_law := inr_7 _ (List.mem_of_getElem? (i := 20) rfl)
theorem mw_7_21 : Cond.fieldLink RX5 59 "FieldCountsModel" "powers" "[J" ∈ wsL_law := inr_7 _ (List.mem_of_getElem? (i := 21) rfl)
theorem mw_7_22 : Cond.methodLink RX5 63 yX5_begins ∈ wsL_law := inr_7 _ (List.mem_of_getElem? (i := 22) rfl)
theorem mw_7_23 : Cond.instanceMethod yX5_begins ∈ wsL_law := inr_7 _ (List.mem_of_getElem? (i := 23) rfl)
theorem mw_8_0 : Cond.selects RX5 yX5_begins yX5_begins ∈ wsL_law := inr_8 _ (List.mem_of_getElem? (i := 0) rfl)
theorem mw_8_1 : Cond.code yX5_begins cX5_begins 3 none ∈ wsL_law := inr_8 _ (List.mem_of_getElem? (i := 1) rfl)
theorem mw_8_2 : Cond.fieldLink RX5 108 "FieldCountsModel" "curves" "I" ∈ wsL_law := inr_8 _ (List.mem_of_getElem? (i := 2) rfl)
theorem mw_8_3 : Cond.fieldLink RX5 111 "FieldCountsModel" "signsOf" "I" ∈ wsL_law := inr_8 _ (List.mem_of_getElem? (i := 3) rfl)
theorem mw_8_4 : Cond.fieldLink RX5 117 "FieldCountsModel" "d" "I" ∈ wsL_law := inr_8 _ (List.mem_of_getElem? (i := 4) rfl)
theorem mw_8_5 : Cond.methodLink RX5 104 yX5_least ∈ wsL_law := inr_8 _ (List.mem_of_getElem? (i := 5) rfl)
theorem mw_8_6 : Cond.instanceMethod yX5_least ∈ wsL_law := inr_8 _ (List.mem_of_getElem? (i := 6) rfl)
theorem mw_8_7 : Cond.selects RX5 yX5_least yX5_least ∈ wsL_law := inr_8 _ (List.mem_of_getElem? (i := 7) rfl)
theorem mw_8_8 : Cond.code yX5_least cX5_least 8 (some .int) ∈ wsL_law := inr_8 _ (List.mem_of_getElem? (i := 8) rfl)
theorem mw_8_9 : Cond.methodLink RX5 87 yX5_load ∈ wsL_law := inr_8 _ (List.mem_of_getElem? (i := 9) rfl)
theorem mw_8_10 : Cond.instanceMethod yX5_load ∈ wsL_law := inr_8 _ (List.mem_of_getElem? (i := 10) rfl)
theorem mw_8_11 : Cond.selects RX5 yX5_load yX5_load ∈ wsL_law := inr_8 _ (List.mem_of_getElem? (i := 11) rfl)
theorem mw_8_12 : Cond.code yX5_load cX5_load 5 none ∈ wsL_law := inr_8 _ (List.mem_of_getElem? (i := 12) rfl)
theorem mw_8_13 : Cond.methodLink RX5 90 yX5_divide ∈ wsL_law := inr_8 _ (List.mem_of_getElem? (i := 13) rfl)
theorem mw_8_14 : Cond.instanceMethod yX5_divide ∈ wsL_law := inr_8 _ (List.mem_of_getElem? (i := 14) rfl)
theorem mw_8_15 : Cond.selects RX5 yX5_divide yX5_divide ∈ wsL_law := inr_8 _ (List.mem_of_getElem? (i := 15) rfl)
theorem mw_8_16 : Cond.code yX5_divide cX5_divide 10 none ∈ wsL_law := inr_8 _ (List.mem_of_getElem? (i := 16) rfl)
theorem mw_8_17 : Cond.methodLink RX5 74 yX5_clear ∈ wsL_law := inr_8 _ (List.mem_of_getElem? (i := 17) rfl)
theorem mw_8_18 : Cond.instanceMethod yX5_clear ∈ wsL_law := inr_8 _ (List.mem_of_getElem? (i := 18) rfl)
theorem mw_8_19 : Cond.selects RX5 yX5_clear yX5_clear ∈ wsL_law := inr_8 _ (List.mem_of_getElem? (i := 19) rfl)
theorem mw_8_20 : Cond.code yX5_clear cX5_clear 3 none ∈ wsL_law := inr_8 _ (List.mem_of_getElem? (i := 20) rfl)
theorem mw_8_21 : Cond.methodLink RX5 80 yX5_copy ∈ wsL_law := inr_8 _ (List.mem_of_getElem? (i := 21) rfl)
theorem mw_8_22 : Cond.instanceMethod yX5_copy ∈ wsL_law := inr_8 _ (List.mem_of_getElem? (i := 22) rfl)
theorem mw_8_23 : Cond.selects RX5 yX5_copy yX5_copy ∈ wsL_law := inr_8 _ (List.mem_of_getElem? (i := 23) rfl)
theorem mw_9_0 : Cond.code yX5_copy cX5_copy 4 none ∈ wsL_law := inr_9 _ (List.mem_of_getElem? (i := 0) rfl)
theorem mw_9_1 : Cond.methodLink RX5 77 yX5_degree ∈ wsL_law := inr_9 _ (List.mem_of_getElem? (i := 1) rfl)
theorem mw_9_2 : Cond.instanceMethod yX5_degree ∈ wsL_law := inr_9 _ (List.mem_of_getElem? (i := 2) rfl)
theorem mw_9_3 : Cond.selects RX5 yX5_degree yX5_degree ∈ wsL_law := inr_9 _ (List.mem_of_getElem? (i := 3) rfl)
theorem mw_9_4 : Cond.code yX5_degree cX5_degree 3 (some .int) ∈ wsL_law := inr_9 _ (List.mem_of_getElem? (i := 4) rfl)
theorem mw_9_5 : Cond.methodLink RX5 84 yX5_inverse ∈ wsL_law := inr_9 _ (List.mem_of_getElem? (i := 5) rfl)
theorem mw_9_6 : Cond.instanceMethod yX5_inverse ∈ wsL_law := inr_9 _ (List.mem_of_getElem? (i := 6) rfl)
theorem mw_9_7 : Cond.selects RX5 yX5_inverse yX5_inverse ∈ wsL_law := inr_9 _ (List.mem_of_getElem? (i := 7) rfl)
theorem mw_9_8 : Cond.code yX5_inverse cX5_inverse 3 (some .int) ∈ wsL_law := inr_9 _ (List.mem_of_getElem? (i := 8) rfl)
theorem mw_9_9 : Cond.methodLink RX5 70 yX5_left ∈ wsL_law := inr_9 _ (List.mem_of_getElem? (i := 9) rfl)
theorem mw_9_10 : Cond.instanceMethod yX5_left ∈ wsL_law := inr_9 _ (List.mem_of_getElem? (i := 10) rfl)
theorem mw_9_11 : Cond.selects RX5 yX5_left yX5_left ∈ wsL_law := inr_9 _ (List.mem_of_getElem? (i := 11) rfl)
theorem mw_9_12 : Cond.code yX5_left cX5_left 3 (some .int) ∈ wsL_law := inr_9 _ (List.mem_of_getElem? (i := 12) rfl)
theorem mw_9_13 : Cond.methodLink RX5 114 yX5_needSigns ∈ wsL_law := inr_9 _ (List.mem_of_getElem? (i := 13) rfl)
theorem mw_9_14 : Cond.instanceMethod yX5_needSigns ∈ wsL_law := inr_9 _ (List.mem_of_getElem? (i := 14) rfl)
theorem mw_9_15 : Cond.selects RX5 yX5_needSigns yX5_needSigns ∈ wsL_law := inr_9 _ (List.mem_of_getElem? (i := 15) rfl)
theorem mw_9_16 : Cond.code yX5_needSigns cX5_needSigns 3 none ∈ wsL_law := inr_9 _ (List.mem_of_getElem? (i := 16) rfl)
theorem mw_9_17 : Cond.methodLink RX5 123 yX5_product ∈ wsL_law := inr_9 _ (List.mem_of_getElem? (i := 17) rfl)
theorem mw_9_18 : Cond.instanceMethod yX5_product ∈ wsL_law := inr_9 _ (List.mem_of_getElem? (i := 18) rfl)
theorem mw_9_19 : Cond.selects RX5 yX5_product yX5_product ∈ wsL_law := inr_9 _ (List.mem_of_getElem? (i := 19) rfl)
theorem mw_9_20 : Cond.code yX5_product cX5_product 4 (some .int) ∈ wsL_law := inr_9 _ (List.mem_of_getElem? (i := 20) rfl)
theorem mw_9_21 : Cond.methodLink RX5 94 yX5_multiply ∈ wsL_law := inr_9 _ (List.mem_of_getElem? (i := 21) rfl)
theorem mw_9_22 : Cond.instanceMethod yX5_multiply ∈ wsL_law := inr_9 _ (List.mem_of_getElem? (i := 22) rfl)
theorem mw_9_23 : Cond.selects RX5 yX5_multiply yX5_multiply ∈ wsL_law := inr_9 _ (List.mem_of_getElem? (i := 23) rfl)
theorem mw_10_0 : Cond.code yX5_multiply cX5_multiply 8 none ∈ wsL_law := inr_10 _ (List.mem_of_getElem? (i := 0) rfl)
theorem mw_10_1 : Cond.methodLink RX5 120 yX5_number ∈ wsL_law := inr_10 _ (List.mem_of_getElem? (i := 1) rfl)
theorem mw_10_2 : Cond.instanceMethod yX5_number ∈ wsL_law := inr_10 _ (List.mem_of_getElem? (i := 2) rfl)
theorem mw_10_3 : Cond.selects RX5 yX5_number yX5_number ∈ wsL_law := inr_10 _ (List.mem_of_getElem? (i := 3) rfl)
theorem mw_10_4 : Cond.code yX5_number cX5_number 4 (some .int) ∈ wsL_law := inr_10 _ (List.mem_of_getElem? (i := 4) rfl)
theorem mw_10_5 : Cond.methodLink RL 13 yX4_prime ∈ wsL_law := inr_10 _ (List.mem_of_getElem? (i := 5) rfl)
theorem mw_10_6 : Cond.instanceMethod yX4_prime ∈ wsL_law := inr_10 _ (List.mem_of_getElem? (i := 6) rfl)
theorem mw_10_7 : Cond.selects RX4 yX4_prime yX4_prime ∈ wsL_law := inr_10 _ (List.mem_of_getElem? (i := 7) rfl)
theorem mw_10_8 : Cond.code yX4_prime cX4_prime 6 (some .int) ∈ wsL_law := inr_10 _ (List.mem_of_getElem? (i := 8) rfl)
theorem mw_10_9 : Cond.fieldLink RX4 50 "FieldCounts" "PRIMES" "[I" ∈ wsL_law := inr_10 _ (List.mem_of_getElem? (i := 9) rfl)
theorem mw_10_10 : Cond.methodLink RL 17 yX5_prime ∈ wsL_law := inr_10 _ (List.mem_of_getElem? (i := 10) rfl)
theorem mw_10_11 : Cond.instanceMethod yX5_prime ∈ wsL_law := inr_10 _ (List.mem_of_getElem? (i := 11) rfl)
theorem mw_10_12 : Cond.selects RX5 yX5_prime yX5_prime ∈ wsL_law := inr_10 _ (List.mem_of_getElem? (i := 12) rfl)
theorem mw_10_13 : Cond.code yX5_prime cX5_prime 2 (some .int) ∈ wsL_law := inr_10 _ (List.mem_of_getElem? (i := 13) rfl)
theorem mw_10_14 : Cond.fieldLink RX5 67 "FieldCountsModel" "thrown" "I" ∈ wsL_law := inr_10 _ (List.mem_of_getElem? (i := 14) rfl)
theorem mw_10_15 : Cond.methodLink RL 18 yX4_size ∈ wsL_law := inr_10 _ (List.mem_of_getElem? (i := 15) rfl)
theorem mw_10_16 : Cond.instanceMethod yX4_size ∈ wsL_law := inr_10 _ (List.mem_of_getElem? (i := 16) rfl)
theorem mw_10_17 : Cond.selects RX4 yX4_size yX4_size ∈ wsL_law := inr_10 _ (List.mem_of_getElem? (i := 17) rfl)
theorem mw_10_18 : Cond.code yX4_size cX4_size 3 (some .int) ∈ wsL_law := inr_10 _ (List.mem_of_getElem? (i := 18) rfl)
theorem mw_10_19 : Cond.methodLink RL 21 yX5_size ∈ wsL_law := inr_10 _ (List.mem_of_getElem? (i := 19) rfl)
theorem mw_10_20 : Cond.instanceMethod yX5_size ∈ wsL_law := inr_10 _ (List.mem_of_getElem? (i := 20) rfl)
theorem mw_10_21 : Cond.selects RX5 yX5_size yX5_size ∈ wsL_law := inr_10 _ (List.mem_of_getElem? (i := 21) rfl)
theorem mw_10_22 : Cond.code yX5_size cX5_size 2 (some .int) ∈ wsL_law := inr_10 _ (List.mem_of_getElem? (i := 22) rfl)
theorem mw_10_23 : Cond.methodLink RX5 131 yX5_isField ∈ wsL_law := inr_10 _ (List.mem_of_getElem? (i := 23) rfl)
theorem mw_11_0 : Cond.instanceMethod yX5_isField ∈ wsL_law := inr_11 _ (List.mem_of_getElem? (i := 0) rfl)
theorem mw_11_1 : Cond.selects RX5 yX5_isField yX5_isField ∈ wsL_law := inr_11 _ (List.mem_of_getElem? (i := 1) rfl)
theorem mw_11_2 : Cond.code yX5_isField cX5_isField 2 (some .boolean) ∈ wsL_law := inr_11 _ (List.mem_of_getElem? (i := 2) rfl)
theorem mw_11_3 : Cond.methodLink RX5 127 yX5_in ∈ wsL_law := inr_11 _ (List.mem_of_getElem? (i := 3) rfl)
theorem mw_11_4 : Cond.static yX5_in ∈ wsL_law := inr_11 _ (List.mem_of_getElem? (i := 4) rfl)
theorem mw_11_5 : Cond.code yX5_in cX5_in 6 (some .boolean) ∈ wsL_law := inr_11 _ (List.mem_of_getElem? (i := 5) rfl)
theorem mw_11_6 : Cond.methodLink RL 22 yX4_modulus ∈ wsL_law := inr_11 _ (List.mem_of_getElem? (i := 6) rfl)
theorem mw_11_7 : Cond.instanceMethod yX4_modulus ∈ wsL_law := inr_11 _ (List.mem_of_getElem? (i := 7) rfl)
theorem mw_11_8 : Cond.selects RX4 yX4_modulus yX4_modulus ∈ wsL_law := inr_11 _ (List.mem_of_getElem? (i := 8) rfl)
theorem mw_11_9 : Cond.code yX4_modulus cX4_modulus 3 (some .int) ∈ wsL_law := inr_11 _ (List.mem_of_getElem? (i := 9) rfl)
theorem mw_11_10 : Cond.methodLink RL 25 yX5_modulus ∈ wsL_law := inr_11 _ (List.mem_of_getElem? (i := 10) rfl)
theorem mw_11_11 : Cond.instanceMethod yX5_modulus ∈ wsL_law := inr_11 _ (List.mem_of_getElem? (i := 11) rfl)
theorem mw_11_12 : Cond.selects RX5 yX5_modulus yX5_modulus ∈ wsL_law := inr_11 _ (List.mem_of_getElem? (i := 12) rfl)
theorem mw_11_13 : Cond.code yX5_modulus cX5_modulus 2 (some .int) ∈ wsL_law := inr_11 _ (List.mem_of_getElem? (i := 13) rfl)
theorem mw_11_14 : Cond.methodLink RL 26 yX4_plus ∈ wsL_law := inr_11 _ (List.mem_of_getElem? (i := 14) rfl)
theorem mw_11_15 : Cond.instanceMethod yX4_plus ∈ wsL_law := inr_11 _ (List.mem_of_getElem? (i := 15) rfl)
theorem mw_11_16 : Cond.selects RX4 yX4_plus yX4_plus ∈ wsL_law := inr_11 _ (List.mem_of_getElem? (i := 16) rfl)
theorem mw_11_17 : Cond.code yX4_plus cX4_plus 5 (some .int) ∈ wsL_law := inr_11 _ (List.mem_of_getElem? (i := 17) rfl)
theorem mw_11_18 : Cond.methodLink RX4 66 yX2_has ∈ wsL_law := inr_11 _ (List.mem_of_getElem? (i := 18) rfl)
theorem mw_11_19 : Cond.instanceMethod yX2_has ∈ wsL_law := inr_11 _ (List.mem_of_getElem? (i := 19) rfl)
theorem mw_11_20 : Cond.selects RX2 yX2_has yX2_has ∈ wsL_law := inr_11 _ (List.mem_of_getElem? (i := 20) rfl)
theorem mw_11_21 : Cond.code yX2_has cX2_has 2 (some .boolean) ∈ wsL_law := inr_11 _ (List.mem_of_getElem? (i := 21) rfl)
theorem mw_11_22 : Cond.methodLink RX4 70 yX3_sum ∈ wsL_law := inr_11 _ (List.mem_of_getElem? (i := 22) rfl)
theorem mw_11_23 : Cond.methodLink RL 30 yX5_plus ∈ wsL_law := inr_11 _ (List.mem_of_getElem? (i := 23) rfl)
theorem mw_12_0 : Cond.instanceMethod yX5_plus ∈ wsL_law := inr_12 _ (List.mem_of_getElem? (i := 0) rfl)
theorem mw_12_1 : Cond.selects RX5 yX5_plus yX5_plus ∈ wsL_law := inr_12 _ (List.mem_of_getElem? (i := 1) rfl)
theorem mw_12_2 : Cond.code yX5_plus cX5_plus 4 (some .int) ∈ wsL_law := inr_12 _ (List.mem_of_getElem? (i := 2) rfl)
theorem mw_12_3 : Cond.methodLink RX5 135 yX5_isNumber ∈ wsL_law := inr_12 _ (List.mem_of_getElem? (i := 3) rfl)
theorem mw_12_4 : Cond.instanceMethod yX5_isNumber ∈ wsL_law := inr_12 _ (List.mem_of_getElem? (i := 4) rfl)
theorem mw_12_5 : Cond.selects RX5 yX5_isNumber yX5_isNumber ∈ wsL_law := inr_12 _ (List.mem_of_getElem? (i := 5) rfl)
theorem mw_12_6 : Cond.code yX5_isNumber cX5_isNumber 3 (some .boolean) ∈ wsL_law := inr_12 _ (List.mem_of_getElem? (i := 6) rfl)
theorem mw_12_7 : Cond.methodLink RX5 139 yX5_sum ∈ wsL_law := inr_12 _ (List.mem_of_getElem? (i := 7) rfl)
theorem mw_12_8 : Cond.instanceMethod yX5_sum ∈ wsL_law := inr_12 _ (List.mem_of_getElem? (i := 8) rfl)
theorem mw_12_9 : Cond.selects RX5 yX5_sum yX5_sum ∈ wsL_law := inr_12 _ (List.mem_of_getElem? (i := 9) rfl)
theorem mw_12_10 : Cond.code yX5_sum cX5_sum 7 (some .int) ∈ wsL_law := inr_12 _ (List.mem_of_getElem? (i := 10) rfl)
theorem mw_12_11 : Cond.methodLink RL 31 yX4_times ∈ wsL_law := inr_12 _ (List.mem_of_getElem? (i := 11) rfl)
theorem mw_12_12 : Cond.instanceMethod yX4_times ∈ wsL_law := inr_12 _ (List.mem_of_getElem? (i := 12) rfl)
theorem mw_12_13 : Cond.selects RX4 yX4_times yX4_times ∈ wsL_law := inr_12 _ (List.mem_of_getElem? (i := 13) rfl)
theorem mw_12_14 : Cond.code yX4_times cX4_times 5 (some .int) ∈ wsL_law := inr_12 _ (List.mem_of_getElem? (i := 14) rfl)
theorem mw_12_15 : Cond.methodLink RX4 74 yX2_product ∈ wsL_law := inr_12 _ (List.mem_of_getElem? (i := 15) rfl)
theorem mw_12_16 : Cond.instanceMethod yX2_product ∈ wsL_law := inr_12 _ (List.mem_of_getElem? (i := 16) rfl)
theorem mw_12_17 : Cond.selects RX2 yX2_product yX2_product ∈ wsL_law := inr_12 _ (List.mem_of_getElem? (i := 17) rfl)
theorem mw_12_18 : Cond.code yX2_product cX2_product 3 (some .int) ∈ wsL_law := inr_12 _ (List.mem_of_getElem? (i := 18) rfl)
theorem mw_12_19 : Cond.methodLink RL 34 yX5_times ∈ wsL_law := inr_12 _ (List.mem_of_getElem? (i := 19) rfl)
theorem mw_12_20 : Cond.instanceMethod yX5_times ∈ wsL_law := inr_12 _ (List.mem_of_getElem? (i := 20) rfl)
theorem mw_12_21 : Cond.selects RX5 yX5_times yX5_times ∈ wsL_law := inr_12 _ (List.mem_of_getElem? (i := 21) rfl)
theorem mw_12_22 : Cond.code yX5_times cX5_times 4 (some .int) ∈ wsL_law := inr_12 _ (List.mem_of_getElem? (i := 22) rfl)
theorem mw_12_23 : Cond.methodLink RL 35 yX4_over ∈ wsL_law := inr_12 _ (List.mem_of_getElem? (i := 23) rfl)
theorem mw_13_0 : Cond.instanceMethod yX4_over ∈ wsL_law := inr_13 _ (List.mem_of_getElem? (i := 0) rfl)
theorem mw_13_1 : Cond.selects RX4 yX4_over yX4_over ∈ wsL_law := inr_13 _ (List.mem_of_getElem? (i := 1) rfl)
theorem mw_13_2 : Cond.code yX4_over cX4_over 4 (some .int) ∈ wsL_law := inr_13 _ (List.mem_of_getElem? (i := 2) rfl)
theorem mw_13_3 : Cond.methodLink RX4 80 yX2_power ∈ wsL_law := inr_13 _ (List.mem_of_getElem? (i := 3) rfl)
theorem mw_13_4 : Cond.instanceMethod yX2_power ∈ wsL_law := inr_13 _ (List.mem_of_getElem? (i := 4) rfl)
theorem mw_13_5 : Cond.selects RX2 yX2_power yX2_power ∈ wsL_law := inr_13 _ (List.mem_of_getElem? (i := 5) rfl)
theorem mw_13_6 : Cond.code yX2_power cX2_power 3 (some .int) ∈ wsL_law := inr_13 _ (List.mem_of_getElem? (i := 6) rfl)
theorem mw_13_7 : Cond.methodLink RL 39 yX5_over ∈ wsL_law := inr_13 _ (List.mem_of_getElem? (i := 7) rfl)
theorem mw_13_8 : Cond.instanceMethod yX5_over ∈ wsL_law := inr_13 _ (List.mem_of_getElem? (i := 8) rfl)
theorem mw_13_9 : Cond.selects RX5 yX5_over yX5_over ∈ wsL_law := inr_13 _ (List.mem_of_getElem? (i := 9) rfl)
theorem mw_13_10 : Cond.code yX5_over cX5_over 4 (some .int) ∈ wsL_law := inr_13 _ (List.mem_of_getElem? (i := 10) rfl)
theorem mw_13_11 : Cond.methodLink RL 40 yX4_raise ∈ wsL_law := inr_13 _ (List.mem_of_getElem? (i := 11) rfl)
theorem mw_13_12 : Cond.instanceMethod yX4_raise ∈ wsL_law := inr_13 _ (List.mem_of_getElem? (i := 12) rfl)
theorem mw_13_13 : Cond.selects RX4 yX4_raise yX4_raise ∈ wsL_law := inr_13 _ (List.mem_of_getElem? (i := 13) rfl)
theorem mw_13_14 : Cond.code yX4_raise cX4_raise 5 (some .int) ∈ wsL_law := inr_13 _ (List.mem_of_getElem? (i := 14) rfl)
theorem mw_13_15 : Cond.methodLink RL 43 yX5_raise ∈ wsL_law := inr_13 _ (List.mem_of_getElem? (i := 15) rfl)
theorem mw_13_16 : Cond.instanceMethod yX5_raise ∈ wsL_law := inr_13 _ (List.mem_of_getElem? (i := 16) rfl)
theorem mw_13_17 : Cond.selects RX5 yX5_raise yX5_raise ∈ wsL_law := inr_13 _ (List.mem_of_getElem? (i := 17) rfl)
theorem mw_13_18 : Cond.code yX5_raise cX5_raise 4 (some .int) ∈ wsL_law := inr_13 _ (List.mem_of_getElem? (i := 18) rfl)
theorem mw_13_19 : Cond.methodLink RX5 142 yX5_power ∈ wsL_law := inr_13 _ (List.mem_of_getElem? (i := 19) rfl)
theorem mw_13_20 : Cond.instanceMethod yX5_power ∈ wsL_law := inr_13 _ (List.mem_of_getElem? (i := 20) rfl)
theorem mw_13_21 : Cond.selects RX5 yX5_power yX5_power ∈ wsL_law := inr_13 _ (List.mem_of_getElem? (i := 21) rfl)
theorem mw_13_22 : Cond.code yX5_power cX5_power 7 (some .int) ∈ wsL_law := inr_13 _ (List.mem_of_getElem? (i := 22) rfl)
theorem mw_13_23 : Cond.methodLink RL 44 yX4_sign ∈ wsL_law := inr_13 _ (List.mem_of_getElem? (i := 23) rfl)
theorem mw_14_0 : Cond.instanceMethod yX4_sign ∈ wsL_law := inr_14 _ (List.mem_of_getElem? (i := 0) rfl)
theorem mw_14_1 : Cond.selects RX4 yX4_sign yX4_sign ∈ wsL_law := inr_14 _ (List.mem_of_getElem? (i := 1) rfl)
theorem mw_14_2 : Cond.code yX4_sign cX4_sign 4 (some .int) ∈ wsL_law := inr_14 _ (List.mem_of_getElem? (i := 2) rfl)
theorem mw_14_3 : Cond.constant RX4 83 (-1000000000) ∈ wsL_law := inr_14 _ (List.mem_of_getElem? (i := 3) rfl)
theorem mw_14_4 : Cond.methodLink RL 47 yX5_sign ∈ wsL_law := inr_14 _ (List.mem_of_getElem? (i := 4) rfl)
theorem mw_14_5 : Cond.instanceMethod yX5_sign ∈ wsL_law := inr_14 _ (List.mem_of_getElem? (i := 5) rfl)
theorem mw_14_6 : Cond.selects RX5 yX5_sign yX5_sign ∈ wsL_law := inr_14 _ (List.mem_of_getElem? (i := 6) rfl)
theorem mw_14_7 : Cond.code yX5_sign cX5_sign 3 (some .int) ∈ wsL_law := inr_14 _ (List.mem_of_getElem? (i := 7) rfl)
theorem mw_14_8 : Cond.constant RX5 145 (-1000000000) ∈ wsL_law := inr_14 _ (List.mem_of_getElem? (i := 8) rfl)
theorem mw_14_9 : Cond.methodLink RL 48 yX4_turns ∈ wsL_law := inr_14 _ (List.mem_of_getElem? (i := 9) rfl)
theorem mw_14_10 : Cond.instanceMethod yX4_turns ∈ wsL_law := inr_14 _ (List.mem_of_getElem? (i := 10) rfl)
theorem mw_14_11 : Cond.selects RX4 yX4_turns yX4_turns ∈ wsL_law := inr_14 _ (List.mem_of_getElem? (i := 11) rfl)
theorem mw_14_12 : Cond.code yX4_turns cX4_turns 4 (some .int) ∈ wsL_law := inr_14 _ (List.mem_of_getElem? (i := 12) rfl)
theorem mw_14_13 : Cond.methodLink RX4 88 yX2_turnsOf ∈ wsL_law := inr_14 _ (List.mem_of_getElem? (i := 13) rfl)
theorem mw_14_14 : Cond.instanceMethod yX2_turnsOf ∈ wsL_law := inr_14 _ (List.mem_of_getElem? (i := 14) rfl)
theorem mw_14_15 : Cond.selects RX2 yX2_turnsOf yX2_turnsOf ∈ wsL_law := inr_14 _ (List.mem_of_getElem? (i := 15) rfl)
theorem mw_14_16 : Cond.code yX2_turnsOf cX2_turnsOf 3 (some .int) ∈ wsL_law := inr_14 _ (List.mem_of_getElem? (i := 16) rfl)
theorem mw_14_17 : Cond.methodLink RL 51 yX5_turns ∈ wsL_law := inr_14 _ (List.mem_of_getElem? (i := 17) rfl)
theorem mw_14_18 : Cond.instanceMethod yX5_turns ∈ wsL_law := inr_14 _ (List.mem_of_getElem? (i := 18) rfl)
theorem mw_14_19 : Cond.selects RX5 yX5_turns yX5_turns ∈ wsL_law := inr_14 _ (List.mem_of_getElem? (i := 19) rfl)
theorem mw_14_20 : Cond.code yX5_turns cX5_turns 5 (some .int) ∈ wsL_law := inr_14 _ (List.mem_of_getElem? (i := 20) rfl)
theorem mw_14_21 : Cond.methodLink RL 52 yX4_trace ∈ wsL_law := inr_14 _ (List.mem_of_getElem? (i := 21) rfl)
theorem mw_14_22 : Cond.instanceMethod yX4_trace ∈ wsL_law := inr_14 _ (List.mem_of_getElem? (i := 22) rfl)
theorem mw_14_23 : Cond.selects RX4 yX4_trace yX4_trace ∈ wsL_law := inr_14 _ (List.mem_of_getElem? (i := 23) rfl)
theorem mw_15_0 : Cond.code yX4_trace cX4_trace 7 (some .int) ∈ wsL_law := inr_15 _ (List.mem_of_getElem? (i := 0) rfl)
theorem mw_15_1 : Cond.methodLink RL 55 yX5_trace ∈ wsL_law := inr_15 _ (List.mem_of_getElem? (i := 1) rfl)
theorem mw_15_2 : Cond.instanceMethod yX5_trace ∈ wsL_law := inr_15 _ (List.mem_of_getElem? (i := 2) rfl)
theorem mw_15_3 : Cond.selects RX5 yX5_trace yX5_trace ∈ wsL_law := inr_15 _ (List.mem_of_getElem? (i := 3) rfl)
theorem mw_15_4 : Cond.code yX5_trace cX5_trace 6 (some .int) ∈ wsL_law := inr_15 _ (List.mem_of_getElem? (i := 4) rfl)
theorem mw_15_5 : Cond.methodLink RL 56 yX4_forms ∈ wsL_law := inr_15 _ (List.mem_of_getElem? (i := 5) rfl)
theorem mw_15_6 : Cond.instanceMethod yX4_forms ∈ wsL_law := inr_15 _ (List.mem_of_getElem? (i := 6) rfl)
theorem mw_15_7 : Cond.selects RX4 yX4_forms yX4_forms ∈ wsL_law := inr_15 _ (List.mem_of_getElem? (i := 7) rfl)
theorem mw_15_8 : Cond.code yX4_forms cX4_forms 8 (some .int) ∈ wsL_law := inr_15 _ (List.mem_of_getElem? (i := 8) rfl)
theorem mw_15_9 : Cond.methodLink RX4 94 yJ7_fill_53178 ∈ wsL_law := inr_15 _ (List.mem_of_getElem? (i := 9) rfl)
theorem mw_15_10 : Cond.static yJ7_fill_53178 ∈ wsL_law := inr_15 _ (List.mem_of_getElem? (i := 10) rfl)
theorem mw_15_11 : Cond.initialized RJ7 ∈ wsL_law := inr_15 _ (List.mem_of_getElem? (i := 11) rfl)
theorem mw_15_12 : Cond.code yJ7_fill_53178 cJ7_fill_53178 4 none ∈ wsL_law := inr_15 _ (List.mem_of_getElem? (i := 12) rfl)
theorem mw_15_13 : Cond.methodLink RX4 100 yX4_at ∈ wsL_law := inr_15 _ (List.mem_of_getElem? (i := 13) rfl)
theorem mw_15_14 : Cond.methodLink RX4 104 yX4_put ∈ wsL_law := inr_15 _ (List.mem_of_getElem? (i := 14) rfl)
theorem mw_15_15 : Cond.methodLink RX4 108 yX3_difference ∈ wsL_law := inr_15 _ (List.mem_of_getElem? (i := 15) rfl)
theorem mw_15_16 : Cond.methodLink RL 60 yX5_forms ∈ wsL_law := inr_15 _ (List.mem_of_getElem? (i := 16) rfl)
theorem mw_15_17 : Cond.instanceMethod yX5_forms ∈ wsL_law := inr_15 _ (List.mem_of_getElem? (i := 17) rfl)
theorem mw_15_18 : Cond.selects RX5 yX5_forms yX5_forms ∈ wsL_law := inr_15 _ (List.mem_of_getElem? (i := 18) rfl)
theorem mw_15_19 : Cond.code yX5_forms cX5_forms 9 (some .int) ∈ wsL_law := inr_15 _ (List.mem_of_getElem? (i := 19) rfl)
theorem mw_15_20 : Cond.methodLink RL 61 yX4_curve ∈ wsL_law := inr_15 _ (List.mem_of_getElem? (i := 20) rfl)
theorem mw_15_21 : Cond.instanceMethod yX4_curve ∈ wsL_law := inr_15 _ (List.mem_of_getElem? (i := 21) rfl)
theorem mw_15_22 : Cond.selects RX4 yX4_curve yX4_curve ∈ wsL_law := inr_15 _ (List.mem_of_getElem? (i := 22) rfl)
theorem mw_15_23 : Cond.code yX4_curve cX4_curve 5 (some .int) ∈ wsL_law := inr_15 _ (List.mem_of_getElem? (i := 23) rfl)
theorem mw_16_0 : Cond.methodLink RX4 111 yX4_isCurvePolynomial ∈ wsL_law := inr_16 _ (List.mem_of_getElem? (i := 0) rfl)
theorem mw_16_1 : Cond.instanceMethod yX4_isCurvePolynomial ∈ wsL_law := inr_16 _ (List.mem_of_getElem? (i := 1) rfl)
theorem mw_16_2 : Cond.selects RX4 yX4_isCurvePolynomial yX4_isCurvePolynomial ∈ wsL_law := inr_16 _ (List.mem_of_getElem? (i := 2) rfl)
theorem mw_16_3 : Cond.code yX4_isCurvePolynomial cX4_isCurvePolynomial 2 (some .boolean) ∈ wsL_law := inr_16 _ (List.mem_of_getElem? (i := 3) rfl)
theorem mw_16_4 : Cond.methodLink RX4 114 yX3_knotOf ∈ wsL_law := inr_16 _ (List.mem_of_getElem? (i := 4) rfl)
theorem mw_16_5 : Cond.instanceMethod yX3_knotOf ∈ wsL_law := inr_16 _ (List.mem_of_getElem? (i := 5) rfl)
theorem mw_16_6 : Cond.selects RX3 yX3_knotOf yX3_knotOf ∈ wsL_law := inr_16 _ (List.mem_of_getElem? (i := 6) rfl)
theorem mw_16_7 : Cond.code yX3_knotOf cX3_knotOf 2 (some .int) ∈ wsL_law := inr_16 _ (List.mem_of_getElem? (i := 7) rfl)
theorem mw_16_8 : Cond.methodLink RX3 58 yX3_derivative ∈ wsL_law := inr_16 _ (List.mem_of_getElem? (i := 8) rfl)
theorem mw_16_9 : Cond.instanceMethod yX3_derivative ∈ wsL_law := inr_16 _ (List.mem_of_getElem? (i := 9) rfl)
theorem mw_16_10 : Cond.selects RX3 yX3_derivative yX3_derivative ∈ wsL_law := inr_16 _ (List.mem_of_getElem? (i := 10) rfl)
theorem mw_16_11 : Cond.code yX3_derivative cX3_derivative 4 (some .int) ∈ wsL_law := inr_16 _ (List.mem_of_getElem? (i := 11) rfl)
theorem mw_16_12 : Cond.methodLink RX3 61 yX3_commonDivisor ∈ wsL_law := inr_16 _ (List.mem_of_getElem? (i := 12) rfl)
theorem mw_16_13 : Cond.instanceMethod yX3_commonDivisor ∈ wsL_law := inr_16 _ (List.mem_of_getElem? (i := 13) rfl)
theorem mw_16_14 : Cond.selects RX3 yX3_commonDivisor yX3_commonDivisor ∈ wsL_law := inr_16 _ (List.mem_of_getElem? (i := 14) rfl)
theorem mw_16_15 : Cond.code yX3_commonDivisor cX3_commonDivisor 7 (some .int) ∈ wsL_law := inr_16 _ (List.mem_of_getElem? (i := 15) rfl)
theorem mw_16_16 : Cond.methodLink RX3 49 yX3_monic ∈ wsL_law := inr_16 _ (List.mem_of_getElem? (i := 16) rfl)
theorem mw_16_17 : Cond.instanceMethod yX3_monic ∈ wsL_law := inr_16 _ (List.mem_of_getElem? (i := 17) rfl)
theorem mw_16_18 : Cond.selects RX3 yX3_monic yX3_monic ∈ wsL_law := inr_16 _ (List.mem_of_getElem? (i := 18) rfl)
theorem mw_16_19 : Cond.code yX3_monic cX3_monic 2 (some .int) ∈ wsL_law := inr_16 _ (List.mem_of_getElem? (i := 19) rfl)
theorem mw_16_20 : Cond.methodLink RX4 117 yX3_degree ∈ wsL_law := inr_16 _ (List.mem_of_getElem? (i := 20) rfl)
theorem mw_16_21 : Cond.methodLink RX4 126 yX1_begin ∈ wsL_law := inr_16 _ (List.mem_of_getElem? (i := 21) rfl)
theorem mw_16_22 : Cond.instanceMethod yX1_begin ∈ wsL_law := inr_16 _ (List.mem_of_getElem? (i := 22) rfl)
theorem mw_16_23 : Cond.selects RX1 yX1_begin yX1_begin ∈ wsL_law := inr_16 _ (List.mem_of_getElem? (i := 23) rfl)
theorem mw_17_0 : Cond.code yX1_begin cX1_begin 5 none ∈ wsL_law := inr_17 _ (List.mem_of_getElem? (i := 0) rfl)
theorem mw_17_1 : Cond.fieldLink RX1 28 "FieldCounts$Curve" "kind" "I" ∈ wsL_law := inr_17 _ (List.mem_of_getElem? (i := 1) rfl)
theorem mw_17_2 : Cond.fieldLink RX1 32 "FieldCounts$Curve" "f" "I" ∈ wsL_law := inr_17 _ (List.mem_of_getElem? (i := 2) rfl)
theorem mw_17_3 : Cond.fieldLink RX1 35 "FieldCounts$Curve" "t" "I" ∈ wsL_law := inr_17 _ (List.mem_of_getElem? (i := 3) rfl)
theorem mw_17_4 : Cond.fieldLink RX1 44 "FieldCounts$Curve" "degree" "I" ∈ wsL_law := inr_17 _ (List.mem_of_getElem? (i := 4) rfl)
theorem mw_17_5 : Cond.fieldLink RX1 46 "FieldCounts$Curve" "genus" "I" ∈ wsL_law := inr_17 _ (List.mem_of_getElem? (i := 5) rfl)
theorem mw_17_6 : Cond.fieldLink RX1 56 "FieldCounts$Curve" "polynomial" "I" ∈ wsL_law := inr_17 _ (List.mem_of_getElem? (i := 6) rfl)
theorem mw_17_7 : Cond.fieldLink RX1 59 "FieldCounts$Curve" "shareKnown" "Z" ∈ wsL_law := inr_17 _ (List.mem_of_getElem? (i := 7) rfl)
theorem mw_17_8 : Cond.methodLink RX1 38 yX3_degree ∈ wsL_law := inr_17 _ (List.mem_of_getElem? (i := 8) rfl)
theorem mw_17_9 : Cond.methodLink RX1 49 yX3_scaled ∈ wsL_law := inr_17 _ (List.mem_of_getElem? (i := 9) rfl)
theorem mw_17_10 : Cond.methodLink RX1 53 yX3_movedBy ∈ wsL_law := inr_17 _ (List.mem_of_getElem? (i := 10) rfl)
theorem mw_17_11 : Cond.instanceMethod yX3_movedBy ∈ wsL_law := inr_17 _ (List.mem_of_getElem? (i := 11) rfl)
theorem mw_17_12 : Cond.selects RX3 yX3_movedBy yX3_movedBy ∈ wsL_law := inr_17 _ (List.mem_of_getElem? (i := 12) rfl)
theorem mw_17_13 : Cond.code yX3_movedBy cX3_movedBy 5 (some .int) ∈ wsL_law := inr_17 _ (List.mem_of_getElem? (i := 13) rfl)
theorem mw_17_14 : Cond.methodLink RX3 55 yX3_product ∈ wsL_law := inr_17 _ (List.mem_of_getElem? (i := 14) rfl)
theorem mw_17_15 : Cond.methodLink RX1 63 yX0_begin ∈ wsL_law := inr_17 _ (List.mem_of_getElem? (i := 15) rfl)
theorem mw_17_16 : Cond.instanceMethod yX0_begin ∈ wsL_law := inr_17 _ (List.mem_of_getElem? (i := 16) rfl)
theorem mw_17_17 : Cond.selects RX0 yX0_begin yX0_begin ∈ wsL_law := inr_17 _ (List.mem_of_getElem? (i := 17) rfl)
theorem mw_17_18 : Cond.code yX0_begin cX0_begin 3 none ∈ wsL_law := inr_17 _ (List.mem_of_getElem? (i := 18) rfl)
theorem mw_17_19 : Cond.fieldLink RX0 23 "FieldCounts$ClassList" "polynomial" "I" ∈ wsL_law := inr_17 _ (List.mem_of_getElem? (i := 19) rfl)
theorem mw_17_20 : Cond.fieldLink RX0 26 "FieldCounts$ClassList" "listed" "I" ∈ wsL_law := inr_17 _ (List.mem_of_getElem? (i := 20) rfl)
theorem mw_17_21 : Cond.methodLink RL 64 yX5_curve ∈ wsL_law := inr_17 _ (List.mem_of_getElem? (i := 21) rfl)
theorem mw_17_22 : Cond.instanceMethod yX5_curve ∈ wsL_law := inr_17 _ (List.mem_of_getElem? (i := 22) rfl)
theorem mw_17_23 : Cond.selects RX5 yX5_curve yX5_curve ∈ wsL_law := inr_17 _ (List.mem_of_getElem? (i := 23) rfl)
theorem mw_18_0 : Cond.code yX5_curve cX5_curve 6 (some .int) ∈ wsL_law := inr_18 _ (List.mem_of_getElem? (i := 0) rfl)
theorem mw_18_1 : Cond.constantLong RX5 156 (2) ∈ wsL_law := inr_18 _ (List.mem_of_getElem? (i := 1) rfl)
theorem mw_18_2 : Cond.methodLink RX5 158 yX5_isShaped ∈ wsL_law := inr_18 _ (List.mem_of_getElem? (i := 2) rfl)
theorem mw_18_3 : Cond.instanceMethod yX5_isShaped ∈ wsL_law := inr_18 _ (List.mem_of_getElem? (i := 3) rfl)
theorem mw_18_4 : Cond.selects RX5 yX5_isShaped yX5_isShaped ∈ wsL_law := inr_18 _ (List.mem_of_getElem? (i := 4) rfl)
theorem mw_18_5 : Cond.code yX5_isShaped cX5_isShaped 2 (some .boolean) ∈ wsL_law := inr_18 _ (List.mem_of_getElem? (i := 5) rfl)
theorem mw_18_6 : Cond.methodLink RX5 149 yX5_isDegree ∈ wsL_law := inr_18 _ (List.mem_of_getElem? (i := 6) rfl)
theorem mw_18_7 : Cond.instanceMethod yX5_isDegree ∈ wsL_law := inr_18 _ (List.mem_of_getElem? (i := 7) rfl)
theorem mw_18_8 : Cond.selects RX5 yX5_isDegree yX5_isDegree ∈ wsL_law := inr_18 _ (List.mem_of_getElem? (i := 8) rfl)
theorem mw_18_9 : Cond.code yX5_isDegree cX5_isDegree 6 (some .boolean) ∈ wsL_law := inr_18 _ (List.mem_of_getElem? (i := 9) rfl)
theorem mw_18_10 : Cond.methodLink RX5 161 yX5_knotOf ∈ wsL_law := inr_18 _ (List.mem_of_getElem? (i := 10) rfl)
theorem mw_18_11 : Cond.instanceMethod yX5_knotOf ∈ wsL_law := inr_18 _ (List.mem_of_getElem? (i := 11) rfl)
theorem mw_18_12 : Cond.selects RX5 yX5_knotOf yX5_knotOf ∈ wsL_law := inr_18 _ (List.mem_of_getElem? (i := 12) rfl)
theorem mw_18_13 : Cond.code yX5_knotOf cX5_knotOf 3 (some .int) ∈ wsL_law := inr_18 _ (List.mem_of_getElem? (i := 13) rfl)
theorem mw_18_14 : Cond.methodLink RX5 152 yX5_common ∈ wsL_law := inr_18 _ (List.mem_of_getElem? (i := 14) rfl)
theorem mw_18_15 : Cond.instanceMethod yX5_common ∈ wsL_law := inr_18 _ (List.mem_of_getElem? (i := 15) rfl)
theorem mw_18_16 : Cond.selects RX5 yX5_common yX5_common ∈ wsL_law := inr_18 _ (List.mem_of_getElem? (i := 16) rfl)
theorem mw_18_17 : Cond.code yX5_common cX5_common 7 none ∈ wsL_law := inr_18 _ (List.mem_of_getElem? (i := 17) rfl)
theorem mw_18_18 : Cond.methodLink RX5 98 yX5_join ∈ wsL_law := inr_18 _ (List.mem_of_getElem? (i := 18) rfl)
theorem mw_18_19 : Cond.instanceMethod yX5_join ∈ wsL_law := inr_18 _ (List.mem_of_getElem? (i := 19) rfl)
theorem mw_18_20 : Cond.selects RX5 yX5_join yX5_join ∈ wsL_law := inr_18 _ (List.mem_of_getElem? (i := 20) rfl)
theorem mw_18_21 : Cond.code yX5_join cX5_join 6 none ∈ wsL_law := inr_18 _ (List.mem_of_getElem? (i := 21) rfl)
theorem mw_18_22 : Cond.methodLink RX5 101 yX5_scale ∈ wsL_law := inr_18 _ (List.mem_of_getElem? (i := 22) rfl)
theorem mw_18_23 : Cond.instanceMethod yX5_scale ∈ wsL_law := inr_18 _ (List.mem_of_getElem? (i := 23) rfl)
theorem mw_19_0 : Cond.selects RX5 yX5_scale yX5_scale ∈ wsL_law := inr_19 _ (List.mem_of_getElem? (i := 0) rfl)
theorem mw_19_1 : Cond.code yX5_scale cX5_scale 4 none ∈ wsL_law := inr_19 _ (List.mem_of_getElem? (i := 1) rfl)
theorem mw_19_2 : Cond.methodLink RL 65 yX4_knot ∈ wsL_law := inr_19 _ (List.mem_of_getElem? (i := 2) rfl)
theorem mw_19_3 : Cond.instanceMethod yX4_knot ∈ wsL_law := inr_19 _ (List.mem_of_getElem? (i := 3) rfl)
theorem mw_19_4 : Cond.selects RX4 yX4_knot yX4_knot ∈ wsL_law := inr_19 _ (List.mem_of_getElem? (i := 4) rfl)
theorem mw_19_5 : Cond.code yX4_knot cX4_knot 1 (some .int) ∈ wsL_law := inr_19 _ (List.mem_of_getElem? (i := 5) rfl)
theorem mw_19_6 : Cond.methodLink RL 69 yX5_knot ∈ wsL_law := inr_19 _ (List.mem_of_getElem? (i := 6) rfl)
theorem mw_19_7 : Cond.instanceMethod yX5_knot ∈ wsL_law := inr_19 _ (List.mem_of_getElem? (i := 7) rfl)
theorem mw_19_8 : Cond.selects RX5 yX5_knot yX5_knot ∈ wsL_law := inr_19 _ (List.mem_of_getElem? (i := 8) rfl)
theorem mw_19_9 : Cond.code yX5_knot cX5_knot 1 (some .int) ∈ wsL_law := inr_19 _ (List.mem_of_getElem? (i := 9) rfl)
theorem mw_19_10 : Cond.methodLink RL 70 yX4_about ∈ wsL_law := inr_19 _ (List.mem_of_getElem? (i := 10) rfl)
theorem mw_19_11 : Cond.instanceMethod yX4_about ∈ wsL_law := inr_19 _ (List.mem_of_getElem? (i := 11) rfl)
theorem mw_19_12 : Cond.selects RX4 yX4_about yX4_about ∈ wsL_law := inr_19 _ (List.mem_of_getElem? (i := 12) rfl)
theorem mw_19_13 : Cond.code yX4_about cX4_about 4 (some .int) ∈ wsL_law := inr_19 _ (List.mem_of_getElem? (i := 13) rfl)
theorem mw_19_14 : Cond.methodLink RX4 130 yX4_curveAt ∈ wsL_law := inr_19 _ (List.mem_of_getElem? (i := 14) rfl)
theorem mw_19_15 : Cond.instanceMethod yX4_curveAt ∈ wsL_law := inr_19 _ (List.mem_of_getElem? (i := 15) rfl)
theorem mw_19_16 : Cond.selects RX4 yX4_curveAt yX4_curveAt ∈ wsL_law := inr_19 _ (List.mem_of_getElem? (i := 16) rfl)
theorem mw_19_17 : Cond.code yX4_curveAt cX4_curveAt 2 (some (.object "FieldCounts$Curve")) ∈ wsL_law := inr_19 _ (List.mem_of_getElem? (i := 17) rfl)
theorem mw_19_18 : Cond.methodLink RL 73 yX5_about ∈ wsL_law := inr_19 _ (List.mem_of_getElem? (i := 18) rfl)
theorem mw_19_19 : Cond.instanceMethod yX5_about ∈ wsL_law := inr_19 _ (List.mem_of_getElem? (i := 19) rfl)
theorem mw_19_20 : Cond.selects RX5 yX5_about yX5_about ∈ wsL_law := inr_19 _ (List.mem_of_getElem? (i := 20) rfl)
theorem mw_19_21 : Cond.code yX5_about cX5_about 3 (some .int) ∈ wsL_law := inr_19 _ (List.mem_of_getElem? (i := 21) rfl)
theorem mw_19_22 : Cond.constantLong RX5 167 (5) ∈ wsL_law := inr_19 _ (List.mem_of_getElem? (i := 22) rfl)
theorem mw_19_23 : Cond.methodLink RX5 164 yX5_isCurve ∈ wsL_law := inr_19 _ (List.mem_of_getElem? (i := 23) rfl)
theorem mw_20_0 : Cond.instanceMethod yX5_isCurve ∈ wsL_law := inr_20 _ (List.mem_of_getElem? (i := 0) rfl)
theorem mw_20_1 : Cond.selects RX5 yX5_isCurve yX5_isCurve ∈ wsL_law := inr_20 _ (List.mem_of_getElem? (i := 1) rfl)
theorem mw_20_2 : Cond.code yX5_isCurve cX5_isCurve 2 (some .boolean) ∈ wsL_law := inr_20 _ (List.mem_of_getElem? (i := 2) rfl)
theorem mw_20_3 : Cond.methodLink RX5 146 yX5_degreeOf ∈ wsL_law := inr_20 _ (List.mem_of_getElem? (i := 3) rfl)
theorem mw_20_4 : Cond.instanceMethod yX5_degreeOf ∈ wsL_law := inr_20 _ (List.mem_of_getElem? (i := 4) rfl)
theorem mw_20_5 : Cond.selects RX5 yX5_degreeOf yX5_degreeOf ∈ wsL_law := inr_20 _ (List.mem_of_getElem? (i := 5) rfl)
theorem mw_20_6 : Cond.code yX5_degreeOf cX5_degreeOf 3 (some .int) ∈ wsL_law := inr_20 _ (List.mem_of_getElem? (i := 6) rfl)
theorem mw_20_7 : Cond.methodLink RX5 169 yX5_genusOf ∈ wsL_law := inr_20 _ (List.mem_of_getElem? (i := 7) rfl)
theorem mw_20_8 : Cond.instanceMethod yX5_genusOf ∈ wsL_law := inr_20 _ (List.mem_of_getElem? (i := 8) rfl)
theorem mw_20_9 : Cond.selects RX5 yX5_genusOf yX5_genusOf ∈ wsL_law := inr_20 _ (List.mem_of_getElem? (i := 9) rfl)
theorem mw_20_10 : Cond.code yX5_genusOf cX5_genusOf 2 (some .int) ∈ wsL_law := inr_20 _ (List.mem_of_getElem? (i := 10) rfl)
theorem mw_20_11 : Cond.methodLink RX5 172 yX5_loadOwn ∈ wsL_law := inr_20 _ (List.mem_of_getElem? (i := 11) rfl)
theorem mw_20_12 : Cond.instanceMethod yX5_loadOwn ∈ wsL_law := inr_20 _ (List.mem_of_getElem? (i := 12) rfl)
theorem mw_20_13 : Cond.selects RX5 yX5_loadOwn yX5_loadOwn ∈ wsL_law := inr_20 _ (List.mem_of_getElem? (i := 13) rfl)
theorem mw_20_14 : Cond.code yX5_loadOwn cX5_loadOwn 4 none ∈ wsL_law := inr_20 _ (List.mem_of_getElem? (i := 14) rfl)
theorem mw_20_15 : Cond.methodLink RL 74 yX4_value ∈ wsL_law := inr_20 _ (List.mem_of_getElem? (i := 15) rfl)
theorem mw_20_16 : Cond.instanceMethod yX4_value ∈ wsL_law := inr_20 _ (List.mem_of_getElem? (i := 16) rfl)
theorem mw_20_17 : Cond.selects RX4 yX4_value yX4_value ∈ wsL_law := inr_20 _ (List.mem_of_getElem? (i := 17) rfl)
theorem mw_20_18 : Cond.code yX4_value cX4_value 6 (some .int) ∈ wsL_law := inr_20 _ (List.mem_of_getElem? (i := 18) rfl)
theorem mw_20_19 : Cond.fieldLink RX4 151 "FieldCounts" "trace" "J" ∈ wsL_law := inr_20 _ (List.mem_of_getElem? (i := 19) rfl)
theorem mw_20_20 : Cond.fieldLink RX4 155 "FieldCounts" "TRACES" "[I" ∈ wsL_law := inr_20 _ (List.mem_of_getElem? (i := 20) rfl)
theorem mw_20_21 : Cond.methodLink RX4 158 yX2_valueOf ∈ wsL_law := inr_20 _ (List.mem_of_getElem? (i := 21) rfl)
theorem mw_20_22 : Cond.instanceMethod yX2_valueOf ∈ wsL_law := inr_20 _ (List.mem_of_getElem? (i := 22) rfl)
theorem mw_20_23 : Cond.selects RX2 yX2_valueOf yX2_valueOf ∈ wsL_law := inr_20 _ (List.mem_of_getElem? (i := 23) rfl)
theorem mw_21_0 : Cond.code yX2_valueOf cX2_valueOf 5 (some .int) ∈ wsL_law := inr_21 _ (List.mem_of_getElem? (i := 0) rfl)
theorem mw_21_1 : Cond.methodLink RX2 74 yX3_degree ∈ wsL_law := inr_21 _ (List.mem_of_getElem? (i := 1) rfl)
theorem mw_21_2 : Cond.methodLink RX2 77 yX2_product ∈ wsL_law := inr_21 _ (List.mem_of_getElem? (i := 2) rfl)
theorem mw_21_3 : Cond.methodLink RX2 78 yX3_coefficient ∈ wsL_law := inr_21 _ (List.mem_of_getElem? (i := 3) rfl)
theorem mw_21_4 : Cond.methodLink RX2 81 yX3_sum ∈ wsL_law := inr_21 _ (List.mem_of_getElem? (i := 4) rfl)
theorem mw_21_5 : Cond.methodLink RL 77 yX5_value ∈ wsL_law := inr_21 _ (List.mem_of_getElem? (i := 5) rfl)
theorem mw_21_6 : Cond.instanceMethod yX5_value ∈ wsL_law := inr_21 _ (List.mem_of_getElem? (i := 6) rfl)
theorem mw_21_7 : Cond.selects RX5 yX5_value yX5_value ∈ wsL_law := inr_21 _ (List.mem_of_getElem? (i := 7) rfl)
theorem mw_21_8 : Cond.code yX5_value cX5_value 4 (some .int) ∈ wsL_law := inr_21 _ (List.mem_of_getElem? (i := 8) rfl)
theorem mw_21_9 : Cond.fieldLink RX5 175 "FieldCountsModel" "trace" "J" ∈ wsL_law := inr_21 _ (List.mem_of_getElem? (i := 9) rfl)
theorem mw_21_10 : Cond.constantLong RX5 179 (11) ∈ wsL_law := inr_21 _ (List.mem_of_getElem? (i := 10) rfl)
theorem mw_21_11 : Cond.constantLong RX5 181 (111) ∈ wsL_law := inr_21 _ (List.mem_of_getElem? (i := 11) rfl)
theorem mw_21_12 : Cond.methodLink RX5 183 yX5_valueOf ∈ wsL_law := inr_21 _ (List.mem_of_getElem? (i := 12) rfl)
theorem mw_21_13 : Cond.instanceMethod yX5_valueOf ∈ wsL_law := inr_21 _ (List.mem_of_getElem? (i := 13) rfl)
theorem mw_21_14 : Cond.selects RX5 yX5_valueOf yX5_valueOf ∈ wsL_law := inr_21 _ (List.mem_of_getElem? (i := 14) rfl)
theorem mw_21_15 : Cond.code yX5_valueOf cX5_valueOf 6 (some .int) ∈ wsL_law := inr_21 _ (List.mem_of_getElem? (i := 15) rfl)
theorem mw_21_16 : Cond.methodLink RL 78 yX4_count ∈ wsL_law := inr_21 _ (List.mem_of_getElem? (i := 16) rfl)
theorem mw_21_17 : Cond.instanceMethod yX4_count ∈ wsL_law := inr_21 _ (List.mem_of_getElem? (i := 17) rfl)
theorem mw_21_18 : Cond.selects RX4 yX4_count yX4_count ∈ wsL_law := inr_21 _ (List.mem_of_getElem? (i := 18) rfl)
theorem mw_21_19 : Cond.code yX4_count cX4_count 5 (some .int) ∈ wsL_law := inr_21 _ (List.mem_of_getElem? (i := 19) rfl)
theorem mw_21_20 : Cond.methodLink RX4 161 yX2_pointsOf ∈ wsL_law := inr_21 _ (List.mem_of_getElem? (i := 20) rfl)
theorem mw_21_21 : Cond.instanceMethod yX2_pointsOf ∈ wsL_law := inr_21 _ (List.mem_of_getElem? (i := 21) rfl)
theorem mw_21_22 : Cond.selects RX2 yX2_pointsOf yX2_pointsOf ∈ wsL_law := inr_21 _ (List.mem_of_getElem? (i := 22) rfl)
theorem mw_21_23 : Cond.code yX2_pointsOf cX2_pointsOf 2 (some .int) ∈ wsL_law := inr_21 _ (List.mem_of_getElem? (i := 23) rfl)
theorem mw_22_0 : Cond.methodLink RX2 93 yX2_signSum ∈ wsL_law := inr_22 _ (List.mem_of_getElem? (i := 0) rfl)
theorem mw_22_1 : Cond.instanceMethod yX2_signSum ∈ wsL_law := inr_22 _ (List.mem_of_getElem? (i := 1) rfl)
theorem mw_22_2 : Cond.selects RX2 yX2_signSum yX2_signSum ∈ wsL_law := inr_22 _ (List.mem_of_getElem? (i := 2) rfl)
theorem mw_22_3 : Cond.code yX2_signSum cX2_signSum 4 (some .int) ∈ wsL_law := inr_22 _ (List.mem_of_getElem? (i := 3) rfl)
theorem mw_22_4 : Cond.methodLink RX2 84 yX2_valueOf ∈ wsL_law := inr_22 _ (List.mem_of_getElem? (i := 4) rfl)
theorem mw_22_5 : Cond.methodLink RX2 87 yX2_squareSign ∈ wsL_law := inr_22 _ (List.mem_of_getElem? (i := 5) rfl)
theorem mw_22_6 : Cond.methodLink RX2 96 yX2_pointsBeyond ∈ wsL_law := inr_22 _ (List.mem_of_getElem? (i := 6) rfl)
theorem mw_22_7 : Cond.instanceMethod yX2_pointsBeyond ∈ wsL_law := inr_22 _ (List.mem_of_getElem? (i := 7) rfl)
theorem mw_22_8 : Cond.selects RX2 yX2_pointsBeyond yX2_pointsBeyond ∈ wsL_law := inr_22 _ (List.mem_of_getElem? (i := 8) rfl)
theorem mw_22_9 : Cond.code yX2_pointsBeyond cX2_pointsBeyond 2 (some .int) ∈ wsL_law := inr_22 _ (List.mem_of_getElem? (i := 9) rfl)
theorem mw_22_10 : Cond.methodLink RX2 90 yX3_lead ∈ wsL_law := inr_22 _ (List.mem_of_getElem? (i := 10) rfl)
theorem mw_22_11 : Cond.methodLink RL 81 yX5_count ∈ wsL_law := inr_22 _ (List.mem_of_getElem? (i := 11) rfl)
theorem mw_22_12 : Cond.instanceMethod yX5_count ∈ wsL_law := inr_22 _ (List.mem_of_getElem? (i := 12) rfl)
theorem mw_22_13 : Cond.selects RX5 yX5_count yX5_count ∈ wsL_law := inr_22 _ (List.mem_of_getElem? (i := 13) rfl)
theorem mw_22_14 : Cond.code yX5_count cX5_count 3 (some .int) ∈ wsL_law := inr_22 _ (List.mem_of_getElem? (i := 14) rfl)
theorem mw_22_15 : Cond.methodLink RX5 189 yX5_countOf ∈ wsL_law := inr_22 _ (List.mem_of_getElem? (i := 15) rfl)
theorem mw_22_16 : Cond.instanceMethod yX5_countOf ∈ wsL_law := inr_22 _ (List.mem_of_getElem? (i := 16) rfl)
theorem mw_22_17 : Cond.selects RX5 yX5_countOf yX5_countOf ∈ wsL_law := inr_22 _ (List.mem_of_getElem? (i := 17) rfl)
theorem mw_22_18 : Cond.code yX5_countOf cX5_countOf 5 (some .int) ∈ wsL_law := inr_22 _ (List.mem_of_getElem? (i := 18) rfl)
theorem mw_22_19 : Cond.methodLink RX5 186 yX5_beyondOf ∈ wsL_law := inr_22 _ (List.mem_of_getElem? (i := 19) rfl)
theorem mw_22_20 : Cond.instanceMethod yX5_beyondOf ∈ wsL_law := inr_22 _ (List.mem_of_getElem? (i := 20) rfl)
theorem mw_22_21 : Cond.selects RX5 yX5_beyondOf yX5_beyondOf ∈ wsL_law := inr_22 _ (List.mem_of_getElem? (i := 21) rfl)
theorem mw_22_22 : Cond.code yX5_beyondOf cX5_beyondOf 4 (some .int) ∈ wsL_law := inr_22 _ (List.mem_of_getElem? (i := 22) rfl)
theorem mw_22_23 : Cond.methodLink RL 82 yX4_beyond ∈ wsL_law := inr_22 _ (List.mem_of_getElem? (i := 23) rfl)
theorem mw_23_0 : Cond.instanceMethod yX4_beyond ∈ wsL_law := inr_23 _ (List.mem_of_getElem? (i := 0) rfl)
theorem mw_23_1 : Cond.selects RX4 yX4_beyond yX4_beyond ∈ wsL_law := inr_23 _ (List.mem_of_getElem? (i := 1) rfl)
theorem mw_23_2 : Cond.code yX4_beyond cX4_beyond 5 (some .int) ∈ wsL_law := inr_23 _ (List.mem_of_getElem? (i := 2) rfl)
theorem mw_23_3 : Cond.methodLink RX4 164 yX2_pointsBeyond ∈ wsL_law := inr_23 _ (List.mem_of_getElem? (i := 3) rfl)
theorem mw_23_4 : Cond.methodLink RL 85 yX5_beyond ∈ wsL_law := inr_23 _ (List.mem_of_getElem? (i := 4) rfl)
theorem mw_23_5 : Cond.instanceMethod yX5_beyond ∈ wsL_law := inr_23 _ (List.mem_of_getElem? (i := 5) rfl)
theorem mw_23_6 : Cond.selects RX5 yX5_beyond yX5_beyond ∈ wsL_law := inr_23 _ (List.mem_of_getElem? (i := 6) rfl)
theorem mw_23_7 : Cond.code yX5_beyond cX5_beyond 3 (some .int) ∈ wsL_law := inr_23 _ (List.mem_of_getElem? (i := 7) rfl)
theorem mw_23_8 : Cond.methodLink RL 86 yX4_share ∈ wsL_law := inr_23 _ (List.mem_of_getElem? (i := 8) rfl)
theorem mw_23_9 : Cond.instanceMethod yX4_share ∈ wsL_law := inr_23 _ (List.mem_of_getElem? (i := 9) rfl)
theorem mw_23_10 : Cond.selects RX4 yX4_share yX4_share ∈ wsL_law := inr_23 _ (List.mem_of_getElem? (i := 10) rfl)
theorem mw_23_11 : Cond.code yX4_share cX4_share 4 (some .int) ∈ wsL_law := inr_23 _ (List.mem_of_getElem? (i := 11) rfl)
theorem mw_23_12 : Cond.methodLink RX4 167 yX4_shareOf ∈ wsL_law := inr_23 _ (List.mem_of_getElem? (i := 12) rfl)
theorem mw_23_13 : Cond.instanceMethod yX4_shareOf ∈ wsL_law := inr_23 _ (List.mem_of_getElem? (i := 13) rfl)
theorem mw_23_14 : Cond.selects RX4 yX4_shareOf yX4_shareOf ∈ wsL_law := inr_23 _ (List.mem_of_getElem? (i := 14) rfl)
theorem mw_23_15 : Cond.code yX4_shareOf cX4_shareOf 4 (some (.array .int)) ∈ wsL_law := inr_23 _ (List.mem_of_getElem? (i := 15) rfl)
theorem mw_23_16 : Cond.methodLink RX4 239 yX1_makeShare ∈ wsL_law := inr_23 _ (List.mem_of_getElem? (i := 16) rfl)
theorem mw_23_17 : Cond.instanceMethod yX1_makeShare ∈ wsL_law := inr_23 _ (List.mem_of_getElem? (i := 17) rfl)
theorem mw_23_18 : Cond.selects RX1 yX1_makeShare yX1_makeShare ∈ wsL_law := inr_23 _ (List.mem_of_getElem? (i := 18) rfl)
theorem mw_23_19 : Cond.code yX1_makeShare cX1_makeShare 6 none ∈ wsL_law := inr_23 _ (List.mem_of_getElem? (i := 19) rfl)
theorem mw_23_20 : Cond.methodLink RX1 70 yX2_pointsOf ∈ wsL_law := inr_23 _ (List.mem_of_getElem? (i := 20) rfl)
theorem mw_23_21 : Cond.methodLink RX1 75 yJ7_fill_53178 ∈ wsL_law := inr_23 _ (List.mem_of_getElem? (i := 21) rfl)
theorem mw_23_22 : Cond.methodLink RX1 85 yX3_place ∈ wsL_law := inr_23 _ (List.mem_of_getElem? (i := 22) rfl)
theorem mw_23_23 : Cond.methodLink RL 89 yX5_share ∈ wsL_law := inr_23 _ (List.mem_of_getElem? (i := 23) rfl)
theorem mw_24_0 : Cond.instanceMethod yX5_share ∈ wsL_law := inr_24 _ (List.mem_of_getElem? (i := 0) rfl)
theorem mw_24_1 : Cond.selects RX5 yX5_share yX5_share ∈ wsL_law := inr_24 _ (List.mem_of_getElem? (i := 1) rfl)
theorem mw_24_2 : Cond.code yX5_share cX5_share 3 (some .int) ∈ wsL_law := inr_24 _ (List.mem_of_getElem? (i := 2) rfl)
theorem mw_24_3 : Cond.methodLink RX5 192 yX5_needShares ∈ wsL_law := inr_24 _ (List.mem_of_getElem? (i := 3) rfl)
theorem mw_24_4 : Cond.instanceMethod yX5_needShares ∈ wsL_law := inr_24 _ (List.mem_of_getElem? (i := 4) rfl)
theorem mw_24_5 : Cond.selects RX5 yX5_needShares yX5_needShares ∈ wsL_law := inr_24 _ (List.mem_of_getElem? (i := 5) rfl)
theorem mw_24_6 : Cond.code yX5_needShares cX5_needShares 3 none ∈ wsL_law := inr_24 _ (List.mem_of_getElem? (i := 6) rfl)
theorem mw_24_7 : Cond.methodLink RL 90 yX4_further ∈ wsL_law := inr_24 _ (List.mem_of_getElem? (i := 7) rfl)
theorem mw_24_8 : Cond.instanceMethod yX4_further ∈ wsL_law := inr_24 _ (List.mem_of_getElem? (i := 8) rfl)
theorem mw_24_9 : Cond.selects RX4 yX4_further yX4_further ∈ wsL_law := inr_24 _ (List.mem_of_getElem? (i := 9) rfl)
theorem mw_24_10 : Cond.code yX4_further cX4_further 11 (some .long) ∈ wsL_law := inr_24 _ (List.mem_of_getElem? (i := 10) rfl)
theorem mw_24_11 : Cond.constantLong RX4 171 (-1) ∈ wsL_law := inr_24 _ (List.mem_of_getElem? (i := 11) rfl)
theorem mw_24_12 : Cond.methodLink RL 94 yX5_further ∈ wsL_law := inr_24 _ (List.mem_of_getElem? (i := 12) rfl)
theorem mw_24_13 : Cond.instanceMethod yX5_further ∈ wsL_law := inr_24 _ (List.mem_of_getElem? (i := 13) rfl)
theorem mw_24_14 : Cond.selects RX5 yX5_further yX5_further ∈ wsL_law := inr_24 _ (List.mem_of_getElem? (i := 14) rfl)
theorem mw_24_15 : Cond.code yX5_further cX5_further 9 (some .long) ∈ wsL_law := inr_24 _ (List.mem_of_getElem? (i := 15) rfl)
theorem mw_24_16 : Cond.constantLong RX5 195 (12) ∈ wsL_law := inr_24 _ (List.mem_of_getElem? (i := 16) rfl)
theorem mw_24_17 : Cond.constantLong RX5 197 (-1) ∈ wsL_law := inr_24 _ (List.mem_of_getElem? (i := 17) rfl)
theorem mw_24_18 : Cond.methodLink RL 95 yX4_whole ∈ wsL_law := inr_24 _ (List.mem_of_getElem? (i := 18) rfl)
theorem mw_24_19 : Cond.instanceMethod yX4_whole ∈ wsL_law := inr_24 _ (List.mem_of_getElem? (i := 19) rfl)
theorem mw_24_20 : Cond.selects RX4 yX4_whole yX4_whole ∈ wsL_law := inr_24 _ (List.mem_of_getElem? (i := 20) rfl)
theorem mw_24_21 : Cond.code yX4_whole cX4_whole 8 (some .int) ∈ wsL_law := inr_24 _ (List.mem_of_getElem? (i := 21) rfl)
theorem mw_24_22 : Cond.methodLink RL 98 yX5_whole ∈ wsL_law := inr_24 _ (List.mem_of_getElem? (i := 22) rfl)
theorem mw_24_23 : Cond.instanceMethod yX5_whole ∈ wsL_law := inr_24 _ (List.mem_of_getElem? (i := 23) rfl)
theorem mw_25_0 : Cond.selects RX5 yX5_whole yX5_whole ∈ wsL_law := inr_25 _ (List.mem_of_getElem? (i := 0) rfl)
theorem mw_25_1 : Cond.code yX5_whole cX5_whole 2 (some .int) ∈ wsL_law := inr_25 _ (List.mem_of_getElem? (i := 1) rfl)
theorem mw_25_2 : Cond.methodLink RX5 199 yX5_wholeOf ∈ wsL_law := inr_25 _ (List.mem_of_getElem? (i := 2) rfl)
theorem mw_25_3 : Cond.instanceMethod yX5_wholeOf ∈ wsL_law := inr_25 _ (List.mem_of_getElem? (i := 3) rfl)
theorem mw_25_4 : Cond.selects RX5 yX5_wholeOf yX5_wholeOf ∈ wsL_law := inr_25 _ (List.mem_of_getElem? (i := 4) rfl)
theorem mw_25_5 : Cond.code yX5_wholeOf cX5_wholeOf 2 (some .int) ∈ wsL_law := inr_25 _ (List.mem_of_getElem? (i := 5) rfl)
theorem mw_25_6 : Cond.methodLink RL 99 yX4_bound ∈ wsL_law := inr_25 _ (List.mem_of_getElem? (i := 6) rfl)
theorem mw_25_7 : Cond.instanceMethod yX4_bound ∈ wsL_law := inr_25 _ (List.mem_of_getElem? (i := 7) rfl)
theorem mw_25_8 : Cond.selects RX4 yX4_bound yX4_bound ∈ wsL_law := inr_25 _ (List.mem_of_getElem? (i := 8) rfl)
theorem mw_25_9 : Cond.code yX4_bound cX4_bound 4 (some .int) ∈ wsL_law := inr_25 _ (List.mem_of_getElem? (i := 9) rfl)
theorem mw_25_10 : Cond.methodLink RL 102 yX5_bound ∈ wsL_law := inr_25 _ (List.mem_of_getElem? (i := 10) rfl)
theorem mw_25_11 : Cond.instanceMethod yX5_bound ∈ wsL_law := inr_25 _ (List.mem_of_getElem? (i := 11) rfl)
theorem mw_25_12 : Cond.selects RX5 yX5_bound yX5_bound ∈ wsL_law := inr_25 _ (List.mem_of_getElem? (i := 12) rfl)
theorem mw_25_13 : Cond.code yX5_bound cX5_bound 3 (some .int) ∈ wsL_law := inr_25 _ (List.mem_of_getElem? (i := 13) rfl)
theorem mw_25_14 : Cond.methodLink RL 103 yX4_surface ∈ wsL_law := inr_25 _ (List.mem_of_getElem? (i := 14) rfl)
theorem mw_25_15 : Cond.instanceMethod yX4_surface ∈ wsL_law := inr_25 _ (List.mem_of_getElem? (i := 15) rfl)
theorem mw_25_16 : Cond.selects RX4 yX4_surface yX4_surface ∈ wsL_law := inr_25 _ (List.mem_of_getElem? (i := 16) rfl)
theorem mw_25_17 : Cond.code yX4_surface cX4_surface 8 (some .int) ∈ wsL_law := inr_25 _ (List.mem_of_getElem? (i := 17) rfl)
theorem mw_25_18 : Cond.methodLink RX4 173 yX2_signSum ∈ wsL_law := inr_25 _ (List.mem_of_getElem? (i := 18) rfl)
theorem mw_25_19 : Cond.methodLink RL 106 yX5_surface ∈ wsL_law := inr_25 _ (List.mem_of_getElem? (i := 19) rfl)
theorem mw_25_20 : Cond.instanceMethod yX5_surface ∈ wsL_law := inr_25 _ (List.mem_of_getElem? (i := 20) rfl)
theorem mw_25_21 : Cond.selects RX5 yX5_surface yX5_surface ∈ wsL_law := inr_25 _ (List.mem_of_getElem? (i := 21) rfl)
theorem mw_25_22 : Cond.code yX5_surface cX5_surface 12 (some .int) ∈ wsL_law := inr_25 _ (List.mem_of_getElem? (i := 22) rfl)
theorem mw_25_23 : Cond.methodLink RL 107 yX4_best ∈ wsL_law := inr_25 _ (List.mem_of_getElem? (i := 23) rfl)
theorem mw_26_0 : Cond.instanceMethod yX4_best ∈ wsL_law := inr_26 _ (List.mem_of_getElem? (i := 0) rfl)
theorem mw_26_1 : Cond.selects RX4 yX4_best yX4_best ∈ wsL_law := inr_26 _ (List.mem_of_getElem? (i := 1) rfl)
theorem mw_26_2 : Cond.code yX4_best cX4_best 11 (some .int) ∈ wsL_law := inr_26 _ (List.mem_of_getElem? (i := 2) rfl)
theorem mw_26_3 : Cond.constant RX4 176 (1000000) ∈ wsL_law := inr_26 _ (List.mem_of_getElem? (i := 3) rfl)
theorem mw_26_4 : Cond.methodLink RX4 180 Lib.Math.max.name ∈ wsL_law := inr_26 _ (List.mem_of_getElem? (i := 4) rfl)
theorem mw_26_5 : Cond.methodLink RX4 185 Lib.Math.min.name ∈ wsL_law := inr_26 _ (List.mem_of_getElem? (i := 5) rfl)
theorem mw_26_6 : Cond.static Lib.Math.min.name ∈ wsL_law := inr_26 _ (List.mem_of_getElem? (i := 6) rfl)
theorem mw_26_7 : Cond.code Lib.Math.min.name Lib.Math.min.code 2 (some .int) ∈ wsL_law := inr_26 _ (List.mem_of_getElem? (i := 7) rfl)
theorem mw_26_8 : Cond.methodLink RL 110 yX5_best ∈ wsL_law := inr_26 _ (List.mem_of_getElem? (i := 8) rfl)
theorem mw_26_9 : Cond.instanceMethod yX5_best ∈ wsL_law := inr_26 _ (List.mem_of_getElem? (i := 9) rfl)
theorem mw_26_10 : Cond.selects RX5 yX5_best yX5_best ∈ wsL_law := inr_26 _ (List.mem_of_getElem? (i := 10) rfl)
theorem mw_26_11 : Cond.code yX5_best cX5_best 11 (some .int) ∈ wsL_law := inr_26 _ (List.mem_of_getElem? (i := 11) rfl)
theorem mw_26_12 : Cond.constantLong RX5 202 (3) ∈ wsL_law := inr_26 _ (List.mem_of_getElem? (i := 12) rfl)
theorem mw_26_13 : Cond.constantLong RX5 204 (6) ∈ wsL_law := inr_26 _ (List.mem_of_getElem? (i := 13) rfl)
theorem mw_26_14 : Cond.constantLong RX5 206 (1000000) ∈ wsL_law := inr_26 _ (List.mem_of_getElem? (i := 14) rfl)
theorem mw_26_15 : Cond.constantLong RX5 208 (100) ∈ wsL_law := inr_26 _ (List.mem_of_getElem? (i := 15) rfl)
theorem mw_26_16 : Cond.methodLink RL 111 yX4_isClass ∈ wsL_law := inr_26 _ (List.mem_of_getElem? (i := 16) rfl)
theorem mw_26_17 : Cond.instanceMethod yX4_isClass ∈ wsL_law := inr_26 _ (List.mem_of_getElem? (i := 17) rfl)
theorem mw_26_18 : Cond.selects RX4 yX4_isClass yX4_isClass ∈ wsL_law := inr_26 _ (List.mem_of_getElem? (i := 18) rfl)
theorem mw_26_19 : Cond.code yX4_isClass cX4_isClass 5 (some .int) ∈ wsL_law := inr_26 _ (List.mem_of_getElem? (i := 19) rfl)
theorem mw_26_20 : Cond.methodLink RX4 188 yX4_listAt ∈ wsL_law := inr_26 _ (List.mem_of_getElem? (i := 20) rfl)
theorem mw_26_21 : Cond.instanceMethod yX4_listAt ∈ wsL_law := inr_26 _ (List.mem_of_getElem? (i := 21) rfl)
theorem mw_26_22 : Cond.selects RX4 yX4_listAt yX4_listAt ∈ wsL_law := inr_26 _ (List.mem_of_getElem? (i := 22) rfl)
theorem mw_26_23 : Cond.code yX4_listAt cX4_listAt 3 (some (.object "FieldCounts$ClassList")) ∈ wsL_law := inr_26 _ (List.mem_of_getElem? (i := 23) rfl)
theorem mw_27_0 : Cond.methodLink RX4 192 yX0_holds ∈ wsL_law := inr_27 _ (List.mem_of_getElem? (i := 0) rfl)
theorem mw_27_1 : Cond.instanceMethod yX0_holds ∈ wsL_law := inr_27 _ (List.mem_of_getElem? (i := 1) rfl)
theorem mw_27_2 : Cond.selects RX0 yX0_holds yX0_holds ∈ wsL_law := inr_27 _ (List.mem_of_getElem? (i := 2) rfl)
theorem mw_27_3 : Cond.code yX0_holds cX0_holds 5 (some .boolean) ∈ wsL_law := inr_27 _ (List.mem_of_getElem? (i := 3) rfl)
theorem mw_27_4 : Cond.methodLink RX0 29 yX3_place ∈ wsL_law := inr_27 _ (List.mem_of_getElem? (i := 4) rfl)
theorem mw_27_5 : Cond.methodLink RX0 35 yX3_squareRest ∈ wsL_law := inr_27 _ (List.mem_of_getElem? (i := 5) rfl)
theorem mw_27_6 : Cond.instanceMethod yX3_squareRest ∈ wsL_law := inr_27 _ (List.mem_of_getElem? (i := 6) rfl)
theorem mw_27_7 : Cond.selects RX3 yX3_squareRest yX3_squareRest ∈ wsL_law := inr_27 _ (List.mem_of_getElem? (i := 7) rfl)
theorem mw_27_8 : Cond.code yX3_squareRest cX3_squareRest 9 (some .int) ∈ wsL_law := inr_27 _ (List.mem_of_getElem? (i := 8) rfl)
theorem mw_27_9 : Cond.methodLink RX0 39 yX3_rest ∈ wsL_law := inr_27 _ (List.mem_of_getElem? (i := 9) rfl)
theorem mw_27_10 : Cond.methodLink RL 114 yX5_isClass ∈ wsL_law := inr_27 _ (List.mem_of_getElem? (i := 10) rfl)
theorem mw_27_11 : Cond.instanceMethod yX5_isClass ∈ wsL_law := inr_27 _ (List.mem_of_getElem? (i := 11) rfl)
theorem mw_27_12 : Cond.selects RX5 yX5_isClass yX5_isClass ∈ wsL_law := inr_27 _ (List.mem_of_getElem? (i := 12) rfl)
theorem mw_27_13 : Cond.code yX5_isClass cX5_isClass 4 (some .int) ∈ wsL_law := inr_27 _ (List.mem_of_getElem? (i := 13) rfl)
theorem mw_27_14 : Cond.methodLink RX5 220 yX5_hasClasses ∈ wsL_law := inr_27 _ (List.mem_of_getElem? (i := 14) rfl)
theorem mw_27_15 : Cond.instanceMethod yX5_hasClasses ∈ wsL_law := inr_27 _ (List.mem_of_getElem? (i := 15) rfl)
theorem mw_27_16 : Cond.selects RX5 yX5_hasClasses yX5_hasClasses ∈ wsL_law := inr_27 _ (List.mem_of_getElem? (i := 16) rfl)
theorem mw_27_17 : Cond.code yX5_hasClasses cX5_hasClasses 2 (some .boolean) ∈ wsL_law := inr_27 _ (List.mem_of_getElem? (i := 17) rfl)
theorem mw_27_18 : Cond.methodLink RX5 223 yX5_isClassOf ∈ wsL_law := inr_27 _ (List.mem_of_getElem? (i := 18) rfl)
theorem mw_27_19 : Cond.instanceMethod yX5_isClassOf ∈ wsL_law := inr_27 _ (List.mem_of_getElem? (i := 19) rfl)
theorem mw_27_20 : Cond.selects RX5 yX5_isClassOf yX5_isClassOf ∈ wsL_law := inr_27 _ (List.mem_of_getElem? (i := 20) rfl)
theorem mw_27_21 : Cond.code yX5_isClassOf cX5_isClassOf 6 (some .boolean) ∈ wsL_law := inr_27 _ (List.mem_of_getElem? (i := 21) rfl)
theorem mw_27_22 : Cond.methodLink RX5 210 yX5_goesIn ∈ wsL_law := inr_27 _ (List.mem_of_getElem? (i := 22) rfl)
theorem mw_27_23 : Cond.instanceMethod yX5_goesIn ∈ wsL_law := inr_27 _ (List.mem_of_getElem? (i := 23) rfl)
theorem mw_28_0 : Cond.selects RX5 yX5_goesIn yX5_goesIn ∈ wsL_law := inr_28 _ (List.mem_of_getElem? (i := 0) rfl)
theorem mw_28_1 : Cond.code yX5_goesIn cX5_goesIn 4 (some .boolean) ∈ wsL_law := inr_28 _ (List.mem_of_getElem? (i := 1) rfl)
theorem mw_28_2 : Cond.methodLink RL 115 yX4_classes ∈ wsL_law := inr_28 _ (List.mem_of_getElem? (i := 2) rfl)
theorem mw_28_3 : Cond.instanceMethod yX4_classes ∈ wsL_law := inr_28 _ (List.mem_of_getElem? (i := 3) rfl)
theorem mw_28_4 : Cond.selects RX4 yX4_classes yX4_classes ∈ wsL_law := inr_28 _ (List.mem_of_getElem? (i := 4) rfl)
theorem mw_28_5 : Cond.code yX4_classes cX4_classes 3 (some .int) ∈ wsL_law := inr_28 _ (List.mem_of_getElem? (i := 5) rfl)
theorem mw_28_6 : Cond.methodLink RX4 198 yX0_many ∈ wsL_law := inr_28 _ (List.mem_of_getElem? (i := 6) rfl)
theorem mw_28_7 : Cond.instanceMethod yX0_many ∈ wsL_law := inr_28 _ (List.mem_of_getElem? (i := 7) rfl)
theorem mw_28_8 : Cond.selects RX0 yX0_many yX0_many ∈ wsL_law := inr_28 _ (List.mem_of_getElem? (i := 8) rfl)
theorem mw_28_9 : Cond.code yX0_many cX0_many 1 (some .int) ∈ wsL_law := inr_28 _ (List.mem_of_getElem? (i := 9) rfl)
theorem mw_28_10 : Cond.methodLink RX0 42 yX0_goThrough ∈ wsL_law := inr_28 _ (List.mem_of_getElem? (i := 10) rfl)
theorem mw_28_11 : Cond.instanceMethod yX0_goThrough ∈ wsL_law := inr_28 _ (List.mem_of_getElem? (i := 11) rfl)
theorem mw_28_12 : Cond.selects RX0 yX0_goThrough yX0_goThrough ∈ wsL_law := inr_28 _ (List.mem_of_getElem? (i := 12) rfl)
theorem mw_28_13 : Cond.code yX0_goThrough cX0_goThrough 4 none ∈ wsL_law := inr_28 _ (List.mem_of_getElem? (i := 13) rfl)
theorem mw_28_14 : Cond.methodLink RX0 98 yX0_listWith ∈ wsL_law := inr_28 _ (List.mem_of_getElem? (i := 14) rfl)
theorem mw_28_15 : Cond.instanceMethod yX0_listWith ∈ wsL_law := inr_28 _ (List.mem_of_getElem? (i := 15) rfl)
theorem mw_28_16 : Cond.selects RX0 yX0_listWith yX0_listWith ∈ wsL_law := inr_28 _ (List.mem_of_getElem? (i := 16) rfl)
theorem mw_28_17 : Cond.code yX0_listWith cX0_listWith 5 none ∈ wsL_law := inr_28 _ (List.mem_of_getElem? (i := 17) rfl)
theorem mw_28_18 : Cond.methodLink RX0 65 yX0_keyOf ∈ wsL_law := inr_28 _ (List.mem_of_getElem? (i := 18) rfl)
theorem mw_28_19 : Cond.instanceMethod yX0_keyOf ∈ wsL_law := inr_28 _ (List.mem_of_getElem? (i := 19) rfl)
theorem mw_28_20 : Cond.selects RX0 yX0_keyOf yX0_keyOf ∈ wsL_law := inr_28 _ (List.mem_of_getElem? (i := 20) rfl)
theorem mw_28_21 : Cond.code yX0_keyOf cX0_keyOf 3 (some .int) ∈ wsL_law := inr_28 _ (List.mem_of_getElem? (i := 21) rfl)
theorem mw_28_22 : Cond.methodLink RL 118 yX5_classes ∈ wsL_law := inr_28 _ (List.mem_of_getElem? (i := 22) rfl)
theorem mw_28_23 : Cond.instanceMethod yX5_classes ∈ wsL_law := inr_28 _ (List.mem_of_getElem? (i := 23) rfl)
theorem mw_29_0 : Cond.selects RX5 yX5_classes yX5_classes ∈ wsL_law := inr_29 _ (List.mem_of_getElem? (i := 0) rfl)
theorem mw_29_1 : Cond.code yX5_classes cX5_classes 2 (some .int) ∈ wsL_law := inr_29 _ (List.mem_of_getElem? (i := 1) rfl)
theorem mw_29_2 : Cond.fieldLink RX5 214 "FieldCountsModel" "many" "I" ∈ wsL_law := inr_29 _ (List.mem_of_getElem? (i := 2) rfl)
theorem mw_29_3 : Cond.methodLink RX5 226 yX5_needClasses ∈ wsL_law := inr_29 _ (List.mem_of_getElem? (i := 3) rfl)
theorem mw_29_4 : Cond.instanceMethod yX5_needClasses ∈ wsL_law := inr_29 _ (List.mem_of_getElem? (i := 4) rfl)
theorem mw_29_5 : Cond.selects RX5 yX5_needClasses yX5_needClasses ∈ wsL_law := inr_29 _ (List.mem_of_getElem? (i := 5) rfl)
theorem mw_29_6 : Cond.code yX5_needClasses cX5_needClasses 6 none ∈ wsL_law := inr_29 _ (List.mem_of_getElem? (i := 6) rfl)
theorem mw_29_7 : Cond.methodLink RX5 217 yX5_leaves ∈ wsL_law := inr_29 _ (List.mem_of_getElem? (i := 7) rfl)
theorem mw_29_8 : Cond.instanceMethod yX5_leaves ∈ wsL_law := inr_29 _ (List.mem_of_getElem? (i := 8) rfl)
theorem mw_29_9 : Cond.selects RX5 yX5_leaves yX5_leaves ∈ wsL_law := inr_29 _ (List.mem_of_getElem? (i := 9) rfl)
theorem mw_29_10 : Cond.code yX5_leaves cX5_leaves 6 (some .boolean) ∈ wsL_law := inr_29 _ (List.mem_of_getElem? (i := 10) rfl)
theorem mw_29_11 : Cond.methodLink RL 119 yX4_classAt ∈ wsL_law := inr_29 _ (List.mem_of_getElem? (i := 11) rfl)
theorem mw_29_12 : Cond.instanceMethod yX4_classAt ∈ wsL_law := inr_29 _ (List.mem_of_getElem? (i := 12) rfl)
theorem mw_29_13 : Cond.selects RX4 yX4_classAt yX4_classAt ∈ wsL_law := inr_29 _ (List.mem_of_getElem? (i := 13) rfl)
theorem mw_29_14 : Cond.code yX4_classAt cX4_classAt 6 (some .int) ∈ wsL_law := inr_29 _ (List.mem_of_getElem? (i := 14) rfl)
theorem mw_29_15 : Cond.methodLink RX4 202 yX0_keyAt ∈ wsL_law := inr_29 _ (List.mem_of_getElem? (i := 15) rfl)
theorem mw_29_16 : Cond.instanceMethod yX0_keyAt ∈ wsL_law := inr_29 _ (List.mem_of_getElem? (i := 16) rfl)
theorem mw_29_17 : Cond.selects RX0 yX0_keyAt yX0_keyAt ∈ wsL_law := inr_29 _ (List.mem_of_getElem? (i := 17) rfl)
theorem mw_29_18 : Cond.code yX0_keyAt cX0_keyAt 2 (some .int) ∈ wsL_law := inr_29 _ (List.mem_of_getElem? (i := 18) rfl)
theorem mw_29_19 : Cond.methodLink RX4 205 yX0_uOf ∈ wsL_law := inr_29 _ (List.mem_of_getElem? (i := 19) rfl)
theorem mw_29_20 : Cond.instanceMethod yX0_uOf ∈ wsL_law := inr_29 _ (List.mem_of_getElem? (i := 20) rfl)
theorem mw_29_21 : Cond.selects RX0 yX0_uOf yX0_uOf ∈ wsL_law := inr_29 _ (List.mem_of_getElem? (i := 21) rfl)
theorem mw_29_22 : Cond.code yX0_uOf cX0_uOf 2 (some .int) ∈ wsL_law := inr_29 _ (List.mem_of_getElem? (i := 22) rfl)
theorem mw_29_23 : Cond.methodLink RX4 208 yX0_vOf ∈ wsL_law := inr_29 _ (List.mem_of_getElem? (i := 23) rfl)
theorem mw_30_0 : Cond.instanceMethod yX0_vOf ∈ wsL_law := inr_30 _ (List.mem_of_getElem? (i := 0) rfl)
theorem mw_30_1 : Cond.selects RX0 yX0_vOf yX0_vOf ∈ wsL_law := inr_30 _ (List.mem_of_getElem? (i := 1) rfl)
theorem mw_30_2 : Cond.code yX0_vOf cX0_vOf 2 (some .int) ∈ wsL_law := inr_30 _ (List.mem_of_getElem? (i := 2) rfl)
theorem mw_30_3 : Cond.methodLink RL 122 yX5_classAt ∈ wsL_law := inr_30 _ (List.mem_of_getElem? (i := 3) rfl)
theorem mw_30_4 : Cond.instanceMethod yX5_classAt ∈ wsL_law := inr_30 _ (List.mem_of_getElem? (i := 4) rfl)
theorem mw_30_5 : Cond.selects RX5 yX5_classAt yX5_classAt ∈ wsL_law := inr_30 _ (List.mem_of_getElem? (i := 5) rfl)
theorem mw_30_6 : Cond.code yX5_classAt cX5_classAt 4 (some .int) ∈ wsL_law := inr_30 _ (List.mem_of_getElem? (i := 6) rfl)
theorem mw_30_7 : Cond.methodLink RL 123 yX4_add ∈ wsL_law := inr_30 _ (List.mem_of_getElem? (i := 7) rfl)
theorem mw_30_8 : Cond.instanceMethod yX4_add ∈ wsL_law := inr_30 _ (List.mem_of_getElem? (i := 8) rfl)
theorem mw_30_9 : Cond.selects RX4 yX4_add yX4_add ∈ wsL_law := inr_30 _ (List.mem_of_getElem? (i := 9) rfl)
theorem mw_30_10 : Cond.code yX4_add cX4_add 5 (some .int) ∈ wsL_law := inr_30 _ (List.mem_of_getElem? (i := 10) rfl)
theorem mw_30_11 : Cond.methodLink RX4 211 yX0_reaches ∈ wsL_law := inr_30 _ (List.mem_of_getElem? (i := 11) rfl)
theorem mw_30_12 : Cond.instanceMethod yX0_reaches ∈ wsL_law := inr_30 _ (List.mem_of_getElem? (i := 12) rfl)
theorem mw_30_13 : Cond.selects RX0 yX0_reaches yX0_reaches ∈ wsL_law := inr_30 _ (List.mem_of_getElem? (i := 13) rfl)
theorem mw_30_14 : Cond.code yX0_reaches cX0_reaches 2 (some .boolean) ∈ wsL_law := inr_30 _ (List.mem_of_getElem? (i := 14) rfl)
theorem mw_30_15 : Cond.methodLink RX0 45 yX0_many ∈ wsL_law := inr_30 _ (List.mem_of_getElem? (i := 15) rfl)
theorem mw_30_16 : Cond.methodLink RX4 214 yX0_sumOf ∈ wsL_law := inr_30 _ (List.mem_of_getElem? (i := 16) rfl)
theorem mw_30_17 : Cond.instanceMethod yX0_sumOf ∈ wsL_law := inr_30 _ (List.mem_of_getElem? (i := 17) rfl)
theorem mw_30_18 : Cond.selects RX0 yX0_sumOf yX0_sumOf ∈ wsL_law := inr_30 _ (List.mem_of_getElem? (i := 18) rfl)
theorem mw_30_19 : Cond.code yX0_sumOf cX0_sumOf 18 (some .int) ∈ wsL_law := inr_30 _ (List.mem_of_getElem? (i := 19) rfl)
theorem mw_30_20 : Cond.methodLink RX0 56 yX0_uOf ∈ wsL_law := inr_30 _ (List.mem_of_getElem? (i := 20) rfl)
theorem mw_30_21 : Cond.methodLink RX0 59 yX0_vOf ∈ wsL_law := inr_30 _ (List.mem_of_getElem? (i := 21) rfl)
theorem mw_30_22 : Cond.methodLink RX0 74 yX3_commonDivisor ∈ wsL_law := inr_30 _ (List.mem_of_getElem? (i := 22) rfl)
theorem mw_30_23 : Cond.methodLink RX0 77 yX3_cofactor ∈ wsL_law := inr_30 _ (List.mem_of_getElem? (i := 23) rfl)
theorem mw_31_0 : Cond.instanceMethod yX3_cofactor ∈ wsL_law := inr_31 _ (List.mem_of_getElem? (i := 0) rfl)
theorem mw_31_1 : Cond.selects RX3 yX3_cofactor yX3_cofactor ∈ wsL_law := inr_31 _ (List.mem_of_getElem? (i := 1) rfl)
theorem mw_31_2 : Cond.code yX3_cofactor cX3_cofactor 11 (some .int) ∈ wsL_law := inr_31 _ (List.mem_of_getElem? (i := 2) rfl)
theorem mw_31_3 : Cond.methodLink RX3 52 yX3_quotient ∈ wsL_law := inr_31 _ (List.mem_of_getElem? (i := 3) rfl)
theorem mw_31_4 : Cond.instanceMethod yX3_quotient ∈ wsL_law := inr_31 _ (List.mem_of_getElem? (i := 4) rfl)
theorem mw_31_5 : Cond.selects RX3 yX3_quotient yX3_quotient ∈ wsL_law := inr_31 _ (List.mem_of_getElem? (i := 5) rfl)
theorem mw_31_6 : Cond.code yX3_quotient cX3_quotient 9 (some .int) ∈ wsL_law := inr_31 _ (List.mem_of_getElem? (i := 6) rfl)
theorem mw_31_7 : Cond.methodLink RX0 80 yX3_product ∈ wsL_law := inr_31 _ (List.mem_of_getElem? (i := 7) rfl)
theorem mw_31_8 : Cond.methodLink RX0 62 yX3_difference ∈ wsL_law := inr_31 _ (List.mem_of_getElem? (i := 8) rfl)
theorem mw_31_9 : Cond.methodLink RX0 83 yX3_quotient ∈ wsL_law := inr_31 _ (List.mem_of_getElem? (i := 9) rfl)
theorem mw_31_10 : Cond.methodLink RX0 86 yX3_sum ∈ wsL_law := inr_31 _ (List.mem_of_getElem? (i := 10) rfl)
theorem mw_31_11 : Cond.methodLink RX0 89 yX0_reduced ∈ wsL_law := inr_31 _ (List.mem_of_getElem? (i := 11) rfl)
theorem mw_31_12 : Cond.instanceMethod yX0_reduced ∈ wsL_law := inr_31 _ (List.mem_of_getElem? (i := 12) rfl)
theorem mw_31_13 : Cond.selects RX0 yX0_reduced yX0_reduced ∈ wsL_law := inr_31 _ (List.mem_of_getElem? (i := 13) rfl)
theorem mw_31_14 : Cond.code yX0_reduced cX0_reduced 6 (some .int) ∈ wsL_law := inr_31 _ (List.mem_of_getElem? (i := 14) rfl)
theorem mw_31_15 : Cond.methodLink RX0 92 yX3_degree ∈ wsL_law := inr_31 _ (List.mem_of_getElem? (i := 15) rfl)
theorem mw_31_16 : Cond.methodLink RX0 95 yX3_monic ∈ wsL_law := inr_31 _ (List.mem_of_getElem? (i := 16) rfl)
theorem mw_31_17 : Cond.methodLink RX4 217 yX0_placeOf ∈ wsL_law := inr_31 _ (List.mem_of_getElem? (i := 17) rfl)
theorem mw_31_18 : Cond.instanceMethod yX0_placeOf ∈ wsL_law := inr_31 _ (List.mem_of_getElem? (i := 18) rfl)
theorem mw_31_19 : Cond.selects RX0 yX0_placeOf yX0_placeOf ∈ wsL_law := inr_31 _ (List.mem_of_getElem? (i := 19) rfl)
theorem mw_31_20 : Cond.code yX0_placeOf cX0_placeOf 3 (some .int) ∈ wsL_law := inr_31 _ (List.mem_of_getElem? (i := 20) rfl)
theorem mw_31_21 : Cond.methodLink RL 126 yX5_add ∈ wsL_law := inr_31 _ (List.mem_of_getElem? (i := 21) rfl)
theorem mw_31_22 : Cond.instanceMethod yX5_add ∈ wsL_law := inr_31 _ (List.mem_of_getElem? (i := 22) rfl)
theorem mw_31_23 : Cond.selects RX5 yX5_add yX5_add ∈ wsL_law := inr_31 _ (List.mem_of_getElem? (i := 23) rfl)
theorem mw_32_0 : Cond.code yX5_add cX5_add 4 (some .int) ∈ wsL_law := inr_32 _ (List.mem_of_getElem? (i := 0) rfl)
theorem mw_32_1 : Cond.methodLink RX5 232 yX5_isThere ∈ wsL_law := inr_32 _ (List.mem_of_getElem? (i := 1) rfl)
theorem mw_32_2 : Cond.instanceMethod yX5_isThere ∈ wsL_law := inr_32 _ (List.mem_of_getElem? (i := 2) rfl)
theorem mw_32_3 : Cond.selects RX5 yX5_isThere yX5_isThere ∈ wsL_law := inr_32 _ (List.mem_of_getElem? (i := 3) rfl)
theorem mw_32_4 : Cond.code yX5_isThere cX5_isThere 3 (some .boolean) ∈ wsL_law := inr_32 _ (List.mem_of_getElem? (i := 4) rfl)
theorem mw_32_5 : Cond.methodLink RX5 235 yX5_addOf ∈ wsL_law := inr_32 _ (List.mem_of_getElem? (i := 5) rfl)
theorem mw_32_6 : Cond.instanceMethod yX5_addOf ∈ wsL_law := inr_32 _ (List.mem_of_getElem? (i := 6) rfl)
theorem mw_32_7 : Cond.selects RX5 yX5_addOf yX5_addOf ∈ wsL_law := inr_32 _ (List.mem_of_getElem? (i := 7) rfl)
theorem mw_32_8 : Cond.code yX5_addOf cX5_addOf 4 (some .int) ∈ wsL_law := inr_32 _ (List.mem_of_getElem? (i := 8) rfl)
theorem mw_32_9 : Cond.methodLink RX5 229 yX5_find ∈ wsL_law := inr_32 _ (List.mem_of_getElem? (i := 9) rfl)
theorem mw_32_10 : Cond.instanceMethod yX5_find ∈ wsL_law := inr_32 _ (List.mem_of_getElem? (i := 10) rfl)
theorem mw_32_11 : Cond.selects RX5 yX5_find yX5_find ∈ wsL_law := inr_32 _ (List.mem_of_getElem? (i := 11) rfl)
theorem mw_32_12 : Cond.code yX5_find cX5_find 4 (some .int) ∈ wsL_law := inr_32 _ (List.mem_of_getElem? (i := 12) rfl)
theorem mw_32_13 : Cond.methodLink RL 127 yX4_minus ∈ wsL_law := inr_32 _ (List.mem_of_getElem? (i := 13) rfl)
theorem mw_32_14 : Cond.instanceMethod yX4_minus ∈ wsL_law := inr_32 _ (List.mem_of_getElem? (i := 14) rfl)
theorem mw_32_15 : Cond.selects RX4 yX4_minus yX4_minus ∈ wsL_law := inr_32 _ (List.mem_of_getElem? (i := 15) rfl)
theorem mw_32_16 : Cond.code yX4_minus cX4_minus 4 (some .int) ∈ wsL_law := inr_32 _ (List.mem_of_getElem? (i := 16) rfl)
theorem mw_32_17 : Cond.methodLink RX4 220 yX0_oppositeOf ∈ wsL_law := inr_32 _ (List.mem_of_getElem? (i := 17) rfl)
theorem mw_32_18 : Cond.instanceMethod yX0_oppositeOf ∈ wsL_law := inr_32 _ (List.mem_of_getElem? (i := 18) rfl)
theorem mw_32_19 : Cond.selects RX0 yX0_oppositeOf yX0_oppositeOf ∈ wsL_law := inr_32 _ (List.mem_of_getElem? (i := 19) rfl)
theorem mw_32_20 : Cond.code yX0_oppositeOf cX0_oppositeOf 2 (some .int) ∈ wsL_law := inr_32 _ (List.mem_of_getElem? (i := 20) rfl)
theorem mw_32_21 : Cond.methodLink RL 130 yX5_minus ∈ wsL_law := inr_32 _ (List.mem_of_getElem? (i := 21) rfl)
theorem mw_32_22 : Cond.instanceMethod yX5_minus ∈ wsL_law := inr_32 _ (List.mem_of_getElem? (i := 22) rfl)
theorem mw_32_23 : Cond.selects RX5 yX5_minus yX5_minus ∈ wsL_law := inr_32 _ (List.mem_of_getElem? (i := 23) rfl)
theorem mw_33_0 : Cond.code yX5_minus cX5_minus 3 (some .int) ∈ wsL_law := inr_33 _ (List.mem_of_getElem? (i := 0) rfl)
theorem mw_33_1 : Cond.methodLink RL 131 yX4_order ∈ wsL_law := inr_33 _ (List.mem_of_getElem? (i := 1) rfl)
theorem mw_33_2 : Cond.instanceMethod yX4_order ∈ wsL_law := inr_33 _ (List.mem_of_getElem? (i := 2) rfl)
theorem mw_33_3 : Cond.selects RX4 yX4_order yX4_order ∈ wsL_law := inr_33 _ (List.mem_of_getElem? (i := 3) rfl)
theorem mw_33_4 : Cond.code yX4_order cX4_order 4 (some .int) ∈ wsL_law := inr_33 _ (List.mem_of_getElem? (i := 4) rfl)
theorem mw_33_5 : Cond.methodLink RX4 223 yX0_orderOf ∈ wsL_law := inr_33 _ (List.mem_of_getElem? (i := 5) rfl)
theorem mw_33_6 : Cond.instanceMethod yX0_orderOf ∈ wsL_law := inr_33 _ (List.mem_of_getElem? (i := 6) rfl)
theorem mw_33_7 : Cond.selects RX0 yX0_orderOf yX0_orderOf ∈ wsL_law := inr_33 _ (List.mem_of_getElem? (i := 7) rfl)
theorem mw_33_8 : Cond.code yX0_orderOf cX0_orderOf 5 (some .int) ∈ wsL_law := inr_33 _ (List.mem_of_getElem? (i := 8) rfl)
theorem mw_33_9 : Cond.methodLink RX0 68 yX0_multipleOf ∈ wsL_law := inr_33 _ (List.mem_of_getElem? (i := 9) rfl)
theorem mw_33_10 : Cond.instanceMethod yX0_multipleOf ∈ wsL_law := inr_33 _ (List.mem_of_getElem? (i := 10) rfl)
theorem mw_33_11 : Cond.selects RX0 yX0_multipleOf yX0_multipleOf ∈ wsL_law := inr_33 _ (List.mem_of_getElem? (i := 11) rfl)
theorem mw_33_12 : Cond.code yX0_multipleOf cX0_multipleOf 6 (some .int) ∈ wsL_law := inr_33 _ (List.mem_of_getElem? (i := 12) rfl)
theorem mw_33_13 : Cond.methodLink RX0 71 yX0_sumOf ∈ wsL_law := inr_33 _ (List.mem_of_getElem? (i := 13) rfl)
theorem mw_33_14 : Cond.methodLink RL 134 yX5_order ∈ wsL_law := inr_33 _ (List.mem_of_getElem? (i := 14) rfl)
theorem mw_33_15 : Cond.instanceMethod yX5_order ∈ wsL_law := inr_33 _ (List.mem_of_getElem? (i := 15) rfl)
theorem mw_33_16 : Cond.selects RX5 yX5_order yX5_order ∈ wsL_law := inr_33 _ (List.mem_of_getElem? (i := 16) rfl)
theorem mw_33_17 : Cond.code yX5_order cX5_order 5 (some .int) ∈ wsL_law := inr_33 _ (List.mem_of_getElem? (i := 17) rfl)
theorem mw_33_18 : Cond.methodLink RL 135 yX4_told ∈ wsL_law := inr_33 _ (List.mem_of_getElem? (i := 18) rfl)
theorem mw_33_19 : Cond.instanceMethod yX4_told ∈ wsL_law := inr_33 _ (List.mem_of_getElem? (i := 19) rfl)
theorem mw_33_20 : Cond.selects RX4 yX4_told yX4_told ∈ wsL_law := inr_33 _ (List.mem_of_getElem? (i := 20) rfl)
theorem mw_33_21 : Cond.code yX4_told cX4_told 2 (some .int) ∈ wsL_law := inr_33 _ (List.mem_of_getElem? (i := 21) rfl)
theorem mw_33_22 : Cond.methodLink RL 138 yX5_told ∈ wsL_law := inr_33 _ (List.mem_of_getElem? (i := 22) rfl)
theorem mw_33_23 : Cond.instanceMethod yX5_told ∈ wsL_law := inr_33 _ (List.mem_of_getElem? (i := 23) rfl)
theorem mw_34_0 : Cond.selects RX5 yX5_told yX5_told ∈ wsL_law := inr_34 _ (List.mem_of_getElem? (i := 0) rfl)
theorem mw_34_1 : Cond.code yX5_told cX5_told 2 (some .int) ∈ wsL_law := inr_34 _ (List.mem_of_getElem? (i := 1) rfl)
theorem mw_34_2 : Cond.methodLink RL 139 yX4_traced ∈ wsL_law := inr_34 _ (List.mem_of_getElem? (i := 2) rfl)
theorem mw_34_3 : Cond.instanceMethod yX4_traced ∈ wsL_law := inr_34 _ (List.mem_of_getElem? (i := 3) rfl)
theorem mw_34_4 : Cond.selects RX4 yX4_traced yX4_traced ∈ wsL_law := inr_34 _ (List.mem_of_getElem? (i := 4) rfl)
theorem mw_34_5 : Cond.code yX4_traced cX4_traced 1 (some .long) ∈ wsL_law := inr_34 _ (List.mem_of_getElem? (i := 5) rfl)
theorem mw_34_6 : Cond.methodLink RL 143 yX5_traced ∈ wsL_law := inr_34 _ (List.mem_of_getElem? (i := 6) rfl)
theorem mw_34_7 : Cond.instanceMethod yX5_traced ∈ wsL_law := inr_34 _ (List.mem_of_getElem? (i := 7) rfl)
theorem mw_34_8 : Cond.selects RX5 yX5_traced yX5_traced ∈ wsL_law := inr_34 _ (List.mem_of_getElem? (i := 8) rfl)
theorem mw_34_9 : Cond.code yX5_traced cX5_traced 1 (some .long) ∈ wsL_law := inr_34 _ (List.mem_of_getElem? (i := 9) rfl)
theorem wsG_all : ∀ w ∈ wsL_law, goodWord w = true := by
  intro w h
  have all (l : List Cond) (hl : l.all goodWord = true) : ∀ w ∈ l, goodWord w = true := fun w hw => List.all_eq_true.mp hl w hw
  unfold wsL_law at h
  simp only [List.mem_append] at h
  simp only [List.not_mem_nil, or_false] at h
  rcases h with ((((((h | (h | (h | (h | (h | (h | (h | (h | (h | (h | (h | (h | (h | (h | (h | (h | (h | (h | (h | (h | (h | (h | (h | (h | (h | (h | (h | (h | (h | (h | (h | (h | (h | h))))))))))))))))))))))))))))))))) | h) | h) | h) | h) | h) | h
  · exact all _ (by decide +kernel) _ h
  · exact all _ (by decide +kernel) _ h
  · exact all _ (by decide +kernel) _ h
  · exact all _ (by decide +kernel) _ h
  · exact all _ (by decide +kernel) _ h
  · exact all _ (by decide +kernel) _ h
  · exact all _ (by decide +kernel) _ h
  · exact all _ (by decide +kernel) _ h
  · exact all _ (by decide +kernel) _ h
  · exact all _ (by decide +kernel) _ h
  · exact all _ (by decide +kernel) _ h
  · exact all _ (by decide +kernel) _ h
  · exact all _ (by decide +kernel) _ h
  · exact all _ (by decide +kernel) _ h
  · exact all _ (by decide +kernel) _ h
  · exact all _ (by decide +kernel) _ h
  · exact all _ (by decide +kernel) _ h
  · exact all _ (by decide +kernel) _ h
  · exact all _ (by decide +kernel) _ h
  · exact all _ (by decide +kernel) _ h
  · exact all _ (by decide +kernel) _ h
  · exact all _ (by decide +kernel) _ h
  · exact all _ (by decide +kernel) _ h
  · exact all _ (by decide +kernel) _ h
  · exact all _ (by decide +kernel) _ h
  · exact all _ (by decide +kernel) _ h
  · exact all _ (by decide +kernel) _ h
  · exact all _ (by decide +kernel) _ h
  · exact all _ (by decide +kernel) _ h
  · exact all _ (by decide +kernel) _ h
  · exact all _ (by decide +kernel) _ h
  · exact all _ (by decide +kernel) _ h
  · exact all _ (by decide +kernel) _ h
  · exact all _ (by decide +kernel) _ h
  · exact all _ (by decide +kernel) _ h
  · exact all _ (by decide +kernel) _ h
  · exact all _ (by decide +kernel) _ h
  · exact all _ (by decide +kernel) _ h
  · exact all _ (by decide +kernel) _ h
  · exact all _ (by decide +kernel) _ h
end
section
theorem dX0_init_0 : decode cX0_init 0 = .ok (.aload_n 0, 1) := by decide +kernel
theorem dX0_init_1 : decode cX0_init 1 = .ok (.invokespecial 3, 3) := by decide +kernel
theorem dX0_init_4 : decode cX0_init 4 = .ok (.aload_n 0, 1) := by decide +kernel
theorem dX0_init_5 : decode cX0_init 5 = .ok (.sipush 450, 3) := by decide +kernel
theorem dX0_init_8 : decode cX0_init 8 = .ok (.newarray .int, 2) := by decide +kernel
theorem dX0_init_10 : decode cX0_init 10 = .ok (.putfield 9, 3) := by decide +kernel
theorem dX0_init_13 : decode cX0_init 13 = .ok (.aload_n 0, 1) := by decide +kernel
theorem dX0_init_14 : decode cX0_init 14 = .ok (.iconst 1, 1) := by decide +kernel
theorem dX0_init_15 : decode cX0_init 15 = .ok (.putfield 15, 3) := by decide +kernel
theorem dX0_init_18 : decode cX0_init 18 = .ok (.aload_n 0, 1) := by decide +kernel
theorem dX0_init_19 : decode cX0_init 19 = .ok (.aload_n 1, 1) := by decide +kernel
theorem dX0_init_20 : decode cX0_init 20 = .ok (.putfield 19, 3) := by decide +kernel
theorem dX0_init_23 : decode cX0_init 23 = .ok (.return_, 1) := by decide +kernel
theorem dX0_begin_0 : decode cX0_begin 0 = .ok (.aload_n 0, 1) := by decide +kernel
theorem dX0_begin_1 : decode cX0_begin 1 = .ok (.iload_n 1, 1) := by decide +kernel
theorem dX0_begin_2 : decode cX0_begin 2 = .ok (.putfield 23, 3) := by decide +kernel
theorem dX0_begin_5 : decode cX0_begin 5 = .ok (.aload_n 0, 1) := by decide +kernel
theorem dX0_begin_6 : decode cX0_begin 6 = .ok (.iload_n 2, 1) := by decide +kernel
theorem dX0_begin_7 : decode cX0_begin 7 = .ok (.putfield 15, 3) := by decide +kernel
theorem dX0_begin_10 : decode cX0_begin 10 = .ok (.aload_n 0, 1) := by decide +kernel
theorem dX0_begin_11 : decode cX0_begin 11 = .ok (.iconst 0, 1) := by decide +kernel
theorem dX0_begin_12 : decode cX0_begin 12 = .ok (.putfield 26, 3) := by decide +kernel
theorem dX0_begin_15 : decode cX0_begin 15 = .ok (.return_, 1) := by decide +kernel
theorem dX0_holds_0 : decode cX0_holds 0 = .ok (.iconst 0, 1) := by decide +kernel
theorem dX0_holds_1 : decode cX0_holds 1 = .ok (.istore_n 3, 1) := by decide +kernel
theorem dX0_holds_2 : decode cX0_holds 2 = .ok (.iload_n 3, 1) := by decide +kernel
theorem dX0_holds_3 : decode cX0_holds 3 = .ok (.aload_n 0, 1) := by decide +kernel
theorem dX0_holds_4 : decode cX0_holds 4 = .ok (.getfield 15, 3) := by decide +kernel
theorem dX0_holds_7 : decode cX0_holds 7 = .ok (.if_icmp .gt 69, 3) := by decide +kernel
theorem dX0_holds_10 : decode cX0_holds 10 = .ok (.aload_n 0, 1) := by decide +kernel
theorem dX0_holds_11 : decode cX0_holds 11 = .ok (.getfield 19, 3) := by decide +kernel
theorem dX0_holds_14 : decode cX0_holds 14 = .ok (.iload_n 3, 1) := by decide +kernel
theorem dX0_holds_15 : decode cX0_holds 15 = .ok (.invokevirtual 29, 3) := by decide +kernel
theorem dX0_holds_18 : decode cX0_holds 18 = .ok (.istore 4, 2) := by decide +kernel
theorem dX0_holds_20 : decode cX0_holds 20 = .ok (.iload_n 1, 1) := by decide +kernel
theorem dX0_holds_21 : decode cX0_holds 21 = .ok (.iload 4, 2) := by decide +kernel
theorem dX0_holds_23 : decode cX0_holds 23 = .ok (.if_icmp .lt 47, 3) := by decide +kernel
theorem dX0_holds_26 : decode cX0_holds 26 = .ok (.iload_n 1, 1) := by decide +kernel
theorem dX0_holds_27 : decode cX0_holds 27 = .ok (.iconst 2, 1) := by decide +kernel
theorem dX0_holds_28 : decode cX0_holds 28 = .ok (.iload 4, 2) := by decide +kernel
theorem dX0_holds_30 : decode cX0_holds 30 = .ok (.imul, 1) := by decide +kernel
theorem dX0_holds_31 : decode cX0_holds 31 = .ok (.if_icmp .ge 39, 3) := by decide +kernel
theorem dX0_holds_34 : decode cX0_holds 34 = .ok (.iload_n 2, 1) := by decide +kernel
theorem dX0_holds_35 : decode cX0_holds 35 = .ok (.iload 4, 2) := by decide +kernel
theorem dX0_holds_37 : decode cX0_holds 37 = .ok (.if_icmp .ge 31, 3) := by decide +kernel
theorem dX0_holds_40 : decode cX0_holds 40 = .ok (.aload_n 0, 1) := by decide +kernel
theorem dX0_holds_41 : decode cX0_holds 41 = .ok (.getfield 19, 3) := by decide +kernel
theorem dX0_holds_44 : decode cX0_holds 44 = .ok (.iload_n 2, 1) := by decide +kernel
theorem dX0_holds_45 : decode cX0_holds 45 = .ok (.iload_n 1, 1) := by decide +kernel
theorem dX0_holds_46 : decode cX0_holds 46 = .ok (.invokevirtual 35, 3) := by decide +kernel
theorem dX0_holds_49 : decode cX0_holds 49 = .ok (.aload_n 0, 1) := by decide +kernel
theorem dX0_holds_50 : decode cX0_holds 50 = .ok (.getfield 19, 3) := by decide +kernel
theorem dX0_holds_53 : decode cX0_holds 53 = .ok (.aload_n 0, 1) := by decide +kernel
theorem dX0_holds_54 : decode cX0_holds 54 = .ok (.getfield 23, 3) := by decide +kernel
theorem dX0_holds_57 : decode cX0_holds 57 = .ok (.iload_n 1, 1) := by decide +kernel
theorem dX0_holds_58 : decode cX0_holds 58 = .ok (.invokevirtual 39, 3) := by decide +kernel
theorem dX0_holds_61 : decode cX0_holds 61 = .ok (.if_icmp .ne 7, 3) := by decide +kernel
theorem dX0_holds_64 : decode cX0_holds 64 = .ok (.iconst 1, 1) := by decide +kernel
theorem dX0_holds_65 : decode cX0_holds 65 = .ok (.goto 4, 3) := by decide +kernel
theorem dX0_holds_68 : decode cX0_holds 68 = .ok (.iconst 0, 1) := by decide +kernel
theorem dX0_holds_69 : decode cX0_holds 69 = .ok (.ireturn, 1) := by decide +kernel
theorem dX0_holds_70 : decode cX0_holds 70 = .ok (.iinc 3 1, 3) := by decide +kernel
theorem dX0_holds_73 : decode cX0_holds 73 = .ok (.goto (-71), 3) := by decide +kernel
theorem dX0_holds_76 : decode cX0_holds 76 = .ok (.iconst 0, 1) := by decide +kernel
theorem dX0_holds_77 : decode cX0_holds 77 = .ok (.ireturn, 1) := by decide +kernel
theorem dX0_many_0 : decode cX0_many 0 = .ok (.aload_n 0, 1) := by decide +kernel
theorem dX0_many_1 : decode cX0_many 1 = .ok (.getfield 26, 3) := by decide +kernel
theorem dX0_many_4 : decode cX0_many 4 = .ok (.ifCond .ne 7, 3) := by decide +kernel
theorem dX0_many_7 : decode cX0_many 7 = .ok (.aload_n 0, 1) := by decide +kernel
theorem dX0_many_8 : decode cX0_many 8 = .ok (.invokevirtual 42, 3) := by decide +kernel
theorem dX0_many_11 : decode cX0_many 11 = .ok (.aload_n 0, 1) := by decide +kernel
theorem dX0_many_12 : decode cX0_many 12 = .ok (.getfield 26, 3) := by decide +kernel
theorem dX0_many_15 : decode cX0_many 15 = .ok (.ireturn, 1) := by decide +kernel
theorem dX0_reaches_0 : decode cX0_reaches 0 = .ok (.iload_n 1, 1) := by decide +kernel
theorem dX0_reaches_1 : decode cX0_reaches 1 = .ok (.ifCond .lt 15, 3) := by decide +kernel
theorem dX0_reaches_4 : decode cX0_reaches 4 = .ok (.iload_n 1, 1) := by decide +kernel
theorem dX0_reaches_5 : decode cX0_reaches 5 = .ok (.aload_n 0, 1) := by decide +kernel
theorem dX0_reaches_6 : decode cX0_reaches 6 = .ok (.invokevirtual 45, 3) := by decide +kernel
theorem dX0_reaches_9 : decode cX0_reaches 9 = .ok (.if_icmp .ge 7, 3) := by decide +kernel
theorem dX0_reaches_12 : decode cX0_reaches 12 = .ok (.iconst 1, 1) := by decide +kernel
theorem dX0_reaches_13 : decode cX0_reaches 13 = .ok (.goto 4, 3) := by decide +kernel
theorem dX0_reaches_16 : decode cX0_reaches 16 = .ok (.iconst 0, 1) := by decide +kernel
theorem dX0_reaches_17 : decode cX0_reaches 17 = .ok (.ireturn, 1) := by decide +kernel
theorem dX0_keyAt_0 : decode cX0_keyAt 0 = .ok (.aload_n 0, 1) := by decide +kernel
theorem dX0_keyAt_1 : decode cX0_keyAt 1 = .ok (.getfield 9, 3) := by decide +kernel
theorem dX0_keyAt_4 : decode cX0_keyAt 4 = .ok (.iload_n 1, 1) := by decide +kernel
theorem dX0_keyAt_5 : decode cX0_keyAt 5 = .ok (.invokestatic 49, 3) := by decide +kernel
theorem dX0_keyAt_8 : decode cX0_keyAt 8 = .ok (.ireturn, 1) := by decide +kernel
theorem dX0_keyOf_0 : decode cX0_keyOf 0 = .ok (.iload_n 1, 1) := by decide +kernel
theorem dX0_keyOf_1 : decode cX0_keyOf 1 = .ok (.aload_n 0, 1) := by decide +kernel
theorem dX0_keyOf_2 : decode cX0_keyOf 2 = .ok (.getfield 19, 3) := by decide +kernel
theorem dX0_keyOf_5 : decode cX0_keyOf 5 = .ok (.getfield 53, 3) := by decide +kernel
theorem dX0_keyOf_8 : decode cX0_keyOf 8 = .ok (.imul, 1) := by decide +kernel
theorem dX0_keyOf_9 : decode cX0_keyOf 9 = .ok (.aload_n 0, 1) := by decide +kernel
theorem dX0_keyOf_10 : decode cX0_keyOf 10 = .ok (.getfield 19, 3) := by decide +kernel
theorem dX0_keyOf_13 : decode cX0_keyOf 13 = .ok (.getfield 53, 3) := by decide +kernel
theorem dX0_keyOf_16 : decode cX0_keyOf 16 = .ok (.imul, 1) := by decide +kernel
theorem dX0_keyOf_17 : decode cX0_keyOf 17 = .ok (.iload_n 2, 1) := by decide +kernel
theorem dX0_keyOf_18 : decode cX0_keyOf 18 = .ok (.iadd, 1) := by decide +kernel
theorem dX0_keyOf_19 : decode cX0_keyOf 19 = .ok (.ireturn, 1) := by decide +kernel
theorem dX0_uOf_0 : decode cX0_uOf 0 = .ok (.iload_n 1, 1) := by decide +kernel
theorem dX0_uOf_1 : decode cX0_uOf 1 = .ok (.aload_n 0, 1) := by decide +kernel
theorem dX0_uOf_2 : decode cX0_uOf 2 = .ok (.getfield 19, 3) := by decide +kernel
theorem dX0_uOf_5 : decode cX0_uOf 5 = .ok (.getfield 53, 3) := by decide +kernel
theorem dX0_uOf_8 : decode cX0_uOf 8 = .ok (.idiv, 1) := by decide +kernel
theorem dX0_uOf_9 : decode cX0_uOf 9 = .ok (.aload_n 0, 1) := by decide +kernel
theorem dX0_uOf_10 : decode cX0_uOf 10 = .ok (.getfield 19, 3) := by decide +kernel
theorem dX0_uOf_13 : decode cX0_uOf 13 = .ok (.getfield 53, 3) := by decide +kernel
theorem dX0_uOf_16 : decode cX0_uOf 16 = .ok (.idiv, 1) := by decide +kernel
theorem dX0_uOf_17 : decode cX0_uOf 17 = .ok (.ireturn, 1) := by decide +kernel
theorem dX0_vOf_0 : decode cX0_vOf 0 = .ok (.iload_n 1, 1) := by decide +kernel
theorem dX0_vOf_1 : decode cX0_vOf 1 = .ok (.aload_n 0, 1) := by decide +kernel
theorem dX0_vOf_2 : decode cX0_vOf 2 = .ok (.getfield 19, 3) := by decide +kernel
theorem dX0_vOf_5 : decode cX0_vOf 5 = .ok (.getfield 53, 3) := by decide +kernel
theorem dX0_vOf_8 : decode cX0_vOf 8 = .ok (.aload_n 0, 1) := by decide +kernel
theorem dX0_vOf_9 : decode cX0_vOf 9 = .ok (.getfield 19, 3) := by decide +kernel
theorem dX0_vOf_12 : decode cX0_vOf 12 = .ok (.getfield 53, 3) := by decide +kernel
theorem dX0_vOf_15 : decode cX0_vOf 15 = .ok (.imul, 1) := by decide +kernel
theorem dX0_vOf_16 : decode cX0_vOf 16 = .ok (.irem, 1) := by decide +kernel
theorem dX0_vOf_17 : decode cX0_vOf 17 = .ok (.ireturn, 1) := by decide +kernel
theorem dX0_placeOf_0 : decode cX0_placeOf 0 = .ok (.iconst 0, 1) := by decide +kernel
theorem dX0_placeOf_1 : decode cX0_placeOf 1 = .ok (.istore_n 2, 1) := by decide +kernel
theorem dX0_placeOf_2 : decode cX0_placeOf 2 = .ok (.iload_n 2, 1) := by decide +kernel
theorem dX0_placeOf_3 : decode cX0_placeOf 3 = .ok (.aload_n 0, 1) := by decide +kernel
theorem dX0_placeOf_4 : decode cX0_placeOf 4 = .ok (.getfield 26, 3) := by decide +kernel
theorem dX0_placeOf_7 : decode cX0_placeOf 7 = .ok (.if_icmp .ge 23, 3) := by decide +kernel
theorem dX0_placeOf_10 : decode cX0_placeOf 10 = .ok (.aload_n 0, 1) := by decide +kernel
theorem dX0_placeOf_11 : decode cX0_placeOf 11 = .ok (.getfield 9, 3) := by decide +kernel
theorem dX0_placeOf_14 : decode cX0_placeOf 14 = .ok (.iload_n 2, 1) := by decide +kernel
theorem dX0_placeOf_15 : decode cX0_placeOf 15 = .ok (.invokestatic 49, 3) := by decide +kernel
theorem dX0_placeOf_18 : decode cX0_placeOf 18 = .ok (.iload_n 1, 1) := by decide +kernel
theorem dX0_placeOf_19 : decode cX0_placeOf 19 = .ok (.if_icmp .ne 5, 3) := by decide +kernel
theorem dX0_placeOf_22 : decode cX0_placeOf 22 = .ok (.iload_n 2, 1) := by decide +kernel
theorem dX0_placeOf_23 : decode cX0_placeOf 23 = .ok (.ireturn, 1) := by decide +kernel
theorem dX0_placeOf_24 : decode cX0_placeOf 24 = .ok (.iinc 2 1, 3) := by decide +kernel
theorem dX0_placeOf_27 : decode cX0_placeOf 27 = .ok (.goto (-25), 3) := by decide +kernel
theorem dX0_placeOf_30 : decode cX0_placeOf 30 = .ok (.bipush (-9), 2) := by decide +kernel
theorem dX0_placeOf_32 : decode cX0_placeOf 32 = .ok (.ireturn, 1) := by decide +kernel
theorem dX0_oppositeOf_0 : decode cX0_oppositeOf 0 = .ok (.aload_n 0, 1) := by decide +kernel
theorem dX0_oppositeOf_1 : decode cX0_oppositeOf 1 = .ok (.aload_n 0, 1) := by decide +kernel
theorem dX0_oppositeOf_2 : decode cX0_oppositeOf 2 = .ok (.iload_n 1, 1) := by decide +kernel
theorem dX0_oppositeOf_3 : decode cX0_oppositeOf 3 = .ok (.invokevirtual 56, 3) := by decide +kernel
theorem dX0_oppositeOf_6 : decode cX0_oppositeOf 6 = .ok (.aload_n 0, 1) := by decide +kernel
theorem dX0_oppositeOf_7 : decode cX0_oppositeOf 7 = .ok (.getfield 19, 3) := by decide +kernel
theorem dX0_oppositeOf_10 : decode cX0_oppositeOf 10 = .ok (.iconst 0, 1) := by decide +kernel
theorem dX0_oppositeOf_11 : decode cX0_oppositeOf 11 = .ok (.aload_n 0, 1) := by decide +kernel
theorem dX0_oppositeOf_12 : decode cX0_oppositeOf 12 = .ok (.iload_n 1, 1) := by decide +kernel
theorem dX0_oppositeOf_13 : decode cX0_oppositeOf 13 = .ok (.invokevirtual 59, 3) := by decide +kernel
theorem dX0_oppositeOf_16 : decode cX0_oppositeOf 16 = .ok (.invokevirtual 62, 3) := by decide +kernel
theorem dX0_oppositeOf_19 : decode cX0_oppositeOf 19 = .ok (.invokevirtual 65, 3) := by decide +kernel
theorem dX0_oppositeOf_22 : decode cX0_oppositeOf 22 = .ok (.ireturn, 1) := by decide +kernel
theorem dX0_orderOf_0 : decode cX0_orderOf 0 = .ok (.aload_n 0, 1) := by decide +kernel
theorem dX0_orderOf_1 : decode cX0_orderOf 1 = .ok (.invokevirtual 45, 3) := by decide +kernel
theorem dX0_orderOf_4 : decode cX0_orderOf 4 = .ok (.istore_n 2, 1) := by decide +kernel
theorem dX0_orderOf_5 : decode cX0_orderOf 5 = .ok (.iload_n 2, 1) := by decide +kernel
theorem dX0_orderOf_6 : decode cX0_orderOf 6 = .ok (.istore_n 3, 1) := by decide +kernel
theorem dX0_orderOf_7 : decode cX0_orderOf 7 = .ok (.iconst 2, 1) := by decide +kernel
theorem dX0_orderOf_8 : decode cX0_orderOf 8 = .ok (.istore 4, 2) := by decide +kernel
theorem dX0_orderOf_10 : decode cX0_orderOf 10 = .ok (.iload 4, 2) := by decide +kernel
theorem dX0_orderOf_12 : decode cX0_orderOf 12 = .ok (.iload_n 3, 1) := by decide +kernel
theorem dX0_orderOf_13 : decode cX0_orderOf 13 = .ok (.if_icmp .gt 52, 3) := by decide +kernel
theorem dX0_orderOf_16 : decode cX0_orderOf 16 = .ok (.iload_n 3, 1) := by decide +kernel
theorem dX0_orderOf_17 : decode cX0_orderOf 17 = .ok (.iconst 1, 1) := by decide +kernel
theorem dX0_orderOf_18 : decode cX0_orderOf 18 = .ok (.if_icmp .le 41, 3) := by decide +kernel
theorem dX0_orderOf_21 : decode cX0_orderOf 21 = .ok (.iload_n 3, 1) := by decide +kernel
theorem dX0_orderOf_22 : decode cX0_orderOf 22 = .ok (.iload 4, 2) := by decide +kernel
theorem dX0_orderOf_24 : decode cX0_orderOf 24 = .ok (.irem, 1) := by decide +kernel
theorem dX0_orderOf_25 : decode cX0_orderOf 25 = .ok (.ifCond .ne 34, 3) := by decide +kernel
theorem dX0_orderOf_28 : decode cX0_orderOf 28 = .ok (.iload_n 3, 1) := by decide +kernel
theorem dX0_orderOf_29 : decode cX0_orderOf 29 = .ok (.iload 4, 2) := by decide +kernel
theorem dX0_orderOf_31 : decode cX0_orderOf 31 = .ok (.idiv, 1) := by decide +kernel
theorem dX0_orderOf_32 : decode cX0_orderOf 32 = .ok (.istore_n 3, 1) := by decide +kernel
theorem dX0_orderOf_33 : decode cX0_orderOf 33 = .ok (.aload_n 0, 1) := by decide +kernel
theorem dX0_orderOf_34 : decode cX0_orderOf 34 = .ok (.iload_n 1, 1) := by decide +kernel
theorem dX0_orderOf_35 : decode cX0_orderOf 35 = .ok (.iload_n 2, 1) := by decide +kernel
theorem dX0_orderOf_36 : decode cX0_orderOf 36 = .ok (.iload 4, 2) := by decide +kernel
theorem dX0_orderOf_38 : decode cX0_orderOf 38 = .ok (.idiv, 1) := by decide +kernel
theorem dX0_orderOf_39 : decode cX0_orderOf 39 = .ok (.invokevirtual 68, 3) := by decide +kernel
theorem dX0_orderOf_42 : decode cX0_orderOf 42 = .ok (.aload_n 0, 1) := by decide +kernel
theorem dX0_orderOf_43 : decode cX0_orderOf 43 = .ok (.iconst 1, 1) := by decide +kernel
theorem dX0_orderOf_44 : decode cX0_orderOf 44 = .ok (.iconst 0, 1) := by decide +kernel
theorem dX0_orderOf_45 : decode cX0_orderOf 45 = .ok (.invokevirtual 65, 3) := by decide +kernel
theorem dX0_orderOf_48 : decode cX0_orderOf 48 = .ok (.if_icmp .ne (-32), 3) := by decide +kernel
theorem dX0_orderOf_51 : decode cX0_orderOf 51 = .ok (.iload_n 2, 1) := by decide +kernel
theorem dX0_orderOf_52 : decode cX0_orderOf 52 = .ok (.iload 4, 2) := by decide +kernel
theorem dX0_orderOf_54 : decode cX0_orderOf 54 = .ok (.idiv, 1) := by decide +kernel
theorem dX0_orderOf_55 : decode cX0_orderOf 55 = .ok (.istore_n 2, 1) := by decide +kernel
theorem dX0_orderOf_56 : decode cX0_orderOf 56 = .ok (.goto (-40), 3) := by decide +kernel
theorem dX0_orderOf_59 : decode cX0_orderOf 59 = .ok (.iinc 4 1, 3) := by decide +kernel
theorem dX0_orderOf_62 : decode cX0_orderOf 62 = .ok (.goto (-52), 3) := by decide +kernel
theorem dX0_orderOf_65 : decode cX0_orderOf 65 = .ok (.iload_n 2, 1) := by decide +kernel
theorem dX0_orderOf_66 : decode cX0_orderOf 66 = .ok (.ireturn, 1) := by decide +kernel
theorem dX0_multipleOf_0 : decode cX0_multipleOf 0 = .ok (.aload_n 0, 1) := by decide +kernel
theorem dX0_multipleOf_1 : decode cX0_multipleOf 1 = .ok (.iconst 1, 1) := by decide +kernel
theorem dX0_multipleOf_2 : decode cX0_multipleOf 2 = .ok (.iconst 0, 1) := by decide +kernel
theorem dX0_multipleOf_3 : decode cX0_multipleOf 3 = .ok (.invokevirtual 65, 3) := by decide +kernel
theorem dX0_multipleOf_6 : decode cX0_multipleOf 6 = .ok (.istore_n 3, 1) := by decide +kernel
theorem dX0_multipleOf_7 : decode cX0_multipleOf 7 = .ok (.iload_n 1, 1) := by decide +kernel
theorem dX0_multipleOf_8 : decode cX0_multipleOf 8 = .ok (.istore 4, 2) := by decide +kernel
theorem dX0_multipleOf_10 : decode cX0_multipleOf 10 = .ok (.iload_n 2, 1) := by decide +kernel
theorem dX0_multipleOf_11 : decode cX0_multipleOf 11 = .ok (.istore 5, 2) := by decide +kernel
theorem dX0_multipleOf_13 : decode cX0_multipleOf 13 = .ok (.iload 5, 2) := by decide +kernel
theorem dX0_multipleOf_15 : decode cX0_multipleOf 15 = .ok (.ifCond .le 38, 3) := by decide +kernel
theorem dX0_multipleOf_18 : decode cX0_multipleOf 18 = .ok (.iload 5, 2) := by decide +kernel
theorem dX0_multipleOf_20 : decode cX0_multipleOf 20 = .ok (.iconst 2, 1) := by decide +kernel
theorem dX0_multipleOf_21 : decode cX0_multipleOf 21 = .ok (.irem, 1) := by decide +kernel
theorem dX0_multipleOf_22 : decode cX0_multipleOf 22 = .ok (.iconst 1, 1) := by decide +kernel
theorem dX0_multipleOf_23 : decode cX0_multipleOf 23 = .ok (.if_icmp .ne 11, 3) := by decide +kernel
theorem dX0_multipleOf_26 : decode cX0_multipleOf 26 = .ok (.aload_n 0, 1) := by decide +kernel
theorem dX0_multipleOf_27 : decode cX0_multipleOf 27 = .ok (.iload_n 3, 1) := by decide +kernel
theorem dX0_multipleOf_28 : decode cX0_multipleOf 28 = .ok (.iload 4, 2) := by decide +kernel
theorem dX0_multipleOf_30 : decode cX0_multipleOf 30 = .ok (.invokevirtual 71, 3) := by decide +kernel
theorem dX0_multipleOf_33 : decode cX0_multipleOf 33 = .ok (.istore_n 3, 1) := by decide +kernel
theorem dX0_multipleOf_34 : decode cX0_multipleOf 34 = .ok (.aload_n 0, 1) := by decide +kernel
theorem dX0_multipleOf_35 : decode cX0_multipleOf 35 = .ok (.iload 4, 2) := by decide +kernel
theorem dX0_multipleOf_37 : decode cX0_multipleOf 37 = .ok (.iload 4, 2) := by decide +kernel
theorem dX0_multipleOf_39 : decode cX0_multipleOf 39 = .ok (.invokevirtual 71, 3) := by decide +kernel
theorem dX0_multipleOf_42 : decode cX0_multipleOf 42 = .ok (.istore 4, 2) := by decide +kernel
theorem dX0_multipleOf_44 : decode cX0_multipleOf 44 = .ok (.iload 5, 2) := by decide +kernel
theorem dX0_multipleOf_46 : decode cX0_multipleOf 46 = .ok (.iconst 2, 1) := by decide +kernel
theorem dX0_multipleOf_47 : decode cX0_multipleOf 47 = .ok (.idiv, 1) := by decide +kernel
theorem dX0_multipleOf_48 : decode cX0_multipleOf 48 = .ok (.istore 5, 2) := by decide +kernel
theorem dX0_multipleOf_50 : decode cX0_multipleOf 50 = .ok (.goto (-37), 3) := by decide +kernel
theorem dX0_multipleOf_53 : decode cX0_multipleOf 53 = .ok (.iload_n 3, 1) := by decide +kernel
theorem dX0_multipleOf_54 : decode cX0_multipleOf 54 = .ok (.ireturn, 1) := by decide +kernel
theorem dX0_sumOf_0 : decode cX0_sumOf 0 = .ok (.aload_n 0, 1) := by decide +kernel
theorem dX0_sumOf_1 : decode cX0_sumOf 1 = .ok (.iload_n 1, 1) := by decide +kernel
theorem dX0_sumOf_2 : decode cX0_sumOf 2 = .ok (.invokevirtual 56, 3) := by decide +kernel
theorem dX0_sumOf_5 : decode cX0_sumOf 5 = .ok (.istore_n 3, 1) := by decide +kernel
theorem dX0_sumOf_6 : decode cX0_sumOf 6 = .ok (.aload_n 0, 1) := by decide +kernel
theorem dX0_sumOf_7 : decode cX0_sumOf 7 = .ok (.iload_n 1, 1) := by decide +kernel
theorem dX0_sumOf_8 : decode cX0_sumOf 8 = .ok (.invokevirtual 59, 3) := by decide +kernel
theorem dX0_sumOf_11 : decode cX0_sumOf 11 = .ok (.istore 4, 2) := by decide +kernel
theorem dX0_sumOf_13 : decode cX0_sumOf 13 = .ok (.aload_n 0, 1) := by decide +kernel
theorem dX0_sumOf_14 : decode cX0_sumOf 14 = .ok (.iload_n 2, 1) := by decide +kernel
theorem dX0_sumOf_15 : decode cX0_sumOf 15 = .ok (.invokevirtual 56, 3) := by decide +kernel
theorem dX0_sumOf_18 : decode cX0_sumOf 18 = .ok (.istore 5, 2) := by decide +kernel
theorem dX0_sumOf_20 : decode cX0_sumOf 20 = .ok (.aload_n 0, 1) := by decide +kernel
theorem dX0_sumOf_21 : decode cX0_sumOf 21 = .ok (.iload_n 2, 1) := by decide +kernel
theorem dX0_sumOf_22 : decode cX0_sumOf 22 = .ok (.invokevirtual 59, 3) := by decide +kernel
theorem dX0_sumOf_25 : decode cX0_sumOf 25 = .ok (.istore 6, 2) := by decide +kernel
theorem dX0_sumOf_27 : decode cX0_sumOf 27 = .ok (.aload_n 0, 1) := by decide +kernel
theorem dX0_sumOf_28 : decode cX0_sumOf 28 = .ok (.getfield 19, 3) := by decide +kernel
theorem dX0_sumOf_31 : decode cX0_sumOf 31 = .ok (.iload_n 3, 1) := by decide +kernel
theorem dX0_sumOf_32 : decode cX0_sumOf 32 = .ok (.iload 5, 2) := by decide +kernel
theorem dX0_sumOf_34 : decode cX0_sumOf 34 = .ok (.invokevirtual 74, 3) := by decide +kernel
theorem dX0_sumOf_37 : decode cX0_sumOf 37 = .ok (.istore 7, 2) := by decide +kernel
theorem dX0_sumOf_39 : decode cX0_sumOf 39 = .ok (.aload_n 0, 1) := by decide +kernel
theorem dX0_sumOf_40 : decode cX0_sumOf 40 = .ok (.getfield 19, 3) := by decide +kernel
theorem dX0_sumOf_43 : decode cX0_sumOf 43 = .ok (.iload_n 3, 1) := by decide +kernel
theorem dX0_sumOf_44 : decode cX0_sumOf 44 = .ok (.iload 5, 2) := by decide +kernel
theorem dX0_sumOf_46 : decode cX0_sumOf 46 = .ok (.invokevirtual 77, 3) := by decide +kernel
theorem dX0_sumOf_49 : decode cX0_sumOf 49 = .ok (.istore 8, 2) := by decide +kernel
theorem dX0_sumOf_51 : decode cX0_sumOf 51 = .ok (.aload_n 0, 1) := by decide +kernel
theorem dX0_sumOf_52 : decode cX0_sumOf 52 = .ok (.getfield 19, 3) := by decide +kernel
theorem dX0_sumOf_55 : decode cX0_sumOf 55 = .ok (.aload_n 0, 1) := by decide +kernel
theorem dX0_sumOf_56 : decode cX0_sumOf 56 = .ok (.getfield 19, 3) := by decide +kernel
theorem dX0_sumOf_59 : decode cX0_sumOf 59 = .ok (.iload 7, 2) := by decide +kernel
theorem dX0_sumOf_61 : decode cX0_sumOf 61 = .ok (.aload_n 0, 1) := by decide +kernel
theorem dX0_sumOf_62 : decode cX0_sumOf 62 = .ok (.getfield 19, 3) := by decide +kernel
theorem dX0_sumOf_65 : decode cX0_sumOf 65 = .ok (.iload 8, 2) := by decide +kernel
theorem dX0_sumOf_67 : decode cX0_sumOf 67 = .ok (.iload_n 3, 1) := by decide +kernel
theorem dX0_sumOf_68 : decode cX0_sumOf 68 = .ok (.invokevirtual 80, 3) := by decide +kernel
theorem dX0_sumOf_71 : decode cX0_sumOf 71 = .ok (.invokevirtual 62, 3) := by decide +kernel
theorem dX0_sumOf_74 : decode cX0_sumOf 74 = .ok (.iload 5, 2) := by decide +kernel
theorem dX0_sumOf_76 : decode cX0_sumOf 76 = .ok (.invokevirtual 83, 3) := by decide +kernel
theorem dX0_sumOf_79 : decode cX0_sumOf 79 = .ok (.istore 9, 2) := by decide +kernel
theorem dX0_sumOf_81 : decode cX0_sumOf 81 = .ok (.aload_n 0, 1) := by decide +kernel
theorem dX0_sumOf_82 : decode cX0_sumOf 82 = .ok (.getfield 19, 3) := by decide +kernel
theorem dX0_sumOf_85 : decode cX0_sumOf 85 = .ok (.iload 4, 2) := by decide +kernel
theorem dX0_sumOf_87 : decode cX0_sumOf 87 = .ok (.iload 6, 2) := by decide +kernel
theorem dX0_sumOf_89 : decode cX0_sumOf 89 = .ok (.invokevirtual 86, 3) := by decide +kernel
theorem dX0_sumOf_92 : decode cX0_sumOf 92 = .ok (.istore 10, 2) := by decide +kernel
theorem dX0_sumOf_94 : decode cX0_sumOf 94 = .ok (.aload_n 0, 1) := by decide +kernel
theorem dX0_sumOf_95 : decode cX0_sumOf 95 = .ok (.getfield 19, 3) := by decide +kernel
theorem dX0_sumOf_98 : decode cX0_sumOf 98 = .ok (.iload 7, 2) := by decide +kernel
theorem dX0_sumOf_100 : decode cX0_sumOf 100 = .ok (.iload 10, 2) := by decide +kernel
theorem dX0_sumOf_102 : decode cX0_sumOf 102 = .ok (.invokevirtual 74, 3) := by decide +kernel
theorem dX0_sumOf_105 : decode cX0_sumOf 105 = .ok (.istore 11, 2) := by decide +kernel
theorem dX0_sumOf_107 : decode cX0_sumOf 107 = .ok (.aload_n 0, 1) := by decide +kernel
theorem dX0_sumOf_108 : decode cX0_sumOf 108 = .ok (.getfield 19, 3) := by decide +kernel
theorem dX0_sumOf_111 : decode cX0_sumOf 111 = .ok (.iload 7, 2) := by decide +kernel
theorem dX0_sumOf_113 : decode cX0_sumOf 113 = .ok (.iload 10, 2) := by decide +kernel
theorem dX0_sumOf_115 : decode cX0_sumOf 115 = .ok (.invokevirtual 77, 3) := by decide +kernel
theorem dX0_sumOf_118 : decode cX0_sumOf 118 = .ok (.istore 12, 2) := by decide +kernel
theorem dX0_sumOf_120 : decode cX0_sumOf 120 = .ok (.aload_n 0, 1) := by decide +kernel
theorem dX0_sumOf_121 : decode cX0_sumOf 121 = .ok (.getfield 19, 3) := by decide +kernel
theorem dX0_sumOf_124 : decode cX0_sumOf 124 = .ok (.aload_n 0, 1) := by decide +kernel
theorem dX0_sumOf_125 : decode cX0_sumOf 125 = .ok (.getfield 19, 3) := by decide +kernel
theorem dX0_sumOf_128 : decode cX0_sumOf 128 = .ok (.iload 11, 2) := by decide +kernel
theorem dX0_sumOf_130 : decode cX0_sumOf 130 = .ok (.aload_n 0, 1) := by decide +kernel
theorem dX0_sumOf_131 : decode cX0_sumOf 131 = .ok (.getfield 19, 3) := by decide +kernel
theorem dX0_sumOf_134 : decode cX0_sumOf 134 = .ok (.iload 12, 2) := by decide +kernel
theorem dX0_sumOf_136 : decode cX0_sumOf 136 = .ok (.iload 7, 2) := by decide +kernel
theorem dX0_sumOf_138 : decode cX0_sumOf 138 = .ok (.invokevirtual 80, 3) := by decide +kernel
theorem dX0_sumOf_141 : decode cX0_sumOf 141 = .ok (.invokevirtual 62, 3) := by decide +kernel
theorem dX0_sumOf_144 : decode cX0_sumOf 144 = .ok (.iload 10, 2) := by decide +kernel
theorem dX0_sumOf_146 : decode cX0_sumOf 146 = .ok (.invokevirtual 83, 3) := by decide +kernel
theorem dX0_sumOf_149 : decode cX0_sumOf 149 = .ok (.istore 13, 2) := by decide +kernel
theorem dX0_sumOf_151 : decode cX0_sumOf 151 = .ok (.aload_n 0, 1) := by decide +kernel
theorem dX0_sumOf_152 : decode cX0_sumOf 152 = .ok (.getfield 19, 3) := by decide +kernel
theorem dX0_sumOf_155 : decode cX0_sumOf 155 = .ok (.aload_n 0, 1) := by decide +kernel
theorem dX0_sumOf_156 : decode cX0_sumOf 156 = .ok (.getfield 19, 3) := by decide +kernel
theorem dX0_sumOf_159 : decode cX0_sumOf 159 = .ok (.aload_n 0, 1) := by decide +kernel
theorem dX0_sumOf_160 : decode cX0_sumOf 160 = .ok (.getfield 19, 3) := by decide +kernel
theorem dX0_sumOf_163 : decode cX0_sumOf 163 = .ok (.iload 8, 2) := by decide +kernel
theorem dX0_sumOf_165 : decode cX0_sumOf 165 = .ok (.iload_n 3, 1) := by decide +kernel
theorem dX0_sumOf_166 : decode cX0_sumOf 166 = .ok (.invokevirtual 80, 3) := by decide +kernel
theorem dX0_sumOf_169 : decode cX0_sumOf 169 = .ok (.iload 6, 2) := by decide +kernel
theorem dX0_sumOf_171 : decode cX0_sumOf 171 = .ok (.invokevirtual 80, 3) := by decide +kernel
theorem dX0_sumOf_174 : decode cX0_sumOf 174 = .ok (.aload_n 0, 1) := by decide +kernel
theorem dX0_sumOf_175 : decode cX0_sumOf 175 = .ok (.getfield 19, 3) := by decide +kernel
theorem dX0_sumOf_178 : decode cX0_sumOf 178 = .ok (.aload_n 0, 1) := by decide +kernel
theorem dX0_sumOf_179 : decode cX0_sumOf 179 = .ok (.getfield 19, 3) := by decide +kernel
theorem dX0_sumOf_182 : decode cX0_sumOf 182 = .ok (.iload 9, 2) := by decide +kernel
theorem dX0_sumOf_184 : decode cX0_sumOf 184 = .ok (.iload 5, 2) := by decide +kernel
theorem dX0_sumOf_186 : decode cX0_sumOf 186 = .ok (.invokevirtual 80, 3) := by decide +kernel
theorem dX0_sumOf_189 : decode cX0_sumOf 189 = .ok (.iload 4, 2) := by decide +kernel
theorem dX0_sumOf_191 : decode cX0_sumOf 191 = .ok (.invokevirtual 80, 3) := by decide +kernel
theorem dX0_sumOf_194 : decode cX0_sumOf 194 = .ok (.invokevirtual 86, 3) := by decide +kernel
theorem dX0_sumOf_197 : decode cX0_sumOf 197 = .ok (.istore 14, 2) := by decide +kernel
theorem dX0_sumOf_199 : decode cX0_sumOf 199 = .ok (.aload_n 0, 1) := by decide +kernel
theorem dX0_sumOf_200 : decode cX0_sumOf 200 = .ok (.getfield 19, 3) := by decide +kernel
theorem dX0_sumOf_203 : decode cX0_sumOf 203 = .ok (.aload_n 0, 1) := by decide +kernel
theorem dX0_sumOf_204 : decode cX0_sumOf 204 = .ok (.getfield 19, 3) := by decide +kernel
theorem dX0_sumOf_207 : decode cX0_sumOf 207 = .ok (.iload 4, 2) := by decide +kernel
theorem dX0_sumOf_209 : decode cX0_sumOf 209 = .ok (.iload 6, 2) := by decide +kernel
theorem dX0_sumOf_211 : decode cX0_sumOf 211 = .ok (.invokevirtual 80, 3) := by decide +kernel
theorem dX0_sumOf_214 : decode cX0_sumOf 214 = .ok (.aload_n 0, 1) := by decide +kernel
theorem dX0_sumOf_215 : decode cX0_sumOf 215 = .ok (.getfield 23, 3) := by decide +kernel
theorem dX0_sumOf_218 : decode cX0_sumOf 218 = .ok (.invokevirtual 86, 3) := by decide +kernel
theorem dX0_sumOf_221 : decode cX0_sumOf 221 = .ok (.istore 15, 2) := by decide +kernel
theorem dX0_sumOf_223 : decode cX0_sumOf 223 = .ok (.aload_n 0, 1) := by decide +kernel
theorem dX0_sumOf_224 : decode cX0_sumOf 224 = .ok (.getfield 19, 3) := by decide +kernel
theorem dX0_sumOf_227 : decode cX0_sumOf 227 = .ok (.aload_n 0, 1) := by decide +kernel
theorem dX0_sumOf_228 : decode cX0_sumOf 228 = .ok (.getfield 19, 3) := by decide +kernel
theorem dX0_sumOf_231 : decode cX0_sumOf 231 = .ok (.iload 12, 2) := by decide +kernel
theorem dX0_sumOf_233 : decode cX0_sumOf 233 = .ok (.iload 14, 2) := by decide +kernel
theorem dX0_sumOf_235 : decode cX0_sumOf 235 = .ok (.invokevirtual 80, 3) := by decide +kernel
theorem dX0_sumOf_238 : decode cX0_sumOf 238 = .ok (.aload_n 0, 1) := by decide +kernel
theorem dX0_sumOf_239 : decode cX0_sumOf 239 = .ok (.getfield 19, 3) := by decide +kernel
theorem dX0_sumOf_242 : decode cX0_sumOf 242 = .ok (.iload 13, 2) := by decide +kernel
theorem dX0_sumOf_244 : decode cX0_sumOf 244 = .ok (.iload 15, 2) := by decide +kernel
theorem dX0_sumOf_246 : decode cX0_sumOf 246 = .ok (.invokevirtual 80, 3) := by decide +kernel
theorem dX0_sumOf_249 : decode cX0_sumOf 249 = .ok (.invokevirtual 86, 3) := by decide +kernel
theorem dX0_sumOf_252 : decode cX0_sumOf 252 = .ok (.istore 16, 2) := by decide +kernel
theorem dX0_sumOf_254 : decode cX0_sumOf 254 = .ok (.aload_n 0, 1) := by decide +kernel
theorem dX0_sumOf_255 : decode cX0_sumOf 255 = .ok (.getfield 19, 3) := by decide +kernel
theorem dX0_sumOf_258 : decode cX0_sumOf 258 = .ok (.aload_n 0, 1) := by decide +kernel
theorem dX0_sumOf_259 : decode cX0_sumOf 259 = .ok (.getfield 19, 3) := by decide +kernel
theorem dX0_sumOf_262 : decode cX0_sumOf 262 = .ok (.iload_n 3, 1) := by decide +kernel
theorem dX0_sumOf_263 : decode cX0_sumOf 263 = .ok (.iload 5, 2) := by decide +kernel
theorem dX0_sumOf_265 : decode cX0_sumOf 265 = .ok (.invokevirtual 80, 3) := by decide +kernel
theorem dX0_sumOf_268 : decode cX0_sumOf 268 = .ok (.aload_n 0, 1) := by decide +kernel
theorem dX0_sumOf_269 : decode cX0_sumOf 269 = .ok (.getfield 19, 3) := by decide +kernel
theorem dX0_sumOf_272 : decode cX0_sumOf 272 = .ok (.iload 11, 2) := by decide +kernel
theorem dX0_sumOf_274 : decode cX0_sumOf 274 = .ok (.iload 11, 2) := by decide +kernel
theorem dX0_sumOf_276 : decode cX0_sumOf 276 = .ok (.invokevirtual 80, 3) := by decide +kernel
theorem dX0_sumOf_279 : decode cX0_sumOf 279 = .ok (.invokevirtual 83, 3) := by decide +kernel
theorem dX0_sumOf_282 : decode cX0_sumOf 282 = .ok (.istore 17, 2) := by decide +kernel
theorem dX0_sumOf_284 : decode cX0_sumOf 284 = .ok (.aload_n 0, 1) := by decide +kernel
theorem dX0_sumOf_285 : decode cX0_sumOf 285 = .ok (.iload 17, 2) := by decide +kernel
theorem dX0_sumOf_287 : decode cX0_sumOf 287 = .ok (.aload_n 0, 1) := by decide +kernel
theorem dX0_sumOf_288 : decode cX0_sumOf 288 = .ok (.getfield 19, 3) := by decide +kernel
theorem dX0_sumOf_291 : decode cX0_sumOf 291 = .ok (.aload_n 0, 1) := by decide +kernel
theorem dX0_sumOf_292 : decode cX0_sumOf 292 = .ok (.getfield 19, 3) := by decide +kernel
theorem dX0_sumOf_295 : decode cX0_sumOf 295 = .ok (.iload 16, 2) := by decide +kernel
theorem dX0_sumOf_297 : decode cX0_sumOf 297 = .ok (.iload 11, 2) := by decide +kernel
theorem dX0_sumOf_299 : decode cX0_sumOf 299 = .ok (.invokevirtual 83, 3) := by decide +kernel
theorem dX0_sumOf_302 : decode cX0_sumOf 302 = .ok (.iload 17, 2) := by decide +kernel
theorem dX0_sumOf_304 : decode cX0_sumOf 304 = .ok (.invokevirtual 39, 3) := by decide +kernel
theorem dX0_sumOf_307 : decode cX0_sumOf 307 = .ok (.invokevirtual 89, 3) := by decide +kernel
theorem dX0_sumOf_310 : decode cX0_sumOf 310 = .ok (.ireturn, 1) := by decide +kernel
theorem dX0_reduced_0 : decode cX0_reduced 0 = .ok (.iload_n 1, 1) := by decide +kernel
theorem dX0_reduced_1 : decode cX0_reduced 1 = .ok (.istore_n 3, 1) := by decide +kernel
theorem dX0_reduced_2 : decode cX0_reduced 2 = .ok (.iload_n 2, 1) := by decide +kernel
theorem dX0_reduced_3 : decode cX0_reduced 3 = .ok (.istore 4, 2) := by decide +kernel
theorem dX0_reduced_5 : decode cX0_reduced 5 = .ok (.iconst 0, 1) := by decide +kernel
theorem dX0_reduced_6 : decode cX0_reduced 6 = .ok (.istore 5, 2) := by decide +kernel
theorem dX0_reduced_8 : decode cX0_reduced 8 = .ok (.iload 5, 2) := by decide +kernel
theorem dX0_reduced_10 : decode cX0_reduced 10 = .ok (.bipush 20, 2) := by decide +kernel
theorem dX0_reduced_12 : decode cX0_reduced 12 = .ok (.if_icmp .ge 82, 3) := by decide +kernel
theorem dX0_reduced_15 : decode cX0_reduced 15 = .ok (.aload_n 0, 1) := by decide +kernel
theorem dX0_reduced_16 : decode cX0_reduced 16 = .ok (.getfield 19, 3) := by decide +kernel
theorem dX0_reduced_19 : decode cX0_reduced 19 = .ok (.iload_n 3, 1) := by decide +kernel
theorem dX0_reduced_20 : decode cX0_reduced 20 = .ok (.invokevirtual 92, 3) := by decide +kernel
theorem dX0_reduced_23 : decode cX0_reduced 23 = .ok (.aload_n 0, 1) := by decide +kernel
theorem dX0_reduced_24 : decode cX0_reduced 24 = .ok (.getfield 15, 3) := by decide +kernel
theorem dX0_reduced_27 : decode cX0_reduced 27 = .ok (.if_icmp .le 67, 3) := by decide +kernel
theorem dX0_reduced_30 : decode cX0_reduced 30 = .ok (.aload_n 0, 1) := by decide +kernel
theorem dX0_reduced_31 : decode cX0_reduced 31 = .ok (.getfield 19, 3) := by decide +kernel
theorem dX0_reduced_34 : decode cX0_reduced 34 = .ok (.aload_n 0, 1) := by decide +kernel
theorem dX0_reduced_35 : decode cX0_reduced 35 = .ok (.getfield 19, 3) := by decide +kernel
theorem dX0_reduced_38 : decode cX0_reduced 38 = .ok (.aload_n 0, 1) := by decide +kernel
theorem dX0_reduced_39 : decode cX0_reduced 39 = .ok (.getfield 19, 3) := by decide +kernel
theorem dX0_reduced_42 : decode cX0_reduced 42 = .ok (.aload_n 0, 1) := by decide +kernel
theorem dX0_reduced_43 : decode cX0_reduced 43 = .ok (.getfield 23, 3) := by decide +kernel
theorem dX0_reduced_46 : decode cX0_reduced 46 = .ok (.aload_n 0, 1) := by decide +kernel
theorem dX0_reduced_47 : decode cX0_reduced 47 = .ok (.getfield 19, 3) := by decide +kernel
theorem dX0_reduced_50 : decode cX0_reduced 50 = .ok (.iload 4, 2) := by decide +kernel
theorem dX0_reduced_52 : decode cX0_reduced 52 = .ok (.iload 4, 2) := by decide +kernel
theorem dX0_reduced_54 : decode cX0_reduced 54 = .ok (.invokevirtual 80, 3) := by decide +kernel
theorem dX0_reduced_57 : decode cX0_reduced 57 = .ok (.invokevirtual 62, 3) := by decide +kernel
theorem dX0_reduced_60 : decode cX0_reduced 60 = .ok (.iload_n 3, 1) := by decide +kernel
theorem dX0_reduced_61 : decode cX0_reduced 61 = .ok (.invokevirtual 83, 3) := by decide +kernel
theorem dX0_reduced_64 : decode cX0_reduced 64 = .ok (.invokevirtual 95, 3) := by decide +kernel
theorem dX0_reduced_67 : decode cX0_reduced 67 = .ok (.istore_n 3, 1) := by decide +kernel
theorem dX0_reduced_68 : decode cX0_reduced 68 = .ok (.aload_n 0, 1) := by decide +kernel
theorem dX0_reduced_69 : decode cX0_reduced 69 = .ok (.getfield 19, 3) := by decide +kernel
theorem dX0_reduced_72 : decode cX0_reduced 72 = .ok (.aload_n 0, 1) := by decide +kernel
theorem dX0_reduced_73 : decode cX0_reduced 73 = .ok (.getfield 19, 3) := by decide +kernel
theorem dX0_reduced_76 : decode cX0_reduced 76 = .ok (.iconst 0, 1) := by decide +kernel
theorem dX0_reduced_77 : decode cX0_reduced 77 = .ok (.iload 4, 2) := by decide +kernel
theorem dX0_reduced_79 : decode cX0_reduced 79 = .ok (.invokevirtual 62, 3) := by decide +kernel
theorem dX0_reduced_82 : decode cX0_reduced 82 = .ok (.iload_n 3, 1) := by decide +kernel
theorem dX0_reduced_83 : decode cX0_reduced 83 = .ok (.invokevirtual 39, 3) := by decide +kernel
theorem dX0_reduced_86 : decode cX0_reduced 86 = .ok (.istore 4, 2) := by decide +kernel
theorem dX0_reduced_88 : decode cX0_reduced 88 = .ok (.iinc 5 1, 3) := by decide +kernel
theorem dX0_reduced_91 : decode cX0_reduced 91 = .ok (.goto (-83), 3) := by decide +kernel
theorem dX0_reduced_94 : decode cX0_reduced 94 = .ok (.aload_n 0, 1) := by decide +kernel
theorem dX0_reduced_95 : decode cX0_reduced 95 = .ok (.iload_n 3, 1) := by decide +kernel
theorem dX0_reduced_96 : decode cX0_reduced 96 = .ok (.iload 4, 2) := by decide +kernel
theorem dX0_reduced_98 : decode cX0_reduced 98 = .ok (.invokevirtual 65, 3) := by decide +kernel
theorem dX0_reduced_101 : decode cX0_reduced 101 = .ok (.ireturn, 1) := by decide +kernel
theorem dX0_goThrough_0 : decode cX0_goThrough 0 = .ok (.iconst 0, 1) := by decide +kernel
theorem dX0_goThrough_1 : decode cX0_goThrough 1 = .ok (.istore_n 1, 1) := by decide +kernel
theorem dX0_goThrough_2 : decode cX0_goThrough 2 = .ok (.iload_n 1, 1) := by decide +kernel
theorem dX0_goThrough_3 : decode cX0_goThrough 3 = .ok (.aload_n 0, 1) := by decide +kernel
theorem dX0_goThrough_4 : decode cX0_goThrough 4 = .ok (.getfield 15, 3) := by decide +kernel
theorem dX0_goThrough_7 : decode cX0_goThrough 7 = .ok (.if_icmp .gt 39, 3) := by decide +kernel
theorem dX0_goThrough_10 : decode cX0_goThrough 10 = .ok (.aload_n 0, 1) := by decide +kernel
theorem dX0_goThrough_11 : decode cX0_goThrough 11 = .ok (.getfield 19, 3) := by decide +kernel
theorem dX0_goThrough_14 : decode cX0_goThrough 14 = .ok (.iload_n 1, 1) := by decide +kernel
theorem dX0_goThrough_15 : decode cX0_goThrough 15 = .ok (.invokevirtual 29, 3) := by decide +kernel
theorem dX0_goThrough_18 : decode cX0_goThrough 18 = .ok (.istore_n 2, 1) := by decide +kernel
theorem dX0_goThrough_19 : decode cX0_goThrough 19 = .ok (.iload_n 2, 1) := by decide +kernel
theorem dX0_goThrough_20 : decode cX0_goThrough 20 = .ok (.istore_n 3, 1) := by decide +kernel
theorem dX0_goThrough_21 : decode cX0_goThrough 21 = .ok (.iload_n 3, 1) := by decide +kernel
theorem dX0_goThrough_22 : decode cX0_goThrough 22 = .ok (.iconst 2, 1) := by decide +kernel
theorem dX0_goThrough_23 : decode cX0_goThrough 23 = .ok (.iload_n 2, 1) := by decide +kernel
theorem dX0_goThrough_24 : decode cX0_goThrough 24 = .ok (.imul, 1) := by decide +kernel
theorem dX0_goThrough_25 : decode cX0_goThrough 25 = .ok (.if_icmp .ge 15, 3) := by decide +kernel
theorem dX0_goThrough_28 : decode cX0_goThrough 28 = .ok (.aload_n 0, 1) := by decide +kernel
theorem dX0_goThrough_29 : decode cX0_goThrough 29 = .ok (.iload_n 3, 1) := by decide +kernel
theorem dX0_goThrough_30 : decode cX0_goThrough 30 = .ok (.iload_n 2, 1) := by decide +kernel
theorem dX0_goThrough_31 : decode cX0_goThrough 31 = .ok (.invokevirtual 98, 3) := by decide +kernel
theorem dX0_goThrough_34 : decode cX0_goThrough 34 = .ok (.iinc 3 1, 3) := by decide +kernel
theorem dX0_goThrough_37 : decode cX0_goThrough 37 = .ok (.goto (-16), 3) := by decide +kernel
theorem dX0_goThrough_40 : decode cX0_goThrough 40 = .ok (.iinc 1 1, 3) := by decide +kernel
theorem dX0_goThrough_43 : decode cX0_goThrough 43 = .ok (.goto (-41), 3) := by decide +kernel
theorem dX0_goThrough_46 : decode cX0_goThrough 46 = .ok (.return_, 1) := by decide +kernel
theorem dX0_listWith_0 : decode cX0_listWith 0 = .ok (.aload_n 0, 1) := by decide +kernel
theorem dX0_listWith_1 : decode cX0_listWith 1 = .ok (.getfield 19, 3) := by decide +kernel
theorem dX0_listWith_4 : decode cX0_listWith 4 = .ok (.aload_n 0, 1) := by decide +kernel
theorem dX0_listWith_5 : decode cX0_listWith 5 = .ok (.getfield 23, 3) := by decide +kernel
theorem dX0_listWith_8 : decode cX0_listWith 8 = .ok (.iload_n 1, 1) := by decide +kernel
theorem dX0_listWith_9 : decode cX0_listWith 9 = .ok (.invokevirtual 39, 3) := by decide +kernel
theorem dX0_listWith_12 : decode cX0_listWith 12 = .ok (.istore_n 3, 1) := by decide +kernel
theorem dX0_listWith_13 : decode cX0_listWith 13 = .ok (.iconst 0, 1) := by decide +kernel
theorem dX0_listWith_14 : decode cX0_listWith 14 = .ok (.istore 4, 2) := by decide +kernel
theorem dX0_listWith_16 : decode cX0_listWith 16 = .ok (.iload 4, 2) := by decide +kernel
theorem dX0_listWith_18 : decode cX0_listWith 18 = .ok (.iload_n 2, 1) := by decide +kernel
theorem dX0_listWith_19 : decode cX0_listWith 19 = .ok (.if_icmp .ge 61, 3) := by decide +kernel
theorem dX0_listWith_22 : decode cX0_listWith 22 = .ok (.aload_n 0, 1) := by decide +kernel
theorem dX0_listWith_23 : decode cX0_listWith 23 = .ok (.getfield 26, 3) := by decide +kernel
theorem dX0_listWith_26 : decode cX0_listWith 26 = .ok (.aload_n 0, 1) := by decide +kernel
theorem dX0_listWith_27 : decode cX0_listWith 27 = .ok (.getfield 9, 3) := by decide +kernel
theorem dX0_listWith_30 : decode cX0_listWith 30 = .ok (.arraylength, 1) := by decide +kernel
theorem dX0_listWith_31 : decode cX0_listWith 31 = .ok (.if_icmp .ge 49, 3) := by decide +kernel
theorem dX0_listWith_34 : decode cX0_listWith 34 = .ok (.aload_n 0, 1) := by decide +kernel
theorem dX0_listWith_35 : decode cX0_listWith 35 = .ok (.getfield 19, 3) := by decide +kernel
theorem dX0_listWith_38 : decode cX0_listWith 38 = .ok (.iload 4, 2) := by decide +kernel
theorem dX0_listWith_40 : decode cX0_listWith 40 = .ok (.iload_n 1, 1) := by decide +kernel
theorem dX0_listWith_41 : decode cX0_listWith 41 = .ok (.invokevirtual 35, 3) := by decide +kernel
theorem dX0_listWith_44 : decode cX0_listWith 44 = .ok (.iload_n 3, 1) := by decide +kernel
theorem dX0_listWith_45 : decode cX0_listWith 45 = .ok (.if_icmp .ne 29, 3) := by decide +kernel
theorem dX0_listWith_48 : decode cX0_listWith 48 = .ok (.aload_n 0, 1) := by decide +kernel
theorem dX0_listWith_49 : decode cX0_listWith 49 = .ok (.getfield 9, 3) := by decide +kernel
theorem dX0_listWith_52 : decode cX0_listWith 52 = .ok (.aload_n 0, 1) := by decide +kernel
theorem dX0_listWith_53 : decode cX0_listWith 53 = .ok (.getfield 26, 3) := by decide +kernel
theorem dX0_listWith_56 : decode cX0_listWith 56 = .ok (.aload_n 0, 1) := by decide +kernel
theorem dX0_listWith_57 : decode cX0_listWith 57 = .ok (.iload_n 1, 1) := by decide +kernel
theorem dX0_listWith_58 : decode cX0_listWith 58 = .ok (.iload 4, 2) := by decide +kernel
theorem dX0_listWith_60 : decode cX0_listWith 60 = .ok (.invokevirtual 65, 3) := by decide +kernel
theorem dX0_listWith_63 : decode cX0_listWith 63 = .ok (.iastore, 1) := by decide +kernel
theorem dX0_listWith_64 : decode cX0_listWith 64 = .ok (.aload_n 0, 1) := by decide +kernel
theorem dX0_listWith_65 : decode cX0_listWith 65 = .ok (.dup, 1) := by decide +kernel
theorem dX0_listWith_66 : decode cX0_listWith 66 = .ok (.getfield 26, 3) := by decide +kernel
theorem dX0_listWith_69 : decode cX0_listWith 69 = .ok (.iconst 1, 1) := by decide +kernel
theorem dX0_listWith_70 : decode cX0_listWith 70 = .ok (.iadd, 1) := by decide +kernel
theorem dX0_listWith_71 : decode cX0_listWith 71 = .ok (.putfield 26, 3) := by decide +kernel
theorem dX0_listWith_74 : decode cX0_listWith 74 = .ok (.iinc 4 1, 3) := by decide +kernel
theorem dX0_listWith_77 : decode cX0_listWith 77 = .ok (.goto (-61), 3) := by decide +kernel
theorem dX0_listWith_80 : decode cX0_listWith 80 = .ok (.return_, 1) := by decide +kernel
theorem dX1_init_0 : decode cX1_init 0 = .ok (.aload_n 0, 1) := by decide +kernel
theorem dX1_init_1 : decode cX1_init 1 = .ok (.invokespecial 3, 3) := by decide +kernel
theorem dX1_init_4 : decode cX1_init 4 = .ok (.aload_n 0, 1) := by decide +kernel
theorem dX1_init_5 : decode cX1_init 5 = .ok (.iconst 5, 1) := by decide +kernel
theorem dX1_init_6 : decode cX1_init 6 = .ok (.newarray .int, 2) := by decide +kernel
theorem dX1_init_8 : decode cX1_init 8 = .ok (.putfield 9, 3) := by decide +kernel
theorem dX1_init_11 : decode cX1_init 11 = .ok (.aload_n 0, 1) := by decide +kernel
theorem dX1_init_12 : decode cX1_init 12 = .ok (.aload_n 1, 1) := by decide +kernel
theorem dX1_init_13 : decode cX1_init 13 = .ok (.putfield 15, 3) := by decide +kernel
theorem dX1_init_16 : decode cX1_init 16 = .ok (.aload_n 0, 1) := by decide +kernel
theorem dX1_init_17 : decode cX1_init 17 = .ok (.new 19, 3) := by decide +kernel
theorem dX1_init_20 : decode cX1_init 20 = .ok (.dup, 1) := by decide +kernel
theorem dX1_init_21 : decode cX1_init 21 = .ok (.aload_n 1, 1) := by decide +kernel
theorem dX1_init_22 : decode cX1_init 22 = .ok (.invokespecial 21, 3) := by decide +kernel
theorem dX1_init_25 : decode cX1_init 25 = .ok (.putfield 24, 3) := by decide +kernel
theorem dX1_init_28 : decode cX1_init 28 = .ok (.return_, 1) := by decide +kernel
theorem dX1_begin_0 : decode cX1_begin 0 = .ok (.aload_n 0, 1) := by decide +kernel
theorem dX1_begin_1 : decode cX1_begin 1 = .ok (.iload_n 1, 1) := by decide +kernel
theorem dX1_begin_2 : decode cX1_begin 2 = .ok (.putfield 28, 3) := by decide +kernel
theorem dX1_begin_5 : decode cX1_begin 5 = .ok (.aload_n 0, 1) := by decide +kernel
theorem dX1_begin_6 : decode cX1_begin 6 = .ok (.iload_n 2, 1) := by decide +kernel
theorem dX1_begin_7 : decode cX1_begin 7 = .ok (.putfield 32, 3) := by decide +kernel
theorem dX1_begin_10 : decode cX1_begin 10 = .ok (.aload_n 0, 1) := by decide +kernel
theorem dX1_begin_11 : decode cX1_begin 11 = .ok (.iload_n 1, 1) := by decide +kernel
theorem dX1_begin_12 : decode cX1_begin 12 = .ok (.iconst 2, 1) := by decide +kernel
theorem dX1_begin_13 : decode cX1_begin 13 = .ok (.if_icmp .ne 7, 3) := by decide +kernel
theorem dX1_begin_16 : decode cX1_begin 16 = .ok (.iload_n 3, 1) := by decide +kernel
theorem dX1_begin_17 : decode cX1_begin 17 = .ok (.goto 4, 3) := by decide +kernel
theorem dX1_begin_20 : decode cX1_begin 20 = .ok (.iconst 0, 1) := by decide +kernel
theorem dX1_begin_21 : decode cX1_begin 21 = .ok (.putfield 35, 3) := by decide +kernel
theorem dX1_begin_24 : decode cX1_begin 24 = .ok (.aload_n 0, 1) := by decide +kernel
theorem dX1_begin_25 : decode cX1_begin 25 = .ok (.aload_n 0, 1) := by decide +kernel
theorem dX1_begin_26 : decode cX1_begin 26 = .ok (.getfield 15, 3) := by decide +kernel
theorem dX1_begin_29 : decode cX1_begin 29 = .ok (.iload_n 2, 1) := by decide +kernel
theorem dX1_begin_30 : decode cX1_begin 30 = .ok (.invokevirtual 38, 3) := by decide +kernel
theorem dX1_begin_33 : decode cX1_begin 33 = .ok (.putfield 44, 3) := by decide +kernel
theorem dX1_begin_36 : decode cX1_begin 36 = .ok (.aload_n 0, 1) := by decide +kernel
theorem dX1_begin_37 : decode cX1_begin 37 = .ok (.aload_n 0, 1) := by decide +kernel
theorem dX1_begin_38 : decode cX1_begin 38 = .ok (.getfield 44, 3) := by decide +kernel
theorem dX1_begin_41 : decode cX1_begin 41 = .ok (.iconst 4, 1) := by decide +kernel
theorem dX1_begin_42 : decode cX1_begin 42 = .ok (.if_icmp .gt 7, 3) := by decide +kernel
theorem dX1_begin_45 : decode cX1_begin 45 = .ok (.iconst 1, 1) := by decide +kernel
theorem dX1_begin_46 : decode cX1_begin 46 = .ok (.goto 4, 3) := by decide +kernel
theorem dX1_begin_49 : decode cX1_begin 49 = .ok (.iconst 2, 1) := by decide +kernel
theorem dX1_begin_50 : decode cX1_begin 50 = .ok (.putfield 46, 3) := by decide +kernel
theorem dX1_begin_53 : decode cX1_begin 53 = .ok (.aload_n 0, 1) := by decide +kernel
theorem dX1_begin_54 : decode cX1_begin 54 = .ok (.aload_n 0, 1) := by decide +kernel
theorem dX1_begin_55 : decode cX1_begin 55 = .ok (.getfield 15, 3) := by decide +kernel
theorem dX1_begin_58 : decode cX1_begin 58 = .ok (.aload_n 0, 1) := by decide +kernel
theorem dX1_begin_59 : decode cX1_begin 59 = .ok (.getfield 28, 3) := by decide +kernel
theorem dX1_begin_62 : decode cX1_begin 62 = .ok (.iconst 1, 1) := by decide +kernel
theorem dX1_begin_63 : decode cX1_begin 63 = .ok (.if_icmp .lt 19, 3) := by decide +kernel
theorem dX1_begin_66 : decode cX1_begin 66 = .ok (.aload_n 0, 1) := by decide +kernel
theorem dX1_begin_67 : decode cX1_begin 67 = .ok (.getfield 15, 3) := by decide +kernel
theorem dX1_begin_70 : decode cX1_begin 70 = .ok (.aload_n 0, 1) := by decide +kernel
theorem dX1_begin_71 : decode cX1_begin 71 = .ok (.getfield 32, 3) := by decide +kernel
theorem dX1_begin_74 : decode cX1_begin 74 = .ok (.iload 4, 2) := by decide +kernel
theorem dX1_begin_76 : decode cX1_begin 76 = .ok (.invokevirtual 49, 3) := by decide +kernel
theorem dX1_begin_79 : decode cX1_begin 79 = .ok (.goto 7, 3) := by decide +kernel
theorem dX1_begin_82 : decode cX1_begin 82 = .ok (.aload_n 0, 1) := by decide +kernel
theorem dX1_begin_83 : decode cX1_begin 83 = .ok (.getfield 32, 3) := by decide +kernel
theorem dX1_begin_86 : decode cX1_begin 86 = .ok (.aload_n 0, 1) := by decide +kernel
theorem dX1_begin_87 : decode cX1_begin 87 = .ok (.getfield 35, 3) := by decide +kernel
theorem dX1_begin_90 : decode cX1_begin 90 = .ok (.invokevirtual 53, 3) := by decide +kernel
theorem dX1_begin_93 : decode cX1_begin 93 = .ok (.putfield 56, 3) := by decide +kernel
theorem dX1_begin_96 : decode cX1_begin 96 = .ok (.aload_n 0, 1) := by decide +kernel
theorem dX1_begin_97 : decode cX1_begin 97 = .ok (.iconst 0, 1) := by decide +kernel
theorem dX1_begin_98 : decode cX1_begin 98 = .ok (.putfield 59, 3) := by decide +kernel
theorem dX1_begin_101 : decode cX1_begin 101 = .ok (.aload_n 0, 1) := by decide +kernel
theorem dX1_begin_102 : decode cX1_begin 102 = .ok (.getfield 24, 3) := by decide +kernel
theorem dX1_begin_105 : decode cX1_begin 105 = .ok (.aload_n 0, 1) := by decide +kernel
theorem dX1_begin_106 : decode cX1_begin 106 = .ok (.getfield 56, 3) := by decide +kernel
theorem dX1_begin_109 : decode cX1_begin 109 = .ok (.aload_n 0, 1) := by decide +kernel
theorem dX1_begin_110 : decode cX1_begin 110 = .ok (.getfield 46, 3) := by decide +kernel
theorem dX1_begin_113 : decode cX1_begin 113 = .ok (.invokevirtual 63, 3) := by decide +kernel
theorem dX1_begin_116 : decode cX1_begin 116 = .ok (.return_, 1) := by decide +kernel
theorem dX1_makeShare_0 : decode cX1_makeShare 0 = .ok (.aload_n 0, 1) := by decide +kernel
theorem dX1_makeShare_1 : decode cX1_makeShare 1 = .ok (.getfield 15, 3) := by decide +kernel
theorem dX1_makeShare_4 : decode cX1_makeShare 4 = .ok (.getfield 67, 3) := by decide +kernel
theorem dX1_makeShare_7 : decode cX1_makeShare 7 = .ok (.istore_n 3, 1) := by decide +kernel
theorem dX1_makeShare_8 : decode cX1_makeShare 8 = .ok (.aload_n 1, 1) := by decide +kernel
theorem dX1_makeShare_9 : decode cX1_makeShare 9 = .ok (.aload_n 0, 1) := by decide +kernel
theorem dX1_makeShare_10 : decode cX1_makeShare 10 = .ok (.getfield 56, 3) := by decide +kernel
theorem dX1_makeShare_13 : decode cX1_makeShare 13 = .ok (.invokevirtual 70, 3) := by decide +kernel
theorem dX1_makeShare_16 : decode cX1_makeShare 16 = .ok (.iload_n 3, 1) := by decide +kernel
theorem dX1_makeShare_17 : decode cX1_makeShare 17 = .ok (.isub, 1) := by decide +kernel
theorem dX1_makeShare_18 : decode cX1_makeShare 18 = .ok (.iconst 1, 1) := by decide +kernel
theorem dX1_makeShare_19 : decode cX1_makeShare 19 = .ok (.isub, 1) := by decide +kernel
theorem dX1_makeShare_20 : decode cX1_makeShare 20 = .ok (.istore 4, 2) := by decide +kernel
theorem dX1_makeShare_22 : decode cX1_makeShare 22 = .ok (.aload_n 0, 1) := by decide +kernel
theorem dX1_makeShare_23 : decode cX1_makeShare 23 = .ok (.getfield 9, 3) := by decide +kernel
theorem dX1_makeShare_26 : decode cX1_makeShare 26 = .ok (.iconst 0, 1) := by decide +kernel
theorem dX1_makeShare_27 : decode cX1_makeShare 27 = .ok (.invokestatic 75, 3) := by decide +kernel
theorem dX1_makeShare_30 : decode cX1_makeShare 30 = .ok (.aload_n 0, 1) := by decide +kernel
theorem dX1_makeShare_31 : decode cX1_makeShare 31 = .ok (.getfield 9, 3) := by decide +kernel
theorem dX1_makeShare_34 : decode cX1_makeShare 34 = .ok (.iconst 0, 1) := by decide +kernel
theorem dX1_makeShare_35 : decode cX1_makeShare 35 = .ok (.iconst 1, 1) := by decide +kernel
theorem dX1_makeShare_36 : decode cX1_makeShare 36 = .ok (.invokestatic 81, 3) := by decide +kernel
theorem dX1_makeShare_39 : decode cX1_makeShare 39 = .ok (.aload_n 0, 1) := by decide +kernel
theorem dX1_makeShare_40 : decode cX1_makeShare 40 = .ok (.getfield 9, 3) := by decide +kernel
theorem dX1_makeShare_43 : decode cX1_makeShare 43 = .ok (.iconst 1, 1) := by decide +kernel
theorem dX1_makeShare_44 : decode cX1_makeShare 44 = .ok (.iload 4, 2) := by decide +kernel
theorem dX1_makeShare_46 : decode cX1_makeShare 46 = .ok (.invokestatic 81, 3) := by decide +kernel
theorem dX1_makeShare_49 : decode cX1_makeShare 49 = .ok (.aload_n 0, 1) := by decide +kernel
theorem dX1_makeShare_50 : decode cX1_makeShare 50 = .ok (.getfield 46, 3) := by decide +kernel
theorem dX1_makeShare_53 : decode cX1_makeShare 53 = .ok (.iconst 2, 1) := by decide +kernel
theorem dX1_makeShare_54 : decode cX1_makeShare 54 = .ok (.if_icmp .ne 33, 3) := by decide +kernel
theorem dX1_makeShare_57 : decode cX1_makeShare 57 = .ok (.aload_n 0, 1) := by decide +kernel
theorem dX1_makeShare_58 : decode cX1_makeShare 58 = .ok (.getfield 9, 3) := by decide +kernel
theorem dX1_makeShare_61 : decode cX1_makeShare 61 = .ok (.iconst 2, 1) := by decide +kernel
theorem dX1_makeShare_62 : decode cX1_makeShare 62 = .ok (.aload_n 2, 1) := by decide +kernel
theorem dX1_makeShare_63 : decode cX1_makeShare 63 = .ok (.aload_n 0, 1) := by decide +kernel
theorem dX1_makeShare_64 : decode cX1_makeShare 64 = .ok (.getfield 56, 3) := by decide +kernel
theorem dX1_makeShare_67 : decode cX1_makeShare 67 = .ok (.invokevirtual 70, 3) := by decide +kernel
theorem dX1_makeShare_70 : decode cX1_makeShare 70 = .ok (.iload_n 3, 1) := by decide +kernel
theorem dX1_makeShare_71 : decode cX1_makeShare 71 = .ok (.iload_n 3, 1) := by decide +kernel
theorem dX1_makeShare_72 : decode cX1_makeShare 72 = .ok (.imul, 1) := by decide +kernel
theorem dX1_makeShare_73 : decode cX1_makeShare 73 = .ok (.isub, 1) := by decide +kernel
theorem dX1_makeShare_74 : decode cX1_makeShare 74 = .ok (.iconst 1, 1) := by decide +kernel
theorem dX1_makeShare_75 : decode cX1_makeShare 75 = .ok (.isub, 1) := by decide +kernel
theorem dX1_makeShare_76 : decode cX1_makeShare 76 = .ok (.iload 4, 2) := by decide +kernel
theorem dX1_makeShare_78 : decode cX1_makeShare 78 = .ok (.iload 4, 2) := by decide +kernel
theorem dX1_makeShare_80 : decode cX1_makeShare 80 = .ok (.imul, 1) := by decide +kernel
theorem dX1_makeShare_81 : decode cX1_makeShare 81 = .ok (.iadd, 1) := by decide +kernel
theorem dX1_makeShare_82 : decode cX1_makeShare 82 = .ok (.iconst 2, 1) := by decide +kernel
theorem dX1_makeShare_83 : decode cX1_makeShare 83 = .ok (.idiv, 1) := by decide +kernel
theorem dX1_makeShare_84 : decode cX1_makeShare 84 = .ok (.invokestatic 81, 3) := by decide +kernel
theorem dX1_makeShare_87 : decode cX1_makeShare 87 = .ok (.iconst 0, 1) := by decide +kernel
theorem dX1_makeShare_88 : decode cX1_makeShare 88 = .ok (.istore 5, 2) := by decide +kernel
theorem dX1_makeShare_90 : decode cX1_makeShare 90 = .ok (.iload 5, 2) := by decide +kernel
theorem dX1_makeShare_92 : decode cX1_makeShare 92 = .ok (.aload_n 0, 1) := by decide +kernel
theorem dX1_makeShare_93 : decode cX1_makeShare 93 = .ok (.getfield 46, 3) := by decide +kernel
theorem dX1_makeShare_96 : decode cX1_makeShare 96 = .ok (.if_icmp .ge 49, 3) := by decide +kernel
theorem dX1_makeShare_99 : decode cX1_makeShare 99 = .ok (.aload_n 0, 1) := by decide +kernel
theorem dX1_makeShare_100 : decode cX1_makeShare 100 = .ok (.getfield 9, 3) := by decide +kernel
theorem dX1_makeShare_103 : decode cX1_makeShare 103 = .ok (.iconst 2, 1) := by decide +kernel
theorem dX1_makeShare_104 : decode cX1_makeShare 104 = .ok (.aload_n 0, 1) := by decide +kernel
theorem dX1_makeShare_105 : decode cX1_makeShare 105 = .ok (.getfield 46, 3) := by decide +kernel
theorem dX1_makeShare_108 : decode cX1_makeShare 108 = .ok (.imul, 1) := by decide +kernel
theorem dX1_makeShare_109 : decode cX1_makeShare 109 = .ok (.iload 5, 2) := by decide +kernel
theorem dX1_makeShare_111 : decode cX1_makeShare 111 = .ok (.isub, 1) := by decide +kernel
theorem dX1_makeShare_112 : decode cX1_makeShare 112 = .ok (.aload_n 0, 1) := by decide +kernel
theorem dX1_makeShare_113 : decode cX1_makeShare 113 = .ok (.getfield 15, 3) := by decide +kernel
theorem dX1_makeShare_116 : decode cX1_makeShare 116 = .ok (.aload_n 0, 1) := by decide +kernel
theorem dX1_makeShare_117 : decode cX1_makeShare 117 = .ok (.getfield 46, 3) := by decide +kernel
theorem dX1_makeShare_120 : decode cX1_makeShare 120 = .ok (.iload 5, 2) := by decide +kernel
theorem dX1_makeShare_122 : decode cX1_makeShare 122 = .ok (.isub, 1) := by decide +kernel
theorem dX1_makeShare_123 : decode cX1_makeShare 123 = .ok (.invokevirtual 85, 3) := by decide +kernel
theorem dX1_makeShare_126 : decode cX1_makeShare 126 = .ok (.aload_n 0, 1) := by decide +kernel
theorem dX1_makeShare_127 : decode cX1_makeShare 127 = .ok (.getfield 9, 3) := by decide +kernel
theorem dX1_makeShare_130 : decode cX1_makeShare 130 = .ok (.iload 5, 2) := by decide +kernel
theorem dX1_makeShare_132 : decode cX1_makeShare 132 = .ok (.invokestatic 88, 3) := by decide +kernel
theorem dX1_makeShare_135 : decode cX1_makeShare 135 = .ok (.imul, 1) := by decide +kernel
theorem dX1_makeShare_136 : decode cX1_makeShare 136 = .ok (.invokestatic 81, 3) := by decide +kernel
theorem dX1_makeShare_139 : decode cX1_makeShare 139 = .ok (.iinc 5 1, 3) := by decide +kernel
theorem dX1_makeShare_142 : decode cX1_makeShare 142 = .ok (.goto (-52), 3) := by decide +kernel
theorem dX1_makeShare_145 : decode cX1_makeShare 145 = .ok (.aload_n 0, 1) := by decide +kernel
theorem dX1_makeShare_146 : decode cX1_makeShare 146 = .ok (.iconst 1, 1) := by decide +kernel
theorem dX1_makeShare_147 : decode cX1_makeShare 147 = .ok (.putfield 59, 3) := by decide +kernel
theorem dX1_makeShare_150 : decode cX1_makeShare 150 = .ok (.return_, 1) := by decide +kernel
theorem dX2_init_0 : decode cX2_init 0 = .ok (.aload_n 0, 1) := by decide +kernel
theorem dX2_init_1 : decode cX2_init 1 = .ok (.invokespecial 3, 3) := by decide +kernel
theorem dX2_init_4 : decode cX2_init 4 = .ok (.aload_n 0, 1) := by decide +kernel
theorem dX2_init_5 : decode cX2_init 5 = .ok (.sipush 343, 3) := by decide +kernel
theorem dX2_init_8 : decode cX2_init 8 = .ok (.newarray .int, 2) := by decide +kernel
theorem dX2_init_10 : decode cX2_init 10 = .ok (.putfield 9, 3) := by decide +kernel
theorem dX2_init_13 : decode cX2_init 13 = .ok (.aload_n 0, 1) := by decide +kernel
theorem dX2_init_14 : decode cX2_init 14 = .ok (.sipush 343, 3) := by decide +kernel
theorem dX2_init_17 : decode cX2_init 17 = .ok (.newarray .int, 2) := by decide +kernel
theorem dX2_init_19 : decode cX2_init 19 = .ok (.putfield 15, 3) := by decide +kernel
theorem dX2_init_22 : decode cX2_init 22 = .ok (.aload_n 0, 1) := by decide +kernel
theorem dX2_init_23 : decode cX2_init 23 = .ok (.iconst 0, 1) := by decide +kernel
theorem dX2_init_24 : decode cX2_init 24 = .ok (.putfield 18, 3) := by decide +kernel
theorem dX2_init_27 : decode cX2_init 27 = .ok (.aload_n 0, 1) := by decide +kernel
theorem dX2_init_28 : decode cX2_init 28 = .ok (.iconst 2, 1) := by decide +kernel
theorem dX2_init_29 : decode cX2_init 29 = .ok (.putfield 22, 3) := by decide +kernel
theorem dX2_init_32 : decode cX2_init 32 = .ok (.aload_n 0, 1) := by decide +kernel
theorem dX2_init_33 : decode cX2_init 33 = .ok (.iconst 1, 1) := by decide +kernel
theorem dX2_init_34 : decode cX2_init 34 = .ok (.putfield 25, 3) := by decide +kernel
theorem dX2_init_37 : decode cX2_init 37 = .ok (.aload_n 0, 1) := by decide +kernel
theorem dX2_init_38 : decode cX2_init 38 = .ok (.iconst 0, 1) := by decide +kernel
theorem dX2_init_39 : decode cX2_init 39 = .ok (.putfield 28, 3) := by decide +kernel
theorem dX2_init_42 : decode cX2_init 42 = .ok (.aload_n 0, 1) := by decide +kernel
theorem dX2_init_43 : decode cX2_init 43 = .ok (.aload_n 1, 1) := by decide +kernel
theorem dX2_init_44 : decode cX2_init 44 = .ok (.putfield 31, 3) := by decide +kernel
theorem dX2_init_47 : decode cX2_init 47 = .ok (.aload_n 0, 1) := by decide +kernel
theorem dX2_init_48 : decode cX2_init 48 = .ok (.iload_n 2, 1) := by decide +kernel
theorem dX2_init_49 : decode cX2_init 49 = .ok (.putfield 35, 3) := by decide +kernel
theorem dX2_init_52 : decode cX2_init 52 = .ok (.return_, 1) := by decide +kernel
theorem dX2_fit_0 : decode cX2_fit 0 = .ok (.aload_n 0, 1) := by decide +kernel
theorem dX2_fit_1 : decode cX2_fit 1 = .ok (.getfield 18, 3) := by decide +kernel
theorem dX2_fit_4 : decode cX2_fit 4 = .ok (.aload_n 0, 1) := by decide +kernel
theorem dX2_fit_5 : decode cX2_fit 5 = .ok (.getfield 31, 3) := by decide +kernel
theorem dX2_fit_8 : decode cX2_fit 8 = .ok (.getfield 38, 3) := by decide +kernel
theorem dX2_fit_11 : decode cX2_fit 11 = .ok (.if_icmp .ne 4, 3) := by decide +kernel
theorem dX2_fit_14 : decode cX2_fit 14 = .ok (.return_, 1) := by decide +kernel
theorem dX2_fit_15 : decode cX2_fit 15 = .ok (.aload_n 0, 1) := by decide +kernel
theorem dX2_fit_16 : decode cX2_fit 16 = .ok (.aload_n 0, 1) := by decide +kernel
theorem dX2_fit_17 : decode cX2_fit 17 = .ok (.getfield 31, 3) := by decide +kernel
theorem dX2_fit_20 : decode cX2_fit 20 = .ok (.getfield 38, 3) := by decide +kernel
theorem dX2_fit_23 : decode cX2_fit 23 = .ok (.putfield 18, 3) := by decide +kernel
theorem dX2_fit_26 : decode cX2_fit 26 = .ok (.aload_n 0, 1) := by decide +kernel
theorem dX2_fit_27 : decode cX2_fit 27 = .ok (.aload_n 0, 1) := by decide +kernel
theorem dX2_fit_28 : decode cX2_fit 28 = .ok (.getfield 31, 3) := by decide +kernel
theorem dX2_fit_31 : decode cX2_fit 31 = .ok (.aload_n 0, 1) := by decide +kernel
theorem dX2_fit_32 : decode cX2_fit 32 = .ok (.getfield 35, 3) := by decide +kernel
theorem dX2_fit_35 : decode cX2_fit 35 = .ok (.invokevirtual 43, 3) := by decide +kernel
theorem dX2_fit_38 : decode cX2_fit 38 = .ok (.putfield 22, 3) := by decide +kernel
theorem dX2_fit_41 : decode cX2_fit 41 = .ok (.aload_n 0, 1) := by decide +kernel
theorem dX2_fit_42 : decode cX2_fit 42 = .ok (.iconst 1, 1) := by decide +kernel
theorem dX2_fit_43 : decode cX2_fit 43 = .ok (.aload_n 0, 1) := by decide +kernel
theorem dX2_fit_44 : decode cX2_fit 44 = .ok (.getfield 22, 3) := by decide +kernel
theorem dX2_fit_47 : decode cX2_fit 47 = .ok (.iconst 1, 1) := by decide +kernel
theorem dX2_fit_48 : decode cX2_fit 48 = .ok (.isub, 1) := by decide +kernel
theorem dX2_fit_49 : decode cX2_fit 49 = .ok (.invokestatic 47, 3) := by decide +kernel
theorem dX2_fit_52 : decode cX2_fit 52 = .ok (.putfield 25, 3) := by decide +kernel
theorem dX2_fit_55 : decode cX2_fit 55 = .ok (.aload_n 0, 1) := by decide +kernel
theorem dX2_fit_56 : decode cX2_fit 56 = .ok (.aload_n 0, 1) := by decide +kernel
theorem dX2_fit_57 : decode cX2_fit 57 = .ok (.getfield 22, 3) := by decide +kernel
theorem dX2_fit_60 : decode cX2_fit 60 = .ok (.putfield 28, 3) := by decide +kernel
theorem dX2_fit_63 : decode cX2_fit 63 = .ok (.aload_n 0, 1) := by decide +kernel
theorem dX2_fit_64 : decode cX2_fit 64 = .ok (.getfield 28, 3) := by decide +kernel
theorem dX2_fit_67 : decode cX2_fit 67 = .ok (.iconst 2, 1) := by decide +kernel
theorem dX2_fit_68 : decode cX2_fit 68 = .ok (.aload_n 0, 1) := by decide +kernel
theorem dX2_fit_69 : decode cX2_fit 69 = .ok (.getfield 22, 3) := by decide +kernel
theorem dX2_fit_72 : decode cX2_fit 72 = .ok (.imul, 1) := by decide +kernel
theorem dX2_fit_73 : decode cX2_fit 73 = .ok (.if_icmp .ge 34, 3) := by decide +kernel
theorem dX2_fit_76 : decode cX2_fit 76 = .ok (.aload_n 0, 1) := by decide +kernel
theorem dX2_fit_77 : decode cX2_fit 77 = .ok (.getfield 31, 3) := by decide +kernel
theorem dX2_fit_80 : decode cX2_fit 80 = .ok (.aload_n 0, 1) := by decide +kernel
theorem dX2_fit_81 : decode cX2_fit 81 = .ok (.getfield 28, 3) := by decide +kernel
theorem dX2_fit_84 : decode cX2_fit 84 = .ok (.aload_n 0, 1) := by decide +kernel
theorem dX2_fit_85 : decode cX2_fit 85 = .ok (.getfield 35, 3) := by decide +kernel
theorem dX2_fit_88 : decode cX2_fit 88 = .ok (.invokevirtual 53, 3) := by decide +kernel
theorem dX2_fit_91 : decode cX2_fit 91 = .ok (.ifCond .eq 16, 3) := by decide +kernel
theorem dX2_fit_94 : decode cX2_fit 94 = .ok (.aload_n 0, 1) := by decide +kernel
theorem dX2_fit_95 : decode cX2_fit 95 = .ok (.dup, 1) := by decide +kernel
theorem dX2_fit_96 : decode cX2_fit 96 = .ok (.getfield 28, 3) := by decide +kernel
theorem dX2_fit_99 : decode cX2_fit 99 = .ok (.iconst 1, 1) := by decide +kernel
theorem dX2_fit_100 : decode cX2_fit 100 = .ok (.iadd, 1) := by decide +kernel
theorem dX2_fit_101 : decode cX2_fit 101 = .ok (.putfield 28, 3) := by decide +kernel
theorem dX2_fit_104 : decode cX2_fit 104 = .ok (.goto (-41), 3) := by decide +kernel
theorem dX2_fit_107 : decode cX2_fit 107 = .ok (.iconst 1, 1) := by decide +kernel
theorem dX2_fit_108 : decode cX2_fit 108 = .ok (.istore_n 1, 1) := by decide +kernel
theorem dX2_fit_109 : decode cX2_fit 109 = .ok (.iload_n 1, 1) := by decide +kernel
theorem dX2_fit_110 : decode cX2_fit 110 = .ok (.aload_n 0, 1) := by decide +kernel
theorem dX2_fit_111 : decode cX2_fit 111 = .ok (.getfield 22, 3) := by decide +kernel
theorem dX2_fit_114 : decode cX2_fit 114 = .ok (.if_icmp .ge 21, 3) := by decide +kernel
theorem dX2_fit_117 : decode cX2_fit 117 = .ok (.aload_n 0, 1) := by decide +kernel
theorem dX2_fit_118 : decode cX2_fit 118 = .ok (.iload_n 1, 1) := by decide +kernel
theorem dX2_fit_119 : decode cX2_fit 119 = .ok (.invokevirtual 57, 3) := by decide +kernel
theorem dX2_fit_122 : decode cX2_fit 122 = .ok (.aload_n 0, 1) := by decide +kernel
theorem dX2_fit_123 : decode cX2_fit 123 = .ok (.getfield 25, 3) := by decide +kernel
theorem dX2_fit_126 : decode cX2_fit 126 = .ok (.if_icmp .eq 9, 3) := by decide +kernel
theorem dX2_fit_129 : decode cX2_fit 129 = .ok (.iinc 1 1, 3) := by decide +kernel
theorem dX2_fit_132 : decode cX2_fit 132 = .ok (.goto (-23), 3) := by decide +kernel
theorem dX2_fit_135 : decode cX2_fit 135 = .ok (.iconst 0, 1) := by decide +kernel
theorem dX2_fit_136 : decode cX2_fit 136 = .ok (.istore_n 2, 1) := by decide +kernel
theorem dX2_fit_137 : decode cX2_fit 137 = .ok (.iload_n 2, 1) := by decide +kernel
theorem dX2_fit_138 : decode cX2_fit 138 = .ok (.aload_n 0, 1) := by decide +kernel
theorem dX2_fit_139 : decode cX2_fit 139 = .ok (.getfield 25, 3) := by decide +kernel
theorem dX2_fit_142 : decode cX2_fit 142 = .ok (.if_icmp .ge 25, 3) := by decide +kernel
theorem dX2_fit_145 : decode cX2_fit 145 = .ok (.aload_n 0, 1) := by decide +kernel
theorem dX2_fit_146 : decode cX2_fit 146 = .ok (.getfield 15, 3) := by decide +kernel
theorem dX2_fit_149 : decode cX2_fit 149 = .ok (.aload_n 0, 1) := by decide +kernel
theorem dX2_fit_150 : decode cX2_fit 150 = .ok (.getfield 9, 3) := by decide +kernel
theorem dX2_fit_153 : decode cX2_fit 153 = .ok (.iload_n 2, 1) := by decide +kernel
theorem dX2_fit_154 : decode cX2_fit 154 = .ok (.invokestatic 60, 3) := by decide +kernel
theorem dX2_fit_157 : decode cX2_fit 157 = .ok (.iload_n 2, 1) := by decide +kernel
theorem dX2_fit_158 : decode cX2_fit 158 = .ok (.invokestatic 64, 3) := by decide +kernel
theorem dX2_fit_161 : decode cX2_fit 161 = .ok (.iinc 2 1, 3) := by decide +kernel
theorem dX2_fit_164 : decode cX2_fit 164 = .ok (.goto (-27), 3) := by decide +kernel
theorem dX2_fit_167 : decode cX2_fit 167 = .ok (.return_, 1) := by decide +kernel
theorem dX2_walk_0 : decode cX2_walk 0 = .ok (.iconst 1, 1) := by decide +kernel
theorem dX2_walk_1 : decode cX2_walk 1 = .ok (.istore_n 2, 1) := by decide +kernel
theorem dX2_walk_2 : decode cX2_walk 2 = .ok (.iconst 0, 1) := by decide +kernel
theorem dX2_walk_3 : decode cX2_walk 3 = .ok (.istore_n 3, 1) := by decide +kernel
theorem dX2_walk_4 : decode cX2_walk 4 = .ok (.iload_n 3, 1) := by decide +kernel
theorem dX2_walk_5 : decode cX2_walk 5 = .ok (.aload_n 0, 1) := by decide +kernel
theorem dX2_walk_6 : decode cX2_walk 6 = .ok (.getfield 25, 3) := by decide +kernel
theorem dX2_walk_9 : decode cX2_walk 9 = .ok (.if_icmp .ge 48, 3) := by decide +kernel
theorem dX2_walk_12 : decode cX2_walk 12 = .ok (.aload_n 0, 1) := by decide +kernel
theorem dX2_walk_13 : decode cX2_walk 13 = .ok (.getfield 9, 3) := by decide +kernel
theorem dX2_walk_16 : decode cX2_walk 16 = .ok (.iload_n 3, 1) := by decide +kernel
theorem dX2_walk_17 : decode cX2_walk 17 = .ok (.iload_n 2, 1) := by decide +kernel
theorem dX2_walk_18 : decode cX2_walk 18 = .ok (.invokestatic 64, 3) := by decide +kernel
theorem dX2_walk_21 : decode cX2_walk 21 = .ok (.aload_n 0, 1) := by decide +kernel
theorem dX2_walk_22 : decode cX2_walk 22 = .ok (.getfield 31, 3) := by decide +kernel
theorem dX2_walk_25 : decode cX2_walk 25 = .ok (.aload_n 0, 1) := by decide +kernel
theorem dX2_walk_26 : decode cX2_walk 26 = .ok (.getfield 31, 3) := by decide +kernel
theorem dX2_walk_29 : decode cX2_walk 29 = .ok (.iload_n 2, 1) := by decide +kernel
theorem dX2_walk_30 : decode cX2_walk 30 = .ok (.iload_n 1, 1) := by decide +kernel
theorem dX2_walk_31 : decode cX2_walk 31 = .ok (.invokevirtual 68, 3) := by decide +kernel
theorem dX2_walk_34 : decode cX2_walk 34 = .ok (.aload_n 0, 1) := by decide +kernel
theorem dX2_walk_35 : decode cX2_walk 35 = .ok (.getfield 28, 3) := by decide +kernel
theorem dX2_walk_38 : decode cX2_walk 38 = .ok (.invokevirtual 71, 3) := by decide +kernel
theorem dX2_walk_41 : decode cX2_walk 41 = .ok (.istore_n 2, 1) := by decide +kernel
theorem dX2_walk_42 : decode cX2_walk 42 = .ok (.iload_n 2, 1) := by decide +kernel
theorem dX2_walk_43 : decode cX2_walk 43 = .ok (.iconst 1, 1) := by decide +kernel
theorem dX2_walk_44 : decode cX2_walk 44 = .ok (.if_icmp .ne 7, 3) := by decide +kernel
theorem dX2_walk_47 : decode cX2_walk 47 = .ok (.iload_n 3, 1) := by decide +kernel
theorem dX2_walk_48 : decode cX2_walk 48 = .ok (.iconst 1, 1) := by decide +kernel
theorem dX2_walk_49 : decode cX2_walk 49 = .ok (.iadd, 1) := by decide +kernel
theorem dX2_walk_50 : decode cX2_walk 50 = .ok (.ireturn, 1) := by decide +kernel
theorem dX2_walk_51 : decode cX2_walk 51 = .ok (.iinc 3 1, 3) := by decide +kernel
theorem dX2_walk_54 : decode cX2_walk 54 = .ok (.goto (-50), 3) := by decide +kernel
theorem dX2_walk_57 : decode cX2_walk 57 = .ok (.iconst 0, 1) := by decide +kernel
theorem dX2_walk_58 : decode cX2_walk 58 = .ok (.ireturn, 1) := by decide +kernel
theorem dX2_has_0 : decode cX2_has 0 = .ok (.iload_n 1, 1) := by decide +kernel
theorem dX2_has_1 : decode cX2_has 1 = .ok (.ifCond .lt 15, 3) := by decide +kernel
theorem dX2_has_4 : decode cX2_has 4 = .ok (.iload_n 1, 1) := by decide +kernel
theorem dX2_has_5 : decode cX2_has 5 = .ok (.aload_n 0, 1) := by decide +kernel
theorem dX2_has_6 : decode cX2_has 6 = .ok (.getfield 22, 3) := by decide +kernel
theorem dX2_has_9 : decode cX2_has 9 = .ok (.if_icmp .ge 7, 3) := by decide +kernel
theorem dX2_has_12 : decode cX2_has 12 = .ok (.iconst 1, 1) := by decide +kernel
theorem dX2_has_13 : decode cX2_has 13 = .ok (.goto 4, 3) := by decide +kernel
theorem dX2_has_16 : decode cX2_has 16 = .ok (.iconst 0, 1) := by decide +kernel
theorem dX2_has_17 : decode cX2_has 17 = .ok (.ireturn, 1) := by decide +kernel
theorem dX2_product_0 : decode cX2_product 0 = .ok (.iload_n 1, 1) := by decide +kernel
theorem dX2_product_1 : decode cX2_product 1 = .ok (.ifCond .eq 7, 3) := by decide +kernel
theorem dX2_product_4 : decode cX2_product 4 = .ok (.iload_n 2, 1) := by decide +kernel
theorem dX2_product_5 : decode cX2_product 5 = .ok (.ifCond .ne 5, 3) := by decide +kernel
theorem dX2_product_8 : decode cX2_product 8 = .ok (.iconst 0, 1) := by decide +kernel
theorem dX2_product_9 : decode cX2_product 9 = .ok (.ireturn, 1) := by decide +kernel
theorem dX2_product_10 : decode cX2_product 10 = .ok (.aload_n 0, 1) := by decide +kernel
theorem dX2_product_11 : decode cX2_product 11 = .ok (.getfield 9, 3) := by decide +kernel
theorem dX2_product_14 : decode cX2_product 14 = .ok (.aload_n 0, 1) := by decide +kernel
theorem dX2_product_15 : decode cX2_product 15 = .ok (.getfield 15, 3) := by decide +kernel
theorem dX2_product_18 : decode cX2_product 18 = .ok (.iload_n 1, 1) := by decide +kernel
theorem dX2_product_19 : decode cX2_product 19 = .ok (.invokestatic 60, 3) := by decide +kernel
theorem dX2_product_22 : decode cX2_product 22 = .ok (.aload_n 0, 1) := by decide +kernel
theorem dX2_product_23 : decode cX2_product 23 = .ok (.getfield 15, 3) := by decide +kernel
theorem dX2_product_26 : decode cX2_product 26 = .ok (.iload_n 2, 1) := by decide +kernel
theorem dX2_product_27 : decode cX2_product 27 = .ok (.invokestatic 60, 3) := by decide +kernel
theorem dX2_product_30 : decode cX2_product 30 = .ok (.iadd, 1) := by decide +kernel
theorem dX2_product_31 : decode cX2_product 31 = .ok (.aload_n 0, 1) := by decide +kernel
theorem dX2_product_32 : decode cX2_product 32 = .ok (.getfield 25, 3) := by decide +kernel
theorem dX2_product_35 : decode cX2_product 35 = .ok (.irem, 1) := by decide +kernel
theorem dX2_product_36 : decode cX2_product 36 = .ok (.invokestatic 60, 3) := by decide +kernel
theorem dX2_product_39 : decode cX2_product 39 = .ok (.ireturn, 1) := by decide +kernel
theorem dX2_power_0 : decode cX2_power 0 = .ok (.iload_n 2, 1) := by decide +kernel
theorem dX2_power_1 : decode cX2_power 1 = .ok (.ifCond .ne 5, 3) := by decide +kernel
theorem dX2_power_4 : decode cX2_power 4 = .ok (.iconst 1, 1) := by decide +kernel
theorem dX2_power_5 : decode cX2_power 5 = .ok (.ireturn, 1) := by decide +kernel
theorem dX2_power_6 : decode cX2_power 6 = .ok (.iload_n 1, 1) := by decide +kernel
theorem dX2_power_7 : decode cX2_power 7 = .ok (.ifCond .ne 7, 3) := by decide +kernel
theorem dX2_power_10 : decode cX2_power 10 = .ok (.iconst 0, 1) := by decide +kernel
theorem dX2_power_11 : decode cX2_power 11 = .ok (.goto 29, 3) := by decide +kernel
theorem dX2_power_14 : decode cX2_power 14 = .ok (.aload_n 0, 1) := by decide +kernel
theorem dX2_power_15 : decode cX2_power 15 = .ok (.getfield 9, 3) := by decide +kernel
theorem dX2_power_18 : decode cX2_power 18 = .ok (.aload_n 0, 1) := by decide +kernel
theorem dX2_power_19 : decode cX2_power 19 = .ok (.getfield 15, 3) := by decide +kernel
theorem dX2_power_22 : decode cX2_power 22 = .ok (.iload_n 1, 1) := by decide +kernel
theorem dX2_power_23 : decode cX2_power 23 = .ok (.invokestatic 60, 3) := by decide +kernel
theorem dX2_power_26 : decode cX2_power 26 = .ok (.i2l, 1) := by decide +kernel
theorem dX2_power_27 : decode cX2_power 27 = .ok (.iload_n 2, 1) := by decide +kernel
theorem dX2_power_28 : decode cX2_power 28 = .ok (.i2l, 1) := by decide +kernel
theorem dX2_power_29 : decode cX2_power 29 = .ok (.lmul, 1) := by decide +kernel
theorem dX2_power_30 : decode cX2_power 30 = .ok (.aload_n 0, 1) := by decide +kernel
theorem dX2_power_31 : decode cX2_power 31 = .ok (.getfield 25, 3) := by decide +kernel
theorem dX2_power_34 : decode cX2_power 34 = .ok (.i2l, 1) := by decide +kernel
theorem dX2_power_35 : decode cX2_power 35 = .ok (.lrem, 1) := by decide +kernel
theorem dX2_power_36 : decode cX2_power 36 = .ok (.l2i, 1) := by decide +kernel
theorem dX2_power_37 : decode cX2_power 37 = .ok (.invokestatic 60, 3) := by decide +kernel
theorem dX2_power_40 : decode cX2_power 40 = .ok (.ireturn, 1) := by decide +kernel
theorem dX2_squareSign_0 : decode cX2_squareSign 0 = .ok (.iload_n 1, 1) := by decide +kernel
theorem dX2_squareSign_1 : decode cX2_squareSign 1 = .ok (.ifCond .ne 5, 3) := by decide +kernel
theorem dX2_squareSign_4 : decode cX2_squareSign 4 = .ok (.iconst 0, 1) := by decide +kernel
theorem dX2_squareSign_5 : decode cX2_squareSign 5 = .ok (.ireturn, 1) := by decide +kernel
theorem dX2_squareSign_6 : decode cX2_squareSign 6 = .ok (.aload_n 0, 1) := by decide +kernel
theorem dX2_squareSign_7 : decode cX2_squareSign 7 = .ok (.getfield 15, 3) := by decide +kernel
theorem dX2_squareSign_10 : decode cX2_squareSign 10 = .ok (.iload_n 1, 1) := by decide +kernel
theorem dX2_squareSign_11 : decode cX2_squareSign 11 = .ok (.invokestatic 60, 3) := by decide +kernel
theorem dX2_squareSign_14 : decode cX2_squareSign 14 = .ok (.iconst 2, 1) := by decide +kernel
theorem dX2_squareSign_15 : decode cX2_squareSign 15 = .ok (.irem, 1) := by decide +kernel
theorem dX2_squareSign_16 : decode cX2_squareSign 16 = .ok (.ifCond .ne 7, 3) := by decide +kernel
theorem dX2_squareSign_19 : decode cX2_squareSign 19 = .ok (.iconst 1, 1) := by decide +kernel
theorem dX2_squareSign_20 : decode cX2_squareSign 20 = .ok (.goto 4, 3) := by decide +kernel
theorem dX2_squareSign_23 : decode cX2_squareSign 23 = .ok (.iconst (-1), 1) := by decide +kernel
theorem dX2_squareSign_24 : decode cX2_squareSign 24 = .ok (.ireturn, 1) := by decide +kernel
theorem dX2_turnsOf_0 : decode cX2_turnsOf 0 = .ok (.iconst 1, 1) := by decide +kernel
theorem dX2_turnsOf_1 : decode cX2_turnsOf 1 = .ok (.istore_n 2, 1) := by decide +kernel
theorem dX2_turnsOf_2 : decode cX2_turnsOf 2 = .ok (.iload_n 2, 1) := by decide +kernel
theorem dX2_turnsOf_3 : decode cX2_turnsOf 3 = .ok (.aload_n 0, 1) := by decide +kernel
theorem dX2_turnsOf_4 : decode cX2_turnsOf 4 = .ok (.getfield 25, 3) := by decide +kernel
theorem dX2_turnsOf_7 : decode cX2_turnsOf 7 = .ok (.if_icmp .ge 27, 3) := by decide +kernel
theorem dX2_turnsOf_10 : decode cX2_turnsOf 10 = .ok (.aload_n 0, 1) := by decide +kernel
theorem dX2_turnsOf_11 : decode cX2_turnsOf 11 = .ok (.getfield 15, 3) := by decide +kernel
theorem dX2_turnsOf_14 : decode cX2_turnsOf 14 = .ok (.iload_n 1, 1) := by decide +kernel
theorem dX2_turnsOf_15 : decode cX2_turnsOf 15 = .ok (.invokestatic 60, 3) := by decide +kernel
theorem dX2_turnsOf_18 : decode cX2_turnsOf 18 = .ok (.iload_n 2, 1) := by decide +kernel
theorem dX2_turnsOf_19 : decode cX2_turnsOf 19 = .ok (.imul, 1) := by decide +kernel
theorem dX2_turnsOf_20 : decode cX2_turnsOf 20 = .ok (.aload_n 0, 1) := by decide +kernel
theorem dX2_turnsOf_21 : decode cX2_turnsOf 21 = .ok (.getfield 25, 3) := by decide +kernel
theorem dX2_turnsOf_24 : decode cX2_turnsOf 24 = .ok (.irem, 1) := by decide +kernel
theorem dX2_turnsOf_25 : decode cX2_turnsOf 25 = .ok (.ifCond .eq 9, 3) := by decide +kernel
theorem dX2_turnsOf_28 : decode cX2_turnsOf 28 = .ok (.iinc 2 1, 3) := by decide +kernel
theorem dX2_turnsOf_31 : decode cX2_turnsOf 31 = .ok (.goto (-29), 3) := by decide +kernel
theorem dX2_turnsOf_34 : decode cX2_turnsOf 34 = .ok (.iload_n 2, 1) := by decide +kernel
theorem dX2_turnsOf_35 : decode cX2_turnsOf 35 = .ok (.ireturn, 1) := by decide +kernel
theorem dX2_valueOf_0 : decode cX2_valueOf 0 = .ok (.iconst 0, 1) := by decide +kernel
theorem dX2_valueOf_1 : decode cX2_valueOf 1 = .ok (.istore_n 3, 1) := by decide +kernel
theorem dX2_valueOf_2 : decode cX2_valueOf 2 = .ok (.aload_n 0, 1) := by decide +kernel
theorem dX2_valueOf_3 : decode cX2_valueOf 3 = .ok (.getfield 31, 3) := by decide +kernel
theorem dX2_valueOf_6 : decode cX2_valueOf 6 = .ok (.iload_n 1, 1) := by decide +kernel
theorem dX2_valueOf_7 : decode cX2_valueOf 7 = .ok (.invokevirtual 74, 3) := by decide +kernel
theorem dX2_valueOf_10 : decode cX2_valueOf 10 = .ok (.istore 4, 2) := by decide +kernel
theorem dX2_valueOf_12 : decode cX2_valueOf 12 = .ok (.iload 4, 2) := by decide +kernel
theorem dX2_valueOf_14 : decode cX2_valueOf 14 = .ok (.ifCond .lt 33, 3) := by decide +kernel
theorem dX2_valueOf_17 : decode cX2_valueOf 17 = .ok (.aload_n 0, 1) := by decide +kernel
theorem dX2_valueOf_18 : decode cX2_valueOf 18 = .ok (.getfield 31, 3) := by decide +kernel
theorem dX2_valueOf_21 : decode cX2_valueOf 21 = .ok (.aload_n 0, 1) := by decide +kernel
theorem dX2_valueOf_22 : decode cX2_valueOf 22 = .ok (.iload_n 3, 1) := by decide +kernel
theorem dX2_valueOf_23 : decode cX2_valueOf 23 = .ok (.iload_n 2, 1) := by decide +kernel
theorem dX2_valueOf_24 : decode cX2_valueOf 24 = .ok (.invokevirtual 77, 3) := by decide +kernel
theorem dX2_valueOf_27 : decode cX2_valueOf 27 = .ok (.aload_n 0, 1) := by decide +kernel
theorem dX2_valueOf_28 : decode cX2_valueOf 28 = .ok (.getfield 31, 3) := by decide +kernel
theorem dX2_valueOf_31 : decode cX2_valueOf 31 = .ok (.iload_n 1, 1) := by decide +kernel
theorem dX2_valueOf_32 : decode cX2_valueOf 32 = .ok (.iload 4, 2) := by decide +kernel
theorem dX2_valueOf_34 : decode cX2_valueOf 34 = .ok (.invokevirtual 78, 3) := by decide +kernel
theorem dX2_valueOf_37 : decode cX2_valueOf 37 = .ok (.invokevirtual 81, 3) := by decide +kernel
theorem dX2_valueOf_40 : decode cX2_valueOf 40 = .ok (.istore_n 3, 1) := by decide +kernel
theorem dX2_valueOf_41 : decode cX2_valueOf 41 = .ok (.iinc 4 (-1), 3) := by decide +kernel
theorem dX2_valueOf_44 : decode cX2_valueOf 44 = .ok (.goto (-32), 3) := by decide +kernel
theorem dX2_valueOf_47 : decode cX2_valueOf 47 = .ok (.iload_n 3, 1) := by decide +kernel
theorem dX2_valueOf_48 : decode cX2_valueOf 48 = .ok (.ireturn, 1) := by decide +kernel
theorem dX2_signSum_0 : decode cX2_signSum 0 = .ok (.iconst 0, 1) := by decide +kernel
theorem dX2_signSum_1 : decode cX2_signSum 1 = .ok (.istore_n 2, 1) := by decide +kernel
theorem dX2_signSum_2 : decode cX2_signSum 2 = .ok (.iconst 0, 1) := by decide +kernel
theorem dX2_signSum_3 : decode cX2_signSum 3 = .ok (.istore_n 3, 1) := by decide +kernel
theorem dX2_signSum_4 : decode cX2_signSum 4 = .ok (.iload_n 3, 1) := by decide +kernel
theorem dX2_signSum_5 : decode cX2_signSum 5 = .ok (.aload_n 0, 1) := by decide +kernel
theorem dX2_signSum_6 : decode cX2_signSum 6 = .ok (.getfield 22, 3) := by decide +kernel
theorem dX2_signSum_9 : decode cX2_signSum 9 = .ok (.if_icmp .ge 22, 3) := by decide +kernel
theorem dX2_signSum_12 : decode cX2_signSum 12 = .ok (.iload_n 2, 1) := by decide +kernel
theorem dX2_signSum_13 : decode cX2_signSum 13 = .ok (.aload_n 0, 1) := by decide +kernel
theorem dX2_signSum_14 : decode cX2_signSum 14 = .ok (.aload_n 0, 1) := by decide +kernel
theorem dX2_signSum_15 : decode cX2_signSum 15 = .ok (.iload_n 1, 1) := by decide +kernel
theorem dX2_signSum_16 : decode cX2_signSum 16 = .ok (.iload_n 3, 1) := by decide +kernel
theorem dX2_signSum_17 : decode cX2_signSum 17 = .ok (.invokevirtual 84, 3) := by decide +kernel
theorem dX2_signSum_20 : decode cX2_signSum 20 = .ok (.invokevirtual 87, 3) := by decide +kernel
theorem dX2_signSum_23 : decode cX2_signSum 23 = .ok (.iadd, 1) := by decide +kernel
theorem dX2_signSum_24 : decode cX2_signSum 24 = .ok (.istore_n 2, 1) := by decide +kernel
theorem dX2_signSum_25 : decode cX2_signSum 25 = .ok (.iinc 3 1, 3) := by decide +kernel
theorem dX2_signSum_28 : decode cX2_signSum 28 = .ok (.goto (-24), 3) := by decide +kernel
theorem dX2_signSum_31 : decode cX2_signSum 31 = .ok (.iload_n 2, 1) := by decide +kernel
theorem dX2_signSum_32 : decode cX2_signSum 32 = .ok (.ireturn, 1) := by decide +kernel
theorem dX2_pointsBeyond_0 : decode cX2_pointsBeyond 0 = .ok (.aload_n 0, 1) := by decide +kernel
theorem dX2_pointsBeyond_1 : decode cX2_pointsBeyond 1 = .ok (.getfield 31, 3) := by decide +kernel
theorem dX2_pointsBeyond_4 : decode cX2_pointsBeyond 4 = .ok (.iload_n 1, 1) := by decide +kernel
theorem dX2_pointsBeyond_5 : decode cX2_pointsBeyond 5 = .ok (.invokevirtual 74, 3) := by decide +kernel
theorem dX2_pointsBeyond_8 : decode cX2_pointsBeyond 8 = .ok (.iconst 2, 1) := by decide +kernel
theorem dX2_pointsBeyond_9 : decode cX2_pointsBeyond 9 = .ok (.irem, 1) := by decide +kernel
theorem dX2_pointsBeyond_10 : decode cX2_pointsBeyond 10 = .ok (.iconst 1, 1) := by decide +kernel
theorem dX2_pointsBeyond_11 : decode cX2_pointsBeyond 11 = .ok (.if_icmp .ne 5, 3) := by decide +kernel
theorem dX2_pointsBeyond_14 : decode cX2_pointsBeyond 14 = .ok (.iconst 1, 1) := by decide +kernel
theorem dX2_pointsBeyond_15 : decode cX2_pointsBeyond 15 = .ok (.ireturn, 1) := by decide +kernel
theorem dX2_pointsBeyond_16 : decode cX2_pointsBeyond 16 = .ok (.aload_n 0, 1) := by decide +kernel
theorem dX2_pointsBeyond_17 : decode cX2_pointsBeyond 17 = .ok (.aload_n 0, 1) := by decide +kernel
theorem dX2_pointsBeyond_18 : decode cX2_pointsBeyond 18 = .ok (.getfield 31, 3) := by decide +kernel
theorem dX2_pointsBeyond_21 : decode cX2_pointsBeyond 21 = .ok (.iload_n 1, 1) := by decide +kernel
theorem dX2_pointsBeyond_22 : decode cX2_pointsBeyond 22 = .ok (.invokevirtual 90, 3) := by decide +kernel
theorem dX2_pointsBeyond_25 : decode cX2_pointsBeyond 25 = .ok (.invokevirtual 87, 3) := by decide +kernel
theorem dX2_pointsBeyond_28 : decode cX2_pointsBeyond 28 = .ok (.iconst 1, 1) := by decide +kernel
theorem dX2_pointsBeyond_29 : decode cX2_pointsBeyond 29 = .ok (.if_icmp .ne 7, 3) := by decide +kernel
theorem dX2_pointsBeyond_32 : decode cX2_pointsBeyond 32 = .ok (.iconst 2, 1) := by decide +kernel
theorem dX2_pointsBeyond_33 : decode cX2_pointsBeyond 33 = .ok (.goto 4, 3) := by decide +kernel
theorem dX2_pointsBeyond_36 : decode cX2_pointsBeyond 36 = .ok (.iconst 0, 1) := by decide +kernel
theorem dX2_pointsBeyond_37 : decode cX2_pointsBeyond 37 = .ok (.ireturn, 1) := by decide +kernel
theorem dX2_pointsOf_0 : decode cX2_pointsOf 0 = .ok (.aload_n 0, 1) := by decide +kernel
theorem dX2_pointsOf_1 : decode cX2_pointsOf 1 = .ok (.getfield 22, 3) := by decide +kernel
theorem dX2_pointsOf_4 : decode cX2_pointsOf 4 = .ok (.aload_n 0, 1) := by decide +kernel
theorem dX2_pointsOf_5 : decode cX2_pointsOf 5 = .ok (.iload_n 1, 1) := by decide +kernel
theorem dX2_pointsOf_6 : decode cX2_pointsOf 6 = .ok (.invokevirtual 93, 3) := by decide +kernel
theorem dX2_pointsOf_9 : decode cX2_pointsOf 9 = .ok (.iadd, 1) := by decide +kernel
theorem dX2_pointsOf_10 : decode cX2_pointsOf 10 = .ok (.aload_n 0, 1) := by decide +kernel
theorem dX2_pointsOf_11 : decode cX2_pointsOf 11 = .ok (.iload_n 1, 1) := by decide +kernel
theorem dX2_pointsOf_12 : decode cX2_pointsOf 12 = .ok (.invokevirtual 96, 3) := by decide +kernel
theorem dX2_pointsOf_15 : decode cX2_pointsOf 15 = .ok (.iadd, 1) := by decide +kernel
theorem dX2_pointsOf_16 : decode cX2_pointsOf 16 = .ok (.ireturn, 1) := by decide +kernel
theorem dX3_init_0 : decode cX3_init 0 = .ok (.aload_n 0, 1) := by decide +kernel
theorem dX3_init_1 : decode cX3_init 1 = .ok (.invokespecial 3, 3) := by decide +kernel
theorem dX3_init_4 : decode cX3_init 4 = .ok (.aload_n 0, 1) := by decide +kernel
theorem dX3_init_5 : decode cX3_init 5 = .ok (.iconst 3, 1) := by decide +kernel
theorem dX3_init_6 : decode cX3_init 6 = .ok (.putfield 9, 3) := by decide +kernel
theorem dX3_init_9 : decode cX3_init 9 = .ok (.return_, 1) := by decide +kernel
theorem dX3_begin_0 : decode cX3_begin 0 = .ok (.aload_n 0, 1) := by decide +kernel
theorem dX3_begin_1 : decode cX3_begin 1 = .ok (.iconst 2, 1) := by decide +kernel
theorem dX3_begin_2 : decode cX3_begin 2 = .ok (.iload_n 1, 1) := by decide +kernel
theorem dX3_begin_3 : decode cX3_begin 3 = .ok (.invokestatic 15, 3) := by decide +kernel
theorem dX3_begin_6 : decode cX3_begin 6 = .ok (.putfield 9, 3) := by decide +kernel
theorem dX3_begin_9 : decode cX3_begin 9 = .ok (.return_, 1) := by decide +kernel
theorem dX3_place_0 : decode cX3_place 0 = .ok (.iconst 1, 1) := by decide +kernel
theorem dX3_place_1 : decode cX3_place 1 = .ok (.istore_n 2, 1) := by decide +kernel
theorem dX3_place_2 : decode cX3_place 2 = .ok (.iconst 0, 1) := by decide +kernel
theorem dX3_place_3 : decode cX3_place 3 = .ok (.istore_n 3, 1) := by decide +kernel
theorem dX3_place_4 : decode cX3_place 4 = .ok (.iload_n 3, 1) := by decide +kernel
theorem dX3_place_5 : decode cX3_place 5 = .ok (.iload_n 1, 1) := by decide +kernel
theorem dX3_place_6 : decode cX3_place 6 = .ok (.if_icmp .ge 16, 3) := by decide +kernel
theorem dX3_place_9 : decode cX3_place 9 = .ok (.iload_n 2, 1) := by decide +kernel
theorem dX3_place_10 : decode cX3_place 10 = .ok (.aload_n 0, 1) := by decide +kernel
theorem dX3_place_11 : decode cX3_place 11 = .ok (.getfield 9, 3) := by decide +kernel
theorem dX3_place_14 : decode cX3_place 14 = .ok (.imul, 1) := by decide +kernel
theorem dX3_place_15 : decode cX3_place 15 = .ok (.istore_n 2, 1) := by decide +kernel
theorem dX3_place_16 : decode cX3_place 16 = .ok (.iinc 3 1, 3) := by decide +kernel
theorem dX3_place_19 : decode cX3_place 19 = .ok (.goto (-15), 3) := by decide +kernel
theorem dX3_place_22 : decode cX3_place 22 = .ok (.iload_n 2, 1) := by decide +kernel
theorem dX3_place_23 : decode cX3_place 23 = .ok (.ireturn, 1) := by decide +kernel
theorem dX3_coefficient_0 : decode cX3_coefficient 0 = .ok (.iload_n 1, 1) := by decide +kernel
theorem dX3_coefficient_1 : decode cX3_coefficient 1 = .ok (.istore_n 3, 1) := by decide +kernel
theorem dX3_coefficient_2 : decode cX3_coefficient 2 = .ok (.iconst 0, 1) := by decide +kernel
theorem dX3_coefficient_3 : decode cX3_coefficient 3 = .ok (.istore 4, 2) := by decide +kernel
theorem dX3_coefficient_5 : decode cX3_coefficient 5 = .ok (.iload 4, 2) := by decide +kernel
theorem dX3_coefficient_7 : decode cX3_coefficient 7 = .ok (.iload_n 2, 1) := by decide +kernel
theorem dX3_coefficient_8 : decode cX3_coefficient 8 = .ok (.if_icmp .ge 16, 3) := by decide +kernel
theorem dX3_coefficient_11 : decode cX3_coefficient 11 = .ok (.iload_n 3, 1) := by decide +kernel
theorem dX3_coefficient_12 : decode cX3_coefficient 12 = .ok (.aload_n 0, 1) := by decide +kernel
theorem dX3_coefficient_13 : decode cX3_coefficient 13 = .ok (.getfield 9, 3) := by decide +kernel
theorem dX3_coefficient_16 : decode cX3_coefficient 16 = .ok (.idiv, 1) := by decide +kernel
theorem dX3_coefficient_17 : decode cX3_coefficient 17 = .ok (.istore_n 3, 1) := by decide +kernel
theorem dX3_coefficient_18 : decode cX3_coefficient 18 = .ok (.iinc 4 1, 3) := by decide +kernel
theorem dX3_coefficient_21 : decode cX3_coefficient 21 = .ok (.goto (-16), 3) := by decide +kernel
theorem dX3_coefficient_24 : decode cX3_coefficient 24 = .ok (.iload_n 3, 1) := by decide +kernel
theorem dX3_coefficient_25 : decode cX3_coefficient 25 = .ok (.aload_n 0, 1) := by decide +kernel
theorem dX3_coefficient_26 : decode cX3_coefficient 26 = .ok (.getfield 9, 3) := by decide +kernel
theorem dX3_coefficient_29 : decode cX3_coefficient 29 = .ok (.irem, 1) := by decide +kernel
theorem dX3_coefficient_30 : decode cX3_coefficient 30 = .ok (.ireturn, 1) := by decide +kernel
theorem dX3_degree_0 : decode cX3_degree 0 = .ok (.iconst 0, 1) := by decide +kernel
theorem dX3_degree_1 : decode cX3_degree 1 = .ok (.istore_n 2, 1) := by decide +kernel
theorem dX3_degree_2 : decode cX3_degree 2 = .ok (.iload_n 1, 1) := by decide +kernel
theorem dX3_degree_3 : decode cX3_degree 3 = .ok (.aload_n 0, 1) := by decide +kernel
theorem dX3_degree_4 : decode cX3_degree 4 = .ok (.getfield 9, 3) := by decide +kernel
theorem dX3_degree_7 : decode cX3_degree 7 = .ok (.idiv, 1) := by decide +kernel
theorem dX3_degree_8 : decode cX3_degree 8 = .ok (.istore_n 3, 1) := by decide +kernel
theorem dX3_degree_9 : decode cX3_degree 9 = .ok (.iload_n 3, 1) := by decide +kernel
theorem dX3_degree_10 : decode cX3_degree 10 = .ok (.ifCond .le 22, 3) := by decide +kernel
theorem dX3_degree_13 : decode cX3_degree 13 = .ok (.iload_n 2, 1) := by decide +kernel
theorem dX3_degree_14 : decode cX3_degree 14 = .ok (.bipush 20, 2) := by decide +kernel
theorem dX3_degree_16 : decode cX3_degree 16 = .ok (.if_icmp .ge 16, 3) := by decide +kernel
theorem dX3_degree_19 : decode cX3_degree 19 = .ok (.iinc 2 1, 3) := by decide +kernel
theorem dX3_degree_22 : decode cX3_degree 22 = .ok (.iload_n 3, 1) := by decide +kernel
theorem dX3_degree_23 : decode cX3_degree 23 = .ok (.aload_n 0, 1) := by decide +kernel
theorem dX3_degree_24 : decode cX3_degree 24 = .ok (.getfield 9, 3) := by decide +kernel
theorem dX3_degree_27 : decode cX3_degree 27 = .ok (.idiv, 1) := by decide +kernel
theorem dX3_degree_28 : decode cX3_degree 28 = .ok (.istore_n 3, 1) := by decide +kernel
theorem dX3_degree_29 : decode cX3_degree 29 = .ok (.goto (-20), 3) := by decide +kernel
theorem dX3_degree_32 : decode cX3_degree 32 = .ok (.iload_n 2, 1) := by decide +kernel
theorem dX3_degree_33 : decode cX3_degree 33 = .ok (.ireturn, 1) := by decide +kernel
theorem dX3_lead_0 : decode cX3_lead 0 = .ok (.iload_n 1, 1) := by decide +kernel
theorem dX3_lead_1 : decode cX3_lead 1 = .ok (.istore_n 2, 1) := by decide +kernel
theorem dX3_lead_2 : decode cX3_lead 2 = .ok (.iconst 0, 1) := by decide +kernel
theorem dX3_lead_3 : decode cX3_lead 3 = .ok (.istore_n 3, 1) := by decide +kernel
theorem dX3_lead_4 : decode cX3_lead 4 = .ok (.iload_n 3, 1) := by decide +kernel
theorem dX3_lead_5 : decode cX3_lead 5 = .ok (.bipush 20, 2) := by decide +kernel
theorem dX3_lead_7 : decode cX3_lead 7 = .ok (.if_icmp .ge 24, 3) := by decide +kernel
theorem dX3_lead_10 : decode cX3_lead 10 = .ok (.iload_n 2, 1) := by decide +kernel
theorem dX3_lead_11 : decode cX3_lead 11 = .ok (.aload_n 0, 1) := by decide +kernel
theorem dX3_lead_12 : decode cX3_lead 12 = .ok (.getfield 9, 3) := by decide +kernel
theorem dX3_lead_15 : decode cX3_lead 15 = .ok (.if_icmp .lt 16, 3) := by decide +kernel
theorem dX3_lead_18 : decode cX3_lead 18 = .ok (.iload_n 2, 1) := by decide +kernel
theorem dX3_lead_19 : decode cX3_lead 19 = .ok (.aload_n 0, 1) := by decide +kernel
theorem dX3_lead_20 : decode cX3_lead 20 = .ok (.getfield 9, 3) := by decide +kernel
theorem dX3_lead_23 : decode cX3_lead 23 = .ok (.idiv, 1) := by decide +kernel
theorem dX3_lead_24 : decode cX3_lead 24 = .ok (.istore_n 2, 1) := by decide +kernel
theorem dX3_lead_25 : decode cX3_lead 25 = .ok (.iinc 3 1, 3) := by decide +kernel
theorem dX3_lead_28 : decode cX3_lead 28 = .ok (.goto (-24), 3) := by decide +kernel
theorem dX3_lead_31 : decode cX3_lead 31 = .ok (.iload_n 2, 1) := by decide +kernel
theorem dX3_lead_32 : decode cX3_lead 32 = .ok (.ireturn, 1) := by decide +kernel
theorem dX3_sum_0 : decode cX3_sum 0 = .ok (.iload_n 1, 1) := by decide +kernel
theorem dX3_sum_1 : decode cX3_sum 1 = .ok (.istore_n 3, 1) := by decide +kernel
theorem dX3_sum_2 : decode cX3_sum 2 = .ok (.iload_n 2, 1) := by decide +kernel
theorem dX3_sum_3 : decode cX3_sum 3 = .ok (.istore 4, 2) := by decide +kernel
theorem dX3_sum_5 : decode cX3_sum 5 = .ok (.iconst 1, 1) := by decide +kernel
theorem dX3_sum_6 : decode cX3_sum 6 = .ok (.istore 5, 2) := by decide +kernel
theorem dX3_sum_8 : decode cX3_sum 8 = .ok (.iconst 0, 1) := by decide +kernel
theorem dX3_sum_9 : decode cX3_sum 9 = .ok (.istore 6, 2) := by decide +kernel
theorem dX3_sum_11 : decode cX3_sum 11 = .ok (.iconst 0, 1) := by decide +kernel
theorem dX3_sum_12 : decode cX3_sum 12 = .ok (.istore 7, 2) := by decide +kernel
theorem dX3_sum_14 : decode cX3_sum 14 = .ok (.iload 7, 2) := by decide +kernel
theorem dX3_sum_16 : decode cX3_sum 16 = .ok (.bipush 20, 2) := by decide +kernel
theorem dX3_sum_18 : decode cX3_sum 18 = .ok (.if_icmp .ge 70, 3) := by decide +kernel
theorem dX3_sum_21 : decode cX3_sum 21 = .ok (.iload_n 3, 1) := by decide +kernel
theorem dX3_sum_22 : decode cX3_sum 22 = .ok (.ifCond .le 66, 3) := by decide +kernel
theorem dX3_sum_25 : decode cX3_sum 25 = .ok (.iload 4, 2) := by decide +kernel
theorem dX3_sum_27 : decode cX3_sum 27 = .ok (.ifCond .le 61, 3) := by decide +kernel
theorem dX3_sum_30 : decode cX3_sum 30 = .ok (.iload 6, 2) := by decide +kernel
theorem dX3_sum_32 : decode cX3_sum 32 = .ok (.iload_n 3, 1) := by decide +kernel
theorem dX3_sum_33 : decode cX3_sum 33 = .ok (.aload_n 0, 1) := by decide +kernel
theorem dX3_sum_34 : decode cX3_sum 34 = .ok (.getfield 9, 3) := by decide +kernel
theorem dX3_sum_37 : decode cX3_sum 37 = .ok (.irem, 1) := by decide +kernel
theorem dX3_sum_38 : decode cX3_sum 38 = .ok (.iload 4, 2) := by decide +kernel
theorem dX3_sum_40 : decode cX3_sum 40 = .ok (.aload_n 0, 1) := by decide +kernel
theorem dX3_sum_41 : decode cX3_sum 41 = .ok (.getfield 9, 3) := by decide +kernel
theorem dX3_sum_44 : decode cX3_sum 44 = .ok (.irem, 1) := by decide +kernel
theorem dX3_sum_45 : decode cX3_sum 45 = .ok (.iadd, 1) := by decide +kernel
theorem dX3_sum_46 : decode cX3_sum 46 = .ok (.aload_n 0, 1) := by decide +kernel
theorem dX3_sum_47 : decode cX3_sum 47 = .ok (.getfield 9, 3) := by decide +kernel
theorem dX3_sum_50 : decode cX3_sum 50 = .ok (.irem, 1) := by decide +kernel
theorem dX3_sum_51 : decode cX3_sum 51 = .ok (.iload 5, 2) := by decide +kernel
theorem dX3_sum_53 : decode cX3_sum 53 = .ok (.imul, 1) := by decide +kernel
theorem dX3_sum_54 : decode cX3_sum 54 = .ok (.iadd, 1) := by decide +kernel
theorem dX3_sum_55 : decode cX3_sum 55 = .ok (.istore 6, 2) := by decide +kernel
theorem dX3_sum_57 : decode cX3_sum 57 = .ok (.iload_n 3, 1) := by decide +kernel
theorem dX3_sum_58 : decode cX3_sum 58 = .ok (.aload_n 0, 1) := by decide +kernel
theorem dX3_sum_59 : decode cX3_sum 59 = .ok (.getfield 9, 3) := by decide +kernel
theorem dX3_sum_62 : decode cX3_sum 62 = .ok (.idiv, 1) := by decide +kernel
theorem dX3_sum_63 : decode cX3_sum 63 = .ok (.istore_n 3, 1) := by decide +kernel
theorem dX3_sum_64 : decode cX3_sum 64 = .ok (.iload 4, 2) := by decide +kernel
theorem dX3_sum_66 : decode cX3_sum 66 = .ok (.aload_n 0, 1) := by decide +kernel
theorem dX3_sum_67 : decode cX3_sum 67 = .ok (.getfield 9, 3) := by decide +kernel
theorem dX3_sum_70 : decode cX3_sum 70 = .ok (.idiv, 1) := by decide +kernel
theorem dX3_sum_71 : decode cX3_sum 71 = .ok (.istore 4, 2) := by decide +kernel
theorem dX3_sum_73 : decode cX3_sum 73 = .ok (.iload 5, 2) := by decide +kernel
theorem dX3_sum_75 : decode cX3_sum 75 = .ok (.aload_n 0, 1) := by decide +kernel
theorem dX3_sum_76 : decode cX3_sum 76 = .ok (.getfield 9, 3) := by decide +kernel
theorem dX3_sum_79 : decode cX3_sum 79 = .ok (.imul, 1) := by decide +kernel
theorem dX3_sum_80 : decode cX3_sum 80 = .ok (.istore 5, 2) := by decide +kernel
theorem dX3_sum_82 : decode cX3_sum 82 = .ok (.iinc 7 1, 3) := by decide +kernel
theorem dX3_sum_85 : decode cX3_sum 85 = .ok (.goto (-71), 3) := by decide +kernel
theorem dX3_sum_88 : decode cX3_sum 88 = .ok (.iload 6, 2) := by decide +kernel
theorem dX3_sum_90 : decode cX3_sum 90 = .ok (.iload_n 3, 1) := by decide +kernel
theorem dX3_sum_91 : decode cX3_sum 91 = .ok (.iload 4, 2) := by decide +kernel
theorem dX3_sum_93 : decode cX3_sum 93 = .ok (.iadd, 1) := by decide +kernel
theorem dX3_sum_94 : decode cX3_sum 94 = .ok (.iload 5, 2) := by decide +kernel
theorem dX3_sum_96 : decode cX3_sum 96 = .ok (.imul, 1) := by decide +kernel
theorem dX3_sum_97 : decode cX3_sum 97 = .ok (.iadd, 1) := by decide +kernel
theorem dX3_sum_98 : decode cX3_sum 98 = .ok (.ireturn, 1) := by decide +kernel
theorem dX3_difference_0 : decode cX3_difference 0 = .ok (.iload_n 1, 1) := by decide +kernel
theorem dX3_difference_1 : decode cX3_difference 1 = .ok (.istore_n 3, 1) := by decide +kernel
theorem dX3_difference_2 : decode cX3_difference 2 = .ok (.iload_n 2, 1) := by decide +kernel
theorem dX3_difference_3 : decode cX3_difference 3 = .ok (.istore 4, 2) := by decide +kernel
theorem dX3_difference_5 : decode cX3_difference 5 = .ok (.iconst 1, 1) := by decide +kernel
theorem dX3_difference_6 : decode cX3_difference 6 = .ok (.istore 5, 2) := by decide +kernel
theorem dX3_difference_8 : decode cX3_difference 8 = .ok (.iconst 0, 1) := by decide +kernel
theorem dX3_difference_9 : decode cX3_difference 9 = .ok (.istore 6, 2) := by decide +kernel
theorem dX3_difference_11 : decode cX3_difference 11 = .ok (.iconst 0, 1) := by decide +kernel
theorem dX3_difference_12 : decode cX3_difference 12 = .ok (.istore 7, 2) := by decide +kernel
theorem dX3_difference_14 : decode cX3_difference 14 = .ok (.iload 7, 2) := by decide +kernel
theorem dX3_difference_16 : decode cX3_difference 16 = .ok (.bipush 20, 2) := by decide +kernel
theorem dX3_difference_18 : decode cX3_difference 18 = .ok (.if_icmp .ge 71, 3) := by decide +kernel
theorem dX3_difference_21 : decode cX3_difference 21 = .ok (.iload 4, 2) := by decide +kernel
theorem dX3_difference_23 : decode cX3_difference 23 = .ok (.ifCond .le 66, 3) := by decide +kernel
theorem dX3_difference_26 : decode cX3_difference 26 = .ok (.iload 6, 2) := by decide +kernel
theorem dX3_difference_28 : decode cX3_difference 28 = .ok (.iload_n 3, 1) := by decide +kernel
theorem dX3_difference_29 : decode cX3_difference 29 = .ok (.aload_n 0, 1) := by decide +kernel
theorem dX3_difference_30 : decode cX3_difference 30 = .ok (.getfield 9, 3) := by decide +kernel
theorem dX3_difference_33 : decode cX3_difference 33 = .ok (.irem, 1) := by decide +kernel
theorem dX3_difference_34 : decode cX3_difference 34 = .ok (.aload_n 0, 1) := by decide +kernel
theorem dX3_difference_35 : decode cX3_difference 35 = .ok (.getfield 9, 3) := by decide +kernel
theorem dX3_difference_38 : decode cX3_difference 38 = .ok (.iadd, 1) := by decide +kernel
theorem dX3_difference_39 : decode cX3_difference 39 = .ok (.iload 4, 2) := by decide +kernel
theorem dX3_difference_41 : decode cX3_difference 41 = .ok (.aload_n 0, 1) := by decide +kernel
theorem dX3_difference_42 : decode cX3_difference 42 = .ok (.getfield 9, 3) := by decide +kernel
theorem dX3_difference_45 : decode cX3_difference 45 = .ok (.irem, 1) := by decide +kernel
theorem dX3_difference_46 : decode cX3_difference 46 = .ok (.isub, 1) := by decide +kernel
theorem dX3_difference_47 : decode cX3_difference 47 = .ok (.aload_n 0, 1) := by decide +kernel
end
section
theorem dX3_difference_48 : decode cX3_difference 48 = .ok (.getfield 9, 3) := by decide +kernel
theorem dX3_difference_51 : decode cX3_difference 51 = .ok (.irem, 1) := by decide +kernel
theorem dX3_difference_52 : decode cX3_difference 52 = .ok (.iload 5, 2) := by decide +kernel
theorem dX3_difference_54 : decode cX3_difference 54 = .ok (.imul, 1) := by decide +kernel
theorem dX3_difference_55 : decode cX3_difference 55 = .ok (.iadd, 1) := by decide +kernel
theorem dX3_difference_56 : decode cX3_difference 56 = .ok (.istore 6, 2) := by decide +kernel
theorem dX3_difference_58 : decode cX3_difference 58 = .ok (.iload_n 3, 1) := by decide +kernel
theorem dX3_difference_59 : decode cX3_difference 59 = .ok (.aload_n 0, 1) := by decide +kernel
theorem dX3_difference_60 : decode cX3_difference 60 = .ok (.getfield 9, 3) := by decide +kernel
theorem dX3_difference_63 : decode cX3_difference 63 = .ok (.idiv, 1) := by decide +kernel
theorem dX3_difference_64 : decode cX3_difference 64 = .ok (.istore_n 3, 1) := by decide +kernel
theorem dX3_difference_65 : decode cX3_difference 65 = .ok (.iload 4, 2) := by decide +kernel
theorem dX3_difference_67 : decode cX3_difference 67 = .ok (.aload_n 0, 1) := by decide +kernel
theorem dX3_difference_68 : decode cX3_difference 68 = .ok (.getfield 9, 3) := by decide +kernel
theorem dX3_difference_71 : decode cX3_difference 71 = .ok (.idiv, 1) := by decide +kernel
theorem dX3_difference_72 : decode cX3_difference 72 = .ok (.istore 4, 2) := by decide +kernel
theorem dX3_difference_74 : decode cX3_difference 74 = .ok (.iload 5, 2) := by decide +kernel
theorem dX3_difference_76 : decode cX3_difference 76 = .ok (.aload_n 0, 1) := by decide +kernel
theorem dX3_difference_77 : decode cX3_difference 77 = .ok (.getfield 9, 3) := by decide +kernel
theorem dX3_difference_80 : decode cX3_difference 80 = .ok (.imul, 1) := by decide +kernel
theorem dX3_difference_81 : decode cX3_difference 81 = .ok (.istore 5, 2) := by decide +kernel
theorem dX3_difference_83 : decode cX3_difference 83 = .ok (.iinc 7 1, 3) := by decide +kernel
theorem dX3_difference_86 : decode cX3_difference 86 = .ok (.goto (-72), 3) := by decide +kernel
theorem dX3_difference_89 : decode cX3_difference 89 = .ok (.iload 6, 2) := by decide +kernel
theorem dX3_difference_91 : decode cX3_difference 91 = .ok (.iload_n 3, 1) := by decide +kernel
theorem dX3_difference_92 : decode cX3_difference 92 = .ok (.iload 5, 2) := by decide +kernel
theorem dX3_difference_94 : decode cX3_difference 94 = .ok (.imul, 1) := by decide +kernel
theorem dX3_difference_95 : decode cX3_difference 95 = .ok (.iadd, 1) := by decide +kernel
theorem dX3_difference_96 : decode cX3_difference 96 = .ok (.ireturn, 1) := by decide +kernel
theorem dX3_scaled_0 : decode cX3_scaled 0 = .ok (.iload_n 2, 1) := by decide +kernel
theorem dX3_scaled_1 : decode cX3_scaled 1 = .ok (.ifCond .ne 7, 3) := by decide +kernel
theorem dX3_scaled_4 : decode cX3_scaled 4 = .ok (.iconst 0, 1) := by decide +kernel
theorem dX3_scaled_5 : decode cX3_scaled 5 = .ok (.goto 4, 3) := by decide +kernel
theorem dX3_scaled_8 : decode cX3_scaled 8 = .ok (.iload_n 1, 1) := by decide +kernel
theorem dX3_scaled_9 : decode cX3_scaled 9 = .ok (.istore_n 3, 1) := by decide +kernel
theorem dX3_scaled_10 : decode cX3_scaled 10 = .ok (.iconst 1, 1) := by decide +kernel
theorem dX3_scaled_11 : decode cX3_scaled 11 = .ok (.istore 4, 2) := by decide +kernel
theorem dX3_scaled_13 : decode cX3_scaled 13 = .ok (.iconst 0, 1) := by decide +kernel
theorem dX3_scaled_14 : decode cX3_scaled 14 = .ok (.istore 5, 2) := by decide +kernel
theorem dX3_scaled_16 : decode cX3_scaled 16 = .ok (.iconst 0, 1) := by decide +kernel
theorem dX3_scaled_17 : decode cX3_scaled 17 = .ok (.istore 6, 2) := by decide +kernel
theorem dX3_scaled_19 : decode cX3_scaled 19 = .ok (.iload 6, 2) := by decide +kernel
theorem dX3_scaled_21 : decode cX3_scaled 21 = .ok (.bipush 20, 2) := by decide +kernel
theorem dX3_scaled_23 : decode cX3_scaled 23 = .ok (.if_icmp .ge 50, 3) := by decide +kernel
theorem dX3_scaled_26 : decode cX3_scaled 26 = .ok (.iload_n 3, 1) := by decide +kernel
theorem dX3_scaled_27 : decode cX3_scaled 27 = .ok (.ifCond .le 46, 3) := by decide +kernel
theorem dX3_scaled_30 : decode cX3_scaled 30 = .ok (.iload 5, 2) := by decide +kernel
theorem dX3_scaled_32 : decode cX3_scaled 32 = .ok (.iload_n 3, 1) := by decide +kernel
theorem dX3_scaled_33 : decode cX3_scaled 33 = .ok (.aload_n 0, 1) := by decide +kernel
theorem dX3_scaled_34 : decode cX3_scaled 34 = .ok (.getfield 9, 3) := by decide +kernel
theorem dX3_scaled_37 : decode cX3_scaled 37 = .ok (.irem, 1) := by decide +kernel
theorem dX3_scaled_38 : decode cX3_scaled 38 = .ok (.iload_n 2, 1) := by decide +kernel
theorem dX3_scaled_39 : decode cX3_scaled 39 = .ok (.imul, 1) := by decide +kernel
theorem dX3_scaled_40 : decode cX3_scaled 40 = .ok (.aload_n 0, 1) := by decide +kernel
theorem dX3_scaled_41 : decode cX3_scaled 41 = .ok (.getfield 9, 3) := by decide +kernel
theorem dX3_scaled_44 : decode cX3_scaled 44 = .ok (.irem, 1) := by decide +kernel
theorem dX3_scaled_45 : decode cX3_scaled 45 = .ok (.iload 4, 2) := by decide +kernel
theorem dX3_scaled_47 : decode cX3_scaled 47 = .ok (.imul, 1) := by decide +kernel
theorem dX3_scaled_48 : decode cX3_scaled 48 = .ok (.iadd, 1) := by decide +kernel
theorem dX3_scaled_49 : decode cX3_scaled 49 = .ok (.istore 5, 2) := by decide +kernel
theorem dX3_scaled_51 : decode cX3_scaled 51 = .ok (.iload_n 3, 1) := by decide +kernel
theorem dX3_scaled_52 : decode cX3_scaled 52 = .ok (.aload_n 0, 1) := by decide +kernel
theorem dX3_scaled_53 : decode cX3_scaled 53 = .ok (.getfield 9, 3) := by decide +kernel
theorem dX3_scaled_56 : decode cX3_scaled 56 = .ok (.idiv, 1) := by decide +kernel
theorem dX3_scaled_57 : decode cX3_scaled 57 = .ok (.istore_n 3, 1) := by decide +kernel
theorem dX3_scaled_58 : decode cX3_scaled 58 = .ok (.iload 4, 2) := by decide +kernel
theorem dX3_scaled_60 : decode cX3_scaled 60 = .ok (.aload_n 0, 1) := by decide +kernel
theorem dX3_scaled_61 : decode cX3_scaled 61 = .ok (.getfield 9, 3) := by decide +kernel
theorem dX3_scaled_64 : decode cX3_scaled 64 = .ok (.imul, 1) := by decide +kernel
theorem dX3_scaled_65 : decode cX3_scaled 65 = .ok (.istore 4, 2) := by decide +kernel
theorem dX3_scaled_67 : decode cX3_scaled 67 = .ok (.iinc 6 1, 3) := by decide +kernel
theorem dX3_scaled_70 : decode cX3_scaled 70 = .ok (.goto (-51), 3) := by decide +kernel
theorem dX3_scaled_73 : decode cX3_scaled 73 = .ok (.iload 5, 2) := by decide +kernel
theorem dX3_scaled_75 : decode cX3_scaled 75 = .ok (.ireturn, 1) := by decide +kernel
theorem dX3_product_0 : decode cX3_product 0 = .ok (.iload_n 2, 1) := by decide +kernel
theorem dX3_product_1 : decode cX3_product 1 = .ok (.istore_n 3, 1) := by decide +kernel
theorem dX3_product_2 : decode cX3_product 2 = .ok (.iconst 1, 1) := by decide +kernel
theorem dX3_product_3 : decode cX3_product 3 = .ok (.istore 4, 2) := by decide +kernel
theorem dX3_product_5 : decode cX3_product 5 = .ok (.iconst 0, 1) := by decide +kernel
theorem dX3_product_6 : decode cX3_product 6 = .ok (.istore 5, 2) := by decide +kernel
theorem dX3_product_8 : decode cX3_product 8 = .ok (.iconst 0, 1) := by decide +kernel
theorem dX3_product_9 : decode cX3_product 9 = .ok (.istore 6, 2) := by decide +kernel
theorem dX3_product_11 : decode cX3_product 11 = .ok (.iload 6, 2) := by decide +kernel
theorem dX3_product_13 : decode cX3_product 13 = .ok (.bipush 20, 2) := by decide +kernel
theorem dX3_product_15 : decode cX3_product 15 = .ok (.if_icmp .ge 51, 3) := by decide +kernel
theorem dX3_product_18 : decode cX3_product 18 = .ok (.iload_n 3, 1) := by decide +kernel
theorem dX3_product_19 : decode cX3_product 19 = .ok (.ifCond .le 47, 3) := by decide +kernel
theorem dX3_product_22 : decode cX3_product 22 = .ok (.aload_n 0, 1) := by decide +kernel
theorem dX3_product_23 : decode cX3_product 23 = .ok (.iload 5, 2) := by decide +kernel
theorem dX3_product_25 : decode cX3_product 25 = .ok (.aload_n 0, 1) := by decide +kernel
theorem dX3_product_26 : decode cX3_product 26 = .ok (.iload_n 1, 1) := by decide +kernel
theorem dX3_product_27 : decode cX3_product 27 = .ok (.iload_n 3, 1) := by decide +kernel
theorem dX3_product_28 : decode cX3_product 28 = .ok (.aload_n 0, 1) := by decide +kernel
theorem dX3_product_29 : decode cX3_product 29 = .ok (.getfield 9, 3) := by decide +kernel
theorem dX3_product_32 : decode cX3_product 32 = .ok (.irem, 1) := by decide +kernel
theorem dX3_product_33 : decode cX3_product 33 = .ok (.invokevirtual 21, 3) := by decide +kernel
theorem dX3_product_36 : decode cX3_product 36 = .ok (.iload 4, 2) := by decide +kernel
theorem dX3_product_38 : decode cX3_product 38 = .ok (.imul, 1) := by decide +kernel
theorem dX3_product_39 : decode cX3_product 39 = .ok (.invokevirtual 24, 3) := by decide +kernel
theorem dX3_product_42 : decode cX3_product 42 = .ok (.istore 5, 2) := by decide +kernel
theorem dX3_product_44 : decode cX3_product 44 = .ok (.iload_n 3, 1) := by decide +kernel
theorem dX3_product_45 : decode cX3_product 45 = .ok (.aload_n 0, 1) := by decide +kernel
theorem dX3_product_46 : decode cX3_product 46 = .ok (.getfield 9, 3) := by decide +kernel
theorem dX3_product_49 : decode cX3_product 49 = .ok (.idiv, 1) := by decide +kernel
theorem dX3_product_50 : decode cX3_product 50 = .ok (.istore_n 3, 1) := by decide +kernel
theorem dX3_product_51 : decode cX3_product 51 = .ok (.iload 4, 2) := by decide +kernel
theorem dX3_product_53 : decode cX3_product 53 = .ok (.aload_n 0, 1) := by decide +kernel
theorem dX3_product_54 : decode cX3_product 54 = .ok (.getfield 9, 3) := by decide +kernel
theorem dX3_product_57 : decode cX3_product 57 = .ok (.imul, 1) := by decide +kernel
theorem dX3_product_58 : decode cX3_product 58 = .ok (.istore 4, 2) := by decide +kernel
theorem dX3_product_60 : decode cX3_product 60 = .ok (.iinc 6 1, 3) := by decide +kernel
theorem dX3_product_63 : decode cX3_product 63 = .ok (.goto (-52), 3) := by decide +kernel
theorem dX3_product_66 : decode cX3_product 66 = .ok (.iload 5, 2) := by decide +kernel
theorem dX3_product_68 : decode cX3_product 68 = .ok (.ireturn, 1) := by decide +kernel
theorem dX3_inverse_0 : decode cX3_inverse 0 = .ok (.iconst 1, 1) := by decide +kernel
theorem dX3_inverse_1 : decode cX3_inverse 1 = .ok (.istore_n 2, 1) := by decide +kernel
theorem dX3_inverse_2 : decode cX3_inverse 2 = .ok (.iload_n 2, 1) := by decide +kernel
theorem dX3_inverse_3 : decode cX3_inverse 3 = .ok (.aload_n 0, 1) := by decide +kernel
theorem dX3_inverse_4 : decode cX3_inverse 4 = .ok (.getfield 9, 3) := by decide +kernel
theorem dX3_inverse_7 : decode cX3_inverse 7 = .ok (.if_icmp .ge 23, 3) := by decide +kernel
theorem dX3_inverse_10 : decode cX3_inverse 10 = .ok (.iload_n 1, 1) := by decide +kernel
theorem dX3_inverse_11 : decode cX3_inverse 11 = .ok (.iload_n 2, 1) := by decide +kernel
theorem dX3_inverse_12 : decode cX3_inverse 12 = .ok (.imul, 1) := by decide +kernel
theorem dX3_inverse_13 : decode cX3_inverse 13 = .ok (.aload_n 0, 1) := by decide +kernel
theorem dX3_inverse_14 : decode cX3_inverse 14 = .ok (.getfield 9, 3) := by decide +kernel
theorem dX3_inverse_17 : decode cX3_inverse 17 = .ok (.irem, 1) := by decide +kernel
theorem dX3_inverse_18 : decode cX3_inverse 18 = .ok (.iconst 1, 1) := by decide +kernel
theorem dX3_inverse_19 : decode cX3_inverse 19 = .ok (.if_icmp .ne 5, 3) := by decide +kernel
theorem dX3_inverse_22 : decode cX3_inverse 22 = .ok (.iload_n 2, 1) := by decide +kernel
theorem dX3_inverse_23 : decode cX3_inverse 23 = .ok (.ireturn, 1) := by decide +kernel
theorem dX3_inverse_24 : decode cX3_inverse 24 = .ok (.iinc 2 1, 3) := by decide +kernel
theorem dX3_inverse_27 : decode cX3_inverse 27 = .ok (.goto (-25), 3) := by decide +kernel
theorem dX3_inverse_30 : decode cX3_inverse 30 = .ok (.iconst 0, 1) := by decide +kernel
theorem dX3_inverse_31 : decode cX3_inverse 31 = .ok (.ireturn, 1) := by decide +kernel
theorem dX3_quotient_0 : decode cX3_quotient 0 = .ok (.aload_n 0, 1) := by decide +kernel
theorem dX3_quotient_1 : decode cX3_quotient 1 = .ok (.iload_n 2, 1) := by decide +kernel
theorem dX3_quotient_2 : decode cX3_quotient 2 = .ok (.invokevirtual 27, 3) := by decide +kernel
theorem dX3_quotient_5 : decode cX3_quotient 5 = .ok (.istore_n 3, 1) := by decide +kernel
theorem dX3_quotient_6 : decode cX3_quotient 6 = .ok (.aload_n 0, 1) := by decide +kernel
theorem dX3_quotient_7 : decode cX3_quotient 7 = .ok (.aload_n 0, 1) := by decide +kernel
theorem dX3_quotient_8 : decode cX3_quotient 8 = .ok (.iload_n 2, 1) := by decide +kernel
theorem dX3_quotient_9 : decode cX3_quotient 9 = .ok (.invokevirtual 31, 3) := by decide +kernel
theorem dX3_quotient_12 : decode cX3_quotient 12 = .ok (.invokevirtual 34, 3) := by decide +kernel
theorem dX3_quotient_15 : decode cX3_quotient 15 = .ok (.istore 4, 2) := by decide +kernel
theorem dX3_quotient_17 : decode cX3_quotient 17 = .ok (.iload_n 1, 1) := by decide +kernel
theorem dX3_quotient_18 : decode cX3_quotient 18 = .ok (.istore 5, 2) := by decide +kernel
theorem dX3_quotient_20 : decode cX3_quotient 20 = .ok (.iconst 0, 1) := by decide +kernel
theorem dX3_quotient_21 : decode cX3_quotient 21 = .ok (.istore 6, 2) := by decide +kernel
theorem dX3_quotient_23 : decode cX3_quotient 23 = .ok (.aload_n 0, 1) := by decide +kernel
theorem dX3_quotient_24 : decode cX3_quotient 24 = .ok (.iload_n 1, 1) := by decide +kernel
theorem dX3_quotient_25 : decode cX3_quotient 25 = .ok (.invokevirtual 27, 3) := by decide +kernel
theorem dX3_quotient_28 : decode cX3_quotient 28 = .ok (.iload_n 3, 1) := by decide +kernel
theorem dX3_quotient_29 : decode cX3_quotient 29 = .ok (.isub, 1) := by decide +kernel
theorem dX3_quotient_30 : decode cX3_quotient 30 = .ok (.istore 7, 2) := by decide +kernel
theorem dX3_quotient_32 : decode cX3_quotient 32 = .ok (.iload 7, 2) := by decide +kernel
theorem dX3_quotient_34 : decode cX3_quotient 34 = .ok (.ifCond .lt 70, 3) := by decide +kernel
theorem dX3_quotient_37 : decode cX3_quotient 37 = .ok (.iload 4, 2) := by decide +kernel
theorem dX3_quotient_39 : decode cX3_quotient 39 = .ok (.ifCond .eq 65, 3) := by decide +kernel
theorem dX3_quotient_42 : decode cX3_quotient 42 = .ok (.aload_n 0, 1) := by decide +kernel
theorem dX3_quotient_43 : decode cX3_quotient 43 = .ok (.iload 5, 2) := by decide +kernel
theorem dX3_quotient_45 : decode cX3_quotient 45 = .ok (.iload_n 3, 1) := by decide +kernel
theorem dX3_quotient_46 : decode cX3_quotient 46 = .ok (.iload 7, 2) := by decide +kernel
theorem dX3_quotient_48 : decode cX3_quotient 48 = .ok (.iadd, 1) := by decide +kernel
theorem dX3_quotient_49 : decode cX3_quotient 49 = .ok (.invokevirtual 37, 3) := by decide +kernel
theorem dX3_quotient_52 : decode cX3_quotient 52 = .ok (.iload 4, 2) := by decide +kernel
theorem dX3_quotient_54 : decode cX3_quotient 54 = .ok (.imul, 1) := by decide +kernel
theorem dX3_quotient_55 : decode cX3_quotient 55 = .ok (.aload_n 0, 1) := by decide +kernel
theorem dX3_quotient_56 : decode cX3_quotient 56 = .ok (.getfield 9, 3) := by decide +kernel
theorem dX3_quotient_59 : decode cX3_quotient 59 = .ok (.irem, 1) := by decide +kernel
theorem dX3_quotient_60 : decode cX3_quotient 60 = .ok (.istore 8, 2) := by decide +kernel
theorem dX3_quotient_62 : decode cX3_quotient 62 = .ok (.iload 6, 2) := by decide +kernel
theorem dX3_quotient_64 : decode cX3_quotient 64 = .ok (.iload 8, 2) := by decide +kernel
theorem dX3_quotient_66 : decode cX3_quotient 66 = .ok (.aload_n 0, 1) := by decide +kernel
theorem dX3_quotient_67 : decode cX3_quotient 67 = .ok (.iload 7, 2) := by decide +kernel
theorem dX3_quotient_69 : decode cX3_quotient 69 = .ok (.invokevirtual 40, 3) := by decide +kernel
theorem dX3_quotient_72 : decode cX3_quotient 72 = .ok (.imul, 1) := by decide +kernel
theorem dX3_quotient_73 : decode cX3_quotient 73 = .ok (.iadd, 1) := by decide +kernel
theorem dX3_quotient_74 : decode cX3_quotient 74 = .ok (.istore 6, 2) := by decide +kernel
theorem dX3_quotient_76 : decode cX3_quotient 76 = .ok (.aload_n 0, 1) := by decide +kernel
theorem dX3_quotient_77 : decode cX3_quotient 77 = .ok (.iload 5, 2) := by decide +kernel
theorem dX3_quotient_79 : decode cX3_quotient 79 = .ok (.aload_n 0, 1) := by decide +kernel
theorem dX3_quotient_80 : decode cX3_quotient 80 = .ok (.iload_n 2, 1) := by decide +kernel
theorem dX3_quotient_81 : decode cX3_quotient 81 = .ok (.iload 8, 2) := by decide +kernel
theorem dX3_quotient_83 : decode cX3_quotient 83 = .ok (.invokevirtual 21, 3) := by decide +kernel
theorem dX3_quotient_86 : decode cX3_quotient 86 = .ok (.aload_n 0, 1) := by decide +kernel
theorem dX3_quotient_87 : decode cX3_quotient 87 = .ok (.iload 7, 2) := by decide +kernel
theorem dX3_quotient_89 : decode cX3_quotient 89 = .ok (.invokevirtual 40, 3) := by decide +kernel
theorem dX3_quotient_92 : decode cX3_quotient 92 = .ok (.imul, 1) := by decide +kernel
theorem dX3_quotient_93 : decode cX3_quotient 93 = .ok (.invokevirtual 43, 3) := by decide +kernel
theorem dX3_quotient_96 : decode cX3_quotient 96 = .ok (.istore 5, 2) := by decide +kernel
theorem dX3_quotient_98 : decode cX3_quotient 98 = .ok (.iinc 7 (-1), 3) := by decide +kernel
theorem dX3_quotient_101 : decode cX3_quotient 101 = .ok (.goto (-69), 3) := by decide +kernel
theorem dX3_quotient_104 : decode cX3_quotient 104 = .ok (.iload 6, 2) := by decide +kernel
theorem dX3_quotient_106 : decode cX3_quotient 106 = .ok (.ireturn, 1) := by decide +kernel
theorem dX3_rest_0 : decode cX3_rest 0 = .ok (.aload_n 0, 1) := by decide +kernel
theorem dX3_rest_1 : decode cX3_rest 1 = .ok (.iload_n 2, 1) := by decide +kernel
theorem dX3_rest_2 : decode cX3_rest 2 = .ok (.invokevirtual 27, 3) := by decide +kernel
theorem dX3_rest_5 : decode cX3_rest 5 = .ok (.istore_n 3, 1) := by decide +kernel
theorem dX3_rest_6 : decode cX3_rest 6 = .ok (.aload_n 0, 1) := by decide +kernel
theorem dX3_rest_7 : decode cX3_rest 7 = .ok (.aload_n 0, 1) := by decide +kernel
theorem dX3_rest_8 : decode cX3_rest 8 = .ok (.iload_n 2, 1) := by decide +kernel
theorem dX3_rest_9 : decode cX3_rest 9 = .ok (.invokevirtual 31, 3) := by decide +kernel
theorem dX3_rest_12 : decode cX3_rest 12 = .ok (.invokevirtual 34, 3) := by decide +kernel
theorem dX3_rest_15 : decode cX3_rest 15 = .ok (.istore 4, 2) := by decide +kernel
theorem dX3_rest_17 : decode cX3_rest 17 = .ok (.iload_n 1, 1) := by decide +kernel
theorem dX3_rest_18 : decode cX3_rest 18 = .ok (.istore 5, 2) := by decide +kernel
theorem dX3_rest_20 : decode cX3_rest 20 = .ok (.aload_n 0, 1) := by decide +kernel
theorem dX3_rest_21 : decode cX3_rest 21 = .ok (.iload_n 1, 1) := by decide +kernel
theorem dX3_rest_22 : decode cX3_rest 22 = .ok (.invokevirtual 27, 3) := by decide +kernel
theorem dX3_rest_25 : decode cX3_rest 25 = .ok (.iload_n 3, 1) := by decide +kernel
theorem dX3_rest_26 : decode cX3_rest 26 = .ok (.isub, 1) := by decide +kernel
theorem dX3_rest_27 : decode cX3_rest 27 = .ok (.istore 6, 2) := by decide +kernel
theorem dX3_rest_29 : decode cX3_rest 29 = .ok (.iload 6, 2) := by decide +kernel
theorem dX3_rest_31 : decode cX3_rest 31 = .ok (.ifCond .lt 56, 3) := by decide +kernel
theorem dX3_rest_34 : decode cX3_rest 34 = .ok (.iload 4, 2) := by decide +kernel
theorem dX3_rest_36 : decode cX3_rest 36 = .ok (.ifCond .eq 51, 3) := by decide +kernel
theorem dX3_rest_39 : decode cX3_rest 39 = .ok (.aload_n 0, 1) := by decide +kernel
theorem dX3_rest_40 : decode cX3_rest 40 = .ok (.iload 5, 2) := by decide +kernel
theorem dX3_rest_42 : decode cX3_rest 42 = .ok (.iload_n 3, 1) := by decide +kernel
theorem dX3_rest_43 : decode cX3_rest 43 = .ok (.iload 6, 2) := by decide +kernel
theorem dX3_rest_45 : decode cX3_rest 45 = .ok (.iadd, 1) := by decide +kernel
theorem dX3_rest_46 : decode cX3_rest 46 = .ok (.invokevirtual 37, 3) := by decide +kernel
theorem dX3_rest_49 : decode cX3_rest 49 = .ok (.iload 4, 2) := by decide +kernel
theorem dX3_rest_51 : decode cX3_rest 51 = .ok (.imul, 1) := by decide +kernel
theorem dX3_rest_52 : decode cX3_rest 52 = .ok (.aload_n 0, 1) := by decide +kernel
theorem dX3_rest_53 : decode cX3_rest 53 = .ok (.getfield 9, 3) := by decide +kernel
theorem dX3_rest_56 : decode cX3_rest 56 = .ok (.irem, 1) := by decide +kernel
theorem dX3_rest_57 : decode cX3_rest 57 = .ok (.istore 7, 2) := by decide +kernel
theorem dX3_rest_59 : decode cX3_rest 59 = .ok (.aload_n 0, 1) := by decide +kernel
theorem dX3_rest_60 : decode cX3_rest 60 = .ok (.iload 5, 2) := by decide +kernel
theorem dX3_rest_62 : decode cX3_rest 62 = .ok (.aload_n 0, 1) := by decide +kernel
theorem dX3_rest_63 : decode cX3_rest 63 = .ok (.iload_n 2, 1) := by decide +kernel
theorem dX3_rest_64 : decode cX3_rest 64 = .ok (.iload 7, 2) := by decide +kernel
theorem dX3_rest_66 : decode cX3_rest 66 = .ok (.invokevirtual 21, 3) := by decide +kernel
theorem dX3_rest_69 : decode cX3_rest 69 = .ok (.aload_n 0, 1) := by decide +kernel
theorem dX3_rest_70 : decode cX3_rest 70 = .ok (.iload 6, 2) := by decide +kernel
theorem dX3_rest_72 : decode cX3_rest 72 = .ok (.invokevirtual 40, 3) := by decide +kernel
theorem dX3_rest_75 : decode cX3_rest 75 = .ok (.imul, 1) := by decide +kernel
theorem dX3_rest_76 : decode cX3_rest 76 = .ok (.invokevirtual 43, 3) := by decide +kernel
theorem dX3_rest_79 : decode cX3_rest 79 = .ok (.istore 5, 2) := by decide +kernel
theorem dX3_rest_81 : decode cX3_rest 81 = .ok (.iinc 6 (-1), 3) := by decide +kernel
theorem dX3_rest_84 : decode cX3_rest 84 = .ok (.goto (-55), 3) := by decide +kernel
theorem dX3_rest_87 : decode cX3_rest 87 = .ok (.iload 5, 2) := by decide +kernel
theorem dX3_rest_89 : decode cX3_rest 89 = .ok (.ireturn, 1) := by decide +kernel
theorem dX3_monic_0 : decode cX3_monic 0 = .ok (.aload_n 0, 1) := by decide +kernel
theorem dX3_monic_1 : decode cX3_monic 1 = .ok (.iload_n 1, 1) := by decide +kernel
theorem dX3_monic_2 : decode cX3_monic 2 = .ok (.aload_n 0, 1) := by decide +kernel
theorem dX3_monic_3 : decode cX3_monic 3 = .ok (.aload_n 0, 1) := by decide +kernel
theorem dX3_monic_4 : decode cX3_monic 4 = .ok (.iload_n 1, 1) := by decide +kernel
theorem dX3_monic_5 : decode cX3_monic 5 = .ok (.invokevirtual 31, 3) := by decide +kernel
theorem dX3_monic_8 : decode cX3_monic 8 = .ok (.invokevirtual 34, 3) := by decide +kernel
theorem dX3_monic_11 : decode cX3_monic 11 = .ok (.invokevirtual 21, 3) := by decide +kernel
theorem dX3_monic_14 : decode cX3_monic 14 = .ok (.ireturn, 1) := by decide +kernel
theorem dX3_commonDivisor_0 : decode cX3_commonDivisor 0 = .ok (.iload_n 1, 1) := by decide +kernel
theorem dX3_commonDivisor_1 : decode cX3_commonDivisor 1 = .ok (.istore_n 3, 1) := by decide +kernel
theorem dX3_commonDivisor_2 : decode cX3_commonDivisor 2 = .ok (.iload_n 2, 1) := by decide +kernel
theorem dX3_commonDivisor_3 : decode cX3_commonDivisor 3 = .ok (.istore 4, 2) := by decide +kernel
theorem dX3_commonDivisor_5 : decode cX3_commonDivisor 5 = .ok (.iconst 0, 1) := by decide +kernel
theorem dX3_commonDivisor_6 : decode cX3_commonDivisor 6 = .ok (.istore 5, 2) := by decide +kernel
theorem dX3_commonDivisor_8 : decode cX3_commonDivisor 8 = .ok (.iload 5, 2) := by decide +kernel
theorem dX3_commonDivisor_10 : decode cX3_commonDivisor 10 = .ok (.bipush 20, 2) := by decide +kernel
theorem dX3_commonDivisor_12 : decode cX3_commonDivisor 12 = .ok (.if_icmp .ge 30, 3) := by decide +kernel
theorem dX3_commonDivisor_15 : decode cX3_commonDivisor 15 = .ok (.iload 4, 2) := by decide +kernel
theorem dX3_commonDivisor_17 : decode cX3_commonDivisor 17 = .ok (.ifCond .eq 25, 3) := by decide +kernel
theorem dX3_commonDivisor_20 : decode cX3_commonDivisor 20 = .ok (.aload_n 0, 1) := by decide +kernel
theorem dX3_commonDivisor_21 : decode cX3_commonDivisor 21 = .ok (.iload_n 3, 1) := by decide +kernel
theorem dX3_commonDivisor_22 : decode cX3_commonDivisor 22 = .ok (.iload 4, 2) := by decide +kernel
theorem dX3_commonDivisor_24 : decode cX3_commonDivisor 24 = .ok (.invokevirtual 46, 3) := by decide +kernel
theorem dX3_commonDivisor_27 : decode cX3_commonDivisor 27 = .ok (.istore 6, 2) := by decide +kernel
theorem dX3_commonDivisor_29 : decode cX3_commonDivisor 29 = .ok (.iload 4, 2) := by decide +kernel
theorem dX3_commonDivisor_31 : decode cX3_commonDivisor 31 = .ok (.istore_n 3, 1) := by decide +kernel
theorem dX3_commonDivisor_32 : decode cX3_commonDivisor 32 = .ok (.iload 6, 2) := by decide +kernel
theorem dX3_commonDivisor_34 : decode cX3_commonDivisor 34 = .ok (.istore 4, 2) := by decide +kernel
theorem dX3_commonDivisor_36 : decode cX3_commonDivisor 36 = .ok (.iinc 5 1, 3) := by decide +kernel
theorem dX3_commonDivisor_39 : decode cX3_commonDivisor 39 = .ok (.goto (-31), 3) := by decide +kernel
theorem dX3_commonDivisor_42 : decode cX3_commonDivisor 42 = .ok (.aload_n 0, 1) := by decide +kernel
theorem dX3_commonDivisor_43 : decode cX3_commonDivisor 43 = .ok (.iload_n 3, 1) := by decide +kernel
theorem dX3_commonDivisor_44 : decode cX3_commonDivisor 44 = .ok (.invokevirtual 49, 3) := by decide +kernel
theorem dX3_commonDivisor_47 : decode cX3_commonDivisor 47 = .ok (.ireturn, 1) := by decide +kernel
theorem dX3_cofactor_0 : decode cX3_cofactor 0 = .ok (.iload_n 1, 1) := by decide +kernel
theorem dX3_cofactor_1 : decode cX3_cofactor 1 = .ok (.istore_n 3, 1) := by decide +kernel
theorem dX3_cofactor_2 : decode cX3_cofactor 2 = .ok (.iload_n 2, 1) := by decide +kernel
theorem dX3_cofactor_3 : decode cX3_cofactor 3 = .ok (.istore 4, 2) := by decide +kernel
theorem dX3_cofactor_5 : decode cX3_cofactor 5 = .ok (.iconst 1, 1) := by decide +kernel
theorem dX3_cofactor_6 : decode cX3_cofactor 6 = .ok (.istore 5, 2) := by decide +kernel
theorem dX3_cofactor_8 : decode cX3_cofactor 8 = .ok (.iconst 0, 1) := by decide +kernel
theorem dX3_cofactor_9 : decode cX3_cofactor 9 = .ok (.istore 6, 2) := by decide +kernel
theorem dX3_cofactor_11 : decode cX3_cofactor 11 = .ok (.iconst 0, 1) := by decide +kernel
theorem dX3_cofactor_12 : decode cX3_cofactor 12 = .ok (.istore 7, 2) := by decide +kernel
theorem dX3_cofactor_14 : decode cX3_cofactor 14 = .ok (.iload 7, 2) := by decide +kernel
theorem dX3_cofactor_16 : decode cX3_cofactor 16 = .ok (.bipush 20, 2) := by decide +kernel
theorem dX3_cofactor_18 : decode cX3_cofactor 18 = .ok (.if_icmp .ge 69, 3) := by decide +kernel
theorem dX3_cofactor_21 : decode cX3_cofactor 21 = .ok (.iload 4, 2) := by decide +kernel
theorem dX3_cofactor_23 : decode cX3_cofactor 23 = .ok (.ifCond .eq 64, 3) := by decide +kernel
theorem dX3_cofactor_26 : decode cX3_cofactor 26 = .ok (.aload_n 0, 1) := by decide +kernel
theorem dX3_cofactor_27 : decode cX3_cofactor 27 = .ok (.iload_n 3, 1) := by decide +kernel
theorem dX3_cofactor_28 : decode cX3_cofactor 28 = .ok (.iload 4, 2) := by decide +kernel
theorem dX3_cofactor_30 : decode cX3_cofactor 30 = .ok (.invokevirtual 52, 3) := by decide +kernel
theorem dX3_cofactor_33 : decode cX3_cofactor 33 = .ok (.istore 8, 2) := by decide +kernel
theorem dX3_cofactor_35 : decode cX3_cofactor 35 = .ok (.aload_n 0, 1) := by decide +kernel
theorem dX3_cofactor_36 : decode cX3_cofactor 36 = .ok (.iload_n 3, 1) := by decide +kernel
theorem dX3_cofactor_37 : decode cX3_cofactor 37 = .ok (.aload_n 0, 1) := by decide +kernel
theorem dX3_cofactor_38 : decode cX3_cofactor 38 = .ok (.iload 8, 2) := by decide +kernel
theorem dX3_cofactor_40 : decode cX3_cofactor 40 = .ok (.iload 4, 2) := by decide +kernel
theorem dX3_cofactor_42 : decode cX3_cofactor 42 = .ok (.invokevirtual 55, 3) := by decide +kernel
theorem dX3_cofactor_45 : decode cX3_cofactor 45 = .ok (.invokevirtual 43, 3) := by decide +kernel
theorem dX3_cofactor_48 : decode cX3_cofactor 48 = .ok (.istore 9, 2) := by decide +kernel
theorem dX3_cofactor_50 : decode cX3_cofactor 50 = .ok (.aload_n 0, 1) := by decide +kernel
theorem dX3_cofactor_51 : decode cX3_cofactor 51 = .ok (.iload 5, 2) := by decide +kernel
theorem dX3_cofactor_53 : decode cX3_cofactor 53 = .ok (.aload_n 0, 1) := by decide +kernel
theorem dX3_cofactor_54 : decode cX3_cofactor 54 = .ok (.iload 8, 2) := by decide +kernel
theorem dX3_cofactor_56 : decode cX3_cofactor 56 = .ok (.iload 6, 2) := by decide +kernel
theorem dX3_cofactor_58 : decode cX3_cofactor 58 = .ok (.invokevirtual 55, 3) := by decide +kernel
theorem dX3_cofactor_61 : decode cX3_cofactor 61 = .ok (.invokevirtual 43, 3) := by decide +kernel
theorem dX3_cofactor_64 : decode cX3_cofactor 64 = .ok (.istore 10, 2) := by decide +kernel
theorem dX3_cofactor_66 : decode cX3_cofactor 66 = .ok (.iload 4, 2) := by decide +kernel
theorem dX3_cofactor_68 : decode cX3_cofactor 68 = .ok (.istore_n 3, 1) := by decide +kernel
theorem dX3_cofactor_69 : decode cX3_cofactor 69 = .ok (.iload 9, 2) := by decide +kernel
theorem dX3_cofactor_71 : decode cX3_cofactor 71 = .ok (.istore 4, 2) := by decide +kernel
theorem dX3_cofactor_73 : decode cX3_cofactor 73 = .ok (.iload 6, 2) := by decide +kernel
theorem dX3_cofactor_75 : decode cX3_cofactor 75 = .ok (.istore 5, 2) := by decide +kernel
theorem dX3_cofactor_77 : decode cX3_cofactor 77 = .ok (.iload 10, 2) := by decide +kernel
theorem dX3_cofactor_79 : decode cX3_cofactor 79 = .ok (.istore 6, 2) := by decide +kernel
theorem dX3_cofactor_81 : decode cX3_cofactor 81 = .ok (.iinc 7 1, 3) := by decide +kernel
theorem dX3_cofactor_84 : decode cX3_cofactor 84 = .ok (.goto (-70), 3) := by decide +kernel
theorem dX3_cofactor_87 : decode cX3_cofactor 87 = .ok (.aload_n 0, 1) := by decide +kernel
theorem dX3_cofactor_88 : decode cX3_cofactor 88 = .ok (.iload 5, 2) := by decide +kernel
theorem dX3_cofactor_90 : decode cX3_cofactor 90 = .ok (.aload_n 0, 1) := by decide +kernel
theorem dX3_cofactor_91 : decode cX3_cofactor 91 = .ok (.aload_n 0, 1) := by decide +kernel
theorem dX3_cofactor_92 : decode cX3_cofactor 92 = .ok (.iload_n 3, 1) := by decide +kernel
theorem dX3_cofactor_93 : decode cX3_cofactor 93 = .ok (.invokevirtual 31, 3) := by decide +kernel
theorem dX3_cofactor_96 : decode cX3_cofactor 96 = .ok (.invokevirtual 34, 3) := by decide +kernel
theorem dX3_cofactor_99 : decode cX3_cofactor 99 = .ok (.invokevirtual 21, 3) := by decide +kernel
theorem dX3_cofactor_102 : decode cX3_cofactor 102 = .ok (.ireturn, 1) := by decide +kernel
theorem dX3_derivative_0 : decode cX3_derivative 0 = .ok (.iconst 0, 1) := by decide +kernel
theorem dX3_derivative_1 : decode cX3_derivative 1 = .ok (.istore_n 2, 1) := by decide +kernel
theorem dX3_derivative_2 : decode cX3_derivative 2 = .ok (.aload_n 0, 1) := by decide +kernel
theorem dX3_derivative_3 : decode cX3_derivative 3 = .ok (.iload_n 1, 1) := by decide +kernel
theorem dX3_derivative_4 : decode cX3_derivative 4 = .ok (.invokevirtual 27, 3) := by decide +kernel
theorem dX3_derivative_7 : decode cX3_derivative 7 = .ok (.istore_n 3, 1) := by decide +kernel
theorem dX3_derivative_8 : decode cX3_derivative 8 = .ok (.iload_n 3, 1) := by decide +kernel
theorem dX3_derivative_9 : decode cX3_derivative 9 = .ok (.ifCond .le 33, 3) := by decide +kernel
theorem dX3_derivative_12 : decode cX3_derivative 12 = .ok (.iload_n 2, 1) := by decide +kernel
theorem dX3_derivative_13 : decode cX3_derivative 13 = .ok (.aload_n 0, 1) := by decide +kernel
theorem dX3_derivative_14 : decode cX3_derivative 14 = .ok (.iload_n 1, 1) := by decide +kernel
theorem dX3_derivative_15 : decode cX3_derivative 15 = .ok (.iload_n 3, 1) := by decide +kernel
theorem dX3_derivative_16 : decode cX3_derivative 16 = .ok (.invokevirtual 37, 3) := by decide +kernel
theorem dX3_derivative_19 : decode cX3_derivative 19 = .ok (.iload_n 3, 1) := by decide +kernel
theorem dX3_derivative_20 : decode cX3_derivative 20 = .ok (.imul, 1) := by decide +kernel
theorem dX3_derivative_21 : decode cX3_derivative 21 = .ok (.aload_n 0, 1) := by decide +kernel
theorem dX3_derivative_22 : decode cX3_derivative 22 = .ok (.getfield 9, 3) := by decide +kernel
theorem dX3_derivative_25 : decode cX3_derivative 25 = .ok (.irem, 1) := by decide +kernel
theorem dX3_derivative_26 : decode cX3_derivative 26 = .ok (.aload_n 0, 1) := by decide +kernel
theorem dX3_derivative_27 : decode cX3_derivative 27 = .ok (.iload_n 3, 1) := by decide +kernel
theorem dX3_derivative_28 : decode cX3_derivative 28 = .ok (.iconst 1, 1) := by decide +kernel
theorem dX3_derivative_29 : decode cX3_derivative 29 = .ok (.isub, 1) := by decide +kernel
theorem dX3_derivative_30 : decode cX3_derivative 30 = .ok (.invokevirtual 40, 3) := by decide +kernel
theorem dX3_derivative_33 : decode cX3_derivative 33 = .ok (.imul, 1) := by decide +kernel
theorem dX3_derivative_34 : decode cX3_derivative 34 = .ok (.iadd, 1) := by decide +kernel
theorem dX3_derivative_35 : decode cX3_derivative 35 = .ok (.istore_n 2, 1) := by decide +kernel
theorem dX3_derivative_36 : decode cX3_derivative 36 = .ok (.iinc 3 (-1), 3) := by decide +kernel
theorem dX3_derivative_39 : decode cX3_derivative 39 = .ok (.goto (-31), 3) := by decide +kernel
theorem dX3_derivative_42 : decode cX3_derivative 42 = .ok (.iload_n 2, 1) := by decide +kernel
theorem dX3_derivative_43 : decode cX3_derivative 43 = .ok (.ireturn, 1) := by decide +kernel
theorem dX3_knotOf_0 : decode cX3_knotOf 0 = .ok (.aload_n 0, 1) := by decide +kernel
theorem dX3_knotOf_1 : decode cX3_knotOf 1 = .ok (.iload_n 1, 1) := by decide +kernel
theorem dX3_knotOf_2 : decode cX3_knotOf 2 = .ok (.aload_n 0, 1) := by decide +kernel
theorem dX3_knotOf_3 : decode cX3_knotOf 3 = .ok (.iload_n 1, 1) := by decide +kernel
theorem dX3_knotOf_4 : decode cX3_knotOf 4 = .ok (.invokevirtual 58, 3) := by decide +kernel
theorem dX3_knotOf_7 : decode cX3_knotOf 7 = .ok (.invokevirtual 61, 3) := by decide +kernel
theorem dX3_knotOf_10 : decode cX3_knotOf 10 = .ok (.ireturn, 1) := by decide +kernel
theorem dX3_movedBy_0 : decode cX3_movedBy 0 = .ok (.iconst 0, 1) := by decide +kernel
theorem dX3_movedBy_1 : decode cX3_movedBy 1 = .ok (.istore_n 3, 1) := by decide +kernel
theorem dX3_movedBy_2 : decode cX3_movedBy 2 = .ok (.aload_n 0, 1) := by decide +kernel
theorem dX3_movedBy_3 : decode cX3_movedBy 3 = .ok (.iload_n 1, 1) := by decide +kernel
theorem dX3_movedBy_4 : decode cX3_movedBy 4 = .ok (.invokevirtual 27, 3) := by decide +kernel
theorem dX3_movedBy_7 : decode cX3_movedBy 7 = .ok (.istore 4, 2) := by decide +kernel
theorem dX3_movedBy_9 : decode cX3_movedBy 9 = .ok (.iload 4, 2) := by decide +kernel
theorem dX3_movedBy_11 : decode cX3_movedBy 11 = .ok (.ifCond .lt 32, 3) := by decide +kernel
theorem dX3_movedBy_14 : decode cX3_movedBy 14 = .ok (.aload_n 0, 1) := by decide +kernel
theorem dX3_movedBy_15 : decode cX3_movedBy 15 = .ok (.aload_n 0, 1) := by decide +kernel
theorem dX3_movedBy_16 : decode cX3_movedBy 16 = .ok (.iload_n 3, 1) := by decide +kernel
theorem dX3_movedBy_17 : decode cX3_movedBy 17 = .ok (.aload_n 0, 1) := by decide +kernel
theorem dX3_movedBy_18 : decode cX3_movedBy 18 = .ok (.getfield 9, 3) := by decide +kernel
theorem dX3_movedBy_21 : decode cX3_movedBy 21 = .ok (.iload_n 2, 1) := by decide +kernel
theorem dX3_movedBy_22 : decode cX3_movedBy 22 = .ok (.iadd, 1) := by decide +kernel
theorem dX3_movedBy_23 : decode cX3_movedBy 23 = .ok (.invokevirtual 55, 3) := by decide +kernel
theorem dX3_movedBy_26 : decode cX3_movedBy 26 = .ok (.aload_n 0, 1) := by decide +kernel
theorem dX3_movedBy_27 : decode cX3_movedBy 27 = .ok (.iload_n 1, 1) := by decide +kernel
theorem dX3_movedBy_28 : decode cX3_movedBy 28 = .ok (.iload 4, 2) := by decide +kernel
theorem dX3_movedBy_30 : decode cX3_movedBy 30 = .ok (.invokevirtual 37, 3) := by decide +kernel
theorem dX3_movedBy_33 : decode cX3_movedBy 33 = .ok (.invokevirtual 24, 3) := by decide +kernel
theorem dX3_movedBy_36 : decode cX3_movedBy 36 = .ok (.istore_n 3, 1) := by decide +kernel
theorem dX3_movedBy_37 : decode cX3_movedBy 37 = .ok (.iinc 4 (-1), 3) := by decide +kernel
theorem dX3_movedBy_40 : decode cX3_movedBy 40 = .ok (.goto (-31), 3) := by decide +kernel
theorem dX3_movedBy_43 : decode cX3_movedBy 43 = .ok (.iload_n 3, 1) := by decide +kernel
theorem dX3_movedBy_44 : decode cX3_movedBy 44 = .ok (.ireturn, 1) := by decide +kernel
theorem dX3_squareRest_0 : decode cX3_squareRest 0 = .ok (.iload_n 1, 1) := by decide +kernel
theorem dX3_squareRest_1 : decode cX3_squareRest 1 = .ok (.aload_n 0, 1) := by decide +kernel
theorem dX3_squareRest_2 : decode cX3_squareRest 2 = .ok (.getfield 9, 3) := by decide +kernel
theorem dX3_squareRest_5 : decode cX3_squareRest 5 = .ok (.idiv, 1) := by decide +kernel
theorem dX3_squareRest_6 : decode cX3_squareRest 6 = .ok (.istore_n 3, 1) := by decide +kernel
theorem dX3_squareRest_7 : decode cX3_squareRest 7 = .ok (.iload_n 1, 1) := by decide +kernel
theorem dX3_squareRest_8 : decode cX3_squareRest 8 = .ok (.aload_n 0, 1) := by decide +kernel
theorem dX3_squareRest_9 : decode cX3_squareRest 9 = .ok (.getfield 9, 3) := by decide +kernel
theorem dX3_squareRest_12 : decode cX3_squareRest 12 = .ok (.irem, 1) := by decide +kernel
theorem dX3_squareRest_13 : decode cX3_squareRest 13 = .ok (.istore 4, 2) := by decide +kernel
theorem dX3_squareRest_15 : decode cX3_squareRest 15 = .ok (.aload_n 0, 1) := by decide +kernel
theorem dX3_squareRest_16 : decode cX3_squareRest 16 = .ok (.getfield 9, 3) := by decide +kernel
theorem dX3_squareRest_19 : decode cX3_squareRest 19 = .ok (.iload_n 2, 1) := by decide +kernel
theorem dX3_squareRest_20 : decode cX3_squareRest 20 = .ok (.aload_n 0, 1) := by decide +kernel
theorem dX3_squareRest_21 : decode cX3_squareRest 21 = .ok (.getfield 9, 3) := by decide +kernel
theorem dX3_squareRest_24 : decode cX3_squareRest 24 = .ok (.idiv, 1) := by decide +kernel
theorem dX3_squareRest_25 : decode cX3_squareRest 25 = .ok (.aload_n 0, 1) := by decide +kernel
theorem dX3_squareRest_26 : decode cX3_squareRest 26 = .ok (.getfield 9, 3) := by decide +kernel
theorem dX3_squareRest_29 : decode cX3_squareRest 29 = .ok (.irem, 1) := by decide +kernel
theorem dX3_squareRest_30 : decode cX3_squareRest 30 = .ok (.isub, 1) := by decide +kernel
theorem dX3_squareRest_31 : decode cX3_squareRest 31 = .ok (.istore 5, 2) := by decide +kernel
theorem dX3_squareRest_33 : decode cX3_squareRest 33 = .ok (.aload_n 0, 1) := by decide +kernel
theorem dX3_squareRest_34 : decode cX3_squareRest 34 = .ok (.getfield 9, 3) := by decide +kernel
theorem dX3_squareRest_37 : decode cX3_squareRest 37 = .ok (.iload_n 2, 1) := by decide +kernel
theorem dX3_squareRest_38 : decode cX3_squareRest 38 = .ok (.aload_n 0, 1) := by decide +kernel
theorem dX3_squareRest_39 : decode cX3_squareRest 39 = .ok (.getfield 9, 3) := by decide +kernel
theorem dX3_squareRest_42 : decode cX3_squareRest 42 = .ok (.irem, 1) := by decide +kernel
theorem dX3_squareRest_43 : decode cX3_squareRest 43 = .ok (.isub, 1) := by decide +kernel
theorem dX3_squareRest_44 : decode cX3_squareRest 44 = .ok (.istore 6, 2) := by decide +kernel
theorem dX3_squareRest_46 : decode cX3_squareRest 46 = .ok (.iload_n 3, 1) := by decide +kernel
theorem dX3_squareRest_47 : decode cX3_squareRest 47 = .ok (.iconst 2, 1) := by decide +kernel
theorem dX3_squareRest_48 : decode cX3_squareRest 48 = .ok (.iload 4, 2) := by decide +kernel
theorem dX3_squareRest_50 : decode cX3_squareRest 50 = .ok (.imul, 1) := by decide +kernel
theorem dX3_squareRest_51 : decode cX3_squareRest 51 = .ok (.iload 5, 2) := by decide +kernel
theorem dX3_squareRest_53 : decode cX3_squareRest 53 = .ok (.iload_n 3, 1) := by decide +kernel
theorem dX3_squareRest_54 : decode cX3_squareRest 54 = .ok (.imul, 1) := by decide +kernel
theorem dX3_squareRest_55 : decode cX3_squareRest 55 = .ok (.iadd, 1) := by decide +kernel
theorem dX3_squareRest_56 : decode cX3_squareRest 56 = .ok (.imul, 1) := by decide +kernel
theorem dX3_squareRest_57 : decode cX3_squareRest 57 = .ok (.aload_n 0, 1) := by decide +kernel
theorem dX3_squareRest_58 : decode cX3_squareRest 58 = .ok (.getfield 9, 3) := by decide +kernel
theorem dX3_squareRest_61 : decode cX3_squareRest 61 = .ok (.irem, 1) := by decide +kernel
theorem dX3_squareRest_62 : decode cX3_squareRest 62 = .ok (.istore 7, 2) := by decide +kernel
theorem dX3_squareRest_64 : decode cX3_squareRest 64 = .ok (.iload 4, 2) := by decide +kernel
theorem dX3_squareRest_66 : decode cX3_squareRest 66 = .ok (.iload 4, 2) := by decide +kernel
theorem dX3_squareRest_68 : decode cX3_squareRest 68 = .ok (.imul, 1) := by decide +kernel
theorem dX3_squareRest_69 : decode cX3_squareRest 69 = .ok (.iload 6, 2) := by decide +kernel
theorem dX3_squareRest_71 : decode cX3_squareRest 71 = .ok (.iload_n 3, 1) := by decide +kernel
theorem dX3_squareRest_72 : decode cX3_squareRest 72 = .ok (.imul, 1) := by decide +kernel
theorem dX3_squareRest_73 : decode cX3_squareRest 73 = .ok (.iload_n 3, 1) := by decide +kernel
theorem dX3_squareRest_74 : decode cX3_squareRest 74 = .ok (.imul, 1) := by decide +kernel
theorem dX3_squareRest_75 : decode cX3_squareRest 75 = .ok (.iadd, 1) := by decide +kernel
theorem dX3_squareRest_76 : decode cX3_squareRest 76 = .ok (.aload_n 0, 1) := by decide +kernel
theorem dX3_squareRest_77 : decode cX3_squareRest 77 = .ok (.getfield 9, 3) := by decide +kernel
theorem dX3_squareRest_80 : decode cX3_squareRest 80 = .ok (.irem, 1) := by decide +kernel
theorem dX3_squareRest_81 : decode cX3_squareRest 81 = .ok (.istore 8, 2) := by decide +kernel
theorem dX3_squareRest_83 : decode cX3_squareRest 83 = .ok (.iload 7, 2) := by decide +kernel
theorem dX3_squareRest_85 : decode cX3_squareRest 85 = .ok (.aload_n 0, 1) := by decide +kernel
theorem dX3_squareRest_86 : decode cX3_squareRest 86 = .ok (.getfield 9, 3) := by decide +kernel
theorem dX3_squareRest_89 : decode cX3_squareRest 89 = .ok (.imul, 1) := by decide +kernel
theorem dX3_squareRest_90 : decode cX3_squareRest 90 = .ok (.iload 8, 2) := by decide +kernel
theorem dX3_squareRest_92 : decode cX3_squareRest 92 = .ok (.iadd, 1) := by decide +kernel
theorem dX3_squareRest_93 : decode cX3_squareRest 93 = .ok (.ireturn, 1) := by decide +kernel
theorem dX3_isProduct_0 : decode cX3_isProduct 0 = .ok (.iconst 1, 1) := by decide +kernel
theorem dX3_isProduct_1 : decode cX3_isProduct 1 = .ok (.istore_n 3, 1) := by decide +kernel
theorem dX3_isProduct_2 : decode cX3_isProduct 2 = .ok (.iload_n 3, 1) := by decide +kernel
theorem dX3_isProduct_3 : decode cX3_isProduct 3 = .ok (.iload_n 2, 1) := by decide +kernel
theorem dX3_isProduct_4 : decode cX3_isProduct 4 = .ok (.iconst 2, 1) := by decide +kernel
theorem dX3_isProduct_5 : decode cX3_isProduct 5 = .ok (.idiv, 1) := by decide +kernel
theorem dX3_isProduct_6 : decode cX3_isProduct 6 = .ok (.if_icmp .gt 47, 3) := by decide +kernel
theorem dX3_isProduct_9 : decode cX3_isProduct 9 = .ok (.aload_n 0, 1) := by decide +kernel
theorem dX3_isProduct_10 : decode cX3_isProduct 10 = .ok (.iload_n 3, 1) := by decide +kernel
theorem dX3_isProduct_11 : decode cX3_isProduct 11 = .ok (.invokevirtual 40, 3) := by decide +kernel
theorem dX3_isProduct_14 : decode cX3_isProduct 14 = .ok (.istore 4, 2) := by decide +kernel
theorem dX3_isProduct_16 : decode cX3_isProduct 16 = .ok (.iload 4, 2) := by decide +kernel
theorem dX3_isProduct_18 : decode cX3_isProduct 18 = .ok (.istore 5, 2) := by decide +kernel
theorem dX3_isProduct_20 : decode cX3_isProduct 20 = .ok (.iload 5, 2) := by decide +kernel
theorem dX3_isProduct_22 : decode cX3_isProduct 22 = .ok (.iconst 2, 1) := by decide +kernel
theorem dX3_isProduct_23 : decode cX3_isProduct 23 = .ok (.iload 4, 2) := by decide +kernel
theorem dX3_isProduct_25 : decode cX3_isProduct 25 = .ok (.imul, 1) := by decide +kernel
theorem dX3_isProduct_26 : decode cX3_isProduct 26 = .ok (.if_icmp .ge 21, 3) := by decide +kernel
theorem dX3_isProduct_29 : decode cX3_isProduct 29 = .ok (.aload_n 0, 1) := by decide +kernel
theorem dX3_isProduct_30 : decode cX3_isProduct 30 = .ok (.iload_n 1, 1) := by decide +kernel
theorem dX3_isProduct_31 : decode cX3_isProduct 31 = .ok (.iload 5, 2) := by decide +kernel
theorem dX3_isProduct_33 : decode cX3_isProduct 33 = .ok (.invokevirtual 46, 3) := by decide +kernel
theorem dX3_isProduct_36 : decode cX3_isProduct 36 = .ok (.ifCond .ne 5, 3) := by decide +kernel
theorem dX3_isProduct_39 : decode cX3_isProduct 39 = .ok (.iconst 1, 1) := by decide +kernel
theorem dX3_isProduct_40 : decode cX3_isProduct 40 = .ok (.ireturn, 1) := by decide +kernel
theorem dX3_isProduct_41 : decode cX3_isProduct 41 = .ok (.iinc 5 1, 3) := by decide +kernel
theorem dX3_isProduct_44 : decode cX3_isProduct 44 = .ok (.goto (-24), 3) := by decide +kernel
theorem dX3_isProduct_47 : decode cX3_isProduct 47 = .ok (.iinc 3 1, 3) := by decide +kernel
theorem dX3_isProduct_50 : decode cX3_isProduct 50 = .ok (.goto (-48), 3) := by decide +kernel
theorem dX3_isProduct_53 : decode cX3_isProduct 53 = .ok (.iconst 0, 1) := by decide +kernel
theorem dX3_isProduct_54 : decode cX3_isProduct 54 = .ok (.ireturn, 1) := by decide +kernel
theorem dX4_init_0 : decode cX4_init 0 = .ok (.aload_n 0, 1) := by decide +kernel
theorem dX4_init_1 : decode cX4_init 1 = .ok (.invokespecial 1, 3) := by decide +kernel
theorem dX4_init_4 : decode cX4_init 4 = .ok (.aload_n 0, 1) := by decide +kernel
theorem dX4_init_5 : decode cX4_init 5 = .ok (.new 7, 3) := by decide +kernel
theorem dX4_init_8 : decode cX4_init 8 = .ok (.dup, 1) := by decide +kernel
theorem dX4_init_9 : decode cX4_init 9 = .ok (.invokespecial 9, 3) := by decide +kernel
theorem dX4_init_12 : decode cX4_init 12 = .ok (.putfield 10, 3) := by decide +kernel
theorem dX4_init_15 : decode cX4_init 15 = .ok (.aload_n 0, 1) := by decide +kernel
theorem dX4_init_16 : decode cX4_init 16 = .ok (.iconst 5, 1) := by decide +kernel
theorem dX4_init_17 : decode cX4_init 17 = .ok (.anewarray 16, 3) := by decide +kernel
theorem dX4_init_20 : decode cX4_init 20 = .ok (.putfield 18, 3) := by decide +kernel
theorem dX4_init_23 : decode cX4_init 23 = .ok (.aload_n 0, 1) := by decide +kernel
theorem dX4_init_24 : decode cX4_init 24 = .ok (.bipush 8, 2) := by decide +kernel
theorem dX4_init_26 : decode cX4_init 26 = .ok (.anewarray 22, 3) := by decide +kernel
theorem dX4_init_29 : decode cX4_init 29 = .ok (.putfield 24, 3) := by decide +kernel
theorem dX4_init_32 : decode cX4_init 32 = .ok (.aload_n 0, 1) := by decide +kernel
theorem dX4_init_33 : decode cX4_init 33 = .ok (.sipush 343, 3) := by decide +kernel
theorem dX4_init_36 : decode cX4_init 36 = .ok (.newarray .int, 2) := by decide +kernel
theorem dX4_init_38 : decode cX4_init 38 = .ok (.putfield 28, 3) := by decide +kernel
theorem dX4_init_41 : decode cX4_init 41 = .ok (.aload_n 0, 1) := by decide +kernel
theorem dX4_init_42 : decode cX4_init 42 = .ok (.bipush 13, 2) := by decide +kernel
theorem dX4_init_44 : decode cX4_init 44 = .ok (.newarray .long, 2) := by decide +kernel
theorem dX4_init_46 : decode cX4_init 46 = .ok (.putfield 32, 3) := by decide +kernel
theorem dX4_init_49 : decode cX4_init 49 = .ok (.aload_n 0, 1) := by decide +kernel
theorem dX4_init_50 : decode cX4_init 50 = .ok (.bipush (-9), 2) := by decide +kernel
theorem dX4_init_52 : decode cX4_init 52 = .ok (.putfield 36, 3) := by decide +kernel
theorem dX4_init_55 : decode cX4_init 55 = .ok (.iconst 0, 1) := by decide +kernel
theorem dX4_init_56 : decode cX4_init 56 = .ok (.istore_n 1, 1) := by decide +kernel
theorem dX4_init_57 : decode cX4_init 57 = .ok (.iload_n 1, 1) := by decide +kernel
theorem dX4_init_58 : decode cX4_init 58 = .ok (.aload_n 0, 1) := by decide +kernel
theorem dX4_init_59 : decode cX4_init 59 = .ok (.getfield 18, 3) := by decide +kernel
theorem dX4_init_62 : decode cX4_init 62 = .ok (.arraylength, 1) := by decide +kernel
theorem dX4_init_63 : decode cX4_init 63 = .ok (.if_icmp .ge 29, 3) := by decide +kernel
theorem dX4_init_66 : decode cX4_init 66 = .ok (.aload_n 0, 1) := by decide +kernel
theorem dX4_init_67 : decode cX4_init 67 = .ok (.getfield 18, 3) := by decide +kernel
theorem dX4_init_70 : decode cX4_init 70 = .ok (.iload_n 1, 1) := by decide +kernel
theorem dX4_init_71 : decode cX4_init 71 = .ok (.new 16, 3) := by decide +kernel
theorem dX4_init_74 : decode cX4_init 74 = .ok (.dup, 1) := by decide +kernel
theorem dX4_init_75 : decode cX4_init 75 = .ok (.aload_n 0, 1) := by decide +kernel
theorem dX4_init_76 : decode cX4_init 76 = .ok (.getfield 10, 3) := by decide +kernel
theorem dX4_init_79 : decode cX4_init 79 = .ok (.iload_n 1, 1) := by decide +kernel
theorem dX4_init_80 : decode cX4_init 80 = .ok (.iconst 1, 1) := by decide +kernel
theorem dX4_init_81 : decode cX4_init 81 = .ok (.iadd, 1) := by decide +kernel
theorem dX4_init_82 : decode cX4_init 82 = .ok (.invokespecial 40, 3) := by decide +kernel
theorem dX4_init_85 : decode cX4_init 85 = .ok (.aastore, 1) := by decide +kernel
theorem dX4_init_86 : decode cX4_init 86 = .ok (.iinc 1 1, 3) := by decide +kernel
theorem dX4_init_89 : decode cX4_init 89 = .ok (.goto (-32), 3) := by decide +kernel
theorem dX4_init_92 : decode cX4_init 92 = .ok (.iconst 0, 1) := by decide +kernel
theorem dX4_init_93 : decode cX4_init 93 = .ok (.istore_n 1, 1) := by decide +kernel
theorem dX4_init_94 : decode cX4_init 94 = .ok (.iload_n 1, 1) := by decide +kernel
theorem dX4_init_95 : decode cX4_init 95 = .ok (.aload_n 0, 1) := by decide +kernel
theorem dX4_init_96 : decode cX4_init 96 = .ok (.getfield 24, 3) := by decide +kernel
theorem dX4_init_99 : decode cX4_init 99 = .ok (.arraylength, 1) := by decide +kernel
theorem dX4_init_100 : decode cX4_init 100 = .ok (.if_icmp .ge 26, 3) := by decide +kernel
theorem dX4_init_103 : decode cX4_init 103 = .ok (.aload_n 0, 1) := by decide +kernel
theorem dX4_init_104 : decode cX4_init 104 = .ok (.getfield 24, 3) := by decide +kernel
theorem dX4_init_107 : decode cX4_init 107 = .ok (.iload_n 1, 1) := by decide +kernel
theorem dX4_init_108 : decode cX4_init 108 = .ok (.new 22, 3) := by decide +kernel
theorem dX4_init_111 : decode cX4_init 111 = .ok (.dup, 1) := by decide +kernel
theorem dX4_init_112 : decode cX4_init 112 = .ok (.aload_n 0, 1) := by decide +kernel
theorem dX4_init_113 : decode cX4_init 113 = .ok (.getfield 10, 3) := by decide +kernel
theorem dX4_init_116 : decode cX4_init 116 = .ok (.invokespecial 43, 3) := by decide +kernel
theorem dX4_init_119 : decode cX4_init 119 = .ok (.aastore, 1) := by decide +kernel
theorem dX4_init_120 : decode cX4_init 120 = .ok (.iinc 1 1, 3) := by decide +kernel
theorem dX4_init_123 : decode cX4_init 123 = .ok (.goto (-29), 3) := by decide +kernel
theorem dX4_init_126 : decode cX4_init 126 = .ok (.aload_n 0, 1) := by decide +kernel
theorem dX4_init_127 : decode cX4_init 127 = .ok (.iconst 3, 1) := by decide +kernel
theorem dX4_init_128 : decode cX4_init 128 = .ok (.invokevirtual 46, 3) := by decide +kernel
theorem dX4_init_131 : decode cX4_init 131 = .ok (.return_, 1) := by decide +kernel
theorem dX4_prime_0 : decode cX4_prime 0 = .ok (.getstatic 50, 3) := by decide +kernel
theorem dX4_prime_3 : decode cX4_prime 3 = .ok (.astore_n 2, 1) := by decide +kernel
theorem dX4_prime_4 : decode cX4_prime 4 = .ok (.aload_n 2, 1) := by decide +kernel
theorem dX4_prime_5 : decode cX4_prime 5 = .ok (.arraylength, 1) := by decide +kernel
theorem dX4_prime_6 : decode cX4_prime 6 = .ok (.istore_n 3, 1) := by decide +kernel
theorem dX4_prime_7 : decode cX4_prime 7 = .ok (.iconst 0, 1) := by decide +kernel
theorem dX4_prime_8 : decode cX4_prime 8 = .ok (.istore 4, 2) := by decide +kernel
theorem dX4_prime_10 : decode cX4_prime 10 = .ok (.iload 4, 2) := by decide +kernel
theorem dX4_prime_12 : decode cX4_prime 12 = .ok (.iload_n 3, 1) := by decide +kernel
theorem dX4_prime_13 : decode cX4_prime 13 = .ok (.if_icmp .ge 31, 3) := by decide +kernel
theorem dX4_prime_16 : decode cX4_prime 16 = .ok (.aload_n 2, 1) := by decide +kernel
theorem dX4_prime_17 : decode cX4_prime 17 = .ok (.iload 4, 2) := by decide +kernel
theorem dX4_prime_19 : decode cX4_prime 19 = .ok (.iaload, 1) := by decide +kernel
theorem dX4_prime_20 : decode cX4_prime 20 = .ok (.istore 5, 2) := by decide +kernel
theorem dX4_prime_22 : decode cX4_prime 22 = .ok (.iload 5, 2) := by decide +kernel
theorem dX4_prime_24 : decode cX4_prime 24 = .ok (.iload_n 1, 1) := by decide +kernel
theorem dX4_prime_25 : decode cX4_prime 25 = .ok (.if_icmp .ne 13, 3) := by decide +kernel
theorem dX4_prime_28 : decode cX4_prime 28 = .ok (.aload_n 0, 1) := by decide +kernel
theorem dX4_prime_29 : decode cX4_prime 29 = .ok (.iload_n 1, 1) := by decide +kernel
theorem dX4_prime_30 : decode cX4_prime 30 = .ok (.invokevirtual 46, 3) := by decide +kernel
theorem dX4_prime_33 : decode cX4_prime 33 = .ok (.aload_n 0, 1) := by decide +kernel
theorem dX4_prime_34 : decode cX4_prime 34 = .ok (.getfield 53, 3) := by decide +kernel
theorem dX4_prime_37 : decode cX4_prime 37 = .ok (.ireturn, 1) := by decide +kernel
theorem dX4_prime_38 : decode cX4_prime 38 = .ok (.iinc 4 1, 3) := by decide +kernel
theorem dX4_prime_41 : decode cX4_prime 41 = .ok (.goto (-31), 3) := by decide +kernel
theorem dX4_prime_44 : decode cX4_prime 44 = .ok (.iconst (-1), 1) := by decide +kernel
theorem dX4_prime_45 : decode cX4_prime 45 = .ok (.ireturn, 1) := by decide +kernel
theorem dX4_size_0 : decode cX4_size 0 = .ok (.aload_n 0, 1) := by decide +kernel
theorem dX4_size_1 : decode cX4_size 1 = .ok (.iload_n 1, 1) := by decide +kernel
theorem dX4_size_2 : decode cX4_size 2 = .ok (.invokevirtual 56, 3) := by decide +kernel
theorem dX4_size_5 : decode cX4_size 5 = .ok (.astore_n 2, 1) := by decide +kernel
theorem dX4_size_6 : decode cX4_size 6 = .ok (.aload_n 2, 1) := by decide +kernel
theorem dX4_size_7 : decode cX4_size 7 = .ok (.ifnonnull 7, 3) := by decide +kernel
theorem dX4_size_10 : decode cX4_size 10 = .ok (.iconst (-1), 1) := by decide +kernel
theorem dX4_size_11 : decode cX4_size 11 = .ok (.goto 7, 3) := by decide +kernel
theorem dX4_size_14 : decode cX4_size 14 = .ok (.aload_n 2, 1) := by decide +kernel
theorem dX4_size_15 : decode cX4_size 15 = .ok (.getfield 60, 3) := by decide +kernel
theorem dX4_size_18 : decode cX4_size 18 = .ok (.ireturn, 1) := by decide +kernel
theorem dX4_modulus_0 : decode cX4_modulus 0 = .ok (.aload_n 0, 1) := by decide +kernel
theorem dX4_modulus_1 : decode cX4_modulus 1 = .ok (.iload_n 1, 1) := by decide +kernel
theorem dX4_modulus_2 : decode cX4_modulus 2 = .ok (.invokevirtual 56, 3) := by decide +kernel
theorem dX4_modulus_5 : decode cX4_modulus 5 = .ok (.astore_n 2, 1) := by decide +kernel
theorem dX4_modulus_6 : decode cX4_modulus 6 = .ok (.aload_n 2, 1) := by decide +kernel
theorem dX4_modulus_7 : decode cX4_modulus 7 = .ok (.ifnonnull 7, 3) := by decide +kernel
theorem dX4_modulus_10 : decode cX4_modulus 10 = .ok (.iconst (-1), 1) := by decide +kernel
theorem dX4_modulus_11 : decode cX4_modulus 11 = .ok (.goto 7, 3) := by decide +kernel
theorem dX4_modulus_14 : decode cX4_modulus 14 = .ok (.aload_n 2, 1) := by decide +kernel
theorem dX4_modulus_15 : decode cX4_modulus 15 = .ok (.getfield 63, 3) := by decide +kernel
theorem dX4_modulus_18 : decode cX4_modulus 18 = .ok (.ireturn, 1) := by decide +kernel
theorem dX4_plus_0 : decode cX4_plus 0 = .ok (.aload_n 0, 1) := by decide +kernel
theorem dX4_plus_1 : decode cX4_plus 1 = .ok (.iload_n 1, 1) := by decide +kernel
theorem dX4_plus_2 : decode cX4_plus 2 = .ok (.invokevirtual 56, 3) := by decide +kernel
theorem dX4_plus_5 : decode cX4_plus 5 = .ok (.astore 4, 2) := by decide +kernel
theorem dX4_plus_7 : decode cX4_plus 7 = .ok (.aload 4, 2) := by decide +kernel
theorem dX4_plus_9 : decode cX4_plus 9 = .ok (.ifnull 21, 3) := by decide +kernel
theorem dX4_plus_12 : decode cX4_plus 12 = .ok (.aload 4, 2) := by decide +kernel
theorem dX4_plus_14 : decode cX4_plus 14 = .ok (.iload_n 2, 1) := by decide +kernel
theorem dX4_plus_15 : decode cX4_plus 15 = .ok (.invokevirtual 66, 3) := by decide +kernel
theorem dX4_plus_18 : decode cX4_plus 18 = .ok (.ifCond .eq 12, 3) := by decide +kernel
theorem dX4_plus_21 : decode cX4_plus 21 = .ok (.aload 4, 2) := by decide +kernel
theorem dX4_plus_23 : decode cX4_plus 23 = .ok (.iload_n 3, 1) := by decide +kernel
theorem dX4_plus_24 : decode cX4_plus 24 = .ok (.invokevirtual 66, 3) := by decide +kernel
theorem dX4_plus_27 : decode cX4_plus 27 = .ok (.ifCond .ne 5, 3) := by decide +kernel
theorem dX4_plus_30 : decode cX4_plus 30 = .ok (.iconst (-1), 1) := by decide +kernel
theorem dX4_plus_31 : decode cX4_plus 31 = .ok (.ireturn, 1) := by decide +kernel
theorem dX4_plus_32 : decode cX4_plus 32 = .ok (.aload_n 0, 1) := by decide +kernel
theorem dX4_plus_33 : decode cX4_plus 33 = .ok (.getfield 10, 3) := by decide +kernel
theorem dX4_plus_36 : decode cX4_plus 36 = .ok (.iload_n 2, 1) := by decide +kernel
theorem dX4_plus_37 : decode cX4_plus 37 = .ok (.iload_n 3, 1) := by decide +kernel
theorem dX4_plus_38 : decode cX4_plus 38 = .ok (.invokevirtual 70, 3) := by decide +kernel
theorem dX4_plus_41 : decode cX4_plus 41 = .ok (.ireturn, 1) := by decide +kernel
theorem dX4_times_0 : decode cX4_times 0 = .ok (.aload_n 0, 1) := by decide +kernel
theorem dX4_times_1 : decode cX4_times 1 = .ok (.iload_n 1, 1) := by decide +kernel
theorem dX4_times_2 : decode cX4_times 2 = .ok (.invokevirtual 56, 3) := by decide +kernel
theorem dX4_times_5 : decode cX4_times 5 = .ok (.astore 4, 2) := by decide +kernel
theorem dX4_times_7 : decode cX4_times 7 = .ok (.aload 4, 2) := by decide +kernel
theorem dX4_times_9 : decode cX4_times 9 = .ok (.ifnull 21, 3) := by decide +kernel
theorem dX4_times_12 : decode cX4_times 12 = .ok (.aload 4, 2) := by decide +kernel
theorem dX4_times_14 : decode cX4_times 14 = .ok (.iload_n 2, 1) := by decide +kernel
theorem dX4_times_15 : decode cX4_times 15 = .ok (.invokevirtual 66, 3) := by decide +kernel
theorem dX4_times_18 : decode cX4_times 18 = .ok (.ifCond .eq 12, 3) := by decide +kernel
theorem dX4_times_21 : decode cX4_times 21 = .ok (.aload 4, 2) := by decide +kernel
theorem dX4_times_23 : decode cX4_times 23 = .ok (.iload_n 3, 1) := by decide +kernel
theorem dX4_times_24 : decode cX4_times 24 = .ok (.invokevirtual 66, 3) := by decide +kernel
theorem dX4_times_27 : decode cX4_times 27 = .ok (.ifCond .ne 5, 3) := by decide +kernel
theorem dX4_times_30 : decode cX4_times 30 = .ok (.iconst (-1), 1) := by decide +kernel
theorem dX4_times_31 : decode cX4_times 31 = .ok (.ireturn, 1) := by decide +kernel
theorem dX4_times_32 : decode cX4_times 32 = .ok (.aload 4, 2) := by decide +kernel
theorem dX4_times_34 : decode cX4_times 34 = .ok (.iload_n 2, 1) := by decide +kernel
theorem dX4_times_35 : decode cX4_times 35 = .ok (.iload_n 3, 1) := by decide +kernel
theorem dX4_times_36 : decode cX4_times 36 = .ok (.invokevirtual 74, 3) := by decide +kernel
theorem dX4_times_39 : decode cX4_times 39 = .ok (.ireturn, 1) := by decide +kernel
theorem dX4_over_0 : decode cX4_over 0 = .ok (.aload_n 0, 1) := by decide +kernel
theorem dX4_over_1 : decode cX4_over 1 = .ok (.iload_n 1, 1) := by decide +kernel
theorem dX4_over_2 : decode cX4_over 2 = .ok (.invokevirtual 56, 3) := by decide +kernel
theorem dX4_over_5 : decode cX4_over 5 = .ok (.astore_n 3, 1) := by decide +kernel
theorem dX4_over_6 : decode cX4_over 6 = .ok (.aload_n 3, 1) := by decide +kernel
theorem dX4_over_7 : decode cX4_over 7 = .ok (.ifnull 11, 3) := by decide +kernel
theorem dX4_over_10 : decode cX4_over 10 = .ok (.aload_n 3, 1) := by decide +kernel
theorem dX4_over_11 : decode cX4_over 11 = .ok (.iload_n 2, 1) := by decide +kernel
theorem dX4_over_12 : decode cX4_over 12 = .ok (.invokevirtual 66, 3) := by decide +kernel
theorem dX4_over_15 : decode cX4_over 15 = .ok (.ifCond .ne 5, 3) := by decide +kernel
theorem dX4_over_18 : decode cX4_over 18 = .ok (.iconst (-1), 1) := by decide +kernel
theorem dX4_over_19 : decode cX4_over 19 = .ok (.ireturn, 1) := by decide +kernel
theorem dX4_over_20 : decode cX4_over 20 = .ok (.iload_n 2, 1) := by decide +kernel
theorem dX4_over_21 : decode cX4_over 21 = .ok (.ifCond .ne 8, 3) := by decide +kernel
theorem dX4_over_24 : decode cX4_over 24 = .ok (.bipush (-2), 2) := by decide +kernel
theorem dX4_over_26 : decode cX4_over 26 = .ok (.goto 14, 3) := by decide +kernel
theorem dX4_over_29 : decode cX4_over 29 = .ok (.aload_n 3, 1) := by decide +kernel
theorem dX4_over_30 : decode cX4_over 30 = .ok (.iload_n 2, 1) := by decide +kernel
theorem dX4_over_31 : decode cX4_over 31 = .ok (.aload_n 3, 1) := by decide +kernel
theorem dX4_over_32 : decode cX4_over 32 = .ok (.getfield 77, 3) := by decide +kernel
theorem dX4_over_35 : decode cX4_over 35 = .ok (.iconst 1, 1) := by decide +kernel
theorem dX4_over_36 : decode cX4_over 36 = .ok (.isub, 1) := by decide +kernel
theorem dX4_over_37 : decode cX4_over 37 = .ok (.invokevirtual 80, 3) := by decide +kernel
theorem dX4_over_40 : decode cX4_over 40 = .ok (.ireturn, 1) := by decide +kernel
theorem dX4_raise_0 : decode cX4_raise 0 = .ok (.aload_n 0, 1) := by decide +kernel
theorem dX4_raise_1 : decode cX4_raise 1 = .ok (.iload_n 1, 1) := by decide +kernel
theorem dX4_raise_2 : decode cX4_raise 2 = .ok (.invokevirtual 56, 3) := by decide +kernel
theorem dX4_raise_5 : decode cX4_raise 5 = .ok (.astore 4, 2) := by decide +kernel
theorem dX4_raise_7 : decode cX4_raise 7 = .ok (.aload 4, 2) := by decide +kernel
theorem dX4_raise_9 : decode cX4_raise 9 = .ok (.ifnull 16, 3) := by decide +kernel
theorem dX4_raise_12 : decode cX4_raise 12 = .ok (.aload 4, 2) := by decide +kernel
theorem dX4_raise_14 : decode cX4_raise 14 = .ok (.iload_n 2, 1) := by decide +kernel
theorem dX4_raise_15 : decode cX4_raise 15 = .ok (.invokevirtual 66, 3) := by decide +kernel
theorem dX4_raise_18 : decode cX4_raise 18 = .ok (.ifCond .eq 7, 3) := by decide +kernel
theorem dX4_raise_21 : decode cX4_raise 21 = .ok (.iload_n 3, 1) := by decide +kernel
theorem dX4_raise_22 : decode cX4_raise 22 = .ok (.ifCond .ge 5, 3) := by decide +kernel
theorem dX4_raise_25 : decode cX4_raise 25 = .ok (.iconst (-1), 1) := by decide +kernel
theorem dX4_raise_26 : decode cX4_raise 26 = .ok (.ireturn, 1) := by decide +kernel
theorem dX4_raise_27 : decode cX4_raise 27 = .ok (.aload 4, 2) := by decide +kernel
theorem dX4_raise_29 : decode cX4_raise 29 = .ok (.iload_n 2, 1) := by decide +kernel
theorem dX4_raise_30 : decode cX4_raise 30 = .ok (.iload_n 3, 1) := by decide +kernel
theorem dX4_raise_31 : decode cX4_raise 31 = .ok (.invokevirtual 80, 3) := by decide +kernel
theorem dX4_raise_34 : decode cX4_raise 34 = .ok (.ireturn, 1) := by decide +kernel
theorem dX4_sign_0 : decode cX4_sign 0 = .ok (.aload_n 0, 1) := by decide +kernel
theorem dX4_sign_1 : decode cX4_sign 1 = .ok (.iload_n 1, 1) := by decide +kernel
theorem dX4_sign_2 : decode cX4_sign 2 = .ok (.invokevirtual 56, 3) := by decide +kernel
theorem dX4_sign_5 : decode cX4_sign 5 = .ok (.astore_n 3, 1) := by decide +kernel
theorem dX4_sign_6 : decode cX4_sign 6 = .ok (.aload_n 3, 1) := by decide +kernel
theorem dX4_sign_7 : decode cX4_sign 7 = .ok (.ifnull 11, 3) := by decide +kernel
theorem dX4_sign_10 : decode cX4_sign 10 = .ok (.aload_n 3, 1) := by decide +kernel
theorem dX4_sign_11 : decode cX4_sign 11 = .ok (.iload_n 2, 1) := by decide +kernel
theorem dX4_sign_12 : decode cX4_sign 12 = .ok (.invokevirtual 66, 3) := by decide +kernel
theorem dX4_sign_15 : decode cX4_sign 15 = .ok (.ifCond .ne 6, 3) := by decide +kernel
theorem dX4_sign_18 : decode cX4_sign 18 = .ok (.ldc 83, 2) := by decide +kernel
theorem dX4_sign_20 : decode cX4_sign 20 = .ok (.ireturn, 1) := by decide +kernel
theorem dX4_sign_21 : decode cX4_sign 21 = .ok (.aload_n 3, 1) := by decide +kernel
theorem dX4_sign_22 : decode cX4_sign 22 = .ok (.iload_n 2, 1) := by decide +kernel
theorem dX4_sign_23 : decode cX4_sign 23 = .ok (.invokevirtual 84, 3) := by decide +kernel
theorem dX4_sign_26 : decode cX4_sign 26 = .ok (.ireturn, 1) := by decide +kernel
theorem dX4_turns_0 : decode cX4_turns 0 = .ok (.aload_n 0, 1) := by decide +kernel
theorem dX4_turns_1 : decode cX4_turns 1 = .ok (.iload_n 1, 1) := by decide +kernel
theorem dX4_turns_2 : decode cX4_turns 2 = .ok (.invokevirtual 56, 3) := by decide +kernel
theorem dX4_turns_5 : decode cX4_turns 5 = .ok (.astore_n 3, 1) := by decide +kernel
theorem dX4_turns_6 : decode cX4_turns 6 = .ok (.aload_n 3, 1) := by decide +kernel
theorem dX4_turns_7 : decode cX4_turns 7 = .ok (.ifnull 11, 3) := by decide +kernel
theorem dX4_turns_10 : decode cX4_turns 10 = .ok (.aload_n 3, 1) := by decide +kernel
theorem dX4_turns_11 : decode cX4_turns 11 = .ok (.iload_n 2, 1) := by decide +kernel
theorem dX4_turns_12 : decode cX4_turns 12 = .ok (.invokevirtual 66, 3) := by decide +kernel
theorem dX4_turns_15 : decode cX4_turns 15 = .ok (.ifCond .ne 5, 3) := by decide +kernel
theorem dX4_turns_18 : decode cX4_turns 18 = .ok (.iconst (-1), 1) := by decide +kernel
theorem dX4_turns_19 : decode cX4_turns 19 = .ok (.ireturn, 1) := by decide +kernel
theorem dX4_turns_20 : decode cX4_turns 20 = .ok (.iload_n 2, 1) := by decide +kernel
theorem dX4_turns_21 : decode cX4_turns 21 = .ok (.ifCond .ne 8, 3) := by decide +kernel
theorem dX4_turns_24 : decode cX4_turns 24 = .ok (.bipush (-2), 2) := by decide +kernel
theorem dX4_turns_26 : decode cX4_turns 26 = .ok (.goto 8, 3) := by decide +kernel
theorem dX4_turns_29 : decode cX4_turns 29 = .ok (.aload_n 3, 1) := by decide +kernel
theorem dX4_turns_30 : decode cX4_turns 30 = .ok (.iload_n 2, 1) := by decide +kernel
theorem dX4_turns_31 : decode cX4_turns 31 = .ok (.invokevirtual 88, 3) := by decide +kernel
theorem dX4_turns_34 : decode cX4_turns 34 = .ok (.ireturn, 1) := by decide +kernel
theorem dX4_trace_0 : decode cX4_trace 0 = .ok (.aload_n 0, 1) := by decide +kernel
theorem dX4_trace_1 : decode cX4_trace 1 = .ok (.iload_n 1, 1) := by decide +kernel
theorem dX4_trace_2 : decode cX4_trace 2 = .ok (.invokevirtual 56, 3) := by decide +kernel
theorem dX4_trace_5 : decode cX4_trace 5 = .ok (.astore_n 3, 1) := by decide +kernel
theorem dX4_trace_6 : decode cX4_trace 6 = .ok (.aload_n 3, 1) := by decide +kernel
theorem dX4_trace_7 : decode cX4_trace 7 = .ok (.ifnull 11, 3) := by decide +kernel
theorem dX4_trace_10 : decode cX4_trace 10 = .ok (.aload_n 3, 1) := by decide +kernel
theorem dX4_trace_11 : decode cX4_trace 11 = .ok (.iload_n 2, 1) := by decide +kernel
theorem dX4_trace_12 : decode cX4_trace 12 = .ok (.invokevirtual 66, 3) := by decide +kernel
theorem dX4_trace_15 : decode cX4_trace 15 = .ok (.ifCond .ne 5, 3) := by decide +kernel
theorem dX4_trace_18 : decode cX4_trace 18 = .ok (.iconst (-1), 1) := by decide +kernel
theorem dX4_trace_19 : decode cX4_trace 19 = .ok (.ireturn, 1) := by decide +kernel
theorem dX4_trace_20 : decode cX4_trace 20 = .ok (.iconst 0, 1) := by decide +kernel
theorem dX4_trace_21 : decode cX4_trace 21 = .ok (.istore 4, 2) := by decide +kernel
theorem dX4_trace_23 : decode cX4_trace 23 = .ok (.iload_n 2, 1) := by decide +kernel
theorem dX4_trace_24 : decode cX4_trace 24 = .ok (.istore 5, 2) := by decide +kernel
theorem dX4_trace_26 : decode cX4_trace 26 = .ok (.iconst 0, 1) := by decide +kernel
theorem dX4_trace_27 : decode cX4_trace 27 = .ok (.istore 6, 2) := by decide +kernel
theorem dX4_trace_29 : decode cX4_trace 29 = .ok (.iload 6, 2) := by decide +kernel
theorem dX4_trace_31 : decode cX4_trace 31 = .ok (.iload_n 1, 1) := by decide +kernel
theorem dX4_trace_32 : decode cX4_trace 32 = .ok (.if_icmp .ge 37, 3) := by decide +kernel
theorem dX4_trace_35 : decode cX4_trace 35 = .ok (.aload_n 0, 1) := by decide +kernel
theorem dX4_trace_36 : decode cX4_trace 36 = .ok (.getfield 10, 3) := by decide +kernel
theorem dX4_trace_39 : decode cX4_trace 39 = .ok (.iload 4, 2) := by decide +kernel
theorem dX4_trace_41 : decode cX4_trace 41 = .ok (.iload 5, 2) := by decide +kernel
theorem dX4_trace_43 : decode cX4_trace 43 = .ok (.invokevirtual 70, 3) := by decide +kernel
theorem dX4_trace_46 : decode cX4_trace 46 = .ok (.istore 4, 2) := by decide +kernel
theorem dX4_trace_48 : decode cX4_trace 48 = .ok (.aload_n 3, 1) := by decide +kernel
theorem dX4_trace_49 : decode cX4_trace 49 = .ok (.iload 5, 2) := by decide +kernel
theorem dX4_trace_51 : decode cX4_trace 51 = .ok (.aload_n 0, 1) := by decide +kernel
theorem dX4_trace_52 : decode cX4_trace 52 = .ok (.getfield 10, 3) := by decide +kernel
theorem dX4_trace_55 : decode cX4_trace 55 = .ok (.getfield 91, 3) := by decide +kernel
theorem dX4_trace_58 : decode cX4_trace 58 = .ok (.invokevirtual 80, 3) := by decide +kernel
theorem dX4_trace_61 : decode cX4_trace 61 = .ok (.istore 5, 2) := by decide +kernel
theorem dX4_trace_63 : decode cX4_trace 63 = .ok (.iinc 6 1, 3) := by decide +kernel
theorem dX4_trace_66 : decode cX4_trace 66 = .ok (.goto (-37), 3) := by decide +kernel
theorem dX4_trace_69 : decode cX4_trace 69 = .ok (.iload 4, 2) := by decide +kernel
theorem dX4_trace_71 : decode cX4_trace 71 = .ok (.ireturn, 1) := by decide +kernel
theorem dX4_forms_0 : decode cX4_forms 0 = .ok (.aload_n 0, 1) := by decide +kernel
theorem dX4_forms_1 : decode cX4_forms 1 = .ok (.iload_n 1, 1) := by decide +kernel
theorem dX4_forms_2 : decode cX4_forms 2 = .ok (.invokevirtual 56, 3) := by decide +kernel
theorem dX4_forms_5 : decode cX4_forms 5 = .ok (.astore 5, 2) := by decide +kernel
theorem dX4_forms_7 : decode cX4_forms 7 = .ok (.aload 5, 2) := by decide +kernel
theorem dX4_forms_9 : decode cX4_forms 9 = .ok (.ifnull 31, 3) := by decide +kernel
theorem dX4_forms_12 : decode cX4_forms 12 = .ok (.aload 5, 2) := by decide +kernel
theorem dX4_forms_14 : decode cX4_forms 14 = .ok (.iload_n 2, 1) := by decide +kernel
theorem dX4_forms_15 : decode cX4_forms 15 = .ok (.invokevirtual 66, 3) := by decide +kernel
theorem dX4_forms_18 : decode cX4_forms 18 = .ok (.ifCond .eq 22, 3) := by decide +kernel
theorem dX4_forms_21 : decode cX4_forms 21 = .ok (.aload 5, 2) := by decide +kernel
theorem dX4_forms_23 : decode cX4_forms 23 = .ok (.iload_n 3, 1) := by decide +kernel
theorem dX4_forms_24 : decode cX4_forms 24 = .ok (.invokevirtual 66, 3) := by decide +kernel
theorem dX4_forms_27 : decode cX4_forms 27 = .ok (.ifCond .eq 13, 3) := by decide +kernel
theorem dX4_forms_30 : decode cX4_forms 30 = .ok (.aload 5, 2) := by decide +kernel
theorem dX4_forms_32 : decode cX4_forms 32 = .ok (.iload 4, 2) := by decide +kernel
theorem dX4_forms_34 : decode cX4_forms 34 = .ok (.invokevirtual 66, 3) := by decide +kernel
theorem dX4_forms_37 : decode cX4_forms 37 = .ok (.ifCond .ne 5, 3) := by decide +kernel
theorem dX4_forms_40 : decode cX4_forms 40 = .ok (.iconst (-1), 1) := by decide +kernel
theorem dX4_forms_41 : decode cX4_forms 41 = .ok (.ireturn, 1) := by decide +kernel
theorem dX4_forms_42 : decode cX4_forms 42 = .ok (.aload_n 0, 1) := by decide +kernel
theorem dX4_forms_43 : decode cX4_forms 43 = .ok (.getfield 28, 3) := by decide +kernel
theorem dX4_forms_46 : decode cX4_forms 46 = .ok (.iconst 0, 1) := by decide +kernel
theorem dX4_forms_47 : decode cX4_forms 47 = .ok (.invokestatic 94, 3) := by decide +kernel
theorem dX4_forms_50 : decode cX4_forms 50 = .ok (.iconst 0, 1) := by decide +kernel
theorem dX4_forms_51 : decode cX4_forms 51 = .ok (.istore 6, 2) := by decide +kernel
theorem dX4_forms_53 : decode cX4_forms 53 = .ok (.iload 6, 2) := by decide +kernel
theorem dX4_forms_55 : decode cX4_forms 55 = .ok (.aload 5, 2) := by decide +kernel
theorem dX4_forms_57 : decode cX4_forms 57 = .ok (.getfield 60, 3) := by decide +kernel
theorem dX4_forms_60 : decode cX4_forms 60 = .ok (.if_icmp .ge 46, 3) := by decide +kernel
theorem dX4_forms_63 : decode cX4_forms 63 = .ok (.aload 5, 2) := by decide +kernel
theorem dX4_forms_65 : decode cX4_forms 65 = .ok (.iload_n 2, 1) := by decide +kernel
theorem dX4_forms_66 : decode cX4_forms 66 = .ok (.aload 5, 2) := by decide +kernel
theorem dX4_forms_68 : decode cX4_forms 68 = .ok (.iload 6, 2) := by decide +kernel
theorem dX4_forms_70 : decode cX4_forms 70 = .ok (.iload 6, 2) := by decide +kernel
theorem dX4_forms_72 : decode cX4_forms 72 = .ok (.invokevirtual 74, 3) := by decide +kernel
theorem dX4_forms_75 : decode cX4_forms 75 = .ok (.invokevirtual 74, 3) := by decide +kernel
theorem dX4_forms_78 : decode cX4_forms 78 = .ok (.istore 7, 2) := by decide +kernel
theorem dX4_forms_80 : decode cX4_forms 80 = .ok (.aload_n 0, 1) := by decide +kernel
theorem dX4_forms_81 : decode cX4_forms 81 = .ok (.getfield 28, 3) := by decide +kernel
theorem dX4_forms_84 : decode cX4_forms 84 = .ok (.iload 7, 2) := by decide +kernel
theorem dX4_forms_86 : decode cX4_forms 86 = .ok (.aload_n 0, 1) := by decide +kernel
theorem dX4_forms_87 : decode cX4_forms 87 = .ok (.getfield 28, 3) := by decide +kernel
theorem dX4_forms_90 : decode cX4_forms 90 = .ok (.iload 7, 2) := by decide +kernel
theorem dX4_forms_92 : decode cX4_forms 92 = .ok (.invokestatic 100, 3) := by decide +kernel
theorem dX4_forms_95 : decode cX4_forms 95 = .ok (.iconst 1, 1) := by decide +kernel
theorem dX4_forms_96 : decode cX4_forms 96 = .ok (.iadd, 1) := by decide +kernel
theorem dX4_forms_97 : decode cX4_forms 97 = .ok (.invokestatic 104, 3) := by decide +kernel
theorem dX4_forms_100 : decode cX4_forms 100 = .ok (.iinc 6 1, 3) := by decide +kernel
theorem dX4_forms_103 : decode cX4_forms 103 = .ok (.goto (-50), 3) := by decide +kernel
theorem dX4_forms_106 : decode cX4_forms 106 = .ok (.iconst 0, 1) := by decide +kernel
theorem dX4_forms_107 : decode cX4_forms 107 = .ok (.istore 6, 2) := by decide +kernel
theorem dX4_forms_109 : decode cX4_forms 109 = .ok (.iconst 0, 1) := by decide +kernel
theorem dX4_forms_110 : decode cX4_forms 110 = .ok (.istore 7, 2) := by decide +kernel
theorem dX4_forms_112 : decode cX4_forms 112 = .ok (.iload 7, 2) := by decide +kernel
theorem dX4_forms_114 : decode cX4_forms 114 = .ok (.aload 5, 2) := by decide +kernel
theorem dX4_forms_116 : decode cX4_forms 116 = .ok (.getfield 60, 3) := by decide +kernel
theorem dX4_forms_119 : decode cX4_forms 119 = .ok (.if_icmp .ge 45, 3) := by decide +kernel
theorem dX4_forms_122 : decode cX4_forms 122 = .ok (.iload 6, 2) := by decide +kernel
theorem dX4_forms_124 : decode cX4_forms 124 = .ok (.aload_n 0, 1) := by decide +kernel
theorem dX4_forms_125 : decode cX4_forms 125 = .ok (.getfield 28, 3) := by decide +kernel
theorem dX4_forms_128 : decode cX4_forms 128 = .ok (.aload_n 0, 1) := by decide +kernel
theorem dX4_forms_129 : decode cX4_forms 129 = .ok (.getfield 10, 3) := by decide +kernel
theorem dX4_forms_132 : decode cX4_forms 132 = .ok (.iload 4, 2) := by decide +kernel
theorem dX4_forms_134 : decode cX4_forms 134 = .ok (.aload 5, 2) := by decide +kernel
theorem dX4_forms_136 : decode cX4_forms 136 = .ok (.iload_n 3, 1) := by decide +kernel
theorem dX4_forms_137 : decode cX4_forms 137 = .ok (.aload 5, 2) := by decide +kernel
theorem dX4_forms_139 : decode cX4_forms 139 = .ok (.iload 7, 2) := by decide +kernel
theorem dX4_forms_141 : decode cX4_forms 141 = .ok (.iload 7, 2) := by decide +kernel
theorem dX4_forms_143 : decode cX4_forms 143 = .ok (.invokevirtual 74, 3) := by decide +kernel
theorem dX4_forms_146 : decode cX4_forms 146 = .ok (.invokevirtual 74, 3) := by decide +kernel
theorem dX4_forms_149 : decode cX4_forms 149 = .ok (.invokevirtual 108, 3) := by decide +kernel
theorem dX4_forms_152 : decode cX4_forms 152 = .ok (.invokestatic 100, 3) := by decide +kernel
theorem dX4_forms_155 : decode cX4_forms 155 = .ok (.iadd, 1) := by decide +kernel
theorem dX4_forms_156 : decode cX4_forms 156 = .ok (.istore 6, 2) := by decide +kernel
theorem dX4_forms_158 : decode cX4_forms 158 = .ok (.iinc 7 1, 3) := by decide +kernel
theorem dX4_forms_161 : decode cX4_forms 161 = .ok (.goto (-49), 3) := by decide +kernel
theorem dX4_forms_164 : decode cX4_forms 164 = .ok (.iload 6, 2) := by decide +kernel
theorem dX4_forms_166 : decode cX4_forms 166 = .ok (.ireturn, 1) := by decide +kernel
theorem dX4_curve_0 : decode cX4_curve 0 = .ok (.iload_n 1, 1) := by decide +kernel
theorem dX4_curve_1 : decode cX4_curve 1 = .ok (.ifCond .lt 16, 3) := by decide +kernel
theorem dX4_curve_4 : decode cX4_curve 4 = .ok (.iload_n 1, 1) := by decide +kernel
theorem dX4_curve_5 : decode cX4_curve 5 = .ok (.iconst 2, 1) := by decide +kernel
theorem dX4_curve_6 : decode cX4_curve 6 = .ok (.if_icmp .gt 11, 3) := by decide +kernel
theorem dX4_curve_9 : decode cX4_curve 9 = .ok (.aload_n 0, 1) := by decide +kernel
theorem dX4_curve_10 : decode cX4_curve 10 = .ok (.iload_n 2, 1) := by decide +kernel
theorem dX4_curve_11 : decode cX4_curve 11 = .ok (.invokevirtual 111, 3) := by decide +kernel
theorem dX4_curve_14 : decode cX4_curve 14 = .ok (.ifCond .ne 5, 3) := by decide +kernel
theorem dX4_curve_17 : decode cX4_curve 17 = .ok (.iconst (-1), 1) := by decide +kernel
theorem dX4_curve_18 : decode cX4_curve 18 = .ok (.ireturn, 1) := by decide +kernel
theorem dX4_curve_19 : decode cX4_curve 19 = .ok (.iload_n 1, 1) := by decide +kernel
theorem dX4_curve_20 : decode cX4_curve 20 = .ok (.iconst 2, 1) := by decide +kernel
theorem dX4_curve_21 : decode cX4_curve 21 = .ok (.if_icmp .ne 20, 3) := by decide +kernel
theorem dX4_curve_24 : decode cX4_curve 24 = .ok (.iload_n 3, 1) := by decide +kernel
theorem dX4_curve_25 : decode cX4_curve 25 = .ok (.ifCond .lt 14, 3) := by decide +kernel
theorem dX4_curve_28 : decode cX4_curve 28 = .ok (.iload_n 3, 1) := by decide +kernel
theorem dX4_curve_29 : decode cX4_curve 29 = .ok (.aload_n 0, 1) := by decide +kernel
theorem dX4_curve_30 : decode cX4_curve 30 = .ok (.getfield 10, 3) := by decide +kernel
theorem dX4_curve_33 : decode cX4_curve 33 = .ok (.getfield 91, 3) := by decide +kernel
theorem dX4_curve_36 : decode cX4_curve 36 = .ok (.if_icmp .lt 5, 3) := by decide +kernel
theorem dX4_curve_39 : decode cX4_curve 39 = .ok (.iconst (-1), 1) := by decide +kernel
theorem dX4_curve_40 : decode cX4_curve 40 = .ok (.ireturn, 1) := by decide +kernel
theorem dX4_curve_41 : decode cX4_curve 41 = .ok (.aload_n 0, 1) := by decide +kernel
theorem dX4_curve_42 : decode cX4_curve 42 = .ok (.getfield 10, 3) := by decide +kernel
theorem dX4_curve_45 : decode cX4_curve 45 = .ok (.iload_n 2, 1) := by decide +kernel
theorem dX4_curve_46 : decode cX4_curve 46 = .ok (.invokevirtual 114, 3) := by decide +kernel
theorem dX4_curve_49 : decode cX4_curve 49 = .ok (.istore 4, 2) := by decide +kernel
theorem dX4_curve_51 : decode cX4_curve 51 = .ok (.aload_n 0, 1) := by decide +kernel
theorem dX4_curve_52 : decode cX4_curve 52 = .ok (.getfield 10, 3) := by decide +kernel
theorem dX4_curve_55 : decode cX4_curve 55 = .ok (.iload 4, 2) := by decide +kernel
theorem dX4_curve_57 : decode cX4_curve 57 = .ok (.invokevirtual 117, 3) := by decide +kernel
theorem dX4_curve_60 : decode cX4_curve 60 = .ok (.ifCond .le 12, 3) := by decide +kernel
theorem dX4_curve_63 : decode cX4_curve 63 = .ok (.aload_n 0, 1) := by decide +kernel
theorem dX4_curve_64 : decode cX4_curve 64 = .ok (.iload 4, 2) := by decide +kernel
theorem dX4_curve_66 : decode cX4_curve 66 = .ok (.putfield 36, 3) := by decide +kernel
theorem dX4_curve_69 : decode cX4_curve 69 = .ok (.bipush (-2), 2) := by decide +kernel
theorem dX4_curve_71 : decode cX4_curve 71 = .ok (.ireturn, 1) := by decide +kernel
theorem dX4_curve_72 : decode cX4_curve 72 = .ok (.aload_n 0, 1) := by decide +kernel
theorem dX4_curve_73 : decode cX4_curve 73 = .ok (.bipush (-9), 2) := by decide +kernel
theorem dX4_curve_75 : decode cX4_curve 75 = .ok (.putfield 36, 3) := by decide +kernel
theorem dX4_curve_78 : decode cX4_curve 78 = .ok (.aload_n 0, 1) := by decide +kernel
theorem dX4_curve_79 : decode cX4_curve 79 = .ok (.getfield 120, 3) := by decide +kernel
theorem dX4_curve_82 : decode cX4_curve 82 = .ok (.aload_n 0, 1) := by decide +kernel
theorem dX4_curve_83 : decode cX4_curve 83 = .ok (.getfield 24, 3) := by decide +kernel
theorem dX4_curve_86 : decode cX4_curve 86 = .ok (.arraylength, 1) := by decide +kernel
theorem dX4_curve_87 : decode cX4_curve 87 = .ok (.if_icmp .lt 6, 3) := by decide +kernel
theorem dX4_curve_90 : decode cX4_curve 90 = .ok (.bipush (-3), 2) := by decide +kernel
theorem dX4_curve_92 : decode cX4_curve 92 = .ok (.ireturn, 1) := by decide +kernel
theorem dX4_curve_93 : decode cX4_curve 93 = .ok (.aload_n 0, 1) := by decide +kernel
theorem dX4_curve_94 : decode cX4_curve 94 = .ok (.getfield 24, 3) := by decide +kernel
theorem dX4_curve_97 : decode cX4_curve 97 = .ok (.aload_n 0, 1) := by decide +kernel
theorem dX4_curve_98 : decode cX4_curve 98 = .ok (.getfield 120, 3) := by decide +kernel
theorem dX4_curve_101 : decode cX4_curve 101 = .ok (.aaload, 1) := by decide +kernel
theorem dX4_curve_102 : decode cX4_curve 102 = .ok (.iload_n 1, 1) := by decide +kernel
theorem dX4_curve_103 : decode cX4_curve 103 = .ok (.iload_n 2, 1) := by decide +kernel
theorem dX4_curve_104 : decode cX4_curve 104 = .ok (.iload_n 3, 1) := by decide +kernel
theorem dX4_curve_105 : decode cX4_curve 105 = .ok (.aload_n 0, 1) := by decide +kernel
theorem dX4_curve_106 : decode cX4_curve 106 = .ok (.getfield 123, 3) := by decide +kernel
theorem dX4_curve_109 : decode cX4_curve 109 = .ok (.invokevirtual 126, 3) := by decide +kernel
theorem dX4_curve_112 : decode cX4_curve 112 = .ok (.aload_n 0, 1) := by decide +kernel
theorem dX4_curve_113 : decode cX4_curve 113 = .ok (.dup, 1) := by decide +kernel
theorem dX4_curve_114 : decode cX4_curve 114 = .ok (.getfield 120, 3) := by decide +kernel
theorem dX4_curve_117 : decode cX4_curve 117 = .ok (.iconst 1, 1) := by decide +kernel
theorem dX4_curve_118 : decode cX4_curve 118 = .ok (.iadd, 1) := by decide +kernel
theorem dX4_curve_119 : decode cX4_curve 119 = .ok (.putfield 120, 3) := by decide +kernel
theorem dX4_curve_122 : decode cX4_curve 122 = .ok (.aload_n 0, 1) := by decide +kernel
theorem dX4_curve_123 : decode cX4_curve 123 = .ok (.getfield 120, 3) := by decide +kernel
theorem dX4_curve_126 : decode cX4_curve 126 = .ok (.iconst 1, 1) := by decide +kernel
theorem dX4_curve_127 : decode cX4_curve 127 = .ok (.isub, 1) := by decide +kernel
theorem dX4_curve_128 : decode cX4_curve 128 = .ok (.ireturn, 1) := by decide +kernel
theorem dX4_knot_0 : decode cX4_knot 0 = .ok (.aload_n 0, 1) := by decide +kernel
theorem dX4_knot_1 : decode cX4_knot 1 = .ok (.getfield 36, 3) := by decide +kernel
theorem dX4_knot_4 : decode cX4_knot 4 = .ok (.ireturn, 1) := by decide +kernel
theorem dX4_about_0 : decode cX4_about 0 = .ok (.aload_n 0, 1) := by decide +kernel
theorem dX4_about_1 : decode cX4_about 1 = .ok (.iload_n 1, 1) := by decide +kernel
theorem dX4_about_2 : decode cX4_about 2 = .ok (.invokevirtual 130, 3) := by decide +kernel
theorem dX4_about_5 : decode cX4_about 5 = .ok (.astore_n 3, 1) := by decide +kernel
theorem dX4_about_6 : decode cX4_about 6 = .ok (.aload_n 3, 1) := by decide +kernel
theorem dX4_about_7 : decode cX4_about 7 = .ok (.ifnonnull 5, 3) := by decide +kernel
theorem dX4_about_10 : decode cX4_about 10 = .ok (.iconst (-1), 1) := by decide +kernel
theorem dX4_about_11 : decode cX4_about 11 = .ok (.ireturn, 1) := by decide +kernel
theorem dX4_about_12 : decode cX4_about 12 = .ok (.iload_n 2, 1) := by decide +kernel
theorem dX4_about_13 : decode cX4_about 13 = .ok (.tableswitch 69 0 5 #[39, 44, 49, 54, 59, 64], 39) := by decide +kernel
theorem dX4_about_52 : decode cX4_about 52 = .ok (.aload_n 3, 1) := by decide +kernel
theorem dX4_about_53 : decode cX4_about 53 = .ok (.getfield 134, 3) := by decide +kernel
theorem dX4_about_56 : decode cX4_about 56 = .ok (.ireturn, 1) := by decide +kernel
theorem dX4_about_57 : decode cX4_about 57 = .ok (.aload_n 3, 1) := by decide +kernel
theorem dX4_about_58 : decode cX4_about 58 = .ok (.getfield 137, 3) := by decide +kernel
theorem dX4_about_61 : decode cX4_about 61 = .ok (.ireturn, 1) := by decide +kernel
theorem dX4_about_62 : decode cX4_about 62 = .ok (.aload_n 3, 1) := by decide +kernel
theorem dX4_about_63 : decode cX4_about 63 = .ok (.getfield 140, 3) := by decide +kernel
theorem dX4_about_66 : decode cX4_about 66 = .ok (.ireturn, 1) := by decide +kernel
theorem dX4_about_67 : decode cX4_about 67 = .ok (.aload_n 3, 1) := by decide +kernel
theorem dX4_about_68 : decode cX4_about 68 = .ok (.getfield 143, 3) := by decide +kernel
theorem dX4_about_71 : decode cX4_about 71 = .ok (.ireturn, 1) := by decide +kernel
theorem dX4_about_72 : decode cX4_about 72 = .ok (.aload_n 3, 1) := by decide +kernel
theorem dX4_about_73 : decode cX4_about 73 = .ok (.getfield 145, 3) := by decide +kernel
theorem dX4_about_76 : decode cX4_about 76 = .ok (.ireturn, 1) := by decide +kernel
theorem dX4_about_77 : decode cX4_about 77 = .ok (.aload_n 3, 1) := by decide +kernel
theorem dX4_about_78 : decode cX4_about 78 = .ok (.getfield 148, 3) := by decide +kernel
theorem dX4_about_81 : decode cX4_about 81 = .ok (.ireturn, 1) := by decide +kernel
theorem dX4_about_82 : decode cX4_about 82 = .ok (.iconst (-1), 1) := by decide +kernel
theorem dX4_about_83 : decode cX4_about 83 = .ok (.ireturn, 1) := by decide +kernel
theorem dX4_value_0 : decode cX4_value 0 = .ok (.aload_n 0, 1) := by decide +kernel
theorem dX4_value_1 : decode cX4_value 1 = .ok (.iload_n 1, 1) := by decide +kernel
theorem dX4_value_2 : decode cX4_value 2 = .ok (.invokevirtual 130, 3) := by decide +kernel
theorem dX4_value_5 : decode cX4_value 5 = .ok (.astore 4, 2) := by decide +kernel
theorem dX4_value_7 : decode cX4_value 7 = .ok (.aload_n 0, 1) := by decide +kernel
theorem dX4_value_8 : decode cX4_value 8 = .ok (.iload_n 2, 1) := by decide +kernel
theorem dX4_value_9 : decode cX4_value 9 = .ok (.invokevirtual 56, 3) := by decide +kernel
theorem dX4_value_12 : decode cX4_value 12 = .ok (.astore 5, 2) := by decide +kernel
theorem dX4_value_14 : decode cX4_value 14 = .ok (.aload 4, 2) := by decide +kernel
theorem dX4_value_16 : decode cX4_value 16 = .ok (.ifnull 17, 3) := by decide +kernel
theorem dX4_value_19 : decode cX4_value 19 = .ok (.aload 5, 2) := by decide +kernel
theorem dX4_value_21 : decode cX4_value 21 = .ok (.ifnull 12, 3) := by decide +kernel
theorem dX4_value_24 : decode cX4_value 24 = .ok (.aload 5, 2) := by decide +kernel
theorem dX4_value_26 : decode cX4_value 26 = .ok (.iload_n 3, 1) := by decide +kernel
theorem dX4_value_27 : decode cX4_value 27 = .ok (.invokevirtual 66, 3) := by decide +kernel
theorem dX4_value_30 : decode cX4_value 30 = .ok (.ifCond .ne 5, 3) := by decide +kernel
theorem dX4_value_33 : decode cX4_value 33 = .ok (.iconst (-1), 1) := by decide +kernel
theorem dX4_value_34 : decode cX4_value 34 = .ok (.ireturn, 1) := by decide +kernel
theorem dX4_value_35 : decode cX4_value 35 = .ok (.aload_n 0, 1) := by decide +kernel
theorem dX4_value_36 : decode cX4_value 36 = .ok (.dup, 1) := by decide +kernel
theorem dX4_value_37 : decode cX4_value 37 = .ok (.getfield 151, 3) := by decide +kernel
theorem dX4_value_40 : decode cX4_value 40 = .ok (.getstatic 155, 3) := by decide +kernel
theorem dX4_value_43 : decode cX4_value 43 = .ok (.aload 4, 2) := by decide +kernel
theorem dX4_value_45 : decode cX4_value 45 = .ok (.getfield 134, 3) := by decide +kernel
theorem dX4_value_48 : decode cX4_value 48 = .ok (.invokestatic 100, 3) := by decide +kernel
theorem dX4_value_51 : decode cX4_value 51 = .ok (.i2l, 1) := by decide +kernel
theorem dX4_value_52 : decode cX4_value 52 = .ok (.ladd, 1) := by decide +kernel
theorem dX4_value_53 : decode cX4_value 53 = .ok (.putfield 151, 3) := by decide +kernel
theorem dX4_value_56 : decode cX4_value 56 = .ok (.aload 5, 2) := by decide +kernel
theorem dX4_value_58 : decode cX4_value 58 = .ok (.aload 4, 2) := by decide +kernel
theorem dX4_value_60 : decode cX4_value 60 = .ok (.getfield 148, 3) := by decide +kernel
theorem dX4_value_63 : decode cX4_value 63 = .ok (.iload_n 3, 1) := by decide +kernel
theorem dX4_value_64 : decode cX4_value 64 = .ok (.invokevirtual 158, 3) := by decide +kernel
theorem dX4_value_67 : decode cX4_value 67 = .ok (.ireturn, 1) := by decide +kernel
theorem dX4_count_0 : decode cX4_count 0 = .ok (.aload_n 0, 1) := by decide +kernel
theorem dX4_count_1 : decode cX4_count 1 = .ok (.iload_n 1, 1) := by decide +kernel
theorem dX4_count_2 : decode cX4_count 2 = .ok (.invokevirtual 130, 3) := by decide +kernel
theorem dX4_count_5 : decode cX4_count 5 = .ok (.astore_n 3, 1) := by decide +kernel
theorem dX4_count_6 : decode cX4_count 6 = .ok (.aload_n 0, 1) := by decide +kernel
theorem dX4_count_7 : decode cX4_count 7 = .ok (.iload_n 2, 1) := by decide +kernel
theorem dX4_count_8 : decode cX4_count 8 = .ok (.invokevirtual 56, 3) := by decide +kernel
theorem dX4_count_11 : decode cX4_count 11 = .ok (.astore 4, 2) := by decide +kernel
theorem dX4_count_13 : decode cX4_count 13 = .ok (.aload_n 3, 1) := by decide +kernel
theorem dX4_count_14 : decode cX4_count 14 = .ok (.ifnull 8, 3) := by decide +kernel
theorem dX4_count_17 : decode cX4_count 17 = .ok (.aload 4, 2) := by decide +kernel
theorem dX4_count_19 : decode cX4_count 19 = .ok (.ifnonnull 5, 3) := by decide +kernel
theorem dX4_count_22 : decode cX4_count 22 = .ok (.iconst (-1), 1) := by decide +kernel
theorem dX4_count_23 : decode cX4_count 23 = .ok (.ireturn, 1) := by decide +kernel
theorem dX4_count_24 : decode cX4_count 24 = .ok (.aload 4, 2) := by decide +kernel
theorem dX4_count_26 : decode cX4_count 26 = .ok (.aload_n 3, 1) := by decide +kernel
theorem dX4_count_27 : decode cX4_count 27 = .ok (.getfield 148, 3) := by decide +kernel
theorem dX4_count_30 : decode cX4_count 30 = .ok (.invokevirtual 161, 3) := by decide +kernel
theorem dX4_count_33 : decode cX4_count 33 = .ok (.ireturn, 1) := by decide +kernel
theorem dX4_beyond_0 : decode cX4_beyond 0 = .ok (.aload_n 0, 1) := by decide +kernel
theorem dX4_beyond_1 : decode cX4_beyond 1 = .ok (.iload_n 1, 1) := by decide +kernel
theorem dX4_beyond_2 : decode cX4_beyond 2 = .ok (.invokevirtual 130, 3) := by decide +kernel
theorem dX4_beyond_5 : decode cX4_beyond 5 = .ok (.astore_n 3, 1) := by decide +kernel
theorem dX4_beyond_6 : decode cX4_beyond 6 = .ok (.aload_n 0, 1) := by decide +kernel
theorem dX4_beyond_7 : decode cX4_beyond 7 = .ok (.iload_n 2, 1) := by decide +kernel
theorem dX4_beyond_8 : decode cX4_beyond 8 = .ok (.invokevirtual 56, 3) := by decide +kernel
theorem dX4_beyond_11 : decode cX4_beyond 11 = .ok (.astore 4, 2) := by decide +kernel
theorem dX4_beyond_13 : decode cX4_beyond 13 = .ok (.aload_n 3, 1) := by decide +kernel
theorem dX4_beyond_14 : decode cX4_beyond 14 = .ok (.ifnull 8, 3) := by decide +kernel
theorem dX4_beyond_17 : decode cX4_beyond 17 = .ok (.aload 4, 2) := by decide +kernel
theorem dX4_beyond_19 : decode cX4_beyond 19 = .ok (.ifnonnull 5, 3) := by decide +kernel
theorem dX4_beyond_22 : decode cX4_beyond 22 = .ok (.iconst (-1), 1) := by decide +kernel
theorem dX4_beyond_23 : decode cX4_beyond 23 = .ok (.ireturn, 1) := by decide +kernel
theorem dX4_beyond_24 : decode cX4_beyond 24 = .ok (.aload 4, 2) := by decide +kernel
theorem dX4_beyond_26 : decode cX4_beyond 26 = .ok (.aload_n 3, 1) := by decide +kernel
theorem dX4_beyond_27 : decode cX4_beyond 27 = .ok (.getfield 148, 3) := by decide +kernel
theorem dX4_beyond_30 : decode cX4_beyond 30 = .ok (.invokevirtual 164, 3) := by decide +kernel
theorem dX4_beyond_33 : decode cX4_beyond 33 = .ok (.ireturn, 1) := by decide +kernel
theorem dX4_share_0 : decode cX4_share 0 = .ok (.aload_n 0, 1) := by decide +kernel
theorem dX4_share_1 : decode cX4_share 1 = .ok (.iload_n 1, 1) := by decide +kernel
theorem dX4_share_2 : decode cX4_share 2 = .ok (.invokevirtual 130, 3) := by decide +kernel
theorem dX4_share_5 : decode cX4_share 5 = .ok (.astore_n 3, 1) := by decide +kernel
theorem dX4_share_6 : decode cX4_share 6 = .ok (.aload_n 3, 1) := by decide +kernel
theorem dX4_share_7 : decode cX4_share 7 = .ok (.ifnull 17, 3) := by decide +kernel
theorem dX4_share_10 : decode cX4_share 10 = .ok (.iload_n 2, 1) := by decide +kernel
theorem dX4_share_11 : decode cX4_share 11 = .ok (.ifCond .lt 13, 3) := by decide +kernel
theorem dX4_share_14 : decode cX4_share 14 = .ok (.iload_n 2, 1) := by decide +kernel
theorem dX4_share_15 : decode cX4_share 15 = .ok (.iconst 2, 1) := by decide +kernel
theorem dX4_share_16 : decode cX4_share 16 = .ok (.aload_n 3, 1) := by decide +kernel
theorem dX4_share_17 : decode cX4_share 17 = .ok (.getfield 145, 3) := by decide +kernel
theorem dX4_share_20 : decode cX4_share 20 = .ok (.imul, 1) := by decide +kernel
theorem dX4_share_21 : decode cX4_share 21 = .ok (.if_icmp .le 6, 3) := by decide +kernel
theorem dX4_share_24 : decode cX4_share 24 = .ok (.ldc 83, 2) := by decide +kernel
theorem dX4_share_26 : decode cX4_share 26 = .ok (.ireturn, 1) := by decide +kernel
theorem dX4_share_27 : decode cX4_share 27 = .ok (.aload_n 0, 1) := by decide +kernel
theorem dX4_share_28 : decode cX4_share 28 = .ok (.aload_n 3, 1) := by decide +kernel
theorem dX4_share_29 : decode cX4_share 29 = .ok (.invokevirtual 167, 3) := by decide +kernel
theorem dX4_share_32 : decode cX4_share 32 = .ok (.iload_n 2, 1) := by decide +kernel
theorem dX4_share_33 : decode cX4_share 33 = .ok (.invokestatic 100, 3) := by decide +kernel
theorem dX4_share_36 : decode cX4_share 36 = .ok (.ireturn, 1) := by decide +kernel
theorem dX4_further_0 : decode cX4_further 0 = .ok (.aload_n 0, 1) := by decide +kernel
theorem dX4_further_1 : decode cX4_further 1 = .ok (.iload_n 1, 1) := by decide +kernel
theorem dX4_further_2 : decode cX4_further 2 = .ok (.invokevirtual 130, 3) := by decide +kernel
theorem dX4_further_5 : decode cX4_further 5 = .ok (.astore_n 3, 1) := by decide +kernel
theorem dX4_further_6 : decode cX4_further 6 = .ok (.aload_n 3, 1) := by decide +kernel
theorem dX4_further_7 : decode cX4_further 7 = .ok (.ifnull 14, 3) := by decide +kernel
theorem dX4_further_10 : decode cX4_further 10 = .ok (.iload_n 2, 1) := by decide +kernel
theorem dX4_further_11 : decode cX4_further 11 = .ok (.iconst 1, 1) := by decide +kernel
theorem dX4_further_12 : decode cX4_further 12 = .ok (.if_icmp .lt 9, 3) := by decide +kernel
theorem dX4_further_15 : decode cX4_further 15 = .ok (.iload_n 2, 1) := by decide +kernel
theorem dX4_further_16 : decode cX4_further 16 = .ok (.bipush 12, 2) := by decide +kernel
theorem dX4_further_18 : decode cX4_further 18 = .ok (.if_icmp .le 7, 3) := by decide +kernel
theorem dX4_further_21 : decode cX4_further 21 = .ok (.ldc2_w 171, 3) := by decide +kernel
theorem dX4_further_24 : decode cX4_further 24 = .ok (.lreturn, 1) := by decide +kernel
theorem dX4_further_25 : decode cX4_further 25 = .ok (.aload_n 0, 1) := by decide +kernel
theorem dX4_further_26 : decode cX4_further 26 = .ok (.aload_n 3, 1) := by decide +kernel
theorem dX4_further_27 : decode cX4_further 27 = .ok (.invokevirtual 167, 3) := by decide +kernel
theorem dX4_further_30 : decode cX4_further 30 = .ok (.astore 4, 2) := by decide +kernel
theorem dX4_further_32 : decode cX4_further 32 = .ok (.lconst 1, 1) := by decide +kernel
theorem dX4_further_33 : decode cX4_further 33 = .ok (.lstore 5, 2) := by decide +kernel
theorem dX4_further_35 : decode cX4_further 35 = .ok (.iconst 1, 1) := by decide +kernel
theorem dX4_further_36 : decode cX4_further 36 = .ok (.istore 7, 2) := by decide +kernel
theorem dX4_further_38 : decode cX4_further 38 = .ok (.iload 7, 2) := by decide +kernel
theorem dX4_further_40 : decode cX4_further 40 = .ok (.iload_n 2, 1) := by decide +kernel
theorem dX4_further_41 : decode cX4_further 41 = .ok (.if_icmp .gt 86, 3) := by decide +kernel
theorem dX4_further_44 : decode cX4_further 44 = .ok (.lload 5, 2) := by decide +kernel
theorem dX4_further_46 : decode cX4_further 46 = .ok (.aload_n 0, 1) := by decide +kernel
theorem dX4_further_47 : decode cX4_further 47 = .ok (.getfield 10, 3) := by decide +kernel
theorem dX4_further_50 : decode cX4_further 50 = .ok (.getfield 91, 3) := by decide +kernel
theorem dX4_further_53 : decode cX4_further 53 = .ok (.i2l, 1) := by decide +kernel
theorem dX4_further_54 : decode cX4_further 54 = .ok (.lmul, 1) := by decide +kernel
theorem dX4_further_55 : decode cX4_further 55 = .ok (.lstore 5, 2) := by decide +kernel
theorem dX4_further_57 : decode cX4_further 57 = .ok (.iload 7, 2) := by decide +kernel
theorem dX4_further_59 : decode cX4_further 59 = .ok (.i2l, 1) := by decide +kernel
theorem dX4_further_60 : decode cX4_further 60 = .ok (.aload 4, 2) := by decide +kernel
theorem dX4_further_62 : decode cX4_further 62 = .ok (.iload 7, 2) := by decide +kernel
theorem dX4_further_64 : decode cX4_further 64 = .ok (.invokestatic 100, 3) := by decide +kernel
theorem dX4_further_67 : decode cX4_further 67 = .ok (.i2l, 1) := by decide +kernel
theorem dX4_further_68 : decode cX4_further 68 = .ok (.lmul, 1) := by decide +kernel
theorem dX4_further_69 : decode cX4_further 69 = .ok (.lstore 8, 2) := by decide +kernel
theorem dX4_further_71 : decode cX4_further 71 = .ok (.iconst 1, 1) := by decide +kernel
theorem dX4_further_72 : decode cX4_further 72 = .ok (.istore 10, 2) := by decide +kernel
theorem dX4_further_74 : decode cX4_further 74 = .ok (.iload 10, 2) := by decide +kernel
theorem dX4_further_76 : decode cX4_further 76 = .ok (.iload 7, 2) := by decide +kernel
theorem dX4_further_78 : decode cX4_further 78 = .ok (.if_icmp .ge 33, 3) := by decide +kernel
theorem dX4_further_81 : decode cX4_further 81 = .ok (.lload 8, 2) := by decide +kernel
theorem dX4_further_83 : decode cX4_further 83 = .ok (.aload 4, 2) := by decide +kernel
theorem dX4_further_85 : decode cX4_further 85 = .ok (.iload 10, 2) := by decide +kernel
theorem dX4_further_87 : decode cX4_further 87 = .ok (.invokestatic 100, 3) := by decide +kernel
theorem dX4_further_90 : decode cX4_further 90 = .ok (.i2l, 1) := by decide +kernel
theorem dX4_further_91 : decode cX4_further 91 = .ok (.aload_n 0, 1) := by decide +kernel
theorem dX4_further_92 : decode cX4_further 92 = .ok (.getfield 32, 3) := by decide +kernel
theorem dX4_further_95 : decode cX4_further 95 = .ok (.iload 7, 2) := by decide +kernel
theorem dX4_further_97 : decode cX4_further 97 = .ok (.iload 10, 2) := by decide +kernel
theorem dX4_further_99 : decode cX4_further 99 = .ok (.isub, 1) := by decide +kernel
theorem dX4_further_100 : decode cX4_further 100 = .ok (.laload, 1) := by decide +kernel
theorem dX4_further_101 : decode cX4_further 101 = .ok (.lmul, 1) := by decide +kernel
theorem dX4_further_102 : decode cX4_further 102 = .ok (.ladd, 1) := by decide +kernel
theorem dX4_further_103 : decode cX4_further 103 = .ok (.lstore 8, 2) := by decide +kernel
theorem dX4_further_105 : decode cX4_further 105 = .ok (.iinc 10 1, 3) := by decide +kernel
theorem dX4_further_108 : decode cX4_further 108 = .ok (.goto (-34), 3) := by decide +kernel
theorem dX4_further_111 : decode cX4_further 111 = .ok (.aload_n 0, 1) := by decide +kernel
theorem dX4_further_112 : decode cX4_further 112 = .ok (.getfield 32, 3) := by decide +kernel
theorem dX4_further_115 : decode cX4_further 115 = .ok (.iload 7, 2) := by decide +kernel
theorem dX4_further_117 : decode cX4_further 117 = .ok (.lload 8, 2) := by decide +kernel
theorem dX4_further_119 : decode cX4_further 119 = .ok (.lneg, 1) := by decide +kernel
theorem dX4_further_120 : decode cX4_further 120 = .ok (.lastore, 1) := by decide +kernel
theorem dX4_further_121 : decode cX4_further 121 = .ok (.iinc 7 1, 3) := by decide +kernel
theorem dX4_further_124 : decode cX4_further 124 = .ok (.goto (-86), 3) := by decide +kernel
theorem dX4_further_127 : decode cX4_further 127 = .ok (.lload 5, 2) := by decide +kernel
theorem dX4_further_129 : decode cX4_further 129 = .ok (.lconst 1, 1) := by decide +kernel
theorem dX4_further_130 : decode cX4_further 130 = .ok (.ladd, 1) := by decide +kernel
theorem dX4_further_131 : decode cX4_further 131 = .ok (.aload_n 0, 1) := by decide +kernel
theorem dX4_further_132 : decode cX4_further 132 = .ok (.getfield 32, 3) := by decide +kernel
theorem dX4_further_135 : decode cX4_further 135 = .ok (.iload_n 2, 1) := by decide +kernel
theorem dX4_further_136 : decode cX4_further 136 = .ok (.laload, 1) := by decide +kernel
theorem dX4_further_137 : decode cX4_further 137 = .ok (.lsub, 1) := by decide +kernel
theorem dX4_further_138 : decode cX4_further 138 = .ok (.lreturn, 1) := by decide +kernel
theorem dX4_whole_0 : decode cX4_whole 0 = .ok (.aload_n 0, 1) := by decide +kernel
theorem dX4_whole_1 : decode cX4_whole 1 = .ok (.iload_n 1, 1) := by decide +kernel
theorem dX4_whole_2 : decode cX4_whole 2 = .ok (.invokevirtual 130, 3) := by decide +kernel
theorem dX4_whole_5 : decode cX4_whole 5 = .ok (.astore_n 2, 1) := by decide +kernel
theorem dX4_whole_6 : decode cX4_whole 6 = .ok (.aload_n 2, 1) := by decide +kernel
theorem dX4_whole_7 : decode cX4_whole 7 = .ok (.ifnonnull 5, 3) := by decide +kernel
theorem dX4_whole_10 : decode cX4_whole 10 = .ok (.iconst (-1), 1) := by decide +kernel
theorem dX4_whole_11 : decode cX4_whole 11 = .ok (.ireturn, 1) := by decide +kernel
theorem dX4_whole_12 : decode cX4_whole 12 = .ok (.iconst 0, 1) := by decide +kernel
theorem dX4_whole_13 : decode cX4_whole 13 = .ok (.istore_n 3, 1) := by decide +kernel
theorem dX4_whole_14 : decode cX4_whole 14 = .ok (.aload_n 0, 1) := by decide +kernel
theorem dX4_whole_15 : decode cX4_whole 15 = .ok (.aload_n 2, 1) := by decide +kernel
theorem dX4_whole_16 : decode cX4_whole 16 = .ok (.invokevirtual 167, 3) := by decide +kernel
theorem dX4_whole_19 : decode cX4_whole 19 = .ok (.astore 4, 2) := by decide +kernel
theorem dX4_whole_21 : decode cX4_whole 21 = .ok (.aload 4, 2) := by decide +kernel
theorem dX4_whole_23 : decode cX4_whole 23 = .ok (.arraylength, 1) := by decide +kernel
theorem dX4_whole_24 : decode cX4_whole 24 = .ok (.istore 5, 2) := by decide +kernel
theorem dX4_whole_26 : decode cX4_whole 26 = .ok (.iconst 0, 1) := by decide +kernel
theorem dX4_whole_27 : decode cX4_whole 27 = .ok (.istore 6, 2) := by decide +kernel
theorem dX4_whole_29 : decode cX4_whole 29 = .ok (.iload 6, 2) := by decide +kernel
theorem dX4_whole_31 : decode cX4_whole 31 = .ok (.iload 5, 2) := by decide +kernel
theorem dX4_whole_33 : decode cX4_whole 33 = .ok (.if_icmp .ge 21, 3) := by decide +kernel
theorem dX4_whole_36 : decode cX4_whole 36 = .ok (.aload 4, 2) := by decide +kernel
theorem dX4_whole_38 : decode cX4_whole 38 = .ok (.iload 6, 2) := by decide +kernel
theorem dX4_whole_40 : decode cX4_whole 40 = .ok (.iaload, 1) := by decide +kernel
theorem dX4_whole_41 : decode cX4_whole 41 = .ok (.istore 7, 2) := by decide +kernel
theorem dX4_whole_43 : decode cX4_whole 43 = .ok (.iload_n 3, 1) := by decide +kernel
end
section
theorem dX4_whole_44 : decode cX4_whole 44 = .ok (.iload 7, 2) := by decide +kernel
theorem dX4_whole_46 : decode cX4_whole 46 = .ok (.iadd, 1) := by decide +kernel
theorem dX4_whole_47 : decode cX4_whole 47 = .ok (.istore_n 3, 1) := by decide +kernel
theorem dX4_whole_48 : decode cX4_whole 48 = .ok (.iinc 6 1, 3) := by decide +kernel
theorem dX4_whole_51 : decode cX4_whole 51 = .ok (.goto (-22), 3) := by decide +kernel
theorem dX4_whole_54 : decode cX4_whole 54 = .ok (.iload_n 3, 1) := by decide +kernel
theorem dX4_whole_55 : decode cX4_whole 55 = .ok (.ireturn, 1) := by decide +kernel
theorem dX4_bound_0 : decode cX4_bound 0 = .ok (.iload_n 1, 1) := by decide +kernel
theorem dX4_bound_1 : decode cX4_bound 1 = .ok (.iconst 1, 1) := by decide +kernel
theorem dX4_bound_2 : decode cX4_bound 2 = .ok (.if_icmp .lt 8, 3) := by decide +kernel
theorem dX4_bound_5 : decode cX4_bound 5 = .ok (.iload_n 1, 1) := by decide +kernel
theorem dX4_bound_6 : decode cX4_bound 6 = .ok (.iconst 2, 1) := by decide +kernel
theorem dX4_bound_7 : decode cX4_bound 7 = .ok (.if_icmp .le 5, 3) := by decide +kernel
theorem dX4_bound_10 : decode cX4_bound 10 = .ok (.iconst (-1), 1) := by decide +kernel
theorem dX4_bound_11 : decode cX4_bound 11 = .ok (.ireturn, 1) := by decide +kernel
theorem dX4_bound_12 : decode cX4_bound 12 = .ok (.iconst 4, 1) := by decide +kernel
theorem dX4_bound_13 : decode cX4_bound 13 = .ok (.iload_n 1, 1) := by decide +kernel
theorem dX4_bound_14 : decode cX4_bound 14 = .ok (.imul, 1) := by decide +kernel
theorem dX4_bound_15 : decode cX4_bound 15 = .ok (.iload_n 1, 1) := by decide +kernel
theorem dX4_bound_16 : decode cX4_bound 16 = .ok (.imul, 1) := by decide +kernel
theorem dX4_bound_17 : decode cX4_bound 17 = .ok (.aload_n 0, 1) := by decide +kernel
theorem dX4_bound_18 : decode cX4_bound 18 = .ok (.getfield 10, 3) := by decide +kernel
theorem dX4_bound_21 : decode cX4_bound 21 = .ok (.getfield 91, 3) := by decide +kernel
theorem dX4_bound_24 : decode cX4_bound 24 = .ok (.imul, 1) := by decide +kernel
theorem dX4_bound_25 : decode cX4_bound 25 = .ok (.istore_n 2, 1) := by decide +kernel
theorem dX4_bound_26 : decode cX4_bound 26 = .ok (.iconst 0, 1) := by decide +kernel
theorem dX4_bound_27 : decode cX4_bound 27 = .ok (.istore_n 3, 1) := by decide +kernel
theorem dX4_bound_28 : decode cX4_bound 28 = .ok (.iload_n 3, 1) := by decide +kernel
theorem dX4_bound_29 : decode cX4_bound 29 = .ok (.iload_n 2, 1) := by decide +kernel
theorem dX4_bound_30 : decode cX4_bound 30 = .ok (.if_icmp .ge 20, 3) := by decide +kernel
theorem dX4_bound_33 : decode cX4_bound 33 = .ok (.iload_n 3, 1) := by decide +kernel
theorem dX4_bound_34 : decode cX4_bound 34 = .ok (.iconst 1, 1) := by decide +kernel
theorem dX4_bound_35 : decode cX4_bound 35 = .ok (.iadd, 1) := by decide +kernel
theorem dX4_bound_36 : decode cX4_bound 36 = .ok (.iload_n 3, 1) := by decide +kernel
theorem dX4_bound_37 : decode cX4_bound 37 = .ok (.iconst 1, 1) := by decide +kernel
theorem dX4_bound_38 : decode cX4_bound 38 = .ok (.iadd, 1) := by decide +kernel
theorem dX4_bound_39 : decode cX4_bound 39 = .ok (.imul, 1) := by decide +kernel
theorem dX4_bound_40 : decode cX4_bound 40 = .ok (.iload_n 2, 1) := by decide +kernel
theorem dX4_bound_41 : decode cX4_bound 41 = .ok (.if_icmp .gt 9, 3) := by decide +kernel
theorem dX4_bound_44 : decode cX4_bound 44 = .ok (.iinc 3 1, 3) := by decide +kernel
theorem dX4_bound_47 : decode cX4_bound 47 = .ok (.goto (-19), 3) := by decide +kernel
theorem dX4_bound_50 : decode cX4_bound 50 = .ok (.iload_n 3, 1) := by decide +kernel
theorem dX4_bound_51 : decode cX4_bound 51 = .ok (.ireturn, 1) := by decide +kernel
theorem dX4_surface_0 : decode cX4_surface 0 = .ok (.aload_n 0, 1) := by decide +kernel
theorem dX4_surface_1 : decode cX4_surface 1 = .ok (.iload_n 1, 1) := by decide +kernel
theorem dX4_surface_2 : decode cX4_surface 2 = .ok (.invokevirtual 130, 3) := by decide +kernel
theorem dX4_surface_5 : decode cX4_surface 5 = .ok (.astore 4, 2) := by decide +kernel
theorem dX4_surface_7 : decode cX4_surface 7 = .ok (.aload_n 0, 1) := by decide +kernel
theorem dX4_surface_8 : decode cX4_surface 8 = .ok (.iload_n 2, 1) := by decide +kernel
theorem dX4_surface_9 : decode cX4_surface 9 = .ok (.invokevirtual 130, 3) := by decide +kernel
theorem dX4_surface_12 : decode cX4_surface 12 = .ok (.astore 5, 2) := by decide +kernel
theorem dX4_surface_14 : decode cX4_surface 14 = .ok (.aload_n 0, 1) := by decide +kernel
theorem dX4_surface_15 : decode cX4_surface 15 = .ok (.iload_n 3, 1) := by decide +kernel
theorem dX4_surface_16 : decode cX4_surface 16 = .ok (.invokevirtual 56, 3) := by decide +kernel
theorem dX4_surface_19 : decode cX4_surface 19 = .ok (.astore 6, 2) := by decide +kernel
theorem dX4_surface_21 : decode cX4_surface 21 = .ok (.aload 4, 2) := by decide +kernel
theorem dX4_surface_23 : decode cX4_surface 23 = .ok (.ifnull 13, 3) := by decide +kernel
theorem dX4_surface_26 : decode cX4_surface 26 = .ok (.aload 5, 2) := by decide +kernel
theorem dX4_surface_28 : decode cX4_surface 28 = .ok (.ifnull 8, 3) := by decide +kernel
theorem dX4_surface_31 : decode cX4_surface 31 = .ok (.aload 6, 2) := by decide +kernel
theorem dX4_surface_33 : decode cX4_surface 33 = .ok (.ifnonnull 5, 3) := by decide +kernel
theorem dX4_surface_36 : decode cX4_surface 36 = .ok (.iconst (-1), 1) := by decide +kernel
theorem dX4_surface_37 : decode cX4_surface 37 = .ok (.ireturn, 1) := by decide +kernel
theorem dX4_surface_38 : decode cX4_surface 38 = .ok (.aload 6, 2) := by decide +kernel
theorem dX4_surface_40 : decode cX4_surface 40 = .ok (.aload 4, 2) := by decide +kernel
theorem dX4_surface_42 : decode cX4_surface 42 = .ok (.getfield 148, 3) := by decide +kernel
theorem dX4_surface_45 : decode cX4_surface 45 = .ok (.invokevirtual 173, 3) := by decide +kernel
theorem dX4_surface_48 : decode cX4_surface 48 = .ok (.aload 6, 2) := by decide +kernel
theorem dX4_surface_50 : decode cX4_surface 50 = .ok (.aload 5, 2) := by decide +kernel
theorem dX4_surface_52 : decode cX4_surface 52 = .ok (.getfield 148, 3) := by decide +kernel
theorem dX4_surface_55 : decode cX4_surface 55 = .ok (.invokevirtual 173, 3) := by decide +kernel
theorem dX4_surface_58 : decode cX4_surface 58 = .ok (.imul, 1) := by decide +kernel
theorem dX4_surface_59 : decode cX4_surface 59 = .ok (.istore 7, 2) := by decide +kernel
theorem dX4_surface_61 : decode cX4_surface 61 = .ok (.aload 6, 2) := by decide +kernel
theorem dX4_surface_63 : decode cX4_surface 63 = .ok (.getfield 60, 3) := by decide +kernel
theorem dX4_surface_66 : decode cX4_surface 66 = .ok (.aload 6, 2) := by decide +kernel
theorem dX4_surface_68 : decode cX4_surface 68 = .ok (.getfield 60, 3) := by decide +kernel
theorem dX4_surface_71 : decode cX4_surface 71 = .ok (.imul, 1) := by decide +kernel
theorem dX4_surface_72 : decode cX4_surface 72 = .ok (.iload 7, 2) := by decide +kernel
theorem dX4_surface_74 : decode cX4_surface 74 = .ok (.iadd, 1) := by decide +kernel
theorem dX4_surface_75 : decode cX4_surface 75 = .ok (.ireturn, 1) := by decide +kernel
theorem dX4_best_0 : decode cX4_best 0 = .ok (.iload_n 1, 1) := by decide +kernel
theorem dX4_best_1 : decode cX4_best 1 = .ok (.iconst 3, 1) := by decide +kernel
theorem dX4_best_2 : decode cX4_best 2 = .ok (.if_icmp .lt 30, 3) := by decide +kernel
theorem dX4_best_5 : decode cX4_best 5 = .ok (.iload_n 1, 1) := by decide +kernel
theorem dX4_best_6 : decode cX4_best 6 = .ok (.bipush 6, 2) := by decide +kernel
theorem dX4_best_8 : decode cX4_best 8 = .ok (.if_icmp .gt 24, 3) := by decide +kernel
theorem dX4_best_11 : decode cX4_best 11 = .ok (.iload_n 2, 1) := by decide +kernel
theorem dX4_best_12 : decode cX4_best 12 = .ok (.ifCond .lt 20, 3) := by decide +kernel
theorem dX4_best_15 : decode cX4_best 15 = .ok (.iload_n 2, 1) := by decide +kernel
theorem dX4_best_16 : decode cX4_best 16 = .ok (.ldc 176, 2) := by decide +kernel
theorem dX4_best_18 : decode cX4_best 18 = .ok (.if_icmp .gt 14, 3) := by decide +kernel
theorem dX4_best_21 : decode cX4_best 21 = .ok (.iload_n 3, 1) := by decide +kernel
theorem dX4_best_22 : decode cX4_best 22 = .ok (.iconst 1, 1) := by decide +kernel
theorem dX4_best_23 : decode cX4_best 23 = .ok (.if_icmp .lt 9, 3) := by decide +kernel
theorem dX4_best_26 : decode cX4_best 26 = .ok (.iload_n 3, 1) := by decide +kernel
theorem dX4_best_27 : decode cX4_best 27 = .ok (.bipush 100, 2) := by decide +kernel
theorem dX4_best_29 : decode cX4_best 29 = .ok (.if_icmp .le 5, 3) := by decide +kernel
theorem dX4_best_32 : decode cX4_best 32 = .ok (.iconst (-1), 1) := by decide +kernel
theorem dX4_best_33 : decode cX4_best 33 = .ok (.ireturn, 1) := by decide +kernel
theorem dX4_best_34 : decode cX4_best 34 = .ok (.aload_n 0, 1) := by decide +kernel
theorem dX4_best_35 : decode cX4_best 35 = .ok (.iconst 1, 1) := by decide +kernel
theorem dX4_best_36 : decode cX4_best 36 = .ok (.invokevirtual 56, 3) := by decide +kernel
theorem dX4_best_39 : decode cX4_best 39 = .ok (.astore 4, 2) := by decide +kernel
theorem dX4_best_41 : decode cX4_best 41 = .ok (.iload_n 2, 1) := by decide +kernel
theorem dX4_best_42 : decode cX4_best 42 = .ok (.aload_n 0, 1) := by decide +kernel
theorem dX4_best_43 : decode cX4_best 43 = .ok (.getfield 10, 3) := by decide +kernel
theorem dX4_best_46 : decode cX4_best 46 = .ok (.iload_n 1, 1) := by decide +kernel
theorem dX4_best_47 : decode cX4_best 47 = .ok (.invokevirtual 177, 3) := by decide +kernel
theorem dX4_best_50 : decode cX4_best 50 = .ok (.invokestatic 180, 3) := by decide +kernel
theorem dX4_best_53 : decode cX4_best 53 = .ok (.istore 5, 2) := by decide +kernel
theorem dX4_best_55 : decode cX4_best 55 = .ok (.iload_n 2, 1) := by decide +kernel
theorem dX4_best_56 : decode cX4_best 56 = .ok (.iload_n 3, 1) := by decide +kernel
theorem dX4_best_57 : decode cX4_best 57 = .ok (.iadd, 1) := by decide +kernel
theorem dX4_best_58 : decode cX4_best 58 = .ok (.aload_n 0, 1) := by decide +kernel
theorem dX4_best_59 : decode cX4_best 59 = .ok (.getfield 10, 3) := by decide +kernel
theorem dX4_best_62 : decode cX4_best 62 = .ok (.iload_n 1, 1) := by decide +kernel
theorem dX4_best_63 : decode cX4_best 63 = .ok (.iconst 1, 1) := by decide +kernel
theorem dX4_best_64 : decode cX4_best 64 = .ok (.iadd, 1) := by decide +kernel
theorem dX4_best_65 : decode cX4_best 65 = .ok (.invokevirtual 177, 3) := by decide +kernel
theorem dX4_best_68 : decode cX4_best 68 = .ok (.invokestatic 185, 3) := by decide +kernel
theorem dX4_best_71 : decode cX4_best 71 = .ok (.istore 6, 2) := by decide +kernel
theorem dX4_best_73 : decode cX4_best 73 = .ok (.bipush (-9), 2) := by decide +kernel
theorem dX4_best_75 : decode cX4_best 75 = .ok (.istore 7, 2) := by decide +kernel
theorem dX4_best_77 : decode cX4_best 77 = .ok (.iconst (-1), 1) := by decide +kernel
theorem dX4_best_78 : decode cX4_best 78 = .ok (.istore 8, 2) := by decide +kernel
theorem dX4_best_80 : decode cX4_best 80 = .ok (.iload 5, 2) := by decide +kernel
theorem dX4_best_82 : decode cX4_best 82 = .ok (.istore 9, 2) := by decide +kernel
theorem dX4_best_84 : decode cX4_best 84 = .ok (.iload 9, 2) := by decide +kernel
theorem dX4_best_86 : decode cX4_best 86 = .ok (.iload 6, 2) := by decide +kernel
theorem dX4_best_88 : decode cX4_best 88 = .ok (.if_icmp .ge 57, 3) := by decide +kernel
theorem dX4_best_91 : decode cX4_best 91 = .ok (.aload 4, 2) := by decide +kernel
theorem dX4_best_93 : decode cX4_best 93 = .ok (.ifnull 52, 3) := by decide +kernel
theorem dX4_best_96 : decode cX4_best 96 = .ok (.aload_n 0, 1) := by decide +kernel
theorem dX4_best_97 : decode cX4_best 97 = .ok (.getfield 10, 3) := by decide +kernel
theorem dX4_best_100 : decode cX4_best 100 = .ok (.aload_n 0, 1) := by decide +kernel
theorem dX4_best_101 : decode cX4_best 101 = .ok (.getfield 10, 3) := by decide +kernel
theorem dX4_best_104 : decode cX4_best 104 = .ok (.iload 9, 2) := by decide +kernel
theorem dX4_best_106 : decode cX4_best 106 = .ok (.invokevirtual 114, 3) := by decide +kernel
theorem dX4_best_109 : decode cX4_best 109 = .ok (.invokevirtual 117, 3) := by decide +kernel
theorem dX4_best_112 : decode cX4_best 112 = .ok (.ifCond .ne 27, 3) := by decide +kernel
theorem dX4_best_115 : decode cX4_best 115 = .ok (.aload 4, 2) := by decide +kernel
theorem dX4_best_117 : decode cX4_best 117 = .ok (.iload 9, 2) := by decide +kernel
theorem dX4_best_119 : decode cX4_best 119 = .ok (.invokevirtual 161, 3) := by decide +kernel
theorem dX4_best_122 : decode cX4_best 122 = .ok (.istore 10, 2) := by decide +kernel
theorem dX4_best_124 : decode cX4_best 124 = .ok (.iload 10, 2) := by decide +kernel
theorem dX4_best_126 : decode cX4_best 126 = .ok (.iload 8, 2) := by decide +kernel
theorem dX4_best_128 : decode cX4_best 128 = .ok (.if_icmp .le 11, 3) := by decide +kernel
theorem dX4_best_131 : decode cX4_best 131 = .ok (.iload 10, 2) := by decide +kernel
theorem dX4_best_133 : decode cX4_best 133 = .ok (.istore 8, 2) := by decide +kernel
theorem dX4_best_135 : decode cX4_best 135 = .ok (.iload 9, 2) := by decide +kernel
theorem dX4_best_137 : decode cX4_best 137 = .ok (.istore 7, 2) := by decide +kernel
theorem dX4_best_139 : decode cX4_best 139 = .ok (.iinc 9 1, 3) := by decide +kernel
theorem dX4_best_142 : decode cX4_best 142 = .ok (.goto (-58), 3) := by decide +kernel
theorem dX4_best_145 : decode cX4_best 145 = .ok (.iload 7, 2) := by decide +kernel
theorem dX4_best_147 : decode cX4_best 147 = .ok (.ireturn, 1) := by decide +kernel
theorem dX4_isClass_0 : decode cX4_isClass 0 = .ok (.aload_n 0, 1) := by decide +kernel
theorem dX4_isClass_1 : decode cX4_isClass 1 = .ok (.iload_n 1, 1) := by decide +kernel
theorem dX4_isClass_2 : decode cX4_isClass 2 = .ok (.invokevirtual 188, 3) := by decide +kernel
theorem dX4_isClass_5 : decode cX4_isClass 5 = .ok (.astore 4, 2) := by decide +kernel
theorem dX4_isClass_7 : decode cX4_isClass 7 = .ok (.aload 4, 2) := by decide +kernel
theorem dX4_isClass_9 : decode cX4_isClass 9 = .ok (.ifnull 11, 3) := by decide +kernel
theorem dX4_isClass_12 : decode cX4_isClass 12 = .ok (.iload_n 2, 1) := by decide +kernel
theorem dX4_isClass_13 : decode cX4_isClass 13 = .ok (.ifCond .lt 7, 3) := by decide +kernel
theorem dX4_isClass_16 : decode cX4_isClass 16 = .ok (.iload_n 3, 1) := by decide +kernel
theorem dX4_isClass_17 : decode cX4_isClass 17 = .ok (.ifCond .ge 5, 3) := by decide +kernel
theorem dX4_isClass_20 : decode cX4_isClass 20 = .ok (.iconst (-1), 1) := by decide +kernel
theorem dX4_isClass_21 : decode cX4_isClass 21 = .ok (.ireturn, 1) := by decide +kernel
theorem dX4_isClass_22 : decode cX4_isClass 22 = .ok (.aload 4, 2) := by decide +kernel
theorem dX4_isClass_24 : decode cX4_isClass 24 = .ok (.iload_n 2, 1) := by decide +kernel
theorem dX4_isClass_25 : decode cX4_isClass 25 = .ok (.iload_n 3, 1) := by decide +kernel
theorem dX4_isClass_26 : decode cX4_isClass 26 = .ok (.invokevirtual 192, 3) := by decide +kernel
theorem dX4_isClass_29 : decode cX4_isClass 29 = .ok (.ifCond .eq 7, 3) := by decide +kernel
theorem dX4_isClass_32 : decode cX4_isClass 32 = .ok (.iconst 1, 1) := by decide +kernel
theorem dX4_isClass_33 : decode cX4_isClass 33 = .ok (.goto 4, 3) := by decide +kernel
theorem dX4_isClass_36 : decode cX4_isClass 36 = .ok (.iconst 0, 1) := by decide +kernel
theorem dX4_isClass_37 : decode cX4_isClass 37 = .ok (.ireturn, 1) := by decide +kernel
theorem dX4_classes_0 : decode cX4_classes 0 = .ok (.aload_n 0, 1) := by decide +kernel
theorem dX4_classes_1 : decode cX4_classes 1 = .ok (.iload_n 1, 1) := by decide +kernel
theorem dX4_classes_2 : decode cX4_classes 2 = .ok (.invokevirtual 188, 3) := by decide +kernel
theorem dX4_classes_5 : decode cX4_classes 5 = .ok (.astore_n 2, 1) := by decide +kernel
theorem dX4_classes_6 : decode cX4_classes 6 = .ok (.aload_n 2, 1) := by decide +kernel
theorem dX4_classes_7 : decode cX4_classes 7 = .ok (.ifnonnull 7, 3) := by decide +kernel
theorem dX4_classes_10 : decode cX4_classes 10 = .ok (.iconst (-1), 1) := by decide +kernel
theorem dX4_classes_11 : decode cX4_classes 11 = .ok (.goto 7, 3) := by decide +kernel
theorem dX4_classes_14 : decode cX4_classes 14 = .ok (.aload_n 2, 1) := by decide +kernel
theorem dX4_classes_15 : decode cX4_classes 15 = .ok (.invokevirtual 198, 3) := by decide +kernel
theorem dX4_classes_18 : decode cX4_classes 18 = .ok (.ireturn, 1) := by decide +kernel
theorem dX4_classAt_0 : decode cX4_classAt 0 = .ok (.aload_n 0, 1) := by decide +kernel
theorem dX4_classAt_1 : decode cX4_classAt 1 = .ok (.iload_n 1, 1) := by decide +kernel
theorem dX4_classAt_2 : decode cX4_classAt 2 = .ok (.invokevirtual 188, 3) := by decide +kernel
theorem dX4_classAt_5 : decode cX4_classAt 5 = .ok (.astore 4, 2) := by decide +kernel
theorem dX4_classAt_7 : decode cX4_classAt 7 = .ok (.aload 4, 2) := by decide +kernel
theorem dX4_classAt_9 : decode cX4_classAt 9 = .ok (.ifnull 16, 3) := by decide +kernel
theorem dX4_classAt_12 : decode cX4_classAt 12 = .ok (.iload_n 2, 1) := by decide +kernel
theorem dX4_classAt_13 : decode cX4_classAt 13 = .ok (.ifCond .lt 12, 3) := by decide +kernel
theorem dX4_classAt_16 : decode cX4_classAt 16 = .ok (.iload_n 3, 1) := by decide +kernel
theorem dX4_classAt_17 : decode cX4_classAt 17 = .ok (.ifCond .lt 8, 3) := by decide +kernel
theorem dX4_classAt_20 : decode cX4_classAt 20 = .ok (.iload_n 3, 1) := by decide +kernel
theorem dX4_classAt_21 : decode cX4_classAt 21 = .ok (.iconst 1, 1) := by decide +kernel
theorem dX4_classAt_22 : decode cX4_classAt 22 = .ok (.if_icmp .le 5, 3) := by decide +kernel
theorem dX4_classAt_25 : decode cX4_classAt 25 = .ok (.iconst (-1), 1) := by decide +kernel
theorem dX4_classAt_26 : decode cX4_classAt 26 = .ok (.ireturn, 1) := by decide +kernel
theorem dX4_classAt_27 : decode cX4_classAt 27 = .ok (.iload_n 2, 1) := by decide +kernel
theorem dX4_classAt_28 : decode cX4_classAt 28 = .ok (.aload 4, 2) := by decide +kernel
theorem dX4_classAt_30 : decode cX4_classAt 30 = .ok (.invokevirtual 198, 3) := by decide +kernel
theorem dX4_classAt_33 : decode cX4_classAt 33 = .ok (.if_icmp .lt 6, 3) := by decide +kernel
theorem dX4_classAt_36 : decode cX4_classAt 36 = .ok (.bipush (-9), 2) := by decide +kernel
theorem dX4_classAt_38 : decode cX4_classAt 38 = .ok (.ireturn, 1) := by decide +kernel
theorem dX4_classAt_39 : decode cX4_classAt 39 = .ok (.aload 4, 2) := by decide +kernel
theorem dX4_classAt_41 : decode cX4_classAt 41 = .ok (.iload_n 2, 1) := by decide +kernel
theorem dX4_classAt_42 : decode cX4_classAt 42 = .ok (.invokevirtual 202, 3) := by decide +kernel
theorem dX4_classAt_45 : decode cX4_classAt 45 = .ok (.istore 5, 2) := by decide +kernel
theorem dX4_classAt_47 : decode cX4_classAt 47 = .ok (.iload_n 3, 1) := by decide +kernel
theorem dX4_classAt_48 : decode cX4_classAt 48 = .ok (.ifCond .ne 13, 3) := by decide +kernel
theorem dX4_classAt_51 : decode cX4_classAt 51 = .ok (.aload 4, 2) := by decide +kernel
theorem dX4_classAt_53 : decode cX4_classAt 53 = .ok (.iload 5, 2) := by decide +kernel
theorem dX4_classAt_55 : decode cX4_classAt 55 = .ok (.invokevirtual 205, 3) := by decide +kernel
theorem dX4_classAt_58 : decode cX4_classAt 58 = .ok (.goto 10, 3) := by decide +kernel
theorem dX4_classAt_61 : decode cX4_classAt 61 = .ok (.aload 4, 2) := by decide +kernel
theorem dX4_classAt_63 : decode cX4_classAt 63 = .ok (.iload 5, 2) := by decide +kernel
theorem dX4_classAt_65 : decode cX4_classAt 65 = .ok (.invokevirtual 208, 3) := by decide +kernel
theorem dX4_classAt_68 : decode cX4_classAt 68 = .ok (.ireturn, 1) := by decide +kernel
theorem dX4_add_0 : decode cX4_add 0 = .ok (.aload_n 0, 1) := by decide +kernel
theorem dX4_add_1 : decode cX4_add 1 = .ok (.iload_n 1, 1) := by decide +kernel
theorem dX4_add_2 : decode cX4_add 2 = .ok (.invokevirtual 188, 3) := by decide +kernel
theorem dX4_add_5 : decode cX4_add 5 = .ok (.astore 4, 2) := by decide +kernel
theorem dX4_add_7 : decode cX4_add 7 = .ok (.aload 4, 2) := by decide +kernel
theorem dX4_add_9 : decode cX4_add 9 = .ok (.ifnull 21, 3) := by decide +kernel
theorem dX4_add_12 : decode cX4_add 12 = .ok (.aload 4, 2) := by decide +kernel
theorem dX4_add_14 : decode cX4_add 14 = .ok (.iload_n 2, 1) := by decide +kernel
theorem dX4_add_15 : decode cX4_add 15 = .ok (.invokevirtual 211, 3) := by decide +kernel
theorem dX4_add_18 : decode cX4_add 18 = .ok (.ifCond .eq 12, 3) := by decide +kernel
theorem dX4_add_21 : decode cX4_add 21 = .ok (.aload 4, 2) := by decide +kernel
theorem dX4_add_23 : decode cX4_add 23 = .ok (.iload_n 3, 1) := by decide +kernel
theorem dX4_add_24 : decode cX4_add 24 = .ok (.invokevirtual 211, 3) := by decide +kernel
theorem dX4_add_27 : decode cX4_add 27 = .ok (.ifCond .ne 5, 3) := by decide +kernel
theorem dX4_add_30 : decode cX4_add 30 = .ok (.iconst (-1), 1) := by decide +kernel
theorem dX4_add_31 : decode cX4_add 31 = .ok (.ireturn, 1) := by decide +kernel
theorem dX4_add_32 : decode cX4_add 32 = .ok (.aload 4, 2) := by decide +kernel
theorem dX4_add_34 : decode cX4_add 34 = .ok (.aload 4, 2) := by decide +kernel
theorem dX4_add_36 : decode cX4_add 36 = .ok (.aload 4, 2) := by decide +kernel
theorem dX4_add_38 : decode cX4_add 38 = .ok (.iload_n 2, 1) := by decide +kernel
theorem dX4_add_39 : decode cX4_add 39 = .ok (.invokevirtual 202, 3) := by decide +kernel
theorem dX4_add_42 : decode cX4_add 42 = .ok (.aload 4, 2) := by decide +kernel
theorem dX4_add_44 : decode cX4_add 44 = .ok (.iload_n 3, 1) := by decide +kernel
theorem dX4_add_45 : decode cX4_add 45 = .ok (.invokevirtual 202, 3) := by decide +kernel
theorem dX4_add_48 : decode cX4_add 48 = .ok (.invokevirtual 214, 3) := by decide +kernel
theorem dX4_add_51 : decode cX4_add 51 = .ok (.invokevirtual 217, 3) := by decide +kernel
theorem dX4_add_54 : decode cX4_add 54 = .ok (.ireturn, 1) := by decide +kernel
theorem dX4_minus_0 : decode cX4_minus 0 = .ok (.aload_n 0, 1) := by decide +kernel
theorem dX4_minus_1 : decode cX4_minus 1 = .ok (.iload_n 1, 1) := by decide +kernel
theorem dX4_minus_2 : decode cX4_minus 2 = .ok (.invokevirtual 188, 3) := by decide +kernel
theorem dX4_minus_5 : decode cX4_minus 5 = .ok (.astore_n 3, 1) := by decide +kernel
theorem dX4_minus_6 : decode cX4_minus 6 = .ok (.aload_n 3, 1) := by decide +kernel
theorem dX4_minus_7 : decode cX4_minus 7 = .ok (.ifnull 11, 3) := by decide +kernel
theorem dX4_minus_10 : decode cX4_minus 10 = .ok (.aload_n 3, 1) := by decide +kernel
theorem dX4_minus_11 : decode cX4_minus 11 = .ok (.iload_n 2, 1) := by decide +kernel
theorem dX4_minus_12 : decode cX4_minus 12 = .ok (.invokevirtual 211, 3) := by decide +kernel
theorem dX4_minus_15 : decode cX4_minus 15 = .ok (.ifCond .ne 5, 3) := by decide +kernel
theorem dX4_minus_18 : decode cX4_minus 18 = .ok (.iconst (-1), 1) := by decide +kernel
theorem dX4_minus_19 : decode cX4_minus 19 = .ok (.ireturn, 1) := by decide +kernel
theorem dX4_minus_20 : decode cX4_minus 20 = .ok (.aload_n 3, 1) := by decide +kernel
theorem dX4_minus_21 : decode cX4_minus 21 = .ok (.aload_n 3, 1) := by decide +kernel
theorem dX4_minus_22 : decode cX4_minus 22 = .ok (.aload_n 3, 1) := by decide +kernel
theorem dX4_minus_23 : decode cX4_minus 23 = .ok (.iload_n 2, 1) := by decide +kernel
theorem dX4_minus_24 : decode cX4_minus 24 = .ok (.invokevirtual 202, 3) := by decide +kernel
theorem dX4_minus_27 : decode cX4_minus 27 = .ok (.invokevirtual 220, 3) := by decide +kernel
theorem dX4_minus_30 : decode cX4_minus 30 = .ok (.invokevirtual 217, 3) := by decide +kernel
theorem dX4_minus_33 : decode cX4_minus 33 = .ok (.ireturn, 1) := by decide +kernel
theorem dX4_order_0 : decode cX4_order 0 = .ok (.aload_n 0, 1) := by decide +kernel
theorem dX4_order_1 : decode cX4_order 1 = .ok (.iload_n 1, 1) := by decide +kernel
theorem dX4_order_2 : decode cX4_order 2 = .ok (.invokevirtual 188, 3) := by decide +kernel
theorem dX4_order_5 : decode cX4_order 5 = .ok (.astore_n 3, 1) := by decide +kernel
theorem dX4_order_6 : decode cX4_order 6 = .ok (.aload_n 3, 1) := by decide +kernel
theorem dX4_order_7 : decode cX4_order 7 = .ok (.ifnull 11, 3) := by decide +kernel
theorem dX4_order_10 : decode cX4_order 10 = .ok (.aload_n 3, 1) := by decide +kernel
theorem dX4_order_11 : decode cX4_order 11 = .ok (.iload_n 2, 1) := by decide +kernel
theorem dX4_order_12 : decode cX4_order 12 = .ok (.invokevirtual 211, 3) := by decide +kernel
theorem dX4_order_15 : decode cX4_order 15 = .ok (.ifCond .ne 5, 3) := by decide +kernel
theorem dX4_order_18 : decode cX4_order 18 = .ok (.iconst (-1), 1) := by decide +kernel
theorem dX4_order_19 : decode cX4_order 19 = .ok (.ireturn, 1) := by decide +kernel
theorem dX4_order_20 : decode cX4_order 20 = .ok (.aload_n 3, 1) := by decide +kernel
theorem dX4_order_21 : decode cX4_order 21 = .ok (.aload_n 3, 1) := by decide +kernel
theorem dX4_order_22 : decode cX4_order 22 = .ok (.iload_n 2, 1) := by decide +kernel
theorem dX4_order_23 : decode cX4_order 23 = .ok (.invokevirtual 202, 3) := by decide +kernel
theorem dX4_order_26 : decode cX4_order 26 = .ok (.invokevirtual 223, 3) := by decide +kernel
theorem dX4_order_29 : decode cX4_order 29 = .ok (.ireturn, 1) := by decide +kernel
theorem dX4_told_0 : decode cX4_told 0 = .ok (.iload_n 1, 1) := by decide +kernel
theorem dX4_told_1 : decode cX4_told 1 = .ok (.tableswitch 54 0 3 #[31, 39, 44, 49], 31) := by decide +kernel
theorem dX4_told_32 : decode cX4_told 32 = .ok (.aload_n 0, 1) := by decide +kernel
theorem dX4_told_33 : decode cX4_told 33 = .ok (.getfield 10, 3) := by decide +kernel
theorem dX4_told_36 : decode cX4_told 36 = .ok (.getfield 91, 3) := by decide +kernel
theorem dX4_told_39 : decode cX4_told 39 = .ok (.ireturn, 1) := by decide +kernel
theorem dX4_told_40 : decode cX4_told 40 = .ok (.aload_n 0, 1) := by decide +kernel
theorem dX4_told_41 : decode cX4_told 41 = .ok (.getfield 53, 3) := by decide +kernel
theorem dX4_told_44 : decode cX4_told 44 = .ok (.ireturn, 1) := by decide +kernel
theorem dX4_told_45 : decode cX4_told 45 = .ok (.aload_n 0, 1) := by decide +kernel
theorem dX4_told_46 : decode cX4_told 46 = .ok (.getfield 120, 3) := by decide +kernel
theorem dX4_told_49 : decode cX4_told 49 = .ok (.ireturn, 1) := by decide +kernel
theorem dX4_told_50 : decode cX4_told 50 = .ok (.aload_n 0, 1) := by decide +kernel
theorem dX4_told_51 : decode cX4_told 51 = .ok (.getfield 123, 3) := by decide +kernel
theorem dX4_told_54 : decode cX4_told 54 = .ok (.ireturn, 1) := by decide +kernel
theorem dX4_told_55 : decode cX4_told 55 = .ok (.iconst (-1), 1) := by decide +kernel
theorem dX4_told_56 : decode cX4_told 56 = .ok (.ireturn, 1) := by decide +kernel
theorem dX4_traced_0 : decode cX4_traced 0 = .ok (.aload_n 0, 1) := by decide +kernel
theorem dX4_traced_1 : decode cX4_traced 1 = .ok (.getfield 151, 3) := by decide +kernel
theorem dX4_traced_4 : decode cX4_traced 4 = .ok (.lreturn, 1) := by decide +kernel
theorem dX4_start_0 : decode cX4_start 0 = .ok (.aload_n 0, 1) := by decide +kernel
theorem dX4_start_1 : decode cX4_start 1 = .ok (.getfield 10, 3) := by decide +kernel
theorem dX4_start_4 : decode cX4_start 4 = .ok (.iload_n 1, 1) := by decide +kernel
theorem dX4_start_5 : decode cX4_start 5 = .ok (.invokevirtual 226, 3) := by decide +kernel
theorem dX4_start_8 : decode cX4_start 8 = .ok (.aload_n 0, 1) := by decide +kernel
theorem dX4_start_9 : decode cX4_start 9 = .ok (.iconst 0, 1) := by decide +kernel
theorem dX4_start_10 : decode cX4_start 10 = .ok (.putfield 120, 3) := by decide +kernel
theorem dX4_start_13 : decode cX4_start 13 = .ok (.aload_n 0, 1) := by decide +kernel
theorem dX4_start_14 : decode cX4_start 14 = .ok (.iconst 1, 1) := by decide +kernel
theorem dX4_start_15 : decode cX4_start 15 = .ok (.putfield 53, 3) := by decide +kernel
theorem dX4_start_18 : decode cX4_start 18 = .ok (.aload_n 0, 1) := by decide +kernel
theorem dX4_start_19 : decode cX4_start 19 = .ok (.getfield 53, 3) := by decide +kernel
theorem dX4_start_22 : decode cX4_start 22 = .ok (.iconst 5, 1) := by decide +kernel
theorem dX4_start_23 : decode cX4_start 23 = .ok (.if_icmp .ge 35, 3) := by decide +kernel
theorem dX4_start_26 : decode cX4_start 26 = .ok (.aload_n 0, 1) := by decide +kernel
theorem dX4_start_27 : decode cX4_start 27 = .ok (.getfield 10, 3) := by decide +kernel
theorem dX4_start_30 : decode cX4_start 30 = .ok (.aload_n 0, 1) := by decide +kernel
theorem dX4_start_31 : decode cX4_start 31 = .ok (.getfield 53, 3) := by decide +kernel
theorem dX4_start_34 : decode cX4_start 34 = .ok (.iconst 1, 1) := by decide +kernel
theorem dX4_start_35 : decode cX4_start 35 = .ok (.iadd, 1) := by decide +kernel
theorem dX4_start_36 : decode cX4_start 36 = .ok (.invokevirtual 177, 3) := by decide +kernel
theorem dX4_start_39 : decode cX4_start 39 = .ok (.sipush 343, 3) := by decide +kernel
theorem dX4_start_42 : decode cX4_start 42 = .ok (.if_icmp .gt 16, 3) := by decide +kernel
theorem dX4_start_45 : decode cX4_start 45 = .ok (.aload_n 0, 1) := by decide +kernel
theorem dX4_start_46 : decode cX4_start 46 = .ok (.dup, 1) := by decide +kernel
theorem dX4_start_47 : decode cX4_start 47 = .ok (.getfield 53, 3) := by decide +kernel
theorem dX4_start_50 : decode cX4_start 50 = .ok (.iconst 1, 1) := by decide +kernel
theorem dX4_start_51 : decode cX4_start 51 = .ok (.iadd, 1) := by decide +kernel
theorem dX4_start_52 : decode cX4_start 52 = .ok (.putfield 53, 3) := by decide +kernel
theorem dX4_start_55 : decode cX4_start 55 = .ok (.goto (-37), 3) := by decide +kernel
theorem dX4_start_58 : decode cX4_start 58 = .ok (.aload_n 0, 1) := by decide +kernel
theorem dX4_start_59 : decode cX4_start 59 = .ok (.iconst 1, 1) := by decide +kernel
theorem dX4_start_60 : decode cX4_start 60 = .ok (.invokevirtual 56, 3) := by decide +kernel
theorem dX4_start_63 : decode cX4_start 63 = .ok (.astore_n 2, 1) := by decide +kernel
theorem dX4_start_64 : decode cX4_start 64 = .ok (.aload_n 0, 1) := by decide +kernel
theorem dX4_start_65 : decode cX4_start 65 = .ok (.iconst 1, 1) := by decide +kernel
theorem dX4_start_66 : decode cX4_start 66 = .ok (.putfield 123, 3) := by decide +kernel
theorem dX4_start_69 : decode cX4_start 69 = .ok (.aload_n 2, 1) := by decide +kernel
theorem dX4_start_70 : decode cX4_start 70 = .ok (.ifnull 36, 3) := by decide +kernel
theorem dX4_start_73 : decode cX4_start 73 = .ok (.aload_n 0, 1) := by decide +kernel
theorem dX4_start_74 : decode cX4_start 74 = .ok (.getfield 123, 3) := by decide +kernel
theorem dX4_start_77 : decode cX4_start 77 = .ok (.iload_n 1, 1) := by decide +kernel
theorem dX4_start_78 : decode cX4_start 78 = .ok (.if_icmp .ge 28, 3) := by decide +kernel
theorem dX4_start_81 : decode cX4_start 81 = .ok (.aload_n 2, 1) := by decide +kernel
theorem dX4_start_82 : decode cX4_start 82 = .ok (.aload_n 0, 1) := by decide +kernel
theorem dX4_start_83 : decode cX4_start 83 = .ok (.getfield 123, 3) := by decide +kernel
theorem dX4_start_86 : decode cX4_start 86 = .ok (.invokevirtual 84, 3) := by decide +kernel
theorem dX4_start_89 : decode cX4_start 89 = .ok (.iconst (-1), 1) := by decide +kernel
theorem dX4_start_90 : decode cX4_start 90 = .ok (.if_icmp .eq 16, 3) := by decide +kernel
theorem dX4_start_93 : decode cX4_start 93 = .ok (.aload_n 0, 1) := by decide +kernel
theorem dX4_start_94 : decode cX4_start 94 = .ok (.dup, 1) := by decide +kernel
theorem dX4_start_95 : decode cX4_start 95 = .ok (.getfield 123, 3) := by decide +kernel
theorem dX4_start_98 : decode cX4_start 98 = .ok (.iconst 1, 1) := by decide +kernel
theorem dX4_start_99 : decode cX4_start 99 = .ok (.iadd, 1) := by decide +kernel
theorem dX4_start_100 : decode cX4_start 100 = .ok (.putfield 123, 3) := by decide +kernel
theorem dX4_start_103 : decode cX4_start 103 = .ok (.goto (-34), 3) := by decide +kernel
theorem dX4_start_106 : decode cX4_start 106 = .ok (.return_, 1) := by decide +kernel
theorem dX4_fieldAt_0 : decode cX4_fieldAt 0 = .ok (.iload_n 1, 1) := by decide +kernel
theorem dX4_fieldAt_1 : decode cX4_fieldAt 1 = .ok (.iconst 1, 1) := by decide +kernel
theorem dX4_fieldAt_2 : decode cX4_fieldAt 2 = .ok (.if_icmp .lt 20, 3) := by decide +kernel
theorem dX4_fieldAt_5 : decode cX4_fieldAt 5 = .ok (.iload_n 1, 1) := by decide +kernel
theorem dX4_fieldAt_6 : decode cX4_fieldAt 6 = .ok (.aload_n 0, 1) := by decide +kernel
theorem dX4_fieldAt_7 : decode cX4_fieldAt 7 = .ok (.getfield 53, 3) := by decide +kernel
theorem dX4_fieldAt_10 : decode cX4_fieldAt 10 = .ok (.if_icmp .gt 12, 3) := by decide +kernel
theorem dX4_fieldAt_13 : decode cX4_fieldAt 13 = .ok (.iload_n 1, 1) := by decide +kernel
theorem dX4_fieldAt_14 : decode cX4_fieldAt 14 = .ok (.aload_n 0, 1) := by decide +kernel
theorem dX4_fieldAt_15 : decode cX4_fieldAt 15 = .ok (.getfield 18, 3) := by decide +kernel
theorem dX4_fieldAt_18 : decode cX4_fieldAt 18 = .ok (.arraylength, 1) := by decide +kernel
theorem dX4_fieldAt_19 : decode cX4_fieldAt 19 = .ok (.if_icmp .le 5, 3) := by decide +kernel
theorem dX4_fieldAt_22 : decode cX4_fieldAt 22 = .ok (.aconst_null, 1) := by decide +kernel
theorem dX4_fieldAt_23 : decode cX4_fieldAt 23 = .ok (.areturn, 1) := by decide +kernel
theorem dX4_fieldAt_24 : decode cX4_fieldAt 24 = .ok (.aload_n 0, 1) := by decide +kernel
theorem dX4_fieldAt_25 : decode cX4_fieldAt 25 = .ok (.getfield 18, 3) := by decide +kernel
theorem dX4_fieldAt_28 : decode cX4_fieldAt 28 = .ok (.iload_n 1, 1) := by decide +kernel
theorem dX4_fieldAt_29 : decode cX4_fieldAt 29 = .ok (.iconst 1, 1) := by decide +kernel
theorem dX4_fieldAt_30 : decode cX4_fieldAt 30 = .ok (.isub, 1) := by decide +kernel
theorem dX4_fieldAt_31 : decode cX4_fieldAt 31 = .ok (.aaload, 1) := by decide +kernel
theorem dX4_fieldAt_32 : decode cX4_fieldAt 32 = .ok (.astore_n 2, 1) := by decide +kernel
theorem dX4_fieldAt_33 : decode cX4_fieldAt 33 = .ok (.aload_n 2, 1) := by decide +kernel
theorem dX4_fieldAt_34 : decode cX4_fieldAt 34 = .ok (.invokevirtual 228, 3) := by decide +kernel
theorem dX4_fieldAt_37 : decode cX4_fieldAt 37 = .ok (.aload_n 2, 1) := by decide +kernel
theorem dX4_fieldAt_38 : decode cX4_fieldAt 38 = .ok (.areturn, 1) := by decide +kernel
theorem dX4_curveAt_0 : decode cX4_curveAt 0 = .ok (.iload_n 1, 1) := by decide +kernel
theorem dX4_curveAt_1 : decode cX4_curveAt 1 = .ok (.ifCond .lt 20, 3) := by decide +kernel
theorem dX4_curveAt_4 : decode cX4_curveAt 4 = .ok (.iload_n 1, 1) := by decide +kernel
theorem dX4_curveAt_5 : decode cX4_curveAt 5 = .ok (.aload_n 0, 1) := by decide +kernel
theorem dX4_curveAt_6 : decode cX4_curveAt 6 = .ok (.getfield 120, 3) := by decide +kernel
theorem dX4_curveAt_9 : decode cX4_curveAt 9 = .ok (.if_icmp .ge 12, 3) := by decide +kernel
theorem dX4_curveAt_12 : decode cX4_curveAt 12 = .ok (.iload_n 1, 1) := by decide +kernel
theorem dX4_curveAt_13 : decode cX4_curveAt 13 = .ok (.aload_n 0, 1) := by decide +kernel
theorem dX4_curveAt_14 : decode cX4_curveAt 14 = .ok (.getfield 24, 3) := by decide +kernel
theorem dX4_curveAt_17 : decode cX4_curveAt 17 = .ok (.arraylength, 1) := by decide +kernel
theorem dX4_curveAt_18 : decode cX4_curveAt 18 = .ok (.if_icmp .lt 7, 3) := by decide +kernel
theorem dX4_curveAt_21 : decode cX4_curveAt 21 = .ok (.aconst_null, 1) := by decide +kernel
theorem dX4_curveAt_22 : decode cX4_curveAt 22 = .ok (.goto 9, 3) := by decide +kernel
theorem dX4_curveAt_25 : decode cX4_curveAt 25 = .ok (.aload_n 0, 1) := by decide +kernel
theorem dX4_curveAt_26 : decode cX4_curveAt 26 = .ok (.getfield 24, 3) := by decide +kernel
theorem dX4_curveAt_29 : decode cX4_curveAt 29 = .ok (.iload_n 1, 1) := by decide +kernel
theorem dX4_curveAt_30 : decode cX4_curveAt 30 = .ok (.aaload, 1) := by decide +kernel
theorem dX4_curveAt_31 : decode cX4_curveAt 31 = .ok (.areturn, 1) := by decide +kernel
theorem dX4_listAt_0 : decode cX4_listAt 0 = .ok (.aload_n 0, 1) := by decide +kernel
theorem dX4_listAt_1 : decode cX4_listAt 1 = .ok (.iload_n 1, 1) := by decide +kernel
theorem dX4_listAt_2 : decode cX4_listAt 2 = .ok (.invokevirtual 130, 3) := by decide +kernel
theorem dX4_listAt_5 : decode cX4_listAt 5 = .ok (.astore_n 2, 1) := by decide +kernel
theorem dX4_listAt_6 : decode cX4_listAt 6 = .ok (.aload_n 2, 1) := by decide +kernel
theorem dX4_listAt_7 : decode cX4_listAt 7 = .ok (.ifnull 12, 3) := by decide +kernel
theorem dX4_listAt_10 : decode cX4_listAt 10 = .ok (.aload_n 2, 1) := by decide +kernel
theorem dX4_listAt_11 : decode cX4_listAt 11 = .ok (.getfield 143, 3) := by decide +kernel
theorem dX4_listAt_14 : decode cX4_listAt 14 = .ok (.iconst 2, 1) := by decide +kernel
theorem dX4_listAt_15 : decode cX4_listAt 15 = .ok (.irem, 1) := by decide +kernel
theorem dX4_listAt_16 : decode cX4_listAt 16 = .ok (.ifCond .ne 7, 3) := by decide +kernel
theorem dX4_listAt_19 : decode cX4_listAt 19 = .ok (.aconst_null, 1) := by decide +kernel
theorem dX4_listAt_20 : decode cX4_listAt 20 = .ok (.goto 7, 3) := by decide +kernel
theorem dX4_listAt_23 : decode cX4_listAt 23 = .ok (.aload_n 2, 1) := by decide +kernel
theorem dX4_listAt_24 : decode cX4_listAt 24 = .ok (.getfield 231, 3) := by decide +kernel
theorem dX4_listAt_27 : decode cX4_listAt 27 = .ok (.areturn, 1) := by decide +kernel
theorem dX4_isCurvePolynomial_0 : decode cX4_isCurvePolynomial 0 = .ok (.iload_n 1, 1) := by decide +kernel
theorem dX4_isCurvePolynomial_1 : decode cX4_isCurvePolynomial 1 = .ok (.aload_n 0, 1) := by decide +kernel
theorem dX4_isCurvePolynomial_2 : decode cX4_isCurvePolynomial 2 = .ok (.getfield 10, 3) := by decide +kernel
theorem dX4_isCurvePolynomial_5 : decode cX4_isCurvePolynomial 5 = .ok (.iconst 3, 1) := by decide +kernel
theorem dX4_isCurvePolynomial_6 : decode cX4_isCurvePolynomial 6 = .ok (.invokevirtual 177, 3) := by decide +kernel
theorem dX4_isCurvePolynomial_9 : decode cX4_isCurvePolynomial 9 = .ok (.if_icmp .lt 20, 3) := by decide +kernel
theorem dX4_isCurvePolynomial_12 : decode cX4_isCurvePolynomial 12 = .ok (.iload_n 1, 1) := by decide +kernel
theorem dX4_isCurvePolynomial_13 : decode cX4_isCurvePolynomial 13 = .ok (.aload_n 0, 1) := by decide +kernel
theorem dX4_isCurvePolynomial_14 : decode cX4_isCurvePolynomial 14 = .ok (.getfield 10, 3) := by decide +kernel
theorem dX4_isCurvePolynomial_17 : decode cX4_isCurvePolynomial 17 = .ok (.bipush 7, 2) := by decide +kernel
theorem dX4_isCurvePolynomial_19 : decode cX4_isCurvePolynomial 19 = .ok (.invokevirtual 177, 3) := by decide +kernel
theorem dX4_isCurvePolynomial_22 : decode cX4_isCurvePolynomial 22 = .ok (.if_icmp .ge 7, 3) := by decide +kernel
theorem dX4_isCurvePolynomial_25 : decode cX4_isCurvePolynomial 25 = .ok (.iconst 1, 1) := by decide +kernel
theorem dX4_isCurvePolynomial_26 : decode cX4_isCurvePolynomial 26 = .ok (.goto 4, 3) := by decide +kernel
theorem dX4_isCurvePolynomial_29 : decode cX4_isCurvePolynomial 29 = .ok (.iconst 0, 1) := by decide +kernel
theorem dX4_isCurvePolynomial_30 : decode cX4_isCurvePolynomial 30 = .ok (.ireturn, 1) := by decide +kernel
theorem dX4_shareOf_0 : decode cX4_shareOf 0 = .ok (.aload_n 0, 1) := by decide +kernel
theorem dX4_shareOf_1 : decode cX4_shareOf 1 = .ok (.iconst 1, 1) := by decide +kernel
theorem dX4_shareOf_2 : decode cX4_shareOf 2 = .ok (.invokevirtual 56, 3) := by decide +kernel
theorem dX4_shareOf_5 : decode cX4_shareOf 5 = .ok (.astore_n 2, 1) := by decide +kernel
theorem dX4_shareOf_6 : decode cX4_shareOf 6 = .ok (.aload_n 0, 1) := by decide +kernel
theorem dX4_shareOf_7 : decode cX4_shareOf 7 = .ok (.iconst 2, 1) := by decide +kernel
theorem dX4_shareOf_8 : decode cX4_shareOf 8 = .ok (.invokevirtual 56, 3) := by decide +kernel
theorem dX4_shareOf_11 : decode cX4_shareOf 11 = .ok (.astore_n 3, 1) := by decide +kernel
theorem dX4_shareOf_12 : decode cX4_shareOf 12 = .ok (.aload_n 1, 1) := by decide +kernel
theorem dX4_shareOf_13 : decode cX4_shareOf 13 = .ok (.getfield 235, 3) := by decide +kernel
theorem dX4_shareOf_16 : decode cX4_shareOf 16 = .ok (.ifCond .ne 17, 3) := by decide +kernel
theorem dX4_shareOf_19 : decode cX4_shareOf 19 = .ok (.aload_n 2, 1) := by decide +kernel
theorem dX4_shareOf_20 : decode cX4_shareOf 20 = .ok (.ifnull 13, 3) := by decide +kernel
theorem dX4_shareOf_23 : decode cX4_shareOf 23 = .ok (.aload_n 3, 1) := by decide +kernel
theorem dX4_shareOf_24 : decode cX4_shareOf 24 = .ok (.ifnull 9, 3) := by decide +kernel
theorem dX4_shareOf_27 : decode cX4_shareOf 27 = .ok (.aload_n 1, 1) := by decide +kernel
theorem dX4_shareOf_28 : decode cX4_shareOf 28 = .ok (.aload_n 2, 1) := by decide +kernel
theorem dX4_shareOf_29 : decode cX4_shareOf 29 = .ok (.aload_n 3, 1) := by decide +kernel
theorem dX4_shareOf_30 : decode cX4_shareOf 30 = .ok (.invokevirtual 239, 3) := by decide +kernel
theorem dX4_shareOf_33 : decode cX4_shareOf 33 = .ok (.aload_n 1, 1) := by decide +kernel
theorem dX4_shareOf_34 : decode cX4_shareOf 34 = .ok (.getfield 243, 3) := by decide +kernel
theorem dX4_shareOf_37 : decode cX4_shareOf 37 = .ok (.areturn, 1) := by decide +kernel
theorem dX4_at_0 : decode cX4_at 0 = .ok (.iload_n 1, 1) := by decide +kernel
theorem dX4_at_1 : decode cX4_at 1 = .ok (.ifCond .lt 15, 3) := by decide +kernel
theorem dX4_at_4 : decode cX4_at 4 = .ok (.iload_n 1, 1) := by decide +kernel
theorem dX4_at_5 : decode cX4_at 5 = .ok (.aload_n 0, 1) := by decide +kernel
theorem dX4_at_6 : decode cX4_at 6 = .ok (.arraylength, 1) := by decide +kernel
theorem dX4_at_7 : decode cX4_at 7 = .ok (.if_icmp .ge 9, 3) := by decide +kernel
theorem dX4_at_10 : decode cX4_at 10 = .ok (.aload_n 0, 1) := by decide +kernel
theorem dX4_at_11 : decode cX4_at 11 = .ok (.iload_n 1, 1) := by decide +kernel
theorem dX4_at_12 : decode cX4_at 12 = .ok (.iaload, 1) := by decide +kernel
theorem dX4_at_13 : decode cX4_at 13 = .ok (.goto 4, 3) := by decide +kernel
theorem dX4_at_16 : decode cX4_at 16 = .ok (.iconst 0, 1) := by decide +kernel
theorem dX4_at_17 : decode cX4_at 17 = .ok (.ireturn, 1) := by decide +kernel
theorem dX4_put_0 : decode cX4_put 0 = .ok (.iload_n 1, 1) := by decide +kernel
theorem dX4_put_1 : decode cX4_put 1 = .ok (.ifCond .lt 13, 3) := by decide +kernel
theorem dX4_put_4 : decode cX4_put 4 = .ok (.iload_n 1, 1) := by decide +kernel
theorem dX4_put_5 : decode cX4_put 5 = .ok (.aload_n 0, 1) := by decide +kernel
theorem dX4_put_6 : decode cX4_put 6 = .ok (.arraylength, 1) := by decide +kernel
theorem dX4_put_7 : decode cX4_put 7 = .ok (.if_icmp .ge 7, 3) := by decide +kernel
theorem dX4_put_10 : decode cX4_put 10 = .ok (.aload_n 0, 1) := by decide +kernel
theorem dX4_put_11 : decode cX4_put 11 = .ok (.iload_n 1, 1) := by decide +kernel
theorem dX4_put_12 : decode cX4_put 12 = .ok (.iload_n 2, 1) := by decide +kernel
theorem dX4_put_13 : decode cX4_put 13 = .ok (.iastore, 1) := by decide +kernel
theorem dX4_put_14 : decode cX4_put 14 = .ok (.return_, 1) := by decide +kernel
theorem dX5_init_0 : decode cX5_init 0 = .ok (.aload_n 0, 1) := by decide +kernel
theorem dX5_init_1 : decode cX5_init 1 = .ok (.invokespecial 1, 3) := by decide +kernel
theorem dX5_init_4 : decode cX5_init 4 = .ok (.aload_n 0, 1) := by decide +kernel
theorem dX5_init_5 : decode cX5_init 5 = .ok (.iconst 3, 1) := by decide +kernel
theorem dX5_init_6 : decode cX5_init 6 = .ok (.putfield 7, 3) := by decide +kernel
theorem dX5_init_9 : decode cX5_init 9 = .ok (.aload_n 0, 1) := by decide +kernel
theorem dX5_init_10 : decode cX5_init 10 = .ok (.iconst 5, 1) := by decide +kernel
theorem dX5_init_11 : decode cX5_init 11 = .ok (.putfield 13, 3) := by decide +kernel
theorem dX5_init_14 : decode cX5_init 14 = .ok (.aload_n 0, 1) := by decide +kernel
theorem dX5_init_15 : decode cX5_init 15 = .ok (.bipush 6, 2) := by decide +kernel
theorem dX5_init_17 : decode cX5_init 17 = .ok (.newarray .int, 2) := by decide +kernel
theorem dX5_init_19 : decode cX5_init 19 = .ok (.putfield 16, 3) := by decide +kernel
theorem dX5_init_22 : decode cX5_init 22 = .ok (.aload_n 0, 1) := by decide +kernel
theorem dX5_init_23 : decode cX5_init 23 = .ok (.bipush 6, 2) := by decide +kernel
theorem dX5_init_25 : decode cX5_init 25 = .ok (.newarray .int, 2) := by decide +kernel
theorem dX5_init_27 : decode cX5_init 27 = .ok (.putfield 20, 3) := by decide +kernel
theorem dX5_init_30 : decode cX5_init 30 = .ok (.aload_n 0, 1) := by decide +kernel
theorem dX5_init_31 : decode cX5_init 31 = .ok (.bipush 8, 2) := by decide +kernel
theorem dX5_init_33 : decode cX5_init 33 = .ok (.newarray .int, 2) := by decide +kernel
theorem dX5_init_35 : decode cX5_init 35 = .ok (.putfield 23, 3) := by decide +kernel
theorem dX5_init_38 : decode cX5_init 38 = .ok (.aload_n 0, 1) := by decide +kernel
theorem dX5_init_39 : decode cX5_init 39 = .ok (.bipush 8, 2) := by decide +kernel
theorem dX5_init_41 : decode cX5_init 41 = .ok (.newarray .int, 2) := by decide +kernel
theorem dX5_init_43 : decode cX5_init 43 = .ok (.putfield 26, 3) := by decide +kernel
theorem dX5_init_46 : decode cX5_init 46 = .ok (.aload_n 0, 1) := by decide +kernel
theorem dX5_init_47 : decode cX5_init 47 = .ok (.bipush 8, 2) := by decide +kernel
theorem dX5_init_49 : decode cX5_init 49 = .ok (.newarray .int, 2) := by decide +kernel
theorem dX5_init_51 : decode cX5_init 51 = .ok (.putfield 29, 3) := by decide +kernel
theorem dX5_init_54 : decode cX5_init 54 = .ok (.aload_n 0, 1) := by decide +kernel
theorem dX5_init_55 : decode cX5_init 55 = .ok (.sipush 128, 3) := by decide +kernel
theorem dX5_init_58 : decode cX5_init 58 = .ok (.newarray .int, 2) := by decide +kernel
theorem dX5_init_60 : decode cX5_init 60 = .ok (.putfield 32, 3) := by decide +kernel
theorem dX5_init_63 : decode cX5_init 63 = .ok (.aload_n 0, 1) := by decide +kernel
theorem dX5_init_64 : decode cX5_init 64 = .ok (.bipush (-9), 2) := by decide +kernel
theorem dX5_init_66 : decode cX5_init 66 = .ok (.putfield 35, 3) := by decide +kernel
theorem dX5_init_69 : decode cX5_init 69 = .ok (.aload_n 0, 1) := by decide +kernel
theorem dX5_init_70 : decode cX5_init 70 = .ok (.sipush 640, 3) := by decide +kernel
theorem dX5_init_73 : decode cX5_init 73 = .ok (.newarray .int, 2) := by decide +kernel
theorem dX5_init_75 : decode cX5_init 75 = .ok (.putfield 38, 3) := by decide +kernel
theorem dX5_init_78 : decode cX5_init 78 = .ok (.aload_n 0, 1) := by decide +kernel
theorem dX5_init_79 : decode cX5_init 79 = .ok (.sipush 344, 3) := by decide +kernel
theorem dX5_init_82 : decode cX5_init 82 = .ok (.newarray .int, 2) := by decide +kernel
theorem dX5_init_84 : decode cX5_init 84 = .ok (.putfield 41, 3) := by decide +kernel
theorem dX5_init_87 : decode cX5_init 87 = .ok (.aload_n 0, 1) := by decide +kernel
theorem dX5_init_88 : decode cX5_init 88 = .ok (.bipush (-9), 2) := by decide +kernel
theorem dX5_init_90 : decode cX5_init 90 = .ok (.putfield 44, 3) := by decide +kernel
theorem dX5_init_93 : decode cX5_init 93 = .ok (.aload_n 0, 1) := by decide +kernel
theorem dX5_init_94 : decode cX5_init 94 = .ok (.sipush 600, 3) := by decide +kernel
theorem dX5_init_97 : decode cX5_init 97 = .ok (.newarray .int, 2) := by decide +kernel
theorem dX5_init_99 : decode cX5_init 99 = .ok (.putfield 47, 3) := by decide +kernel
theorem dX5_init_102 : decode cX5_init 102 = .ok (.aload_n 0, 1) := by decide +kernel
theorem dX5_init_103 : decode cX5_init 103 = .ok (.sipush 600, 3) := by decide +kernel
theorem dX5_init_106 : decode cX5_init 106 = .ok (.newarray .int, 2) := by decide +kernel
theorem dX5_init_108 : decode cX5_init 108 = .ok (.putfield 50, 3) := by decide +kernel
theorem dX5_init_111 : decode cX5_init 111 = .ok (.aload_n 0, 1) := by decide +kernel
theorem dX5_init_112 : decode cX5_init 112 = .ok (.sipush 344, 3) := by decide +kernel
theorem dX5_init_115 : decode cX5_init 115 = .ok (.newarray .int, 2) := by decide +kernel
theorem dX5_init_117 : decode cX5_init 117 = .ok (.putfield 53, 3) := by decide +kernel
theorem dX5_init_120 : decode cX5_init 120 = .ok (.aload_n 0, 1) := by decide +kernel
theorem dX5_init_121 : decode cX5_init 121 = .ok (.iconst 5, 1) := by decide +kernel
theorem dX5_init_122 : decode cX5_init 122 = .ok (.newarray .int, 2) := by decide +kernel
theorem dX5_init_124 : decode cX5_init 124 = .ok (.putfield 56, 3) := by decide +kernel
theorem dX5_init_127 : decode cX5_init 127 = .ok (.aload_n 0, 1) := by decide +kernel
theorem dX5_init_128 : decode cX5_init 128 = .ok (.bipush 13, 2) := by decide +kernel
theorem dX5_init_130 : decode cX5_init 130 = .ok (.newarray .long, 2) := by decide +kernel
theorem dX5_init_132 : decode cX5_init 132 = .ok (.putfield 59, 3) := by decide +kernel
theorem dX5_init_135 : decode cX5_init 135 = .ok (.aload_n 0, 1) := by decide +kernel
theorem dX5_init_136 : decode cX5_init 136 = .ok (.iconst 3, 1) := by decide +kernel
theorem dX5_init_137 : decode cX5_init 137 = .ok (.invokevirtual 63, 3) := by decide +kernel
theorem dX5_init_140 : decode cX5_init 140 = .ok (.return_, 1) := by decide +kernel
theorem dX5_in_0 : decode cX5_in 0 = .ok (.lload_n 0, 1) := by decide +kernel
theorem dX5_in_1 : decode cX5_in 1 = .ok (.lload_n 2, 1) := by decide +kernel
theorem dX5_in_2 : decode cX5_in 2 = .ok (.lcmp, 1) := by decide +kernel
theorem dX5_in_3 : decode cX5_in 3 = .ok (.ifCond .lt 14, 3) := by decide +kernel
theorem dX5_in_6 : decode cX5_in 6 = .ok (.lload_n 0, 1) := by decide +kernel
theorem dX5_in_7 : decode cX5_in 7 = .ok (.lload 4, 2) := by decide +kernel
theorem dX5_in_9 : decode cX5_in 9 = .ok (.lcmp, 1) := by decide +kernel
theorem dX5_in_10 : decode cX5_in 10 = .ok (.ifCond .gt 7, 3) := by decide +kernel
theorem dX5_in_13 : decode cX5_in 13 = .ok (.iconst 1, 1) := by decide +kernel
theorem dX5_in_14 : decode cX5_in 14 = .ok (.goto 4, 3) := by decide +kernel
theorem dX5_in_17 : decode cX5_in 17 = .ok (.iconst 0, 1) := by decide +kernel
theorem dX5_in_18 : decode cX5_in 18 = .ok (.ireturn, 1) := by decide +kernel
theorem dX5_left_0 : decode cX5_left 0 = .ok (.iload_n 1, 1) := by decide +kernel
theorem dX5_left_1 : decode cX5_left 1 = .ok (.aload_n 0, 1) := by decide +kernel
theorem dX5_left_2 : decode cX5_left 2 = .ok (.getfield 7, 3) := by decide +kernel
theorem dX5_left_5 : decode cX5_left 5 = .ok (.irem, 1) := by decide +kernel
theorem dX5_left_6 : decode cX5_left 6 = .ok (.istore_n 2, 1) := by decide +kernel
theorem dX5_left_7 : decode cX5_left 7 = .ok (.iload_n 2, 1) := by decide +kernel
theorem dX5_left_8 : decode cX5_left 8 = .ok (.ifCond .ge 12, 3) := by decide +kernel
theorem dX5_left_11 : decode cX5_left 11 = .ok (.iload_n 2, 1) := by decide +kernel
theorem dX5_left_12 : decode cX5_left 12 = .ok (.aload_n 0, 1) := by decide +kernel
theorem dX5_left_13 : decode cX5_left 13 = .ok (.getfield 7, 3) := by decide +kernel
theorem dX5_left_16 : decode cX5_left 16 = .ok (.iadd, 1) := by decide +kernel
theorem dX5_left_17 : decode cX5_left 17 = .ok (.goto 4, 3) := by decide +kernel
theorem dX5_left_20 : decode cX5_left 20 = .ok (.iload_n 2, 1) := by decide +kernel
theorem dX5_left_21 : decode cX5_left 21 = .ok (.ireturn, 1) := by decide +kernel
theorem dX5_inverse_0 : decode cX5_inverse 0 = .ok (.iconst 1, 1) := by decide +kernel
theorem dX5_inverse_1 : decode cX5_inverse 1 = .ok (.istore_n 2, 1) := by decide +kernel
theorem dX5_inverse_2 : decode cX5_inverse 2 = .ok (.iload_n 2, 1) := by decide +kernel
theorem dX5_inverse_3 : decode cX5_inverse 3 = .ok (.iload_n 1, 1) := by decide +kernel
theorem dX5_inverse_4 : decode cX5_inverse 4 = .ok (.imul, 1) := by decide +kernel
theorem dX5_inverse_5 : decode cX5_inverse 5 = .ok (.aload_n 0, 1) := by decide +kernel
theorem dX5_inverse_6 : decode cX5_inverse 6 = .ok (.getfield 7, 3) := by decide +kernel
theorem dX5_inverse_9 : decode cX5_inverse 9 = .ok (.irem, 1) := by decide +kernel
theorem dX5_inverse_10 : decode cX5_inverse 10 = .ok (.iconst 1, 1) := by decide +kernel
theorem dX5_inverse_11 : decode cX5_inverse 11 = .ok (.if_icmp .eq 9, 3) := by decide +kernel
theorem dX5_inverse_14 : decode cX5_inverse 14 = .ok (.iinc 2 1, 3) := by decide +kernel
theorem dX5_inverse_17 : decode cX5_inverse 17 = .ok (.goto (-15), 3) := by decide +kernel
theorem dX5_inverse_20 : decode cX5_inverse 20 = .ok (.iload_n 2, 1) := by decide +kernel
theorem dX5_inverse_21 : decode cX5_inverse 21 = .ok (.ireturn, 1) := by decide +kernel
theorem dX5_clear_0 : decode cX5_clear 0 = .ok (.iconst 0, 1) := by decide +kernel
theorem dX5_clear_1 : decode cX5_clear 1 = .ok (.istore_n 2, 1) := by decide +kernel
theorem dX5_clear_2 : decode cX5_clear 2 = .ok (.iload_n 2, 1) := by decide +kernel
theorem dX5_clear_3 : decode cX5_clear 3 = .ok (.bipush 16, 2) := by decide +kernel
theorem dX5_clear_5 : decode cX5_clear 5 = .ok (.if_icmp .ge 21, 3) := by decide +kernel
theorem dX5_clear_8 : decode cX5_clear 8 = .ok (.aload_n 0, 1) := by decide +kernel
theorem dX5_clear_9 : decode cX5_clear 9 = .ok (.getfield 38, 3) := by decide +kernel
theorem dX5_clear_12 : decode cX5_clear 12 = .ok (.bipush 16, 2) := by decide +kernel
theorem dX5_clear_14 : decode cX5_clear 14 = .ok (.iload_n 1, 1) := by decide +kernel
theorem dX5_clear_15 : decode cX5_clear 15 = .ok (.imul, 1) := by decide +kernel
theorem dX5_clear_16 : decode cX5_clear 16 = .ok (.iload_n 2, 1) := by decide +kernel
theorem dX5_clear_17 : decode cX5_clear 17 = .ok (.iadd, 1) := by decide +kernel
theorem dX5_clear_18 : decode cX5_clear 18 = .ok (.iconst 0, 1) := by decide +kernel
theorem dX5_clear_19 : decode cX5_clear 19 = .ok (.iastore, 1) := by decide +kernel
theorem dX5_clear_20 : decode cX5_clear 20 = .ok (.iinc 2 1, 3) := by decide +kernel
theorem dX5_clear_23 : decode cX5_clear 23 = .ok (.goto (-21), 3) := by decide +kernel
theorem dX5_clear_26 : decode cX5_clear 26 = .ok (.return_, 1) := by decide +kernel
theorem dX5_load_0 : decode cX5_load 0 = .ok (.iload_n 2, 1) := by decide +kernel
theorem dX5_load_1 : decode cX5_load 1 = .ok (.istore_n 3, 1) := by decide +kernel
theorem dX5_load_2 : decode cX5_load 2 = .ok (.iconst 0, 1) := by decide +kernel
theorem dX5_load_3 : decode cX5_load 3 = .ok (.istore 4, 2) := by decide +kernel
theorem dX5_load_5 : decode cX5_load 5 = .ok (.iload 4, 2) := by decide +kernel
theorem dX5_load_7 : decode cX5_load 7 = .ok (.bipush 16, 2) := by decide +kernel
theorem dX5_load_9 : decode cX5_load 9 = .ok (.if_icmp .ge 34, 3) := by decide +kernel
theorem dX5_load_12 : decode cX5_load 12 = .ok (.aload_n 0, 1) := by decide +kernel
theorem dX5_load_13 : decode cX5_load 13 = .ok (.getfield 38, 3) := by decide +kernel
theorem dX5_load_16 : decode cX5_load 16 = .ok (.bipush 16, 2) := by decide +kernel
theorem dX5_load_18 : decode cX5_load 18 = .ok (.iload_n 1, 1) := by decide +kernel
theorem dX5_load_19 : decode cX5_load 19 = .ok (.imul, 1) := by decide +kernel
theorem dX5_load_20 : decode cX5_load 20 = .ok (.iload 4, 2) := by decide +kernel
theorem dX5_load_22 : decode cX5_load 22 = .ok (.iadd, 1) := by decide +kernel
theorem dX5_load_23 : decode cX5_load 23 = .ok (.iload_n 3, 1) := by decide +kernel
theorem dX5_load_24 : decode cX5_load 24 = .ok (.aload_n 0, 1) := by decide +kernel
theorem dX5_load_25 : decode cX5_load 25 = .ok (.getfield 7, 3) := by decide +kernel
theorem dX5_load_28 : decode cX5_load 28 = .ok (.irem, 1) := by decide +kernel
theorem dX5_load_29 : decode cX5_load 29 = .ok (.iastore, 1) := by decide +kernel
theorem dX5_load_30 : decode cX5_load 30 = .ok (.iload_n 3, 1) := by decide +kernel
theorem dX5_load_31 : decode cX5_load 31 = .ok (.aload_n 0, 1) := by decide +kernel
theorem dX5_load_32 : decode cX5_load 32 = .ok (.getfield 7, 3) := by decide +kernel
theorem dX5_load_35 : decode cX5_load 35 = .ok (.idiv, 1) := by decide +kernel
theorem dX5_load_36 : decode cX5_load 36 = .ok (.istore_n 3, 1) := by decide +kernel
theorem dX5_load_37 : decode cX5_load 37 = .ok (.iinc 4 1, 3) := by decide +kernel
theorem dX5_load_40 : decode cX5_load 40 = .ok (.goto (-35), 3) := by decide +kernel
theorem dX5_load_43 : decode cX5_load 43 = .ok (.return_, 1) := by decide +kernel
theorem dX5_number_0 : decode cX5_number 0 = .ok (.iconst 0, 1) := by decide +kernel
theorem dX5_number_1 : decode cX5_number 1 = .ok (.istore_n 2, 1) := by decide +kernel
theorem dX5_number_2 : decode cX5_number 2 = .ok (.bipush 15, 2) := by decide +kernel
theorem dX5_number_4 : decode cX5_number 4 = .ok (.istore_n 3, 1) := by decide +kernel
theorem dX5_number_5 : decode cX5_number 5 = .ok (.iload_n 3, 1) := by decide +kernel
theorem dX5_number_6 : decode cX5_number 6 = .ok (.ifCond .lt 28, 3) := by decide +kernel
theorem dX5_number_9 : decode cX5_number 9 = .ok (.aload_n 0, 1) := by decide +kernel
theorem dX5_number_10 : decode cX5_number 10 = .ok (.getfield 7, 3) := by decide +kernel
theorem dX5_number_13 : decode cX5_number 13 = .ok (.iload_n 2, 1) := by decide +kernel
theorem dX5_number_14 : decode cX5_number 14 = .ok (.imul, 1) := by decide +kernel
theorem dX5_number_15 : decode cX5_number 15 = .ok (.aload_n 0, 1) := by decide +kernel
theorem dX5_number_16 : decode cX5_number 16 = .ok (.getfield 38, 3) := by decide +kernel
theorem dX5_number_19 : decode cX5_number 19 = .ok (.bipush 16, 2) := by decide +kernel
theorem dX5_number_21 : decode cX5_number 21 = .ok (.iload_n 1, 1) := by decide +kernel
theorem dX5_number_22 : decode cX5_number 22 = .ok (.imul, 1) := by decide +kernel
theorem dX5_number_23 : decode cX5_number 23 = .ok (.iload_n 3, 1) := by decide +kernel
theorem dX5_number_24 : decode cX5_number 24 = .ok (.iadd, 1) := by decide +kernel
theorem dX5_number_25 : decode cX5_number 25 = .ok (.iaload, 1) := by decide +kernel
theorem dX5_number_26 : decode cX5_number 26 = .ok (.iadd, 1) := by decide +kernel
theorem dX5_number_27 : decode cX5_number 27 = .ok (.istore_n 2, 1) := by decide +kernel
theorem dX5_number_28 : decode cX5_number 28 = .ok (.iinc 3 (-1), 3) := by decide +kernel
theorem dX5_number_31 : decode cX5_number 31 = .ok (.goto (-26), 3) := by decide +kernel
theorem dX5_number_34 : decode cX5_number 34 = .ok (.iload_n 2, 1) := by decide +kernel
theorem dX5_number_35 : decode cX5_number 35 = .ok (.ireturn, 1) := by decide +kernel
theorem dX5_copy_0 : decode cX5_copy 0 = .ok (.iconst 0, 1) := by decide +kernel
theorem dX5_copy_1 : decode cX5_copy 1 = .ok (.istore_n 3, 1) := by decide +kernel
theorem dX5_copy_2 : decode cX5_copy 2 = .ok (.iload_n 3, 1) := by decide +kernel
theorem dX5_copy_3 : decode cX5_copy 3 = .ok (.bipush 16, 2) := by decide +kernel
theorem dX5_copy_5 : decode cX5_copy 5 = .ok (.if_icmp .ge 31, 3) := by decide +kernel
theorem dX5_copy_8 : decode cX5_copy 8 = .ok (.aload_n 0, 1) := by decide +kernel
theorem dX5_copy_9 : decode cX5_copy 9 = .ok (.getfield 38, 3) := by decide +kernel
theorem dX5_copy_12 : decode cX5_copy 12 = .ok (.bipush 16, 2) := by decide +kernel
theorem dX5_copy_14 : decode cX5_copy 14 = .ok (.iload_n 1, 1) := by decide +kernel
theorem dX5_copy_15 : decode cX5_copy 15 = .ok (.imul, 1) := by decide +kernel
theorem dX5_copy_16 : decode cX5_copy 16 = .ok (.iload_n 3, 1) := by decide +kernel
theorem dX5_copy_17 : decode cX5_copy 17 = .ok (.iadd, 1) := by decide +kernel
theorem dX5_copy_18 : decode cX5_copy 18 = .ok (.aload_n 0, 1) := by decide +kernel
theorem dX5_copy_19 : decode cX5_copy 19 = .ok (.getfield 38, 3) := by decide +kernel
theorem dX5_copy_22 : decode cX5_copy 22 = .ok (.bipush 16, 2) := by decide +kernel
theorem dX5_copy_24 : decode cX5_copy 24 = .ok (.iload_n 2, 1) := by decide +kernel
theorem dX5_copy_25 : decode cX5_copy 25 = .ok (.imul, 1) := by decide +kernel
theorem dX5_copy_26 : decode cX5_copy 26 = .ok (.iload_n 3, 1) := by decide +kernel
theorem dX5_copy_27 : decode cX5_copy 27 = .ok (.iadd, 1) := by decide +kernel
theorem dX5_copy_28 : decode cX5_copy 28 = .ok (.iaload, 1) := by decide +kernel
theorem dX5_copy_29 : decode cX5_copy 29 = .ok (.iastore, 1) := by decide +kernel
theorem dX5_copy_30 : decode cX5_copy 30 = .ok (.iinc 3 1, 3) := by decide +kernel
theorem dX5_copy_33 : decode cX5_copy 33 = .ok (.goto (-31), 3) := by decide +kernel
theorem dX5_copy_36 : decode cX5_copy 36 = .ok (.return_, 1) := by decide +kernel
theorem dX5_degree_0 : decode cX5_degree 0 = .ok (.bipush 15, 2) := by decide +kernel
theorem dX5_degree_2 : decode cX5_degree 2 = .ok (.istore_n 2, 1) := by decide +kernel
theorem dX5_degree_3 : decode cX5_degree 3 = .ok (.iload_n 2, 1) := by decide +kernel
theorem dX5_degree_4 : decode cX5_degree 4 = .ok (.ifCond .lt 23, 3) := by decide +kernel
theorem dX5_degree_7 : decode cX5_degree 7 = .ok (.aload_n 0, 1) := by decide +kernel
theorem dX5_degree_8 : decode cX5_degree 8 = .ok (.getfield 38, 3) := by decide +kernel
theorem dX5_degree_11 : decode cX5_degree 11 = .ok (.bipush 16, 2) := by decide +kernel
theorem dX5_degree_13 : decode cX5_degree 13 = .ok (.iload_n 1, 1) := by decide +kernel
theorem dX5_degree_14 : decode cX5_degree 14 = .ok (.imul, 1) := by decide +kernel
theorem dX5_degree_15 : decode cX5_degree 15 = .ok (.iload_n 2, 1) := by decide +kernel
theorem dX5_degree_16 : decode cX5_degree 16 = .ok (.iadd, 1) := by decide +kernel
theorem dX5_degree_17 : decode cX5_degree 17 = .ok (.iaload, 1) := by decide +kernel
theorem dX5_degree_18 : decode cX5_degree 18 = .ok (.ifCond .ne 9, 3) := by decide +kernel
theorem dX5_degree_21 : decode cX5_degree 21 = .ok (.iinc 2 (-1), 3) := by decide +kernel
theorem dX5_degree_24 : decode cX5_degree 24 = .ok (.goto (-21), 3) := by decide +kernel
theorem dX5_degree_27 : decode cX5_degree 27 = .ok (.iload_n 2, 1) := by decide +kernel
theorem dX5_degree_28 : decode cX5_degree 28 = .ok (.ireturn, 1) := by decide +kernel
theorem dX5_join_0 : decode cX5_join 0 = .ok (.iconst 0, 1) := by decide +kernel
theorem dX5_join_1 : decode cX5_join 1 = .ok (.istore 5, 2) := by decide +kernel
theorem dX5_join_3 : decode cX5_join 3 = .ok (.iload 5, 2) := by decide +kernel
theorem dX5_join_5 : decode cX5_join 5 = .ok (.bipush 16, 2) := by decide +kernel
theorem dX5_join_7 : decode cX5_join 7 = .ok (.if_icmp .ge 53, 3) := by decide +kernel
theorem dX5_join_10 : decode cX5_join 10 = .ok (.aload_n 0, 1) := by decide +kernel
theorem dX5_join_11 : decode cX5_join 11 = .ok (.getfield 38, 3) := by decide +kernel
theorem dX5_join_14 : decode cX5_join 14 = .ok (.bipush 16, 2) := by decide +kernel
theorem dX5_join_16 : decode cX5_join 16 = .ok (.iload_n 1, 1) := by decide +kernel
theorem dX5_join_17 : decode cX5_join 17 = .ok (.imul, 1) := by decide +kernel
theorem dX5_join_18 : decode cX5_join 18 = .ok (.iload 5, 2) := by decide +kernel
theorem dX5_join_20 : decode cX5_join 20 = .ok (.iadd, 1) := by decide +kernel
theorem dX5_join_21 : decode cX5_join 21 = .ok (.aload_n 0, 1) := by decide +kernel
theorem dX5_join_22 : decode cX5_join 22 = .ok (.aload_n 0, 1) := by decide +kernel
theorem dX5_join_23 : decode cX5_join 23 = .ok (.getfield 38, 3) := by decide +kernel
theorem dX5_join_26 : decode cX5_join 26 = .ok (.bipush 16, 2) := by decide +kernel
theorem dX5_join_28 : decode cX5_join 28 = .ok (.iload_n 2, 1) := by decide +kernel
theorem dX5_join_29 : decode cX5_join 29 = .ok (.imul, 1) := by decide +kernel
theorem dX5_join_30 : decode cX5_join 30 = .ok (.iload 5, 2) := by decide +kernel
theorem dX5_join_32 : decode cX5_join 32 = .ok (.iadd, 1) := by decide +kernel
theorem dX5_join_33 : decode cX5_join 33 = .ok (.iaload, 1) := by decide +kernel
theorem dX5_join_34 : decode cX5_join 34 = .ok (.iload 4, 2) := by decide +kernel
theorem dX5_join_36 : decode cX5_join 36 = .ok (.aload_n 0, 1) := by decide +kernel
theorem dX5_join_37 : decode cX5_join 37 = .ok (.getfield 38, 3) := by decide +kernel
theorem dX5_join_40 : decode cX5_join 40 = .ok (.bipush 16, 2) := by decide +kernel
theorem dX5_join_42 : decode cX5_join 42 = .ok (.iload_n 3, 1) := by decide +kernel
theorem dX5_join_43 : decode cX5_join 43 = .ok (.imul, 1) := by decide +kernel
theorem dX5_join_44 : decode cX5_join 44 = .ok (.iload 5, 2) := by decide +kernel
theorem dX5_join_46 : decode cX5_join 46 = .ok (.iadd, 1) := by decide +kernel
theorem dX5_join_47 : decode cX5_join 47 = .ok (.iaload, 1) := by decide +kernel
theorem dX5_join_48 : decode cX5_join 48 = .ok (.imul, 1) := by decide +kernel
theorem dX5_join_49 : decode cX5_join 49 = .ok (.iadd, 1) := by decide +kernel
theorem dX5_join_50 : decode cX5_join 50 = .ok (.invokevirtual 70, 3) := by decide +kernel
theorem dX5_join_53 : decode cX5_join 53 = .ok (.iastore, 1) := by decide +kernel
theorem dX5_join_54 : decode cX5_join 54 = .ok (.iinc 5 1, 3) := by decide +kernel
theorem dX5_join_57 : decode cX5_join 57 = .ok (.goto (-54), 3) := by decide +kernel
theorem dX5_join_60 : decode cX5_join 60 = .ok (.return_, 1) := by decide +kernel
theorem dX5_scale_0 : decode cX5_scale 0 = .ok (.iconst 0, 1) := by decide +kernel
theorem dX5_scale_1 : decode cX5_scale 1 = .ok (.istore_n 3, 1) := by decide +kernel
theorem dX5_scale_2 : decode cX5_scale 2 = .ok (.iload_n 3, 1) := by decide +kernel
theorem dX5_scale_3 : decode cX5_scale 3 = .ok (.bipush 16, 2) := by decide +kernel
theorem dX5_scale_5 : decode cX5_scale 5 = .ok (.if_icmp .ge 38, 3) := by decide +kernel
theorem dX5_scale_8 : decode cX5_scale 8 = .ok (.aload_n 0, 1) := by decide +kernel
theorem dX5_scale_9 : decode cX5_scale 9 = .ok (.getfield 38, 3) := by decide +kernel
theorem dX5_scale_12 : decode cX5_scale 12 = .ok (.bipush 16, 2) := by decide +kernel
theorem dX5_scale_14 : decode cX5_scale 14 = .ok (.iload_n 1, 1) := by decide +kernel
theorem dX5_scale_15 : decode cX5_scale 15 = .ok (.imul, 1) := by decide +kernel
theorem dX5_scale_16 : decode cX5_scale 16 = .ok (.iload_n 3, 1) := by decide +kernel
theorem dX5_scale_17 : decode cX5_scale 17 = .ok (.iadd, 1) := by decide +kernel
theorem dX5_scale_18 : decode cX5_scale 18 = .ok (.aload_n 0, 1) := by decide +kernel
theorem dX5_scale_19 : decode cX5_scale 19 = .ok (.getfield 38, 3) := by decide +kernel
theorem dX5_scale_22 : decode cX5_scale 22 = .ok (.bipush 16, 2) := by decide +kernel
theorem dX5_scale_24 : decode cX5_scale 24 = .ok (.iload_n 1, 1) := by decide +kernel
theorem dX5_scale_25 : decode cX5_scale 25 = .ok (.imul, 1) := by decide +kernel
theorem dX5_scale_26 : decode cX5_scale 26 = .ok (.iload_n 3, 1) := by decide +kernel
theorem dX5_scale_27 : decode cX5_scale 27 = .ok (.iadd, 1) := by decide +kernel
theorem dX5_scale_28 : decode cX5_scale 28 = .ok (.iaload, 1) := by decide +kernel
theorem dX5_scale_29 : decode cX5_scale 29 = .ok (.iload_n 2, 1) := by decide +kernel
theorem dX5_scale_30 : decode cX5_scale 30 = .ok (.imul, 1) := by decide +kernel
theorem dX5_scale_31 : decode cX5_scale 31 = .ok (.aload_n 0, 1) := by decide +kernel
theorem dX5_scale_32 : decode cX5_scale 32 = .ok (.getfield 7, 3) := by decide +kernel
theorem dX5_scale_35 : decode cX5_scale 35 = .ok (.irem, 1) := by decide +kernel
theorem dX5_scale_36 : decode cX5_scale 36 = .ok (.iastore, 1) := by decide +kernel
theorem dX5_scale_37 : decode cX5_scale 37 = .ok (.iinc 3 1, 3) := by decide +kernel
theorem dX5_scale_40 : decode cX5_scale 40 = .ok (.goto (-38), 3) := by decide +kernel
theorem dX5_scale_43 : decode cX5_scale 43 = .ok (.return_, 1) := by decide +kernel
theorem dX5_multiply_0 : decode cX5_multiply 0 = .ok (.aload_n 0, 1) := by decide +kernel
theorem dX5_multiply_1 : decode cX5_multiply 1 = .ok (.iload_n 1, 1) := by decide +kernel
theorem dX5_multiply_2 : decode cX5_multiply 2 = .ok (.invokevirtual 74, 3) := by decide +kernel
theorem dX5_multiply_5 : decode cX5_multiply 5 = .ok (.aload_n 0, 1) := by decide +kernel
theorem dX5_multiply_6 : decode cX5_multiply 6 = .ok (.iload_n 2, 1) := by decide +kernel
theorem dX5_multiply_7 : decode cX5_multiply 7 = .ok (.invokevirtual 77, 3) := by decide +kernel
theorem dX5_multiply_10 : decode cX5_multiply 10 = .ok (.istore 4, 2) := by decide +kernel
theorem dX5_multiply_12 : decode cX5_multiply 12 = .ok (.aload_n 0, 1) := by decide +kernel
theorem dX5_multiply_13 : decode cX5_multiply 13 = .ok (.iload_n 3, 1) := by decide +kernel
theorem dX5_multiply_14 : decode cX5_multiply 14 = .ok (.invokevirtual 77, 3) := by decide +kernel
theorem dX5_multiply_17 : decode cX5_multiply 17 = .ok (.istore 5, 2) := by decide +kernel
theorem dX5_multiply_19 : decode cX5_multiply 19 = .ok (.iconst 0, 1) := by decide +kernel
theorem dX5_multiply_20 : decode cX5_multiply 20 = .ok (.istore 6, 2) := by decide +kernel
theorem dX5_multiply_22 : decode cX5_multiply 22 = .ok (.iload 6, 2) := by decide +kernel
theorem dX5_multiply_24 : decode cX5_multiply 24 = .ok (.iload 4, 2) := by decide +kernel
theorem dX5_multiply_26 : decode cX5_multiply 26 = .ok (.if_icmp .gt 86, 3) := by decide +kernel
theorem dX5_multiply_29 : decode cX5_multiply 29 = .ok (.iconst 0, 1) := by decide +kernel
theorem dX5_multiply_30 : decode cX5_multiply 30 = .ok (.istore 7, 2) := by decide +kernel
theorem dX5_multiply_32 : decode cX5_multiply 32 = .ok (.iload 7, 2) := by decide +kernel
theorem dX5_multiply_34 : decode cX5_multiply 34 = .ok (.iload 5, 2) := by decide +kernel
theorem dX5_multiply_36 : decode cX5_multiply 36 = .ok (.if_icmp .gt 70, 3) := by decide +kernel
theorem dX5_multiply_39 : decode cX5_multiply 39 = .ok (.aload_n 0, 1) := by decide +kernel
theorem dX5_multiply_40 : decode cX5_multiply 40 = .ok (.getfield 38, 3) := by decide +kernel
theorem dX5_multiply_43 : decode cX5_multiply 43 = .ok (.bipush 16, 2) := by decide +kernel
theorem dX5_multiply_45 : decode cX5_multiply 45 = .ok (.iload_n 1, 1) := by decide +kernel
theorem dX5_multiply_46 : decode cX5_multiply 46 = .ok (.imul, 1) := by decide +kernel
theorem dX5_multiply_47 : decode cX5_multiply 47 = .ok (.iload 6, 2) := by decide +kernel
theorem dX5_multiply_49 : decode cX5_multiply 49 = .ok (.iadd, 1) := by decide +kernel
theorem dX5_multiply_50 : decode cX5_multiply 50 = .ok (.iload 7, 2) := by decide +kernel
theorem dX5_multiply_52 : decode cX5_multiply 52 = .ok (.iadd, 1) := by decide +kernel
theorem dX5_multiply_53 : decode cX5_multiply 53 = .ok (.aload_n 0, 1) := by decide +kernel
theorem dX5_multiply_54 : decode cX5_multiply 54 = .ok (.getfield 38, 3) := by decide +kernel
theorem dX5_multiply_57 : decode cX5_multiply 57 = .ok (.bipush 16, 2) := by decide +kernel
theorem dX5_multiply_59 : decode cX5_multiply 59 = .ok (.iload_n 1, 1) := by decide +kernel
theorem dX5_multiply_60 : decode cX5_multiply 60 = .ok (.imul, 1) := by decide +kernel
theorem dX5_multiply_61 : decode cX5_multiply 61 = .ok (.iload 6, 2) := by decide +kernel
theorem dX5_multiply_63 : decode cX5_multiply 63 = .ok (.iadd, 1) := by decide +kernel
theorem dX5_multiply_64 : decode cX5_multiply 64 = .ok (.iload 7, 2) := by decide +kernel
theorem dX5_multiply_66 : decode cX5_multiply 66 = .ok (.iadd, 1) := by decide +kernel
theorem dX5_multiply_67 : decode cX5_multiply 67 = .ok (.iaload, 1) := by decide +kernel
theorem dX5_multiply_68 : decode cX5_multiply 68 = .ok (.aload_n 0, 1) := by decide +kernel
theorem dX5_multiply_69 : decode cX5_multiply 69 = .ok (.getfield 38, 3) := by decide +kernel
theorem dX5_multiply_72 : decode cX5_multiply 72 = .ok (.bipush 16, 2) := by decide +kernel
theorem dX5_multiply_74 : decode cX5_multiply 74 = .ok (.iload_n 2, 1) := by decide +kernel
theorem dX5_multiply_75 : decode cX5_multiply 75 = .ok (.imul, 1) := by decide +kernel
theorem dX5_multiply_76 : decode cX5_multiply 76 = .ok (.iload 6, 2) := by decide +kernel
theorem dX5_multiply_78 : decode cX5_multiply 78 = .ok (.iadd, 1) := by decide +kernel
theorem dX5_multiply_79 : decode cX5_multiply 79 = .ok (.iaload, 1) := by decide +kernel
theorem dX5_multiply_80 : decode cX5_multiply 80 = .ok (.aload_n 0, 1) := by decide +kernel
theorem dX5_multiply_81 : decode cX5_multiply 81 = .ok (.getfield 38, 3) := by decide +kernel
theorem dX5_multiply_84 : decode cX5_multiply 84 = .ok (.bipush 16, 2) := by decide +kernel
theorem dX5_multiply_86 : decode cX5_multiply 86 = .ok (.iload_n 3, 1) := by decide +kernel
theorem dX5_multiply_87 : decode cX5_multiply 87 = .ok (.imul, 1) := by decide +kernel
theorem dX5_multiply_88 : decode cX5_multiply 88 = .ok (.iload 7, 2) := by decide +kernel
theorem dX5_multiply_90 : decode cX5_multiply 90 = .ok (.iadd, 1) := by decide +kernel
theorem dX5_multiply_91 : decode cX5_multiply 91 = .ok (.iaload, 1) := by decide +kernel
theorem dX5_multiply_92 : decode cX5_multiply 92 = .ok (.imul, 1) := by decide +kernel
theorem dX5_multiply_93 : decode cX5_multiply 93 = .ok (.iadd, 1) := by decide +kernel
theorem dX5_multiply_94 : decode cX5_multiply 94 = .ok (.aload_n 0, 1) := by decide +kernel
theorem dX5_multiply_95 : decode cX5_multiply 95 = .ok (.getfield 7, 3) := by decide +kernel
theorem dX5_multiply_98 : decode cX5_multiply 98 = .ok (.irem, 1) := by decide +kernel
theorem dX5_multiply_99 : decode cX5_multiply 99 = .ok (.iastore, 1) := by decide +kernel
theorem dX5_multiply_100 : decode cX5_multiply 100 = .ok (.iinc 7 1, 3) := by decide +kernel
theorem dX5_multiply_103 : decode cX5_multiply 103 = .ok (.goto (-71), 3) := by decide +kernel
theorem dX5_multiply_106 : decode cX5_multiply 106 = .ok (.iinc 6 1, 3) := by decide +kernel
theorem dX5_multiply_109 : decode cX5_multiply 109 = .ok (.goto (-87), 3) := by decide +kernel
theorem dX5_multiply_112 : decode cX5_multiply 112 = .ok (.return_, 1) := by decide +kernel
theorem dX5_divide_0 : decode cX5_divide 0 = .ok (.aload_n 0, 1) := by decide +kernel
theorem dX5_divide_1 : decode cX5_divide 1 = .ok (.iload_n 1, 1) := by decide +kernel
theorem dX5_divide_2 : decode cX5_divide 2 = .ok (.invokevirtual 74, 3) := by decide +kernel
theorem dX5_divide_5 : decode cX5_divide 5 = .ok (.aload_n 0, 1) := by decide +kernel
theorem dX5_divide_6 : decode cX5_divide 6 = .ok (.iload_n 2, 1) := by decide +kernel
theorem dX5_divide_7 : decode cX5_divide 7 = .ok (.iload_n 3, 1) := by decide +kernel
theorem dX5_divide_8 : decode cX5_divide 8 = .ok (.invokevirtual 80, 3) := by decide +kernel
theorem dX5_divide_11 : decode cX5_divide 11 = .ok (.aload_n 0, 1) := by decide +kernel
theorem dX5_divide_12 : decode cX5_divide 12 = .ok (.iload 4, 2) := by decide +kernel
theorem dX5_divide_14 : decode cX5_divide 14 = .ok (.invokevirtual 77, 3) := by decide +kernel
theorem dX5_divide_17 : decode cX5_divide 17 = .ok (.istore 5, 2) := by decide +kernel
theorem dX5_divide_19 : decode cX5_divide 19 = .ok (.aload_n 0, 1) := by decide +kernel
theorem dX5_divide_20 : decode cX5_divide 20 = .ok (.aload_n 0, 1) := by decide +kernel
theorem dX5_divide_21 : decode cX5_divide 21 = .ok (.getfield 38, 3) := by decide +kernel
theorem dX5_divide_24 : decode cX5_divide 24 = .ok (.bipush 16, 2) := by decide +kernel
theorem dX5_divide_26 : decode cX5_divide 26 = .ok (.iload 4, 2) := by decide +kernel
theorem dX5_divide_28 : decode cX5_divide 28 = .ok (.imul, 1) := by decide +kernel
theorem dX5_divide_29 : decode cX5_divide 29 = .ok (.iload 5, 2) := by decide +kernel
theorem dX5_divide_31 : decode cX5_divide 31 = .ok (.iadd, 1) := by decide +kernel
theorem dX5_divide_32 : decode cX5_divide 32 = .ok (.iaload, 1) := by decide +kernel
theorem dX5_divide_33 : decode cX5_divide 33 = .ok (.invokevirtual 84, 3) := by decide +kernel
theorem dX5_divide_36 : decode cX5_divide 36 = .ok (.istore 6, 2) := by decide +kernel
theorem dX5_divide_38 : decode cX5_divide 38 = .ok (.aload_n 0, 1) := by decide +kernel
theorem dX5_divide_39 : decode cX5_divide 39 = .ok (.iload_n 2, 1) := by decide +kernel
theorem dX5_divide_40 : decode cX5_divide 40 = .ok (.invokevirtual 77, 3) := by decide +kernel
theorem dX5_divide_43 : decode cX5_divide 43 = .ok (.istore 7, 2) := by decide +kernel
theorem dX5_divide_45 : decode cX5_divide 45 = .ok (.iload 7, 2) := by decide +kernel
theorem dX5_divide_47 : decode cX5_divide 47 = .ok (.iload 5, 2) := by decide +kernel
theorem dX5_divide_49 : decode cX5_divide 49 = .ok (.if_icmp .lt 125, 3) := by decide +kernel
theorem dX5_divide_52 : decode cX5_divide 52 = .ok (.aload_n 0, 1) := by decide +kernel
theorem dX5_divide_53 : decode cX5_divide 53 = .ok (.getfield 38, 3) := by decide +kernel
theorem dX5_divide_56 : decode cX5_divide 56 = .ok (.bipush 16, 2) := by decide +kernel
theorem dX5_divide_58 : decode cX5_divide 58 = .ok (.iload_n 2, 1) := by decide +kernel
theorem dX5_divide_59 : decode cX5_divide 59 = .ok (.imul, 1) := by decide +kernel
theorem dX5_divide_60 : decode cX5_divide 60 = .ok (.iload 7, 2) := by decide +kernel
theorem dX5_divide_62 : decode cX5_divide 62 = .ok (.iadd, 1) := by decide +kernel
theorem dX5_divide_63 : decode cX5_divide 63 = .ok (.iaload, 1) := by decide +kernel
theorem dX5_divide_64 : decode cX5_divide 64 = .ok (.iload 6, 2) := by decide +kernel
theorem dX5_divide_66 : decode cX5_divide 66 = .ok (.imul, 1) := by decide +kernel
theorem dX5_divide_67 : decode cX5_divide 67 = .ok (.aload_n 0, 1) := by decide +kernel
theorem dX5_divide_68 : decode cX5_divide 68 = .ok (.getfield 7, 3) := by decide +kernel
theorem dX5_divide_71 : decode cX5_divide 71 = .ok (.irem, 1) := by decide +kernel
theorem dX5_divide_72 : decode cX5_divide 72 = .ok (.istore 8, 2) := by decide +kernel
theorem dX5_divide_74 : decode cX5_divide 74 = .ok (.aload_n 0, 1) := by decide +kernel
theorem dX5_divide_75 : decode cX5_divide 75 = .ok (.getfield 38, 3) := by decide +kernel
theorem dX5_divide_78 : decode cX5_divide 78 = .ok (.bipush 16, 2) := by decide +kernel
theorem dX5_divide_80 : decode cX5_divide 80 = .ok (.iload_n 1, 1) := by decide +kernel
theorem dX5_divide_81 : decode cX5_divide 81 = .ok (.imul, 1) := by decide +kernel
theorem dX5_divide_82 : decode cX5_divide 82 = .ok (.iload 7, 2) := by decide +kernel
theorem dX5_divide_84 : decode cX5_divide 84 = .ok (.iadd, 1) := by decide +kernel
theorem dX5_divide_85 : decode cX5_divide 85 = .ok (.iload 5, 2) := by decide +kernel
theorem dX5_divide_87 : decode cX5_divide 87 = .ok (.isub, 1) := by decide +kernel
theorem dX5_divide_88 : decode cX5_divide 88 = .ok (.iload 8, 2) := by decide +kernel
theorem dX5_divide_90 : decode cX5_divide 90 = .ok (.iastore, 1) := by decide +kernel
theorem dX5_divide_91 : decode cX5_divide 91 = .ok (.iconst 0, 1) := by decide +kernel
theorem dX5_divide_92 : decode cX5_divide 92 = .ok (.istore 9, 2) := by decide +kernel
theorem dX5_divide_94 : decode cX5_divide 94 = .ok (.iload 9, 2) := by decide +kernel
theorem dX5_divide_96 : decode cX5_divide 96 = .ok (.iload 5, 2) := by decide +kernel
theorem dX5_divide_98 : decode cX5_divide 98 = .ok (.if_icmp .gt 66, 3) := by decide +kernel
theorem dX5_divide_101 : decode cX5_divide 101 = .ok (.aload_n 0, 1) := by decide +kernel
theorem dX5_divide_102 : decode cX5_divide 102 = .ok (.getfield 38, 3) := by decide +kernel
theorem dX5_divide_105 : decode cX5_divide 105 = .ok (.bipush 16, 2) := by decide +kernel
theorem dX5_divide_107 : decode cX5_divide 107 = .ok (.iload_n 2, 1) := by decide +kernel
theorem dX5_divide_108 : decode cX5_divide 108 = .ok (.imul, 1) := by decide +kernel
theorem dX5_divide_109 : decode cX5_divide 109 = .ok (.iload 7, 2) := by decide +kernel
theorem dX5_divide_111 : decode cX5_divide 111 = .ok (.iadd, 1) := by decide +kernel
theorem dX5_divide_112 : decode cX5_divide 112 = .ok (.iload 5, 2) := by decide +kernel
theorem dX5_divide_114 : decode cX5_divide 114 = .ok (.isub, 1) := by decide +kernel
theorem dX5_divide_115 : decode cX5_divide 115 = .ok (.iload 9, 2) := by decide +kernel
theorem dX5_divide_117 : decode cX5_divide 117 = .ok (.iadd, 1) := by decide +kernel
theorem dX5_divide_118 : decode cX5_divide 118 = .ok (.aload_n 0, 1) := by decide +kernel
theorem dX5_divide_119 : decode cX5_divide 119 = .ok (.aload_n 0, 1) := by decide +kernel
theorem dX5_divide_120 : decode cX5_divide 120 = .ok (.getfield 38, 3) := by decide +kernel
theorem dX5_divide_123 : decode cX5_divide 123 = .ok (.bipush 16, 2) := by decide +kernel
theorem dX5_divide_125 : decode cX5_divide 125 = .ok (.iload_n 2, 1) := by decide +kernel
theorem dX5_divide_126 : decode cX5_divide 126 = .ok (.imul, 1) := by decide +kernel
theorem dX5_divide_127 : decode cX5_divide 127 = .ok (.iload 7, 2) := by decide +kernel
theorem dX5_divide_129 : decode cX5_divide 129 = .ok (.iadd, 1) := by decide +kernel
theorem dX5_divide_130 : decode cX5_divide 130 = .ok (.iload 5, 2) := by decide +kernel
theorem dX5_divide_132 : decode cX5_divide 132 = .ok (.isub, 1) := by decide +kernel
theorem dX5_divide_133 : decode cX5_divide 133 = .ok (.iload 9, 2) := by decide +kernel
theorem dX5_divide_135 : decode cX5_divide 135 = .ok (.iadd, 1) := by decide +kernel
theorem dX5_divide_136 : decode cX5_divide 136 = .ok (.iaload, 1) := by decide +kernel
theorem dX5_divide_137 : decode cX5_divide 137 = .ok (.iload 8, 2) := by decide +kernel
theorem dX5_divide_139 : decode cX5_divide 139 = .ok (.aload_n 0, 1) := by decide +kernel
theorem dX5_divide_140 : decode cX5_divide 140 = .ok (.getfield 38, 3) := by decide +kernel
theorem dX5_divide_143 : decode cX5_divide 143 = .ok (.bipush 16, 2) := by decide +kernel
theorem dX5_divide_145 : decode cX5_divide 145 = .ok (.iload 4, 2) := by decide +kernel
theorem dX5_divide_147 : decode cX5_divide 147 = .ok (.imul, 1) := by decide +kernel
theorem dX5_divide_148 : decode cX5_divide 148 = .ok (.iload 9, 2) := by decide +kernel
theorem dX5_divide_150 : decode cX5_divide 150 = .ok (.iadd, 1) := by decide +kernel
theorem dX5_divide_151 : decode cX5_divide 151 = .ok (.iaload, 1) := by decide +kernel
theorem dX5_divide_152 : decode cX5_divide 152 = .ok (.imul, 1) := by decide +kernel
theorem dX5_divide_153 : decode cX5_divide 153 = .ok (.isub, 1) := by decide +kernel
theorem dX5_divide_154 : decode cX5_divide 154 = .ok (.invokevirtual 70, 3) := by decide +kernel
theorem dX5_divide_157 : decode cX5_divide 157 = .ok (.iastore, 1) := by decide +kernel
theorem dX5_divide_158 : decode cX5_divide 158 = .ok (.iinc 9 1, 3) := by decide +kernel
theorem dX5_divide_161 : decode cX5_divide 161 = .ok (.goto (-67), 3) := by decide +kernel
theorem dX5_divide_164 : decode cX5_divide 164 = .ok (.aload_n 0, 1) := by decide +kernel
theorem dX5_divide_165 : decode cX5_divide 165 = .ok (.iload_n 2, 1) := by decide +kernel
theorem dX5_divide_166 : decode cX5_divide 166 = .ok (.invokevirtual 77, 3) := by decide +kernel
theorem dX5_divide_169 : decode cX5_divide 169 = .ok (.istore 7, 2) := by decide +kernel
theorem dX5_divide_171 : decode cX5_divide 171 = .ok (.goto (-126), 3) := by decide +kernel
theorem dX5_divide_174 : decode cX5_divide 174 = .ok (.return_, 1) := by decide +kernel
theorem dX5_common_0 : decode cX5_common 0 = .ok (.aload_n 0, 1) := by decide +kernel
theorem dX5_common_1 : decode cX5_common 1 = .ok (.iload_n 1, 1) := by decide +kernel
theorem dX5_common_2 : decode cX5_common 2 = .ok (.iload 4, 2) := by decide +kernel
theorem dX5_common_4 : decode cX5_common 4 = .ok (.invokevirtual 80, 3) := by decide +kernel
theorem dX5_common_7 : decode cX5_common 7 = .ok (.aload_n 0, 1) := by decide +kernel
theorem dX5_common_8 : decode cX5_common 8 = .ok (.bipush 30, 2) := by decide +kernel
theorem dX5_common_10 : decode cX5_common 10 = .ok (.iload 5, 2) := by decide +kernel
theorem dX5_common_12 : decode cX5_common 12 = .ok (.invokevirtual 80, 3) := by decide +kernel
theorem dX5_common_15 : decode cX5_common 15 = .ok (.aload_n 0, 1) := by decide +kernel
theorem dX5_common_16 : decode cX5_common 16 = .ok (.iload_n 2, 1) := by decide +kernel
theorem dX5_common_17 : decode cX5_common 17 = .ok (.iconst 1, 1) := by decide +kernel
theorem dX5_common_18 : decode cX5_common 18 = .ok (.invokevirtual 87, 3) := by decide +kernel
theorem dX5_common_21 : decode cX5_common 21 = .ok (.aload_n 0, 1) := by decide +kernel
theorem dX5_common_22 : decode cX5_common 22 = .ok (.bipush 31, 2) := by decide +kernel
theorem dX5_common_24 : decode cX5_common 24 = .ok (.invokevirtual 74, 3) := by decide +kernel
theorem dX5_common_27 : decode cX5_common 27 = .ok (.aload_n 0, 1) := by decide +kernel
theorem dX5_common_28 : decode cX5_common 28 = .ok (.iload_n 3, 1) := by decide +kernel
theorem dX5_common_29 : decode cX5_common 29 = .ok (.invokevirtual 74, 3) := by decide +kernel
theorem dX5_common_32 : decode cX5_common 32 = .ok (.aload_n 0, 1) := by decide +kernel
theorem dX5_common_33 : decode cX5_common 33 = .ok (.bipush 32, 2) := by decide +kernel
theorem dX5_common_35 : decode cX5_common 35 = .ok (.iconst 1, 1) := by decide +kernel
theorem dX5_common_36 : decode cX5_common 36 = .ok (.invokevirtual 87, 3) := by decide +kernel
theorem dX5_common_39 : decode cX5_common 39 = .ok (.aload_n 0, 1) := by decide +kernel
theorem dX5_common_40 : decode cX5_common 40 = .ok (.bipush 30, 2) := by decide +kernel
theorem dX5_common_42 : decode cX5_common 42 = .ok (.invokevirtual 77, 3) := by decide +kernel
theorem dX5_common_45 : decode cX5_common 45 = .ok (.ifCond .lt 112, 3) := by decide +kernel
theorem dX5_common_48 : decode cX5_common 48 = .ok (.aload_n 0, 1) := by decide +kernel
theorem dX5_common_49 : decode cX5_common 49 = .ok (.bipush 33, 2) := by decide +kernel
theorem dX5_common_51 : decode cX5_common 51 = .ok (.bipush 34, 2) := by decide +kernel
theorem dX5_common_53 : decode cX5_common 53 = .ok (.iload_n 1, 1) := by decide +kernel
theorem dX5_common_54 : decode cX5_common 54 = .ok (.bipush 30, 2) := by decide +kernel
theorem dX5_common_56 : decode cX5_common 56 = .ok (.invokevirtual 90, 3) := by decide +kernel
theorem dX5_common_59 : decode cX5_common 59 = .ok (.aload_n 0, 1) := by decide +kernel
theorem dX5_common_60 : decode cX5_common 60 = .ok (.iload_n 1, 1) := by decide +kernel
theorem dX5_common_61 : decode cX5_common 61 = .ok (.bipush 30, 2) := by decide +kernel
theorem dX5_common_63 : decode cX5_common 63 = .ok (.invokevirtual 80, 3) := by decide +kernel
theorem dX5_common_66 : decode cX5_common 66 = .ok (.aload_n 0, 1) := by decide +kernel
theorem dX5_common_67 : decode cX5_common 67 = .ok (.bipush 30, 2) := by decide +kernel
theorem dX5_common_69 : decode cX5_common 69 = .ok (.bipush 34, 2) := by decide +kernel
theorem dX5_common_71 : decode cX5_common 71 = .ok (.invokevirtual 80, 3) := by decide +kernel
theorem dX5_common_74 : decode cX5_common 74 = .ok (.aload_n 0, 1) := by decide +kernel
theorem dX5_common_75 : decode cX5_common 75 = .ok (.bipush 35, 2) := by decide +kernel
theorem dX5_common_77 : decode cX5_common 77 = .ok (.bipush 33, 2) := by decide +kernel
theorem dX5_common_79 : decode cX5_common 79 = .ok (.bipush 31, 2) := by decide +kernel
theorem dX5_common_81 : decode cX5_common 81 = .ok (.invokevirtual 94, 3) := by decide +kernel
theorem dX5_common_84 : decode cX5_common 84 = .ok (.aload_n 0, 1) := by decide +kernel
theorem dX5_common_85 : decode cX5_common 85 = .ok (.bipush 36, 2) := by decide +kernel
theorem dX5_common_87 : decode cX5_common 87 = .ok (.iload_n 2, 1) := by decide +kernel
theorem dX5_common_88 : decode cX5_common 88 = .ok (.bipush 35, 2) := by decide +kernel
theorem dX5_common_90 : decode cX5_common 90 = .ok (.aload_n 0, 1) := by decide +kernel
theorem dX5_common_91 : decode cX5_common 91 = .ok (.getfield 7, 3) := by decide +kernel
theorem dX5_common_94 : decode cX5_common 94 = .ok (.iconst 1, 1) := by decide +kernel
theorem dX5_common_95 : decode cX5_common 95 = .ok (.isub, 1) := by decide +kernel
theorem dX5_common_96 : decode cX5_common 96 = .ok (.invokevirtual 98, 3) := by decide +kernel
theorem dX5_common_99 : decode cX5_common 99 = .ok (.aload_n 0, 1) := by decide +kernel
theorem dX5_common_100 : decode cX5_common 100 = .ok (.iload_n 2, 1) := by decide +kernel
theorem dX5_common_101 : decode cX5_common 101 = .ok (.bipush 31, 2) := by decide +kernel
theorem dX5_common_103 : decode cX5_common 103 = .ok (.invokevirtual 80, 3) := by decide +kernel
theorem dX5_common_106 : decode cX5_common 106 = .ok (.aload_n 0, 1) := by decide +kernel
theorem dX5_common_107 : decode cX5_common 107 = .ok (.bipush 31, 2) := by decide +kernel
theorem dX5_common_109 : decode cX5_common 109 = .ok (.bipush 36, 2) := by decide +kernel
theorem dX5_common_111 : decode cX5_common 111 = .ok (.invokevirtual 80, 3) := by decide +kernel
theorem dX5_common_114 : decode cX5_common 114 = .ok (.aload_n 0, 1) := by decide +kernel
theorem dX5_common_115 : decode cX5_common 115 = .ok (.bipush 35, 2) := by decide +kernel
theorem dX5_common_117 : decode cX5_common 117 = .ok (.bipush 33, 2) := by decide +kernel
theorem dX5_common_119 : decode cX5_common 119 = .ok (.bipush 32, 2) := by decide +kernel
theorem dX5_common_121 : decode cX5_common 121 = .ok (.invokevirtual 94, 3) := by decide +kernel
theorem dX5_common_124 : decode cX5_common 124 = .ok (.aload_n 0, 1) := by decide +kernel
theorem dX5_common_125 : decode cX5_common 125 = .ok (.bipush 36, 2) := by decide +kernel
theorem dX5_common_127 : decode cX5_common 127 = .ok (.iload_n 3, 1) := by decide +kernel
theorem dX5_common_128 : decode cX5_common 128 = .ok (.bipush 35, 2) := by decide +kernel
theorem dX5_common_130 : decode cX5_common 130 = .ok (.aload_n 0, 1) := by decide +kernel
theorem dX5_common_131 : decode cX5_common 131 = .ok (.getfield 7, 3) := by decide +kernel
theorem dX5_common_134 : decode cX5_common 134 = .ok (.iconst 1, 1) := by decide +kernel
theorem dX5_common_135 : decode cX5_common 135 = .ok (.isub, 1) := by decide +kernel
theorem dX5_common_136 : decode cX5_common 136 = .ok (.invokevirtual 98, 3) := by decide +kernel
theorem dX5_common_139 : decode cX5_common 139 = .ok (.aload_n 0, 1) := by decide +kernel
theorem dX5_common_140 : decode cX5_common 140 = .ok (.iload_n 3, 1) := by decide +kernel
theorem dX5_common_141 : decode cX5_common 141 = .ok (.bipush 32, 2) := by decide +kernel
theorem dX5_common_143 : decode cX5_common 143 = .ok (.invokevirtual 80, 3) := by decide +kernel
theorem dX5_common_146 : decode cX5_common 146 = .ok (.aload_n 0, 1) := by decide +kernel
theorem dX5_common_147 : decode cX5_common 147 = .ok (.bipush 32, 2) := by decide +kernel
theorem dX5_common_149 : decode cX5_common 149 = .ok (.bipush 36, 2) := by decide +kernel
theorem dX5_common_151 : decode cX5_common 151 = .ok (.invokevirtual 80, 3) := by decide +kernel
theorem dX5_common_154 : decode cX5_common 154 = .ok (.goto (-115), 3) := by decide +kernel
theorem dX5_common_157 : decode cX5_common 157 = .ok (.aload_n 0, 1) := by decide +kernel
theorem dX5_common_158 : decode cX5_common 158 = .ok (.aload_n 0, 1) := by decide +kernel
theorem dX5_common_159 : decode cX5_common 159 = .ok (.getfield 38, 3) := by decide +kernel
theorem dX5_common_162 : decode cX5_common 162 = .ok (.bipush 16, 2) := by decide +kernel
theorem dX5_common_164 : decode cX5_common 164 = .ok (.iload_n 1, 1) := by decide +kernel
theorem dX5_common_165 : decode cX5_common 165 = .ok (.imul, 1) := by decide +kernel
theorem dX5_common_166 : decode cX5_common 166 = .ok (.aload_n 0, 1) := by decide +kernel
theorem dX5_common_167 : decode cX5_common 167 = .ok (.iload_n 1, 1) := by decide +kernel
theorem dX5_common_168 : decode cX5_common 168 = .ok (.invokevirtual 77, 3) := by decide +kernel
theorem dX5_common_171 : decode cX5_common 171 = .ok (.iadd, 1) := by decide +kernel
theorem dX5_common_172 : decode cX5_common 172 = .ok (.iaload, 1) := by decide +kernel
theorem dX5_common_173 : decode cX5_common 173 = .ok (.invokevirtual 84, 3) := by decide +kernel
theorem dX5_common_176 : decode cX5_common 176 = .ok (.istore 6, 2) := by decide +kernel
theorem dX5_common_178 : decode cX5_common 178 = .ok (.aload_n 0, 1) := by decide +kernel
theorem dX5_common_179 : decode cX5_common 179 = .ok (.iload_n 1, 1) := by decide +kernel
theorem dX5_common_180 : decode cX5_common 180 = .ok (.iload 6, 2) := by decide +kernel
theorem dX5_common_182 : decode cX5_common 182 = .ok (.invokevirtual 101, 3) := by decide +kernel
theorem dX5_common_185 : decode cX5_common 185 = .ok (.aload_n 0, 1) := by decide +kernel
theorem dX5_common_186 : decode cX5_common 186 = .ok (.iload_n 2, 1) := by decide +kernel
theorem dX5_common_187 : decode cX5_common 187 = .ok (.iload 6, 2) := by decide +kernel
theorem dX5_common_189 : decode cX5_common 189 = .ok (.invokevirtual 101, 3) := by decide +kernel
theorem dX5_common_192 : decode cX5_common 192 = .ok (.aload_n 0, 1) := by decide +kernel
theorem dX5_common_193 : decode cX5_common 193 = .ok (.iload_n 3, 1) := by decide +kernel
theorem dX5_common_194 : decode cX5_common 194 = .ok (.iload 6, 2) := by decide +kernel
theorem dX5_common_196 : decode cX5_common 196 = .ok (.invokevirtual 101, 3) := by decide +kernel
theorem dX5_common_199 : decode cX5_common 199 = .ok (.return_, 1) := by decide +kernel
theorem dX5_begins_0 : decode cX5_begins 0 = .ok (.aload_n 0, 1) := by decide +kernel
theorem dX5_begins_1 : decode cX5_begins 1 = .ok (.iload_n 1, 1) := by decide +kernel
theorem dX5_begins_2 : decode cX5_begins 2 = .ok (.putfield 7, 3) := by decide +kernel
theorem dX5_begins_5 : decode cX5_begins 5 = .ok (.aload_n 0, 1) := by decide +kernel
theorem dX5_begins_6 : decode cX5_begins 6 = .ok (.iconst 0, 1) := by decide +kernel
theorem dX5_begins_7 : decode cX5_begins 7 = .ok (.putfield 13, 3) := by decide +kernel
theorem dX5_begins_10 : decode cX5_begins 10 = .ok (.aload_n 0, 1) := by decide +kernel
theorem dX5_begins_11 : decode cX5_begins 11 = .ok (.getfield 7, 3) := by decide +kernel
theorem dX5_begins_14 : decode cX5_begins 14 = .ok (.istore_n 2, 1) := by decide +kernel
theorem dX5_begins_15 : decode cX5_begins 15 = .ok (.iload_n 2, 1) := by decide +kernel
theorem dX5_begins_16 : decode cX5_begins 16 = .ok (.sipush 343, 3) := by decide +kernel
theorem dX5_begins_19 : decode cX5_begins 19 = .ok (.if_icmp .gt 51, 3) := by decide +kernel
theorem dX5_begins_22 : decode cX5_begins 22 = .ok (.aload_n 0, 1) := by decide +kernel
theorem dX5_begins_23 : decode cX5_begins 23 = .ok (.dup, 1) := by decide +kernel
theorem dX5_begins_24 : decode cX5_begins 24 = .ok (.getfield 13, 3) := by decide +kernel
theorem dX5_begins_27 : decode cX5_begins 27 = .ok (.iconst 1, 1) := by decide +kernel
theorem dX5_begins_28 : decode cX5_begins 28 = .ok (.iadd, 1) := by decide +kernel
theorem dX5_begins_29 : decode cX5_begins 29 = .ok (.putfield 13, 3) := by decide +kernel
theorem dX5_begins_32 : decode cX5_begins 32 = .ok (.aload_n 0, 1) := by decide +kernel
theorem dX5_begins_33 : decode cX5_begins 33 = .ok (.getfield 16, 3) := by decide +kernel
theorem dX5_begins_36 : decode cX5_begins 36 = .ok (.aload_n 0, 1) := by decide +kernel
theorem dX5_begins_37 : decode cX5_begins 37 = .ok (.getfield 13, 3) := by decide +kernel
theorem dX5_begins_40 : decode cX5_begins 40 = .ok (.iload_n 2, 1) := by decide +kernel
theorem dX5_begins_41 : decode cX5_begins 41 = .ok (.iastore, 1) := by decide +kernel
theorem dX5_begins_42 : decode cX5_begins 42 = .ok (.aload_n 0, 1) := by decide +kernel
theorem dX5_begins_43 : decode cX5_begins 43 = .ok (.getfield 20, 3) := by decide +kernel
theorem dX5_begins_46 : decode cX5_begins 46 = .ok (.aload_n 0, 1) := by decide +kernel
theorem dX5_begins_47 : decode cX5_begins 47 = .ok (.getfield 13, 3) := by decide +kernel
theorem dX5_begins_50 : decode cX5_begins 50 = .ok (.aload_n 0, 1) := by decide +kernel
theorem dX5_begins_51 : decode cX5_begins 51 = .ok (.aload_n 0, 1) := by decide +kernel
theorem dX5_begins_52 : decode cX5_begins 52 = .ok (.getfield 13, 3) := by decide +kernel
theorem dX5_begins_55 : decode cX5_begins 55 = .ok (.iload_n 2, 1) := by decide +kernel
theorem dX5_begins_56 : decode cX5_begins 56 = .ok (.invokevirtual 104, 3) := by decide +kernel
theorem dX5_begins_59 : decode cX5_begins 59 = .ok (.iastore, 1) := by decide +kernel
theorem dX5_begins_60 : decode cX5_begins 60 = .ok (.iload_n 2, 1) := by decide +kernel
theorem dX5_begins_61 : decode cX5_begins 61 = .ok (.aload_n 0, 1) := by decide +kernel
theorem dX5_begins_62 : decode cX5_begins 62 = .ok (.getfield 7, 3) := by decide +kernel
theorem dX5_begins_65 : decode cX5_begins 65 = .ok (.imul, 1) := by decide +kernel
theorem dX5_begins_66 : decode cX5_begins 66 = .ok (.istore_n 2, 1) := by decide +kernel
theorem dX5_begins_67 : decode cX5_begins 67 = .ok (.goto (-52), 3) := by decide +kernel
theorem dX5_begins_70 : decode cX5_begins 70 = .ok (.aload_n 0, 1) := by decide +kernel
theorem dX5_begins_71 : decode cX5_begins 71 = .ok (.iconst 0, 1) := by decide +kernel
theorem dX5_begins_72 : decode cX5_begins 72 = .ok (.putfield 108, 3) := by decide +kernel
theorem dX5_begins_75 : decode cX5_begins 75 = .ok (.aload_n 0, 1) := by decide +kernel
theorem dX5_begins_76 : decode cX5_begins 76 = .ok (.bipush (-9), 2) := by decide +kernel
theorem dX5_begins_78 : decode cX5_begins 78 = .ok (.putfield 44, 3) := by decide +kernel
theorem dX5_begins_81 : decode cX5_begins 81 = .ok (.aload_n 0, 1) := by decide +kernel
theorem dX5_begins_82 : decode cX5_begins 82 = .ok (.iconst 0, 1) := by decide +kernel
theorem dX5_begins_83 : decode cX5_begins 83 = .ok (.putfield 111, 3) := by decide +kernel
theorem dX5_begins_86 : decode cX5_begins 86 = .ok (.aload_n 0, 1) := by decide +kernel
theorem dX5_begins_87 : decode cX5_begins 87 = .ok (.iconst 1, 1) := by decide +kernel
theorem dX5_begins_88 : decode cX5_begins 88 = .ok (.invokevirtual 114, 3) := by decide +kernel
theorem dX5_begins_91 : decode cX5_begins 91 = .ok (.aload_n 0, 1) := by decide +kernel
theorem dX5_begins_92 : decode cX5_begins 92 = .ok (.iconst 0, 1) := by decide +kernel
theorem dX5_begins_93 : decode cX5_begins 93 = .ok (.putfield 117, 3) := by decide +kernel
theorem dX5_begins_96 : decode cX5_begins 96 = .ok (.aload_n 0, 1) := by decide +kernel
theorem dX5_begins_97 : decode cX5_begins 97 = .ok (.getfield 41, 3) := by decide +kernel
theorem dX5_begins_100 : decode cX5_begins 100 = .ok (.aload_n 0, 1) := by decide +kernel
theorem dX5_begins_101 : decode cX5_begins 101 = .ok (.getfield 117, 3) := by decide +kernel
theorem dX5_begins_104 : decode cX5_begins 104 = .ok (.iaload, 1) := by decide +kernel
theorem dX5_begins_105 : decode cX5_begins 105 = .ok (.ifCond .lt 16, 3) := by decide +kernel
theorem dX5_begins_108 : decode cX5_begins 108 = .ok (.aload_n 0, 1) := by decide +kernel
theorem dX5_begins_109 : decode cX5_begins 109 = .ok (.dup, 1) := by decide +kernel
theorem dX5_begins_110 : decode cX5_begins 110 = .ok (.getfield 117, 3) := by decide +kernel
theorem dX5_begins_113 : decode cX5_begins 113 = .ok (.iconst 1, 1) := by decide +kernel
theorem dX5_begins_114 : decode cX5_begins 114 = .ok (.iadd, 1) := by decide +kernel
theorem dX5_begins_115 : decode cX5_begins 115 = .ok (.putfield 117, 3) := by decide +kernel
theorem dX5_begins_118 : decode cX5_begins 118 = .ok (.goto (-22), 3) := by decide +kernel
theorem dX5_begins_121 : decode cX5_begins 121 = .ok (.return_, 1) := by decide +kernel
theorem dX5_least_0 : decode cX5_least 0 = .ok (.iload_n 2, 1) := by decide +kernel
theorem dX5_least_1 : decode cX5_least 1 = .ok (.istore_n 3, 1) := by decide +kernel
theorem dX5_least_2 : decode cX5_least 2 = .ok (.aload_n 0, 1) := by decide +kernel
theorem dX5_least_3 : decode cX5_least 3 = .ok (.iconst 0, 1) := by decide +kernel
theorem dX5_least_4 : decode cX5_least 4 = .ok (.iload_n 3, 1) := by decide +kernel
theorem dX5_least_5 : decode cX5_least 5 = .ok (.invokevirtual 87, 3) := by decide +kernel
theorem dX5_least_8 : decode cX5_least 8 = .ok (.iconst 1, 1) := by decide +kernel
theorem dX5_least_9 : decode cX5_least 9 = .ok (.istore 4, 2) := by decide +kernel
theorem dX5_least_11 : decode cX5_least 11 = .ok (.aload_n 0, 1) := by decide +kernel
theorem dX5_least_12 : decode cX5_least 12 = .ok (.getfield 7, 3) := by decide +kernel
theorem dX5_least_15 : decode cX5_least 15 = .ok (.istore 5, 2) := by decide +kernel
theorem dX5_least_17 : decode cX5_least 17 = .ok (.iconst 1, 1) := by decide +kernel
theorem dX5_least_18 : decode cX5_least 18 = .ok (.istore 6, 2) := by decide +kernel
theorem dX5_least_20 : decode cX5_least 20 = .ok (.iconst 2, 1) := by decide +kernel
theorem dX5_least_21 : decode cX5_least 21 = .ok (.iload 6, 2) := by decide +kernel
theorem dX5_least_23 : decode cX5_least 23 = .ok (.imul, 1) := by decide +kernel
theorem dX5_least_24 : decode cX5_least 24 = .ok (.iload_n 1, 1) := by decide +kernel
theorem dX5_least_25 : decode cX5_least 25 = .ok (.if_icmp .gt 77, 3) := by decide +kernel
theorem dX5_least_28 : decode cX5_least 28 = .ok (.iload 4, 2) := by decide +kernel
theorem dX5_least_30 : decode cX5_least 30 = .ok (.ifCond .eq 72, 3) := by decide +kernel
theorem dX5_least_33 : decode cX5_least 33 = .ok (.iload 5, 2) := by decide +kernel
theorem dX5_least_35 : decode cX5_least 35 = .ok (.istore 7, 2) := by decide +kernel
theorem dX5_least_37 : decode cX5_least 37 = .ok (.iload 7, 2) := by decide +kernel
theorem dX5_least_39 : decode cX5_least 39 = .ok (.iconst 2, 1) := by decide +kernel
theorem dX5_least_40 : decode cX5_least 40 = .ok (.iload 5, 2) := by decide +kernel
theorem dX5_least_42 : decode cX5_least 42 = .ok (.imul, 1) := by decide +kernel
theorem dX5_least_43 : decode cX5_least 43 = .ok (.if_icmp .ge 44, 3) := by decide +kernel
theorem dX5_least_46 : decode cX5_least 46 = .ok (.iload 4, 2) := by decide +kernel
theorem dX5_least_48 : decode cX5_least 48 = .ok (.ifCond .eq 39, 3) := by decide +kernel
end
section
theorem dX5_least_51 : decode cX5_least 51 = .ok (.aload_n 0, 1) := by decide +kernel
theorem dX5_least_52 : decode cX5_least 52 = .ok (.iconst 1, 1) := by decide +kernel
theorem dX5_least_53 : decode cX5_least 53 = .ok (.iload 7, 2) := by decide +kernel
theorem dX5_least_55 : decode cX5_least 55 = .ok (.invokevirtual 87, 3) := by decide +kernel
theorem dX5_least_58 : decode cX5_least 58 = .ok (.aload_n 0, 1) := by decide +kernel
theorem dX5_least_59 : decode cX5_least 59 = .ok (.iconst 2, 1) := by decide +kernel
theorem dX5_least_60 : decode cX5_least 60 = .ok (.iconst 3, 1) := by decide +kernel
theorem dX5_least_61 : decode cX5_least 61 = .ok (.iconst 0, 1) := by decide +kernel
theorem dX5_least_62 : decode cX5_least 62 = .ok (.iconst 1, 1) := by decide +kernel
theorem dX5_least_63 : decode cX5_least 63 = .ok (.invokevirtual 90, 3) := by decide +kernel
theorem dX5_least_66 : decode cX5_least 66 = .ok (.aload_n 0, 1) := by decide +kernel
theorem dX5_least_67 : decode cX5_least 67 = .ok (.iconst 3, 1) := by decide +kernel
theorem dX5_least_68 : decode cX5_least 68 = .ok (.invokevirtual 77, 3) := by decide +kernel
theorem dX5_least_71 : decode cX5_least 71 = .ok (.ifCond .lt 7, 3) := by decide +kernel
theorem dX5_least_74 : decode cX5_least 74 = .ok (.iconst 1, 1) := by decide +kernel
theorem dX5_least_75 : decode cX5_least 75 = .ok (.goto 4, 3) := by decide +kernel
theorem dX5_least_78 : decode cX5_least 78 = .ok (.iconst 0, 1) := by decide +kernel
theorem dX5_least_79 : decode cX5_least 79 = .ok (.istore 4, 2) := by decide +kernel
theorem dX5_least_81 : decode cX5_least 81 = .ok (.iinc 7 1, 3) := by decide +kernel
theorem dX5_least_84 : decode cX5_least 84 = .ok (.goto (-47), 3) := by decide +kernel
theorem dX5_least_87 : decode cX5_least 87 = .ok (.iload 5, 2) := by decide +kernel
theorem dX5_least_89 : decode cX5_least 89 = .ok (.aload_n 0, 1) := by decide +kernel
theorem dX5_least_90 : decode cX5_least 90 = .ok (.getfield 7, 3) := by decide +kernel
theorem dX5_least_93 : decode cX5_least 93 = .ok (.imul, 1) := by decide +kernel
theorem dX5_least_94 : decode cX5_least 94 = .ok (.istore 5, 2) := by decide +kernel
theorem dX5_least_96 : decode cX5_least 96 = .ok (.iinc 6 1, 3) := by decide +kernel
theorem dX5_least_99 : decode cX5_least 99 = .ok (.goto (-79), 3) := by decide +kernel
theorem dX5_least_102 : decode cX5_least 102 = .ok (.iload 4, 2) := by decide +kernel
theorem dX5_least_104 : decode cX5_least 104 = .ok (.ifCond .eq 5, 3) := by decide +kernel
theorem dX5_least_107 : decode cX5_least 107 = .ok (.iload_n 3, 1) := by decide +kernel
theorem dX5_least_108 : decode cX5_least 108 = .ok (.ireturn, 1) := by decide +kernel
theorem dX5_least_109 : decode cX5_least 109 = .ok (.iinc 3 1, 3) := by decide +kernel
theorem dX5_least_112 : decode cX5_least 112 = .ok (.goto (-110), 3) := by decide +kernel
theorem dX5_product_0 : decode cX5_product 0 = .ok (.iload_n 1, 1) := by decide +kernel
theorem dX5_product_1 : decode cX5_product 1 = .ok (.iconst 1, 1) := by decide +kernel
theorem dX5_product_2 : decode cX5_product 2 = .ok (.if_icmp .ne 12, 3) := by decide +kernel
theorem dX5_product_5 : decode cX5_product 5 = .ok (.iload_n 2, 1) := by decide +kernel
theorem dX5_product_6 : decode cX5_product 6 = .ok (.iload_n 3, 1) := by decide +kernel
theorem dX5_product_7 : decode cX5_product 7 = .ok (.imul, 1) := by decide +kernel
theorem dX5_product_8 : decode cX5_product 8 = .ok (.aload_n 0, 1) := by decide +kernel
theorem dX5_product_9 : decode cX5_product 9 = .ok (.getfield 7, 3) := by decide +kernel
theorem dX5_product_12 : decode cX5_product 12 = .ok (.irem, 1) := by decide +kernel
theorem dX5_product_13 : decode cX5_product 13 = .ok (.ireturn, 1) := by decide +kernel
theorem dX5_product_14 : decode cX5_product 14 = .ok (.aload_n 0, 1) := by decide +kernel
theorem dX5_product_15 : decode cX5_product 15 = .ok (.iconst 0, 1) := by decide +kernel
theorem dX5_product_16 : decode cX5_product 16 = .ok (.iload_n 2, 1) := by decide +kernel
theorem dX5_product_17 : decode cX5_product 17 = .ok (.invokevirtual 87, 3) := by decide +kernel
theorem dX5_product_20 : decode cX5_product 20 = .ok (.aload_n 0, 1) := by decide +kernel
theorem dX5_product_21 : decode cX5_product 21 = .ok (.iconst 1, 1) := by decide +kernel
theorem dX5_product_22 : decode cX5_product 22 = .ok (.iload_n 3, 1) := by decide +kernel
theorem dX5_product_23 : decode cX5_product 23 = .ok (.invokevirtual 87, 3) := by decide +kernel
theorem dX5_product_26 : decode cX5_product 26 = .ok (.aload_n 0, 1) := by decide +kernel
theorem dX5_product_27 : decode cX5_product 27 = .ok (.iconst 2, 1) := by decide +kernel
theorem dX5_product_28 : decode cX5_product 28 = .ok (.iconst 0, 1) := by decide +kernel
theorem dX5_product_29 : decode cX5_product 29 = .ok (.iconst 1, 1) := by decide +kernel
theorem dX5_product_30 : decode cX5_product 30 = .ok (.invokevirtual 94, 3) := by decide +kernel
theorem dX5_product_33 : decode cX5_product 33 = .ok (.aload_n 0, 1) := by decide +kernel
theorem dX5_product_34 : decode cX5_product 34 = .ok (.iconst 3, 1) := by decide +kernel
theorem dX5_product_35 : decode cX5_product 35 = .ok (.aload_n 0, 1) := by decide +kernel
theorem dX5_product_36 : decode cX5_product 36 = .ok (.getfield 20, 3) := by decide +kernel
theorem dX5_product_39 : decode cX5_product 39 = .ok (.iload_n 1, 1) := by decide +kernel
theorem dX5_product_40 : decode cX5_product 40 = .ok (.iaload, 1) := by decide +kernel
theorem dX5_product_41 : decode cX5_product 41 = .ok (.invokevirtual 87, 3) := by decide +kernel
theorem dX5_product_44 : decode cX5_product 44 = .ok (.aload_n 0, 1) := by decide +kernel
theorem dX5_product_45 : decode cX5_product 45 = .ok (.iconst 4, 1) := by decide +kernel
theorem dX5_product_46 : decode cX5_product 46 = .ok (.iconst 5, 1) := by decide +kernel
theorem dX5_product_47 : decode cX5_product 47 = .ok (.iconst 2, 1) := by decide +kernel
theorem dX5_product_48 : decode cX5_product 48 = .ok (.iconst 3, 1) := by decide +kernel
theorem dX5_product_49 : decode cX5_product 49 = .ok (.invokevirtual 90, 3) := by decide +kernel
theorem dX5_product_52 : decode cX5_product 52 = .ok (.aload_n 0, 1) := by decide +kernel
theorem dX5_product_53 : decode cX5_product 53 = .ok (.iconst 5, 1) := by decide +kernel
theorem dX5_product_54 : decode cX5_product 54 = .ok (.invokevirtual 120, 3) := by decide +kernel
theorem dX5_product_57 : decode cX5_product 57 = .ok (.ireturn, 1) := by decide +kernel
theorem dX5_sum_0 : decode cX5_sum 0 = .ok (.iconst 0, 1) := by decide +kernel
theorem dX5_sum_1 : decode cX5_sum 1 = .ok (.istore_n 3, 1) := by decide +kernel
theorem dX5_sum_2 : decode cX5_sum 2 = .ok (.iconst 1, 1) := by decide +kernel
theorem dX5_sum_3 : decode cX5_sum 3 = .ok (.istore 4, 2) := by decide +kernel
theorem dX5_sum_5 : decode cX5_sum 5 = .ok (.iload_n 1, 1) := by decide +kernel
theorem dX5_sum_6 : decode cX5_sum 6 = .ok (.istore 5, 2) := by decide +kernel
theorem dX5_sum_8 : decode cX5_sum 8 = .ok (.iload_n 2, 1) := by decide +kernel
theorem dX5_sum_9 : decode cX5_sum 9 = .ok (.istore 6, 2) := by decide +kernel
theorem dX5_sum_11 : decode cX5_sum 11 = .ok (.iload 5, 2) := by decide +kernel
theorem dX5_sum_13 : decode cX5_sum 13 = .ok (.ifCond .gt 8, 3) := by decide +kernel
theorem dX5_sum_16 : decode cX5_sum 16 = .ok (.iload 6, 2) := by decide +kernel
theorem dX5_sum_18 : decode cX5_sum 18 = .ok (.ifCond .le 59, 3) := by decide +kernel
theorem dX5_sum_21 : decode cX5_sum 21 = .ok (.iload_n 3, 1) := by decide +kernel
theorem dX5_sum_22 : decode cX5_sum 22 = .ok (.iload 4, 2) := by decide +kernel
theorem dX5_sum_24 : decode cX5_sum 24 = .ok (.iload 5, 2) := by decide +kernel
theorem dX5_sum_26 : decode cX5_sum 26 = .ok (.aload_n 0, 1) := by decide +kernel
theorem dX5_sum_27 : decode cX5_sum 27 = .ok (.getfield 7, 3) := by decide +kernel
theorem dX5_sum_30 : decode cX5_sum 30 = .ok (.irem, 1) := by decide +kernel
theorem dX5_sum_31 : decode cX5_sum 31 = .ok (.iload 6, 2) := by decide +kernel
theorem dX5_sum_33 : decode cX5_sum 33 = .ok (.aload_n 0, 1) := by decide +kernel
theorem dX5_sum_34 : decode cX5_sum 34 = .ok (.getfield 7, 3) := by decide +kernel
theorem dX5_sum_37 : decode cX5_sum 37 = .ok (.irem, 1) := by decide +kernel
theorem dX5_sum_38 : decode cX5_sum 38 = .ok (.iadd, 1) := by decide +kernel
theorem dX5_sum_39 : decode cX5_sum 39 = .ok (.aload_n 0, 1) := by decide +kernel
theorem dX5_sum_40 : decode cX5_sum 40 = .ok (.getfield 7, 3) := by decide +kernel
theorem dX5_sum_43 : decode cX5_sum 43 = .ok (.irem, 1) := by decide +kernel
theorem dX5_sum_44 : decode cX5_sum 44 = .ok (.imul, 1) := by decide +kernel
theorem dX5_sum_45 : decode cX5_sum 45 = .ok (.iadd, 1) := by decide +kernel
theorem dX5_sum_46 : decode cX5_sum 46 = .ok (.istore_n 3, 1) := by decide +kernel
theorem dX5_sum_47 : decode cX5_sum 47 = .ok (.iload 5, 2) := by decide +kernel
theorem dX5_sum_49 : decode cX5_sum 49 = .ok (.aload_n 0, 1) := by decide +kernel
theorem dX5_sum_50 : decode cX5_sum 50 = .ok (.getfield 7, 3) := by decide +kernel
theorem dX5_sum_53 : decode cX5_sum 53 = .ok (.idiv, 1) := by decide +kernel
theorem dX5_sum_54 : decode cX5_sum 54 = .ok (.istore 5, 2) := by decide +kernel
theorem dX5_sum_56 : decode cX5_sum 56 = .ok (.iload 6, 2) := by decide +kernel
theorem dX5_sum_58 : decode cX5_sum 58 = .ok (.aload_n 0, 1) := by decide +kernel
theorem dX5_sum_59 : decode cX5_sum 59 = .ok (.getfield 7, 3) := by decide +kernel
theorem dX5_sum_62 : decode cX5_sum 62 = .ok (.idiv, 1) := by decide +kernel
theorem dX5_sum_63 : decode cX5_sum 63 = .ok (.istore 6, 2) := by decide +kernel
theorem dX5_sum_65 : decode cX5_sum 65 = .ok (.iload 4, 2) := by decide +kernel
theorem dX5_sum_67 : decode cX5_sum 67 = .ok (.aload_n 0, 1) := by decide +kernel
theorem dX5_sum_68 : decode cX5_sum 68 = .ok (.getfield 7, 3) := by decide +kernel
theorem dX5_sum_71 : decode cX5_sum 71 = .ok (.imul, 1) := by decide +kernel
theorem dX5_sum_72 : decode cX5_sum 72 = .ok (.istore 4, 2) := by decide +kernel
theorem dX5_sum_74 : decode cX5_sum 74 = .ok (.goto (-63), 3) := by decide +kernel
theorem dX5_sum_77 : decode cX5_sum 77 = .ok (.iload_n 3, 1) := by decide +kernel
theorem dX5_sum_78 : decode cX5_sum 78 = .ok (.ireturn, 1) := by decide +kernel
theorem dX5_power_0 : decode cX5_power 0 = .ok (.iconst 1, 1) := by decide +kernel
theorem dX5_power_1 : decode cX5_power 1 = .ok (.istore 4, 2) := by decide +kernel
theorem dX5_power_3 : decode cX5_power 3 = .ok (.iload_n 2, 1) := by decide +kernel
theorem dX5_power_4 : decode cX5_power 4 = .ok (.istore 5, 2) := by decide +kernel
theorem dX5_power_6 : decode cX5_power 6 = .ok (.iload_n 3, 1) := by decide +kernel
theorem dX5_power_7 : decode cX5_power 7 = .ok (.istore 6, 2) := by decide +kernel
theorem dX5_power_9 : decode cX5_power 9 = .ok (.iload 6, 2) := by decide +kernel
theorem dX5_power_11 : decode cX5_power 11 = .ok (.ifCond .le 57, 3) := by decide +kernel
theorem dX5_power_14 : decode cX5_power 14 = .ok (.iload 6, 2) := by decide +kernel
theorem dX5_power_16 : decode cX5_power 16 = .ok (.iconst 2, 1) := by decide +kernel
theorem dX5_power_17 : decode cX5_power 17 = .ok (.irem, 1) := by decide +kernel
theorem dX5_power_18 : decode cX5_power 18 = .ok (.iconst 1, 1) := by decide +kernel
theorem dX5_power_19 : decode cX5_power 19 = .ok (.if_icmp .ne 15, 3) := by decide +kernel
theorem dX5_power_22 : decode cX5_power 22 = .ok (.aload_n 0, 1) := by decide +kernel
theorem dX5_power_23 : decode cX5_power 23 = .ok (.iload_n 1, 1) := by decide +kernel
theorem dX5_power_24 : decode cX5_power 24 = .ok (.iload 4, 2) := by decide +kernel
theorem dX5_power_26 : decode cX5_power 26 = .ok (.iload 5, 2) := by decide +kernel
theorem dX5_power_28 : decode cX5_power 28 = .ok (.invokevirtual 123, 3) := by decide +kernel
theorem dX5_power_31 : decode cX5_power 31 = .ok (.goto 5, 3) := by decide +kernel
theorem dX5_power_34 : decode cX5_power 34 = .ok (.iload 4, 2) := by decide +kernel
theorem dX5_power_36 : decode cX5_power 36 = .ok (.istore 4, 2) := by decide +kernel
theorem dX5_power_38 : decode cX5_power 38 = .ok (.iload 6, 2) := by decide +kernel
theorem dX5_power_40 : decode cX5_power 40 = .ok (.iconst 2, 1) := by decide +kernel
theorem dX5_power_41 : decode cX5_power 41 = .ok (.idiv, 1) := by decide +kernel
theorem dX5_power_42 : decode cX5_power 42 = .ok (.istore 6, 2) := by decide +kernel
theorem dX5_power_44 : decode cX5_power 44 = .ok (.iload 6, 2) := by decide +kernel
theorem dX5_power_46 : decode cX5_power 46 = .ok (.ifCond .le 15, 3) := by decide +kernel
theorem dX5_power_49 : decode cX5_power 49 = .ok (.aload_n 0, 1) := by decide +kernel
theorem dX5_power_50 : decode cX5_power 50 = .ok (.iload_n 1, 1) := by decide +kernel
theorem dX5_power_51 : decode cX5_power 51 = .ok (.iload 5, 2) := by decide +kernel
theorem dX5_power_53 : decode cX5_power 53 = .ok (.iload 5, 2) := by decide +kernel
theorem dX5_power_55 : decode cX5_power 55 = .ok (.invokevirtual 123, 3) := by decide +kernel
theorem dX5_power_58 : decode cX5_power 58 = .ok (.goto 5, 3) := by decide +kernel
theorem dX5_power_61 : decode cX5_power 61 = .ok (.iload 5, 2) := by decide +kernel
theorem dX5_power_63 : decode cX5_power 63 = .ok (.istore 5, 2) := by decide +kernel
theorem dX5_power_65 : decode cX5_power 65 = .ok (.goto (-56), 3) := by decide +kernel
theorem dX5_power_68 : decode cX5_power 68 = .ok (.iload 4, 2) := by decide +kernel
theorem dX5_power_70 : decode cX5_power 70 = .ok (.ireturn, 1) := by decide +kernel
theorem dX5_needSigns_0 : decode cX5_needSigns 0 = .ok (.aload_n 0, 1) := by decide +kernel
theorem dX5_needSigns_1 : decode cX5_needSigns 1 = .ok (.getfield 111, 3) := by decide +kernel
theorem dX5_needSigns_4 : decode cX5_needSigns 4 = .ok (.iload_n 1, 1) := by decide +kernel
theorem dX5_needSigns_5 : decode cX5_needSigns 5 = .ok (.if_icmp .ne 4, 3) := by decide +kernel
theorem dX5_needSigns_8 : decode cX5_needSigns 8 = .ok (.return_, 1) := by decide +kernel
theorem dX5_needSigns_9 : decode cX5_needSigns 9 = .ok (.aload_n 0, 1) := by decide +kernel
theorem dX5_needSigns_10 : decode cX5_needSigns 10 = .ok (.iload_n 1, 1) := by decide +kernel
theorem dX5_needSigns_11 : decode cX5_needSigns 11 = .ok (.putfield 111, 3) := by decide +kernel
theorem dX5_needSigns_14 : decode cX5_needSigns 14 = .ok (.iconst 0, 1) := by decide +kernel
theorem dX5_needSigns_15 : decode cX5_needSigns 15 = .ok (.istore_n 2, 1) := by decide +kernel
theorem dX5_needSigns_16 : decode cX5_needSigns 16 = .ok (.iload_n 2, 1) := by decide +kernel
theorem dX5_needSigns_17 : decode cX5_needSigns 17 = .ok (.aload_n 0, 1) := by decide +kernel
theorem dX5_needSigns_18 : decode cX5_needSigns 18 = .ok (.getfield 16, 3) := by decide +kernel
theorem dX5_needSigns_21 : decode cX5_needSigns 21 = .ok (.iload_n 1, 1) := by decide +kernel
theorem dX5_needSigns_22 : decode cX5_needSigns 22 = .ok (.iaload, 1) := by decide +kernel
theorem dX5_needSigns_23 : decode cX5_needSigns 23 = .ok (.if_icmp .ge 16, 3) := by decide +kernel
theorem dX5_needSigns_26 : decode cX5_needSigns 26 = .ok (.aload_n 0, 1) := by decide +kernel
theorem dX5_needSigns_27 : decode cX5_needSigns 27 = .ok (.getfield 41, 3) := by decide +kernel
theorem dX5_needSigns_30 : decode cX5_needSigns 30 = .ok (.iload_n 2, 1) := by decide +kernel
theorem dX5_needSigns_31 : decode cX5_needSigns 31 = .ok (.iconst (-1), 1) := by decide +kernel
theorem dX5_needSigns_32 : decode cX5_needSigns 32 = .ok (.iastore, 1) := by decide +kernel
theorem dX5_needSigns_33 : decode cX5_needSigns 33 = .ok (.iinc 2 1, 3) := by decide +kernel
theorem dX5_needSigns_36 : decode cX5_needSigns 36 = .ok (.goto (-20), 3) := by decide +kernel
theorem dX5_needSigns_39 : decode cX5_needSigns 39 = .ok (.iconst 1, 1) := by decide +kernel
theorem dX5_needSigns_40 : decode cX5_needSigns 40 = .ok (.istore_n 2, 1) := by decide +kernel
theorem dX5_needSigns_41 : decode cX5_needSigns 41 = .ok (.iload_n 2, 1) := by decide +kernel
theorem dX5_needSigns_42 : decode cX5_needSigns 42 = .ok (.aload_n 0, 1) := by decide +kernel
theorem dX5_needSigns_43 : decode cX5_needSigns 43 = .ok (.getfield 16, 3) := by decide +kernel
theorem dX5_needSigns_46 : decode cX5_needSigns 46 = .ok (.iload_n 1, 1) := by decide +kernel
theorem dX5_needSigns_47 : decode cX5_needSigns 47 = .ok (.iaload, 1) := by decide +kernel
theorem dX5_needSigns_48 : decode cX5_needSigns 48 = .ok (.if_icmp .ge 22, 3) := by decide +kernel
theorem dX5_needSigns_51 : decode cX5_needSigns 51 = .ok (.aload_n 0, 1) := by decide +kernel
theorem dX5_needSigns_52 : decode cX5_needSigns 52 = .ok (.getfield 41, 3) := by decide +kernel
theorem dX5_needSigns_55 : decode cX5_needSigns 55 = .ok (.aload_n 0, 1) := by decide +kernel
theorem dX5_needSigns_56 : decode cX5_needSigns 56 = .ok (.iload_n 1, 1) := by decide +kernel
theorem dX5_needSigns_57 : decode cX5_needSigns 57 = .ok (.iload_n 2, 1) := by decide +kernel
theorem dX5_needSigns_58 : decode cX5_needSigns 58 = .ok (.iload_n 2, 1) := by decide +kernel
theorem dX5_needSigns_59 : decode cX5_needSigns 59 = .ok (.invokevirtual 123, 3) := by decide +kernel
theorem dX5_needSigns_62 : decode cX5_needSigns 62 = .ok (.iconst 1, 1) := by decide +kernel
theorem dX5_needSigns_63 : decode cX5_needSigns 63 = .ok (.iastore, 1) := by decide +kernel
theorem dX5_needSigns_64 : decode cX5_needSigns 64 = .ok (.iinc 2 1, 3) := by decide +kernel
theorem dX5_needSigns_67 : decode cX5_needSigns 67 = .ok (.goto (-26), 3) := by decide +kernel
theorem dX5_needSigns_70 : decode cX5_needSigns 70 = .ok (.aload_n 0, 1) := by decide +kernel
theorem dX5_needSigns_71 : decode cX5_needSigns 71 = .ok (.getfield 41, 3) := by decide +kernel
theorem dX5_needSigns_74 : decode cX5_needSigns 74 = .ok (.iconst 0, 1) := by decide +kernel
theorem dX5_needSigns_75 : decode cX5_needSigns 75 = .ok (.iconst 0, 1) := by decide +kernel
theorem dX5_needSigns_76 : decode cX5_needSigns 76 = .ok (.iastore, 1) := by decide +kernel
theorem dX5_needSigns_77 : decode cX5_needSigns 77 = .ok (.return_, 1) := by decide +kernel
theorem dX5_isField_0 : decode cX5_isField 0 = .ok (.iload_n 1, 1) := by decide +kernel
theorem dX5_isField_1 : decode cX5_isField 1 = .ok (.i2l, 1) := by decide +kernel
theorem dX5_isField_2 : decode cX5_isField 2 = .ok (.lconst 1, 1) := by decide +kernel
theorem dX5_isField_3 : decode cX5_isField 3 = .ok (.aload_n 0, 1) := by decide +kernel
theorem dX5_isField_4 : decode cX5_isField 4 = .ok (.getfield 13, 3) := by decide +kernel
theorem dX5_isField_7 : decode cX5_isField 7 = .ok (.i2l, 1) := by decide +kernel
theorem dX5_isField_8 : decode cX5_isField 8 = .ok (.invokestatic 127, 3) := by decide +kernel
theorem dX5_isField_11 : decode cX5_isField 11 = .ok (.ireturn, 1) := by decide +kernel
theorem dX5_isNumber_0 : decode cX5_isNumber 0 = .ok (.aload_n 0, 1) := by decide +kernel
theorem dX5_isNumber_1 : decode cX5_isNumber 1 = .ok (.iload_n 1, 1) := by decide +kernel
theorem dX5_isNumber_2 : decode cX5_isNumber 2 = .ok (.invokevirtual 131, 3) := by decide +kernel
theorem dX5_isNumber_5 : decode cX5_isNumber 5 = .ok (.ifCond .eq 25, 3) := by decide +kernel
theorem dX5_isNumber_8 : decode cX5_isNumber 8 = .ok (.iload_n 2, 1) := by decide +kernel
theorem dX5_isNumber_9 : decode cX5_isNumber 9 = .ok (.i2l, 1) := by decide +kernel
theorem dX5_isNumber_10 : decode cX5_isNumber 10 = .ok (.lconst 0, 1) := by decide +kernel
theorem dX5_isNumber_11 : decode cX5_isNumber 11 = .ok (.aload_n 0, 1) := by decide +kernel
theorem dX5_isNumber_12 : decode cX5_isNumber 12 = .ok (.getfield 16, 3) := by decide +kernel
theorem dX5_isNumber_15 : decode cX5_isNumber 15 = .ok (.iload_n 1, 1) := by decide +kernel
theorem dX5_isNumber_16 : decode cX5_isNumber 16 = .ok (.iaload, 1) := by decide +kernel
theorem dX5_isNumber_17 : decode cX5_isNumber 17 = .ok (.iconst 1, 1) := by decide +kernel
theorem dX5_isNumber_18 : decode cX5_isNumber 18 = .ok (.isub, 1) := by decide +kernel
theorem dX5_isNumber_19 : decode cX5_isNumber 19 = .ok (.i2l, 1) := by decide +kernel
theorem dX5_isNumber_20 : decode cX5_isNumber 20 = .ok (.invokestatic 127, 3) := by decide +kernel
theorem dX5_isNumber_23 : decode cX5_isNumber 23 = .ok (.ifCond .eq 7, 3) := by decide +kernel
theorem dX5_isNumber_26 : decode cX5_isNumber 26 = .ok (.iconst 1, 1) := by decide +kernel
theorem dX5_isNumber_27 : decode cX5_isNumber 27 = .ok (.goto 4, 3) := by decide +kernel
theorem dX5_isNumber_30 : decode cX5_isNumber 30 = .ok (.iconst 0, 1) := by decide +kernel
theorem dX5_isNumber_31 : decode cX5_isNumber 31 = .ok (.ireturn, 1) := by decide +kernel
theorem dX5_prime_0 : decode cX5_prime 0 = .ok (.aload_n 0, 1) := by decide +kernel
theorem dX5_prime_1 : decode cX5_prime 1 = .ok (.iconst 0, 1) := by decide +kernel
theorem dX5_prime_2 : decode cX5_prime 2 = .ok (.putfield 67, 3) := by decide +kernel
theorem dX5_prime_5 : decode cX5_prime 5 = .ok (.iload_n 1, 1) := by decide +kernel
theorem dX5_prime_6 : decode cX5_prime 6 = .ok (.iconst 3, 1) := by decide +kernel
theorem dX5_prime_7 : decode cX5_prime 7 = .ok (.if_icmp .eq 28, 3) := by decide +kernel
theorem dX5_prime_10 : decode cX5_prime 10 = .ok (.iload_n 1, 1) := by decide +kernel
theorem dX5_prime_11 : decode cX5_prime 11 = .ok (.iconst 5, 1) := by decide +kernel
theorem dX5_prime_12 : decode cX5_prime 12 = .ok (.if_icmp .eq 23, 3) := by decide +kernel
theorem dX5_prime_15 : decode cX5_prime 15 = .ok (.iload_n 1, 1) := by decide +kernel
theorem dX5_prime_16 : decode cX5_prime 16 = .ok (.bipush 7, 2) := by decide +kernel
theorem dX5_prime_18 : decode cX5_prime 18 = .ok (.if_icmp .eq 17, 3) := by decide +kernel
theorem dX5_prime_21 : decode cX5_prime 21 = .ok (.iload_n 1, 1) := by decide +kernel
theorem dX5_prime_22 : decode cX5_prime 22 = .ok (.bipush 11, 2) := by decide +kernel
theorem dX5_prime_24 : decode cX5_prime 24 = .ok (.if_icmp .eq 11, 3) := by decide +kernel
theorem dX5_prime_27 : decode cX5_prime 27 = .ok (.iload_n 1, 1) := by decide +kernel
theorem dX5_prime_28 : decode cX5_prime 28 = .ok (.bipush 13, 2) := by decide +kernel
theorem dX5_prime_30 : decode cX5_prime 30 = .ok (.if_icmp .eq 5, 3) := by decide +kernel
theorem dX5_prime_33 : decode cX5_prime 33 = .ok (.iconst (-1), 1) := by decide +kernel
theorem dX5_prime_34 : decode cX5_prime 34 = .ok (.ireturn, 1) := by decide +kernel
theorem dX5_prime_35 : decode cX5_prime 35 = .ok (.aload_n 0, 1) := by decide +kernel
theorem dX5_prime_36 : decode cX5_prime 36 = .ok (.iload_n 1, 1) := by decide +kernel
theorem dX5_prime_37 : decode cX5_prime 37 = .ok (.invokevirtual 63, 3) := by decide +kernel
theorem dX5_prime_40 : decode cX5_prime 40 = .ok (.aload_n 0, 1) := by decide +kernel
theorem dX5_prime_41 : decode cX5_prime 41 = .ok (.getfield 13, 3) := by decide +kernel
theorem dX5_prime_44 : decode cX5_prime 44 = .ok (.ireturn, 1) := by decide +kernel
theorem dX5_size_0 : decode cX5_size 0 = .ok (.aload_n 0, 1) := by decide +kernel
theorem dX5_size_1 : decode cX5_size 1 = .ok (.iconst 0, 1) := by decide +kernel
theorem dX5_size_2 : decode cX5_size 2 = .ok (.putfield 67, 3) := by decide +kernel
theorem dX5_size_5 : decode cX5_size 5 = .ok (.aload_n 0, 1) := by decide +kernel
theorem dX5_size_6 : decode cX5_size 6 = .ok (.iload_n 1, 1) := by decide +kernel
theorem dX5_size_7 : decode cX5_size 7 = .ok (.invokevirtual 131, 3) := by decide +kernel
theorem dX5_size_10 : decode cX5_size 10 = .ok (.ifCond .eq 12, 3) := by decide +kernel
theorem dX5_size_13 : decode cX5_size 13 = .ok (.aload_n 0, 1) := by decide +kernel
theorem dX5_size_14 : decode cX5_size 14 = .ok (.getfield 16, 3) := by decide +kernel
theorem dX5_size_17 : decode cX5_size 17 = .ok (.iload_n 1, 1) := by decide +kernel
theorem dX5_size_18 : decode cX5_size 18 = .ok (.iaload, 1) := by decide +kernel
theorem dX5_size_19 : decode cX5_size 19 = .ok (.goto 4, 3) := by decide +kernel
theorem dX5_size_22 : decode cX5_size 22 = .ok (.iconst (-1), 1) := by decide +kernel
theorem dX5_size_23 : decode cX5_size 23 = .ok (.ireturn, 1) := by decide +kernel
theorem dX5_modulus_0 : decode cX5_modulus 0 = .ok (.aload_n 0, 1) := by decide +kernel
theorem dX5_modulus_1 : decode cX5_modulus 1 = .ok (.iconst 0, 1) := by decide +kernel
theorem dX5_modulus_2 : decode cX5_modulus 2 = .ok (.putfield 67, 3) := by decide +kernel
theorem dX5_modulus_5 : decode cX5_modulus 5 = .ok (.aload_n 0, 1) := by decide +kernel
theorem dX5_modulus_6 : decode cX5_modulus 6 = .ok (.iload_n 1, 1) := by decide +kernel
theorem dX5_modulus_7 : decode cX5_modulus 7 = .ok (.invokevirtual 131, 3) := by decide +kernel
theorem dX5_modulus_10 : decode cX5_modulus 10 = .ok (.ifCond .eq 12, 3) := by decide +kernel
theorem dX5_modulus_13 : decode cX5_modulus 13 = .ok (.aload_n 0, 1) := by decide +kernel
theorem dX5_modulus_14 : decode cX5_modulus 14 = .ok (.getfield 20, 3) := by decide +kernel
theorem dX5_modulus_17 : decode cX5_modulus 17 = .ok (.iload_n 1, 1) := by decide +kernel
theorem dX5_modulus_18 : decode cX5_modulus 18 = .ok (.iaload, 1) := by decide +kernel
theorem dX5_modulus_19 : decode cX5_modulus 19 = .ok (.goto 4, 3) := by decide +kernel
theorem dX5_modulus_22 : decode cX5_modulus 22 = .ok (.iconst (-1), 1) := by decide +kernel
theorem dX5_modulus_23 : decode cX5_modulus 23 = .ok (.ireturn, 1) := by decide +kernel
theorem dX5_plus_0 : decode cX5_plus 0 = .ok (.aload_n 0, 1) := by decide +kernel
theorem dX5_plus_1 : decode cX5_plus 1 = .ok (.iconst 0, 1) := by decide +kernel
theorem dX5_plus_2 : decode cX5_plus 2 = .ok (.putfield 67, 3) := by decide +kernel
theorem dX5_plus_5 : decode cX5_plus 5 = .ok (.aload_n 0, 1) := by decide +kernel
theorem dX5_plus_6 : decode cX5_plus 6 = .ok (.iload_n 1, 1) := by decide +kernel
theorem dX5_plus_7 : decode cX5_plus 7 = .ok (.iload_n 2, 1) := by decide +kernel
theorem dX5_plus_8 : decode cX5_plus 8 = .ok (.invokevirtual 135, 3) := by decide +kernel
theorem dX5_plus_11 : decode cX5_plus 11 = .ok (.ifCond .eq 21, 3) := by decide +kernel
theorem dX5_plus_14 : decode cX5_plus 14 = .ok (.aload_n 0, 1) := by decide +kernel
theorem dX5_plus_15 : decode cX5_plus 15 = .ok (.iload_n 1, 1) := by decide +kernel
theorem dX5_plus_16 : decode cX5_plus 16 = .ok (.iload_n 3, 1) := by decide +kernel
theorem dX5_plus_17 : decode cX5_plus 17 = .ok (.invokevirtual 135, 3) := by decide +kernel
theorem dX5_plus_20 : decode cX5_plus 20 = .ok (.ifCond .eq 12, 3) := by decide +kernel
theorem dX5_plus_23 : decode cX5_plus 23 = .ok (.aload_n 0, 1) := by decide +kernel
theorem dX5_plus_24 : decode cX5_plus 24 = .ok (.iload_n 2, 1) := by decide +kernel
theorem dX5_plus_25 : decode cX5_plus 25 = .ok (.iload_n 3, 1) := by decide +kernel
theorem dX5_plus_26 : decode cX5_plus 26 = .ok (.invokevirtual 139, 3) := by decide +kernel
theorem dX5_plus_29 : decode cX5_plus 29 = .ok (.goto 4, 3) := by decide +kernel
theorem dX5_plus_32 : decode cX5_plus 32 = .ok (.iconst (-1), 1) := by decide +kernel
theorem dX5_plus_33 : decode cX5_plus 33 = .ok (.ireturn, 1) := by decide +kernel
theorem dX5_times_0 : decode cX5_times 0 = .ok (.aload_n 0, 1) := by decide +kernel
theorem dX5_times_1 : decode cX5_times 1 = .ok (.iconst 0, 1) := by decide +kernel
theorem dX5_times_2 : decode cX5_times 2 = .ok (.putfield 67, 3) := by decide +kernel
theorem dX5_times_5 : decode cX5_times 5 = .ok (.aload_n 0, 1) := by decide +kernel
theorem dX5_times_6 : decode cX5_times 6 = .ok (.iload_n 1, 1) := by decide +kernel
theorem dX5_times_7 : decode cX5_times 7 = .ok (.iload_n 2, 1) := by decide +kernel
theorem dX5_times_8 : decode cX5_times 8 = .ok (.invokevirtual 135, 3) := by decide +kernel
theorem dX5_times_11 : decode cX5_times 11 = .ok (.ifCond .eq 22, 3) := by decide +kernel
theorem dX5_times_14 : decode cX5_times 14 = .ok (.aload_n 0, 1) := by decide +kernel
theorem dX5_times_15 : decode cX5_times 15 = .ok (.iload_n 1, 1) := by decide +kernel
theorem dX5_times_16 : decode cX5_times 16 = .ok (.iload_n 3, 1) := by decide +kernel
theorem dX5_times_17 : decode cX5_times 17 = .ok (.invokevirtual 135, 3) := by decide +kernel
theorem dX5_times_20 : decode cX5_times 20 = .ok (.ifCond .eq 13, 3) := by decide +kernel
theorem dX5_times_23 : decode cX5_times 23 = .ok (.aload_n 0, 1) := by decide +kernel
theorem dX5_times_24 : decode cX5_times 24 = .ok (.iload_n 1, 1) := by decide +kernel
theorem dX5_times_25 : decode cX5_times 25 = .ok (.iload_n 2, 1) := by decide +kernel
theorem dX5_times_26 : decode cX5_times 26 = .ok (.iload_n 3, 1) := by decide +kernel
theorem dX5_times_27 : decode cX5_times 27 = .ok (.invokevirtual 123, 3) := by decide +kernel
theorem dX5_times_30 : decode cX5_times 30 = .ok (.goto 4, 3) := by decide +kernel
theorem dX5_times_33 : decode cX5_times 33 = .ok (.iconst (-1), 1) := by decide +kernel
theorem dX5_times_34 : decode cX5_times 34 = .ok (.ireturn, 1) := by decide +kernel
theorem dX5_over_0 : decode cX5_over 0 = .ok (.aload_n 0, 1) := by decide +kernel
theorem dX5_over_1 : decode cX5_over 1 = .ok (.iconst 0, 1) := by decide +kernel
theorem dX5_over_2 : decode cX5_over 2 = .ok (.putfield 67, 3) := by decide +kernel
theorem dX5_over_5 : decode cX5_over 5 = .ok (.aload_n 0, 1) := by decide +kernel
theorem dX5_over_6 : decode cX5_over 6 = .ok (.iload_n 1, 1) := by decide +kernel
theorem dX5_over_7 : decode cX5_over 7 = .ok (.iload_n 2, 1) := by decide +kernel
theorem dX5_over_8 : decode cX5_over 8 = .ok (.invokevirtual 135, 3) := by decide +kernel
theorem dX5_over_11 : decode cX5_over 11 = .ok (.ifCond .ne 5, 3) := by decide +kernel
theorem dX5_over_14 : decode cX5_over 14 = .ok (.iconst (-1), 1) := by decide +kernel
theorem dX5_over_15 : decode cX5_over 15 = .ok (.ireturn, 1) := by decide +kernel
theorem dX5_over_16 : decode cX5_over 16 = .ok (.iload_n 2, 1) := by decide +kernel
theorem dX5_over_17 : decode cX5_over 17 = .ok (.ifCond .ne 6, 3) := by decide +kernel
theorem dX5_over_20 : decode cX5_over 20 = .ok (.bipush (-2), 2) := by decide +kernel
theorem dX5_over_22 : decode cX5_over 22 = .ok (.ireturn, 1) := by decide +kernel
theorem dX5_over_23 : decode cX5_over 23 = .ok (.iconst 1, 1) := by decide +kernel
theorem dX5_over_24 : decode cX5_over 24 = .ok (.istore_n 3, 1) := by decide +kernel
theorem dX5_over_25 : decode cX5_over 25 = .ok (.aload_n 0, 1) := by decide +kernel
theorem dX5_over_26 : decode cX5_over 26 = .ok (.iload_n 1, 1) := by decide +kernel
theorem dX5_over_27 : decode cX5_over 27 = .ok (.iload_n 2, 1) := by decide +kernel
theorem dX5_over_28 : decode cX5_over 28 = .ok (.iload_n 3, 1) := by decide +kernel
theorem dX5_over_29 : decode cX5_over 29 = .ok (.invokevirtual 123, 3) := by decide +kernel
theorem dX5_over_32 : decode cX5_over 32 = .ok (.iconst 1, 1) := by decide +kernel
theorem dX5_over_33 : decode cX5_over 33 = .ok (.if_icmp .eq 9, 3) := by decide +kernel
theorem dX5_over_36 : decode cX5_over 36 = .ok (.iinc 3 1, 3) := by decide +kernel
theorem dX5_over_39 : decode cX5_over 39 = .ok (.goto (-14), 3) := by decide +kernel
theorem dX5_over_42 : decode cX5_over 42 = .ok (.iload_n 3, 1) := by decide +kernel
theorem dX5_over_43 : decode cX5_over 43 = .ok (.ireturn, 1) := by decide +kernel
theorem dX5_raise_0 : decode cX5_raise 0 = .ok (.aload_n 0, 1) := by decide +kernel
theorem dX5_raise_1 : decode cX5_raise 1 = .ok (.iconst 0, 1) := by decide +kernel
theorem dX5_raise_2 : decode cX5_raise 2 = .ok (.putfield 67, 3) := by decide +kernel
theorem dX5_raise_5 : decode cX5_raise 5 = .ok (.aload_n 0, 1) := by decide +kernel
theorem dX5_raise_6 : decode cX5_raise 6 = .ok (.iload_n 1, 1) := by decide +kernel
theorem dX5_raise_7 : decode cX5_raise 7 = .ok (.iload_n 2, 1) := by decide +kernel
theorem dX5_raise_8 : decode cX5_raise 8 = .ok (.invokevirtual 135, 3) := by decide +kernel
theorem dX5_raise_11 : decode cX5_raise 11 = .ok (.ifCond .eq 17, 3) := by decide +kernel
theorem dX5_raise_14 : decode cX5_raise 14 = .ok (.iload_n 3, 1) := by decide +kernel
theorem dX5_raise_15 : decode cX5_raise 15 = .ok (.ifCond .lt 13, 3) := by decide +kernel
theorem dX5_raise_18 : decode cX5_raise 18 = .ok (.aload_n 0, 1) := by decide +kernel
theorem dX5_raise_19 : decode cX5_raise 19 = .ok (.iload_n 1, 1) := by decide +kernel
theorem dX5_raise_20 : decode cX5_raise 20 = .ok (.iload_n 2, 1) := by decide +kernel
theorem dX5_raise_21 : decode cX5_raise 21 = .ok (.iload_n 3, 1) := by decide +kernel
theorem dX5_raise_22 : decode cX5_raise 22 = .ok (.invokevirtual 142, 3) := by decide +kernel
theorem dX5_raise_25 : decode cX5_raise 25 = .ok (.goto 4, 3) := by decide +kernel
theorem dX5_raise_28 : decode cX5_raise 28 = .ok (.iconst (-1), 1) := by decide +kernel
theorem dX5_raise_29 : decode cX5_raise 29 = .ok (.ireturn, 1) := by decide +kernel
theorem dX5_sign_0 : decode cX5_sign 0 = .ok (.aload_n 0, 1) := by decide +kernel
theorem dX5_sign_1 : decode cX5_sign 1 = .ok (.iconst 0, 1) := by decide +kernel
theorem dX5_sign_2 : decode cX5_sign 2 = .ok (.putfield 67, 3) := by decide +kernel
theorem dX5_sign_5 : decode cX5_sign 5 = .ok (.aload_n 0, 1) := by decide +kernel
theorem dX5_sign_6 : decode cX5_sign 6 = .ok (.iload_n 1, 1) := by decide +kernel
theorem dX5_sign_7 : decode cX5_sign 7 = .ok (.iload_n 2, 1) := by decide +kernel
theorem dX5_sign_8 : decode cX5_sign 8 = .ok (.invokevirtual 135, 3) := by decide +kernel
theorem dX5_sign_11 : decode cX5_sign 11 = .ok (.ifCond .ne 6, 3) := by decide +kernel
theorem dX5_sign_14 : decode cX5_sign 14 = .ok (.ldc 145, 2) := by decide +kernel
theorem dX5_sign_16 : decode cX5_sign 16 = .ok (.ireturn, 1) := by decide +kernel
theorem dX5_sign_17 : decode cX5_sign 17 = .ok (.aload_n 0, 1) := by decide +kernel
theorem dX5_sign_18 : decode cX5_sign 18 = .ok (.iload_n 1, 1) := by decide +kernel
theorem dX5_sign_19 : decode cX5_sign 19 = .ok (.invokevirtual 114, 3) := by decide +kernel
theorem dX5_sign_22 : decode cX5_sign 22 = .ok (.aload_n 0, 1) := by decide +kernel
theorem dX5_sign_23 : decode cX5_sign 23 = .ok (.getfield 41, 3) := by decide +kernel
theorem dX5_sign_26 : decode cX5_sign 26 = .ok (.iload_n 2, 1) := by decide +kernel
theorem dX5_sign_27 : decode cX5_sign 27 = .ok (.iaload, 1) := by decide +kernel
theorem dX5_sign_28 : decode cX5_sign 28 = .ok (.ireturn, 1) := by decide +kernel
theorem dX5_turns_0 : decode cX5_turns 0 = .ok (.aload_n 0, 1) := by decide +kernel
theorem dX5_turns_1 : decode cX5_turns 1 = .ok (.iconst 0, 1) := by decide +kernel
theorem dX5_turns_2 : decode cX5_turns 2 = .ok (.putfield 67, 3) := by decide +kernel
theorem dX5_turns_5 : decode cX5_turns 5 = .ok (.aload_n 0, 1) := by decide +kernel
theorem dX5_turns_6 : decode cX5_turns 6 = .ok (.iload_n 1, 1) := by decide +kernel
theorem dX5_turns_7 : decode cX5_turns 7 = .ok (.iload_n 2, 1) := by decide +kernel
theorem dX5_turns_8 : decode cX5_turns 8 = .ok (.invokevirtual 135, 3) := by decide +kernel
theorem dX5_turns_11 : decode cX5_turns 11 = .ok (.ifCond .ne 5, 3) := by decide +kernel
theorem dX5_turns_14 : decode cX5_turns 14 = .ok (.iconst (-1), 1) := by decide +kernel
theorem dX5_turns_15 : decode cX5_turns 15 = .ok (.ireturn, 1) := by decide +kernel
theorem dX5_turns_16 : decode cX5_turns 16 = .ok (.iload_n 2, 1) := by decide +kernel
theorem dX5_turns_17 : decode cX5_turns 17 = .ok (.ifCond .ne 6, 3) := by decide +kernel
theorem dX5_turns_20 : decode cX5_turns 20 = .ok (.bipush (-2), 2) := by decide +kernel
theorem dX5_turns_22 : decode cX5_turns 22 = .ok (.ireturn, 1) := by decide +kernel
theorem dX5_turns_23 : decode cX5_turns 23 = .ok (.iconst 1, 1) := by decide +kernel
theorem dX5_turns_24 : decode cX5_turns 24 = .ok (.istore_n 3, 1) := by decide +kernel
theorem dX5_turns_25 : decode cX5_turns 25 = .ok (.iload_n 2, 1) := by decide +kernel
theorem dX5_turns_26 : decode cX5_turns 26 = .ok (.istore 4, 2) := by decide +kernel
theorem dX5_turns_28 : decode cX5_turns 28 = .ok (.iload 4, 2) := by decide +kernel
theorem dX5_turns_30 : decode cX5_turns 30 = .ok (.iconst 1, 1) := by decide +kernel
theorem dX5_turns_31 : decode cX5_turns 31 = .ok (.if_icmp .eq 19, 3) := by decide +kernel
theorem dX5_turns_34 : decode cX5_turns 34 = .ok (.aload_n 0, 1) := by decide +kernel
theorem dX5_turns_35 : decode cX5_turns 35 = .ok (.iload_n 1, 1) := by decide +kernel
theorem dX5_turns_36 : decode cX5_turns 36 = .ok (.iload 4, 2) := by decide +kernel
theorem dX5_turns_38 : decode cX5_turns 38 = .ok (.iload_n 2, 1) := by decide +kernel
theorem dX5_turns_39 : decode cX5_turns 39 = .ok (.invokevirtual 123, 3) := by decide +kernel
theorem dX5_turns_42 : decode cX5_turns 42 = .ok (.istore 4, 2) := by decide +kernel
theorem dX5_turns_44 : decode cX5_turns 44 = .ok (.iinc 3 1, 3) := by decide +kernel
theorem dX5_turns_47 : decode cX5_turns 47 = .ok (.goto (-19), 3) := by decide +kernel
theorem dX5_turns_50 : decode cX5_turns 50 = .ok (.iload_n 3, 1) := by decide +kernel
theorem dX5_turns_51 : decode cX5_turns 51 = .ok (.ireturn, 1) := by decide +kernel
theorem dX5_trace_0 : decode cX5_trace 0 = .ok (.aload_n 0, 1) := by decide +kernel
theorem dX5_trace_1 : decode cX5_trace 1 = .ok (.iconst 0, 1) := by decide +kernel
theorem dX5_trace_2 : decode cX5_trace 2 = .ok (.putfield 67, 3) := by decide +kernel
theorem dX5_trace_5 : decode cX5_trace 5 = .ok (.aload_n 0, 1) := by decide +kernel
theorem dX5_trace_6 : decode cX5_trace 6 = .ok (.iload_n 1, 1) := by decide +kernel
theorem dX5_trace_7 : decode cX5_trace 7 = .ok (.iload_n 2, 1) := by decide +kernel
theorem dX5_trace_8 : decode cX5_trace 8 = .ok (.invokevirtual 135, 3) := by decide +kernel
theorem dX5_trace_11 : decode cX5_trace 11 = .ok (.ifCond .ne 5, 3) := by decide +kernel
theorem dX5_trace_14 : decode cX5_trace 14 = .ok (.iconst (-1), 1) := by decide +kernel
theorem dX5_trace_15 : decode cX5_trace 15 = .ok (.ireturn, 1) := by decide +kernel
theorem dX5_trace_16 : decode cX5_trace 16 = .ok (.iconst 0, 1) := by decide +kernel
theorem dX5_trace_17 : decode cX5_trace 17 = .ok (.istore_n 3, 1) := by decide +kernel
theorem dX5_trace_18 : decode cX5_trace 18 = .ok (.iload_n 2, 1) := by decide +kernel
theorem dX5_trace_19 : decode cX5_trace 19 = .ok (.istore 4, 2) := by decide +kernel
theorem dX5_trace_21 : decode cX5_trace 21 = .ok (.iconst 0, 1) := by decide +kernel
theorem dX5_trace_22 : decode cX5_trace 22 = .ok (.istore 5, 2) := by decide +kernel
theorem dX5_trace_24 : decode cX5_trace 24 = .ok (.iload 5, 2) := by decide +kernel
theorem dX5_trace_26 : decode cX5_trace 26 = .ok (.iload_n 1, 1) := by decide +kernel
theorem dX5_trace_27 : decode cX5_trace 27 = .ok (.if_icmp .ge 30, 3) := by decide +kernel
theorem dX5_trace_30 : decode cX5_trace 30 = .ok (.aload_n 0, 1) := by decide +kernel
theorem dX5_trace_31 : decode cX5_trace 31 = .ok (.iload_n 3, 1) := by decide +kernel
theorem dX5_trace_32 : decode cX5_trace 32 = .ok (.iload 4, 2) := by decide +kernel
theorem dX5_trace_34 : decode cX5_trace 34 = .ok (.invokevirtual 139, 3) := by decide +kernel
theorem dX5_trace_37 : decode cX5_trace 37 = .ok (.istore_n 3, 1) := by decide +kernel
theorem dX5_trace_38 : decode cX5_trace 38 = .ok (.aload_n 0, 1) := by decide +kernel
theorem dX5_trace_39 : decode cX5_trace 39 = .ok (.iload_n 1, 1) := by decide +kernel
theorem dX5_trace_40 : decode cX5_trace 40 = .ok (.iload 4, 2) := by decide +kernel
theorem dX5_trace_42 : decode cX5_trace 42 = .ok (.aload_n 0, 1) := by decide +kernel
theorem dX5_trace_43 : decode cX5_trace 43 = .ok (.getfield 7, 3) := by decide +kernel
theorem dX5_trace_46 : decode cX5_trace 46 = .ok (.invokevirtual 142, 3) := by decide +kernel
theorem dX5_trace_49 : decode cX5_trace 49 = .ok (.istore 4, 2) := by decide +kernel
theorem dX5_trace_51 : decode cX5_trace 51 = .ok (.iinc 5 1, 3) := by decide +kernel
theorem dX5_trace_54 : decode cX5_trace 54 = .ok (.goto (-30), 3) := by decide +kernel
theorem dX5_trace_57 : decode cX5_trace 57 = .ok (.iload_n 3, 1) := by decide +kernel
theorem dX5_trace_58 : decode cX5_trace 58 = .ok (.ireturn, 1) := by decide +kernel
theorem dX5_forms_0 : decode cX5_forms 0 = .ok (.aload_n 0, 1) := by decide +kernel
theorem dX5_forms_1 : decode cX5_forms 1 = .ok (.iconst 0, 1) := by decide +kernel
theorem dX5_forms_2 : decode cX5_forms 2 = .ok (.putfield 67, 3) := by decide +kernel
theorem dX5_forms_5 : decode cX5_forms 5 = .ok (.aload_n 0, 1) := by decide +kernel
theorem dX5_forms_6 : decode cX5_forms 6 = .ok (.iload_n 1, 1) := by decide +kernel
theorem dX5_forms_7 : decode cX5_forms 7 = .ok (.iload_n 2, 1) := by decide +kernel
theorem dX5_forms_8 : decode cX5_forms 8 = .ok (.invokevirtual 135, 3) := by decide +kernel
theorem dX5_forms_11 : decode cX5_forms 11 = .ok (.ifCond .eq 22, 3) := by decide +kernel
theorem dX5_forms_14 : decode cX5_forms 14 = .ok (.aload_n 0, 1) := by decide +kernel
theorem dX5_forms_15 : decode cX5_forms 15 = .ok (.iload_n 1, 1) := by decide +kernel
theorem dX5_forms_16 : decode cX5_forms 16 = .ok (.iload_n 3, 1) := by decide +kernel
theorem dX5_forms_17 : decode cX5_forms 17 = .ok (.invokevirtual 135, 3) := by decide +kernel
theorem dX5_forms_20 : decode cX5_forms 20 = .ok (.ifCond .eq 13, 3) := by decide +kernel
theorem dX5_forms_23 : decode cX5_forms 23 = .ok (.aload_n 0, 1) := by decide +kernel
theorem dX5_forms_24 : decode cX5_forms 24 = .ok (.iload_n 1, 1) := by decide +kernel
theorem dX5_forms_25 : decode cX5_forms 25 = .ok (.iload 4, 2) := by decide +kernel
theorem dX5_forms_27 : decode cX5_forms 27 = .ok (.invokevirtual 135, 3) := by decide +kernel
theorem dX5_forms_30 : decode cX5_forms 30 = .ok (.ifCond .ne 5, 3) := by decide +kernel
theorem dX5_forms_33 : decode cX5_forms 33 = .ok (.iconst (-1), 1) := by decide +kernel
theorem dX5_forms_34 : decode cX5_forms 34 = .ok (.ireturn, 1) := by decide +kernel
theorem dX5_forms_35 : decode cX5_forms 35 = .ok (.iconst 0, 1) := by decide +kernel
theorem dX5_forms_36 : decode cX5_forms 36 = .ok (.istore 5, 2) := by decide +kernel
theorem dX5_forms_38 : decode cX5_forms 38 = .ok (.iload 5, 2) := by decide +kernel
theorem dX5_forms_40 : decode cX5_forms 40 = .ok (.aload_n 0, 1) := by decide +kernel
theorem dX5_forms_41 : decode cX5_forms 41 = .ok (.getfield 16, 3) := by decide +kernel
theorem dX5_forms_44 : decode cX5_forms 44 = .ok (.iload_n 1, 1) := by decide +kernel
theorem dX5_forms_45 : decode cX5_forms 45 = .ok (.iaload, 1) := by decide +kernel
theorem dX5_forms_46 : decode cX5_forms 46 = .ok (.if_icmp .ge 17, 3) := by decide +kernel
theorem dX5_forms_49 : decode cX5_forms 49 = .ok (.aload_n 0, 1) := by decide +kernel
theorem dX5_forms_50 : decode cX5_forms 50 = .ok (.getfield 53, 3) := by decide +kernel
theorem dX5_forms_53 : decode cX5_forms 53 = .ok (.iload 5, 2) := by decide +kernel
theorem dX5_forms_55 : decode cX5_forms 55 = .ok (.iconst 0, 1) := by decide +kernel
theorem dX5_forms_56 : decode cX5_forms 56 = .ok (.iastore, 1) := by decide +kernel
theorem dX5_forms_57 : decode cX5_forms 57 = .ok (.iinc 5 1, 3) := by decide +kernel
theorem dX5_forms_60 : decode cX5_forms 60 = .ok (.goto (-22), 3) := by decide +kernel
theorem dX5_forms_63 : decode cX5_forms 63 = .ok (.iconst 0, 1) := by decide +kernel
theorem dX5_forms_64 : decode cX5_forms 64 = .ok (.istore 5, 2) := by decide +kernel
theorem dX5_forms_66 : decode cX5_forms 66 = .ok (.iload 5, 2) := by decide +kernel
theorem dX5_forms_68 : decode cX5_forms 68 = .ok (.aload_n 0, 1) := by decide +kernel
theorem dX5_forms_69 : decode cX5_forms 69 = .ok (.getfield 16, 3) := by decide +kernel
theorem dX5_forms_72 : decode cX5_forms 72 = .ok (.iload_n 1, 1) := by decide +kernel
theorem dX5_forms_73 : decode cX5_forms 73 = .ok (.iaload, 1) := by decide +kernel
theorem dX5_forms_74 : decode cX5_forms 74 = .ok (.if_icmp .ge 33, 3) := by decide +kernel
theorem dX5_forms_77 : decode cX5_forms 77 = .ok (.aload_n 0, 1) := by decide +kernel
theorem dX5_forms_78 : decode cX5_forms 78 = .ok (.getfield 53, 3) := by decide +kernel
theorem dX5_forms_81 : decode cX5_forms 81 = .ok (.aload_n 0, 1) := by decide +kernel
theorem dX5_forms_82 : decode cX5_forms 82 = .ok (.iload_n 1, 1) := by decide +kernel
theorem dX5_forms_83 : decode cX5_forms 83 = .ok (.iload_n 3, 1) := by decide +kernel
theorem dX5_forms_84 : decode cX5_forms 84 = .ok (.aload_n 0, 1) := by decide +kernel
theorem dX5_forms_85 : decode cX5_forms 85 = .ok (.iload_n 1, 1) := by decide +kernel
theorem dX5_forms_86 : decode cX5_forms 86 = .ok (.iload 5, 2) := by decide +kernel
theorem dX5_forms_88 : decode cX5_forms 88 = .ok (.iload 5, 2) := by decide +kernel
theorem dX5_forms_90 : decode cX5_forms 90 = .ok (.invokevirtual 123, 3) := by decide +kernel
theorem dX5_forms_93 : decode cX5_forms 93 = .ok (.invokevirtual 123, 3) := by decide +kernel
theorem dX5_forms_96 : decode cX5_forms 96 = .ok (.dup2, 1) := by decide +kernel
theorem dX5_forms_97 : decode cX5_forms 97 = .ok (.iaload, 1) := by decide +kernel
theorem dX5_forms_98 : decode cX5_forms 98 = .ok (.iconst 1, 1) := by decide +kernel
theorem dX5_forms_99 : decode cX5_forms 99 = .ok (.iadd, 1) := by decide +kernel
theorem dX5_forms_100 : decode cX5_forms 100 = .ok (.iastore, 1) := by decide +kernel
theorem dX5_forms_101 : decode cX5_forms 101 = .ok (.iinc 5 1, 3) := by decide +kernel
theorem dX5_forms_104 : decode cX5_forms 104 = .ok (.goto (-38), 3) := by decide +kernel
theorem dX5_forms_107 : decode cX5_forms 107 = .ok (.iconst 0, 1) := by decide +kernel
theorem dX5_forms_108 : decode cX5_forms 108 = .ok (.istore 5, 2) := by decide +kernel
theorem dX5_forms_110 : decode cX5_forms 110 = .ok (.iconst 0, 1) := by decide +kernel
theorem dX5_forms_111 : decode cX5_forms 111 = .ok (.istore 6, 2) := by decide +kernel
theorem dX5_forms_113 : decode cX5_forms 113 = .ok (.iload 6, 2) := by decide +kernel
theorem dX5_forms_115 : decode cX5_forms 115 = .ok (.aload_n 0, 1) := by decide +kernel
theorem dX5_forms_116 : decode cX5_forms 116 = .ok (.getfield 16, 3) := by decide +kernel
theorem dX5_forms_119 : decode cX5_forms 119 = .ok (.iload_n 1, 1) := by decide +kernel
theorem dX5_forms_120 : decode cX5_forms 120 = .ok (.iaload, 1) := by decide +kernel
theorem dX5_forms_121 : decode cX5_forms 121 = .ok (.if_icmp .ge 59, 3) := by decide +kernel
theorem dX5_forms_124 : decode cX5_forms 124 = .ok (.aload_n 0, 1) := by decide +kernel
theorem dX5_forms_125 : decode cX5_forms 125 = .ok (.iload_n 1, 1) := by decide +kernel
theorem dX5_forms_126 : decode cX5_forms 126 = .ok (.iload_n 2, 1) := by decide +kernel
theorem dX5_forms_127 : decode cX5_forms 127 = .ok (.aload_n 0, 1) := by decide +kernel
theorem dX5_forms_128 : decode cX5_forms 128 = .ok (.iload_n 1, 1) := by decide +kernel
theorem dX5_forms_129 : decode cX5_forms 129 = .ok (.iload 6, 2) := by decide +kernel
theorem dX5_forms_131 : decode cX5_forms 131 = .ok (.iload 6, 2) := by decide +kernel
theorem dX5_forms_133 : decode cX5_forms 133 = .ok (.invokevirtual 123, 3) := by decide +kernel
theorem dX5_forms_136 : decode cX5_forms 136 = .ok (.invokevirtual 123, 3) := by decide +kernel
theorem dX5_forms_139 : decode cX5_forms 139 = .ok (.istore 7, 2) := by decide +kernel
theorem dX5_forms_141 : decode cX5_forms 141 = .ok (.aload_n 0, 1) := by decide +kernel
theorem dX5_forms_142 : decode cX5_forms 142 = .ok (.iload 4, 2) := by decide +kernel
theorem dX5_forms_144 : decode cX5_forms 144 = .ok (.aload_n 0, 1) := by decide +kernel
theorem dX5_forms_145 : decode cX5_forms 145 = .ok (.iload_n 1, 1) := by decide +kernel
theorem dX5_forms_146 : decode cX5_forms 146 = .ok (.aload_n 0, 1) := by decide +kernel
theorem dX5_forms_147 : decode cX5_forms 147 = .ok (.getfield 7, 3) := by decide +kernel
theorem dX5_forms_150 : decode cX5_forms 150 = .ok (.iconst 1, 1) := by decide +kernel
theorem dX5_forms_151 : decode cX5_forms 151 = .ok (.isub, 1) := by decide +kernel
theorem dX5_forms_152 : decode cX5_forms 152 = .ok (.iload 7, 2) := by decide +kernel
theorem dX5_forms_154 : decode cX5_forms 154 = .ok (.invokevirtual 123, 3) := by decide +kernel
theorem dX5_forms_157 : decode cX5_forms 157 = .ok (.invokevirtual 139, 3) := by decide +kernel
theorem dX5_forms_160 : decode cX5_forms 160 = .ok (.istore 8, 2) := by decide +kernel
theorem dX5_forms_162 : decode cX5_forms 162 = .ok (.iload 5, 2) := by decide +kernel
theorem dX5_forms_164 : decode cX5_forms 164 = .ok (.aload_n 0, 1) := by decide +kernel
theorem dX5_forms_165 : decode cX5_forms 165 = .ok (.getfield 53, 3) := by decide +kernel
theorem dX5_forms_168 : decode cX5_forms 168 = .ok (.iload 8, 2) := by decide +kernel
theorem dX5_forms_170 : decode cX5_forms 170 = .ok (.iaload, 1) := by decide +kernel
theorem dX5_forms_171 : decode cX5_forms 171 = .ok (.iadd, 1) := by decide +kernel
theorem dX5_forms_172 : decode cX5_forms 172 = .ok (.istore 5, 2) := by decide +kernel
theorem dX5_forms_174 : decode cX5_forms 174 = .ok (.iinc 6 1, 3) := by decide +kernel
theorem dX5_forms_177 : decode cX5_forms 177 = .ok (.goto (-64), 3) := by decide +kernel
theorem dX5_forms_180 : decode cX5_forms 180 = .ok (.iload 5, 2) := by decide +kernel
theorem dX5_forms_182 : decode cX5_forms 182 = .ok (.ireturn, 1) := by decide +kernel
theorem dX5_isCurve_0 : decode cX5_isCurve 0 = .ok (.iload_n 1, 1) := by decide +kernel
theorem dX5_isCurve_1 : decode cX5_isCurve 1 = .ok (.i2l, 1) := by decide +kernel
theorem dX5_isCurve_2 : decode cX5_isCurve 2 = .ok (.lconst 0, 1) := by decide +kernel
theorem dX5_isCurve_3 : decode cX5_isCurve 3 = .ok (.aload_n 0, 1) := by decide +kernel
theorem dX5_isCurve_4 : decode cX5_isCurve 4 = .ok (.getfield 108, 3) := by decide +kernel
theorem dX5_isCurve_7 : decode cX5_isCurve 7 = .ok (.iconst 1, 1) := by decide +kernel
theorem dX5_isCurve_8 : decode cX5_isCurve 8 = .ok (.isub, 1) := by decide +kernel
theorem dX5_isCurve_9 : decode cX5_isCurve 9 = .ok (.i2l, 1) := by decide +kernel
theorem dX5_isCurve_10 : decode cX5_isCurve 10 = .ok (.invokestatic 127, 3) := by decide +kernel
theorem dX5_isCurve_13 : decode cX5_isCurve 13 = .ok (.ireturn, 1) := by decide +kernel
theorem dX5_degreeOf_0 : decode cX5_degreeOf 0 = .ok (.bipush 15, 2) := by decide +kernel
theorem dX5_degreeOf_2 : decode cX5_degreeOf 2 = .ok (.istore_n 2, 1) := by decide +kernel
theorem dX5_degreeOf_3 : decode cX5_degreeOf 3 = .ok (.aload_n 0, 1) := by decide +kernel
theorem dX5_degreeOf_4 : decode cX5_degreeOf 4 = .ok (.getfield 32, 3) := by decide +kernel
theorem dX5_degreeOf_7 : decode cX5_degreeOf 7 = .ok (.bipush 16, 2) := by decide +kernel
theorem dX5_degreeOf_9 : decode cX5_degreeOf 9 = .ok (.iload_n 1, 1) := by decide +kernel
theorem dX5_degreeOf_10 : decode cX5_degreeOf 10 = .ok (.imul, 1) := by decide +kernel
theorem dX5_degreeOf_11 : decode cX5_degreeOf 11 = .ok (.iload_n 2, 1) := by decide +kernel
theorem dX5_degreeOf_12 : decode cX5_degreeOf 12 = .ok (.iadd, 1) := by decide +kernel
theorem dX5_degreeOf_13 : decode cX5_degreeOf 13 = .ok (.iaload, 1) := by decide +kernel
theorem dX5_degreeOf_14 : decode cX5_degreeOf 14 = .ok (.ifCond .ne 9, 3) := by decide +kernel
theorem dX5_degreeOf_17 : decode cX5_degreeOf 17 = .ok (.iinc 2 (-1), 3) := by decide +kernel
theorem dX5_degreeOf_20 : decode cX5_degreeOf 20 = .ok (.goto (-17), 3) := by decide +kernel
theorem dX5_degreeOf_23 : decode cX5_degreeOf 23 = .ok (.iload_n 2, 1) := by decide +kernel
theorem dX5_degreeOf_24 : decode cX5_degreeOf 24 = .ok (.ireturn, 1) := by decide +kernel
theorem dX5_genusOf_0 : decode cX5_genusOf 0 = .ok (.aload_n 0, 1) := by decide +kernel
theorem dX5_genusOf_1 : decode cX5_genusOf 1 = .ok (.iload_n 1, 1) := by decide +kernel
theorem dX5_genusOf_2 : decode cX5_genusOf 2 = .ok (.invokevirtual 146, 3) := by decide +kernel
theorem dX5_genusOf_5 : decode cX5_genusOf 5 = .ok (.iconst 5, 1) := by decide +kernel
theorem dX5_genusOf_6 : decode cX5_genusOf 6 = .ok (.if_icmp .ge 7, 3) := by decide +kernel
theorem dX5_genusOf_9 : decode cX5_genusOf 9 = .ok (.iconst 1, 1) := by decide +kernel
theorem dX5_genusOf_10 : decode cX5_genusOf 10 = .ok (.goto 4, 3) := by decide +kernel
theorem dX5_genusOf_13 : decode cX5_genusOf 13 = .ok (.iconst 2, 1) := by decide +kernel
theorem dX5_genusOf_14 : decode cX5_genusOf 14 = .ok (.ireturn, 1) := by decide +kernel
theorem dX5_loadOwn_0 : decode cX5_loadOwn 0 = .ok (.iconst 0, 1) := by decide +kernel
theorem dX5_loadOwn_1 : decode cX5_loadOwn 1 = .ok (.istore_n 3, 1) := by decide +kernel
theorem dX5_loadOwn_2 : decode cX5_loadOwn 2 = .ok (.iload_n 3, 1) := by decide +kernel
theorem dX5_loadOwn_3 : decode cX5_loadOwn 3 = .ok (.bipush 16, 2) := by decide +kernel
theorem dX5_loadOwn_5 : decode cX5_loadOwn 5 = .ok (.if_icmp .ge 31, 3) := by decide +kernel
theorem dX5_loadOwn_8 : decode cX5_loadOwn 8 = .ok (.aload_n 0, 1) := by decide +kernel
theorem dX5_loadOwn_9 : decode cX5_loadOwn 9 = .ok (.getfield 38, 3) := by decide +kernel
theorem dX5_loadOwn_12 : decode cX5_loadOwn 12 = .ok (.bipush 16, 2) := by decide +kernel
theorem dX5_loadOwn_14 : decode cX5_loadOwn 14 = .ok (.iload_n 1, 1) := by decide +kernel
theorem dX5_loadOwn_15 : decode cX5_loadOwn 15 = .ok (.imul, 1) := by decide +kernel
theorem dX5_loadOwn_16 : decode cX5_loadOwn 16 = .ok (.iload_n 3, 1) := by decide +kernel
theorem dX5_loadOwn_17 : decode cX5_loadOwn 17 = .ok (.iadd, 1) := by decide +kernel
theorem dX5_loadOwn_18 : decode cX5_loadOwn 18 = .ok (.aload_n 0, 1) := by decide +kernel
theorem dX5_loadOwn_19 : decode cX5_loadOwn 19 = .ok (.getfield 32, 3) := by decide +kernel
theorem dX5_loadOwn_22 : decode cX5_loadOwn 22 = .ok (.bipush 16, 2) := by decide +kernel
theorem dX5_loadOwn_24 : decode cX5_loadOwn 24 = .ok (.iload_n 2, 1) := by decide +kernel
theorem dX5_loadOwn_25 : decode cX5_loadOwn 25 = .ok (.imul, 1) := by decide +kernel
theorem dX5_loadOwn_26 : decode cX5_loadOwn 26 = .ok (.iload_n 3, 1) := by decide +kernel
theorem dX5_loadOwn_27 : decode cX5_loadOwn 27 = .ok (.iadd, 1) := by decide +kernel
theorem dX5_loadOwn_28 : decode cX5_loadOwn 28 = .ok (.iaload, 1) := by decide +kernel
theorem dX5_loadOwn_29 : decode cX5_loadOwn 29 = .ok (.iastore, 1) := by decide +kernel
theorem dX5_loadOwn_30 : decode cX5_loadOwn 30 = .ok (.iinc 3 1, 3) := by decide +kernel
theorem dX5_loadOwn_33 : decode cX5_loadOwn 33 = .ok (.goto (-31), 3) := by decide +kernel
theorem dX5_loadOwn_36 : decode cX5_loadOwn 36 = .ok (.return_, 1) := by decide +kernel
theorem dX5_isDegree_0 : decode cX5_isDegree 0 = .ok (.lconst 1, 1) := by decide +kernel
theorem dX5_isDegree_1 : decode cX5_isDegree 1 = .ok (.lstore_n 3, 1) := by decide +kernel
theorem dX5_isDegree_2 : decode cX5_isDegree 2 = .ok (.iconst 0, 1) := by decide +kernel
theorem dX5_isDegree_3 : decode cX5_isDegree 3 = .ok (.istore 5, 2) := by decide +kernel
theorem dX5_isDegree_5 : decode cX5_isDegree 5 = .ok (.iload 5, 2) := by decide +kernel
theorem dX5_isDegree_7 : decode cX5_isDegree 7 = .ok (.iload_n 2, 1) := by decide +kernel
theorem dX5_isDegree_8 : decode cX5_isDegree 8 = .ok (.if_icmp .ge 17, 3) := by decide +kernel
theorem dX5_isDegree_11 : decode cX5_isDegree 11 = .ok (.lload_n 3, 1) := by decide +kernel
theorem dX5_isDegree_12 : decode cX5_isDegree 12 = .ok (.aload_n 0, 1) := by decide +kernel
theorem dX5_isDegree_13 : decode cX5_isDegree 13 = .ok (.getfield 7, 3) := by decide +kernel
theorem dX5_isDegree_16 : decode cX5_isDegree 16 = .ok (.i2l, 1) := by decide +kernel
theorem dX5_isDegree_17 : decode cX5_isDegree 17 = .ok (.lmul, 1) := by decide +kernel
theorem dX5_isDegree_18 : decode cX5_isDegree 18 = .ok (.lstore_n 3, 1) := by decide +kernel
theorem dX5_isDegree_19 : decode cX5_isDegree 19 = .ok (.iinc 5 1, 3) := by decide +kernel
theorem dX5_isDegree_22 : decode cX5_isDegree 22 = .ok (.goto (-17), 3) := by decide +kernel
theorem dX5_isDegree_25 : decode cX5_isDegree 25 = .ok (.iload_n 1, 1) := by decide +kernel
theorem dX5_isDegree_26 : decode cX5_isDegree 26 = .ok (.i2l, 1) := by decide +kernel
theorem dX5_isDegree_27 : decode cX5_isDegree 27 = .ok (.lload_n 3, 1) := by decide +kernel
theorem dX5_isDegree_28 : decode cX5_isDegree 28 = .ok (.lcmp, 1) := by decide +kernel
theorem dX5_isDegree_29 : decode cX5_isDegree 29 = .ok (.ifCond .lt 20, 3) := by decide +kernel
theorem dX5_isDegree_32 : decode cX5_isDegree 32 = .ok (.iload_n 1, 1) := by decide +kernel
theorem dX5_isDegree_33 : decode cX5_isDegree 33 = .ok (.i2l, 1) := by decide +kernel
theorem dX5_isDegree_34 : decode cX5_isDegree 34 = .ok (.lload_n 3, 1) := by decide +kernel
theorem dX5_isDegree_35 : decode cX5_isDegree 35 = .ok (.aload_n 0, 1) := by decide +kernel
theorem dX5_isDegree_36 : decode cX5_isDegree 36 = .ok (.getfield 7, 3) := by decide +kernel
theorem dX5_isDegree_39 : decode cX5_isDegree 39 = .ok (.i2l, 1) := by decide +kernel
theorem dX5_isDegree_40 : decode cX5_isDegree 40 = .ok (.lmul, 1) := by decide +kernel
theorem dX5_isDegree_41 : decode cX5_isDegree 41 = .ok (.lcmp, 1) := by decide +kernel
theorem dX5_isDegree_42 : decode cX5_isDegree 42 = .ok (.ifCond .ge 7, 3) := by decide +kernel
theorem dX5_isDegree_45 : decode cX5_isDegree 45 = .ok (.iconst 1, 1) := by decide +kernel
theorem dX5_isDegree_46 : decode cX5_isDegree 46 = .ok (.goto 4, 3) := by decide +kernel
theorem dX5_isDegree_49 : decode cX5_isDegree 49 = .ok (.iconst 0, 1) := by decide +kernel
theorem dX5_isDegree_50 : decode cX5_isDegree 50 = .ok (.ireturn, 1) := by decide +kernel
theorem dX5_isShaped_0 : decode cX5_isShaped 0 = .ok (.aload_n 0, 1) := by decide +kernel
theorem dX5_isShaped_1 : decode cX5_isShaped 1 = .ok (.iload_n 1, 1) := by decide +kernel
theorem dX5_isShaped_2 : decode cX5_isShaped 2 = .ok (.iconst 3, 1) := by decide +kernel
theorem dX5_isShaped_3 : decode cX5_isShaped 3 = .ok (.invokevirtual 149, 3) := by decide +kernel
theorem dX5_isShaped_6 : decode cX5_isShaped 6 = .ok (.ifCond .ne 31, 3) := by decide +kernel
theorem dX5_isShaped_9 : decode cX5_isShaped 9 = .ok (.aload_n 0, 1) := by decide +kernel
theorem dX5_isShaped_10 : decode cX5_isShaped 10 = .ok (.iload_n 1, 1) := by decide +kernel
theorem dX5_isShaped_11 : decode cX5_isShaped 11 = .ok (.iconst 4, 1) := by decide +kernel
theorem dX5_isShaped_12 : decode cX5_isShaped 12 = .ok (.invokevirtual 149, 3) := by decide +kernel
theorem dX5_isShaped_15 : decode cX5_isShaped 15 = .ok (.ifCond .ne 22, 3) := by decide +kernel
theorem dX5_isShaped_18 : decode cX5_isShaped 18 = .ok (.aload_n 0, 1) := by decide +kernel
theorem dX5_isShaped_19 : decode cX5_isShaped 19 = .ok (.iload_n 1, 1) := by decide +kernel
theorem dX5_isShaped_20 : decode cX5_isShaped 20 = .ok (.iconst 5, 1) := by decide +kernel
theorem dX5_isShaped_21 : decode cX5_isShaped 21 = .ok (.invokevirtual 149, 3) := by decide +kernel
theorem dX5_isShaped_24 : decode cX5_isShaped 24 = .ok (.ifCond .ne 13, 3) := by decide +kernel
theorem dX5_isShaped_27 : decode cX5_isShaped 27 = .ok (.aload_n 0, 1) := by decide +kernel
theorem dX5_isShaped_28 : decode cX5_isShaped 28 = .ok (.iload_n 1, 1) := by decide +kernel
theorem dX5_isShaped_29 : decode cX5_isShaped 29 = .ok (.bipush 6, 2) := by decide +kernel
theorem dX5_isShaped_31 : decode cX5_isShaped 31 = .ok (.invokevirtual 149, 3) := by decide +kernel
theorem dX5_isShaped_34 : decode cX5_isShaped 34 = .ok (.ifCond .eq 7, 3) := by decide +kernel
theorem dX5_isShaped_37 : decode cX5_isShaped 37 = .ok (.iconst 1, 1) := by decide +kernel
theorem dX5_isShaped_38 : decode cX5_isShaped 38 = .ok (.goto 4, 3) := by decide +kernel
theorem dX5_isShaped_41 : decode cX5_isShaped 41 = .ok (.iconst 0, 1) := by decide +kernel
theorem dX5_isShaped_42 : decode cX5_isShaped 42 = .ok (.ireturn, 1) := by decide +kernel
theorem dX5_knotOf_0 : decode cX5_knotOf 0 = .ok (.aload_n 0, 1) := by decide +kernel
theorem dX5_knotOf_1 : decode cX5_knotOf 1 = .ok (.bipush 10, 2) := by decide +kernel
theorem dX5_knotOf_3 : decode cX5_knotOf 3 = .ok (.iload_n 1, 1) := by decide +kernel
theorem dX5_knotOf_4 : decode cX5_knotOf 4 = .ok (.invokevirtual 87, 3) := by decide +kernel
theorem dX5_knotOf_7 : decode cX5_knotOf 7 = .ok (.aload_n 0, 1) := by decide +kernel
theorem dX5_knotOf_8 : decode cX5_knotOf 8 = .ok (.bipush 11, 2) := by decide +kernel
theorem dX5_knotOf_10 : decode cX5_knotOf 10 = .ok (.invokevirtual 74, 3) := by decide +kernel
theorem dX5_knotOf_13 : decode cX5_knotOf 13 = .ok (.iconst 1, 1) := by decide +kernel
theorem dX5_knotOf_14 : decode cX5_knotOf 14 = .ok (.istore_n 2, 1) := by decide +kernel
theorem dX5_knotOf_15 : decode cX5_knotOf 15 = .ok (.iload_n 2, 1) := by decide +kernel
theorem dX5_knotOf_16 : decode cX5_knotOf 16 = .ok (.bipush 16, 2) := by decide +kernel
theorem dX5_knotOf_18 : decode cX5_knotOf 18 = .ok (.if_icmp .ge 37, 3) := by decide +kernel
theorem dX5_knotOf_21 : decode cX5_knotOf 21 = .ok (.aload_n 0, 1) := by decide +kernel
theorem dX5_knotOf_22 : decode cX5_knotOf 22 = .ok (.getfield 38, 3) := by decide +kernel
theorem dX5_knotOf_25 : decode cX5_knotOf 25 = .ok (.sipush 176, 3) := by decide +kernel
theorem dX5_knotOf_28 : decode cX5_knotOf 28 = .ok (.iload_n 2, 1) := by decide +kernel
theorem dX5_knotOf_29 : decode cX5_knotOf 29 = .ok (.iadd, 1) := by decide +kernel
theorem dX5_knotOf_30 : decode cX5_knotOf 30 = .ok (.iconst 1, 1) := by decide +kernel
theorem dX5_knotOf_31 : decode cX5_knotOf 31 = .ok (.isub, 1) := by decide +kernel
theorem dX5_knotOf_32 : decode cX5_knotOf 32 = .ok (.aload_n 0, 1) := by decide +kernel
theorem dX5_knotOf_33 : decode cX5_knotOf 33 = .ok (.iload_n 2, 1) := by decide +kernel
theorem dX5_knotOf_34 : decode cX5_knotOf 34 = .ok (.aload_n 0, 1) := by decide +kernel
theorem dX5_knotOf_35 : decode cX5_knotOf 35 = .ok (.getfield 38, 3) := by decide +kernel
theorem dX5_knotOf_38 : decode cX5_knotOf 38 = .ok (.sipush 160, 3) := by decide +kernel
theorem dX5_knotOf_41 : decode cX5_knotOf 41 = .ok (.iload_n 2, 1) := by decide +kernel
theorem dX5_knotOf_42 : decode cX5_knotOf 42 = .ok (.iadd, 1) := by decide +kernel
theorem dX5_knotOf_43 : decode cX5_knotOf 43 = .ok (.iaload, 1) := by decide +kernel
theorem dX5_knotOf_44 : decode cX5_knotOf 44 = .ok (.imul, 1) := by decide +kernel
theorem dX5_knotOf_45 : decode cX5_knotOf 45 = .ok (.invokevirtual 70, 3) := by decide +kernel
theorem dX5_knotOf_48 : decode cX5_knotOf 48 = .ok (.iastore, 1) := by decide +kernel
theorem dX5_knotOf_49 : decode cX5_knotOf 49 = .ok (.iinc 2 1, 3) := by decide +kernel
theorem dX5_knotOf_52 : decode cX5_knotOf 52 = .ok (.goto (-37), 3) := by decide +kernel
theorem dX5_knotOf_55 : decode cX5_knotOf 55 = .ok (.aload_n 0, 1) := by decide +kernel
theorem dX5_knotOf_56 : decode cX5_knotOf 56 = .ok (.bipush 12, 2) := by decide +kernel
theorem dX5_knotOf_58 : decode cX5_knotOf 58 = .ok (.bipush 13, 2) := by decide +kernel
theorem dX5_knotOf_60 : decode cX5_knotOf 60 = .ok (.bipush 14, 2) := by decide +kernel
theorem dX5_knotOf_62 : decode cX5_knotOf 62 = .ok (.bipush 10, 2) := by decide +kernel
theorem dX5_knotOf_64 : decode cX5_knotOf 64 = .ok (.bipush 11, 2) := by decide +kernel
theorem dX5_knotOf_66 : decode cX5_knotOf 66 = .ok (.invokevirtual 152, 3) := by decide +kernel
theorem dX5_knotOf_69 : decode cX5_knotOf 69 = .ok (.aload_n 0, 1) := by decide +kernel
theorem dX5_knotOf_70 : decode cX5_knotOf 70 = .ok (.bipush 12, 2) := by decide +kernel
theorem dX5_knotOf_72 : decode cX5_knotOf 72 = .ok (.invokevirtual 77, 3) := by decide +kernel
theorem dX5_knotOf_75 : decode cX5_knotOf 75 = .ok (.ireturn, 1) := by decide +kernel
theorem dX5_curve_0 : decode cX5_curve 0 = .ok (.aload_n 0, 1) := by decide +kernel
theorem dX5_curve_1 : decode cX5_curve 1 = .ok (.iconst 0, 1) := by decide +kernel
theorem dX5_curve_2 : decode cX5_curve 2 = .ok (.putfield 67, 3) := by decide +kernel
theorem dX5_curve_5 : decode cX5_curve 5 = .ok (.iload_n 1, 1) := by decide +kernel
theorem dX5_curve_6 : decode cX5_curve 6 = .ok (.i2l, 1) := by decide +kernel
theorem dX5_curve_7 : decode cX5_curve 7 = .ok (.lconst 0, 1) := by decide +kernel
theorem dX5_curve_8 : decode cX5_curve 8 = .ok (.ldc2_w 156, 3) := by decide +kernel
theorem dX5_curve_11 : decode cX5_curve 11 = .ok (.invokestatic 127, 3) := by decide +kernel
theorem dX5_curve_14 : decode cX5_curve 14 = .ok (.ifCond .eq 32, 3) := by decide +kernel
theorem dX5_curve_17 : decode cX5_curve 17 = .ok (.aload_n 0, 1) := by decide +kernel
theorem dX5_curve_18 : decode cX5_curve 18 = .ok (.iload_n 2, 1) := by decide +kernel
theorem dX5_curve_19 : decode cX5_curve 19 = .ok (.invokevirtual 158, 3) := by decide +kernel
theorem dX5_curve_22 : decode cX5_curve 22 = .ok (.ifCond .eq 24, 3) := by decide +kernel
theorem dX5_curve_25 : decode cX5_curve 25 = .ok (.iload_n 1, 1) := by decide +kernel
theorem dX5_curve_26 : decode cX5_curve 26 = .ok (.iconst 2, 1) := by decide +kernel
theorem dX5_curve_27 : decode cX5_curve 27 = .ok (.if_icmp .ne 21, 3) := by decide +kernel
theorem dX5_curve_30 : decode cX5_curve 30 = .ok (.iload_n 3, 1) := by decide +kernel
theorem dX5_curve_31 : decode cX5_curve 31 = .ok (.i2l, 1) := by decide +kernel
theorem dX5_curve_32 : decode cX5_curve 32 = .ok (.lconst 0, 1) := by decide +kernel
theorem dX5_curve_33 : decode cX5_curve 33 = .ok (.aload_n 0, 1) := by decide +kernel
theorem dX5_curve_34 : decode cX5_curve 34 = .ok (.getfield 7, 3) := by decide +kernel
theorem dX5_curve_37 : decode cX5_curve 37 = .ok (.iconst 1, 1) := by decide +kernel
theorem dX5_curve_38 : decode cX5_curve 38 = .ok (.isub, 1) := by decide +kernel
theorem dX5_curve_39 : decode cX5_curve 39 = .ok (.i2l, 1) := by decide +kernel
theorem dX5_curve_40 : decode cX5_curve 40 = .ok (.invokestatic 127, 3) := by decide +kernel
theorem dX5_curve_43 : decode cX5_curve 43 = .ok (.ifCond .ne 5, 3) := by decide +kernel
theorem dX5_curve_46 : decode cX5_curve 46 = .ok (.iconst (-1), 1) := by decide +kernel
theorem dX5_curve_47 : decode cX5_curve 47 = .ok (.ireturn, 1) := by decide +kernel
theorem dX5_curve_48 : decode cX5_curve 48 = .ok (.aload_n 0, 1) := by decide +kernel
theorem dX5_curve_49 : decode cX5_curve 49 = .ok (.bipush (-9), 2) := by decide +kernel
theorem dX5_curve_51 : decode cX5_curve 51 = .ok (.putfield 35, 3) := by decide +kernel
theorem dX5_curve_54 : decode cX5_curve 54 = .ok (.aload_n 0, 1) := by decide +kernel
theorem dX5_curve_55 : decode cX5_curve 55 = .ok (.iload_n 2, 1) := by decide +kernel
theorem dX5_curve_56 : decode cX5_curve 56 = .ok (.invokevirtual 161, 3) := by decide +kernel
theorem dX5_curve_59 : decode cX5_curve 59 = .ok (.ifCond .le 16, 3) := by decide +kernel
theorem dX5_curve_62 : decode cX5_curve 62 = .ok (.aload_n 0, 1) := by decide +kernel
theorem dX5_curve_63 : decode cX5_curve 63 = .ok (.aload_n 0, 1) := by decide +kernel
theorem dX5_curve_64 : decode cX5_curve 64 = .ok (.bipush 12, 2) := by decide +kernel
theorem dX5_curve_66 : decode cX5_curve 66 = .ok (.invokevirtual 120, 3) := by decide +kernel
theorem dX5_curve_69 : decode cX5_curve 69 = .ok (.putfield 35, 3) := by decide +kernel
theorem dX5_curve_72 : decode cX5_curve 72 = .ok (.bipush (-2), 2) := by decide +kernel
theorem dX5_curve_74 : decode cX5_curve 74 = .ok (.ireturn, 1) := by decide +kernel
theorem dX5_curve_75 : decode cX5_curve 75 = .ok (.aload_n 0, 1) := by decide +kernel
theorem dX5_curve_76 : decode cX5_curve 76 = .ok (.getfield 108, 3) := by decide +kernel
theorem dX5_curve_79 : decode cX5_curve 79 = .ok (.bipush 8, 2) := by decide +kernel
theorem dX5_curve_81 : decode cX5_curve 81 = .ok (.if_icmp .ne 6, 3) := by decide +kernel
theorem dX5_curve_84 : decode cX5_curve 84 = .ok (.bipush (-3), 2) := by decide +kernel
theorem dX5_curve_86 : decode cX5_curve 86 = .ok (.ireturn, 1) := by decide +kernel
theorem dX5_curve_87 : decode cX5_curve 87 = .ok (.aload_n 0, 1) := by decide +kernel
theorem dX5_curve_88 : decode cX5_curve 88 = .ok (.getfield 108, 3) := by decide +kernel
theorem dX5_curve_91 : decode cX5_curve 91 = .ok (.istore 4, 2) := by decide +kernel
theorem dX5_curve_93 : decode cX5_curve 93 = .ok (.aload_n 0, 1) := by decide +kernel
theorem dX5_curve_94 : decode cX5_curve 94 = .ok (.getfield 23, 3) := by decide +kernel
theorem dX5_curve_97 : decode cX5_curve 97 = .ok (.iload 4, 2) := by decide +kernel
theorem dX5_curve_99 : decode cX5_curve 99 = .ok (.iload_n 1, 1) := by decide +kernel
theorem dX5_curve_100 : decode cX5_curve 100 = .ok (.iastore, 1) := by decide +kernel
theorem dX5_curve_101 : decode cX5_curve 101 = .ok (.aload_n 0, 1) := by decide +kernel
theorem dX5_curve_102 : decode cX5_curve 102 = .ok (.getfield 26, 3) := by decide +kernel
theorem dX5_curve_105 : decode cX5_curve 105 = .ok (.iload 4, 2) := by decide +kernel
theorem dX5_curve_107 : decode cX5_curve 107 = .ok (.iload_n 2, 1) := by decide +kernel
theorem dX5_curve_108 : decode cX5_curve 108 = .ok (.iastore, 1) := by decide +kernel
theorem dX5_curve_109 : decode cX5_curve 109 = .ok (.aload_n 0, 1) := by decide +kernel
theorem dX5_curve_110 : decode cX5_curve 110 = .ok (.getfield 29, 3) := by decide +kernel
theorem dX5_curve_113 : decode cX5_curve 113 = .ok (.iload 4, 2) := by decide +kernel
theorem dX5_curve_115 : decode cX5_curve 115 = .ok (.iload_n 1, 1) := by decide +kernel
theorem dX5_curve_116 : decode cX5_curve 116 = .ok (.iconst 2, 1) := by decide +kernel
theorem dX5_curve_117 : decode cX5_curve 117 = .ok (.if_icmp .ne 7, 3) := by decide +kernel
theorem dX5_curve_120 : decode cX5_curve 120 = .ok (.iload_n 3, 1) := by decide +kernel
theorem dX5_curve_121 : decode cX5_curve 121 = .ok (.goto 4, 3) := by decide +kernel
theorem dX5_curve_124 : decode cX5_curve 124 = .ok (.iconst 0, 1) := by decide +kernel
theorem dX5_curve_125 : decode cX5_curve 125 = .ok (.iastore, 1) := by decide +kernel
theorem dX5_curve_126 : decode cX5_curve 126 = .ok (.aload_n 0, 1) := by decide +kernel
theorem dX5_curve_127 : decode cX5_curve 127 = .ok (.bipush 10, 2) := by decide +kernel
theorem dX5_curve_129 : decode cX5_curve 129 = .ok (.iload_n 2, 1) := by decide +kernel
theorem dX5_curve_130 : decode cX5_curve 130 = .ok (.invokevirtual 87, 3) := by decide +kernel
theorem dX5_curve_133 : decode cX5_curve 133 = .ok (.iload_n 1, 1) := by decide +kernel
theorem dX5_curve_134 : decode cX5_curve 134 = .ok (.iconst 2, 1) := by decide +kernel
theorem dX5_curve_135 : decode cX5_curve 135 = .ok (.if_icmp .ne 95, 3) := by decide +kernel
theorem dX5_curve_138 : decode cX5_curve 138 = .ok (.aload_n 0, 1) := by decide +kernel
theorem dX5_curve_139 : decode cX5_curve 139 = .ok (.bipush 11, 2) := by decide +kernel
theorem dX5_curve_141 : decode cX5_curve 141 = .ok (.invokevirtual 74, 3) := by decide +kernel
theorem dX5_curve_144 : decode cX5_curve 144 = .ok (.aload_n 0, 1) := by decide +kernel
theorem dX5_curve_145 : decode cX5_curve 145 = .ok (.bipush 12, 2) := by decide +kernel
theorem dX5_curve_147 : decode cX5_curve 147 = .ok (.aload_n 0, 1) := by decide +kernel
theorem dX5_curve_148 : decode cX5_curve 148 = .ok (.getfield 7, 3) := by decide +kernel
theorem dX5_curve_151 : decode cX5_curve 151 = .ok (.iload_n 3, 1) := by decide +kernel
theorem dX5_curve_152 : decode cX5_curve 152 = .ok (.iadd, 1) := by decide +kernel
theorem dX5_curve_153 : decode cX5_curve 153 = .ok (.invokevirtual 87, 3) := by decide +kernel
theorem dX5_curve_156 : decode cX5_curve 156 = .ok (.bipush 6, 2) := by decide +kernel
theorem dX5_curve_158 : decode cX5_curve 158 = .ok (.istore 5, 2) := by decide +kernel
theorem dX5_curve_160 : decode cX5_curve 160 = .ok (.iload 5, 2) := by decide +kernel
theorem dX5_curve_162 : decode cX5_curve 162 = .ok (.ifCond .lt 60, 3) := by decide +kernel
theorem dX5_curve_165 : decode cX5_curve 165 = .ok (.aload_n 0, 1) := by decide +kernel
theorem dX5_curve_166 : decode cX5_curve 166 = .ok (.bipush 13, 2) := by decide +kernel
theorem dX5_curve_168 : decode cX5_curve 168 = .ok (.bipush 11, 2) := by decide +kernel
theorem dX5_curve_170 : decode cX5_curve 170 = .ok (.bipush 12, 2) := by decide +kernel
theorem dX5_curve_172 : decode cX5_curve 172 = .ok (.invokevirtual 94, 3) := by decide +kernel
theorem dX5_curve_175 : decode cX5_curve 175 = .ok (.aload_n 0, 1) := by decide +kernel
theorem dX5_curve_176 : decode cX5_curve 176 = .ok (.bipush 11, 2) := by decide +kernel
theorem dX5_curve_178 : decode cX5_curve 178 = .ok (.bipush 13, 2) := by decide +kernel
theorem dX5_curve_180 : decode cX5_curve 180 = .ok (.invokevirtual 80, 3) := by decide +kernel
theorem dX5_curve_183 : decode cX5_curve 183 = .ok (.aload_n 0, 1) := by decide +kernel
theorem dX5_curve_184 : decode cX5_curve 184 = .ok (.getfield 38, 3) := by decide +kernel
theorem dX5_curve_187 : decode cX5_curve 187 = .ok (.sipush 176, 3) := by decide +kernel
theorem dX5_curve_190 : decode cX5_curve 190 = .ok (.aload_n 0, 1) := by decide +kernel
theorem dX5_curve_191 : decode cX5_curve 191 = .ok (.getfield 38, 3) := by decide +kernel
theorem dX5_curve_194 : decode cX5_curve 194 = .ok (.sipush 176, 3) := by decide +kernel
theorem dX5_curve_197 : decode cX5_curve 197 = .ok (.iaload, 1) := by decide +kernel
theorem dX5_curve_198 : decode cX5_curve 198 = .ok (.aload_n 0, 1) := by decide +kernel
theorem dX5_curve_199 : decode cX5_curve 199 = .ok (.getfield 38, 3) := by decide +kernel
theorem dX5_curve_202 : decode cX5_curve 202 = .ok (.sipush 160, 3) := by decide +kernel
theorem dX5_curve_205 : decode cX5_curve 205 = .ok (.iload 5, 2) := by decide +kernel
theorem dX5_curve_207 : decode cX5_curve 207 = .ok (.iadd, 1) := by decide +kernel
theorem dX5_curve_208 : decode cX5_curve 208 = .ok (.iaload, 1) := by decide +kernel
theorem dX5_curve_209 : decode cX5_curve 209 = .ok (.iadd, 1) := by decide +kernel
theorem dX5_curve_210 : decode cX5_curve 210 = .ok (.aload_n 0, 1) := by decide +kernel
theorem dX5_curve_211 : decode cX5_curve 211 = .ok (.getfield 7, 3) := by decide +kernel
theorem dX5_curve_214 : decode cX5_curve 214 = .ok (.irem, 1) := by decide +kernel
theorem dX5_curve_215 : decode cX5_curve 215 = .ok (.iastore, 1) := by decide +kernel
theorem dX5_curve_216 : decode cX5_curve 216 = .ok (.iinc 5 (-1), 3) := by decide +kernel
theorem dX5_curve_219 : decode cX5_curve 219 = .ok (.goto (-59), 3) := by decide +kernel
theorem dX5_curve_222 : decode cX5_curve 222 = .ok (.aload_n 0, 1) := by decide +kernel
theorem dX5_curve_223 : decode cX5_curve 223 = .ok (.bipush 10, 2) := by decide +kernel
theorem dX5_curve_225 : decode cX5_curve 225 = .ok (.bipush 11, 2) := by decide +kernel
theorem dX5_curve_227 : decode cX5_curve 227 = .ok (.invokevirtual 80, 3) := by decide +kernel
theorem dX5_curve_230 : decode cX5_curve 230 = .ok (.iload_n 1, 1) := by decide +kernel
theorem dX5_curve_231 : decode cX5_curve 231 = .ok (.ifCond .le 13, 3) := by decide +kernel
theorem dX5_curve_234 : decode cX5_curve 234 = .ok (.aload_n 0, 1) := by decide +kernel
theorem dX5_curve_235 : decode cX5_curve 235 = .ok (.bipush 10, 2) := by decide +kernel
theorem dX5_curve_237 : decode cX5_curve 237 = .ok (.aload_n 0, 1) := by decide +kernel
theorem dX5_curve_238 : decode cX5_curve 238 = .ok (.getfield 117, 3) := by decide +kernel
theorem dX5_curve_241 : decode cX5_curve 241 = .ok (.invokevirtual 101, 3) := by decide +kernel
theorem dX5_curve_244 : decode cX5_curve 244 = .ok (.iconst 0, 1) := by decide +kernel
theorem dX5_curve_245 : decode cX5_curve 245 = .ok (.istore 5, 2) := by decide +kernel
theorem dX5_curve_247 : decode cX5_curve 247 = .ok (.iload 5, 2) := by decide +kernel
theorem dX5_curve_249 : decode cX5_curve 249 = .ok (.bipush 16, 2) := by decide +kernel
theorem dX5_curve_251 : decode cX5_curve 251 = .ok (.if_icmp .ge 33, 3) := by decide +kernel
theorem dX5_curve_254 : decode cX5_curve 254 = .ok (.aload_n 0, 1) := by decide +kernel
theorem dX5_curve_255 : decode cX5_curve 255 = .ok (.getfield 32, 3) := by decide +kernel
theorem dX5_curve_258 : decode cX5_curve 258 = .ok (.bipush 16, 2) := by decide +kernel
theorem dX5_curve_260 : decode cX5_curve 260 = .ok (.iload 4, 2) := by decide +kernel
theorem dX5_curve_262 : decode cX5_curve 262 = .ok (.imul, 1) := by decide +kernel
theorem dX5_curve_263 : decode cX5_curve 263 = .ok (.iload 5, 2) := by decide +kernel
theorem dX5_curve_265 : decode cX5_curve 265 = .ok (.iadd, 1) := by decide +kernel
theorem dX5_curve_266 : decode cX5_curve 266 = .ok (.aload_n 0, 1) := by decide +kernel
theorem dX5_curve_267 : decode cX5_curve 267 = .ok (.getfield 38, 3) := by decide +kernel
theorem dX5_curve_270 : decode cX5_curve 270 = .ok (.sipush 160, 3) := by decide +kernel
theorem dX5_curve_273 : decode cX5_curve 273 = .ok (.iload 5, 2) := by decide +kernel
theorem dX5_curve_275 : decode cX5_curve 275 = .ok (.iadd, 1) := by decide +kernel
theorem dX5_curve_276 : decode cX5_curve 276 = .ok (.iaload, 1) := by decide +kernel
theorem dX5_curve_277 : decode cX5_curve 277 = .ok (.iastore, 1) := by decide +kernel
theorem dX5_curve_278 : decode cX5_curve 278 = .ok (.iinc 5 1, 3) := by decide +kernel
theorem dX5_curve_281 : decode cX5_curve 281 = .ok (.goto (-34), 3) := by decide +kernel
theorem dX5_curve_284 : decode cX5_curve 284 = .ok (.aload_n 0, 1) := by decide +kernel
theorem dX5_curve_285 : decode cX5_curve 285 = .ok (.dup, 1) := by decide +kernel
theorem dX5_curve_286 : decode cX5_curve 286 = .ok (.getfield 108, 3) := by decide +kernel
theorem dX5_curve_289 : decode cX5_curve 289 = .ok (.iconst 1, 1) := by decide +kernel
theorem dX5_curve_290 : decode cX5_curve 290 = .ok (.iadd, 1) := by decide +kernel
theorem dX5_curve_291 : decode cX5_curve 291 = .ok (.putfield 108, 3) := by decide +kernel
theorem dX5_curve_294 : decode cX5_curve 294 = .ok (.iload 4, 2) := by decide +kernel
theorem dX5_curve_296 : decode cX5_curve 296 = .ok (.ireturn, 1) := by decide +kernel
theorem dX5_knot_0 : decode cX5_knot 0 = .ok (.aload_n 0, 1) := by decide +kernel
theorem dX5_knot_1 : decode cX5_knot 1 = .ok (.iconst 0, 1) := by decide +kernel
theorem dX5_knot_2 : decode cX5_knot 2 = .ok (.putfield 67, 3) := by decide +kernel
theorem dX5_knot_5 : decode cX5_knot 5 = .ok (.aload_n 0, 1) := by decide +kernel
theorem dX5_knot_6 : decode cX5_knot 6 = .ok (.getfield 35, 3) := by decide +kernel
theorem dX5_knot_9 : decode cX5_knot 9 = .ok (.ireturn, 1) := by decide +kernel
theorem dX5_about_0 : decode cX5_about 0 = .ok (.aload_n 0, 1) := by decide +kernel
theorem dX5_about_1 : decode cX5_about 1 = .ok (.iconst 0, 1) := by decide +kernel
theorem dX5_about_2 : decode cX5_about 2 = .ok (.putfield 67, 3) := by decide +kernel
theorem dX5_about_5 : decode cX5_about 5 = .ok (.aload_n 0, 1) := by decide +kernel
theorem dX5_about_6 : decode cX5_about 6 = .ok (.iload_n 1, 1) := by decide +kernel
theorem dX5_about_7 : decode cX5_about 7 = .ok (.invokevirtual 164, 3) := by decide +kernel
theorem dX5_about_10 : decode cX5_about 10 = .ok (.ifCond .eq 15, 3) := by decide +kernel
theorem dX5_about_13 : decode cX5_about 13 = .ok (.iload_n 2, 1) := by decide +kernel
theorem dX5_about_14 : decode cX5_about 14 = .ok (.i2l, 1) := by decide +kernel
theorem dX5_about_15 : decode cX5_about 15 = .ok (.lconst 0, 1) := by decide +kernel
theorem dX5_about_16 : decode cX5_about 16 = .ok (.ldc2_w 167, 3) := by decide +kernel
theorem dX5_about_19 : decode cX5_about 19 = .ok (.invokestatic 127, 3) := by decide +kernel
theorem dX5_about_22 : decode cX5_about 22 = .ok (.ifCond .ne 5, 3) := by decide +kernel
theorem dX5_about_25 : decode cX5_about 25 = .ok (.iconst (-1), 1) := by decide +kernel
theorem dX5_about_26 : decode cX5_about 26 = .ok (.ireturn, 1) := by decide +kernel
theorem dX5_about_27 : decode cX5_about 27 = .ok (.iload_n 2, 1) := by decide +kernel
theorem dX5_about_28 : decode cX5_about 28 = .ok (.tableswitch 69 0 4 #[36, 43, 50, 57, 63], 36) := by decide +kernel
theorem dX5_about_64 : decode cX5_about 64 = .ok (.aload_n 0, 1) := by decide +kernel
theorem dX5_about_65 : decode cX5_about 65 = .ok (.getfield 23, 3) := by decide +kernel
theorem dX5_about_68 : decode cX5_about 68 = .ok (.iload_n 1, 1) := by decide +kernel
theorem dX5_about_69 : decode cX5_about 69 = .ok (.iaload, 1) := by decide +kernel
theorem dX5_about_70 : decode cX5_about 70 = .ok (.ireturn, 1) := by decide +kernel
theorem dX5_about_71 : decode cX5_about 71 = .ok (.aload_n 0, 1) := by decide +kernel
theorem dX5_about_72 : decode cX5_about 72 = .ok (.getfield 26, 3) := by decide +kernel
theorem dX5_about_75 : decode cX5_about 75 = .ok (.iload_n 1, 1) := by decide +kernel
theorem dX5_about_76 : decode cX5_about 76 = .ok (.iaload, 1) := by decide +kernel
theorem dX5_about_77 : decode cX5_about 77 = .ok (.ireturn, 1) := by decide +kernel
theorem dX5_about_78 : decode cX5_about 78 = .ok (.aload_n 0, 1) := by decide +kernel
theorem dX5_about_79 : decode cX5_about 79 = .ok (.getfield 29, 3) := by decide +kernel
theorem dX5_about_82 : decode cX5_about 82 = .ok (.iload_n 1, 1) := by decide +kernel
theorem dX5_about_83 : decode cX5_about 83 = .ok (.iaload, 1) := by decide +kernel
theorem dX5_about_84 : decode cX5_about 84 = .ok (.ireturn, 1) := by decide +kernel
theorem dX5_about_85 : decode cX5_about 85 = .ok (.aload_n 0, 1) := by decide +kernel
theorem dX5_about_86 : decode cX5_about 86 = .ok (.iload_n 1, 1) := by decide +kernel
theorem dX5_about_87 : decode cX5_about 87 = .ok (.invokevirtual 146, 3) := by decide +kernel
theorem dX5_about_90 : decode cX5_about 90 = .ok (.ireturn, 1) := by decide +kernel
theorem dX5_about_91 : decode cX5_about 91 = .ok (.aload_n 0, 1) := by decide +kernel
theorem dX5_about_92 : decode cX5_about 92 = .ok (.iload_n 1, 1) := by decide +kernel
theorem dX5_about_93 : decode cX5_about 93 = .ok (.invokevirtual 169, 3) := by decide +kernel
theorem dX5_about_96 : decode cX5_about 96 = .ok (.ireturn, 1) := by decide +kernel
theorem dX5_about_97 : decode cX5_about 97 = .ok (.aload_n 0, 1) := by decide +kernel
theorem dX5_about_98 : decode cX5_about 98 = .ok (.bipush 10, 2) := by decide +kernel
theorem dX5_about_100 : decode cX5_about 100 = .ok (.iload_n 1, 1) := by decide +kernel
theorem dX5_about_101 : decode cX5_about 101 = .ok (.invokevirtual 172, 3) := by decide +kernel
theorem dX5_about_104 : decode cX5_about 104 = .ok (.aload_n 0, 1) := by decide +kernel
theorem dX5_about_105 : decode cX5_about 105 = .ok (.bipush 10, 2) := by decide +kernel
theorem dX5_about_107 : decode cX5_about 107 = .ok (.invokevirtual 120, 3) := by decide +kernel
theorem dX5_about_110 : decode cX5_about 110 = .ok (.ireturn, 1) := by decide +kernel
theorem dX5_valueOf_0 : decode cX5_valueOf 0 = .ok (.iconst 0, 1) := by decide +kernel
theorem dX5_valueOf_1 : decode cX5_valueOf 1 = .ok (.istore 4, 2) := by decide +kernel
theorem dX5_valueOf_3 : decode cX5_valueOf 3 = .ok (.bipush 6, 2) := by decide +kernel
theorem dX5_valueOf_5 : decode cX5_valueOf 5 = .ok (.istore 5, 2) := by decide +kernel
theorem dX5_valueOf_7 : decode cX5_valueOf 7 = .ok (.iload 5, 2) := by decide +kernel
theorem dX5_valueOf_9 : decode cX5_valueOf 9 = .ok (.ifCond .lt 35, 3) := by decide +kernel
theorem dX5_valueOf_12 : decode cX5_valueOf 12 = .ok (.aload_n 0, 1) := by decide +kernel
theorem dX5_valueOf_13 : decode cX5_valueOf 13 = .ok (.aload_n 0, 1) := by decide +kernel
theorem dX5_valueOf_14 : decode cX5_valueOf 14 = .ok (.iload_n 2, 1) := by decide +kernel
theorem dX5_valueOf_15 : decode cX5_valueOf 15 = .ok (.iload 4, 2) := by decide +kernel
theorem dX5_valueOf_17 : decode cX5_valueOf 17 = .ok (.iload_n 3, 1) := by decide +kernel
theorem dX5_valueOf_18 : decode cX5_valueOf 18 = .ok (.invokevirtual 123, 3) := by decide +kernel
theorem dX5_valueOf_21 : decode cX5_valueOf 21 = .ok (.aload_n 0, 1) := by decide +kernel
theorem dX5_valueOf_22 : decode cX5_valueOf 22 = .ok (.getfield 32, 3) := by decide +kernel
theorem dX5_valueOf_25 : decode cX5_valueOf 25 = .ok (.bipush 16, 2) := by decide +kernel
theorem dX5_valueOf_27 : decode cX5_valueOf 27 = .ok (.iload_n 1, 1) := by decide +kernel
theorem dX5_valueOf_28 : decode cX5_valueOf 28 = .ok (.imul, 1) := by decide +kernel
theorem dX5_valueOf_29 : decode cX5_valueOf 29 = .ok (.iload 5, 2) := by decide +kernel
theorem dX5_valueOf_31 : decode cX5_valueOf 31 = .ok (.iadd, 1) := by decide +kernel
theorem dX5_valueOf_32 : decode cX5_valueOf 32 = .ok (.iaload, 1) := by decide +kernel
theorem dX5_valueOf_33 : decode cX5_valueOf 33 = .ok (.invokevirtual 139, 3) := by decide +kernel
theorem dX5_valueOf_36 : decode cX5_valueOf 36 = .ok (.istore 4, 2) := by decide +kernel
theorem dX5_valueOf_38 : decode cX5_valueOf 38 = .ok (.iinc 5 (-1), 3) := by decide +kernel
theorem dX5_valueOf_41 : decode cX5_valueOf 41 = .ok (.goto (-34), 3) := by decide +kernel
theorem dX5_valueOf_44 : decode cX5_valueOf 44 = .ok (.iload 4, 2) := by decide +kernel
theorem dX5_valueOf_46 : decode cX5_valueOf 46 = .ok (.ireturn, 1) := by decide +kernel
theorem dX5_value_0 : decode cX5_value 0 = .ok (.aload_n 0, 1) := by decide +kernel
theorem dX5_value_1 : decode cX5_value 1 = .ok (.iconst 0, 1) := by decide +kernel
theorem dX5_value_2 : decode cX5_value 2 = .ok (.putfield 67, 3) := by decide +kernel
theorem dX5_value_5 : decode cX5_value 5 = .ok (.aload_n 0, 1) := by decide +kernel
theorem dX5_value_6 : decode cX5_value 6 = .ok (.iload_n 1, 1) := by decide +kernel
theorem dX5_value_7 : decode cX5_value 7 = .ok (.invokevirtual 164, 3) := by decide +kernel
theorem dX5_value_10 : decode cX5_value 10 = .ok (.ifCond .eq 12, 3) := by decide +kernel
theorem dX5_value_13 : decode cX5_value 13 = .ok (.aload_n 0, 1) := by decide +kernel
theorem dX5_value_14 : decode cX5_value 14 = .ok (.iload_n 2, 1) := by decide +kernel
theorem dX5_value_15 : decode cX5_value 15 = .ok (.iload_n 3, 1) := by decide +kernel
theorem dX5_value_16 : decode cX5_value 16 = .ok (.invokevirtual 135, 3) := by decide +kernel
theorem dX5_value_19 : decode cX5_value 19 = .ok (.ifCond .ne 5, 3) := by decide +kernel
theorem dX5_value_22 : decode cX5_value 22 = .ok (.iconst (-1), 1) := by decide +kernel
theorem dX5_value_23 : decode cX5_value 23 = .ok (.ireturn, 1) := by decide +kernel
theorem dX5_value_24 : decode cX5_value 24 = .ok (.aload_n 0, 1) := by decide +kernel
theorem dX5_value_25 : decode cX5_value 25 = .ok (.dup, 1) := by decide +kernel
theorem dX5_value_26 : decode cX5_value 26 = .ok (.getfield 175, 3) := by decide +kernel
theorem dX5_value_29 : decode cX5_value 29 = .ok (.aload_n 0, 1) := by decide +kernel
theorem dX5_value_30 : decode cX5_value 30 = .ok (.getfield 23, 3) := by decide +kernel
theorem dX5_value_33 : decode cX5_value 33 = .ok (.iload_n 1, 1) := by decide +kernel
theorem dX5_value_34 : decode cX5_value 34 = .ok (.iaload, 1) := by decide +kernel
theorem dX5_value_35 : decode cX5_value 35 = .ok (.ifCond .ne 7, 3) := by decide +kernel
theorem dX5_value_38 : decode cX5_value 38 = .ok (.lconst 1, 1) := by decide +kernel
theorem dX5_value_39 : decode cX5_value 39 = .ok (.goto 22, 3) := by decide +kernel
theorem dX5_value_42 : decode cX5_value 42 = .ok (.aload_n 0, 1) := by decide +kernel
theorem dX5_value_43 : decode cX5_value 43 = .ok (.getfield 23, 3) := by decide +kernel
theorem dX5_value_46 : decode cX5_value 46 = .ok (.iload_n 1, 1) := by decide +kernel
theorem dX5_value_47 : decode cX5_value 47 = .ok (.iaload, 1) := by decide +kernel
theorem dX5_value_48 : decode cX5_value 48 = .ok (.iconst 1, 1) := by decide +kernel
theorem dX5_value_49 : decode cX5_value 49 = .ok (.if_icmp .ne 9, 3) := by decide +kernel
theorem dX5_value_52 : decode cX5_value 52 = .ok (.ldc2_w 179, 3) := by decide +kernel
theorem dX5_value_55 : decode cX5_value 55 = .ok (.goto 6, 3) := by decide +kernel
theorem dX5_value_58 : decode cX5_value 58 = .ok (.ldc2_w 181, 3) := by decide +kernel
theorem dX5_value_61 : decode cX5_value 61 = .ok (.ladd, 1) := by decide +kernel
theorem dX5_value_62 : decode cX5_value 62 = .ok (.putfield 175, 3) := by decide +kernel
theorem dX5_value_65 : decode cX5_value 65 = .ok (.aload_n 0, 1) := by decide +kernel
theorem dX5_value_66 : decode cX5_value 66 = .ok (.iload_n 1, 1) := by decide +kernel
theorem dX5_value_67 : decode cX5_value 67 = .ok (.iload_n 2, 1) := by decide +kernel
theorem dX5_value_68 : decode cX5_value 68 = .ok (.iload_n 3, 1) := by decide +kernel
theorem dX5_value_69 : decode cX5_value 69 = .ok (.invokevirtual 183, 3) := by decide +kernel
theorem dX5_value_72 : decode cX5_value 72 = .ok (.ireturn, 1) := by decide +kernel
theorem dX5_beyondOf_0 : decode cX5_beyondOf 0 = .ok (.aload_n 0, 1) := by decide +kernel
theorem dX5_beyondOf_1 : decode cX5_beyondOf 1 = .ok (.iload_n 1, 1) := by decide +kernel
theorem dX5_beyondOf_2 : decode cX5_beyondOf 2 = .ok (.invokevirtual 146, 3) := by decide +kernel
theorem dX5_beyondOf_5 : decode cX5_beyondOf 5 = .ok (.istore_n 3, 1) := by decide +kernel
theorem dX5_beyondOf_6 : decode cX5_beyondOf 6 = .ok (.aload_n 0, 1) := by decide +kernel
theorem dX5_beyondOf_7 : decode cX5_beyondOf 7 = .ok (.iload_n 2, 1) := by decide +kernel
theorem dX5_beyondOf_8 : decode cX5_beyondOf 8 = .ok (.invokevirtual 114, 3) := by decide +kernel
theorem dX5_beyondOf_11 : decode cX5_beyondOf 11 = .ok (.iload_n 3, 1) := by decide +kernel
theorem dX5_beyondOf_12 : decode cX5_beyondOf 12 = .ok (.iconst 2, 1) := by decide +kernel
theorem dX5_beyondOf_13 : decode cX5_beyondOf 13 = .ok (.irem, 1) := by decide +kernel
theorem dX5_beyondOf_14 : decode cX5_beyondOf 14 = .ok (.iconst 1, 1) := by decide +kernel
theorem dX5_beyondOf_15 : decode cX5_beyondOf 15 = .ok (.if_icmp .ne 7, 3) := by decide +kernel
theorem dX5_beyondOf_18 : decode cX5_beyondOf 18 = .ok (.iconst 1, 1) := by decide +kernel
theorem dX5_beyondOf_19 : decode cX5_beyondOf 19 = .ok (.goto 28, 3) := by decide +kernel
theorem dX5_beyondOf_22 : decode cX5_beyondOf 22 = .ok (.aload_n 0, 1) := by decide +kernel
theorem dX5_beyondOf_23 : decode cX5_beyondOf 23 = .ok (.getfield 41, 3) := by decide +kernel
theorem dX5_beyondOf_26 : decode cX5_beyondOf 26 = .ok (.aload_n 0, 1) := by decide +kernel
theorem dX5_beyondOf_27 : decode cX5_beyondOf 27 = .ok (.getfield 32, 3) := by decide +kernel
theorem dX5_beyondOf_30 : decode cX5_beyondOf 30 = .ok (.bipush 16, 2) := by decide +kernel
theorem dX5_beyondOf_32 : decode cX5_beyondOf 32 = .ok (.iload_n 1, 1) := by decide +kernel
theorem dX5_beyondOf_33 : decode cX5_beyondOf 33 = .ok (.imul, 1) := by decide +kernel
theorem dX5_beyondOf_34 : decode cX5_beyondOf 34 = .ok (.iload_n 3, 1) := by decide +kernel
theorem dX5_beyondOf_35 : decode cX5_beyondOf 35 = .ok (.iadd, 1) := by decide +kernel
theorem dX5_beyondOf_36 : decode cX5_beyondOf 36 = .ok (.iaload, 1) := by decide +kernel
theorem dX5_beyondOf_37 : decode cX5_beyondOf 37 = .ok (.iaload, 1) := by decide +kernel
theorem dX5_beyondOf_38 : decode cX5_beyondOf 38 = .ok (.iconst 1, 1) := by decide +kernel
theorem dX5_beyondOf_39 : decode cX5_beyondOf 39 = .ok (.if_icmp .ne 7, 3) := by decide +kernel
theorem dX5_beyondOf_42 : decode cX5_beyondOf 42 = .ok (.iconst 2, 1) := by decide +kernel
theorem dX5_beyondOf_43 : decode cX5_beyondOf 43 = .ok (.goto 4, 3) := by decide +kernel
theorem dX5_beyondOf_46 : decode cX5_beyondOf 46 = .ok (.iconst 0, 1) := by decide +kernel
theorem dX5_beyondOf_47 : decode cX5_beyondOf 47 = .ok (.ireturn, 1) := by decide +kernel
theorem dX5_countOf_0 : decode cX5_countOf 0 = .ok (.aload_n 0, 1) := by decide +kernel
theorem dX5_countOf_1 : decode cX5_countOf 1 = .ok (.iload_n 2, 1) := by decide +kernel
theorem dX5_countOf_2 : decode cX5_countOf 2 = .ok (.invokevirtual 114, 3) := by decide +kernel
theorem dX5_countOf_5 : decode cX5_countOf 5 = .ok (.iconst 0, 1) := by decide +kernel
theorem dX5_countOf_6 : decode cX5_countOf 6 = .ok (.istore_n 3, 1) := by decide +kernel
theorem dX5_countOf_7 : decode cX5_countOf 7 = .ok (.iconst 0, 1) := by decide +kernel
theorem dX5_countOf_8 : decode cX5_countOf 8 = .ok (.istore 4, 2) := by decide +kernel
theorem dX5_countOf_10 : decode cX5_countOf 10 = .ok (.iload 4, 2) := by decide +kernel
theorem dX5_countOf_12 : decode cX5_countOf 12 = .ok (.aload_n 0, 1) := by decide +kernel
theorem dX5_countOf_13 : decode cX5_countOf 13 = .ok (.getfield 16, 3) := by decide +kernel
theorem dX5_countOf_16 : decode cX5_countOf 16 = .ok (.iload_n 2, 1) := by decide +kernel
theorem dX5_countOf_17 : decode cX5_countOf 17 = .ok (.iaload, 1) := by decide +kernel
theorem dX5_countOf_18 : decode cX5_countOf 18 = .ok (.if_icmp .ge 27, 3) := by decide +kernel
theorem dX5_countOf_21 : decode cX5_countOf 21 = .ok (.iload_n 3, 1) := by decide +kernel
theorem dX5_countOf_22 : decode cX5_countOf 22 = .ok (.iconst 1, 1) := by decide +kernel
theorem dX5_countOf_23 : decode cX5_countOf 23 = .ok (.aload_n 0, 1) := by decide +kernel
theorem dX5_countOf_24 : decode cX5_countOf 24 = .ok (.getfield 41, 3) := by decide +kernel
theorem dX5_countOf_27 : decode cX5_countOf 27 = .ok (.aload_n 0, 1) := by decide +kernel
theorem dX5_countOf_28 : decode cX5_countOf 28 = .ok (.iload_n 1, 1) := by decide +kernel
theorem dX5_countOf_29 : decode cX5_countOf 29 = .ok (.iload_n 2, 1) := by decide +kernel
theorem dX5_countOf_30 : decode cX5_countOf 30 = .ok (.iload 4, 2) := by decide +kernel
theorem dX5_countOf_32 : decode cX5_countOf 32 = .ok (.invokevirtual 183, 3) := by decide +kernel
theorem dX5_countOf_35 : decode cX5_countOf 35 = .ok (.iaload, 1) := by decide +kernel
theorem dX5_countOf_36 : decode cX5_countOf 36 = .ok (.iadd, 1) := by decide +kernel
theorem dX5_countOf_37 : decode cX5_countOf 37 = .ok (.iadd, 1) := by decide +kernel
theorem dX5_countOf_38 : decode cX5_countOf 38 = .ok (.istore_n 3, 1) := by decide +kernel
theorem dX5_countOf_39 : decode cX5_countOf 39 = .ok (.iinc 4 1, 3) := by decide +kernel
theorem dX5_countOf_42 : decode cX5_countOf 42 = .ok (.goto (-32), 3) := by decide +kernel
theorem dX5_countOf_45 : decode cX5_countOf 45 = .ok (.iload_n 3, 1) := by decide +kernel
theorem dX5_countOf_46 : decode cX5_countOf 46 = .ok (.aload_n 0, 1) := by decide +kernel
theorem dX5_countOf_47 : decode cX5_countOf 47 = .ok (.iload_n 1, 1) := by decide +kernel
theorem dX5_countOf_48 : decode cX5_countOf 48 = .ok (.iload_n 2, 1) := by decide +kernel
theorem dX5_countOf_49 : decode cX5_countOf 49 = .ok (.invokevirtual 186, 3) := by decide +kernel
theorem dX5_countOf_52 : decode cX5_countOf 52 = .ok (.iadd, 1) := by decide +kernel
theorem dX5_countOf_53 : decode cX5_countOf 53 = .ok (.ireturn, 1) := by decide +kernel
theorem dX5_count_0 : decode cX5_count 0 = .ok (.aload_n 0, 1) := by decide +kernel
theorem dX5_count_1 : decode cX5_count 1 = .ok (.iconst 0, 1) := by decide +kernel
theorem dX5_count_2 : decode cX5_count 2 = .ok (.putfield 67, 3) := by decide +kernel
theorem dX5_count_5 : decode cX5_count 5 = .ok (.aload_n 0, 1) := by decide +kernel
theorem dX5_count_6 : decode cX5_count 6 = .ok (.iload_n 1, 1) := by decide +kernel
theorem dX5_count_7 : decode cX5_count 7 = .ok (.invokevirtual 164, 3) := by decide +kernel
theorem dX5_count_10 : decode cX5_count 10 = .ok (.ifCond .eq 20, 3) := by decide +kernel
theorem dX5_count_13 : decode cX5_count 13 = .ok (.aload_n 0, 1) := by decide +kernel
theorem dX5_count_14 : decode cX5_count 14 = .ok (.iload_n 2, 1) := by decide +kernel
theorem dX5_count_15 : decode cX5_count 15 = .ok (.invokevirtual 131, 3) := by decide +kernel
theorem dX5_count_18 : decode cX5_count 18 = .ok (.ifCond .eq 12, 3) := by decide +kernel
theorem dX5_count_21 : decode cX5_count 21 = .ok (.aload_n 0, 1) := by decide +kernel
theorem dX5_count_22 : decode cX5_count 22 = .ok (.iload_n 1, 1) := by decide +kernel
theorem dX5_count_23 : decode cX5_count 23 = .ok (.iload_n 2, 1) := by decide +kernel
theorem dX5_count_24 : decode cX5_count 24 = .ok (.invokevirtual 189, 3) := by decide +kernel
theorem dX5_count_27 : decode cX5_count 27 = .ok (.goto 4, 3) := by decide +kernel
theorem dX5_count_30 : decode cX5_count 30 = .ok (.iconst (-1), 1) := by decide +kernel
theorem dX5_count_31 : decode cX5_count 31 = .ok (.ireturn, 1) := by decide +kernel
theorem dX5_beyond_0 : decode cX5_beyond 0 = .ok (.aload_n 0, 1) := by decide +kernel
theorem dX5_beyond_1 : decode cX5_beyond 1 = .ok (.iconst 0, 1) := by decide +kernel
theorem dX5_beyond_2 : decode cX5_beyond 2 = .ok (.putfield 67, 3) := by decide +kernel
theorem dX5_beyond_5 : decode cX5_beyond 5 = .ok (.aload_n 0, 1) := by decide +kernel
theorem dX5_beyond_6 : decode cX5_beyond 6 = .ok (.iload_n 1, 1) := by decide +kernel
theorem dX5_beyond_7 : decode cX5_beyond 7 = .ok (.invokevirtual 164, 3) := by decide +kernel
theorem dX5_beyond_10 : decode cX5_beyond 10 = .ok (.ifCond .eq 20, 3) := by decide +kernel
theorem dX5_beyond_13 : decode cX5_beyond 13 = .ok (.aload_n 0, 1) := by decide +kernel
theorem dX5_beyond_14 : decode cX5_beyond 14 = .ok (.iload_n 2, 1) := by decide +kernel
theorem dX5_beyond_15 : decode cX5_beyond 15 = .ok (.invokevirtual 131, 3) := by decide +kernel
theorem dX5_beyond_18 : decode cX5_beyond 18 = .ok (.ifCond .eq 12, 3) := by decide +kernel
theorem dX5_beyond_21 : decode cX5_beyond 21 = .ok (.aload_n 0, 1) := by decide +kernel
theorem dX5_beyond_22 : decode cX5_beyond 22 = .ok (.iload_n 1, 1) := by decide +kernel
theorem dX5_beyond_23 : decode cX5_beyond 23 = .ok (.iload_n 2, 1) := by decide +kernel
theorem dX5_beyond_24 : decode cX5_beyond 24 = .ok (.invokevirtual 186, 3) := by decide +kernel
theorem dX5_beyond_27 : decode cX5_beyond 27 = .ok (.goto 4, 3) := by decide +kernel
theorem dX5_beyond_30 : decode cX5_beyond 30 = .ok (.iconst (-1), 1) := by decide +kernel
theorem dX5_beyond_31 : decode cX5_beyond 31 = .ok (.ireturn, 1) := by decide +kernel
theorem dX5_needShares_0 : decode cX5_needShares 0 = .ok (.aload_n 0, 1) := by decide +kernel
theorem dX5_needShares_1 : decode cX5_needShares 1 = .ok (.iload_n 1, 1) := by decide +kernel
theorem dX5_needShares_2 : decode cX5_needShares 2 = .ok (.invokevirtual 169, 3) := by decide +kernel
theorem dX5_needShares_5 : decode cX5_needShares 5 = .ok (.istore_n 2, 1) := by decide +kernel
theorem dX5_needShares_6 : decode cX5_needShares 6 = .ok (.aload_n 0, 1) := by decide +kernel
theorem dX5_needShares_7 : decode cX5_needShares 7 = .ok (.getfield 56, 3) := by decide +kernel
theorem dX5_needShares_10 : decode cX5_needShares 10 = .ok (.iconst 0, 1) := by decide +kernel
theorem dX5_needShares_11 : decode cX5_needShares 11 = .ok (.iconst 1, 1) := by decide +kernel
theorem dX5_needShares_12 : decode cX5_needShares 12 = .ok (.iastore, 1) := by decide +kernel
theorem dX5_needShares_13 : decode cX5_needShares 13 = .ok (.aload_n 0, 1) := by decide +kernel
theorem dX5_needShares_14 : decode cX5_needShares 14 = .ok (.getfield 56, 3) := by decide +kernel
theorem dX5_needShares_17 : decode cX5_needShares 17 = .ok (.iconst 1, 1) := by decide +kernel
theorem dX5_needShares_18 : decode cX5_needShares 18 = .ok (.aload_n 0, 1) := by decide +kernel
theorem dX5_needShares_19 : decode cX5_needShares 19 = .ok (.iload_n 1, 1) := by decide +kernel
theorem dX5_needShares_20 : decode cX5_needShares 20 = .ok (.iconst 1, 1) := by decide +kernel
theorem dX5_needShares_21 : decode cX5_needShares 21 = .ok (.invokevirtual 189, 3) := by decide +kernel
theorem dX5_needShares_24 : decode cX5_needShares 24 = .ok (.aload_n 0, 1) := by decide +kernel
theorem dX5_needShares_25 : decode cX5_needShares 25 = .ok (.getfield 7, 3) := by decide +kernel
theorem dX5_needShares_28 : decode cX5_needShares 28 = .ok (.isub, 1) := by decide +kernel
theorem dX5_needShares_29 : decode cX5_needShares 29 = .ok (.iconst 1, 1) := by decide +kernel
theorem dX5_needShares_30 : decode cX5_needShares 30 = .ok (.isub, 1) := by decide +kernel
theorem dX5_needShares_31 : decode cX5_needShares 31 = .ok (.iastore, 1) := by decide +kernel
theorem dX5_needShares_32 : decode cX5_needShares 32 = .ok (.iload_n 2, 1) := by decide +kernel
theorem dX5_needShares_33 : decode cX5_needShares 33 = .ok (.iconst 1, 1) := by decide +kernel
theorem dX5_needShares_34 : decode cX5_needShares 34 = .ok (.if_icmp .ne 30, 3) := by decide +kernel
theorem dX5_needShares_37 : decode cX5_needShares 37 = .ok (.aload_n 0, 1) := by decide +kernel
theorem dX5_needShares_38 : decode cX5_needShares 38 = .ok (.getfield 56, 3) := by decide +kernel
theorem dX5_needShares_41 : decode cX5_needShares 41 = .ok (.iconst 2, 1) := by decide +kernel
theorem dX5_needShares_42 : decode cX5_needShares 42 = .ok (.aload_n 0, 1) := by decide +kernel
theorem dX5_needShares_43 : decode cX5_needShares 43 = .ok (.getfield 7, 3) := by decide +kernel
theorem dX5_needShares_46 : decode cX5_needShares 46 = .ok (.iastore, 1) := by decide +kernel
theorem dX5_needShares_47 : decode cX5_needShares 47 = .ok (.aload_n 0, 1) := by decide +kernel
theorem dX5_needShares_48 : decode cX5_needShares 48 = .ok (.getfield 56, 3) := by decide +kernel
theorem dX5_needShares_51 : decode cX5_needShares 51 = .ok (.iconst 3, 1) := by decide +kernel
theorem dX5_needShares_52 : decode cX5_needShares 52 = .ok (.iconst 0, 1) := by decide +kernel
theorem dX5_needShares_53 : decode cX5_needShares 53 = .ok (.iastore, 1) := by decide +kernel
theorem dX5_needShares_54 : decode cX5_needShares 54 = .ok (.aload_n 0, 1) := by decide +kernel
theorem dX5_needShares_55 : decode cX5_needShares 55 = .ok (.getfield 56, 3) := by decide +kernel
theorem dX5_needShares_58 : decode cX5_needShares 58 = .ok (.iconst 4, 1) := by decide +kernel
theorem dX5_needShares_59 : decode cX5_needShares 59 = .ok (.iconst 0, 1) := by decide +kernel
theorem dX5_needShares_60 : decode cX5_needShares 60 = .ok (.iastore, 1) := by decide +kernel
theorem dX5_needShares_61 : decode cX5_needShares 61 = .ok (.goto 75, 3) := by decide +kernel
theorem dX5_needShares_64 : decode cX5_needShares 64 = .ok (.aload_n 0, 1) := by decide +kernel
theorem dX5_needShares_65 : decode cX5_needShares 65 = .ok (.getfield 56, 3) := by decide +kernel
theorem dX5_needShares_68 : decode cX5_needShares 68 = .ok (.iconst 2, 1) := by decide +kernel
theorem dX5_needShares_69 : decode cX5_needShares 69 = .ok (.aload_n 0, 1) := by decide +kernel
end
section
theorem dX5_needShares_70 : decode cX5_needShares 70 = .ok (.iload_n 1, 1) := by decide +kernel
theorem dX5_needShares_71 : decode cX5_needShares 71 = .ok (.iconst 2, 1) := by decide +kernel
theorem dX5_needShares_72 : decode cX5_needShares 72 = .ok (.invokevirtual 189, 3) := by decide +kernel
theorem dX5_needShares_75 : decode cX5_needShares 75 = .ok (.aload_n 0, 1) := by decide +kernel
theorem dX5_needShares_76 : decode cX5_needShares 76 = .ok (.getfield 7, 3) := by decide +kernel
theorem dX5_needShares_79 : decode cX5_needShares 79 = .ok (.aload_n 0, 1) := by decide +kernel
theorem dX5_needShares_80 : decode cX5_needShares 80 = .ok (.getfield 7, 3) := by decide +kernel
theorem dX5_needShares_83 : decode cX5_needShares 83 = .ok (.imul, 1) := by decide +kernel
theorem dX5_needShares_84 : decode cX5_needShares 84 = .ok (.isub, 1) := by decide +kernel
theorem dX5_needShares_85 : decode cX5_needShares 85 = .ok (.iconst 1, 1) := by decide +kernel
theorem dX5_needShares_86 : decode cX5_needShares 86 = .ok (.isub, 1) := by decide +kernel
theorem dX5_needShares_87 : decode cX5_needShares 87 = .ok (.aload_n 0, 1) := by decide +kernel
theorem dX5_needShares_88 : decode cX5_needShares 88 = .ok (.getfield 56, 3) := by decide +kernel
theorem dX5_needShares_91 : decode cX5_needShares 91 = .ok (.iconst 1, 1) := by decide +kernel
theorem dX5_needShares_92 : decode cX5_needShares 92 = .ok (.iaload, 1) := by decide +kernel
theorem dX5_needShares_93 : decode cX5_needShares 93 = .ok (.aload_n 0, 1) := by decide +kernel
theorem dX5_needShares_94 : decode cX5_needShares 94 = .ok (.getfield 56, 3) := by decide +kernel
theorem dX5_needShares_97 : decode cX5_needShares 97 = .ok (.iconst 1, 1) := by decide +kernel
theorem dX5_needShares_98 : decode cX5_needShares 98 = .ok (.iaload, 1) := by decide +kernel
theorem dX5_needShares_99 : decode cX5_needShares 99 = .ok (.imul, 1) := by decide +kernel
theorem dX5_needShares_100 : decode cX5_needShares 100 = .ok (.iadd, 1) := by decide +kernel
theorem dX5_needShares_101 : decode cX5_needShares 101 = .ok (.iconst 2, 1) := by decide +kernel
theorem dX5_needShares_102 : decode cX5_needShares 102 = .ok (.idiv, 1) := by decide +kernel
theorem dX5_needShares_103 : decode cX5_needShares 103 = .ok (.iastore, 1) := by decide +kernel
theorem dX5_needShares_104 : decode cX5_needShares 104 = .ok (.aload_n 0, 1) := by decide +kernel
theorem dX5_needShares_105 : decode cX5_needShares 105 = .ok (.getfield 56, 3) := by decide +kernel
theorem dX5_needShares_108 : decode cX5_needShares 108 = .ok (.iconst 3, 1) := by decide +kernel
theorem dX5_needShares_109 : decode cX5_needShares 109 = .ok (.aload_n 0, 1) := by decide +kernel
theorem dX5_needShares_110 : decode cX5_needShares 110 = .ok (.getfield 7, 3) := by decide +kernel
theorem dX5_needShares_113 : decode cX5_needShares 113 = .ok (.aload_n 0, 1) := by decide +kernel
theorem dX5_needShares_114 : decode cX5_needShares 114 = .ok (.getfield 56, 3) := by decide +kernel
theorem dX5_needShares_117 : decode cX5_needShares 117 = .ok (.iconst 1, 1) := by decide +kernel
theorem dX5_needShares_118 : decode cX5_needShares 118 = .ok (.iaload, 1) := by decide +kernel
theorem dX5_needShares_119 : decode cX5_needShares 119 = .ok (.imul, 1) := by decide +kernel
theorem dX5_needShares_120 : decode cX5_needShares 120 = .ok (.iastore, 1) := by decide +kernel
theorem dX5_needShares_121 : decode cX5_needShares 121 = .ok (.aload_n 0, 1) := by decide +kernel
theorem dX5_needShares_122 : decode cX5_needShares 122 = .ok (.getfield 56, 3) := by decide +kernel
theorem dX5_needShares_125 : decode cX5_needShares 125 = .ok (.iconst 4, 1) := by decide +kernel
theorem dX5_needShares_126 : decode cX5_needShares 126 = .ok (.aload_n 0, 1) := by decide +kernel
theorem dX5_needShares_127 : decode cX5_needShares 127 = .ok (.getfield 7, 3) := by decide +kernel
theorem dX5_needShares_130 : decode cX5_needShares 130 = .ok (.aload_n 0, 1) := by decide +kernel
theorem dX5_needShares_131 : decode cX5_needShares 131 = .ok (.getfield 7, 3) := by decide +kernel
theorem dX5_needShares_134 : decode cX5_needShares 134 = .ok (.imul, 1) := by decide +kernel
theorem dX5_needShares_135 : decode cX5_needShares 135 = .ok (.iastore, 1) := by decide +kernel
theorem dX5_needShares_136 : decode cX5_needShares 136 = .ok (.return_, 1) := by decide +kernel
theorem dX5_share_0 : decode cX5_share 0 = .ok (.aload_n 0, 1) := by decide +kernel
theorem dX5_share_1 : decode cX5_share 1 = .ok (.iconst 0, 1) := by decide +kernel
theorem dX5_share_2 : decode cX5_share 2 = .ok (.putfield 67, 3) := by decide +kernel
theorem dX5_share_5 : decode cX5_share 5 = .ok (.aload_n 0, 1) := by decide +kernel
theorem dX5_share_6 : decode cX5_share 6 = .ok (.iload_n 1, 1) := by decide +kernel
theorem dX5_share_7 : decode cX5_share 7 = .ok (.invokevirtual 164, 3) := by decide +kernel
theorem dX5_share_10 : decode cX5_share 10 = .ok (.ifCond .eq 20, 3) := by decide +kernel
theorem dX5_share_13 : decode cX5_share 13 = .ok (.iload_n 2, 1) := by decide +kernel
theorem dX5_share_14 : decode cX5_share 14 = .ok (.i2l, 1) := by decide +kernel
theorem dX5_share_15 : decode cX5_share 15 = .ok (.lconst 0, 1) := by decide +kernel
theorem dX5_share_16 : decode cX5_share 16 = .ok (.iconst 2, 1) := by decide +kernel
theorem dX5_share_17 : decode cX5_share 17 = .ok (.aload_n 0, 1) := by decide +kernel
theorem dX5_share_18 : decode cX5_share 18 = .ok (.iload_n 1, 1) := by decide +kernel
theorem dX5_share_19 : decode cX5_share 19 = .ok (.invokevirtual 169, 3) := by decide +kernel
theorem dX5_share_22 : decode cX5_share 22 = .ok (.imul, 1) := by decide +kernel
theorem dX5_share_23 : decode cX5_share 23 = .ok (.i2l, 1) := by decide +kernel
theorem dX5_share_24 : decode cX5_share 24 = .ok (.invokestatic 127, 3) := by decide +kernel
theorem dX5_share_27 : decode cX5_share 27 = .ok (.ifCond .ne 6, 3) := by decide +kernel
theorem dX5_share_30 : decode cX5_share 30 = .ok (.ldc 145, 2) := by decide +kernel
theorem dX5_share_32 : decode cX5_share 32 = .ok (.ireturn, 1) := by decide +kernel
theorem dX5_share_33 : decode cX5_share 33 = .ok (.aload_n 0, 1) := by decide +kernel
theorem dX5_share_34 : decode cX5_share 34 = .ok (.iload_n 1, 1) := by decide +kernel
theorem dX5_share_35 : decode cX5_share 35 = .ok (.invokevirtual 192, 3) := by decide +kernel
theorem dX5_share_38 : decode cX5_share 38 = .ok (.aload_n 0, 1) := by decide +kernel
theorem dX5_share_39 : decode cX5_share 39 = .ok (.getfield 56, 3) := by decide +kernel
theorem dX5_share_42 : decode cX5_share 42 = .ok (.iload_n 2, 1) := by decide +kernel
theorem dX5_share_43 : decode cX5_share 43 = .ok (.iaload, 1) := by decide +kernel
theorem dX5_share_44 : decode cX5_share 44 = .ok (.ireturn, 1) := by decide +kernel
theorem dX5_further_0 : decode cX5_further 0 = .ok (.aload_n 0, 1) := by decide +kernel
theorem dX5_further_1 : decode cX5_further 1 = .ok (.iconst 0, 1) := by decide +kernel
theorem dX5_further_2 : decode cX5_further 2 = .ok (.putfield 67, 3) := by decide +kernel
theorem dX5_further_5 : decode cX5_further 5 = .ok (.aload_n 0, 1) := by decide +kernel
theorem dX5_further_6 : decode cX5_further 6 = .ok (.iload_n 1, 1) := by decide +kernel
theorem dX5_further_7 : decode cX5_further 7 = .ok (.invokevirtual 164, 3) := by decide +kernel
theorem dX5_further_10 : decode cX5_further 10 = .ok (.ifCond .eq 15, 3) := by decide +kernel
theorem dX5_further_13 : decode cX5_further 13 = .ok (.iload_n 2, 1) := by decide +kernel
theorem dX5_further_14 : decode cX5_further 14 = .ok (.i2l, 1) := by decide +kernel
theorem dX5_further_15 : decode cX5_further 15 = .ok (.lconst 1, 1) := by decide +kernel
theorem dX5_further_16 : decode cX5_further 16 = .ok (.ldc2_w 195, 3) := by decide +kernel
theorem dX5_further_19 : decode cX5_further 19 = .ok (.invokestatic 127, 3) := by decide +kernel
theorem dX5_further_22 : decode cX5_further 22 = .ok (.ifCond .ne 7, 3) := by decide +kernel
theorem dX5_further_25 : decode cX5_further 25 = .ok (.ldc2_w 197, 3) := by decide +kernel
theorem dX5_further_28 : decode cX5_further 28 = .ok (.lreturn, 1) := by decide +kernel
theorem dX5_further_29 : decode cX5_further 29 = .ok (.aload_n 0, 1) := by decide +kernel
theorem dX5_further_30 : decode cX5_further 30 = .ok (.iload_n 1, 1) := by decide +kernel
theorem dX5_further_31 : decode cX5_further 31 = .ok (.invokevirtual 192, 3) := by decide +kernel
theorem dX5_further_34 : decode cX5_further 34 = .ok (.lconst 1, 1) := by decide +kernel
theorem dX5_further_35 : decode cX5_further 35 = .ok (.lstore_n 3, 1) := by decide +kernel
theorem dX5_further_36 : decode cX5_further 36 = .ok (.iconst 1, 1) := by decide +kernel
theorem dX5_further_37 : decode cX5_further 37 = .ok (.istore 5, 2) := by decide +kernel
theorem dX5_further_39 : decode cX5_further 39 = .ok (.iload 5, 2) := by decide +kernel
theorem dX5_further_41 : decode cX5_further 41 = .ok (.iload_n 2, 1) := by decide +kernel
theorem dX5_further_42 : decode cX5_further 42 = .ok (.if_icmp .gt 97, 3) := by decide +kernel
theorem dX5_further_45 : decode cX5_further 45 = .ok (.lload_n 3, 1) := by decide +kernel
theorem dX5_further_46 : decode cX5_further 46 = .ok (.aload_n 0, 1) := by decide +kernel
theorem dX5_further_47 : decode cX5_further 47 = .ok (.getfield 7, 3) := by decide +kernel
theorem dX5_further_50 : decode cX5_further 50 = .ok (.i2l, 1) := by decide +kernel
theorem dX5_further_51 : decode cX5_further 51 = .ok (.lmul, 1) := by decide +kernel
theorem dX5_further_52 : decode cX5_further 52 = .ok (.lstore_n 3, 1) := by decide +kernel
theorem dX5_further_53 : decode cX5_further 53 = .ok (.iload 5, 2) := by decide +kernel
theorem dX5_further_55 : decode cX5_further 55 = .ok (.iconst 5, 1) := by decide +kernel
theorem dX5_further_56 : decode cX5_further 56 = .ok (.if_icmp .ge 19, 3) := by decide +kernel
theorem dX5_further_59 : decode cX5_further 59 = .ok (.iload 5, 2) := by decide +kernel
theorem dX5_further_61 : decode cX5_further 61 = .ok (.i2l, 1) := by decide +kernel
theorem dX5_further_62 : decode cX5_further 62 = .ok (.lneg, 1) := by decide +kernel
theorem dX5_further_63 : decode cX5_further 63 = .ok (.aload_n 0, 1) := by decide +kernel
theorem dX5_further_64 : decode cX5_further 64 = .ok (.getfield 56, 3) := by decide +kernel
theorem dX5_further_67 : decode cX5_further 67 = .ok (.iload 5, 2) := by decide +kernel
theorem dX5_further_69 : decode cX5_further 69 = .ok (.iaload, 1) := by decide +kernel
theorem dX5_further_70 : decode cX5_further 70 = .ok (.i2l, 1) := by decide +kernel
theorem dX5_further_71 : decode cX5_further 71 = .ok (.lmul, 1) := by decide +kernel
theorem dX5_further_72 : decode cX5_further 72 = .ok (.goto 4, 3) := by decide +kernel
theorem dX5_further_75 : decode cX5_further 75 = .ok (.lconst 0, 1) := by decide +kernel
theorem dX5_further_76 : decode cX5_further 76 = .ok (.lstore 6, 2) := by decide +kernel
theorem dX5_further_78 : decode cX5_further 78 = .ok (.iconst 1, 1) := by decide +kernel
theorem dX5_further_79 : decode cX5_further 79 = .ok (.istore 8, 2) := by decide +kernel
theorem dX5_further_81 : decode cX5_further 81 = .ok (.iload 8, 2) := by decide +kernel
theorem dX5_further_83 : decode cX5_further 83 = .ok (.iload 5, 2) := by decide +kernel
theorem dX5_further_85 : decode cX5_further 85 = .ok (.if_icmp .ge 39, 3) := by decide +kernel
theorem dX5_further_88 : decode cX5_further 88 = .ok (.iload 8, 2) := by decide +kernel
theorem dX5_further_90 : decode cX5_further 90 = .ok (.iconst 5, 1) := by decide +kernel
theorem dX5_further_91 : decode cX5_further 91 = .ok (.if_icmp .ge 33, 3) := by decide +kernel
theorem dX5_further_94 : decode cX5_further 94 = .ok (.lload 6, 2) := by decide +kernel
theorem dX5_further_96 : decode cX5_further 96 = .ok (.aload_n 0, 1) := by decide +kernel
theorem dX5_further_97 : decode cX5_further 97 = .ok (.getfield 56, 3) := by decide +kernel
theorem dX5_further_100 : decode cX5_further 100 = .ok (.iload 8, 2) := by decide +kernel
theorem dX5_further_102 : decode cX5_further 102 = .ok (.iaload, 1) := by decide +kernel
theorem dX5_further_103 : decode cX5_further 103 = .ok (.i2l, 1) := by decide +kernel
theorem dX5_further_104 : decode cX5_further 104 = .ok (.aload_n 0, 1) := by decide +kernel
theorem dX5_further_105 : decode cX5_further 105 = .ok (.getfield 59, 3) := by decide +kernel
theorem dX5_further_108 : decode cX5_further 108 = .ok (.iload 5, 2) := by decide +kernel
theorem dX5_further_110 : decode cX5_further 110 = .ok (.iload 8, 2) := by decide +kernel
theorem dX5_further_112 : decode cX5_further 112 = .ok (.isub, 1) := by decide +kernel
theorem dX5_further_113 : decode cX5_further 113 = .ok (.laload, 1) := by decide +kernel
theorem dX5_further_114 : decode cX5_further 114 = .ok (.lmul, 1) := by decide +kernel
theorem dX5_further_115 : decode cX5_further 115 = .ok (.lsub, 1) := by decide +kernel
theorem dX5_further_116 : decode cX5_further 116 = .ok (.lstore 6, 2) := by decide +kernel
theorem dX5_further_118 : decode cX5_further 118 = .ok (.iinc 8 1, 3) := by decide +kernel
theorem dX5_further_121 : decode cX5_further 121 = .ok (.goto (-40), 3) := by decide +kernel
theorem dX5_further_124 : decode cX5_further 124 = .ok (.aload_n 0, 1) := by decide +kernel
theorem dX5_further_125 : decode cX5_further 125 = .ok (.getfield 59, 3) := by decide +kernel
theorem dX5_further_128 : decode cX5_further 128 = .ok (.iload 5, 2) := by decide +kernel
theorem dX5_further_130 : decode cX5_further 130 = .ok (.lload 6, 2) := by decide +kernel
theorem dX5_further_132 : decode cX5_further 132 = .ok (.lastore, 1) := by decide +kernel
theorem dX5_further_133 : decode cX5_further 133 = .ok (.iinc 5 1, 3) := by decide +kernel
theorem dX5_further_136 : decode cX5_further 136 = .ok (.goto (-97), 3) := by decide +kernel
theorem dX5_further_139 : decode cX5_further 139 = .ok (.lload_n 3, 1) := by decide +kernel
theorem dX5_further_140 : decode cX5_further 140 = .ok (.lconst 1, 1) := by decide +kernel
theorem dX5_further_141 : decode cX5_further 141 = .ok (.ladd, 1) := by decide +kernel
theorem dX5_further_142 : decode cX5_further 142 = .ok (.aload_n 0, 1) := by decide +kernel
theorem dX5_further_143 : decode cX5_further 143 = .ok (.getfield 59, 3) := by decide +kernel
theorem dX5_further_146 : decode cX5_further 146 = .ok (.iload_n 2, 1) := by decide +kernel
theorem dX5_further_147 : decode cX5_further 147 = .ok (.laload, 1) := by decide +kernel
theorem dX5_further_148 : decode cX5_further 148 = .ok (.lsub, 1) := by decide +kernel
theorem dX5_further_149 : decode cX5_further 149 = .ok (.lreturn, 1) := by decide +kernel
theorem dX5_wholeOf_0 : decode cX5_wholeOf 0 = .ok (.aload_n 0, 1) := by decide +kernel
theorem dX5_wholeOf_1 : decode cX5_wholeOf 1 = .ok (.iload_n 1, 1) := by decide +kernel
theorem dX5_wholeOf_2 : decode cX5_wholeOf 2 = .ok (.invokevirtual 192, 3) := by decide +kernel
theorem dX5_wholeOf_5 : decode cX5_wholeOf 5 = .ok (.aload_n 0, 1) := by decide +kernel
theorem dX5_wholeOf_6 : decode cX5_wholeOf 6 = .ok (.getfield 56, 3) := by decide +kernel
theorem dX5_wholeOf_9 : decode cX5_wholeOf 9 = .ok (.iconst 0, 1) := by decide +kernel
theorem dX5_wholeOf_10 : decode cX5_wholeOf 10 = .ok (.iaload, 1) := by decide +kernel
theorem dX5_wholeOf_11 : decode cX5_wholeOf 11 = .ok (.aload_n 0, 1) := by decide +kernel
theorem dX5_wholeOf_12 : decode cX5_wholeOf 12 = .ok (.getfield 56, 3) := by decide +kernel
theorem dX5_wholeOf_15 : decode cX5_wholeOf 15 = .ok (.iconst 1, 1) := by decide +kernel
theorem dX5_wholeOf_16 : decode cX5_wholeOf 16 = .ok (.iaload, 1) := by decide +kernel
theorem dX5_wholeOf_17 : decode cX5_wholeOf 17 = .ok (.iadd, 1) := by decide +kernel
theorem dX5_wholeOf_18 : decode cX5_wholeOf 18 = .ok (.aload_n 0, 1) := by decide +kernel
theorem dX5_wholeOf_19 : decode cX5_wholeOf 19 = .ok (.getfield 56, 3) := by decide +kernel
theorem dX5_wholeOf_22 : decode cX5_wholeOf 22 = .ok (.iconst 2, 1) := by decide +kernel
theorem dX5_wholeOf_23 : decode cX5_wholeOf 23 = .ok (.iaload, 1) := by decide +kernel
theorem dX5_wholeOf_24 : decode cX5_wholeOf 24 = .ok (.iadd, 1) := by decide +kernel
theorem dX5_wholeOf_25 : decode cX5_wholeOf 25 = .ok (.aload_n 0, 1) := by decide +kernel
theorem dX5_wholeOf_26 : decode cX5_wholeOf 26 = .ok (.getfield 56, 3) := by decide +kernel
theorem dX5_wholeOf_29 : decode cX5_wholeOf 29 = .ok (.iconst 3, 1) := by decide +kernel
theorem dX5_wholeOf_30 : decode cX5_wholeOf 30 = .ok (.iaload, 1) := by decide +kernel
theorem dX5_wholeOf_31 : decode cX5_wholeOf 31 = .ok (.iadd, 1) := by decide +kernel
theorem dX5_wholeOf_32 : decode cX5_wholeOf 32 = .ok (.aload_n 0, 1) := by decide +kernel
theorem dX5_wholeOf_33 : decode cX5_wholeOf 33 = .ok (.getfield 56, 3) := by decide +kernel
theorem dX5_wholeOf_36 : decode cX5_wholeOf 36 = .ok (.iconst 4, 1) := by decide +kernel
theorem dX5_wholeOf_37 : decode cX5_wholeOf 37 = .ok (.iaload, 1) := by decide +kernel
theorem dX5_wholeOf_38 : decode cX5_wholeOf 38 = .ok (.iadd, 1) := by decide +kernel
theorem dX5_wholeOf_39 : decode cX5_wholeOf 39 = .ok (.ireturn, 1) := by decide +kernel
theorem dX5_whole_0 : decode cX5_whole 0 = .ok (.aload_n 0, 1) := by decide +kernel
theorem dX5_whole_1 : decode cX5_whole 1 = .ok (.iconst 0, 1) := by decide +kernel
theorem dX5_whole_2 : decode cX5_whole 2 = .ok (.putfield 67, 3) := by decide +kernel
theorem dX5_whole_5 : decode cX5_whole 5 = .ok (.aload_n 0, 1) := by decide +kernel
theorem dX5_whole_6 : decode cX5_whole 6 = .ok (.iload_n 1, 1) := by decide +kernel
theorem dX5_whole_7 : decode cX5_whole 7 = .ok (.invokevirtual 164, 3) := by decide +kernel
theorem dX5_whole_10 : decode cX5_whole 10 = .ok (.ifCond .eq 11, 3) := by decide +kernel
theorem dX5_whole_13 : decode cX5_whole 13 = .ok (.aload_n 0, 1) := by decide +kernel
theorem dX5_whole_14 : decode cX5_whole 14 = .ok (.iload_n 1, 1) := by decide +kernel
theorem dX5_whole_15 : decode cX5_whole 15 = .ok (.invokevirtual 199, 3) := by decide +kernel
theorem dX5_whole_18 : decode cX5_whole 18 = .ok (.goto 4, 3) := by decide +kernel
theorem dX5_whole_21 : decode cX5_whole 21 = .ok (.iconst (-1), 1) := by decide +kernel
theorem dX5_whole_22 : decode cX5_whole 22 = .ok (.ireturn, 1) := by decide +kernel
theorem dX5_bound_0 : decode cX5_bound 0 = .ok (.aload_n 0, 1) := by decide +kernel
theorem dX5_bound_1 : decode cX5_bound 1 = .ok (.iconst 0, 1) := by decide +kernel
theorem dX5_bound_2 : decode cX5_bound 2 = .ok (.putfield 67, 3) := by decide +kernel
theorem dX5_bound_5 : decode cX5_bound 5 = .ok (.iload_n 1, 1) := by decide +kernel
theorem dX5_bound_6 : decode cX5_bound 6 = .ok (.i2l, 1) := by decide +kernel
theorem dX5_bound_7 : decode cX5_bound 7 = .ok (.lconst 1, 1) := by decide +kernel
theorem dX5_bound_8 : decode cX5_bound 8 = .ok (.ldc2_w 156, 3) := by decide +kernel
theorem dX5_bound_11 : decode cX5_bound 11 = .ok (.invokestatic 127, 3) := by decide +kernel
theorem dX5_bound_14 : decode cX5_bound 14 = .ok (.ifCond .ne 5, 3) := by decide +kernel
theorem dX5_bound_17 : decode cX5_bound 17 = .ok (.iconst (-1), 1) := by decide +kernel
theorem dX5_bound_18 : decode cX5_bound 18 = .ok (.ireturn, 1) := by decide +kernel
theorem dX5_bound_19 : decode cX5_bound 19 = .ok (.iconst 0, 1) := by decide +kernel
theorem dX5_bound_20 : decode cX5_bound 20 = .ok (.istore_n 2, 1) := by decide +kernel
theorem dX5_bound_21 : decode cX5_bound 21 = .ok (.iload_n 2, 1) := by decide +kernel
theorem dX5_bound_22 : decode cX5_bound 22 = .ok (.iconst 1, 1) := by decide +kernel
theorem dX5_bound_23 : decode cX5_bound 23 = .ok (.iadd, 1) := by decide +kernel
theorem dX5_bound_24 : decode cX5_bound 24 = .ok (.iload_n 2, 1) := by decide +kernel
theorem dX5_bound_25 : decode cX5_bound 25 = .ok (.iconst 1, 1) := by decide +kernel
theorem dX5_bound_26 : decode cX5_bound 26 = .ok (.iadd, 1) := by decide +kernel
theorem dX5_bound_27 : decode cX5_bound 27 = .ok (.imul, 1) := by decide +kernel
theorem dX5_bound_28 : decode cX5_bound 28 = .ok (.iconst 4, 1) := by decide +kernel
theorem dX5_bound_29 : decode cX5_bound 29 = .ok (.iload_n 1, 1) := by decide +kernel
theorem dX5_bound_30 : decode cX5_bound 30 = .ok (.imul, 1) := by decide +kernel
theorem dX5_bound_31 : decode cX5_bound 31 = .ok (.iload_n 1, 1) := by decide +kernel
theorem dX5_bound_32 : decode cX5_bound 32 = .ok (.imul, 1) := by decide +kernel
theorem dX5_bound_33 : decode cX5_bound 33 = .ok (.aload_n 0, 1) := by decide +kernel
theorem dX5_bound_34 : decode cX5_bound 34 = .ok (.getfield 7, 3) := by decide +kernel
theorem dX5_bound_37 : decode cX5_bound 37 = .ok (.imul, 1) := by decide +kernel
theorem dX5_bound_38 : decode cX5_bound 38 = .ok (.if_icmp .gt 9, 3) := by decide +kernel
theorem dX5_bound_41 : decode cX5_bound 41 = .ok (.iinc 2 1, 3) := by decide +kernel
theorem dX5_bound_44 : decode cX5_bound 44 = .ok (.goto (-23), 3) := by decide +kernel
theorem dX5_bound_47 : decode cX5_bound 47 = .ok (.iload_n 2, 1) := by decide +kernel
theorem dX5_bound_48 : decode cX5_bound 48 = .ok (.ireturn, 1) := by decide +kernel
theorem dX5_surface_0 : decode cX5_surface 0 = .ok (.aload_n 0, 1) := by decide +kernel
theorem dX5_surface_1 : decode cX5_surface 1 = .ok (.iconst 0, 1) := by decide +kernel
theorem dX5_surface_2 : decode cX5_surface 2 = .ok (.putfield 67, 3) := by decide +kernel
theorem dX5_surface_5 : decode cX5_surface 5 = .ok (.aload_n 0, 1) := by decide +kernel
theorem dX5_surface_6 : decode cX5_surface 6 = .ok (.iload_n 1, 1) := by decide +kernel
theorem dX5_surface_7 : decode cX5_surface 7 = .ok (.invokevirtual 164, 3) := by decide +kernel
theorem dX5_surface_10 : decode cX5_surface 10 = .ok (.ifCond .eq 19, 3) := by decide +kernel
theorem dX5_surface_13 : decode cX5_surface 13 = .ok (.aload_n 0, 1) := by decide +kernel
theorem dX5_surface_14 : decode cX5_surface 14 = .ok (.iload_n 2, 1) := by decide +kernel
theorem dX5_surface_15 : decode cX5_surface 15 = .ok (.invokevirtual 164, 3) := by decide +kernel
theorem dX5_surface_18 : decode cX5_surface 18 = .ok (.ifCond .eq 11, 3) := by decide +kernel
theorem dX5_surface_21 : decode cX5_surface 21 = .ok (.aload_n 0, 1) := by decide +kernel
theorem dX5_surface_22 : decode cX5_surface 22 = .ok (.iload_n 3, 1) := by decide +kernel
theorem dX5_surface_23 : decode cX5_surface 23 = .ok (.invokevirtual 131, 3) := by decide +kernel
theorem dX5_surface_26 : decode cX5_surface 26 = .ok (.ifCond .ne 5, 3) := by decide +kernel
theorem dX5_surface_29 : decode cX5_surface 29 = .ok (.iconst (-1), 1) := by decide +kernel
theorem dX5_surface_30 : decode cX5_surface 30 = .ok (.ireturn, 1) := by decide +kernel
theorem dX5_surface_31 : decode cX5_surface 31 = .ok (.aload_n 0, 1) := by decide +kernel
theorem dX5_surface_32 : decode cX5_surface 32 = .ok (.iload_n 3, 1) := by decide +kernel
theorem dX5_surface_33 : decode cX5_surface 33 = .ok (.invokevirtual 114, 3) := by decide +kernel
theorem dX5_surface_36 : decode cX5_surface 36 = .ok (.aload_n 0, 1) := by decide +kernel
theorem dX5_surface_37 : decode cX5_surface 37 = .ok (.getfield 16, 3) := by decide +kernel
theorem dX5_surface_40 : decode cX5_surface 40 = .ok (.iload_n 3, 1) := by decide +kernel
theorem dX5_surface_41 : decode cX5_surface 41 = .ok (.iaload, 1) := by decide +kernel
theorem dX5_surface_42 : decode cX5_surface 42 = .ok (.istore 4, 2) := by decide +kernel
theorem dX5_surface_44 : decode cX5_surface 44 = .ok (.iconst 0, 1) := by decide +kernel
theorem dX5_surface_45 : decode cX5_surface 45 = .ok (.istore 5, 2) := by decide +kernel
theorem dX5_surface_47 : decode cX5_surface 47 = .ok (.iconst 0, 1) := by decide +kernel
theorem dX5_surface_48 : decode cX5_surface 48 = .ok (.istore 6, 2) := by decide +kernel
theorem dX5_surface_50 : decode cX5_surface 50 = .ok (.iconst 0, 1) := by decide +kernel
theorem dX5_surface_51 : decode cX5_surface 51 = .ok (.istore 7, 2) := by decide +kernel
theorem dX5_surface_53 : decode cX5_surface 53 = .ok (.iconst 0, 1) := by decide +kernel
theorem dX5_surface_54 : decode cX5_surface 54 = .ok (.istore 8, 2) := by decide +kernel
theorem dX5_surface_56 : decode cX5_surface 56 = .ok (.iconst 0, 1) := by decide +kernel
theorem dX5_surface_57 : decode cX5_surface 57 = .ok (.istore 9, 2) := by decide +kernel
theorem dX5_surface_59 : decode cX5_surface 59 = .ok (.iload 9, 2) := by decide +kernel
theorem dX5_surface_61 : decode cX5_surface 61 = .ok (.iload 4, 2) := by decide +kernel
theorem dX5_surface_63 : decode cX5_surface 63 = .ok (.if_icmp .ge 103, 3) := by decide +kernel
theorem dX5_surface_66 : decode cX5_surface 66 = .ok (.aload_n 0, 1) := by decide +kernel
theorem dX5_surface_67 : decode cX5_surface 67 = .ok (.getfield 41, 3) := by decide +kernel
theorem dX5_surface_70 : decode cX5_surface 70 = .ok (.aload_n 0, 1) := by decide +kernel
theorem dX5_surface_71 : decode cX5_surface 71 = .ok (.iload_n 1, 1) := by decide +kernel
theorem dX5_surface_72 : decode cX5_surface 72 = .ok (.iload_n 3, 1) := by decide +kernel
theorem dX5_surface_73 : decode cX5_surface 73 = .ok (.iload 9, 2) := by decide +kernel
theorem dX5_surface_75 : decode cX5_surface 75 = .ok (.invokevirtual 183, 3) := by decide +kernel
theorem dX5_surface_78 : decode cX5_surface 78 = .ok (.iaload, 1) := by decide +kernel
theorem dX5_surface_79 : decode cX5_surface 79 = .ok (.istore 10, 2) := by decide +kernel
theorem dX5_surface_81 : decode cX5_surface 81 = .ok (.aload_n 0, 1) := by decide +kernel
theorem dX5_surface_82 : decode cX5_surface 82 = .ok (.getfield 41, 3) := by decide +kernel
theorem dX5_surface_85 : decode cX5_surface 85 = .ok (.aload_n 0, 1) := by decide +kernel
theorem dX5_surface_86 : decode cX5_surface 86 = .ok (.iload_n 2, 1) := by decide +kernel
theorem dX5_surface_87 : decode cX5_surface 87 = .ok (.iload_n 3, 1) := by decide +kernel
theorem dX5_surface_88 : decode cX5_surface 88 = .ok (.iload 9, 2) := by decide +kernel
theorem dX5_surface_90 : decode cX5_surface 90 = .ok (.invokevirtual 183, 3) := by decide +kernel
theorem dX5_surface_93 : decode cX5_surface 93 = .ok (.iaload, 1) := by decide +kernel
theorem dX5_surface_94 : decode cX5_surface 94 = .ok (.istore 11, 2) := by decide +kernel
theorem dX5_surface_96 : decode cX5_surface 96 = .ok (.iload 5, 2) := by decide +kernel
theorem dX5_surface_98 : decode cX5_surface 98 = .ok (.iload 10, 2) := by decide +kernel
theorem dX5_surface_100 : decode cX5_surface 100 = .ok (.iconst 1, 1) := by decide +kernel
theorem dX5_surface_101 : decode cX5_surface 101 = .ok (.if_icmp .ne 7, 3) := by decide +kernel
theorem dX5_surface_104 : decode cX5_surface 104 = .ok (.iconst 1, 1) := by decide +kernel
theorem dX5_surface_105 : decode cX5_surface 105 = .ok (.goto 4, 3) := by decide +kernel
theorem dX5_surface_108 : decode cX5_surface 108 = .ok (.iconst 0, 1) := by decide +kernel
theorem dX5_surface_109 : decode cX5_surface 109 = .ok (.iadd, 1) := by decide +kernel
theorem dX5_surface_110 : decode cX5_surface 110 = .ok (.istore 5, 2) := by decide +kernel
theorem dX5_surface_112 : decode cX5_surface 112 = .ok (.iload 6, 2) := by decide +kernel
theorem dX5_surface_114 : decode cX5_surface 114 = .ok (.iload 10, 2) := by decide +kernel
theorem dX5_surface_116 : decode cX5_surface 116 = .ok (.iconst (-1), 1) := by decide +kernel
theorem dX5_surface_117 : decode cX5_surface 117 = .ok (.if_icmp .ne 7, 3) := by decide +kernel
theorem dX5_surface_120 : decode cX5_surface 120 = .ok (.iconst 1, 1) := by decide +kernel
theorem dX5_surface_121 : decode cX5_surface 121 = .ok (.goto 4, 3) := by decide +kernel
theorem dX5_surface_124 : decode cX5_surface 124 = .ok (.iconst 0, 1) := by decide +kernel
theorem dX5_surface_125 : decode cX5_surface 125 = .ok (.iadd, 1) := by decide +kernel
theorem dX5_surface_126 : decode cX5_surface 126 = .ok (.istore 6, 2) := by decide +kernel
theorem dX5_surface_128 : decode cX5_surface 128 = .ok (.iload 7, 2) := by decide +kernel
theorem dX5_surface_130 : decode cX5_surface 130 = .ok (.iload 11, 2) := by decide +kernel
theorem dX5_surface_132 : decode cX5_surface 132 = .ok (.iconst 1, 1) := by decide +kernel
theorem dX5_surface_133 : decode cX5_surface 133 = .ok (.if_icmp .ne 7, 3) := by decide +kernel
theorem dX5_surface_136 : decode cX5_surface 136 = .ok (.iconst 1, 1) := by decide +kernel
theorem dX5_surface_137 : decode cX5_surface 137 = .ok (.goto 4, 3) := by decide +kernel
theorem dX5_surface_140 : decode cX5_surface 140 = .ok (.iconst 0, 1) := by decide +kernel
theorem dX5_surface_141 : decode cX5_surface 141 = .ok (.iadd, 1) := by decide +kernel
theorem dX5_surface_142 : decode cX5_surface 142 = .ok (.istore 7, 2) := by decide +kernel
theorem dX5_surface_144 : decode cX5_surface 144 = .ok (.iload 8, 2) := by decide +kernel
theorem dX5_surface_146 : decode cX5_surface 146 = .ok (.iload 11, 2) := by decide +kernel
theorem dX5_surface_148 : decode cX5_surface 148 = .ok (.iconst (-1), 1) := by decide +kernel
theorem dX5_surface_149 : decode cX5_surface 149 = .ok (.if_icmp .ne 7, 3) := by decide +kernel
theorem dX5_surface_152 : decode cX5_surface 152 = .ok (.iconst 1, 1) := by decide +kernel
theorem dX5_surface_153 : decode cX5_surface 153 = .ok (.goto 4, 3) := by decide +kernel
theorem dX5_surface_156 : decode cX5_surface 156 = .ok (.iconst 0, 1) := by decide +kernel
theorem dX5_surface_157 : decode cX5_surface 157 = .ok (.iadd, 1) := by decide +kernel
theorem dX5_surface_158 : decode cX5_surface 158 = .ok (.istore 8, 2) := by decide +kernel
theorem dX5_surface_160 : decode cX5_surface 160 = .ok (.iinc 9 1, 3) := by decide +kernel
theorem dX5_surface_163 : decode cX5_surface 163 = .ok (.goto (-104), 3) := by decide +kernel
theorem dX5_surface_166 : decode cX5_surface 166 = .ok (.iload 4, 2) := by decide +kernel
theorem dX5_surface_168 : decode cX5_surface 168 = .ok (.iload 4, 2) := by decide +kernel
theorem dX5_surface_170 : decode cX5_surface 170 = .ok (.imul, 1) := by decide +kernel
theorem dX5_surface_171 : decode cX5_surface 171 = .ok (.iload 5, 2) := by decide +kernel
theorem dX5_surface_173 : decode cX5_surface 173 = .ok (.iload 6, 2) := by decide +kernel
theorem dX5_surface_175 : decode cX5_surface 175 = .ok (.iadd, 1) := by decide +kernel
theorem dX5_surface_176 : decode cX5_surface 176 = .ok (.iload 7, 2) := by decide +kernel
theorem dX5_surface_178 : decode cX5_surface 178 = .ok (.iload 8, 2) := by decide +kernel
theorem dX5_surface_180 : decode cX5_surface 180 = .ok (.iadd, 1) := by decide +kernel
theorem dX5_surface_181 : decode cX5_surface 181 = .ok (.imul, 1) := by decide +kernel
theorem dX5_surface_182 : decode cX5_surface 182 = .ok (.isub, 1) := by decide +kernel
theorem dX5_surface_183 : decode cX5_surface 183 = .ok (.istore 9, 2) := by decide +kernel
theorem dX5_surface_185 : decode cX5_surface 185 = .ok (.iload 9, 2) := by decide +kernel
theorem dX5_surface_187 : decode cX5_surface 187 = .ok (.iconst 2, 1) := by decide +kernel
theorem dX5_surface_188 : decode cX5_surface 188 = .ok (.iload 5, 2) := by decide +kernel
theorem dX5_surface_190 : decode cX5_surface 190 = .ok (.iload 7, 2) := by decide +kernel
theorem dX5_surface_192 : decode cX5_surface 192 = .ok (.imul, 1) := by decide +kernel
theorem dX5_surface_193 : decode cX5_surface 193 = .ok (.iload 6, 2) := by decide +kernel
theorem dX5_surface_195 : decode cX5_surface 195 = .ok (.iload 8, 2) := by decide +kernel
theorem dX5_surface_197 : decode cX5_surface 197 = .ok (.imul, 1) := by decide +kernel
theorem dX5_surface_198 : decode cX5_surface 198 = .ok (.iadd, 1) := by decide +kernel
theorem dX5_surface_199 : decode cX5_surface 199 = .ok (.imul, 1) := by decide +kernel
theorem dX5_surface_200 : decode cX5_surface 200 = .ok (.iadd, 1) := by decide +kernel
theorem dX5_surface_201 : decode cX5_surface 201 = .ok (.ireturn, 1) := by decide +kernel
theorem dX5_best_0 : decode cX5_best 0 = .ok (.aload_n 0, 1) := by decide +kernel
theorem dX5_best_1 : decode cX5_best 1 = .ok (.iconst 0, 1) := by decide +kernel
theorem dX5_best_2 : decode cX5_best 2 = .ok (.putfield 67, 3) := by decide +kernel
theorem dX5_best_5 : decode cX5_best 5 = .ok (.iload_n 1, 1) := by decide +kernel
theorem dX5_best_6 : decode cX5_best 6 = .ok (.i2l, 1) := by decide +kernel
theorem dX5_best_7 : decode cX5_best 7 = .ok (.ldc2_w 202, 3) := by decide +kernel
theorem dX5_best_10 : decode cX5_best 10 = .ok (.ldc2_w 204, 3) := by decide +kernel
theorem dX5_best_13 : decode cX5_best 13 = .ok (.invokestatic 127, 3) := by decide +kernel
theorem dX5_best_16 : decode cX5_best 16 = .ok (.ifCond .eq 27, 3) := by decide +kernel
theorem dX5_best_19 : decode cX5_best 19 = .ok (.iload_n 2, 1) := by decide +kernel
theorem dX5_best_20 : decode cX5_best 20 = .ok (.i2l, 1) := by decide +kernel
theorem dX5_best_21 : decode cX5_best 21 = .ok (.lconst 0, 1) := by decide +kernel
theorem dX5_best_22 : decode cX5_best 22 = .ok (.ldc2_w 206, 3) := by decide +kernel
theorem dX5_best_25 : decode cX5_best 25 = .ok (.invokestatic 127, 3) := by decide +kernel
theorem dX5_best_28 : decode cX5_best 28 = .ok (.ifCond .eq 15, 3) := by decide +kernel
theorem dX5_best_31 : decode cX5_best 31 = .ok (.iload_n 3, 1) := by decide +kernel
theorem dX5_best_32 : decode cX5_best 32 = .ok (.i2l, 1) := by decide +kernel
theorem dX5_best_33 : decode cX5_best 33 = .ok (.lconst 1, 1) := by decide +kernel
theorem dX5_best_34 : decode cX5_best 34 = .ok (.ldc2_w 208, 3) := by decide +kernel
theorem dX5_best_37 : decode cX5_best 37 = .ok (.invokestatic 127, 3) := by decide +kernel
theorem dX5_best_40 : decode cX5_best 40 = .ok (.ifCond .ne 5, 3) := by decide +kernel
theorem dX5_best_43 : decode cX5_best 43 = .ok (.iconst (-1), 1) := by decide +kernel
theorem dX5_best_44 : decode cX5_best 44 = .ok (.ireturn, 1) := by decide +kernel
theorem dX5_best_45 : decode cX5_best 45 = .ok (.bipush (-9), 2) := by decide +kernel
theorem dX5_best_47 : decode cX5_best 47 = .ok (.istore 4, 2) := by decide +kernel
theorem dX5_best_49 : decode cX5_best 49 = .ok (.iconst (-1), 1) := by decide +kernel
theorem dX5_best_50 : decode cX5_best 50 = .ok (.istore 5, 2) := by decide +kernel
theorem dX5_best_52 : decode cX5_best 52 = .ok (.iload_n 2, 1) := by decide +kernel
theorem dX5_best_53 : decode cX5_best 53 = .ok (.istore 6, 2) := by decide +kernel
theorem dX5_best_55 : decode cX5_best 55 = .ok (.iload 6, 2) := by decide +kernel
theorem dX5_best_57 : decode cX5_best 57 = .ok (.iload_n 2, 1) := by decide +kernel
theorem dX5_best_58 : decode cX5_best 58 = .ok (.iload_n 3, 1) := by decide +kernel
theorem dX5_best_59 : decode cX5_best 59 = .ok (.iadd, 1) := by decide +kernel
theorem dX5_best_60 : decode cX5_best 60 = .ok (.if_icmp .ge 166, 3) := by decide +kernel
theorem dX5_best_63 : decode cX5_best 63 = .ok (.aload_n 0, 1) := by decide +kernel
theorem dX5_best_64 : decode cX5_best 64 = .ok (.iload 6, 2) := by decide +kernel
theorem dX5_best_66 : decode cX5_best 66 = .ok (.iload_n 1, 1) := by decide +kernel
theorem dX5_best_67 : decode cX5_best 67 = .ok (.invokevirtual 149, 3) := by decide +kernel
theorem dX5_best_70 : decode cX5_best 70 = .ok (.ifCond .eq 150, 3) := by decide +kernel
theorem dX5_best_73 : decode cX5_best 73 = .ok (.aload_n 0, 1) := by decide +kernel
theorem dX5_best_74 : decode cX5_best 74 = .ok (.iload 6, 2) := by decide +kernel
theorem dX5_best_76 : decode cX5_best 76 = .ok (.invokevirtual 161, 3) := by decide +kernel
theorem dX5_best_79 : decode cX5_best 79 = .ok (.ifCond .ne 141, 3) := by decide +kernel
theorem dX5_best_82 : decode cX5_best 82 = .ok (.aload_n 0, 1) := by decide +kernel
theorem dX5_best_83 : decode cX5_best 83 = .ok (.iconst 1, 1) := by decide +kernel
theorem dX5_best_84 : decode cX5_best 84 = .ok (.invokevirtual 114, 3) := by decide +kernel
theorem dX5_best_87 : decode cX5_best 87 = .ok (.aload_n 0, 1) := by decide +kernel
theorem dX5_best_88 : decode cX5_best 88 = .ok (.bipush 10, 2) := by decide +kernel
theorem dX5_best_90 : decode cX5_best 90 = .ok (.iload 6, 2) := by decide +kernel
theorem dX5_best_92 : decode cX5_best 92 = .ok (.invokevirtual 87, 3) := by decide +kernel
theorem dX5_best_95 : decode cX5_best 95 = .ok (.iload_n 1, 1) := by decide +kernel
theorem dX5_best_96 : decode cX5_best 96 = .ok (.iconst 2, 1) := by decide +kernel
theorem dX5_best_97 : decode cX5_best 97 = .ok (.irem, 1) := by decide +kernel
theorem dX5_best_98 : decode cX5_best 98 = .ok (.iconst 1, 1) := by decide +kernel
theorem dX5_best_99 : decode cX5_best 99 = .ok (.if_icmp .ne 7, 3) := by decide +kernel
theorem dX5_best_102 : decode cX5_best 102 = .ok (.iconst 1, 1) := by decide +kernel
theorem dX5_best_103 : decode cX5_best 103 = .ok (.goto 27, 3) := by decide +kernel
theorem dX5_best_106 : decode cX5_best 106 = .ok (.aload_n 0, 1) := by decide +kernel
theorem dX5_best_107 : decode cX5_best 107 = .ok (.getfield 41, 3) := by decide +kernel
theorem dX5_best_110 : decode cX5_best 110 = .ok (.aload_n 0, 1) := by decide +kernel
theorem dX5_best_111 : decode cX5_best 111 = .ok (.getfield 38, 3) := by decide +kernel
theorem dX5_best_114 : decode cX5_best 114 = .ok (.sipush 160, 3) := by decide +kernel
theorem dX5_best_117 : decode cX5_best 117 = .ok (.iload_n 1, 1) := by decide +kernel
theorem dX5_best_118 : decode cX5_best 118 = .ok (.iadd, 1) := by decide +kernel
theorem dX5_best_119 : decode cX5_best 119 = .ok (.iaload, 1) := by decide +kernel
theorem dX5_best_120 : decode cX5_best 120 = .ok (.iaload, 1) := by decide +kernel
theorem dX5_best_121 : decode cX5_best 121 = .ok (.iconst 1, 1) := by decide +kernel
theorem dX5_best_122 : decode cX5_best 122 = .ok (.if_icmp .ne 7, 3) := by decide +kernel
theorem dX5_best_125 : decode cX5_best 125 = .ok (.iconst 2, 1) := by decide +kernel
theorem dX5_best_126 : decode cX5_best 126 = .ok (.goto 4, 3) := by decide +kernel
theorem dX5_best_129 : decode cX5_best 129 = .ok (.iconst 0, 1) := by decide +kernel
theorem dX5_best_130 : decode cX5_best 130 = .ok (.istore 7, 2) := by decide +kernel
theorem dX5_best_132 : decode cX5_best 132 = .ok (.iconst 0, 1) := by decide +kernel
theorem dX5_best_133 : decode cX5_best 133 = .ok (.istore 8, 2) := by decide +kernel
theorem dX5_best_135 : decode cX5_best 135 = .ok (.iload 8, 2) := by decide +kernel
theorem dX5_best_137 : decode cX5_best 137 = .ok (.aload_n 0, 1) := by decide +kernel
theorem dX5_best_138 : decode cX5_best 138 = .ok (.getfield 7, 3) := by decide +kernel
theorem dX5_best_141 : decode cX5_best 141 = .ok (.if_icmp .ge 64, 3) := by decide +kernel
theorem dX5_best_144 : decode cX5_best 144 = .ok (.iconst 0, 1) := by decide +kernel
theorem dX5_best_145 : decode cX5_best 145 = .ok (.istore 9, 2) := by decide +kernel
theorem dX5_best_147 : decode cX5_best 147 = .ok (.iload_n 1, 1) := by decide +kernel
theorem dX5_best_148 : decode cX5_best 148 = .ok (.istore 10, 2) := by decide +kernel
theorem dX5_best_150 : decode cX5_best 150 = .ok (.iload 10, 2) := by decide +kernel
theorem dX5_best_152 : decode cX5_best 152 = .ok (.ifCond .lt 33, 3) := by decide +kernel
theorem dX5_best_155 : decode cX5_best 155 = .ok (.iload 9, 2) := by decide +kernel
theorem dX5_best_157 : decode cX5_best 157 = .ok (.iload 8, 2) := by decide +kernel
theorem dX5_best_159 : decode cX5_best 159 = .ok (.imul, 1) := by decide +kernel
theorem dX5_best_160 : decode cX5_best 160 = .ok (.aload_n 0, 1) := by decide +kernel
theorem dX5_best_161 : decode cX5_best 161 = .ok (.getfield 38, 3) := by decide +kernel
theorem dX5_best_164 : decode cX5_best 164 = .ok (.sipush 160, 3) := by decide +kernel
theorem dX5_best_167 : decode cX5_best 167 = .ok (.iload 10, 2) := by decide +kernel
theorem dX5_best_169 : decode cX5_best 169 = .ok (.iadd, 1) := by decide +kernel
theorem dX5_best_170 : decode cX5_best 170 = .ok (.iaload, 1) := by decide +kernel
theorem dX5_best_171 : decode cX5_best 171 = .ok (.iadd, 1) := by decide +kernel
theorem dX5_best_172 : decode cX5_best 172 = .ok (.aload_n 0, 1) := by decide +kernel
theorem dX5_best_173 : decode cX5_best 173 = .ok (.getfield 7, 3) := by decide +kernel
theorem dX5_best_176 : decode cX5_best 176 = .ok (.irem, 1) := by decide +kernel
theorem dX5_best_177 : decode cX5_best 177 = .ok (.istore 9, 2) := by decide +kernel
theorem dX5_best_179 : decode cX5_best 179 = .ok (.iinc 10 (-1), 3) := by decide +kernel
theorem dX5_best_182 : decode cX5_best 182 = .ok (.goto (-32), 3) := by decide +kernel
theorem dX5_best_185 : decode cX5_best 185 = .ok (.iload 7, 2) := by decide +kernel
theorem dX5_best_187 : decode cX5_best 187 = .ok (.iconst 1, 1) := by decide +kernel
theorem dX5_best_188 : decode cX5_best 188 = .ok (.aload_n 0, 1) := by decide +kernel
theorem dX5_best_189 : decode cX5_best 189 = .ok (.getfield 41, 3) := by decide +kernel
theorem dX5_best_192 : decode cX5_best 192 = .ok (.iload 9, 2) := by decide +kernel
theorem dX5_best_194 : decode cX5_best 194 = .ok (.iaload, 1) := by decide +kernel
theorem dX5_best_195 : decode cX5_best 195 = .ok (.iadd, 1) := by decide +kernel
theorem dX5_best_196 : decode cX5_best 196 = .ok (.iadd, 1) := by decide +kernel
theorem dX5_best_197 : decode cX5_best 197 = .ok (.istore 7, 2) := by decide +kernel
theorem dX5_best_199 : decode cX5_best 199 = .ok (.iinc 8 1, 3) := by decide +kernel
theorem dX5_best_202 : decode cX5_best 202 = .ok (.goto (-67), 3) := by decide +kernel
theorem dX5_best_205 : decode cX5_best 205 = .ok (.iload 7, 2) := by decide +kernel
theorem dX5_best_207 : decode cX5_best 207 = .ok (.iload 5, 2) := by decide +kernel
theorem dX5_best_209 : decode cX5_best 209 = .ok (.if_icmp .le 11, 3) := by decide +kernel
theorem dX5_best_212 : decode cX5_best 212 = .ok (.iload 7, 2) := by decide +kernel
theorem dX5_best_214 : decode cX5_best 214 = .ok (.istore 5, 2) := by decide +kernel
theorem dX5_best_216 : decode cX5_best 216 = .ok (.iload 6, 2) := by decide +kernel
theorem dX5_best_218 : decode cX5_best 218 = .ok (.istore 4, 2) := by decide +kernel
theorem dX5_best_220 : decode cX5_best 220 = .ok (.iinc 6 1, 3) := by decide +kernel
theorem dX5_best_223 : decode cX5_best 223 = .ok (.goto (-168), 3) := by decide +kernel
theorem dX5_best_226 : decode cX5_best 226 = .ok (.iload 4, 2) := by decide +kernel
theorem dX5_best_228 : decode cX5_best 228 = .ok (.ireturn, 1) := by decide +kernel
theorem dX5_hasClasses_0 : decode cX5_hasClasses 0 = .ok (.aload_n 0, 1) := by decide +kernel
theorem dX5_hasClasses_1 : decode cX5_hasClasses 1 = .ok (.iload_n 1, 1) := by decide +kernel
theorem dX5_hasClasses_2 : decode cX5_hasClasses 2 = .ok (.invokevirtual 164, 3) := by decide +kernel
theorem dX5_hasClasses_5 : decode cX5_hasClasses 5 = .ok (.ifCond .eq 18, 3) := by decide +kernel
theorem dX5_hasClasses_8 : decode cX5_hasClasses 8 = .ok (.aload_n 0, 1) := by decide +kernel
theorem dX5_hasClasses_9 : decode cX5_hasClasses 9 = .ok (.iload_n 1, 1) := by decide +kernel
theorem dX5_hasClasses_10 : decode cX5_hasClasses 10 = .ok (.invokevirtual 146, 3) := by decide +kernel
theorem dX5_hasClasses_13 : decode cX5_hasClasses 13 = .ok (.iconst 2, 1) := by decide +kernel
theorem dX5_hasClasses_14 : decode cX5_hasClasses 14 = .ok (.irem, 1) := by decide +kernel
theorem dX5_hasClasses_15 : decode cX5_hasClasses 15 = .ok (.iconst 1, 1) := by decide +kernel
theorem dX5_hasClasses_16 : decode cX5_hasClasses 16 = .ok (.if_icmp .ne 7, 3) := by decide +kernel
theorem dX5_hasClasses_19 : decode cX5_hasClasses 19 = .ok (.iconst 1, 1) := by decide +kernel
theorem dX5_hasClasses_20 : decode cX5_hasClasses 20 = .ok (.goto 4, 3) := by decide +kernel
theorem dX5_hasClasses_23 : decode cX5_hasClasses 23 = .ok (.iconst 0, 1) := by decide +kernel
theorem dX5_hasClasses_24 : decode cX5_hasClasses 24 = .ok (.ireturn, 1) := by decide +kernel
theorem dX5_goesIn_0 : decode cX5_goesIn 0 = .ok (.aload_n 0, 1) := by decide +kernel
theorem dX5_goesIn_1 : decode cX5_goesIn 1 = .ok (.bipush 20, 2) := by decide +kernel
theorem dX5_goesIn_3 : decode cX5_goesIn 3 = .ok (.iload_n 2, 1) := by decide +kernel
theorem dX5_goesIn_4 : decode cX5_goesIn 4 = .ok (.invokevirtual 87, 3) := by decide +kernel
theorem dX5_goesIn_7 : decode cX5_goesIn 7 = .ok (.aload_n 0, 1) := by decide +kernel
theorem dX5_goesIn_8 : decode cX5_goesIn 8 = .ok (.bipush 21, 2) := by decide +kernel
theorem dX5_goesIn_10 : decode cX5_goesIn 10 = .ok (.iload_n 3, 1) := by decide +kernel
theorem dX5_goesIn_11 : decode cX5_goesIn 11 = .ok (.invokevirtual 87, 3) := by decide +kernel
theorem dX5_goesIn_14 : decode cX5_goesIn 14 = .ok (.aload_n 0, 1) := by decide +kernel
theorem dX5_goesIn_15 : decode cX5_goesIn 15 = .ok (.bipush 22, 2) := by decide +kernel
theorem dX5_goesIn_17 : decode cX5_goesIn 17 = .ok (.bipush 21, 2) := by decide +kernel
theorem dX5_goesIn_19 : decode cX5_goesIn 19 = .ok (.bipush 21, 2) := by decide +kernel
theorem dX5_goesIn_21 : decode cX5_goesIn 21 = .ok (.invokevirtual 94, 3) := by decide +kernel
theorem dX5_goesIn_24 : decode cX5_goesIn 24 = .ok (.aload_n 0, 1) := by decide +kernel
theorem dX5_goesIn_25 : decode cX5_goesIn 25 = .ok (.bipush 23, 2) := by decide +kernel
theorem dX5_goesIn_27 : decode cX5_goesIn 27 = .ok (.iload_n 1, 1) := by decide +kernel
theorem dX5_goesIn_28 : decode cX5_goesIn 28 = .ok (.invokevirtual 172, 3) := by decide +kernel
theorem dX5_goesIn_31 : decode cX5_goesIn 31 = .ok (.aload_n 0, 1) := by decide +kernel
theorem dX5_goesIn_32 : decode cX5_goesIn 32 = .ok (.bipush 24, 2) := by decide +kernel
theorem dX5_goesIn_34 : decode cX5_goesIn 34 = .ok (.bipush 23, 2) := by decide +kernel
theorem dX5_goesIn_36 : decode cX5_goesIn 36 = .ok (.bipush 22, 2) := by decide +kernel
theorem dX5_goesIn_38 : decode cX5_goesIn 38 = .ok (.aload_n 0, 1) := by decide +kernel
theorem dX5_goesIn_39 : decode cX5_goesIn 39 = .ok (.getfield 7, 3) := by decide +kernel
theorem dX5_goesIn_42 : decode cX5_goesIn 42 = .ok (.iconst 1, 1) := by decide +kernel
theorem dX5_goesIn_43 : decode cX5_goesIn 43 = .ok (.isub, 1) := by decide +kernel
theorem dX5_goesIn_44 : decode cX5_goesIn 44 = .ok (.invokevirtual 98, 3) := by decide +kernel
theorem dX5_goesIn_47 : decode cX5_goesIn 47 = .ok (.aload_n 0, 1) := by decide +kernel
theorem dX5_goesIn_48 : decode cX5_goesIn 48 = .ok (.bipush 25, 2) := by decide +kernel
theorem dX5_goesIn_50 : decode cX5_goesIn 50 = .ok (.bipush 26, 2) := by decide +kernel
theorem dX5_goesIn_52 : decode cX5_goesIn 52 = .ok (.bipush 24, 2) := by decide +kernel
theorem dX5_goesIn_54 : decode cX5_goesIn 54 = .ok (.bipush 20, 2) := by decide +kernel
theorem dX5_goesIn_56 : decode cX5_goesIn 56 = .ok (.invokevirtual 90, 3) := by decide +kernel
theorem dX5_goesIn_59 : decode cX5_goesIn 59 = .ok (.aload_n 0, 1) := by decide +kernel
theorem dX5_goesIn_60 : decode cX5_goesIn 60 = .ok (.bipush 26, 2) := by decide +kernel
theorem dX5_goesIn_62 : decode cX5_goesIn 62 = .ok (.invokevirtual 77, 3) := by decide +kernel
theorem dX5_goesIn_65 : decode cX5_goesIn 65 = .ok (.ifCond .ge 7, 3) := by decide +kernel
theorem dX5_goesIn_68 : decode cX5_goesIn 68 = .ok (.iconst 1, 1) := by decide +kernel
theorem dX5_goesIn_69 : decode cX5_goesIn 69 = .ok (.goto 4, 3) := by decide +kernel
theorem dX5_goesIn_72 : decode cX5_goesIn 72 = .ok (.iconst 0, 1) := by decide +kernel
theorem dX5_goesIn_73 : decode cX5_goesIn 73 = .ok (.ireturn, 1) := by decide +kernel
theorem dX5_isClassOf_0 : decode cX5_isClassOf 0 = .ok (.iconst 1, 1) := by decide +kernel
theorem dX5_isClassOf_1 : decode cX5_isClassOf 1 = .ok (.istore 4, 2) := by decide +kernel
theorem dX5_isClassOf_3 : decode cX5_isClassOf 3 = .ok (.iconst 0, 1) := by decide +kernel
theorem dX5_isClassOf_4 : decode cX5_isClassOf 4 = .ok (.istore 5, 2) := by decide +kernel
theorem dX5_isClassOf_6 : decode cX5_isClassOf 6 = .ok (.iload 5, 2) := by decide +kernel
theorem dX5_isClassOf_8 : decode cX5_isClassOf 8 = .ok (.aload_n 0, 1) := by decide +kernel
theorem dX5_isClassOf_9 : decode cX5_isClassOf 9 = .ok (.iload_n 1, 1) := by decide +kernel
theorem dX5_isClassOf_10 : decode cX5_isClassOf 10 = .ok (.invokevirtual 169, 3) := by decide +kernel
theorem dX5_isClassOf_13 : decode cX5_isClassOf 13 = .ok (.if_icmp .gt 54, 3) := by decide +kernel
theorem dX5_isClassOf_16 : decode cX5_isClassOf 16 = .ok (.iload_n 2, 1) := by decide +kernel
theorem dX5_isClassOf_17 : decode cX5_isClassOf 17 = .ok (.iload 4, 2) := by decide +kernel
theorem dX5_isClassOf_19 : decode cX5_isClassOf 19 = .ok (.if_icmp .lt 33, 3) := by decide +kernel
theorem dX5_isClassOf_22 : decode cX5_isClassOf 22 = .ok (.iload_n 2, 1) := by decide +kernel
theorem dX5_isClassOf_23 : decode cX5_isClassOf 23 = .ok (.iconst 2, 1) := by decide +kernel
theorem dX5_isClassOf_24 : decode cX5_isClassOf 24 = .ok (.iload 4, 2) := by decide +kernel
theorem dX5_isClassOf_26 : decode cX5_isClassOf 26 = .ok (.imul, 1) := by decide +kernel
theorem dX5_isClassOf_27 : decode cX5_isClassOf 27 = .ok (.if_icmp .ge 25, 3) := by decide +kernel
theorem dX5_isClassOf_30 : decode cX5_isClassOf 30 = .ok (.iload_n 3, 1) := by decide +kernel
theorem dX5_isClassOf_31 : decode cX5_isClassOf 31 = .ok (.iload 4, 2) := by decide +kernel
theorem dX5_isClassOf_33 : decode cX5_isClassOf 33 = .ok (.if_icmp .ge 17, 3) := by decide +kernel
theorem dX5_isClassOf_36 : decode cX5_isClassOf 36 = .ok (.aload_n 0, 1) := by decide +kernel
theorem dX5_isClassOf_37 : decode cX5_isClassOf 37 = .ok (.iload_n 1, 1) := by decide +kernel
theorem dX5_isClassOf_38 : decode cX5_isClassOf 38 = .ok (.iload_n 2, 1) := by decide +kernel
theorem dX5_isClassOf_39 : decode cX5_isClassOf 39 = .ok (.iload_n 3, 1) := by decide +kernel
theorem dX5_isClassOf_40 : decode cX5_isClassOf 40 = .ok (.invokevirtual 210, 3) := by decide +kernel
theorem dX5_isClassOf_43 : decode cX5_isClassOf 43 = .ok (.ifCond .eq 7, 3) := by decide +kernel
theorem dX5_isClassOf_46 : decode cX5_isClassOf 46 = .ok (.iconst 1, 1) := by decide +kernel
theorem dX5_isClassOf_47 : decode cX5_isClassOf 47 = .ok (.goto 4, 3) := by decide +kernel
theorem dX5_isClassOf_50 : decode cX5_isClassOf 50 = .ok (.iconst 0, 1) := by decide +kernel
theorem dX5_isClassOf_51 : decode cX5_isClassOf 51 = .ok (.ireturn, 1) := by decide +kernel
theorem dX5_isClassOf_52 : decode cX5_isClassOf 52 = .ok (.iload 4, 2) := by decide +kernel
theorem dX5_isClassOf_54 : decode cX5_isClassOf 54 = .ok (.aload_n 0, 1) := by decide +kernel
theorem dX5_isClassOf_55 : decode cX5_isClassOf 55 = .ok (.getfield 7, 3) := by decide +kernel
theorem dX5_isClassOf_58 : decode cX5_isClassOf 58 = .ok (.imul, 1) := by decide +kernel
theorem dX5_isClassOf_59 : decode cX5_isClassOf 59 = .ok (.istore 4, 2) := by decide +kernel
theorem dX5_isClassOf_61 : decode cX5_isClassOf 61 = .ok (.iinc 5 1, 3) := by decide +kernel
theorem dX5_isClassOf_64 : decode cX5_isClassOf 64 = .ok (.goto (-58), 3) := by decide +kernel
theorem dX5_isClassOf_67 : decode cX5_isClassOf 67 = .ok (.iconst 0, 1) := by decide +kernel
theorem dX5_isClassOf_68 : decode cX5_isClassOf 68 = .ok (.ireturn, 1) := by decide +kernel
theorem dX5_needClasses_0 : decode cX5_needClasses 0 = .ok (.aload_n 0, 1) := by decide +kernel
theorem dX5_needClasses_1 : decode cX5_needClasses 1 = .ok (.getfield 44, 3) := by decide +kernel
theorem dX5_needClasses_4 : decode cX5_needClasses 4 = .ok (.iload_n 1, 1) := by decide +kernel
theorem dX5_needClasses_5 : decode cX5_needClasses 5 = .ok (.if_icmp .ne 4, 3) := by decide +kernel
theorem dX5_needClasses_8 : decode cX5_needClasses 8 = .ok (.return_, 1) := by decide +kernel
theorem dX5_needClasses_9 : decode cX5_needClasses 9 = .ok (.aload_n 0, 1) := by decide +kernel
theorem dX5_needClasses_10 : decode cX5_needClasses 10 = .ok (.iload_n 1, 1) := by decide +kernel
theorem dX5_needClasses_11 : decode cX5_needClasses 11 = .ok (.putfield 44, 3) := by decide +kernel
theorem dX5_needClasses_14 : decode cX5_needClasses 14 = .ok (.aload_n 0, 1) := by decide +kernel
theorem dX5_needClasses_15 : decode cX5_needClasses 15 = .ok (.iconst 0, 1) := by decide +kernel
theorem dX5_needClasses_16 : decode cX5_needClasses 16 = .ok (.putfield 214, 3) := by decide +kernel
theorem dX5_needClasses_19 : decode cX5_needClasses 19 = .ok (.iconst 1, 1) := by decide +kernel
theorem dX5_needClasses_20 : decode cX5_needClasses 20 = .ok (.istore_n 2, 1) := by decide +kernel
theorem dX5_needClasses_21 : decode cX5_needClasses 21 = .ok (.iconst 0, 1) := by decide +kernel
theorem dX5_needClasses_22 : decode cX5_needClasses 22 = .ok (.istore_n 3, 1) := by decide +kernel
theorem dX5_needClasses_23 : decode cX5_needClasses 23 = .ok (.iload_n 3, 1) := by decide +kernel
theorem dX5_needClasses_24 : decode cX5_needClasses 24 = .ok (.aload_n 0, 1) := by decide +kernel
theorem dX5_needClasses_25 : decode cX5_needClasses 25 = .ok (.iload_n 1, 1) := by decide +kernel
theorem dX5_needClasses_26 : decode cX5_needClasses 26 = .ok (.invokevirtual 169, 3) := by decide +kernel
theorem dX5_needClasses_29 : decode cX5_needClasses 29 = .ok (.if_icmp .gt 129, 3) := by decide +kernel
theorem dX5_needClasses_32 : decode cX5_needClasses 32 = .ok (.iload_n 2, 1) := by decide +kernel
theorem dX5_needClasses_33 : decode cX5_needClasses 33 = .ok (.istore 4, 2) := by decide +kernel
theorem dX5_needClasses_35 : decode cX5_needClasses 35 = .ok (.iload 4, 2) := by decide +kernel
theorem dX5_needClasses_37 : decode cX5_needClasses 37 = .ok (.iconst 2, 1) := by decide +kernel
theorem dX5_needClasses_38 : decode cX5_needClasses 38 = .ok (.iload_n 2, 1) := by decide +kernel
theorem dX5_needClasses_39 : decode cX5_needClasses 39 = .ok (.imul, 1) := by decide +kernel
theorem dX5_needClasses_40 : decode cX5_needClasses 40 = .ok (.if_icmp .ge 105, 3) := by decide +kernel
theorem dX5_needClasses_43 : decode cX5_needClasses 43 = .ok (.aload_n 0, 1) := by decide +kernel
theorem dX5_needClasses_44 : decode cX5_needClasses 44 = .ok (.bipush 20, 2) := by decide +kernel
theorem dX5_needClasses_46 : decode cX5_needClasses 46 = .ok (.iload 4, 2) := by decide +kernel
theorem dX5_needClasses_48 : decode cX5_needClasses 48 = .ok (.invokevirtual 87, 3) := by decide +kernel
theorem dX5_needClasses_51 : decode cX5_needClasses 51 = .ok (.aload_n 0, 1) := by decide +kernel
theorem dX5_needClasses_52 : decode cX5_needClasses 52 = .ok (.bipush 23, 2) := by decide +kernel
theorem dX5_needClasses_54 : decode cX5_needClasses 54 = .ok (.iload_n 1, 1) := by decide +kernel
theorem dX5_needClasses_55 : decode cX5_needClasses 55 = .ok (.invokevirtual 172, 3) := by decide +kernel
theorem dX5_needClasses_58 : decode cX5_needClasses 58 = .ok (.aload_n 0, 1) := by decide +kernel
theorem dX5_needClasses_59 : decode cX5_needClasses 59 = .ok (.bipush 25, 2) := by decide +kernel
theorem dX5_needClasses_61 : decode cX5_needClasses 61 = .ok (.bipush 26, 2) := by decide +kernel
theorem dX5_needClasses_63 : decode cX5_needClasses 63 = .ok (.bipush 23, 2) := by decide +kernel
theorem dX5_needClasses_65 : decode cX5_needClasses 65 = .ok (.bipush 20, 2) := by decide +kernel
theorem dX5_needClasses_67 : decode cX5_needClasses 67 = .ok (.invokevirtual 90, 3) := by decide +kernel
theorem dX5_needClasses_70 : decode cX5_needClasses 70 = .ok (.iconst 0, 1) := by decide +kernel
theorem dX5_needClasses_71 : decode cX5_needClasses 71 = .ok (.istore 5, 2) := by decide +kernel
theorem dX5_needClasses_73 : decode cX5_needClasses 73 = .ok (.iload 5, 2) := by decide +kernel
theorem dX5_needClasses_75 : decode cX5_needClasses 75 = .ok (.iload_n 2, 1) := by decide +kernel
theorem dX5_needClasses_76 : decode cX5_needClasses 76 = .ok (.if_icmp .ge 63, 3) := by decide +kernel
theorem dX5_needClasses_79 : decode cX5_needClasses 79 = .ok (.aload_n 0, 1) := by decide +kernel
theorem dX5_needClasses_80 : decode cX5_needClasses 80 = .ok (.iload 5, 2) := by decide +kernel
theorem dX5_needClasses_82 : decode cX5_needClasses 82 = .ok (.aload_n 0, 1) := by decide +kernel
theorem dX5_needClasses_83 : decode cX5_needClasses 83 = .ok (.getfield 7, 3) := by decide +kernel
theorem dX5_needClasses_86 : decode cX5_needClasses 86 = .ok (.irem, 1) := by decide +kernel
theorem dX5_needClasses_87 : decode cX5_needClasses 87 = .ok (.iload 5, 2) := by decide +kernel
theorem dX5_needClasses_89 : decode cX5_needClasses 89 = .ok (.aload_n 0, 1) := by decide +kernel
theorem dX5_needClasses_90 : decode cX5_needClasses 90 = .ok (.getfield 7, 3) := by decide +kernel
theorem dX5_needClasses_93 : decode cX5_needClasses 93 = .ok (.idiv, 1) := by decide +kernel
theorem dX5_needClasses_94 : decode cX5_needClasses 94 = .ok (.iload_n 3, 1) := by decide +kernel
theorem dX5_needClasses_95 : decode cX5_needClasses 95 = .ok (.invokevirtual 217, 3) := by decide +kernel
theorem dX5_needClasses_98 : decode cX5_needClasses 98 = .ok (.ifCond .eq 35, 3) := by decide +kernel
theorem dX5_needClasses_101 : decode cX5_needClasses 101 = .ok (.aload_n 0, 1) := by decide +kernel
theorem dX5_needClasses_102 : decode cX5_needClasses 102 = .ok (.getfield 47, 3) := by decide +kernel
theorem dX5_needClasses_105 : decode cX5_needClasses 105 = .ok (.aload_n 0, 1) := by decide +kernel
theorem dX5_needClasses_106 : decode cX5_needClasses 106 = .ok (.getfield 214, 3) := by decide +kernel
theorem dX5_needClasses_109 : decode cX5_needClasses 109 = .ok (.iload 4, 2) := by decide +kernel
theorem dX5_needClasses_111 : decode cX5_needClasses 111 = .ok (.iastore, 1) := by decide +kernel
theorem dX5_needClasses_112 : decode cX5_needClasses 112 = .ok (.aload_n 0, 1) := by decide +kernel
theorem dX5_needClasses_113 : decode cX5_needClasses 113 = .ok (.getfield 50, 3) := by decide +kernel
theorem dX5_needClasses_116 : decode cX5_needClasses 116 = .ok (.aload_n 0, 1) := by decide +kernel
theorem dX5_needClasses_117 : decode cX5_needClasses 117 = .ok (.getfield 214, 3) := by decide +kernel
theorem dX5_needClasses_120 : decode cX5_needClasses 120 = .ok (.iload 5, 2) := by decide +kernel
theorem dX5_needClasses_122 : decode cX5_needClasses 122 = .ok (.iastore, 1) := by decide +kernel
theorem dX5_needClasses_123 : decode cX5_needClasses 123 = .ok (.aload_n 0, 1) := by decide +kernel
theorem dX5_needClasses_124 : decode cX5_needClasses 124 = .ok (.dup, 1) := by decide +kernel
theorem dX5_needClasses_125 : decode cX5_needClasses 125 = .ok (.getfield 214, 3) := by decide +kernel
theorem dX5_needClasses_128 : decode cX5_needClasses 128 = .ok (.iconst 1, 1) := by decide +kernel
theorem dX5_needClasses_129 : decode cX5_needClasses 129 = .ok (.iadd, 1) := by decide +kernel
theorem dX5_needClasses_130 : decode cX5_needClasses 130 = .ok (.putfield 214, 3) := by decide +kernel
theorem dX5_needClasses_133 : decode cX5_needClasses 133 = .ok (.iinc 5 1, 3) := by decide +kernel
theorem dX5_needClasses_136 : decode cX5_needClasses 136 = .ok (.goto (-63), 3) := by decide +kernel
theorem dX5_needClasses_139 : decode cX5_needClasses 139 = .ok (.iinc 4 1, 3) := by decide +kernel
theorem dX5_needClasses_142 : decode cX5_needClasses 142 = .ok (.goto (-107), 3) := by decide +kernel
theorem dX5_needClasses_145 : decode cX5_needClasses 145 = .ok (.iload_n 2, 1) := by decide +kernel
theorem dX5_needClasses_146 : decode cX5_needClasses 146 = .ok (.aload_n 0, 1) := by decide +kernel
theorem dX5_needClasses_147 : decode cX5_needClasses 147 = .ok (.getfield 7, 3) := by decide +kernel
theorem dX5_needClasses_150 : decode cX5_needClasses 150 = .ok (.imul, 1) := by decide +kernel
theorem dX5_needClasses_151 : decode cX5_needClasses 151 = .ok (.istore_n 2, 1) := by decide +kernel
theorem dX5_needClasses_152 : decode cX5_needClasses 152 = .ok (.iinc 3 1, 3) := by decide +kernel
theorem dX5_needClasses_155 : decode cX5_needClasses 155 = .ok (.goto (-132), 3) := by decide +kernel
theorem dX5_needClasses_158 : decode cX5_needClasses 158 = .ok (.return_, 1) := by decide +kernel
theorem dX5_leaves_0 : decode cX5_leaves 0 = .ok (.iload_n 3, 1) := by decide +kernel
theorem dX5_leaves_1 : decode cX5_leaves 1 = .ok (.iconst 2, 1) := by decide +kernel
theorem dX5_leaves_2 : decode cX5_leaves 2 = .ok (.if_icmp .ge 31, 3) := by decide +kernel
theorem dX5_leaves_5 : decode cX5_leaves 5 = .ok (.iload_n 3, 1) := by decide +kernel
theorem dX5_leaves_6 : decode cX5_leaves 6 = .ok (.ifCond .eq 21, 3) := by decide +kernel
theorem dX5_leaves_9 : decode cX5_leaves 9 = .ok (.aload_n 0, 1) := by decide +kernel
theorem dX5_leaves_10 : decode cX5_leaves 10 = .ok (.iload_n 1, 1) := by decide +kernel
theorem dX5_leaves_11 : decode cX5_leaves 11 = .ok (.iload_n 1, 1) := by decide +kernel
theorem dX5_leaves_12 : decode cX5_leaves 12 = .ok (.imul, 1) := by decide +kernel
theorem dX5_leaves_13 : decode cX5_leaves 13 = .ok (.invokevirtual 70, 3) := by decide +kernel
theorem dX5_leaves_16 : decode cX5_leaves 16 = .ok (.aload_n 0, 1) := by decide +kernel
theorem dX5_leaves_17 : decode cX5_leaves 17 = .ok (.getfield 38, 3) := by decide +kernel
theorem dX5_leaves_20 : decode cX5_leaves 20 = .ok (.sipush 416, 3) := by decide +kernel
theorem dX5_leaves_23 : decode cX5_leaves 23 = .ok (.iaload, 1) := by decide +kernel
theorem dX5_leaves_24 : decode cX5_leaves 24 = .ok (.if_icmp .ne 7, 3) := by decide +kernel
theorem dX5_leaves_27 : decode cX5_leaves 27 = .ok (.iconst 1, 1) := by decide +kernel
theorem dX5_leaves_28 : decode cX5_leaves 28 = .ok (.goto 4, 3) := by decide +kernel
theorem dX5_leaves_31 : decode cX5_leaves 31 = .ok (.iconst 0, 1) := by decide +kernel
theorem dX5_leaves_32 : decode cX5_leaves 32 = .ok (.ireturn, 1) := by decide +kernel
theorem dX5_leaves_33 : decode cX5_leaves 33 = .ok (.aload_n 0, 1) := by decide +kernel
theorem dX5_leaves_34 : decode cX5_leaves 34 = .ok (.iload_n 1, 1) := by decide +kernel
theorem dX5_leaves_35 : decode cX5_leaves 35 = .ok (.iload_n 1, 1) := by decide +kernel
theorem dX5_leaves_36 : decode cX5_leaves 36 = .ok (.imul, 1) := by decide +kernel
theorem dX5_leaves_37 : decode cX5_leaves 37 = .ok (.iload_n 2, 1) := by decide +kernel
theorem dX5_leaves_38 : decode cX5_leaves 38 = .ok (.iload_n 2, 1) := by decide +kernel
theorem dX5_leaves_39 : decode cX5_leaves 39 = .ok (.imul, 1) := by decide +kernel
theorem dX5_leaves_40 : decode cX5_leaves 40 = .ok (.aload_n 0, 1) := by decide +kernel
theorem dX5_leaves_41 : decode cX5_leaves 41 = .ok (.getfield 38, 3) := by decide +kernel
theorem dX5_leaves_44 : decode cX5_leaves 44 = .ok (.sipush 320, 3) := by decide +kernel
theorem dX5_leaves_47 : decode cX5_leaves 47 = .ok (.iaload, 1) := by decide +kernel
theorem dX5_leaves_48 : decode cX5_leaves 48 = .ok (.imul, 1) := by decide +kernel
theorem dX5_leaves_49 : decode cX5_leaves 49 = .ok (.isub, 1) := by decide +kernel
theorem dX5_leaves_50 : decode cX5_leaves 50 = .ok (.invokevirtual 70, 3) := by decide +kernel
theorem dX5_leaves_53 : decode cX5_leaves 53 = .ok (.istore 4, 2) := by decide +kernel
theorem dX5_leaves_55 : decode cX5_leaves 55 = .ok (.aload_n 0, 1) := by decide +kernel
theorem dX5_leaves_56 : decode cX5_leaves 56 = .ok (.iconst 2, 1) := by decide +kernel
theorem dX5_leaves_57 : decode cX5_leaves 57 = .ok (.iload_n 1, 1) := by decide +kernel
theorem dX5_leaves_58 : decode cX5_leaves 58 = .ok (.imul, 1) := by decide +kernel
theorem dX5_leaves_59 : decode cX5_leaves 59 = .ok (.iload_n 2, 1) := by decide +kernel
theorem dX5_leaves_60 : decode cX5_leaves 60 = .ok (.imul, 1) := by decide +kernel
theorem dX5_leaves_61 : decode cX5_leaves 61 = .ok (.iload_n 2, 1) := by decide +kernel
theorem dX5_leaves_62 : decode cX5_leaves 62 = .ok (.iload_n 2, 1) := by decide +kernel
theorem dX5_leaves_63 : decode cX5_leaves 63 = .ok (.imul, 1) := by decide +kernel
theorem dX5_leaves_64 : decode cX5_leaves 64 = .ok (.aload_n 0, 1) := by decide +kernel
theorem dX5_leaves_65 : decode cX5_leaves 65 = .ok (.getfield 38, 3) := by decide +kernel
theorem dX5_leaves_68 : decode cX5_leaves 68 = .ok (.sipush 321, 3) := by decide +kernel
theorem dX5_leaves_71 : decode cX5_leaves 71 = .ok (.iaload, 1) := by decide +kernel
theorem dX5_leaves_72 : decode cX5_leaves 72 = .ok (.imul, 1) := by decide +kernel
theorem dX5_leaves_73 : decode cX5_leaves 73 = .ok (.isub, 1) := by decide +kernel
theorem dX5_leaves_74 : decode cX5_leaves 74 = .ok (.invokevirtual 70, 3) := by decide +kernel
theorem dX5_leaves_77 : decode cX5_leaves 77 = .ok (.istore 5, 2) := by decide +kernel
theorem dX5_leaves_79 : decode cX5_leaves 79 = .ok (.iload 4, 2) := by decide +kernel
theorem dX5_leaves_81 : decode cX5_leaves 81 = .ok (.aload_n 0, 1) := by decide +kernel
theorem dX5_leaves_82 : decode cX5_leaves 82 = .ok (.getfield 38, 3) := by decide +kernel
theorem dX5_leaves_85 : decode cX5_leaves 85 = .ok (.sipush 416, 3) := by decide +kernel
theorem dX5_leaves_88 : decode cX5_leaves 88 = .ok (.iaload, 1) := by decide +kernel
theorem dX5_leaves_89 : decode cX5_leaves 89 = .ok (.if_icmp .ne 20, 3) := by decide +kernel
theorem dX5_leaves_92 : decode cX5_leaves 92 = .ok (.iload 5, 2) := by decide +kernel
theorem dX5_leaves_94 : decode cX5_leaves 94 = .ok (.aload_n 0, 1) := by decide +kernel
theorem dX5_leaves_95 : decode cX5_leaves 95 = .ok (.getfield 38, 3) := by decide +kernel
theorem dX5_leaves_98 : decode cX5_leaves 98 = .ok (.sipush 417, 3) := by decide +kernel
theorem dX5_leaves_101 : decode cX5_leaves 101 = .ok (.iaload, 1) := by decide +kernel
theorem dX5_leaves_102 : decode cX5_leaves 102 = .ok (.if_icmp .ne 7, 3) := by decide +kernel
theorem dX5_leaves_105 : decode cX5_leaves 105 = .ok (.iconst 1, 1) := by decide +kernel
theorem dX5_leaves_106 : decode cX5_leaves 106 = .ok (.goto 4, 3) := by decide +kernel
theorem dX5_leaves_109 : decode cX5_leaves 109 = .ok (.iconst 0, 1) := by decide +kernel
theorem dX5_leaves_110 : decode cX5_leaves 110 = .ok (.ireturn, 1) := by decide +kernel
theorem dX5_isClass_0 : decode cX5_isClass 0 = .ok (.aload_n 0, 1) := by decide +kernel
theorem dX5_isClass_1 : decode cX5_isClass 1 = .ok (.iconst 0, 1) := by decide +kernel
theorem dX5_isClass_2 : decode cX5_isClass 2 = .ok (.putfield 67, 3) := by decide +kernel
theorem dX5_isClass_5 : decode cX5_isClass 5 = .ok (.aload_n 0, 1) := by decide +kernel
theorem dX5_isClass_6 : decode cX5_isClass 6 = .ok (.iload_n 1, 1) := by decide +kernel
theorem dX5_isClass_7 : decode cX5_isClass 7 = .ok (.invokevirtual 220, 3) := by decide +kernel
theorem dX5_isClass_10 : decode cX5_isClass 10 = .ok (.ifCond .eq 11, 3) := by decide +kernel
theorem dX5_isClass_13 : decode cX5_isClass 13 = .ok (.iload_n 2, 1) := by decide +kernel
theorem dX5_isClass_14 : decode cX5_isClass 14 = .ok (.ifCond .lt 7, 3) := by decide +kernel
theorem dX5_isClass_17 : decode cX5_isClass 17 = .ok (.iload_n 3, 1) := by decide +kernel
theorem dX5_isClass_18 : decode cX5_isClass 18 = .ok (.ifCond .ge 5, 3) := by decide +kernel
theorem dX5_isClass_21 : decode cX5_isClass 21 = .ok (.iconst (-1), 1) := by decide +kernel
theorem dX5_isClass_22 : decode cX5_isClass 22 = .ok (.ireturn, 1) := by decide +kernel
theorem dX5_isClass_23 : decode cX5_isClass 23 = .ok (.aload_n 0, 1) := by decide +kernel
theorem dX5_isClass_24 : decode cX5_isClass 24 = .ok (.iload_n 1, 1) := by decide +kernel
theorem dX5_isClass_25 : decode cX5_isClass 25 = .ok (.iload_n 2, 1) := by decide +kernel
theorem dX5_isClass_26 : decode cX5_isClass 26 = .ok (.iload_n 3, 1) := by decide +kernel
theorem dX5_isClass_27 : decode cX5_isClass 27 = .ok (.invokevirtual 223, 3) := by decide +kernel
theorem dX5_isClass_30 : decode cX5_isClass 30 = .ok (.ifCond .eq 7, 3) := by decide +kernel
theorem dX5_isClass_33 : decode cX5_isClass 33 = .ok (.iconst 1, 1) := by decide +kernel
theorem dX5_isClass_34 : decode cX5_isClass 34 = .ok (.goto 4, 3) := by decide +kernel
theorem dX5_isClass_37 : decode cX5_isClass 37 = .ok (.iconst 0, 1) := by decide +kernel
theorem dX5_isClass_38 : decode cX5_isClass 38 = .ok (.ireturn, 1) := by decide +kernel
theorem dX5_classes_0 : decode cX5_classes 0 = .ok (.aload_n 0, 1) := by decide +kernel
theorem dX5_classes_1 : decode cX5_classes 1 = .ok (.iconst 0, 1) := by decide +kernel
theorem dX5_classes_2 : decode cX5_classes 2 = .ok (.putfield 67, 3) := by decide +kernel
theorem dX5_classes_5 : decode cX5_classes 5 = .ok (.aload_n 0, 1) := by decide +kernel
theorem dX5_classes_6 : decode cX5_classes 6 = .ok (.iload_n 1, 1) := by decide +kernel
theorem dX5_classes_7 : decode cX5_classes 7 = .ok (.invokevirtual 220, 3) := by decide +kernel
theorem dX5_classes_10 : decode cX5_classes 10 = .ok (.ifCond .ne 5, 3) := by decide +kernel
theorem dX5_classes_13 : decode cX5_classes 13 = .ok (.iconst (-1), 1) := by decide +kernel
theorem dX5_classes_14 : decode cX5_classes 14 = .ok (.ireturn, 1) := by decide +kernel
theorem dX5_classes_15 : decode cX5_classes 15 = .ok (.aload_n 0, 1) := by decide +kernel
theorem dX5_classes_16 : decode cX5_classes 16 = .ok (.iload_n 1, 1) := by decide +kernel
theorem dX5_classes_17 : decode cX5_classes 17 = .ok (.invokevirtual 226, 3) := by decide +kernel
theorem dX5_classes_20 : decode cX5_classes 20 = .ok (.aload_n 0, 1) := by decide +kernel
theorem dX5_classes_21 : decode cX5_classes 21 = .ok (.getfield 214, 3) := by decide +kernel
theorem dX5_classes_24 : decode cX5_classes 24 = .ok (.ireturn, 1) := by decide +kernel
theorem dX5_classAt_0 : decode cX5_classAt 0 = .ok (.aload_n 0, 1) := by decide +kernel
theorem dX5_classAt_1 : decode cX5_classAt 1 = .ok (.iconst 0, 1) := by decide +kernel
theorem dX5_classAt_2 : decode cX5_classAt 2 = .ok (.putfield 67, 3) := by decide +kernel
theorem dX5_classAt_5 : decode cX5_classAt 5 = .ok (.aload_n 0, 1) := by decide +kernel
theorem dX5_classAt_6 : decode cX5_classAt 6 = .ok (.iload_n 1, 1) := by decide +kernel
theorem dX5_classAt_7 : decode cX5_classAt 7 = .ok (.invokevirtual 220, 3) := by decide +kernel
theorem dX5_classAt_10 : decode cX5_classAt 10 = .ok (.ifCond .eq 17, 3) := by decide +kernel
theorem dX5_classAt_13 : decode cX5_classAt 13 = .ok (.iload_n 2, 1) := by decide +kernel
theorem dX5_classAt_14 : decode cX5_classAt 14 = .ok (.ifCond .lt 13, 3) := by decide +kernel
theorem dX5_classAt_17 : decode cX5_classAt 17 = .ok (.iload_n 3, 1) := by decide +kernel
theorem dX5_classAt_18 : decode cX5_classAt 18 = .ok (.i2l, 1) := by decide +kernel
theorem dX5_classAt_19 : decode cX5_classAt 19 = .ok (.lconst 0, 1) := by decide +kernel
theorem dX5_classAt_20 : decode cX5_classAt 20 = .ok (.lconst 1, 1) := by decide +kernel
theorem dX5_classAt_21 : decode cX5_classAt 21 = .ok (.invokestatic 127, 3) := by decide +kernel
theorem dX5_classAt_24 : decode cX5_classAt 24 = .ok (.ifCond .ne 5, 3) := by decide +kernel
theorem dX5_classAt_27 : decode cX5_classAt 27 = .ok (.iconst (-1), 1) := by decide +kernel
theorem dX5_classAt_28 : decode cX5_classAt 28 = .ok (.ireturn, 1) := by decide +kernel
theorem dX5_classAt_29 : decode cX5_classAt 29 = .ok (.aload_n 0, 1) := by decide +kernel
theorem dX5_classAt_30 : decode cX5_classAt 30 = .ok (.iload_n 1, 1) := by decide +kernel
theorem dX5_classAt_31 : decode cX5_classAt 31 = .ok (.invokevirtual 226, 3) := by decide +kernel
theorem dX5_classAt_34 : decode cX5_classAt 34 = .ok (.iload_n 2, 1) := by decide +kernel
theorem dX5_classAt_35 : decode cX5_classAt 35 = .ok (.aload_n 0, 1) := by decide +kernel
theorem dX5_classAt_36 : decode cX5_classAt 36 = .ok (.getfield 214, 3) := by decide +kernel
theorem dX5_classAt_39 : decode cX5_classAt 39 = .ok (.if_icmp .lt 8, 3) := by decide +kernel
theorem dX5_classAt_42 : decode cX5_classAt 42 = .ok (.bipush (-9), 2) := by decide +kernel
theorem dX5_classAt_44 : decode cX5_classAt 44 = .ok (.goto 22, 3) := by decide +kernel
theorem dX5_classAt_47 : decode cX5_classAt 47 = .ok (.iload_n 3, 1) := by decide +kernel
theorem dX5_classAt_48 : decode cX5_classAt 48 = .ok (.ifCond .ne 12, 3) := by decide +kernel
theorem dX5_classAt_51 : decode cX5_classAt 51 = .ok (.aload_n 0, 1) := by decide +kernel
theorem dX5_classAt_52 : decode cX5_classAt 52 = .ok (.getfield 47, 3) := by decide +kernel
theorem dX5_classAt_55 : decode cX5_classAt 55 = .ok (.iload_n 2, 1) := by decide +kernel
theorem dX5_classAt_56 : decode cX5_classAt 56 = .ok (.iaload, 1) := by decide +kernel
theorem dX5_classAt_57 : decode cX5_classAt 57 = .ok (.goto 9, 3) := by decide +kernel
theorem dX5_classAt_60 : decode cX5_classAt 60 = .ok (.aload_n 0, 1) := by decide +kernel
theorem dX5_classAt_61 : decode cX5_classAt 61 = .ok (.getfield 50, 3) := by decide +kernel
theorem dX5_classAt_64 : decode cX5_classAt 64 = .ok (.iload_n 2, 1) := by decide +kernel
theorem dX5_classAt_65 : decode cX5_classAt 65 = .ok (.iaload, 1) := by decide +kernel
theorem dX5_classAt_66 : decode cX5_classAt 66 = .ok (.ireturn, 1) := by decide +kernel
theorem dX5_find_0 : decode cX5_find 0 = .ok (.iconst 0, 1) := by decide +kernel
theorem dX5_find_1 : decode cX5_find 1 = .ok (.istore_n 3, 1) := by decide +kernel
theorem dX5_find_2 : decode cX5_find 2 = .ok (.aload_n 0, 1) := by decide +kernel
theorem dX5_find_3 : decode cX5_find 3 = .ok (.getfield 47, 3) := by decide +kernel
theorem dX5_find_6 : decode cX5_find 6 = .ok (.iload_n 3, 1) := by decide +kernel
theorem dX5_find_7 : decode cX5_find 7 = .ok (.iaload, 1) := by decide +kernel
theorem dX5_find_8 : decode cX5_find 8 = .ok (.iload_n 1, 1) := by decide +kernel
theorem dX5_find_9 : decode cX5_find 9 = .ok (.if_icmp .ne 13, 3) := by decide +kernel
theorem dX5_find_12 : decode cX5_find 12 = .ok (.aload_n 0, 1) := by decide +kernel
theorem dX5_find_13 : decode cX5_find 13 = .ok (.getfield 50, 3) := by decide +kernel
theorem dX5_find_16 : decode cX5_find 16 = .ok (.iload_n 3, 1) := by decide +kernel
theorem dX5_find_17 : decode cX5_find 17 = .ok (.iaload, 1) := by decide +kernel
theorem dX5_find_18 : decode cX5_find 18 = .ok (.iload_n 2, 1) := by decide +kernel
theorem dX5_find_19 : decode cX5_find 19 = .ok (.if_icmp .eq 9, 3) := by decide +kernel
theorem dX5_find_22 : decode cX5_find 22 = .ok (.iinc 3 1, 3) := by decide +kernel
theorem dX5_find_25 : decode cX5_find 25 = .ok (.goto (-23), 3) := by decide +kernel
theorem dX5_find_28 : decode cX5_find 28 = .ok (.iload_n 3, 1) := by decide +kernel
theorem dX5_find_29 : decode cX5_find 29 = .ok (.ireturn, 1) := by decide +kernel
theorem dX5_addOf_0 : decode cX5_addOf 0 = .ok (.aload_n 0, 1) := by decide +kernel
theorem dX5_addOf_1 : decode cX5_addOf 1 = .ok (.bipush 20, 2) := by decide +kernel
theorem dX5_addOf_3 : decode cX5_addOf 3 = .ok (.aload_n 0, 1) := by decide +kernel
theorem dX5_addOf_4 : decode cX5_addOf 4 = .ok (.getfield 47, 3) := by decide +kernel
theorem dX5_addOf_7 : decode cX5_addOf 7 = .ok (.iload_n 2, 1) := by decide +kernel
theorem dX5_addOf_8 : decode cX5_addOf 8 = .ok (.iaload, 1) := by decide +kernel
theorem dX5_addOf_9 : decode cX5_addOf 9 = .ok (.invokevirtual 87, 3) := by decide +kernel
theorem dX5_addOf_12 : decode cX5_addOf 12 = .ok (.aload_n 0, 1) := by decide +kernel
theorem dX5_addOf_13 : decode cX5_addOf 13 = .ok (.bipush 21, 2) := by decide +kernel
theorem dX5_addOf_15 : decode cX5_addOf 15 = .ok (.aload_n 0, 1) := by decide +kernel
theorem dX5_addOf_16 : decode cX5_addOf 16 = .ok (.getfield 50, 3) := by decide +kernel
theorem dX5_addOf_19 : decode cX5_addOf 19 = .ok (.iload_n 2, 1) := by decide +kernel
theorem dX5_addOf_20 : decode cX5_addOf 20 = .ok (.iaload, 1) := by decide +kernel
theorem dX5_addOf_21 : decode cX5_addOf 21 = .ok (.invokevirtual 87, 3) := by decide +kernel
theorem dX5_addOf_24 : decode cX5_addOf 24 = .ok (.aload_n 0, 1) := by decide +kernel
theorem dX5_addOf_25 : decode cX5_addOf 25 = .ok (.bipush 22, 2) := by decide +kernel
theorem dX5_addOf_27 : decode cX5_addOf 27 = .ok (.aload_n 0, 1) := by decide +kernel
theorem dX5_addOf_28 : decode cX5_addOf 28 = .ok (.getfield 47, 3) := by decide +kernel
theorem dX5_addOf_31 : decode cX5_addOf 31 = .ok (.iload_n 3, 1) := by decide +kernel
theorem dX5_addOf_32 : decode cX5_addOf 32 = .ok (.iaload, 1) := by decide +kernel
theorem dX5_addOf_33 : decode cX5_addOf 33 = .ok (.invokevirtual 87, 3) := by decide +kernel
theorem dX5_addOf_36 : decode cX5_addOf 36 = .ok (.aload_n 0, 1) := by decide +kernel
theorem dX5_addOf_37 : decode cX5_addOf 37 = .ok (.bipush 23, 2) := by decide +kernel
theorem dX5_addOf_39 : decode cX5_addOf 39 = .ok (.aload_n 0, 1) := by decide +kernel
theorem dX5_addOf_40 : decode cX5_addOf 40 = .ok (.getfield 50, 3) := by decide +kernel
theorem dX5_addOf_43 : decode cX5_addOf 43 = .ok (.iload_n 3, 1) := by decide +kernel
theorem dX5_addOf_44 : decode cX5_addOf 44 = .ok (.iaload, 1) := by decide +kernel
theorem dX5_addOf_45 : decode cX5_addOf 45 = .ok (.invokevirtual 87, 3) := by decide +kernel
theorem dX5_addOf_48 : decode cX5_addOf 48 = .ok (.aload_n 0, 1) := by decide +kernel
theorem dX5_addOf_49 : decode cX5_addOf 49 = .ok (.bipush 24, 2) := by decide +kernel
theorem dX5_addOf_51 : decode cX5_addOf 51 = .ok (.iload_n 1, 1) := by decide +kernel
theorem dX5_addOf_52 : decode cX5_addOf 52 = .ok (.invokevirtual 172, 3) := by decide +kernel
theorem dX5_addOf_55 : decode cX5_addOf 55 = .ok (.aload_n 0, 1) := by decide +kernel
theorem dX5_addOf_56 : decode cX5_addOf 56 = .ok (.bipush 10, 2) := by decide +kernel
theorem dX5_addOf_58 : decode cX5_addOf 58 = .ok (.bipush 11, 2) := by decide +kernel
theorem dX5_addOf_60 : decode cX5_addOf 60 = .ok (.bipush 12, 2) := by decide +kernel
theorem dX5_addOf_62 : decode cX5_addOf 62 = .ok (.bipush 20, 2) := by decide +kernel
theorem dX5_addOf_64 : decode cX5_addOf 64 = .ok (.bipush 22, 2) := by decide +kernel
theorem dX5_addOf_66 : decode cX5_addOf 66 = .ok (.invokevirtual 152, 3) := by decide +kernel
theorem dX5_addOf_69 : decode cX5_addOf 69 = .ok (.aload_n 0, 1) := by decide +kernel
theorem dX5_addOf_70 : decode cX5_addOf 70 = .ok (.bipush 25, 2) := by decide +kernel
theorem dX5_addOf_72 : decode cX5_addOf 72 = .ok (.bipush 21, 2) := by decide +kernel
theorem dX5_addOf_74 : decode cX5_addOf 74 = .ok (.bipush 23, 2) := by decide +kernel
theorem dX5_addOf_76 : decode cX5_addOf 76 = .ok (.iconst 1, 1) := by decide +kernel
theorem dX5_addOf_77 : decode cX5_addOf 77 = .ok (.invokevirtual 98, 3) := by decide +kernel
theorem dX5_addOf_80 : decode cX5_addOf 80 = .ok (.aload_n 0, 1) := by decide +kernel
theorem dX5_addOf_81 : decode cX5_addOf 81 = .ok (.bipush 13, 2) := by decide +kernel
theorem dX5_addOf_83 : decode cX5_addOf 83 = .ok (.bipush 14, 2) := by decide +kernel
theorem dX5_addOf_85 : decode cX5_addOf 85 = .ok (.bipush 15, 2) := by decide +kernel
theorem dX5_addOf_87 : decode cX5_addOf 87 = .ok (.bipush 10, 2) := by decide +kernel
theorem dX5_addOf_89 : decode cX5_addOf 89 = .ok (.bipush 25, 2) := by decide +kernel
theorem dX5_addOf_91 : decode cX5_addOf 91 = .ok (.invokevirtual 152, 3) := by decide +kernel
theorem dX5_addOf_94 : decode cX5_addOf 94 = .ok (.aload_n 0, 1) := by decide +kernel
theorem dX5_addOf_95 : decode cX5_addOf 95 = .ok (.bipush 16, 2) := by decide +kernel
theorem dX5_addOf_97 : decode cX5_addOf 97 = .ok (.bipush 14, 2) := by decide +kernel
theorem dX5_addOf_99 : decode cX5_addOf 99 = .ok (.bipush 11, 2) := by decide +kernel
theorem dX5_addOf_101 : decode cX5_addOf 101 = .ok (.invokevirtual 94, 3) := by decide +kernel
theorem dX5_addOf_104 : decode cX5_addOf 104 = .ok (.aload_n 0, 1) := by decide +kernel
theorem dX5_addOf_105 : decode cX5_addOf 105 = .ok (.bipush 17, 2) := by decide +kernel
theorem dX5_addOf_107 : decode cX5_addOf 107 = .ok (.bipush 14, 2) := by decide +kernel
theorem dX5_addOf_109 : decode cX5_addOf 109 = .ok (.bipush 12, 2) := by decide +kernel
theorem dX5_addOf_111 : decode cX5_addOf 111 = .ok (.invokevirtual 94, 3) := by decide +kernel
theorem dX5_addOf_114 : decode cX5_addOf 114 = .ok (.aload_n 0, 1) := by decide +kernel
theorem dX5_addOf_115 : decode cX5_addOf 115 = .ok (.bipush 10, 2) := by decide +kernel
theorem dX5_addOf_117 : decode cX5_addOf 117 = .ok (.bipush 16, 2) := by decide +kernel
theorem dX5_addOf_119 : decode cX5_addOf 119 = .ok (.bipush 20, 2) := by decide +kernel
theorem dX5_addOf_121 : decode cX5_addOf 121 = .ok (.invokevirtual 94, 3) := by decide +kernel
theorem dX5_addOf_124 : decode cX5_addOf 124 = .ok (.aload_n 0, 1) := by decide +kernel
theorem dX5_addOf_125 : decode cX5_addOf 125 = .ok (.bipush 11, 2) := by decide +kernel
theorem dX5_addOf_127 : decode cX5_addOf 127 = .ok (.bipush 10, 2) := by decide +kernel
theorem dX5_addOf_129 : decode cX5_addOf 129 = .ok (.bipush 23, 2) := by decide +kernel
theorem dX5_addOf_131 : decode cX5_addOf 131 = .ok (.invokevirtual 94, 3) := by decide +kernel
theorem dX5_addOf_134 : decode cX5_addOf 134 = .ok (.aload_n 0, 1) := by decide +kernel
theorem dX5_addOf_135 : decode cX5_addOf 135 = .ok (.bipush 10, 2) := by decide +kernel
theorem dX5_addOf_137 : decode cX5_addOf 137 = .ok (.bipush 17, 2) := by decide +kernel
theorem dX5_addOf_139 : decode cX5_addOf 139 = .ok (.bipush 22, 2) := by decide +kernel
theorem dX5_addOf_141 : decode cX5_addOf 141 = .ok (.invokevirtual 94, 3) := by decide +kernel
theorem dX5_addOf_144 : decode cX5_addOf 144 = .ok (.aload_n 0, 1) := by decide +kernel
theorem dX5_addOf_145 : decode cX5_addOf 145 = .ok (.bipush 12, 2) := by decide +kernel
theorem dX5_addOf_147 : decode cX5_addOf 147 = .ok (.bipush 10, 2) := by decide +kernel
theorem dX5_addOf_149 : decode cX5_addOf 149 = .ok (.bipush 21, 2) := by decide +kernel
theorem dX5_addOf_151 : decode cX5_addOf 151 = .ok (.invokevirtual 94, 3) := by decide +kernel
theorem dX5_addOf_154 : decode cX5_addOf 154 = .ok (.aload_n 0, 1) := by decide +kernel
theorem dX5_addOf_155 : decode cX5_addOf 155 = .ok (.bipush 14, 2) := by decide +kernel
theorem dX5_addOf_157 : decode cX5_addOf 157 = .ok (.bipush 11, 2) := by decide +kernel
theorem dX5_addOf_159 : decode cX5_addOf 159 = .ok (.bipush 12, 2) := by decide +kernel
theorem dX5_addOf_161 : decode cX5_addOf 161 = .ok (.iconst 1, 1) := by decide +kernel
theorem dX5_addOf_162 : decode cX5_addOf 162 = .ok (.invokevirtual 98, 3) := by decide +kernel
theorem dX5_addOf_165 : decode cX5_addOf 165 = .ok (.aload_n 0, 1) := by decide +kernel
theorem dX5_addOf_166 : decode cX5_addOf 166 = .ok (.bipush 10, 2) := by decide +kernel
theorem dX5_addOf_168 : decode cX5_addOf 168 = .ok (.bipush 21, 2) := by decide +kernel
theorem dX5_addOf_170 : decode cX5_addOf 170 = .ok (.bipush 23, 2) := by decide +kernel
theorem dX5_addOf_172 : decode cX5_addOf 172 = .ok (.invokevirtual 94, 3) := by decide +kernel
theorem dX5_addOf_175 : decode cX5_addOf 175 = .ok (.aload_n 0, 1) := by decide +kernel
theorem dX5_addOf_176 : decode cX5_addOf 176 = .ok (.bipush 11, 2) := by decide +kernel
theorem dX5_addOf_178 : decode cX5_addOf 178 = .ok (.bipush 10, 2) := by decide +kernel
theorem dX5_addOf_180 : decode cX5_addOf 180 = .ok (.bipush 24, 2) := by decide +kernel
theorem dX5_addOf_182 : decode cX5_addOf 182 = .ok (.iconst 1, 1) := by decide +kernel
theorem dX5_addOf_183 : decode cX5_addOf 183 = .ok (.invokevirtual 98, 3) := by decide +kernel
theorem dX5_addOf_186 : decode cX5_addOf 186 = .ok (.aload_n 0, 1) := by decide +kernel
theorem dX5_addOf_187 : decode cX5_addOf 187 = .ok (.bipush 12, 2) := by decide +kernel
theorem dX5_addOf_189 : decode cX5_addOf 189 = .ok (.bipush 15, 2) := by decide +kernel
theorem dX5_addOf_191 : decode cX5_addOf 191 = .ok (.bipush 11, 2) := by decide +kernel
theorem dX5_addOf_193 : decode cX5_addOf 193 = .ok (.invokevirtual 94, 3) := by decide +kernel
theorem dX5_addOf_196 : decode cX5_addOf 196 = .ok (.aload_n 0, 1) := by decide +kernel
theorem dX5_addOf_197 : decode cX5_addOf 197 = .ok (.bipush 10, 2) := by decide +kernel
theorem dX5_addOf_199 : decode cX5_addOf 199 = .ok (.bipush 14, 2) := by decide +kernel
theorem dX5_addOf_201 : decode cX5_addOf 201 = .ok (.bipush 12, 2) := by decide +kernel
theorem dX5_addOf_203 : decode cX5_addOf 203 = .ok (.iconst 1, 1) := by decide +kernel
theorem dX5_addOf_204 : decode cX5_addOf 204 = .ok (.invokevirtual 98, 3) := by decide +kernel
theorem dX5_addOf_207 : decode cX5_addOf 207 = .ok (.aload_n 0, 1) := by decide +kernel
theorem dX5_addOf_208 : decode cX5_addOf 208 = .ok (.bipush 18, 2) := by decide +kernel
theorem dX5_addOf_210 : decode cX5_addOf 210 = .ok (.bipush 19, 2) := by decide +kernel
theorem dX5_addOf_212 : decode cX5_addOf 212 = .ok (.bipush 10, 2) := by decide +kernel
theorem dX5_addOf_214 : decode cX5_addOf 214 = .ok (.bipush 13, 2) := by decide +kernel
theorem dX5_addOf_216 : decode cX5_addOf 216 = .ok (.invokevirtual 90, 3) := by decide +kernel
theorem dX5_addOf_219 : decode cX5_addOf 219 = .ok (.aload_n 0, 1) := by decide +kernel
theorem dX5_addOf_220 : decode cX5_addOf 220 = .ok (.bipush 12, 2) := by decide +kernel
theorem dX5_addOf_222 : decode cX5_addOf 222 = .ok (.bipush 20, 2) := by decide +kernel
theorem dX5_addOf_224 : decode cX5_addOf 224 = .ok (.bipush 22, 2) := by decide +kernel
theorem dX5_addOf_226 : decode cX5_addOf 226 = .ok (.invokevirtual 94, 3) := by decide +kernel
theorem dX5_addOf_229 : decode cX5_addOf 229 = .ok (.aload_n 0, 1) := by decide +kernel
theorem dX5_addOf_230 : decode cX5_addOf 230 = .ok (.bipush 14, 2) := by decide +kernel
theorem dX5_addOf_232 : decode cX5_addOf 232 = .ok (.bipush 13, 2) := by decide +kernel
theorem dX5_addOf_234 : decode cX5_addOf 234 = .ok (.bipush 13, 2) := by decide +kernel
theorem dX5_addOf_236 : decode cX5_addOf 236 = .ok (.invokevirtual 94, 3) := by decide +kernel
theorem dX5_addOf_239 : decode cX5_addOf 239 = .ok (.aload_n 0, 1) := by decide +kernel
theorem dX5_addOf_240 : decode cX5_addOf 240 = .ok (.bipush 10, 2) := by decide +kernel
theorem dX5_addOf_242 : decode cX5_addOf 242 = .ok (.bipush 19, 2) := by decide +kernel
theorem dX5_addOf_244 : decode cX5_addOf 244 = .ok (.bipush 12, 2) := by decide +kernel
theorem dX5_addOf_246 : decode cX5_addOf 246 = .ok (.bipush 14, 2) := by decide +kernel
theorem dX5_addOf_248 : decode cX5_addOf 248 = .ok (.invokevirtual 90, 3) := by decide +kernel
theorem dX5_addOf_251 : decode cX5_addOf 251 = .ok (.aload_n 0, 1) := by decide +kernel
theorem dX5_addOf_252 : decode cX5_addOf 252 = .ok (.bipush 19, 2) := by decide +kernel
theorem dX5_addOf_254 : decode cX5_addOf 254 = .ok (.bipush 11, 2) := by decide +kernel
theorem dX5_addOf_256 : decode cX5_addOf 256 = .ok (.bipush 18, 2) := by decide +kernel
theorem dX5_addOf_258 : decode cX5_addOf 258 = .ok (.bipush 10, 2) := by decide +kernel
theorem dX5_addOf_260 : decode cX5_addOf 260 = .ok (.invokevirtual 90, 3) := by decide +kernel
theorem dX5_addOf_263 : decode cX5_addOf 263 = .ok (.aload_n 0, 1) := by decide +kernel
theorem dX5_addOf_264 : decode cX5_addOf 264 = .ok (.bipush 10, 2) := by decide +kernel
theorem dX5_addOf_266 : decode cX5_addOf 266 = .ok (.invokevirtual 77, 3) := by decide +kernel
theorem dX5_addOf_269 : decode cX5_addOf 269 = .ok (.aload_n 0, 1) := by decide +kernel
theorem dX5_addOf_270 : decode cX5_addOf 270 = .ok (.iload_n 1, 1) := by decide +kernel
theorem dX5_addOf_271 : decode cX5_addOf 271 = .ok (.invokevirtual 169, 3) := by decide +kernel
theorem dX5_addOf_274 : decode cX5_addOf 274 = .ok (.if_icmp .le 111, 3) := by decide +kernel
theorem dX5_addOf_277 : decode cX5_addOf 277 = .ok (.aload_n 0, 1) := by decide +kernel
theorem dX5_addOf_278 : decode cX5_addOf 278 = .ok (.bipush 12, 2) := by decide +kernel
theorem dX5_addOf_280 : decode cX5_addOf 280 = .ok (.bipush 11, 2) := by decide +kernel
theorem dX5_addOf_282 : decode cX5_addOf 282 = .ok (.bipush 11, 2) := by decide +kernel
theorem dX5_addOf_284 : decode cX5_addOf 284 = .ok (.invokevirtual 94, 3) := by decide +kernel
theorem dX5_addOf_287 : decode cX5_addOf 287 = .ok (.aload_n 0, 1) := by decide +kernel
theorem dX5_addOf_288 : decode cX5_addOf 288 = .ok (.bipush 14, 2) := by decide +kernel
theorem dX5_addOf_290 : decode cX5_addOf 290 = .ok (.bipush 24, 2) := by decide +kernel
theorem dX5_addOf_292 : decode cX5_addOf 292 = .ok (.bipush 12, 2) := by decide +kernel
theorem dX5_addOf_294 : decode cX5_addOf 294 = .ok (.aload_n 0, 1) := by decide +kernel
theorem dX5_addOf_295 : decode cX5_addOf 295 = .ok (.getfield 7, 3) := by decide +kernel
theorem dX5_addOf_298 : decode cX5_addOf 298 = .ok (.iconst 1, 1) := by decide +kernel
theorem dX5_addOf_299 : decode cX5_addOf 299 = .ok (.isub, 1) := by decide +kernel
theorem dX5_addOf_300 : decode cX5_addOf 300 = .ok (.invokevirtual 98, 3) := by decide +kernel
theorem dX5_addOf_303 : decode cX5_addOf 303 = .ok (.aload_n 0, 1) := by decide +kernel
theorem dX5_addOf_304 : decode cX5_addOf 304 = .ok (.bipush 15, 2) := by decide +kernel
theorem dX5_addOf_306 : decode cX5_addOf 306 = .ok (.bipush 16, 2) := by decide +kernel
theorem dX5_addOf_308 : decode cX5_addOf 308 = .ok (.bipush 14, 2) := by decide +kernel
theorem dX5_addOf_310 : decode cX5_addOf 310 = .ok (.bipush 10, 2) := by decide +kernel
theorem dX5_addOf_312 : decode cX5_addOf 312 = .ok (.invokevirtual 90, 3) := by decide +kernel
theorem dX5_addOf_315 : decode cX5_addOf 315 = .ok (.aload_n 0, 1) := by decide +kernel
theorem dX5_addOf_316 : decode cX5_addOf 316 = .ok (.bipush 10, 2) := by decide +kernel
theorem dX5_addOf_318 : decode cX5_addOf 318 = .ok (.bipush 15, 2) := by decide +kernel
theorem dX5_addOf_320 : decode cX5_addOf 320 = .ok (.invokevirtual 80, 3) := by decide +kernel
theorem dX5_addOf_323 : decode cX5_addOf 323 = .ok (.aload_n 0, 1) := by decide +kernel
theorem dX5_addOf_324 : decode cX5_addOf 324 = .ok (.bipush 10, 2) := by decide +kernel
theorem dX5_addOf_326 : decode cX5_addOf 326 = .ok (.aload_n 0, 1) := by decide +kernel
theorem dX5_addOf_327 : decode cX5_addOf 327 = .ok (.aload_n 0, 1) := by decide +kernel
theorem dX5_addOf_328 : decode cX5_addOf 328 = .ok (.getfield 38, 3) := by decide +kernel
theorem dX5_addOf_331 : decode cX5_addOf 331 = .ok (.sipush 160, 3) := by decide +kernel
theorem dX5_addOf_334 : decode cX5_addOf 334 = .ok (.aload_n 0, 1) := by decide +kernel
theorem dX5_addOf_335 : decode cX5_addOf 335 = .ok (.bipush 10, 2) := by decide +kernel
theorem dX5_addOf_337 : decode cX5_addOf 337 = .ok (.invokevirtual 77, 3) := by decide +kernel
theorem dX5_addOf_340 : decode cX5_addOf 340 = .ok (.iadd, 1) := by decide +kernel
theorem dX5_addOf_341 : decode cX5_addOf 341 = .ok (.iaload, 1) := by decide +kernel
theorem dX5_addOf_342 : decode cX5_addOf 342 = .ok (.invokevirtual 84, 3) := by decide +kernel
theorem dX5_addOf_345 : decode cX5_addOf 345 = .ok (.invokevirtual 101, 3) := by decide +kernel
theorem dX5_addOf_348 : decode cX5_addOf 348 = .ok (.aload_n 0, 1) := by decide +kernel
theorem dX5_addOf_349 : decode cX5_addOf 349 = .ok (.bipush 12, 2) := by decide +kernel
theorem dX5_addOf_351 : decode cX5_addOf 351 = .ok (.invokevirtual 74, 3) := by decide +kernel
theorem dX5_addOf_354 : decode cX5_addOf 354 = .ok (.aload_n 0, 1) := by decide +kernel
theorem dX5_addOf_355 : decode cX5_addOf 355 = .ok (.bipush 14, 2) := by decide +kernel
theorem dX5_addOf_357 : decode cX5_addOf 357 = .ok (.bipush 12, 2) := by decide +kernel
theorem dX5_addOf_359 : decode cX5_addOf 359 = .ok (.bipush 11, 2) := by decide +kernel
theorem dX5_addOf_361 : decode cX5_addOf 361 = .ok (.aload_n 0, 1) := by decide +kernel
theorem dX5_addOf_362 : decode cX5_addOf 362 = .ok (.getfield 7, 3) := by decide +kernel
theorem dX5_addOf_365 : decode cX5_addOf 365 = .ok (.iconst 1, 1) := by decide +kernel
theorem dX5_addOf_366 : decode cX5_addOf 366 = .ok (.isub, 1) := by decide +kernel
theorem dX5_addOf_367 : decode cX5_addOf 367 = .ok (.invokevirtual 98, 3) := by decide +kernel
theorem dX5_addOf_370 : decode cX5_addOf 370 = .ok (.aload_n 0, 1) := by decide +kernel
theorem dX5_addOf_371 : decode cX5_addOf 371 = .ok (.bipush 15, 2) := by decide +kernel
theorem dX5_addOf_373 : decode cX5_addOf 373 = .ok (.bipush 11, 2) := by decide +kernel
theorem dX5_addOf_375 : decode cX5_addOf 375 = .ok (.bipush 14, 2) := by decide +kernel
theorem dX5_addOf_377 : decode cX5_addOf 377 = .ok (.bipush 10, 2) := by decide +kernel
theorem dX5_addOf_379 : decode cX5_addOf 379 = .ok (.invokevirtual 90, 3) := by decide +kernel
theorem dX5_addOf_382 : decode cX5_addOf 382 = .ok (.goto (-119), 3) := by decide +kernel
theorem dX5_addOf_385 : decode cX5_addOf 385 = .ok (.aload_n 0, 1) := by decide +kernel
theorem dX5_addOf_386 : decode cX5_addOf 386 = .ok (.aload_n 0, 1) := by decide +kernel
theorem dX5_addOf_387 : decode cX5_addOf 387 = .ok (.bipush 10, 2) := by decide +kernel
theorem dX5_addOf_389 : decode cX5_addOf 389 = .ok (.invokevirtual 120, 3) := by decide +kernel
theorem dX5_addOf_392 : decode cX5_addOf 392 = .ok (.aload_n 0, 1) := by decide +kernel
theorem dX5_addOf_393 : decode cX5_addOf 393 = .ok (.bipush 11, 2) := by decide +kernel
theorem dX5_addOf_395 : decode cX5_addOf 395 = .ok (.invokevirtual 120, 3) := by decide +kernel
theorem dX5_addOf_398 : decode cX5_addOf 398 = .ok (.invokevirtual 229, 3) := by decide +kernel
theorem dX5_addOf_401 : decode cX5_addOf 401 = .ok (.ireturn, 1) := by decide +kernel
theorem dX5_isThere_0 : decode cX5_isThere 0 = .ok (.aload_n 0, 1) := by decide +kernel
theorem dX5_isThere_1 : decode cX5_isThere 1 = .ok (.iload_n 1, 1) := by decide +kernel
theorem dX5_isThere_2 : decode cX5_isThere 2 = .ok (.invokevirtual 220, 3) := by decide +kernel
theorem dX5_isThere_5 : decode cX5_isThere 5 = .ok (.ifCond .ne 5, 3) := by decide +kernel
theorem dX5_isThere_8 : decode cX5_isThere 8 = .ok (.iconst 0, 1) := by decide +kernel
theorem dX5_isThere_9 : decode cX5_isThere 9 = .ok (.ireturn, 1) := by decide +kernel
theorem dX5_isThere_10 : decode cX5_isThere 10 = .ok (.aload_n 0, 1) := by decide +kernel
theorem dX5_isThere_11 : decode cX5_isThere 11 = .ok (.iload_n 1, 1) := by decide +kernel
theorem dX5_isThere_12 : decode cX5_isThere 12 = .ok (.invokevirtual 226, 3) := by decide +kernel
theorem dX5_isThere_15 : decode cX5_isThere 15 = .ok (.iload_n 2, 1) := by decide +kernel
theorem dX5_isThere_16 : decode cX5_isThere 16 = .ok (.i2l, 1) := by decide +kernel
theorem dX5_isThere_17 : decode cX5_isThere 17 = .ok (.lconst 0, 1) := by decide +kernel
theorem dX5_isThere_18 : decode cX5_isThere 18 = .ok (.aload_n 0, 1) := by decide +kernel
theorem dX5_isThere_19 : decode cX5_isThere 19 = .ok (.getfield 214, 3) := by decide +kernel
theorem dX5_isThere_22 : decode cX5_isThere 22 = .ok (.iconst 1, 1) := by decide +kernel
theorem dX5_isThere_23 : decode cX5_isThere 23 = .ok (.isub, 1) := by decide +kernel
theorem dX5_isThere_24 : decode cX5_isThere 24 = .ok (.i2l, 1) := by decide +kernel
theorem dX5_isThere_25 : decode cX5_isThere 25 = .ok (.invokestatic 127, 3) := by decide +kernel
theorem dX5_isThere_28 : decode cX5_isThere 28 = .ok (.ireturn, 1) := by decide +kernel
theorem dX5_add_0 : decode cX5_add 0 = .ok (.aload_n 0, 1) := by decide +kernel
theorem dX5_add_1 : decode cX5_add 1 = .ok (.iconst 0, 1) := by decide +kernel
theorem dX5_add_2 : decode cX5_add 2 = .ok (.putfield 67, 3) := by decide +kernel
theorem dX5_add_5 : decode cX5_add 5 = .ok (.aload_n 0, 1) := by decide +kernel
theorem dX5_add_6 : decode cX5_add 6 = .ok (.iload_n 1, 1) := by decide +kernel
theorem dX5_add_7 : decode cX5_add 7 = .ok (.iload_n 2, 1) := by decide +kernel
theorem dX5_add_8 : decode cX5_add 8 = .ok (.invokevirtual 232, 3) := by decide +kernel
theorem dX5_add_11 : decode cX5_add 11 = .ok (.ifCond .eq 22, 3) := by decide +kernel
theorem dX5_add_14 : decode cX5_add 14 = .ok (.aload_n 0, 1) := by decide +kernel
theorem dX5_add_15 : decode cX5_add 15 = .ok (.iload_n 1, 1) := by decide +kernel
theorem dX5_add_16 : decode cX5_add 16 = .ok (.iload_n 3, 1) := by decide +kernel
theorem dX5_add_17 : decode cX5_add 17 = .ok (.invokevirtual 232, 3) := by decide +kernel
theorem dX5_add_20 : decode cX5_add 20 = .ok (.ifCond .eq 13, 3) := by decide +kernel
theorem dX5_add_23 : decode cX5_add 23 = .ok (.aload_n 0, 1) := by decide +kernel
theorem dX5_add_24 : decode cX5_add 24 = .ok (.iload_n 1, 1) := by decide +kernel
theorem dX5_add_25 : decode cX5_add 25 = .ok (.iload_n 2, 1) := by decide +kernel
theorem dX5_add_26 : decode cX5_add 26 = .ok (.iload_n 3, 1) := by decide +kernel
theorem dX5_add_27 : decode cX5_add 27 = .ok (.invokevirtual 235, 3) := by decide +kernel
theorem dX5_add_30 : decode cX5_add 30 = .ok (.goto 4, 3) := by decide +kernel
theorem dX5_add_33 : decode cX5_add 33 = .ok (.iconst (-1), 1) := by decide +kernel
theorem dX5_add_34 : decode cX5_add 34 = .ok (.ireturn, 1) := by decide +kernel
theorem dX5_minus_0 : decode cX5_minus 0 = .ok (.aload_n 0, 1) := by decide +kernel
theorem dX5_minus_1 : decode cX5_minus 1 = .ok (.iconst 0, 1) := by decide +kernel
theorem dX5_minus_2 : decode cX5_minus 2 = .ok (.putfield 67, 3) := by decide +kernel
theorem dX5_minus_5 : decode cX5_minus 5 = .ok (.aload_n 0, 1) := by decide +kernel
theorem dX5_minus_6 : decode cX5_minus 6 = .ok (.iload_n 1, 1) := by decide +kernel
theorem dX5_minus_7 : decode cX5_minus 7 = .ok (.iload_n 2, 1) := by decide +kernel
theorem dX5_minus_8 : decode cX5_minus 8 = .ok (.invokevirtual 232, 3) := by decide +kernel
theorem dX5_minus_11 : decode cX5_minus 11 = .ok (.ifCond .ne 5, 3) := by decide +kernel
theorem dX5_minus_14 : decode cX5_minus 14 = .ok (.iconst (-1), 1) := by decide +kernel
theorem dX5_minus_15 : decode cX5_minus 15 = .ok (.ireturn, 1) := by decide +kernel
theorem dX5_minus_16 : decode cX5_minus 16 = .ok (.aload_n 0, 1) := by decide +kernel
theorem dX5_minus_17 : decode cX5_minus 17 = .ok (.bipush 20, 2) := by decide +kernel
theorem dX5_minus_19 : decode cX5_minus 19 = .ok (.aload_n 0, 1) := by decide +kernel
theorem dX5_minus_20 : decode cX5_minus 20 = .ok (.getfield 50, 3) := by decide +kernel
theorem dX5_minus_23 : decode cX5_minus 23 = .ok (.iload_n 2, 1) := by decide +kernel
theorem dX5_minus_24 : decode cX5_minus 24 = .ok (.iaload, 1) := by decide +kernel
theorem dX5_minus_25 : decode cX5_minus 25 = .ok (.invokevirtual 87, 3) := by decide +kernel
theorem dX5_minus_28 : decode cX5_minus 28 = .ok (.aload_n 0, 1) := by decide +kernel
theorem dX5_minus_29 : decode cX5_minus 29 = .ok (.bipush 20, 2) := by decide +kernel
theorem dX5_minus_31 : decode cX5_minus 31 = .ok (.aload_n 0, 1) := by decide +kernel
theorem dX5_minus_32 : decode cX5_minus 32 = .ok (.getfield 7, 3) := by decide +kernel
theorem dX5_minus_35 : decode cX5_minus 35 = .ok (.iconst 1, 1) := by decide +kernel
theorem dX5_minus_36 : decode cX5_minus 36 = .ok (.isub, 1) := by decide +kernel
theorem dX5_minus_37 : decode cX5_minus 37 = .ok (.invokevirtual 101, 3) := by decide +kernel
theorem dX5_minus_40 : decode cX5_minus 40 = .ok (.aload_n 0, 1) := by decide +kernel
theorem dX5_minus_41 : decode cX5_minus 41 = .ok (.aload_n 0, 1) := by decide +kernel
theorem dX5_minus_42 : decode cX5_minus 42 = .ok (.getfield 47, 3) := by decide +kernel
theorem dX5_minus_45 : decode cX5_minus 45 = .ok (.iload_n 2, 1) := by decide +kernel
theorem dX5_minus_46 : decode cX5_minus 46 = .ok (.iaload, 1) := by decide +kernel
theorem dX5_minus_47 : decode cX5_minus 47 = .ok (.aload_n 0, 1) := by decide +kernel
theorem dX5_minus_48 : decode cX5_minus 48 = .ok (.bipush 20, 2) := by decide +kernel
theorem dX5_minus_50 : decode cX5_minus 50 = .ok (.invokevirtual 120, 3) := by decide +kernel
theorem dX5_minus_53 : decode cX5_minus 53 = .ok (.invokevirtual 229, 3) := by decide +kernel
theorem dX5_minus_56 : decode cX5_minus 56 = .ok (.ireturn, 1) := by decide +kernel
theorem dX5_order_0 : decode cX5_order 0 = .ok (.aload_n 0, 1) := by decide +kernel
theorem dX5_order_1 : decode cX5_order 1 = .ok (.iconst 0, 1) := by decide +kernel
theorem dX5_order_2 : decode cX5_order 2 = .ok (.putfield 67, 3) := by decide +kernel
theorem dX5_order_5 : decode cX5_order 5 = .ok (.aload_n 0, 1) := by decide +kernel
theorem dX5_order_6 : decode cX5_order 6 = .ok (.iload_n 1, 1) := by decide +kernel
theorem dX5_order_7 : decode cX5_order 7 = .ok (.iload_n 2, 1) := by decide +kernel
theorem dX5_order_8 : decode cX5_order 8 = .ok (.invokevirtual 232, 3) := by decide +kernel
theorem dX5_order_11 : decode cX5_order 11 = .ok (.ifCond .ne 5, 3) := by decide +kernel
theorem dX5_order_14 : decode cX5_order 14 = .ok (.iconst (-1), 1) := by decide +kernel
theorem dX5_order_15 : decode cX5_order 15 = .ok (.ireturn, 1) := by decide +kernel
theorem dX5_order_16 : decode cX5_order 16 = .ok (.iconst 1, 1) := by decide +kernel
theorem dX5_order_17 : decode cX5_order 17 = .ok (.istore_n 3, 1) := by decide +kernel
theorem dX5_order_18 : decode cX5_order 18 = .ok (.iload_n 2, 1) := by decide +kernel
theorem dX5_order_19 : decode cX5_order 19 = .ok (.istore 4, 2) := by decide +kernel
theorem dX5_order_21 : decode cX5_order 21 = .ok (.iload 4, 2) := by decide +kernel
theorem dX5_order_23 : decode cX5_order 23 = .ok (.ifCond .eq 19, 3) := by decide +kernel
theorem dX5_order_26 : decode cX5_order 26 = .ok (.aload_n 0, 1) := by decide +kernel
theorem dX5_order_27 : decode cX5_order 27 = .ok (.iload_n 1, 1) := by decide +kernel
theorem dX5_order_28 : decode cX5_order 28 = .ok (.iload 4, 2) := by decide +kernel
theorem dX5_order_30 : decode cX5_order 30 = .ok (.iload_n 2, 1) := by decide +kernel
theorem dX5_order_31 : decode cX5_order 31 = .ok (.invokevirtual 235, 3) := by decide +kernel
theorem dX5_order_34 : decode cX5_order 34 = .ok (.istore 4, 2) := by decide +kernel
theorem dX5_order_36 : decode cX5_order 36 = .ok (.iinc 3 1, 3) := by decide +kernel
theorem dX5_order_39 : decode cX5_order 39 = .ok (.goto (-18), 3) := by decide +kernel
theorem dX5_order_42 : decode cX5_order 42 = .ok (.iload_n 3, 1) := by decide +kernel
theorem dX5_order_43 : decode cX5_order 43 = .ok (.ireturn, 1) := by decide +kernel
theorem dX5_told_0 : decode cX5_told 0 = .ok (.aload_n 0, 1) := by decide +kernel
theorem dX5_told_1 : decode cX5_told 1 = .ok (.iconst 0, 1) := by decide +kernel
theorem dX5_told_2 : decode cX5_told 2 = .ok (.putfield 67, 3) := by decide +kernel
theorem dX5_told_5 : decode cX5_told 5 = .ok (.iload_n 1, 1) := by decide +kernel
theorem dX5_told_6 : decode cX5_told 6 = .ok (.ifCond .ne 10, 3) := by decide +kernel
theorem dX5_told_9 : decode cX5_told 9 = .ok (.aload_n 0, 1) := by decide +kernel
theorem dX5_told_10 : decode cX5_told 10 = .ok (.getfield 7, 3) := by decide +kernel
theorem dX5_told_13 : decode cX5_told 13 = .ok (.goto 40, 3) := by decide +kernel
theorem dX5_told_16 : decode cX5_told 16 = .ok (.iload_n 1, 1) := by decide +kernel
theorem dX5_told_17 : decode cX5_told 17 = .ok (.iconst 1, 1) := by decide +kernel
theorem dX5_told_18 : decode cX5_told 18 = .ok (.if_icmp .ne 10, 3) := by decide +kernel
theorem dX5_told_21 : decode cX5_told 21 = .ok (.aload_n 0, 1) := by decide +kernel
theorem dX5_told_22 : decode cX5_told 22 = .ok (.getfield 13, 3) := by decide +kernel
theorem dX5_told_25 : decode cX5_told 25 = .ok (.goto 28, 3) := by decide +kernel
theorem dX5_told_28 : decode cX5_told 28 = .ok (.iload_n 1, 1) := by decide +kernel
theorem dX5_told_29 : decode cX5_told 29 = .ok (.iconst 2, 1) := by decide +kernel
theorem dX5_told_30 : decode cX5_told 30 = .ok (.if_icmp .ne 10, 3) := by decide +kernel
theorem dX5_told_33 : decode cX5_told 33 = .ok (.aload_n 0, 1) := by decide +kernel
theorem dX5_told_34 : decode cX5_told 34 = .ok (.getfield 108, 3) := by decide +kernel
theorem dX5_told_37 : decode cX5_told 37 = .ok (.goto 16, 3) := by decide +kernel
theorem dX5_told_40 : decode cX5_told 40 = .ok (.iload_n 1, 1) := by decide +kernel
theorem dX5_told_41 : decode cX5_told 41 = .ok (.iconst 3, 1) := by decide +kernel
theorem dX5_told_42 : decode cX5_told 42 = .ok (.if_icmp .ne 10, 3) := by decide +kernel
end
section
theorem dX5_told_45 : decode cX5_told 45 = .ok (.aload_n 0, 1) := by decide +kernel
theorem dX5_told_46 : decode cX5_told 46 = .ok (.getfield 117, 3) := by decide +kernel
theorem dX5_told_49 : decode cX5_told 49 = .ok (.goto 4, 3) := by decide +kernel
theorem dX5_told_52 : decode cX5_told 52 = .ok (.iconst (-1), 1) := by decide +kernel
theorem dX5_told_53 : decode cX5_told 53 = .ok (.ireturn, 1) := by decide +kernel
theorem dX5_traced_0 : decode cX5_traced 0 = .ok (.aload_n 0, 1) := by decide +kernel
theorem dX5_traced_1 : decode cX5_traced 1 = .ok (.iconst 0, 1) := by decide +kernel
theorem dX5_traced_2 : decode cX5_traced 2 = .ok (.putfield 67, 3) := by decide +kernel
theorem dX5_traced_5 : decode cX5_traced 5 = .ok (.aload_n 0, 1) := by decide +kernel
theorem dX5_traced_6 : decode cX5_traced 6 = .ok (.getfield 175, 3) := by decide +kernel
theorem dX5_traced_9 : decode cX5_traced 9 = .ok (.lreturn, 1) := by decide +kernel
theorem dJ9_max_7cf53_0 : decode cJ9_max_7cf53 0 = .ok (.iload_n 0, 1) := by decide +kernel
theorem dJ9_max_7cf53_1 : decode cJ9_max_7cf53 1 = .ok (.iload_n 1, 1) := by decide +kernel
theorem dJ9_max_7cf53_2 : decode cJ9_max_7cf53 2 = .ok (.if_icmp .lt 7, 3) := by decide +kernel
theorem dJ9_max_7cf53_5 : decode cJ9_max_7cf53 5 = .ok (.iload_n 0, 1) := by decide +kernel
theorem dJ9_max_7cf53_6 : decode cJ9_max_7cf53 6 = .ok (.goto 4, 3) := by decide +kernel
theorem dJ9_max_7cf53_9 : decode cJ9_max_7cf53 9 = .ok (.iload_n 1, 1) := by decide +kernel
theorem dJ9_max_7cf53_10 : decode cJ9_max_7cf53 10 = .ok (.ireturn, 1) := by decide +kernel
theorem dJ9_min_7cf53_0 : decode cJ9_min_7cf53 0 = .ok (.iload_n 0, 1) := by decide +kernel
theorem dJ9_min_7cf53_1 : decode cJ9_min_7cf53 1 = .ok (.iload_n 1, 1) := by decide +kernel
theorem dJ9_min_7cf53_2 : decode cJ9_min_7cf53 2 = .ok (.if_icmp .gt 7, 3) := by decide +kernel
theorem dJ9_min_7cf53_5 : decode cJ9_min_7cf53 5 = .ok (.iload_n 0, 1) := by decide +kernel
theorem dJ9_min_7cf53_6 : decode cJ9_min_7cf53 6 = .ok (.goto 4, 3) := by decide +kernel
theorem dJ9_min_7cf53_9 : decode cJ9_min_7cf53 9 = .ok (.iload_n 1, 1) := by decide +kernel
theorem dJ9_min_7cf53_10 : decode cJ9_min_7cf53 10 = .ok (.ireturn, 1) := by decide +kernel
theorem dJ7_fill_53178_0 : decode cJ7_fill_53178 0 = .ok (.iconst 0, 1) := by decide +kernel
theorem dJ7_fill_53178_1 : decode cJ7_fill_53178 1 = .ok (.istore_n 2, 1) := by decide +kernel
theorem dJ7_fill_53178_2 : decode cJ7_fill_53178 2 = .ok (.aload_n 0, 1) := by decide +kernel
theorem dJ7_fill_53178_3 : decode cJ7_fill_53178 3 = .ok (.arraylength, 1) := by decide +kernel
theorem dJ7_fill_53178_4 : decode cJ7_fill_53178 4 = .ok (.istore_n 3, 1) := by decide +kernel
theorem dJ7_fill_53178_5 : decode cJ7_fill_53178 5 = .ok (.iload_n 2, 1) := by decide +kernel
theorem dJ7_fill_53178_6 : decode cJ7_fill_53178 6 = .ok (.iload_n 3, 1) := by decide +kernel
theorem dJ7_fill_53178_7 : decode cJ7_fill_53178 7 = .ok (.if_icmp .ge 13, 3) := by decide +kernel
theorem dJ7_fill_53178_10 : decode cJ7_fill_53178 10 = .ok (.aload_n 0, 1) := by decide +kernel
theorem dJ7_fill_53178_11 : decode cJ7_fill_53178 11 = .ok (.iload_n 2, 1) := by decide +kernel
theorem dJ7_fill_53178_12 : decode cJ7_fill_53178 12 = .ok (.iload_n 1, 1) := by decide +kernel
theorem dJ7_fill_53178_13 : decode cJ7_fill_53178 13 = .ok (.iastore, 1) := by decide +kernel
theorem dJ7_fill_53178_14 : decode cJ7_fill_53178 14 = .ok (.iinc 2 1, 3) := by decide +kernel
theorem dJ7_fill_53178_17 : decode cJ7_fill_53178 17 = .ok (.goto (-12), 3) := by decide +kernel
theorem dJ7_fill_53178_20 : decode cJ7_fill_53178 20 = .ok (.return_, 1) := by decide +kernel
theorem dL_law_0 : decode cL_law 0 = .ok (.new 7, 3) := by decide +kernel
theorem dL_law_3 : decode cL_law 3 = .ok (.dup, 1) := by decide +kernel
theorem dL_law_4 : decode cL_law 4 = .ok (.invokespecial 9, 3) := by decide +kernel
theorem dL_law_7 : decode cL_law 7 = .ok (.astore_n 1, 1) := by decide +kernel
theorem dL_law_8 : decode cL_law 8 = .ok (.new 10, 3) := by decide +kernel
theorem dL_law_11 : decode cL_law 11 = .ok (.dup, 1) := by decide +kernel
theorem dL_law_12 : decode cL_law 12 = .ok (.invokespecial 12, 3) := by decide +kernel
theorem dL_law_15 : decode cL_law 15 = .ok (.astore_n 2, 1) := by decide +kernel
theorem dL_law_16 : decode cL_law 16 = .ok (.iconst 0, 1) := by decide +kernel
theorem dL_law_17 : decode cL_law 17 = .ok (.istore_n 3, 1) := by decide +kernel
theorem dL_law_18 : decode cL_law 18 = .ok (.iload_n 3, 1) := by decide +kernel
theorem dL_law_19 : decode cL_law 19 = .ok (.aload_n 0, 1) := by decide +kernel
theorem dL_law_20 : decode cL_law 20 = .ok (.arraylength, 1) := by decide +kernel
theorem dL_law_21 : decode cL_law 21 = .ok (.iconst 5, 1) := by decide +kernel
theorem dL_law_22 : decode cL_law 22 = .ok (.isub, 1) := by decide +kernel
theorem dL_law_23 : decode cL_law 23 = .ok (.if_icmp .gt 1190, 3) := by decide +kernel
theorem dL_law_26 : decode cL_law 26 = .ok (.aload_n 0, 1) := by decide +kernel
theorem dL_law_27 : decode cL_law 27 = .ok (.iload_n 3, 1) := by decide +kernel
theorem dL_law_28 : decode cL_law 28 = .ok (.iaload, 1) := by decide +kernel
theorem dL_law_29 : decode cL_law 29 = .ok (.bipush 31, 2) := by decide +kernel
theorem dL_law_31 : decode cL_law 31 = .ok (.iand, 1) := by decide +kernel
theorem dL_law_32 : decode cL_law 32 = .ok (.tableswitch 1175 0 30 #[140, 163, 186, 209, 252, 295, 328, 371, 404, 437, 470, 523, 566, 579, 612, 655, 688, 721, 754, 788, 811, 834, 877, 920, 963, 986, 1029, 1072, 1105, 1138, 1161], 140) := by decide +kernel
theorem dL_law_172 : decode cL_law 172 = .ok (.aload_n 1, 1) := by decide +kernel
theorem dL_law_173 : decode cL_law 173 = .ok (.aload_n 0, 1) := by decide +kernel
theorem dL_law_174 : decode cL_law 174 = .ok (.iload_n 3, 1) := by decide +kernel
theorem dL_law_175 : decode cL_law 175 = .ok (.iconst 1, 1) := by decide +kernel
theorem dL_law_176 : decode cL_law 176 = .ok (.iadd, 1) := by decide +kernel
theorem dL_law_177 : decode cL_law 177 = .ok (.iaload, 1) := by decide +kernel
theorem dL_law_178 : decode cL_law 178 = .ok (.invokevirtual 13, 3) := by decide +kernel
theorem dL_law_181 : decode cL_law 181 = .ok (.aload_n 2, 1) := by decide +kernel
theorem dL_law_182 : decode cL_law 182 = .ok (.aload_n 0, 1) := by decide +kernel
theorem dL_law_183 : decode cL_law 183 = .ok (.iload_n 3, 1) := by decide +kernel
theorem dL_law_184 : decode cL_law 184 = .ok (.iconst 1, 1) := by decide +kernel
theorem dL_law_185 : decode cL_law 185 = .ok (.iadd, 1) := by decide +kernel
theorem dL_law_186 : decode cL_law 186 = .ok (.iaload, 1) := by decide +kernel
theorem dL_law_187 : decode cL_law 187 = .ok (.invokevirtual 17, 3) := by decide +kernel
theorem dL_law_190 : decode cL_law 190 = .ok (.if_icmp .eq 1017, 3) := by decide +kernel
theorem dL_law_193 : decode cL_law 193 = .ok (.iconst 0, 1) := by decide +kernel
theorem dL_law_194 : decode cL_law 194 = .ok (.ireturn, 1) := by decide +kernel
theorem dL_law_195 : decode cL_law 195 = .ok (.aload_n 1, 1) := by decide +kernel
theorem dL_law_196 : decode cL_law 196 = .ok (.aload_n 0, 1) := by decide +kernel
theorem dL_law_197 : decode cL_law 197 = .ok (.iload_n 3, 1) := by decide +kernel
theorem dL_law_198 : decode cL_law 198 = .ok (.iconst 1, 1) := by decide +kernel
theorem dL_law_199 : decode cL_law 199 = .ok (.iadd, 1) := by decide +kernel
theorem dL_law_200 : decode cL_law 200 = .ok (.iaload, 1) := by decide +kernel
theorem dL_law_201 : decode cL_law 201 = .ok (.invokevirtual 18, 3) := by decide +kernel
theorem dL_law_204 : decode cL_law 204 = .ok (.aload_n 2, 1) := by decide +kernel
theorem dL_law_205 : decode cL_law 205 = .ok (.aload_n 0, 1) := by decide +kernel
theorem dL_law_206 : decode cL_law 206 = .ok (.iload_n 3, 1) := by decide +kernel
theorem dL_law_207 : decode cL_law 207 = .ok (.iconst 1, 1) := by decide +kernel
theorem dL_law_208 : decode cL_law 208 = .ok (.iadd, 1) := by decide +kernel
theorem dL_law_209 : decode cL_law 209 = .ok (.iaload, 1) := by decide +kernel
theorem dL_law_210 : decode cL_law 210 = .ok (.invokevirtual 21, 3) := by decide +kernel
theorem dL_law_213 : decode cL_law 213 = .ok (.if_icmp .eq 994, 3) := by decide +kernel
theorem dL_law_216 : decode cL_law 216 = .ok (.iconst 0, 1) := by decide +kernel
theorem dL_law_217 : decode cL_law 217 = .ok (.ireturn, 1) := by decide +kernel
theorem dL_law_218 : decode cL_law 218 = .ok (.aload_n 1, 1) := by decide +kernel
theorem dL_law_219 : decode cL_law 219 = .ok (.aload_n 0, 1) := by decide +kernel
theorem dL_law_220 : decode cL_law 220 = .ok (.iload_n 3, 1) := by decide +kernel
theorem dL_law_221 : decode cL_law 221 = .ok (.iconst 1, 1) := by decide +kernel
theorem dL_law_222 : decode cL_law 222 = .ok (.iadd, 1) := by decide +kernel
theorem dL_law_223 : decode cL_law 223 = .ok (.iaload, 1) := by decide +kernel
theorem dL_law_224 : decode cL_law 224 = .ok (.invokevirtual 22, 3) := by decide +kernel
theorem dL_law_227 : decode cL_law 227 = .ok (.aload_n 2, 1) := by decide +kernel
theorem dL_law_228 : decode cL_law 228 = .ok (.aload_n 0, 1) := by decide +kernel
theorem dL_law_229 : decode cL_law 229 = .ok (.iload_n 3, 1) := by decide +kernel
theorem dL_law_230 : decode cL_law 230 = .ok (.iconst 1, 1) := by decide +kernel
theorem dL_law_231 : decode cL_law 231 = .ok (.iadd, 1) := by decide +kernel
theorem dL_law_232 : decode cL_law 232 = .ok (.iaload, 1) := by decide +kernel
theorem dL_law_233 : decode cL_law 233 = .ok (.invokevirtual 25, 3) := by decide +kernel
theorem dL_law_236 : decode cL_law 236 = .ok (.if_icmp .eq 971, 3) := by decide +kernel
theorem dL_law_239 : decode cL_law 239 = .ok (.iconst 0, 1) := by decide +kernel
theorem dL_law_240 : decode cL_law 240 = .ok (.ireturn, 1) := by decide +kernel
theorem dL_law_241 : decode cL_law 241 = .ok (.aload_n 1, 1) := by decide +kernel
theorem dL_law_242 : decode cL_law 242 = .ok (.aload_n 0, 1) := by decide +kernel
theorem dL_law_243 : decode cL_law 243 = .ok (.iload_n 3, 1) := by decide +kernel
theorem dL_law_244 : decode cL_law 244 = .ok (.iconst 1, 1) := by decide +kernel
theorem dL_law_245 : decode cL_law 245 = .ok (.iadd, 1) := by decide +kernel
theorem dL_law_246 : decode cL_law 246 = .ok (.iaload, 1) := by decide +kernel
theorem dL_law_247 : decode cL_law 247 = .ok (.aload_n 0, 1) := by decide +kernel
theorem dL_law_248 : decode cL_law 248 = .ok (.iload_n 3, 1) := by decide +kernel
theorem dL_law_249 : decode cL_law 249 = .ok (.iconst 2, 1) := by decide +kernel
theorem dL_law_250 : decode cL_law 250 = .ok (.iadd, 1) := by decide +kernel
theorem dL_law_251 : decode cL_law 251 = .ok (.iaload, 1) := by decide +kernel
theorem dL_law_252 : decode cL_law 252 = .ok (.aload_n 0, 1) := by decide +kernel
theorem dL_law_253 : decode cL_law 253 = .ok (.iload_n 3, 1) := by decide +kernel
theorem dL_law_254 : decode cL_law 254 = .ok (.iconst 3, 1) := by decide +kernel
theorem dL_law_255 : decode cL_law 255 = .ok (.iadd, 1) := by decide +kernel
theorem dL_law_256 : decode cL_law 256 = .ok (.iaload, 1) := by decide +kernel
theorem dL_law_257 : decode cL_law 257 = .ok (.invokevirtual 26, 3) := by decide +kernel
theorem dL_law_260 : decode cL_law 260 = .ok (.aload_n 2, 1) := by decide +kernel
theorem dL_law_261 : decode cL_law 261 = .ok (.aload_n 0, 1) := by decide +kernel
theorem dL_law_262 : decode cL_law 262 = .ok (.iload_n 3, 1) := by decide +kernel
theorem dL_law_263 : decode cL_law 263 = .ok (.iconst 1, 1) := by decide +kernel
theorem dL_law_264 : decode cL_law 264 = .ok (.iadd, 1) := by decide +kernel
theorem dL_law_265 : decode cL_law 265 = .ok (.iaload, 1) := by decide +kernel
theorem dL_law_266 : decode cL_law 266 = .ok (.aload_n 0, 1) := by decide +kernel
theorem dL_law_267 : decode cL_law 267 = .ok (.iload_n 3, 1) := by decide +kernel
theorem dL_law_268 : decode cL_law 268 = .ok (.iconst 2, 1) := by decide +kernel
theorem dL_law_269 : decode cL_law 269 = .ok (.iadd, 1) := by decide +kernel
theorem dL_law_270 : decode cL_law 270 = .ok (.iaload, 1) := by decide +kernel
theorem dL_law_271 : decode cL_law 271 = .ok (.aload_n 0, 1) := by decide +kernel
theorem dL_law_272 : decode cL_law 272 = .ok (.iload_n 3, 1) := by decide +kernel
theorem dL_law_273 : decode cL_law 273 = .ok (.iconst 3, 1) := by decide +kernel
theorem dL_law_274 : decode cL_law 274 = .ok (.iadd, 1) := by decide +kernel
theorem dL_law_275 : decode cL_law 275 = .ok (.iaload, 1) := by decide +kernel
theorem dL_law_276 : decode cL_law 276 = .ok (.invokevirtual 30, 3) := by decide +kernel
theorem dL_law_279 : decode cL_law 279 = .ok (.if_icmp .eq 928, 3) := by decide +kernel
theorem dL_law_282 : decode cL_law 282 = .ok (.iconst 0, 1) := by decide +kernel
theorem dL_law_283 : decode cL_law 283 = .ok (.ireturn, 1) := by decide +kernel
theorem dL_law_284 : decode cL_law 284 = .ok (.aload_n 1, 1) := by decide +kernel
theorem dL_law_285 : decode cL_law 285 = .ok (.aload_n 0, 1) := by decide +kernel
theorem dL_law_286 : decode cL_law 286 = .ok (.iload_n 3, 1) := by decide +kernel
theorem dL_law_287 : decode cL_law 287 = .ok (.iconst 1, 1) := by decide +kernel
theorem dL_law_288 : decode cL_law 288 = .ok (.iadd, 1) := by decide +kernel
theorem dL_law_289 : decode cL_law 289 = .ok (.iaload, 1) := by decide +kernel
theorem dL_law_290 : decode cL_law 290 = .ok (.aload_n 0, 1) := by decide +kernel
theorem dL_law_291 : decode cL_law 291 = .ok (.iload_n 3, 1) := by decide +kernel
theorem dL_law_292 : decode cL_law 292 = .ok (.iconst 2, 1) := by decide +kernel
theorem dL_law_293 : decode cL_law 293 = .ok (.iadd, 1) := by decide +kernel
theorem dL_law_294 : decode cL_law 294 = .ok (.iaload, 1) := by decide +kernel
theorem dL_law_295 : decode cL_law 295 = .ok (.aload_n 0, 1) := by decide +kernel
theorem dL_law_296 : decode cL_law 296 = .ok (.iload_n 3, 1) := by decide +kernel
theorem dL_law_297 : decode cL_law 297 = .ok (.iconst 3, 1) := by decide +kernel
theorem dL_law_298 : decode cL_law 298 = .ok (.iadd, 1) := by decide +kernel
theorem dL_law_299 : decode cL_law 299 = .ok (.iaload, 1) := by decide +kernel
theorem dL_law_300 : decode cL_law 300 = .ok (.invokevirtual 31, 3) := by decide +kernel
theorem dL_law_303 : decode cL_law 303 = .ok (.aload_n 2, 1) := by decide +kernel
theorem dL_law_304 : decode cL_law 304 = .ok (.aload_n 0, 1) := by decide +kernel
theorem dL_law_305 : decode cL_law 305 = .ok (.iload_n 3, 1) := by decide +kernel
theorem dL_law_306 : decode cL_law 306 = .ok (.iconst 1, 1) := by decide +kernel
theorem dL_law_307 : decode cL_law 307 = .ok (.iadd, 1) := by decide +kernel
theorem dL_law_308 : decode cL_law 308 = .ok (.iaload, 1) := by decide +kernel
theorem dL_law_309 : decode cL_law 309 = .ok (.aload_n 0, 1) := by decide +kernel
theorem dL_law_310 : decode cL_law 310 = .ok (.iload_n 3, 1) := by decide +kernel
theorem dL_law_311 : decode cL_law 311 = .ok (.iconst 2, 1) := by decide +kernel
theorem dL_law_312 : decode cL_law 312 = .ok (.iadd, 1) := by decide +kernel
theorem dL_law_313 : decode cL_law 313 = .ok (.iaload, 1) := by decide +kernel
theorem dL_law_314 : decode cL_law 314 = .ok (.aload_n 0, 1) := by decide +kernel
theorem dL_law_315 : decode cL_law 315 = .ok (.iload_n 3, 1) := by decide +kernel
theorem dL_law_316 : decode cL_law 316 = .ok (.iconst 3, 1) := by decide +kernel
theorem dL_law_317 : decode cL_law 317 = .ok (.iadd, 1) := by decide +kernel
theorem dL_law_318 : decode cL_law 318 = .ok (.iaload, 1) := by decide +kernel
theorem dL_law_319 : decode cL_law 319 = .ok (.invokevirtual 34, 3) := by decide +kernel
theorem dL_law_322 : decode cL_law 322 = .ok (.if_icmp .eq 885, 3) := by decide +kernel
theorem dL_law_325 : decode cL_law 325 = .ok (.iconst 0, 1) := by decide +kernel
theorem dL_law_326 : decode cL_law 326 = .ok (.ireturn, 1) := by decide +kernel
theorem dL_law_327 : decode cL_law 327 = .ok (.aload_n 1, 1) := by decide +kernel
theorem dL_law_328 : decode cL_law 328 = .ok (.aload_n 0, 1) := by decide +kernel
theorem dL_law_329 : decode cL_law 329 = .ok (.iload_n 3, 1) := by decide +kernel
theorem dL_law_330 : decode cL_law 330 = .ok (.iconst 1, 1) := by decide +kernel
theorem dL_law_331 : decode cL_law 331 = .ok (.iadd, 1) := by decide +kernel
theorem dL_law_332 : decode cL_law 332 = .ok (.iaload, 1) := by decide +kernel
theorem dL_law_333 : decode cL_law 333 = .ok (.aload_n 0, 1) := by decide +kernel
theorem dL_law_334 : decode cL_law 334 = .ok (.iload_n 3, 1) := by decide +kernel
theorem dL_law_335 : decode cL_law 335 = .ok (.iconst 2, 1) := by decide +kernel
theorem dL_law_336 : decode cL_law 336 = .ok (.iadd, 1) := by decide +kernel
theorem dL_law_337 : decode cL_law 337 = .ok (.iaload, 1) := by decide +kernel
theorem dL_law_338 : decode cL_law 338 = .ok (.invokevirtual 35, 3) := by decide +kernel
theorem dL_law_341 : decode cL_law 341 = .ok (.aload_n 2, 1) := by decide +kernel
theorem dL_law_342 : decode cL_law 342 = .ok (.aload_n 0, 1) := by decide +kernel
theorem dL_law_343 : decode cL_law 343 = .ok (.iload_n 3, 1) := by decide +kernel
theorem dL_law_344 : decode cL_law 344 = .ok (.iconst 1, 1) := by decide +kernel
theorem dL_law_345 : decode cL_law 345 = .ok (.iadd, 1) := by decide +kernel
theorem dL_law_346 : decode cL_law 346 = .ok (.iaload, 1) := by decide +kernel
theorem dL_law_347 : decode cL_law 347 = .ok (.aload_n 0, 1) := by decide +kernel
theorem dL_law_348 : decode cL_law 348 = .ok (.iload_n 3, 1) := by decide +kernel
theorem dL_law_349 : decode cL_law 349 = .ok (.iconst 2, 1) := by decide +kernel
theorem dL_law_350 : decode cL_law 350 = .ok (.iadd, 1) := by decide +kernel
theorem dL_law_351 : decode cL_law 351 = .ok (.iaload, 1) := by decide +kernel
theorem dL_law_352 : decode cL_law 352 = .ok (.invokevirtual 39, 3) := by decide +kernel
theorem dL_law_355 : decode cL_law 355 = .ok (.if_icmp .eq 852, 3) := by decide +kernel
theorem dL_law_358 : decode cL_law 358 = .ok (.iconst 0, 1) := by decide +kernel
theorem dL_law_359 : decode cL_law 359 = .ok (.ireturn, 1) := by decide +kernel
theorem dL_law_360 : decode cL_law 360 = .ok (.aload_n 1, 1) := by decide +kernel
theorem dL_law_361 : decode cL_law 361 = .ok (.aload_n 0, 1) := by decide +kernel
theorem dL_law_362 : decode cL_law 362 = .ok (.iload_n 3, 1) := by decide +kernel
theorem dL_law_363 : decode cL_law 363 = .ok (.iconst 1, 1) := by decide +kernel
theorem dL_law_364 : decode cL_law 364 = .ok (.iadd, 1) := by decide +kernel
theorem dL_law_365 : decode cL_law 365 = .ok (.iaload, 1) := by decide +kernel
theorem dL_law_366 : decode cL_law 366 = .ok (.aload_n 0, 1) := by decide +kernel
theorem dL_law_367 : decode cL_law 367 = .ok (.iload_n 3, 1) := by decide +kernel
theorem dL_law_368 : decode cL_law 368 = .ok (.iconst 2, 1) := by decide +kernel
theorem dL_law_369 : decode cL_law 369 = .ok (.iadd, 1) := by decide +kernel
theorem dL_law_370 : decode cL_law 370 = .ok (.iaload, 1) := by decide +kernel
theorem dL_law_371 : decode cL_law 371 = .ok (.aload_n 0, 1) := by decide +kernel
theorem dL_law_372 : decode cL_law 372 = .ok (.iload_n 3, 1) := by decide +kernel
theorem dL_law_373 : decode cL_law 373 = .ok (.iconst 3, 1) := by decide +kernel
theorem dL_law_374 : decode cL_law 374 = .ok (.iadd, 1) := by decide +kernel
theorem dL_law_375 : decode cL_law 375 = .ok (.iaload, 1) := by decide +kernel
theorem dL_law_376 : decode cL_law 376 = .ok (.invokevirtual 40, 3) := by decide +kernel
theorem dL_law_379 : decode cL_law 379 = .ok (.aload_n 2, 1) := by decide +kernel
theorem dL_law_380 : decode cL_law 380 = .ok (.aload_n 0, 1) := by decide +kernel
theorem dL_law_381 : decode cL_law 381 = .ok (.iload_n 3, 1) := by decide +kernel
theorem dL_law_382 : decode cL_law 382 = .ok (.iconst 1, 1) := by decide +kernel
theorem dL_law_383 : decode cL_law 383 = .ok (.iadd, 1) := by decide +kernel
theorem dL_law_384 : decode cL_law 384 = .ok (.iaload, 1) := by decide +kernel
theorem dL_law_385 : decode cL_law 385 = .ok (.aload_n 0, 1) := by decide +kernel
theorem dL_law_386 : decode cL_law 386 = .ok (.iload_n 3, 1) := by decide +kernel
theorem dL_law_387 : decode cL_law 387 = .ok (.iconst 2, 1) := by decide +kernel
theorem dL_law_388 : decode cL_law 388 = .ok (.iadd, 1) := by decide +kernel
theorem dL_law_389 : decode cL_law 389 = .ok (.iaload, 1) := by decide +kernel
theorem dL_law_390 : decode cL_law 390 = .ok (.aload_n 0, 1) := by decide +kernel
theorem dL_law_391 : decode cL_law 391 = .ok (.iload_n 3, 1) := by decide +kernel
theorem dL_law_392 : decode cL_law 392 = .ok (.iconst 3, 1) := by decide +kernel
theorem dL_law_393 : decode cL_law 393 = .ok (.iadd, 1) := by decide +kernel
theorem dL_law_394 : decode cL_law 394 = .ok (.iaload, 1) := by decide +kernel
theorem dL_law_395 : decode cL_law 395 = .ok (.invokevirtual 43, 3) := by decide +kernel
theorem dL_law_398 : decode cL_law 398 = .ok (.if_icmp .eq 809, 3) := by decide +kernel
theorem dL_law_401 : decode cL_law 401 = .ok (.iconst 0, 1) := by decide +kernel
theorem dL_law_402 : decode cL_law 402 = .ok (.ireturn, 1) := by decide +kernel
theorem dL_law_403 : decode cL_law 403 = .ok (.aload_n 1, 1) := by decide +kernel
theorem dL_law_404 : decode cL_law 404 = .ok (.aload_n 0, 1) := by decide +kernel
theorem dL_law_405 : decode cL_law 405 = .ok (.iload_n 3, 1) := by decide +kernel
theorem dL_law_406 : decode cL_law 406 = .ok (.iconst 1, 1) := by decide +kernel
theorem dL_law_407 : decode cL_law 407 = .ok (.iadd, 1) := by decide +kernel
theorem dL_law_408 : decode cL_law 408 = .ok (.iaload, 1) := by decide +kernel
theorem dL_law_409 : decode cL_law 409 = .ok (.aload_n 0, 1) := by decide +kernel
theorem dL_law_410 : decode cL_law 410 = .ok (.iload_n 3, 1) := by decide +kernel
theorem dL_law_411 : decode cL_law 411 = .ok (.iconst 2, 1) := by decide +kernel
theorem dL_law_412 : decode cL_law 412 = .ok (.iadd, 1) := by decide +kernel
theorem dL_law_413 : decode cL_law 413 = .ok (.iaload, 1) := by decide +kernel
theorem dL_law_414 : decode cL_law 414 = .ok (.invokevirtual 44, 3) := by decide +kernel
theorem dL_law_417 : decode cL_law 417 = .ok (.aload_n 2, 1) := by decide +kernel
theorem dL_law_418 : decode cL_law 418 = .ok (.aload_n 0, 1) := by decide +kernel
theorem dL_law_419 : decode cL_law 419 = .ok (.iload_n 3, 1) := by decide +kernel
theorem dL_law_420 : decode cL_law 420 = .ok (.iconst 1, 1) := by decide +kernel
theorem dL_law_421 : decode cL_law 421 = .ok (.iadd, 1) := by decide +kernel
theorem dL_law_422 : decode cL_law 422 = .ok (.iaload, 1) := by decide +kernel
theorem dL_law_423 : decode cL_law 423 = .ok (.aload_n 0, 1) := by decide +kernel
theorem dL_law_424 : decode cL_law 424 = .ok (.iload_n 3, 1) := by decide +kernel
theorem dL_law_425 : decode cL_law 425 = .ok (.iconst 2, 1) := by decide +kernel
theorem dL_law_426 : decode cL_law 426 = .ok (.iadd, 1) := by decide +kernel
theorem dL_law_427 : decode cL_law 427 = .ok (.iaload, 1) := by decide +kernel
theorem dL_law_428 : decode cL_law 428 = .ok (.invokevirtual 47, 3) := by decide +kernel
theorem dL_law_431 : decode cL_law 431 = .ok (.if_icmp .eq 776, 3) := by decide +kernel
theorem dL_law_434 : decode cL_law 434 = .ok (.iconst 0, 1) := by decide +kernel
theorem dL_law_435 : decode cL_law 435 = .ok (.ireturn, 1) := by decide +kernel
theorem dL_law_436 : decode cL_law 436 = .ok (.aload_n 1, 1) := by decide +kernel
theorem dL_law_437 : decode cL_law 437 = .ok (.aload_n 0, 1) := by decide +kernel
theorem dL_law_438 : decode cL_law 438 = .ok (.iload_n 3, 1) := by decide +kernel
theorem dL_law_439 : decode cL_law 439 = .ok (.iconst 1, 1) := by decide +kernel
theorem dL_law_440 : decode cL_law 440 = .ok (.iadd, 1) := by decide +kernel
theorem dL_law_441 : decode cL_law 441 = .ok (.iaload, 1) := by decide +kernel
theorem dL_law_442 : decode cL_law 442 = .ok (.aload_n 0, 1) := by decide +kernel
theorem dL_law_443 : decode cL_law 443 = .ok (.iload_n 3, 1) := by decide +kernel
theorem dL_law_444 : decode cL_law 444 = .ok (.iconst 2, 1) := by decide +kernel
theorem dL_law_445 : decode cL_law 445 = .ok (.iadd, 1) := by decide +kernel
theorem dL_law_446 : decode cL_law 446 = .ok (.iaload, 1) := by decide +kernel
theorem dL_law_447 : decode cL_law 447 = .ok (.invokevirtual 48, 3) := by decide +kernel
theorem dL_law_450 : decode cL_law 450 = .ok (.aload_n 2, 1) := by decide +kernel
theorem dL_law_451 : decode cL_law 451 = .ok (.aload_n 0, 1) := by decide +kernel
theorem dL_law_452 : decode cL_law 452 = .ok (.iload_n 3, 1) := by decide +kernel
theorem dL_law_453 : decode cL_law 453 = .ok (.iconst 1, 1) := by decide +kernel
theorem dL_law_454 : decode cL_law 454 = .ok (.iadd, 1) := by decide +kernel
theorem dL_law_455 : decode cL_law 455 = .ok (.iaload, 1) := by decide +kernel
theorem dL_law_456 : decode cL_law 456 = .ok (.aload_n 0, 1) := by decide +kernel
theorem dL_law_457 : decode cL_law 457 = .ok (.iload_n 3, 1) := by decide +kernel
theorem dL_law_458 : decode cL_law 458 = .ok (.iconst 2, 1) := by decide +kernel
theorem dL_law_459 : decode cL_law 459 = .ok (.iadd, 1) := by decide +kernel
theorem dL_law_460 : decode cL_law 460 = .ok (.iaload, 1) := by decide +kernel
theorem dL_law_461 : decode cL_law 461 = .ok (.invokevirtual 51, 3) := by decide +kernel
theorem dL_law_464 : decode cL_law 464 = .ok (.if_icmp .eq 743, 3) := by decide +kernel
theorem dL_law_467 : decode cL_law 467 = .ok (.iconst 0, 1) := by decide +kernel
theorem dL_law_468 : decode cL_law 468 = .ok (.ireturn, 1) := by decide +kernel
theorem dL_law_469 : decode cL_law 469 = .ok (.aload_n 1, 1) := by decide +kernel
theorem dL_law_470 : decode cL_law 470 = .ok (.aload_n 0, 1) := by decide +kernel
theorem dL_law_471 : decode cL_law 471 = .ok (.iload_n 3, 1) := by decide +kernel
theorem dL_law_472 : decode cL_law 472 = .ok (.iconst 1, 1) := by decide +kernel
theorem dL_law_473 : decode cL_law 473 = .ok (.iadd, 1) := by decide +kernel
theorem dL_law_474 : decode cL_law 474 = .ok (.iaload, 1) := by decide +kernel
theorem dL_law_475 : decode cL_law 475 = .ok (.aload_n 0, 1) := by decide +kernel
theorem dL_law_476 : decode cL_law 476 = .ok (.iload_n 3, 1) := by decide +kernel
theorem dL_law_477 : decode cL_law 477 = .ok (.iconst 2, 1) := by decide +kernel
theorem dL_law_478 : decode cL_law 478 = .ok (.iadd, 1) := by decide +kernel
theorem dL_law_479 : decode cL_law 479 = .ok (.iaload, 1) := by decide +kernel
theorem dL_law_480 : decode cL_law 480 = .ok (.invokevirtual 52, 3) := by decide +kernel
theorem dL_law_483 : decode cL_law 483 = .ok (.aload_n 2, 1) := by decide +kernel
theorem dL_law_484 : decode cL_law 484 = .ok (.aload_n 0, 1) := by decide +kernel
theorem dL_law_485 : decode cL_law 485 = .ok (.iload_n 3, 1) := by decide +kernel
theorem dL_law_486 : decode cL_law 486 = .ok (.iconst 1, 1) := by decide +kernel
theorem dL_law_487 : decode cL_law 487 = .ok (.iadd, 1) := by decide +kernel
theorem dL_law_488 : decode cL_law 488 = .ok (.iaload, 1) := by decide +kernel
theorem dL_law_489 : decode cL_law 489 = .ok (.aload_n 0, 1) := by decide +kernel
theorem dL_law_490 : decode cL_law 490 = .ok (.iload_n 3, 1) := by decide +kernel
theorem dL_law_491 : decode cL_law 491 = .ok (.iconst 2, 1) := by decide +kernel
theorem dL_law_492 : decode cL_law 492 = .ok (.iadd, 1) := by decide +kernel
theorem dL_law_493 : decode cL_law 493 = .ok (.iaload, 1) := by decide +kernel
theorem dL_law_494 : decode cL_law 494 = .ok (.invokevirtual 55, 3) := by decide +kernel
theorem dL_law_497 : decode cL_law 497 = .ok (.if_icmp .eq 710, 3) := by decide +kernel
theorem dL_law_500 : decode cL_law 500 = .ok (.iconst 0, 1) := by decide +kernel
theorem dL_law_501 : decode cL_law 501 = .ok (.ireturn, 1) := by decide +kernel
theorem dL_law_502 : decode cL_law 502 = .ok (.aload_n 1, 1) := by decide +kernel
theorem dL_law_503 : decode cL_law 503 = .ok (.aload_n 0, 1) := by decide +kernel
theorem dL_law_504 : decode cL_law 504 = .ok (.iload_n 3, 1) := by decide +kernel
theorem dL_law_505 : decode cL_law 505 = .ok (.iconst 1, 1) := by decide +kernel
theorem dL_law_506 : decode cL_law 506 = .ok (.iadd, 1) := by decide +kernel
theorem dL_law_507 : decode cL_law 507 = .ok (.iaload, 1) := by decide +kernel
theorem dL_law_508 : decode cL_law 508 = .ok (.aload_n 0, 1) := by decide +kernel
theorem dL_law_509 : decode cL_law 509 = .ok (.iload_n 3, 1) := by decide +kernel
theorem dL_law_510 : decode cL_law 510 = .ok (.iconst 2, 1) := by decide +kernel
theorem dL_law_511 : decode cL_law 511 = .ok (.iadd, 1) := by decide +kernel
theorem dL_law_512 : decode cL_law 512 = .ok (.iaload, 1) := by decide +kernel
theorem dL_law_513 : decode cL_law 513 = .ok (.aload_n 0, 1) := by decide +kernel
theorem dL_law_514 : decode cL_law 514 = .ok (.iload_n 3, 1) := by decide +kernel
theorem dL_law_515 : decode cL_law 515 = .ok (.iconst 3, 1) := by decide +kernel
theorem dL_law_516 : decode cL_law 516 = .ok (.iadd, 1) := by decide +kernel
theorem dL_law_517 : decode cL_law 517 = .ok (.iaload, 1) := by decide +kernel
theorem dL_law_518 : decode cL_law 518 = .ok (.aload_n 0, 1) := by decide +kernel
theorem dL_law_519 : decode cL_law 519 = .ok (.iload_n 3, 1) := by decide +kernel
theorem dL_law_520 : decode cL_law 520 = .ok (.iconst 4, 1) := by decide +kernel
theorem dL_law_521 : decode cL_law 521 = .ok (.iadd, 1) := by decide +kernel
theorem dL_law_522 : decode cL_law 522 = .ok (.iaload, 1) := by decide +kernel
theorem dL_law_523 : decode cL_law 523 = .ok (.invokevirtual 56, 3) := by decide +kernel
theorem dL_law_526 : decode cL_law 526 = .ok (.aload_n 2, 1) := by decide +kernel
theorem dL_law_527 : decode cL_law 527 = .ok (.aload_n 0, 1) := by decide +kernel
theorem dL_law_528 : decode cL_law 528 = .ok (.iload_n 3, 1) := by decide +kernel
theorem dL_law_529 : decode cL_law 529 = .ok (.iconst 1, 1) := by decide +kernel
theorem dL_law_530 : decode cL_law 530 = .ok (.iadd, 1) := by decide +kernel
theorem dL_law_531 : decode cL_law 531 = .ok (.iaload, 1) := by decide +kernel
theorem dL_law_532 : decode cL_law 532 = .ok (.aload_n 0, 1) := by decide +kernel
theorem dL_law_533 : decode cL_law 533 = .ok (.iload_n 3, 1) := by decide +kernel
theorem dL_law_534 : decode cL_law 534 = .ok (.iconst 2, 1) := by decide +kernel
theorem dL_law_535 : decode cL_law 535 = .ok (.iadd, 1) := by decide +kernel
theorem dL_law_536 : decode cL_law 536 = .ok (.iaload, 1) := by decide +kernel
theorem dL_law_537 : decode cL_law 537 = .ok (.aload_n 0, 1) := by decide +kernel
theorem dL_law_538 : decode cL_law 538 = .ok (.iload_n 3, 1) := by decide +kernel
theorem dL_law_539 : decode cL_law 539 = .ok (.iconst 3, 1) := by decide +kernel
theorem dL_law_540 : decode cL_law 540 = .ok (.iadd, 1) := by decide +kernel
theorem dL_law_541 : decode cL_law 541 = .ok (.iaload, 1) := by decide +kernel
theorem dL_law_542 : decode cL_law 542 = .ok (.aload_n 0, 1) := by decide +kernel
theorem dL_law_543 : decode cL_law 543 = .ok (.iload_n 3, 1) := by decide +kernel
theorem dL_law_544 : decode cL_law 544 = .ok (.iconst 4, 1) := by decide +kernel
theorem dL_law_545 : decode cL_law 545 = .ok (.iadd, 1) := by decide +kernel
theorem dL_law_546 : decode cL_law 546 = .ok (.iaload, 1) := by decide +kernel
theorem dL_law_547 : decode cL_law 547 = .ok (.invokevirtual 60, 3) := by decide +kernel
theorem dL_law_550 : decode cL_law 550 = .ok (.if_icmp .eq 657, 3) := by decide +kernel
theorem dL_law_553 : decode cL_law 553 = .ok (.iconst 0, 1) := by decide +kernel
theorem dL_law_554 : decode cL_law 554 = .ok (.ireturn, 1) := by decide +kernel
theorem dL_law_555 : decode cL_law 555 = .ok (.aload_n 1, 1) := by decide +kernel
theorem dL_law_556 : decode cL_law 556 = .ok (.aload_n 0, 1) := by decide +kernel
theorem dL_law_557 : decode cL_law 557 = .ok (.iload_n 3, 1) := by decide +kernel
theorem dL_law_558 : decode cL_law 558 = .ok (.iconst 1, 1) := by decide +kernel
theorem dL_law_559 : decode cL_law 559 = .ok (.iadd, 1) := by decide +kernel
theorem dL_law_560 : decode cL_law 560 = .ok (.iaload, 1) := by decide +kernel
theorem dL_law_561 : decode cL_law 561 = .ok (.aload_n 0, 1) := by decide +kernel
theorem dL_law_562 : decode cL_law 562 = .ok (.iload_n 3, 1) := by decide +kernel
theorem dL_law_563 : decode cL_law 563 = .ok (.iconst 2, 1) := by decide +kernel
theorem dL_law_564 : decode cL_law 564 = .ok (.iadd, 1) := by decide +kernel
theorem dL_law_565 : decode cL_law 565 = .ok (.iaload, 1) := by decide +kernel
theorem dL_law_566 : decode cL_law 566 = .ok (.aload_n 0, 1) := by decide +kernel
theorem dL_law_567 : decode cL_law 567 = .ok (.iload_n 3, 1) := by decide +kernel
theorem dL_law_568 : decode cL_law 568 = .ok (.iconst 3, 1) := by decide +kernel
theorem dL_law_569 : decode cL_law 569 = .ok (.iadd, 1) := by decide +kernel
theorem dL_law_570 : decode cL_law 570 = .ok (.iaload, 1) := by decide +kernel
theorem dL_law_571 : decode cL_law 571 = .ok (.invokevirtual 61, 3) := by decide +kernel
theorem dL_law_574 : decode cL_law 574 = .ok (.aload_n 2, 1) := by decide +kernel
theorem dL_law_575 : decode cL_law 575 = .ok (.aload_n 0, 1) := by decide +kernel
theorem dL_law_576 : decode cL_law 576 = .ok (.iload_n 3, 1) := by decide +kernel
theorem dL_law_577 : decode cL_law 577 = .ok (.iconst 1, 1) := by decide +kernel
theorem dL_law_578 : decode cL_law 578 = .ok (.iadd, 1) := by decide +kernel
theorem dL_law_579 : decode cL_law 579 = .ok (.iaload, 1) := by decide +kernel
theorem dL_law_580 : decode cL_law 580 = .ok (.aload_n 0, 1) := by decide +kernel
theorem dL_law_581 : decode cL_law 581 = .ok (.iload_n 3, 1) := by decide +kernel
theorem dL_law_582 : decode cL_law 582 = .ok (.iconst 2, 1) := by decide +kernel
theorem dL_law_583 : decode cL_law 583 = .ok (.iadd, 1) := by decide +kernel
theorem dL_law_584 : decode cL_law 584 = .ok (.iaload, 1) := by decide +kernel
theorem dL_law_585 : decode cL_law 585 = .ok (.aload_n 0, 1) := by decide +kernel
theorem dL_law_586 : decode cL_law 586 = .ok (.iload_n 3, 1) := by decide +kernel
theorem dL_law_587 : decode cL_law 587 = .ok (.iconst 3, 1) := by decide +kernel
theorem dL_law_588 : decode cL_law 588 = .ok (.iadd, 1) := by decide +kernel
theorem dL_law_589 : decode cL_law 589 = .ok (.iaload, 1) := by decide +kernel
theorem dL_law_590 : decode cL_law 590 = .ok (.invokevirtual 64, 3) := by decide +kernel
theorem dL_law_593 : decode cL_law 593 = .ok (.if_icmp .eq 614, 3) := by decide +kernel
theorem dL_law_596 : decode cL_law 596 = .ok (.iconst 0, 1) := by decide +kernel
theorem dL_law_597 : decode cL_law 597 = .ok (.ireturn, 1) := by decide +kernel
theorem dL_law_598 : decode cL_law 598 = .ok (.aload_n 1, 1) := by decide +kernel
theorem dL_law_599 : decode cL_law 599 = .ok (.invokevirtual 65, 3) := by decide +kernel
theorem dL_law_602 : decode cL_law 602 = .ok (.aload_n 2, 1) := by decide +kernel
theorem dL_law_603 : decode cL_law 603 = .ok (.invokevirtual 69, 3) := by decide +kernel
theorem dL_law_606 : decode cL_law 606 = .ok (.if_icmp .eq 601, 3) := by decide +kernel
theorem dL_law_609 : decode cL_law 609 = .ok (.iconst 0, 1) := by decide +kernel
theorem dL_law_610 : decode cL_law 610 = .ok (.ireturn, 1) := by decide +kernel
theorem dL_law_611 : decode cL_law 611 = .ok (.aload_n 1, 1) := by decide +kernel
theorem dL_law_612 : decode cL_law 612 = .ok (.aload_n 0, 1) := by decide +kernel
theorem dL_law_613 : decode cL_law 613 = .ok (.iload_n 3, 1) := by decide +kernel
theorem dL_law_614 : decode cL_law 614 = .ok (.iconst 1, 1) := by decide +kernel
theorem dL_law_615 : decode cL_law 615 = .ok (.iadd, 1) := by decide +kernel
theorem dL_law_616 : decode cL_law 616 = .ok (.iaload, 1) := by decide +kernel
theorem dL_law_617 : decode cL_law 617 = .ok (.aload_n 0, 1) := by decide +kernel
theorem dL_law_618 : decode cL_law 618 = .ok (.iload_n 3, 1) := by decide +kernel
theorem dL_law_619 : decode cL_law 619 = .ok (.iconst 2, 1) := by decide +kernel
theorem dL_law_620 : decode cL_law 620 = .ok (.iadd, 1) := by decide +kernel
theorem dL_law_621 : decode cL_law 621 = .ok (.iaload, 1) := by decide +kernel
theorem dL_law_622 : decode cL_law 622 = .ok (.invokevirtual 70, 3) := by decide +kernel
theorem dL_law_625 : decode cL_law 625 = .ok (.aload_n 2, 1) := by decide +kernel
theorem dL_law_626 : decode cL_law 626 = .ok (.aload_n 0, 1) := by decide +kernel
theorem dL_law_627 : decode cL_law 627 = .ok (.iload_n 3, 1) := by decide +kernel
theorem dL_law_628 : decode cL_law 628 = .ok (.iconst 1, 1) := by decide +kernel
theorem dL_law_629 : decode cL_law 629 = .ok (.iadd, 1) := by decide +kernel
theorem dL_law_630 : decode cL_law 630 = .ok (.iaload, 1) := by decide +kernel
theorem dL_law_631 : decode cL_law 631 = .ok (.aload_n 0, 1) := by decide +kernel
theorem dL_law_632 : decode cL_law 632 = .ok (.iload_n 3, 1) := by decide +kernel
theorem dL_law_633 : decode cL_law 633 = .ok (.iconst 2, 1) := by decide +kernel
theorem dL_law_634 : decode cL_law 634 = .ok (.iadd, 1) := by decide +kernel
theorem dL_law_635 : decode cL_law 635 = .ok (.iaload, 1) := by decide +kernel
theorem dL_law_636 : decode cL_law 636 = .ok (.invokevirtual 73, 3) := by decide +kernel
theorem dL_law_639 : decode cL_law 639 = .ok (.if_icmp .eq 568, 3) := by decide +kernel
theorem dL_law_642 : decode cL_law 642 = .ok (.iconst 0, 1) := by decide +kernel
theorem dL_law_643 : decode cL_law 643 = .ok (.ireturn, 1) := by decide +kernel
theorem dL_law_644 : decode cL_law 644 = .ok (.aload_n 1, 1) := by decide +kernel
theorem dL_law_645 : decode cL_law 645 = .ok (.aload_n 0, 1) := by decide +kernel
theorem dL_law_646 : decode cL_law 646 = .ok (.iload_n 3, 1) := by decide +kernel
theorem dL_law_647 : decode cL_law 647 = .ok (.iconst 1, 1) := by decide +kernel
theorem dL_law_648 : decode cL_law 648 = .ok (.iadd, 1) := by decide +kernel
theorem dL_law_649 : decode cL_law 649 = .ok (.iaload, 1) := by decide +kernel
theorem dL_law_650 : decode cL_law 650 = .ok (.aload_n 0, 1) := by decide +kernel
theorem dL_law_651 : decode cL_law 651 = .ok (.iload_n 3, 1) := by decide +kernel
theorem dL_law_652 : decode cL_law 652 = .ok (.iconst 2, 1) := by decide +kernel
theorem dL_law_653 : decode cL_law 653 = .ok (.iadd, 1) := by decide +kernel
theorem dL_law_654 : decode cL_law 654 = .ok (.iaload, 1) := by decide +kernel
theorem dL_law_655 : decode cL_law 655 = .ok (.aload_n 0, 1) := by decide +kernel
theorem dL_law_656 : decode cL_law 656 = .ok (.iload_n 3, 1) := by decide +kernel
theorem dL_law_657 : decode cL_law 657 = .ok (.iconst 3, 1) := by decide +kernel
theorem dL_law_658 : decode cL_law 658 = .ok (.iadd, 1) := by decide +kernel
theorem dL_law_659 : decode cL_law 659 = .ok (.iaload, 1) := by decide +kernel
theorem dL_law_660 : decode cL_law 660 = .ok (.invokevirtual 74, 3) := by decide +kernel
theorem dL_law_663 : decode cL_law 663 = .ok (.aload_n 2, 1) := by decide +kernel
theorem dL_law_664 : decode cL_law 664 = .ok (.aload_n 0, 1) := by decide +kernel
theorem dL_law_665 : decode cL_law 665 = .ok (.iload_n 3, 1) := by decide +kernel
theorem dL_law_666 : decode cL_law 666 = .ok (.iconst 1, 1) := by decide +kernel
theorem dL_law_667 : decode cL_law 667 = .ok (.iadd, 1) := by decide +kernel
theorem dL_law_668 : decode cL_law 668 = .ok (.iaload, 1) := by decide +kernel
theorem dL_law_669 : decode cL_law 669 = .ok (.aload_n 0, 1) := by decide +kernel
theorem dL_law_670 : decode cL_law 670 = .ok (.iload_n 3, 1) := by decide +kernel
theorem dL_law_671 : decode cL_law 671 = .ok (.iconst 2, 1) := by decide +kernel
theorem dL_law_672 : decode cL_law 672 = .ok (.iadd, 1) := by decide +kernel
theorem dL_law_673 : decode cL_law 673 = .ok (.iaload, 1) := by decide +kernel
theorem dL_law_674 : decode cL_law 674 = .ok (.aload_n 0, 1) := by decide +kernel
theorem dL_law_675 : decode cL_law 675 = .ok (.iload_n 3, 1) := by decide +kernel
theorem dL_law_676 : decode cL_law 676 = .ok (.iconst 3, 1) := by decide +kernel
theorem dL_law_677 : decode cL_law 677 = .ok (.iadd, 1) := by decide +kernel
theorem dL_law_678 : decode cL_law 678 = .ok (.iaload, 1) := by decide +kernel
theorem dL_law_679 : decode cL_law 679 = .ok (.invokevirtual 77, 3) := by decide +kernel
theorem dL_law_682 : decode cL_law 682 = .ok (.if_icmp .eq 525, 3) := by decide +kernel
theorem dL_law_685 : decode cL_law 685 = .ok (.iconst 0, 1) := by decide +kernel
theorem dL_law_686 : decode cL_law 686 = .ok (.ireturn, 1) := by decide +kernel
theorem dL_law_687 : decode cL_law 687 = .ok (.aload_n 1, 1) := by decide +kernel
theorem dL_law_688 : decode cL_law 688 = .ok (.aload_n 0, 1) := by decide +kernel
theorem dL_law_689 : decode cL_law 689 = .ok (.iload_n 3, 1) := by decide +kernel
theorem dL_law_690 : decode cL_law 690 = .ok (.iconst 1, 1) := by decide +kernel
theorem dL_law_691 : decode cL_law 691 = .ok (.iadd, 1) := by decide +kernel
theorem dL_law_692 : decode cL_law 692 = .ok (.iaload, 1) := by decide +kernel
theorem dL_law_693 : decode cL_law 693 = .ok (.aload_n 0, 1) := by decide +kernel
theorem dL_law_694 : decode cL_law 694 = .ok (.iload_n 3, 1) := by decide +kernel
theorem dL_law_695 : decode cL_law 695 = .ok (.iconst 2, 1) := by decide +kernel
theorem dL_law_696 : decode cL_law 696 = .ok (.iadd, 1) := by decide +kernel
theorem dL_law_697 : decode cL_law 697 = .ok (.iaload, 1) := by decide +kernel
theorem dL_law_698 : decode cL_law 698 = .ok (.invokevirtual 78, 3) := by decide +kernel
theorem dL_law_701 : decode cL_law 701 = .ok (.aload_n 2, 1) := by decide +kernel
theorem dL_law_702 : decode cL_law 702 = .ok (.aload_n 0, 1) := by decide +kernel
theorem dL_law_703 : decode cL_law 703 = .ok (.iload_n 3, 1) := by decide +kernel
theorem dL_law_704 : decode cL_law 704 = .ok (.iconst 1, 1) := by decide +kernel
theorem dL_law_705 : decode cL_law 705 = .ok (.iadd, 1) := by decide +kernel
theorem dL_law_706 : decode cL_law 706 = .ok (.iaload, 1) := by decide +kernel
theorem dL_law_707 : decode cL_law 707 = .ok (.aload_n 0, 1) := by decide +kernel
theorem dL_law_708 : decode cL_law 708 = .ok (.iload_n 3, 1) := by decide +kernel
theorem dL_law_709 : decode cL_law 709 = .ok (.iconst 2, 1) := by decide +kernel
theorem dL_law_710 : decode cL_law 710 = .ok (.iadd, 1) := by decide +kernel
theorem dL_law_711 : decode cL_law 711 = .ok (.iaload, 1) := by decide +kernel
theorem dL_law_712 : decode cL_law 712 = .ok (.invokevirtual 81, 3) := by decide +kernel
theorem dL_law_715 : decode cL_law 715 = .ok (.if_icmp .eq 492, 3) := by decide +kernel
theorem dL_law_718 : decode cL_law 718 = .ok (.iconst 0, 1) := by decide +kernel
theorem dL_law_719 : decode cL_law 719 = .ok (.ireturn, 1) := by decide +kernel
theorem dL_law_720 : decode cL_law 720 = .ok (.aload_n 1, 1) := by decide +kernel
theorem dL_law_721 : decode cL_law 721 = .ok (.aload_n 0, 1) := by decide +kernel
theorem dL_law_722 : decode cL_law 722 = .ok (.iload_n 3, 1) := by decide +kernel
theorem dL_law_723 : decode cL_law 723 = .ok (.iconst 1, 1) := by decide +kernel
theorem dL_law_724 : decode cL_law 724 = .ok (.iadd, 1) := by decide +kernel
theorem dL_law_725 : decode cL_law 725 = .ok (.iaload, 1) := by decide +kernel
theorem dL_law_726 : decode cL_law 726 = .ok (.aload_n 0, 1) := by decide +kernel
theorem dL_law_727 : decode cL_law 727 = .ok (.iload_n 3, 1) := by decide +kernel
theorem dL_law_728 : decode cL_law 728 = .ok (.iconst 2, 1) := by decide +kernel
theorem dL_law_729 : decode cL_law 729 = .ok (.iadd, 1) := by decide +kernel
theorem dL_law_730 : decode cL_law 730 = .ok (.iaload, 1) := by decide +kernel
theorem dL_law_731 : decode cL_law 731 = .ok (.invokevirtual 82, 3) := by decide +kernel
theorem dL_law_734 : decode cL_law 734 = .ok (.aload_n 2, 1) := by decide +kernel
theorem dL_law_735 : decode cL_law 735 = .ok (.aload_n 0, 1) := by decide +kernel
theorem dL_law_736 : decode cL_law 736 = .ok (.iload_n 3, 1) := by decide +kernel
theorem dL_law_737 : decode cL_law 737 = .ok (.iconst 1, 1) := by decide +kernel
theorem dL_law_738 : decode cL_law 738 = .ok (.iadd, 1) := by decide +kernel
theorem dL_law_739 : decode cL_law 739 = .ok (.iaload, 1) := by decide +kernel
theorem dL_law_740 : decode cL_law 740 = .ok (.aload_n 0, 1) := by decide +kernel
theorem dL_law_741 : decode cL_law 741 = .ok (.iload_n 3, 1) := by decide +kernel
theorem dL_law_742 : decode cL_law 742 = .ok (.iconst 2, 1) := by decide +kernel
theorem dL_law_743 : decode cL_law 743 = .ok (.iadd, 1) := by decide +kernel
theorem dL_law_744 : decode cL_law 744 = .ok (.iaload, 1) := by decide +kernel
theorem dL_law_745 : decode cL_law 745 = .ok (.invokevirtual 85, 3) := by decide +kernel
theorem dL_law_748 : decode cL_law 748 = .ok (.if_icmp .eq 459, 3) := by decide +kernel
theorem dL_law_751 : decode cL_law 751 = .ok (.iconst 0, 1) := by decide +kernel
theorem dL_law_752 : decode cL_law 752 = .ok (.ireturn, 1) := by decide +kernel
theorem dL_law_753 : decode cL_law 753 = .ok (.aload_n 1, 1) := by decide +kernel
theorem dL_law_754 : decode cL_law 754 = .ok (.aload_n 0, 1) := by decide +kernel
theorem dL_law_755 : decode cL_law 755 = .ok (.iload_n 3, 1) := by decide +kernel
theorem dL_law_756 : decode cL_law 756 = .ok (.iconst 1, 1) := by decide +kernel
theorem dL_law_757 : decode cL_law 757 = .ok (.iadd, 1) := by decide +kernel
theorem dL_law_758 : decode cL_law 758 = .ok (.iaload, 1) := by decide +kernel
theorem dL_law_759 : decode cL_law 759 = .ok (.aload_n 0, 1) := by decide +kernel
theorem dL_law_760 : decode cL_law 760 = .ok (.iload_n 3, 1) := by decide +kernel
theorem dL_law_761 : decode cL_law 761 = .ok (.iconst 2, 1) := by decide +kernel
theorem dL_law_762 : decode cL_law 762 = .ok (.iadd, 1) := by decide +kernel
theorem dL_law_763 : decode cL_law 763 = .ok (.iaload, 1) := by decide +kernel
theorem dL_law_764 : decode cL_law 764 = .ok (.invokevirtual 86, 3) := by decide +kernel
theorem dL_law_767 : decode cL_law 767 = .ok (.aload_n 2, 1) := by decide +kernel
theorem dL_law_768 : decode cL_law 768 = .ok (.aload_n 0, 1) := by decide +kernel
theorem dL_law_769 : decode cL_law 769 = .ok (.iload_n 3, 1) := by decide +kernel
theorem dL_law_770 : decode cL_law 770 = .ok (.iconst 1, 1) := by decide +kernel
theorem dL_law_771 : decode cL_law 771 = .ok (.iadd, 1) := by decide +kernel
theorem dL_law_772 : decode cL_law 772 = .ok (.iaload, 1) := by decide +kernel
theorem dL_law_773 : decode cL_law 773 = .ok (.aload_n 0, 1) := by decide +kernel
theorem dL_law_774 : decode cL_law 774 = .ok (.iload_n 3, 1) := by decide +kernel
theorem dL_law_775 : decode cL_law 775 = .ok (.iconst 2, 1) := by decide +kernel
theorem dL_law_776 : decode cL_law 776 = .ok (.iadd, 1) := by decide +kernel
theorem dL_law_777 : decode cL_law 777 = .ok (.iaload, 1) := by decide +kernel
theorem dL_law_778 : decode cL_law 778 = .ok (.invokevirtual 89, 3) := by decide +kernel
theorem dL_law_781 : decode cL_law 781 = .ok (.if_icmp .eq 426, 3) := by decide +kernel
theorem dL_law_784 : decode cL_law 784 = .ok (.iconst 0, 1) := by decide +kernel
theorem dL_law_785 : decode cL_law 785 = .ok (.ireturn, 1) := by decide +kernel
theorem dL_law_786 : decode cL_law 786 = .ok (.aload_n 1, 1) := by decide +kernel
theorem dL_law_787 : decode cL_law 787 = .ok (.aload_n 0, 1) := by decide +kernel
theorem dL_law_788 : decode cL_law 788 = .ok (.iload_n 3, 1) := by decide +kernel
theorem dL_law_789 : decode cL_law 789 = .ok (.iconst 1, 1) := by decide +kernel
theorem dL_law_790 : decode cL_law 790 = .ok (.iadd, 1) := by decide +kernel
theorem dL_law_791 : decode cL_law 791 = .ok (.iaload, 1) := by decide +kernel
theorem dL_law_792 : decode cL_law 792 = .ok (.aload_n 0, 1) := by decide +kernel
theorem dL_law_793 : decode cL_law 793 = .ok (.iload_n 3, 1) := by decide +kernel
theorem dL_law_794 : decode cL_law 794 = .ok (.iconst 2, 1) := by decide +kernel
theorem dL_law_795 : decode cL_law 795 = .ok (.iadd, 1) := by decide +kernel
theorem dL_law_796 : decode cL_law 796 = .ok (.iaload, 1) := by decide +kernel
theorem dL_law_797 : decode cL_law 797 = .ok (.invokevirtual 90, 3) := by decide +kernel
theorem dL_law_800 : decode cL_law 800 = .ok (.aload_n 2, 1) := by decide +kernel
theorem dL_law_801 : decode cL_law 801 = .ok (.aload_n 0, 1) := by decide +kernel
theorem dL_law_802 : decode cL_law 802 = .ok (.iload_n 3, 1) := by decide +kernel
theorem dL_law_803 : decode cL_law 803 = .ok (.iconst 1, 1) := by decide +kernel
theorem dL_law_804 : decode cL_law 804 = .ok (.iadd, 1) := by decide +kernel
theorem dL_law_805 : decode cL_law 805 = .ok (.iaload, 1) := by decide +kernel
theorem dL_law_806 : decode cL_law 806 = .ok (.aload_n 0, 1) := by decide +kernel
theorem dL_law_807 : decode cL_law 807 = .ok (.iload_n 3, 1) := by decide +kernel
theorem dL_law_808 : decode cL_law 808 = .ok (.iconst 2, 1) := by decide +kernel
theorem dL_law_809 : decode cL_law 809 = .ok (.iadd, 1) := by decide +kernel
theorem dL_law_810 : decode cL_law 810 = .ok (.iaload, 1) := by decide +kernel
theorem dL_law_811 : decode cL_law 811 = .ok (.invokevirtual 94, 3) := by decide +kernel
theorem dL_law_814 : decode cL_law 814 = .ok (.lcmp, 1) := by decide +kernel
theorem dL_law_815 : decode cL_law 815 = .ok (.ifCond .eq 392, 3) := by decide +kernel
theorem dL_law_818 : decode cL_law 818 = .ok (.iconst 0, 1) := by decide +kernel
theorem dL_law_819 : decode cL_law 819 = .ok (.ireturn, 1) := by decide +kernel
theorem dL_law_820 : decode cL_law 820 = .ok (.aload_n 1, 1) := by decide +kernel
theorem dL_law_821 : decode cL_law 821 = .ok (.aload_n 0, 1) := by decide +kernel
theorem dL_law_822 : decode cL_law 822 = .ok (.iload_n 3, 1) := by decide +kernel
theorem dL_law_823 : decode cL_law 823 = .ok (.iconst 1, 1) := by decide +kernel
theorem dL_law_824 : decode cL_law 824 = .ok (.iadd, 1) := by decide +kernel
theorem dL_law_825 : decode cL_law 825 = .ok (.iaload, 1) := by decide +kernel
theorem dL_law_826 : decode cL_law 826 = .ok (.invokevirtual 95, 3) := by decide +kernel
theorem dL_law_829 : decode cL_law 829 = .ok (.aload_n 2, 1) := by decide +kernel
theorem dL_law_830 : decode cL_law 830 = .ok (.aload_n 0, 1) := by decide +kernel
theorem dL_law_831 : decode cL_law 831 = .ok (.iload_n 3, 1) := by decide +kernel
theorem dL_law_832 : decode cL_law 832 = .ok (.iconst 1, 1) := by decide +kernel
theorem dL_law_833 : decode cL_law 833 = .ok (.iadd, 1) := by decide +kernel
theorem dL_law_834 : decode cL_law 834 = .ok (.iaload, 1) := by decide +kernel
theorem dL_law_835 : decode cL_law 835 = .ok (.invokevirtual 98, 3) := by decide +kernel
theorem dL_law_838 : decode cL_law 838 = .ok (.if_icmp .eq 369, 3) := by decide +kernel
theorem dL_law_841 : decode cL_law 841 = .ok (.iconst 0, 1) := by decide +kernel
theorem dL_law_842 : decode cL_law 842 = .ok (.ireturn, 1) := by decide +kernel
theorem dL_law_843 : decode cL_law 843 = .ok (.aload_n 1, 1) := by decide +kernel
theorem dL_law_844 : decode cL_law 844 = .ok (.aload_n 0, 1) := by decide +kernel
theorem dL_law_845 : decode cL_law 845 = .ok (.iload_n 3, 1) := by decide +kernel
theorem dL_law_846 : decode cL_law 846 = .ok (.iconst 1, 1) := by decide +kernel
theorem dL_law_847 : decode cL_law 847 = .ok (.iadd, 1) := by decide +kernel
theorem dL_law_848 : decode cL_law 848 = .ok (.iaload, 1) := by decide +kernel
theorem dL_law_849 : decode cL_law 849 = .ok (.invokevirtual 99, 3) := by decide +kernel
theorem dL_law_852 : decode cL_law 852 = .ok (.aload_n 2, 1) := by decide +kernel
theorem dL_law_853 : decode cL_law 853 = .ok (.aload_n 0, 1) := by decide +kernel
theorem dL_law_854 : decode cL_law 854 = .ok (.iload_n 3, 1) := by decide +kernel
theorem dL_law_855 : decode cL_law 855 = .ok (.iconst 1, 1) := by decide +kernel
theorem dL_law_856 : decode cL_law 856 = .ok (.iadd, 1) := by decide +kernel
theorem dL_law_857 : decode cL_law 857 = .ok (.iaload, 1) := by decide +kernel
theorem dL_law_858 : decode cL_law 858 = .ok (.invokevirtual 102, 3) := by decide +kernel
theorem dL_law_861 : decode cL_law 861 = .ok (.if_icmp .eq 346, 3) := by decide +kernel
theorem dL_law_864 : decode cL_law 864 = .ok (.iconst 0, 1) := by decide +kernel
theorem dL_law_865 : decode cL_law 865 = .ok (.ireturn, 1) := by decide +kernel
theorem dL_law_866 : decode cL_law 866 = .ok (.aload_n 1, 1) := by decide +kernel
theorem dL_law_867 : decode cL_law 867 = .ok (.aload_n 0, 1) := by decide +kernel
theorem dL_law_868 : decode cL_law 868 = .ok (.iload_n 3, 1) := by decide +kernel
theorem dL_law_869 : decode cL_law 869 = .ok (.iconst 1, 1) := by decide +kernel
theorem dL_law_870 : decode cL_law 870 = .ok (.iadd, 1) := by decide +kernel
theorem dL_law_871 : decode cL_law 871 = .ok (.iaload, 1) := by decide +kernel
theorem dL_law_872 : decode cL_law 872 = .ok (.aload_n 0, 1) := by decide +kernel
theorem dL_law_873 : decode cL_law 873 = .ok (.iload_n 3, 1) := by decide +kernel
theorem dL_law_874 : decode cL_law 874 = .ok (.iconst 2, 1) := by decide +kernel
theorem dL_law_875 : decode cL_law 875 = .ok (.iadd, 1) := by decide +kernel
theorem dL_law_876 : decode cL_law 876 = .ok (.iaload, 1) := by decide +kernel
theorem dL_law_877 : decode cL_law 877 = .ok (.aload_n 0, 1) := by decide +kernel
theorem dL_law_878 : decode cL_law 878 = .ok (.iload_n 3, 1) := by decide +kernel
theorem dL_law_879 : decode cL_law 879 = .ok (.iconst 3, 1) := by decide +kernel
theorem dL_law_880 : decode cL_law 880 = .ok (.iadd, 1) := by decide +kernel
theorem dL_law_881 : decode cL_law 881 = .ok (.iaload, 1) := by decide +kernel
theorem dL_law_882 : decode cL_law 882 = .ok (.invokevirtual 103, 3) := by decide +kernel
theorem dL_law_885 : decode cL_law 885 = .ok (.aload_n 2, 1) := by decide +kernel
theorem dL_law_886 : decode cL_law 886 = .ok (.aload_n 0, 1) := by decide +kernel
theorem dL_law_887 : decode cL_law 887 = .ok (.iload_n 3, 1) := by decide +kernel
theorem dL_law_888 : decode cL_law 888 = .ok (.iconst 1, 1) := by decide +kernel
theorem dL_law_889 : decode cL_law 889 = .ok (.iadd, 1) := by decide +kernel
theorem dL_law_890 : decode cL_law 890 = .ok (.iaload, 1) := by decide +kernel
theorem dL_law_891 : decode cL_law 891 = .ok (.aload_n 0, 1) := by decide +kernel
theorem dL_law_892 : decode cL_law 892 = .ok (.iload_n 3, 1) := by decide +kernel
theorem dL_law_893 : decode cL_law 893 = .ok (.iconst 2, 1) := by decide +kernel
theorem dL_law_894 : decode cL_law 894 = .ok (.iadd, 1) := by decide +kernel
theorem dL_law_895 : decode cL_law 895 = .ok (.iaload, 1) := by decide +kernel
theorem dL_law_896 : decode cL_law 896 = .ok (.aload_n 0, 1) := by decide +kernel
theorem dL_law_897 : decode cL_law 897 = .ok (.iload_n 3, 1) := by decide +kernel
theorem dL_law_898 : decode cL_law 898 = .ok (.iconst 3, 1) := by decide +kernel
theorem dL_law_899 : decode cL_law 899 = .ok (.iadd, 1) := by decide +kernel
theorem dL_law_900 : decode cL_law 900 = .ok (.iaload, 1) := by decide +kernel
theorem dL_law_901 : decode cL_law 901 = .ok (.invokevirtual 106, 3) := by decide +kernel
theorem dL_law_904 : decode cL_law 904 = .ok (.if_icmp .eq 303, 3) := by decide +kernel
theorem dL_law_907 : decode cL_law 907 = .ok (.iconst 0, 1) := by decide +kernel
theorem dL_law_908 : decode cL_law 908 = .ok (.ireturn, 1) := by decide +kernel
theorem dL_law_909 : decode cL_law 909 = .ok (.aload_n 1, 1) := by decide +kernel
theorem dL_law_910 : decode cL_law 910 = .ok (.aload_n 0, 1) := by decide +kernel
theorem dL_law_911 : decode cL_law 911 = .ok (.iload_n 3, 1) := by decide +kernel
theorem dL_law_912 : decode cL_law 912 = .ok (.iconst 1, 1) := by decide +kernel
theorem dL_law_913 : decode cL_law 913 = .ok (.iadd, 1) := by decide +kernel
theorem dL_law_914 : decode cL_law 914 = .ok (.iaload, 1) := by decide +kernel
theorem dL_law_915 : decode cL_law 915 = .ok (.aload_n 0, 1) := by decide +kernel
theorem dL_law_916 : decode cL_law 916 = .ok (.iload_n 3, 1) := by decide +kernel
theorem dL_law_917 : decode cL_law 917 = .ok (.iconst 2, 1) := by decide +kernel
theorem dL_law_918 : decode cL_law 918 = .ok (.iadd, 1) := by decide +kernel
theorem dL_law_919 : decode cL_law 919 = .ok (.iaload, 1) := by decide +kernel
theorem dL_law_920 : decode cL_law 920 = .ok (.aload_n 0, 1) := by decide +kernel
theorem dL_law_921 : decode cL_law 921 = .ok (.iload_n 3, 1) := by decide +kernel
theorem dL_law_922 : decode cL_law 922 = .ok (.iconst 3, 1) := by decide +kernel
theorem dL_law_923 : decode cL_law 923 = .ok (.iadd, 1) := by decide +kernel
theorem dL_law_924 : decode cL_law 924 = .ok (.iaload, 1) := by decide +kernel
theorem dL_law_925 : decode cL_law 925 = .ok (.invokevirtual 107, 3) := by decide +kernel
theorem dL_law_928 : decode cL_law 928 = .ok (.aload_n 2, 1) := by decide +kernel
theorem dL_law_929 : decode cL_law 929 = .ok (.aload_n 0, 1) := by decide +kernel
theorem dL_law_930 : decode cL_law 930 = .ok (.iload_n 3, 1) := by decide +kernel
theorem dL_law_931 : decode cL_law 931 = .ok (.iconst 1, 1) := by decide +kernel
theorem dL_law_932 : decode cL_law 932 = .ok (.iadd, 1) := by decide +kernel
theorem dL_law_933 : decode cL_law 933 = .ok (.iaload, 1) := by decide +kernel
theorem dL_law_934 : decode cL_law 934 = .ok (.aload_n 0, 1) := by decide +kernel
theorem dL_law_935 : decode cL_law 935 = .ok (.iload_n 3, 1) := by decide +kernel
theorem dL_law_936 : decode cL_law 936 = .ok (.iconst 2, 1) := by decide +kernel
theorem dL_law_937 : decode cL_law 937 = .ok (.iadd, 1) := by decide +kernel
theorem dL_law_938 : decode cL_law 938 = .ok (.iaload, 1) := by decide +kernel
theorem dL_law_939 : decode cL_law 939 = .ok (.aload_n 0, 1) := by decide +kernel
theorem dL_law_940 : decode cL_law 940 = .ok (.iload_n 3, 1) := by decide +kernel
theorem dL_law_941 : decode cL_law 941 = .ok (.iconst 3, 1) := by decide +kernel
theorem dL_law_942 : decode cL_law 942 = .ok (.iadd, 1) := by decide +kernel
theorem dL_law_943 : decode cL_law 943 = .ok (.iaload, 1) := by decide +kernel
theorem dL_law_944 : decode cL_law 944 = .ok (.invokevirtual 110, 3) := by decide +kernel
theorem dL_law_947 : decode cL_law 947 = .ok (.if_icmp .eq 260, 3) := by decide +kernel
theorem dL_law_950 : decode cL_law 950 = .ok (.iconst 0, 1) := by decide +kernel
theorem dL_law_951 : decode cL_law 951 = .ok (.ireturn, 1) := by decide +kernel
theorem dL_law_952 : decode cL_law 952 = .ok (.aload_n 1, 1) := by decide +kernel
theorem dL_law_953 : decode cL_law 953 = .ok (.aload_n 0, 1) := by decide +kernel
theorem dL_law_954 : decode cL_law 954 = .ok (.iload_n 3, 1) := by decide +kernel
theorem dL_law_955 : decode cL_law 955 = .ok (.iconst 1, 1) := by decide +kernel
theorem dL_law_956 : decode cL_law 956 = .ok (.iadd, 1) := by decide +kernel
theorem dL_law_957 : decode cL_law 957 = .ok (.iaload, 1) := by decide +kernel
theorem dL_law_958 : decode cL_law 958 = .ok (.aload_n 0, 1) := by decide +kernel
theorem dL_law_959 : decode cL_law 959 = .ok (.iload_n 3, 1) := by decide +kernel
theorem dL_law_960 : decode cL_law 960 = .ok (.iconst 2, 1) := by decide +kernel
theorem dL_law_961 : decode cL_law 961 = .ok (.iadd, 1) := by decide +kernel
theorem dL_law_962 : decode cL_law 962 = .ok (.iaload, 1) := by decide +kernel
theorem dL_law_963 : decode cL_law 963 = .ok (.aload_n 0, 1) := by decide +kernel
theorem dL_law_964 : decode cL_law 964 = .ok (.iload_n 3, 1) := by decide +kernel
theorem dL_law_965 : decode cL_law 965 = .ok (.iconst 3, 1) := by decide +kernel
theorem dL_law_966 : decode cL_law 966 = .ok (.iadd, 1) := by decide +kernel
theorem dL_law_967 : decode cL_law 967 = .ok (.iaload, 1) := by decide +kernel
theorem dL_law_968 : decode cL_law 968 = .ok (.invokevirtual 111, 3) := by decide +kernel
theorem dL_law_971 : decode cL_law 971 = .ok (.aload_n 2, 1) := by decide +kernel
theorem dL_law_972 : decode cL_law 972 = .ok (.aload_n 0, 1) := by decide +kernel
theorem dL_law_973 : decode cL_law 973 = .ok (.iload_n 3, 1) := by decide +kernel
theorem dL_law_974 : decode cL_law 974 = .ok (.iconst 1, 1) := by decide +kernel
theorem dL_law_975 : decode cL_law 975 = .ok (.iadd, 1) := by decide +kernel
theorem dL_law_976 : decode cL_law 976 = .ok (.iaload, 1) := by decide +kernel
theorem dL_law_977 : decode cL_law 977 = .ok (.aload_n 0, 1) := by decide +kernel
theorem dL_law_978 : decode cL_law 978 = .ok (.iload_n 3, 1) := by decide +kernel
theorem dL_law_979 : decode cL_law 979 = .ok (.iconst 2, 1) := by decide +kernel
theorem dL_law_980 : decode cL_law 980 = .ok (.iadd, 1) := by decide +kernel
theorem dL_law_981 : decode cL_law 981 = .ok (.iaload, 1) := by decide +kernel
theorem dL_law_982 : decode cL_law 982 = .ok (.aload_n 0, 1) := by decide +kernel
theorem dL_law_983 : decode cL_law 983 = .ok (.iload_n 3, 1) := by decide +kernel
theorem dL_law_984 : decode cL_law 984 = .ok (.iconst 3, 1) := by decide +kernel
theorem dL_law_985 : decode cL_law 985 = .ok (.iadd, 1) := by decide +kernel
theorem dL_law_986 : decode cL_law 986 = .ok (.iaload, 1) := by decide +kernel
theorem dL_law_987 : decode cL_law 987 = .ok (.invokevirtual 114, 3) := by decide +kernel
theorem dL_law_990 : decode cL_law 990 = .ok (.if_icmp .eq 217, 3) := by decide +kernel
theorem dL_law_993 : decode cL_law 993 = .ok (.iconst 0, 1) := by decide +kernel
theorem dL_law_994 : decode cL_law 994 = .ok (.ireturn, 1) := by decide +kernel
theorem dL_law_995 : decode cL_law 995 = .ok (.aload_n 1, 1) := by decide +kernel
theorem dL_law_996 : decode cL_law 996 = .ok (.aload_n 0, 1) := by decide +kernel
theorem dL_law_997 : decode cL_law 997 = .ok (.iload_n 3, 1) := by decide +kernel
theorem dL_law_998 : decode cL_law 998 = .ok (.iconst 1, 1) := by decide +kernel
theorem dL_law_999 : decode cL_law 999 = .ok (.iadd, 1) := by decide +kernel
theorem dL_law_1000 : decode cL_law 1000 = .ok (.iaload, 1) := by decide +kernel
theorem dL_law_1001 : decode cL_law 1001 = .ok (.invokevirtual 115, 3) := by decide +kernel
theorem dL_law_1004 : decode cL_law 1004 = .ok (.aload_n 2, 1) := by decide +kernel
theorem dL_law_1005 : decode cL_law 1005 = .ok (.aload_n 0, 1) := by decide +kernel
theorem dL_law_1006 : decode cL_law 1006 = .ok (.iload_n 3, 1) := by decide +kernel
theorem dL_law_1007 : decode cL_law 1007 = .ok (.iconst 1, 1) := by decide +kernel
theorem dL_law_1008 : decode cL_law 1008 = .ok (.iadd, 1) := by decide +kernel
theorem dL_law_1009 : decode cL_law 1009 = .ok (.iaload, 1) := by decide +kernel
theorem dL_law_1010 : decode cL_law 1010 = .ok (.invokevirtual 118, 3) := by decide +kernel
theorem dL_law_1013 : decode cL_law 1013 = .ok (.if_icmp .eq 194, 3) := by decide +kernel
theorem dL_law_1016 : decode cL_law 1016 = .ok (.iconst 0, 1) := by decide +kernel
theorem dL_law_1017 : decode cL_law 1017 = .ok (.ireturn, 1) := by decide +kernel
theorem dL_law_1018 : decode cL_law 1018 = .ok (.aload_n 1, 1) := by decide +kernel
theorem dL_law_1019 : decode cL_law 1019 = .ok (.aload_n 0, 1) := by decide +kernel
theorem dL_law_1020 : decode cL_law 1020 = .ok (.iload_n 3, 1) := by decide +kernel
theorem dL_law_1021 : decode cL_law 1021 = .ok (.iconst 1, 1) := by decide +kernel
theorem dL_law_1022 : decode cL_law 1022 = .ok (.iadd, 1) := by decide +kernel
theorem dL_law_1023 : decode cL_law 1023 = .ok (.iaload, 1) := by decide +kernel
theorem dL_law_1024 : decode cL_law 1024 = .ok (.aload_n 0, 1) := by decide +kernel
theorem dL_law_1025 : decode cL_law 1025 = .ok (.iload_n 3, 1) := by decide +kernel
theorem dL_law_1026 : decode cL_law 1026 = .ok (.iconst 2, 1) := by decide +kernel
theorem dL_law_1027 : decode cL_law 1027 = .ok (.iadd, 1) := by decide +kernel
theorem dL_law_1028 : decode cL_law 1028 = .ok (.iaload, 1) := by decide +kernel
theorem dL_law_1029 : decode cL_law 1029 = .ok (.aload_n 0, 1) := by decide +kernel
theorem dL_law_1030 : decode cL_law 1030 = .ok (.iload_n 3, 1) := by decide +kernel
theorem dL_law_1031 : decode cL_law 1031 = .ok (.iconst 3, 1) := by decide +kernel
theorem dL_law_1032 : decode cL_law 1032 = .ok (.iadd, 1) := by decide +kernel
theorem dL_law_1033 : decode cL_law 1033 = .ok (.iaload, 1) := by decide +kernel
theorem dL_law_1034 : decode cL_law 1034 = .ok (.invokevirtual 119, 3) := by decide +kernel
theorem dL_law_1037 : decode cL_law 1037 = .ok (.aload_n 2, 1) := by decide +kernel
theorem dL_law_1038 : decode cL_law 1038 = .ok (.aload_n 0, 1) := by decide +kernel
theorem dL_law_1039 : decode cL_law 1039 = .ok (.iload_n 3, 1) := by decide +kernel
theorem dL_law_1040 : decode cL_law 1040 = .ok (.iconst 1, 1) := by decide +kernel
theorem dL_law_1041 : decode cL_law 1041 = .ok (.iadd, 1) := by decide +kernel
theorem dL_law_1042 : decode cL_law 1042 = .ok (.iaload, 1) := by decide +kernel
theorem dL_law_1043 : decode cL_law 1043 = .ok (.aload_n 0, 1) := by decide +kernel
theorem dL_law_1044 : decode cL_law 1044 = .ok (.iload_n 3, 1) := by decide +kernel
theorem dL_law_1045 : decode cL_law 1045 = .ok (.iconst 2, 1) := by decide +kernel
theorem dL_law_1046 : decode cL_law 1046 = .ok (.iadd, 1) := by decide +kernel
theorem dL_law_1047 : decode cL_law 1047 = .ok (.iaload, 1) := by decide +kernel
theorem dL_law_1048 : decode cL_law 1048 = .ok (.aload_n 0, 1) := by decide +kernel
theorem dL_law_1049 : decode cL_law 1049 = .ok (.iload_n 3, 1) := by decide +kernel
theorem dL_law_1050 : decode cL_law 1050 = .ok (.iconst 3, 1) := by decide +kernel
theorem dL_law_1051 : decode cL_law 1051 = .ok (.iadd, 1) := by decide +kernel
theorem dL_law_1052 : decode cL_law 1052 = .ok (.iaload, 1) := by decide +kernel
theorem dL_law_1053 : decode cL_law 1053 = .ok (.invokevirtual 122, 3) := by decide +kernel
theorem dL_law_1056 : decode cL_law 1056 = .ok (.if_icmp .eq 151, 3) := by decide +kernel
theorem dL_law_1059 : decode cL_law 1059 = .ok (.iconst 0, 1) := by decide +kernel
theorem dL_law_1060 : decode cL_law 1060 = .ok (.ireturn, 1) := by decide +kernel
theorem dL_law_1061 : decode cL_law 1061 = .ok (.aload_n 1, 1) := by decide +kernel
theorem dL_law_1062 : decode cL_law 1062 = .ok (.aload_n 0, 1) := by decide +kernel
theorem dL_law_1063 : decode cL_law 1063 = .ok (.iload_n 3, 1) := by decide +kernel
theorem dL_law_1064 : decode cL_law 1064 = .ok (.iconst 1, 1) := by decide +kernel
theorem dL_law_1065 : decode cL_law 1065 = .ok (.iadd, 1) := by decide +kernel
theorem dL_law_1066 : decode cL_law 1066 = .ok (.iaload, 1) := by decide +kernel
theorem dL_law_1067 : decode cL_law 1067 = .ok (.aload_n 0, 1) := by decide +kernel
theorem dL_law_1068 : decode cL_law 1068 = .ok (.iload_n 3, 1) := by decide +kernel
theorem dL_law_1069 : decode cL_law 1069 = .ok (.iconst 2, 1) := by decide +kernel
theorem dL_law_1070 : decode cL_law 1070 = .ok (.iadd, 1) := by decide +kernel
theorem dL_law_1071 : decode cL_law 1071 = .ok (.iaload, 1) := by decide +kernel
theorem dL_law_1072 : decode cL_law 1072 = .ok (.aload_n 0, 1) := by decide +kernel
theorem dL_law_1073 : decode cL_law 1073 = .ok (.iload_n 3, 1) := by decide +kernel
theorem dL_law_1074 : decode cL_law 1074 = .ok (.iconst 3, 1) := by decide +kernel
theorem dL_law_1075 : decode cL_law 1075 = .ok (.iadd, 1) := by decide +kernel
theorem dL_law_1076 : decode cL_law 1076 = .ok (.iaload, 1) := by decide +kernel
theorem dL_law_1077 : decode cL_law 1077 = .ok (.invokevirtual 123, 3) := by decide +kernel
theorem dL_law_1080 : decode cL_law 1080 = .ok (.aload_n 2, 1) := by decide +kernel
theorem dL_law_1081 : decode cL_law 1081 = .ok (.aload_n 0, 1) := by decide +kernel
theorem dL_law_1082 : decode cL_law 1082 = .ok (.iload_n 3, 1) := by decide +kernel
theorem dL_law_1083 : decode cL_law 1083 = .ok (.iconst 1, 1) := by decide +kernel
theorem dL_law_1084 : decode cL_law 1084 = .ok (.iadd, 1) := by decide +kernel
theorem dL_law_1085 : decode cL_law 1085 = .ok (.iaload, 1) := by decide +kernel
theorem dL_law_1086 : decode cL_law 1086 = .ok (.aload_n 0, 1) := by decide +kernel
theorem dL_law_1087 : decode cL_law 1087 = .ok (.iload_n 3, 1) := by decide +kernel
theorem dL_law_1088 : decode cL_law 1088 = .ok (.iconst 2, 1) := by decide +kernel
theorem dL_law_1089 : decode cL_law 1089 = .ok (.iadd, 1) := by decide +kernel
theorem dL_law_1090 : decode cL_law 1090 = .ok (.iaload, 1) := by decide +kernel
theorem dL_law_1091 : decode cL_law 1091 = .ok (.aload_n 0, 1) := by decide +kernel
theorem dL_law_1092 : decode cL_law 1092 = .ok (.iload_n 3, 1) := by decide +kernel
theorem dL_law_1093 : decode cL_law 1093 = .ok (.iconst 3, 1) := by decide +kernel
theorem dL_law_1094 : decode cL_law 1094 = .ok (.iadd, 1) := by decide +kernel
theorem dL_law_1095 : decode cL_law 1095 = .ok (.iaload, 1) := by decide +kernel
theorem dL_law_1096 : decode cL_law 1096 = .ok (.invokevirtual 126, 3) := by decide +kernel
theorem dL_law_1099 : decode cL_law 1099 = .ok (.if_icmp .eq 108, 3) := by decide +kernel
theorem dL_law_1102 : decode cL_law 1102 = .ok (.iconst 0, 1) := by decide +kernel
theorem dL_law_1103 : decode cL_law 1103 = .ok (.ireturn, 1) := by decide +kernel
theorem dL_law_1104 : decode cL_law 1104 = .ok (.aload_n 1, 1) := by decide +kernel
theorem dL_law_1105 : decode cL_law 1105 = .ok (.aload_n 0, 1) := by decide +kernel
theorem dL_law_1106 : decode cL_law 1106 = .ok (.iload_n 3, 1) := by decide +kernel
theorem dL_law_1107 : decode cL_law 1107 = .ok (.iconst 1, 1) := by decide +kernel
theorem dL_law_1108 : decode cL_law 1108 = .ok (.iadd, 1) := by decide +kernel
theorem dL_law_1109 : decode cL_law 1109 = .ok (.iaload, 1) := by decide +kernel
theorem dL_law_1110 : decode cL_law 1110 = .ok (.aload_n 0, 1) := by decide +kernel
theorem dL_law_1111 : decode cL_law 1111 = .ok (.iload_n 3, 1) := by decide +kernel
theorem dL_law_1112 : decode cL_law 1112 = .ok (.iconst 2, 1) := by decide +kernel
theorem dL_law_1113 : decode cL_law 1113 = .ok (.iadd, 1) := by decide +kernel
theorem dL_law_1114 : decode cL_law 1114 = .ok (.iaload, 1) := by decide +kernel
theorem dL_law_1115 : decode cL_law 1115 = .ok (.invokevirtual 127, 3) := by decide +kernel
theorem dL_law_1118 : decode cL_law 1118 = .ok (.aload_n 2, 1) := by decide +kernel
theorem dL_law_1119 : decode cL_law 1119 = .ok (.aload_n 0, 1) := by decide +kernel
theorem dL_law_1120 : decode cL_law 1120 = .ok (.iload_n 3, 1) := by decide +kernel
theorem dL_law_1121 : decode cL_law 1121 = .ok (.iconst 1, 1) := by decide +kernel
theorem dL_law_1122 : decode cL_law 1122 = .ok (.iadd, 1) := by decide +kernel
theorem dL_law_1123 : decode cL_law 1123 = .ok (.iaload, 1) := by decide +kernel
theorem dL_law_1124 : decode cL_law 1124 = .ok (.aload_n 0, 1) := by decide +kernel
theorem dL_law_1125 : decode cL_law 1125 = .ok (.iload_n 3, 1) := by decide +kernel
theorem dL_law_1126 : decode cL_law 1126 = .ok (.iconst 2, 1) := by decide +kernel
theorem dL_law_1127 : decode cL_law 1127 = .ok (.iadd, 1) := by decide +kernel
theorem dL_law_1128 : decode cL_law 1128 = .ok (.iaload, 1) := by decide +kernel
theorem dL_law_1129 : decode cL_law 1129 = .ok (.invokevirtual 130, 3) := by decide +kernel
theorem dL_law_1132 : decode cL_law 1132 = .ok (.if_icmp .eq 75, 3) := by decide +kernel
theorem dL_law_1135 : decode cL_law 1135 = .ok (.iconst 0, 1) := by decide +kernel
theorem dL_law_1136 : decode cL_law 1136 = .ok (.ireturn, 1) := by decide +kernel
theorem dL_law_1137 : decode cL_law 1137 = .ok (.aload_n 1, 1) := by decide +kernel
theorem dL_law_1138 : decode cL_law 1138 = .ok (.aload_n 0, 1) := by decide +kernel
theorem dL_law_1139 : decode cL_law 1139 = .ok (.iload_n 3, 1) := by decide +kernel
theorem dL_law_1140 : decode cL_law 1140 = .ok (.iconst 1, 1) := by decide +kernel
theorem dL_law_1141 : decode cL_law 1141 = .ok (.iadd, 1) := by decide +kernel
theorem dL_law_1142 : decode cL_law 1142 = .ok (.iaload, 1) := by decide +kernel
theorem dL_law_1143 : decode cL_law 1143 = .ok (.aload_n 0, 1) := by decide +kernel
theorem dL_law_1144 : decode cL_law 1144 = .ok (.iload_n 3, 1) := by decide +kernel
theorem dL_law_1145 : decode cL_law 1145 = .ok (.iconst 2, 1) := by decide +kernel
theorem dL_law_1146 : decode cL_law 1146 = .ok (.iadd, 1) := by decide +kernel
theorem dL_law_1147 : decode cL_law 1147 = .ok (.iaload, 1) := by decide +kernel
theorem dL_law_1148 : decode cL_law 1148 = .ok (.invokevirtual 131, 3) := by decide +kernel
theorem dL_law_1151 : decode cL_law 1151 = .ok (.aload_n 2, 1) := by decide +kernel
theorem dL_law_1152 : decode cL_law 1152 = .ok (.aload_n 0, 1) := by decide +kernel
theorem dL_law_1153 : decode cL_law 1153 = .ok (.iload_n 3, 1) := by decide +kernel
theorem dL_law_1154 : decode cL_law 1154 = .ok (.iconst 1, 1) := by decide +kernel
theorem dL_law_1155 : decode cL_law 1155 = .ok (.iadd, 1) := by decide +kernel
theorem dL_law_1156 : decode cL_law 1156 = .ok (.iaload, 1) := by decide +kernel
theorem dL_law_1157 : decode cL_law 1157 = .ok (.aload_n 0, 1) := by decide +kernel
theorem dL_law_1158 : decode cL_law 1158 = .ok (.iload_n 3, 1) := by decide +kernel
theorem dL_law_1159 : decode cL_law 1159 = .ok (.iconst 2, 1) := by decide +kernel
theorem dL_law_1160 : decode cL_law 1160 = .ok (.iadd, 1) := by decide +kernel
theorem dL_law_1161 : decode cL_law 1161 = .ok (.iaload, 1) := by decide +kernel
theorem dL_law_1162 : decode cL_law 1162 = .ok (.invokevirtual 134, 3) := by decide +kernel
theorem dL_law_1165 : decode cL_law 1165 = .ok (.if_icmp .eq 42, 3) := by decide +kernel
theorem dL_law_1168 : decode cL_law 1168 = .ok (.iconst 0, 1) := by decide +kernel
theorem dL_law_1169 : decode cL_law 1169 = .ok (.ireturn, 1) := by decide +kernel
theorem dL_law_1170 : decode cL_law 1170 = .ok (.aload_n 1, 1) := by decide +kernel
theorem dL_law_1171 : decode cL_law 1171 = .ok (.aload_n 0, 1) := by decide +kernel
theorem dL_law_1172 : decode cL_law 1172 = .ok (.iload_n 3, 1) := by decide +kernel
theorem dL_law_1173 : decode cL_law 1173 = .ok (.iconst 1, 1) := by decide +kernel
theorem dL_law_1174 : decode cL_law 1174 = .ok (.iadd, 1) := by decide +kernel
theorem dL_law_1175 : decode cL_law 1175 = .ok (.iaload, 1) := by decide +kernel
theorem dL_law_1176 : decode cL_law 1176 = .ok (.invokevirtual 135, 3) := by decide +kernel
theorem dL_law_1179 : decode cL_law 1179 = .ok (.aload_n 2, 1) := by decide +kernel
theorem dL_law_1180 : decode cL_law 1180 = .ok (.aload_n 0, 1) := by decide +kernel
theorem dL_law_1181 : decode cL_law 1181 = .ok (.iload_n 3, 1) := by decide +kernel
theorem dL_law_1182 : decode cL_law 1182 = .ok (.iconst 1, 1) := by decide +kernel
theorem dL_law_1183 : decode cL_law 1183 = .ok (.iadd, 1) := by decide +kernel
theorem dL_law_1184 : decode cL_law 1184 = .ok (.iaload, 1) := by decide +kernel
theorem dL_law_1185 : decode cL_law 1185 = .ok (.invokevirtual 138, 3) := by decide +kernel
theorem dL_law_1188 : decode cL_law 1188 = .ok (.if_icmp .eq 19, 3) := by decide +kernel
theorem dL_law_1191 : decode cL_law 1191 = .ok (.iconst 0, 1) := by decide +kernel
theorem dL_law_1192 : decode cL_law 1192 = .ok (.ireturn, 1) := by decide +kernel
theorem dL_law_1193 : decode cL_law 1193 = .ok (.aload_n 1, 1) := by decide +kernel
theorem dL_law_1194 : decode cL_law 1194 = .ok (.invokevirtual 139, 3) := by decide +kernel
theorem dL_law_1197 : decode cL_law 1197 = .ok (.aload_n 2, 1) := by decide +kernel
theorem dL_law_1198 : decode cL_law 1198 = .ok (.invokevirtual 143, 3) := by decide +kernel
theorem dL_law_1201 : decode cL_law 1201 = .ok (.lcmp, 1) := by decide +kernel
theorem dL_law_1202 : decode cL_law 1202 = .ok (.ifCond .eq 5, 3) := by decide +kernel
theorem dL_law_1205 : decode cL_law 1205 = .ok (.iconst 0, 1) := by decide +kernel
theorem dL_law_1206 : decode cL_law 1206 = .ok (.ireturn, 1) := by decide +kernel
theorem dL_law_1207 : decode cL_law 1207 = .ok (.iinc 3 5, 3) := by decide +kernel
theorem dL_law_1210 : decode cL_law 1210 = .ok (.goto (-1192), 3) := by decide +kernel
theorem dL_law_1213 : decode cL_law 1213 = .ok (.iconst 1, 1) := by decide +kernel
theorem dL_law_1214 : decode cL_law 1214 = .ok (.ireturn, 1) := by decide +kernel
end
section
/-! the state of the system: int fields, int rows, long fields, long rows, each by the number of its cell -/
abbrev fcS : Type := (Nat → Nat → Int32) × (Nat → Nat → Int32) × (Nat → Nat → Int64) × (Nat → Nat → Int64)
def fgi (t : fcS) (k j : Nat) : Int32 := t.1 k j
def fga (t : fcS) (k : Nat) : Nat → Int32 := t.2.1 k
def fgj (t : fcS) (k j : Nat) : Int64 := t.2.2.1 k j
def fgl (t : fcS) (k : Nat) : Nat → Int64 := t.2.2.2 k
def fsi (t : fcS) (k j : Nat) (v : Int32) : fcS := (fun a b => if a = k ∧ b = j then v else t.1 a b, t.2)
def fsa (t : fcS) (k i : Nat) (v : Int32) : fcS := (t.1, fun a => if a = k then upd (t.2.1 k) i v else t.2.1 a, t.2.2)
def fsj (t : fcS) (k j : Nat) (v : Int64) : fcS := (t.1, t.2.1, fun a b => if a = k ∧ b = j then v else t.2.2.1 a b, t.2.2.2)
def fsl (t : fcS) (k i : Nat) (v : Int64) : fcS := (t.1, t.2.1, t.2.2.1, fun a => if a = k then vp_updL (t.2.2.2 k) i v else t.2.2.2 a)
abbrev irm (x y : Int32) : Int32 := x - x / y * y
abbrev lrm (x y : Int64) : Int64 := x - x / y * y
def fwl (adr : Nat → Nat) (N : Nat) (g : Nat → va_E) : va_W := (List.range N).map (fun k => (adr k, g k))
theorem fwl_get {adr : Nat → Nat} {N : Nat} {g : Nat → va_E} {k : Nat} (h : k < N) : (fwl adr N g)[k]? = some (adr k, g k) := by
  simp [fwl, h]
theorem fwl_inv {adr : Nat → Nat} {N : Nat} {g : Nat → va_E} {k : Nat} {q : Nat × va_E} (h : (fwl adr N g)[k]? = some q) : k < N ∧ q = (adr k, g k) := by
  rcases Nat.lt_or_ge k N with h1 | h1
  · exact ⟨h1, by rw [fwl_get h1] at h; exact (Option.some.inj h).symm⟩
  · rw [List.getElem?_eq_none (by simp [fwl]; exact h1)] at h; cases h
theorem fwl_set {adr : Nat → Nat} {N : Nat} {g g2 : Nat → va_E} {k : Nat} {e : va_E} (he : g2 k = e) (hn : ∀ a, a ≠ k → g2 a = g a) : (fwl adr N g).set k (adr k, e) = fwl adr N g2 := by
  apply List.ext_getElem?
  intro i
  rw [List.getElem?_set]
  rcases Nat.lt_or_ge i N with h1 | h1
  · rw [fwl_get h1, fwl_get h1]
    by_cases hk : k = i
    · subst hk; rw [if_pos rfl, if_pos (by simp [fwl]; exact h1), he]
    · rw [if_neg hk, hn i (fun q => hk q.symm)]
  · have e1 : (fwl adr N g)[i]? = none := List.getElem?_eq_none (by simp [fwl]; exact h1)
    have e2 : (fwl adr N g2)[i]? = none := List.getElem?_eq_none (by simp [fwl]; exact h1)
    rw [e1, e2]
    by_cases hk : k = i
    · subst hk; rw [if_pos rfl, if_neg (by simp [fwl]; exact h1)]
    · rw [if_neg hk]
def faN (adr : Nat → Nat) (N : Nat) : Nat → Prop := fun q => ∃ k, k < N ∧ q = adr k
def finj (adr : Nat → Nat) (N : Nat) : Prop := ∀ i j, i < N → j < N → adr i = adr j → i = j
theorem fwl_D {adr : Nat → Nat} {N : Nat} (g : Nat → va_E) (h : finj adr N) : va_D (faN adr N) (fwl adr N g) :=
  ⟨fun i j p q hi hj e => by
    obtain ⟨a1, a2⟩ := fwl_inv hi
    obtain ⟨b1, b2⟩ := fwl_inv hj
    subst a2; subst b2
    exact h i j a1 b1 e, fun k q hk => by
    obtain ⟨a1, a2⟩ := fwl_inv hk
    subst a2
    exact ⟨k, a1, rfl⟩⟩
def fisF (k : Nat) : Prop := 6 ≤ k ∧ k < 21 ∧ k % 3 = 0
def fisC (k : Nat) : Prop := 21 ≤ k ∧ k < 53 ∧ k % 4 = 1
def fisL (k : Nat) : Prop := 21 ≤ k ∧ k < 53 ∧ k % 4 = 3
def frF (adr : Nat → Nat) : Nat → Option Nat := fun i => if i < 5 then some (adr (6 + 3 * i)) else none
def frC (adr : Nat → Nat) : Nat → Option Nat := fun i => if i < 8 then some (adr (21 + 4 * i)) else none
def fG (adr : Nat → Nat) (cs : Nat → ClassId) (t : fcS) (k : Nat) : va_E :=
  if k = 0 then .inr (4, [.ref (adr 1), .ref (adr 2), .ref (adr 3), .ref (adr 4), .ref (adr 5), .int (fgi t 0 5), .int (fgi t 0 6), .int (fgi t 0 7), .int (fgi t 0 8), .long (fgj t 0 9)])
  else if k = 1 then .inr (3, [.int (fgi t 1 0)])
  else if k = 2 then .inl (cs 3, 5, .inr (.inr (.inr (.inr (frF adr)))))
  else if k = 3 then .inl (cs 2, 8, .inr (.inr (.inr (.inr (frC adr)))))
  else if k = 4 then .inl (cs 0, 343, .inl (fga t 4))
  else if k = 5 then .inl (cs 1, 13, .inr (.inl (fgl t 5)))
  else if k < 21 then (if k % 3 = 0 then .inr (2, [.ref (adr 1), .int (fgi t k 1), .ref (adr (k + 1)), .ref (adr (k + 2)), .int (fgi t k 4), .int (fgi t k 5), .int (fgi t k 6), .int (fgi t k 7)]) else .inl (cs 0, 343, .inl (fga t k)))
  else if k < 53 then (if k % 4 = 1 then .inr (1, [.ref (adr 1), .ref (adr (k + 2)), .ref (adr (k + 1)), .int (fgi t k 3), .int (fgi t k 4), .int (fgi t k 5), .int (fgi t k 6), .int (fgi t k 7), .int (fgi t k 8), .int (fgi t k 9)]) else if k % 4 = 3 then .inr (0, [.ref (adr 1), .ref (adr (k + 1)), .int (fgi t k 2), .int (fgi t k 3), .int (fgi t k 4)]) else if k % 4 = 2 then .inl (cs 0, 5, .inl (fga t k)) else .inl (cs 0, 450, .inl (fga t k)))
  else if k = 53 then .inr (5, [.int (fgi t 53 0), .int (fgi t 53 1), .int (fgi t 53 2), .ref (adr 54), .ref (adr 55), .int (fgi t 53 5), .int (fgi t 53 6), .ref (adr 56), .ref (adr 57), .ref (adr 58), .ref (adr 59), .int (fgi t 53 11), .long (fgj t 53 12), .ref (adr 60), .ref (adr 61), .int (fgi t 53 15), .int (fgi t 53 16), .int (fgi t 53 17), .ref (adr 62), .ref (adr 63), .ref (adr 64), .ref (adr 65), .ref (adr 66)])
  else if k = 54 then .inl (cs 0, 6, .inl (fga t 54))
  else if k = 55 then .inl (cs 0, 6, .inl (fga t 55))
  else if k = 56 then .inl (cs 0, 8, .inl (fga t 56))
  else if k = 57 then .inl (cs 0, 8, .inl (fga t 57))
  else if k = 58 then .inl (cs 0, 8, .inl (fga t 58))
  else if k = 59 then .inl (cs 0, 128, .inl (fga t 59))
  else if k = 60 then .inl (cs 0, 640, .inl (fga t 60))
  else if k = 61 then .inl (cs 0, 344, .inl (fga t 61))
  else if k = 62 then .inl (cs 0, 600, .inl (fga t 62))
  else if k = 63 then .inl (cs 0, 600, .inl (fga t 63))
  else if k = 64 then .inl (cs 0, 344, .inl (fga t 64))
  else if k = 65 then .inl (cs 0, 5, .inl (fga t 65))
  else .inl (cs 1, 13, .inr (.inl (fgl t 66)))
set_option maxHeartbeats 4000000 in
theorem fG_fsi_ne (adr : Nat → Nat) (cs : Nat → ClassId) (t : fcS) (k j : Nat) (v : Int32) (a : Nat) (h : a ≠ k) : fG adr cs (fsi t k j v) a = fG adr cs t a := by
  have e1 : ∀ b, fgi (fsi t k j v) a b = fgi t a b := fun b => by simp [fgi, fsi, h]
  have e2 : fga (fsi t k j v) a = fga t a := by simp [fga, fsi, h]
  have e3 : ∀ b, fgj (fsi t k j v) a b = fgj t a b := fun b => by simp [fgj, fsi, h]
  have e4 : fgl (fsi t k j v) a = fgl t a := by simp [fgl, fsi, h]
  unfold fG
  repeat' split
  all_goals (first | rfl | (subst_vars; simp only [e1, e2, e3, e4]))
set_option maxHeartbeats 4000000 in
theorem fG_fsa_ne (adr : Nat → Nat) (cs : Nat → ClassId) (t : fcS) (k j : Nat) (v : Int32) (a : Nat) (h : a ≠ k) : fG adr cs (fsa t k j v) a = fG adr cs t a := by
  have e1 : ∀ b, fgi (fsa t k j v) a b = fgi t a b := fun b => by simp [fgi, fsa, h]
  have e2 : fga (fsa t k j v) a = fga t a := by simp [fga, fsa, h]
  have e3 : ∀ b, fgj (fsa t k j v) a b = fgj t a b := fun b => by simp [fgj, fsa, h]
  have e4 : fgl (fsa t k j v) a = fgl t a := by simp [fgl, fsa, h]
  unfold fG
  repeat' split
  all_goals (first | rfl | (subst_vars; simp only [e1, e2, e3, e4]))
set_option maxHeartbeats 4000000 in
theorem fG_fsj_ne (adr : Nat → Nat) (cs : Nat → ClassId) (t : fcS) (k j : Nat) (v : Int64) (a : Nat) (h : a ≠ k) : fG adr cs (fsj t k j v) a = fG adr cs t a := by
  have e1 : ∀ b, fgi (fsj t k j v) a b = fgi t a b := fun b => by simp [fgi, fsj, h]
  have e2 : fga (fsj t k j v) a = fga t a := by simp [fga, fsj, h]
  have e3 : ∀ b, fgj (fsj t k j v) a b = fgj t a b := fun b => by simp [fgj, fsj, h]
  have e4 : fgl (fsj t k j v) a = fgl t a := by simp [fgl, fsj, h]
  unfold fG
  repeat' split
  all_goals (first | rfl | (subst_vars; simp only [e1, e2, e3, e4]))
set_option maxHeartbeats 4000000 in
theorem fG_fsl_ne (adr : Nat → Nat) (cs : Nat → ClassId) (t : fcS) (k j : Nat) (v : Int64) (a : Nat) (h : a ≠ k) : fG adr cs (fsl t k j v) a = fG adr cs t a := by
  have e1 : ∀ b, fgi (fsl t k j v) a b = fgi t a b := fun b => by simp [fgi, fsl, h]
  have e2 : fga (fsl t k j v) a = fga t a := by simp [fga, fsl, h]
  have e3 : ∀ b, fgj (fsl t k j v) a b = fgj t a b := fun b => by simp [fgj, fsl, h]
  have e4 : fgl (fsl t k j v) a = fgl t a := by simp [fgl, fsl, h]
  unfold fG
  repeat' split
  all_goals (first | rfl | (subst_vars; simp only [e1, e2, e3, e4]))
theorem fG_FC (adr : Nat → Nat) (cs : Nat → ClassId) (t : fcS) : fG adr cs t 0 = .inr (4, [.ref (adr 1), .ref (adr 2), .ref (adr 3), .ref (adr 4), .ref (adr 5), .int (fgi t 0 5), .int (fgi t 0 6), .int (fgi t 0 7), .int (fgi t 0 8), .long (fgj t 0 9)]) := rfl
theorem fG_PO (adr : Nat → Nat) (cs : Nat → ClassId) (t : fcS) : fG adr cs t 1 = .inr (3, [.int (fgi t 1 0)]) := rfl
theorem fG_2 (adr : Nat → Nat) (cs : Nat → ClassId) (t : fcS) : fG adr cs t 2 = .inl (cs 3, 5, .inr (.inr (.inr (.inr (frF adr))))) := rfl
theorem fG_3 (adr : Nat → Nat) (cs : Nat → ClassId) (t : fcS) : fG adr cs t 3 = .inl (cs 2, 8, .inr (.inr (.inr (.inr (frC adr))))) := rfl
theorem fG_4 (adr : Nat → Nat) (cs : Nat → ClassId) (t : fcS) : fG adr cs t 4 = .inl (cs 0, 343, .inl (fga t 4)) := rfl
theorem fG_5 (adr : Nat → Nat) (cs : Nat → ClassId) (t : fcS) : fG adr cs t 5 = .inl (cs 1, 13, .inr (.inl (fgl t 5))) := rfl
theorem fG_MO (adr : Nat → Nat) (cs : Nat → ClassId) (t : fcS) : fG adr cs t 53 = .inr (5, [.int (fgi t 53 0), .int (fgi t 53 1), .int (fgi t 53 2), .ref (adr 54), .ref (adr 55), .int (fgi t 53 5), .int (fgi t 53 6), .ref (adr 56), .ref (adr 57), .ref (adr 58), .ref (adr 59), .int (fgi t 53 11), .long (fgj t 53 12), .ref (adr 60), .ref (adr 61), .int (fgi t 53 15), .int (fgi t 53 16), .int (fgi t 53 17), .ref (adr 62), .ref (adr 63), .ref (adr 64), .ref (adr 65), .ref (adr 66)]) := rfl
theorem fG_54 (adr : Nat → Nat) (cs : Nat → ClassId) (t : fcS) : fG adr cs t 54 = .inl (cs 0, 6, .inl (fga t 54)) := rfl
theorem fG_55 (adr : Nat → Nat) (cs : Nat → ClassId) (t : fcS) : fG adr cs t 55 = .inl (cs 0, 6, .inl (fga t 55)) := rfl
theorem fG_56 (adr : Nat → Nat) (cs : Nat → ClassId) (t : fcS) : fG adr cs t 56 = .inl (cs 0, 8, .inl (fga t 56)) := rfl
theorem fG_57 (adr : Nat → Nat) (cs : Nat → ClassId) (t : fcS) : fG adr cs t 57 = .inl (cs 0, 8, .inl (fga t 57)) := rfl
theorem fG_58 (adr : Nat → Nat) (cs : Nat → ClassId) (t : fcS) : fG adr cs t 58 = .inl (cs 0, 8, .inl (fga t 58)) := rfl
theorem fG_59 (adr : Nat → Nat) (cs : Nat → ClassId) (t : fcS) : fG adr cs t 59 = .inl (cs 0, 128, .inl (fga t 59)) := rfl
theorem fG_60 (adr : Nat → Nat) (cs : Nat → ClassId) (t : fcS) : fG adr cs t 60 = .inl (cs 0, 640, .inl (fga t 60)) := rfl
theorem fG_61 (adr : Nat → Nat) (cs : Nat → ClassId) (t : fcS) : fG adr cs t 61 = .inl (cs 0, 344, .inl (fga t 61)) := rfl
theorem fG_62 (adr : Nat → Nat) (cs : Nat → ClassId) (t : fcS) : fG adr cs t 62 = .inl (cs 0, 600, .inl (fga t 62)) := rfl
theorem fG_63 (adr : Nat → Nat) (cs : Nat → ClassId) (t : fcS) : fG adr cs t 63 = .inl (cs 0, 600, .inl (fga t 63)) := rfl
theorem fG_64 (adr : Nat → Nat) (cs : Nat → ClassId) (t : fcS) : fG adr cs t 64 = .inl (cs 0, 344, .inl (fga t 64)) := rfl
theorem fG_65 (adr : Nat → Nat) (cs : Nat → ClassId) (t : fcS) : fG adr cs t 65 = .inl (cs 0, 5, .inl (fga t 65)) := rfl
theorem fG_66 (adr : Nat → Nat) (cs : Nat → ClassId) (t : fcS) : fG adr cs t 66 = .inl (cs 1, 13, .inr (.inl (fgl t 66))) := rfl
theorem fG_FI (adr : Nat → Nat) (cs : Nat → ClassId) (t : fcS) {k : Nat} (h : fisF k) : fG adr cs t k = .inr (2, [.ref (adr 1), .int (fgi t k 1), .ref (adr (k + 1)), .ref (adr (k + 2)), .int (fgi t k 4), .int (fgi t k 5), .int (fgi t k 6), .int (fgi t k 7)]) := by
  unfold fG
  obtain ⟨h1, h2, h3⟩ := h
  rw [if_neg (show ¬ k = 0 by omega), if_neg (show ¬ k = 1 by omega), if_neg (show ¬ k = 2 by omega), if_neg (show ¬ k = 3 by omega), if_neg (show ¬ k = 4 by omega), if_neg (show ¬ k = 5 by omega), if_pos (show k < 21 by omega), if_pos (show k % 3 = 0 by omega)]
theorem fG_FP (adr : Nat → Nat) (cs : Nat → ClassId) (t : fcS) {k : Nat} (h : fisF k) : fG adr cs t (k + 1) = .inl (cs 0, 343, .inl (fga t (k + 1))) := by
  unfold fG
  obtain ⟨h1, h2, h3⟩ := h
  rw [if_neg (show ¬ (k + 1) = 0 by omega), if_neg (show ¬ (k + 1) = 1 by omega), if_neg (show ¬ (k + 1) = 2 by omega), if_neg (show ¬ (k + 1) = 3 by omega), if_neg (show ¬ (k + 1) = 4 by omega), if_neg (show ¬ (k + 1) = 5 by omega), if_pos (show (k + 1) < 21 by omega), if_neg (show ¬ (k + 1) % 3 = 0 by omega)]
theorem fG_FE (adr : Nat → Nat) (cs : Nat → ClassId) (t : fcS) {k : Nat} (h : fisF k) : fG adr cs t (k + 2) = .inl (cs 0, 343, .inl (fga t (k + 2))) := by
  unfold fG
  obtain ⟨h1, h2, h3⟩ := h
  rw [if_neg (show ¬ (k + 2) = 0 by omega), if_neg (show ¬ (k + 2) = 1 by omega), if_neg (show ¬ (k + 2) = 2 by omega), if_neg (show ¬ (k + 2) = 3 by omega), if_neg (show ¬ (k + 2) = 4 by omega), if_neg (show ¬ (k + 2) = 5 by omega), if_pos (show (k + 2) < 21 by omega), if_neg (show ¬ (k + 2) % 3 = 0 by omega)]
theorem fG_CU (adr : Nat → Nat) (cs : Nat → ClassId) (t : fcS) {k : Nat} (h : fisC k) : fG adr cs t k = .inr (1, [.ref (adr 1), .ref (adr (k + 2)), .ref (adr (k + 1)), .int (fgi t k 3), .int (fgi t k 4), .int (fgi t k 5), .int (fgi t k 6), .int (fgi t k 7), .int (fgi t k 8), .int (fgi t k 9)]) := by
  unfold fG
  obtain ⟨h1, h2, h3⟩ := h
  rw [if_neg (show ¬ k = 0 by omega), if_neg (show ¬ k = 1 by omega), if_neg (show ¬ k = 2 by omega), if_neg (show ¬ k = 3 by omega), if_neg (show ¬ k = 4 by omega), if_neg (show ¬ k = 5 by omega), if_neg (show ¬ k < 21 by omega), if_pos (show k < 53 by omega), if_pos (show k % 4 = 1 by omega)]
theorem fG_CS (adr : Nat → Nat) (cs : Nat → ClassId) (t : fcS) {k : Nat} (h : fisC k) : fG adr cs t (k + 1) = .inl (cs 0, 5, .inl (fga t (k + 1))) := by
  unfold fG
  obtain ⟨h1, h2, h3⟩ := h
  rw [if_neg (show ¬ (k + 1) = 0 by omega), if_neg (show ¬ (k + 1) = 1 by omega), if_neg (show ¬ (k + 1) = 2 by omega), if_neg (show ¬ (k + 1) = 3 by omega), if_neg (show ¬ (k + 1) = 4 by omega), if_neg (show ¬ (k + 1) = 5 by omega), if_neg (show ¬ (k + 1) < 21 by omega), if_pos (show (k + 1) < 53 by omega), if_neg (show ¬ (k + 1) % 4 = 1 by omega), if_neg (show ¬ (k + 1) % 4 = 3 by omega), if_pos (show (k + 1) % 4 = 2 by omega)]
theorem fG_CL (adr : Nat → Nat) (cs : Nat → ClassId) (t : fcS) {k : Nat} (h : fisL k) : fG adr cs t k = .inr (0, [.ref (adr 1), .ref (adr (k + 1)), .int (fgi t k 2), .int (fgi t k 3), .int (fgi t k 4)]) := by
  unfold fG
  obtain ⟨h1, h2, h3⟩ := h
  rw [if_neg (show ¬ k = 0 by omega), if_neg (show ¬ k = 1 by omega), if_neg (show ¬ k = 2 by omega), if_neg (show ¬ k = 3 by omega), if_neg (show ¬ k = 4 by omega), if_neg (show ¬ k = 5 by omega), if_neg (show ¬ k < 21 by omega), if_pos (show k < 53 by omega), if_neg (show ¬ k % 4 = 1 by omega), if_pos (show k % 4 = 3 by omega)]
theorem fG_LK (adr : Nat → Nat) (cs : Nat → ClassId) (t : fcS) {k : Nat} (h : fisL k) : fG adr cs t (k + 1) = .inl (cs 0, 450, .inl (fga t (k + 1))) := by
  unfold fG
  obtain ⟨h1, h2, h3⟩ := h
  rw [if_neg (show ¬ (k + 1) = 0 by omega), if_neg (show ¬ (k + 1) = 1 by omega), if_neg (show ¬ (k + 1) = 2 by omega), if_neg (show ¬ (k + 1) = 3 by omega), if_neg (show ¬ (k + 1) = 4 by omega), if_neg (show ¬ (k + 1) = 5 by omega), if_neg (show ¬ (k + 1) < 21 by omega), if_pos (show (k + 1) < 53 by omega), if_neg (show ¬ (k + 1) % 4 = 1 by omega), if_neg (show ¬ (k + 1) % 4 = 3 by omega), if_neg (show ¬ (k + 1) % 4 = 2 by omega)]
theorem fisL_of {k : Nat} (h : fisC k) : fisL (k + 2) := by obtain ⟨h1, h2, h3⟩ := h; exact ⟨by omega, by omega, by omega⟩
theorem fS_FC_5 (adr : Nat → Nat) (cs : Nat → ClassId) (t : fcS) (v : Int32) : fG adr cs (fsi t 0 5 v) 0 = .inr (4, [.ref (adr 1), .ref (adr 2), .ref (adr 3), .ref (adr 4), .ref (adr 5), .int v, .int (fgi t 0 6), .int (fgi t 0 7), .int (fgi t 0 8), .long (fgj t 0 9)]) := rfl
theorem fS_FC_6 (adr : Nat → Nat) (cs : Nat → ClassId) (t : fcS) (v : Int32) : fG adr cs (fsi t 0 6 v) 0 = .inr (4, [.ref (adr 1), .ref (adr 2), .ref (adr 3), .ref (adr 4), .ref (adr 5), .int (fgi t 0 5), .int v, .int (fgi t 0 7), .int (fgi t 0 8), .long (fgj t 0 9)]) := rfl
theorem fS_FC_7 (adr : Nat → Nat) (cs : Nat → ClassId) (t : fcS) (v : Int32) : fG adr cs (fsi t 0 7 v) 0 = .inr (4, [.ref (adr 1), .ref (adr 2), .ref (adr 3), .ref (adr 4), .ref (adr 5), .int (fgi t 0 5), .int (fgi t 0 6), .int v, .int (fgi t 0 8), .long (fgj t 0 9)]) := rfl
theorem fS_FC_8 (adr : Nat → Nat) (cs : Nat → ClassId) (t : fcS) (v : Int32) : fG adr cs (fsi t 0 8 v) 0 = .inr (4, [.ref (adr 1), .ref (adr 2), .ref (adr 3), .ref (adr 4), .ref (adr 5), .int (fgi t 0 5), .int (fgi t 0 6), .int (fgi t 0 7), .int v, .long (fgj t 0 9)]) := rfl
theorem fS_FC_9 (adr : Nat → Nat) (cs : Nat → ClassId) (t : fcS) (v : Int64) : fG adr cs (fsj t 0 9 v) 0 = .inr (4, [.ref (adr 1), .ref (adr 2), .ref (adr 3), .ref (adr 4), .ref (adr 5), .int (fgi t 0 5), .int (fgi t 0 6), .int (fgi t 0 7), .int (fgi t 0 8), .long v]) := rfl
theorem fS_PO_0 (adr : Nat → Nat) (cs : Nat → ClassId) (t : fcS) (v : Int32) : fG adr cs (fsi t 1 0 v) 1 = .inr (3, [.int v]) := rfl
theorem fS_FI_4 (adr : Nat → Nat) (cs : Nat → ClassId) (t : fcS) {k : Nat} (h : fisF k) (v : Int32) : fG adr cs (fsi t k 4 v) k = .inr (2, [.ref (adr 1), .int (fgi t k 1), .ref (adr (k + 1)), .ref (adr (k + 2)), .int v, .int (fgi t k 5), .int (fgi t k 6), .int (fgi t k 7)]) := by
  rw [fG_FI adr cs _ h]; simp [fgi, fgj, fsi, fsj]
theorem fS_FI_5 (adr : Nat → Nat) (cs : Nat → ClassId) (t : fcS) {k : Nat} (h : fisF k) (v : Int32) : fG adr cs (fsi t k 5 v) k = .inr (2, [.ref (adr 1), .int (fgi t k 1), .ref (adr (k + 1)), .ref (adr (k + 2)), .int (fgi t k 4), .int v, .int (fgi t k 6), .int (fgi t k 7)]) := by
  rw [fG_FI adr cs _ h]; simp [fgi, fgj, fsi, fsj]
theorem fS_FI_6 (adr : Nat → Nat) (cs : Nat → ClassId) (t : fcS) {k : Nat} (h : fisF k) (v : Int32) : fG adr cs (fsi t k 6 v) k = .inr (2, [.ref (adr 1), .int (fgi t k 1), .ref (adr (k + 1)), .ref (adr (k + 2)), .int (fgi t k 4), .int (fgi t k 5), .int v, .int (fgi t k 7)]) := by
  rw [fG_FI adr cs _ h]; simp [fgi, fgj, fsi, fsj]
theorem fS_FI_7 (adr : Nat → Nat) (cs : Nat → ClassId) (t : fcS) {k : Nat} (h : fisF k) (v : Int32) : fG adr cs (fsi t k 7 v) k = .inr (2, [.ref (adr 1), .int (fgi t k 1), .ref (adr (k + 1)), .ref (adr (k + 2)), .int (fgi t k 4), .int (fgi t k 5), .int (fgi t k 6), .int v]) := by
  rw [fG_FI adr cs _ h]; simp [fgi, fgj, fsi, fsj]
theorem fS_CU_3 (adr : Nat → Nat) (cs : Nat → ClassId) (t : fcS) {k : Nat} (h : fisC k) (v : Int32) : fG adr cs (fsi t k 3 v) k = .inr (1, [.ref (adr 1), .ref (adr (k + 2)), .ref (adr (k + 1)), .int v, .int (fgi t k 4), .int (fgi t k 5), .int (fgi t k 6), .int (fgi t k 7), .int (fgi t k 8), .int (fgi t k 9)]) := by
  rw [fG_CU adr cs _ h]; simp [fgi, fgj, fsi, fsj]
theorem fS_CU_4 (adr : Nat → Nat) (cs : Nat → ClassId) (t : fcS) {k : Nat} (h : fisC k) (v : Int32) : fG adr cs (fsi t k 4 v) k = .inr (1, [.ref (adr 1), .ref (adr (k + 2)), .ref (adr (k + 1)), .int (fgi t k 3), .int v, .int (fgi t k 5), .int (fgi t k 6), .int (fgi t k 7), .int (fgi t k 8), .int (fgi t k 9)]) := by
  rw [fG_CU adr cs _ h]; simp [fgi, fgj, fsi, fsj]
theorem fS_CU_5 (adr : Nat → Nat) (cs : Nat → ClassId) (t : fcS) {k : Nat} (h : fisC k) (v : Int32) : fG adr cs (fsi t k 5 v) k = .inr (1, [.ref (adr 1), .ref (adr (k + 2)), .ref (adr (k + 1)), .int (fgi t k 3), .int (fgi t k 4), .int v, .int (fgi t k 6), .int (fgi t k 7), .int (fgi t k 8), .int (fgi t k 9)]) := by
  rw [fG_CU adr cs _ h]; simp [fgi, fgj, fsi, fsj]
theorem fS_CU_6 (adr : Nat → Nat) (cs : Nat → ClassId) (t : fcS) {k : Nat} (h : fisC k) (v : Int32) : fG adr cs (fsi t k 6 v) k = .inr (1, [.ref (adr 1), .ref (adr (k + 2)), .ref (adr (k + 1)), .int (fgi t k 3), .int (fgi t k 4), .int (fgi t k 5), .int v, .int (fgi t k 7), .int (fgi t k 8), .int (fgi t k 9)]) := by
  rw [fG_CU adr cs _ h]; simp [fgi, fgj, fsi, fsj]
theorem fS_CU_7 (adr : Nat → Nat) (cs : Nat → ClassId) (t : fcS) {k : Nat} (h : fisC k) (v : Int32) : fG adr cs (fsi t k 7 v) k = .inr (1, [.ref (adr 1), .ref (adr (k + 2)), .ref (adr (k + 1)), .int (fgi t k 3), .int (fgi t k 4), .int (fgi t k 5), .int (fgi t k 6), .int v, .int (fgi t k 8), .int (fgi t k 9)]) := by
  rw [fG_CU adr cs _ h]; simp [fgi, fgj, fsi, fsj]
theorem fS_CU_8 (adr : Nat → Nat) (cs : Nat → ClassId) (t : fcS) {k : Nat} (h : fisC k) (v : Int32) : fG adr cs (fsi t k 8 v) k = .inr (1, [.ref (adr 1), .ref (adr (k + 2)), .ref (adr (k + 1)), .int (fgi t k 3), .int (fgi t k 4), .int (fgi t k 5), .int (fgi t k 6), .int (fgi t k 7), .int v, .int (fgi t k 9)]) := by
  rw [fG_CU adr cs _ h]; simp [fgi, fgj, fsi, fsj]
theorem fS_CU_9 (adr : Nat → Nat) (cs : Nat → ClassId) (t : fcS) {k : Nat} (h : fisC k) (v : Int32) : fG adr cs (fsi t k 9 v) k = .inr (1, [.ref (adr 1), .ref (adr (k + 2)), .ref (adr (k + 1)), .int (fgi t k 3), .int (fgi t k 4), .int (fgi t k 5), .int (fgi t k 6), .int (fgi t k 7), .int (fgi t k 8), .int v]) := by
  rw [fG_CU adr cs _ h]; simp [fgi, fgj, fsi, fsj]
theorem fS_CL_2 (adr : Nat → Nat) (cs : Nat → ClassId) (t : fcS) {k : Nat} (h : fisL k) (v : Int32) : fG adr cs (fsi t k 2 v) k = .inr (0, [.ref (adr 1), .ref (adr (k + 1)), .int v, .int (fgi t k 3), .int (fgi t k 4)]) := by
  rw [fG_CL adr cs _ h]; simp [fgi, fgj, fsi, fsj]
theorem fS_CL_3 (adr : Nat → Nat) (cs : Nat → ClassId) (t : fcS) {k : Nat} (h : fisL k) (v : Int32) : fG adr cs (fsi t k 3 v) k = .inr (0, [.ref (adr 1), .ref (adr (k + 1)), .int (fgi t k 2), .int v, .int (fgi t k 4)]) := by
  rw [fG_CL adr cs _ h]; simp [fgi, fgj, fsi, fsj]
theorem fS_CL_4 (adr : Nat → Nat) (cs : Nat → ClassId) (t : fcS) {k : Nat} (h : fisL k) (v : Int32) : fG adr cs (fsi t k 4 v) k = .inr (0, [.ref (adr 1), .ref (adr (k + 1)), .int (fgi t k 2), .int (fgi t k 3), .int v]) := by
  rw [fG_CL adr cs _ h]; simp [fgi, fgj, fsi, fsj]
theorem fS_MO_0 (adr : Nat → Nat) (cs : Nat → ClassId) (t : fcS) (v : Int32) : fG adr cs (fsi t 53 0 v) 53 = .inr (5, [.int v, .int (fgi t 53 1), .int (fgi t 53 2), .ref (adr 54), .ref (adr 55), .int (fgi t 53 5), .int (fgi t 53 6), .ref (adr 56), .ref (adr 57), .ref (adr 58), .ref (adr 59), .int (fgi t 53 11), .long (fgj t 53 12), .ref (adr 60), .ref (adr 61), .int (fgi t 53 15), .int (fgi t 53 16), .int (fgi t 53 17), .ref (adr 62), .ref (adr 63), .ref (adr 64), .ref (adr 65), .ref (adr 66)]) := rfl
theorem fS_MO_1 (adr : Nat → Nat) (cs : Nat → ClassId) (t : fcS) (v : Int32) : fG adr cs (fsi t 53 1 v) 53 = .inr (5, [.int (fgi t 53 0), .int v, .int (fgi t 53 2), .ref (adr 54), .ref (adr 55), .int (fgi t 53 5), .int (fgi t 53 6), .ref (adr 56), .ref (adr 57), .ref (adr 58), .ref (adr 59), .int (fgi t 53 11), .long (fgj t 53 12), .ref (adr 60), .ref (adr 61), .int (fgi t 53 15), .int (fgi t 53 16), .int (fgi t 53 17), .ref (adr 62), .ref (adr 63), .ref (adr 64), .ref (adr 65), .ref (adr 66)]) := rfl
theorem fS_MO_2 (adr : Nat → Nat) (cs : Nat → ClassId) (t : fcS) (v : Int32) : fG adr cs (fsi t 53 2 v) 53 = .inr (5, [.int (fgi t 53 0), .int (fgi t 53 1), .int v, .ref (adr 54), .ref (adr 55), .int (fgi t 53 5), .int (fgi t 53 6), .ref (adr 56), .ref (adr 57), .ref (adr 58), .ref (adr 59), .int (fgi t 53 11), .long (fgj t 53 12), .ref (adr 60), .ref (adr 61), .int (fgi t 53 15), .int (fgi t 53 16), .int (fgi t 53 17), .ref (adr 62), .ref (adr 63), .ref (adr 64), .ref (adr 65), .ref (adr 66)]) := rfl
theorem fS_MO_5 (adr : Nat → Nat) (cs : Nat → ClassId) (t : fcS) (v : Int32) : fG adr cs (fsi t 53 5 v) 53 = .inr (5, [.int (fgi t 53 0), .int (fgi t 53 1), .int (fgi t 53 2), .ref (adr 54), .ref (adr 55), .int v, .int (fgi t 53 6), .ref (adr 56), .ref (adr 57), .ref (adr 58), .ref (adr 59), .int (fgi t 53 11), .long (fgj t 53 12), .ref (adr 60), .ref (adr 61), .int (fgi t 53 15), .int (fgi t 53 16), .int (fgi t 53 17), .ref (adr 62), .ref (adr 63), .ref (adr 64), .ref (adr 65), .ref (adr 66)]) := rfl
theorem fS_MO_6 (adr : Nat → Nat) (cs : Nat → ClassId) (t : fcS) (v : Int32) : fG adr cs (fsi t 53 6 v) 53 = .inr (5, [.int (fgi t 53 0), .int (fgi t 53 1), .int (fgi t 53 2), .ref (adr 54), .ref (adr 55), .int (fgi t 53 5), .int v, .ref (adr 56), .ref (adr 57), .ref (adr 58), .ref (adr 59), .int (fgi t 53 11), .long (fgj t 53 12), .ref (adr 60), .ref (adr 61), .int (fgi t 53 15), .int (fgi t 53 16), .int (fgi t 53 17), .ref (adr 62), .ref (adr 63), .ref (adr 64), .ref (adr 65), .ref (adr 66)]) := rfl
theorem fS_MO_11 (adr : Nat → Nat) (cs : Nat → ClassId) (t : fcS) (v : Int32) : fG adr cs (fsi t 53 11 v) 53 = .inr (5, [.int (fgi t 53 0), .int (fgi t 53 1), .int (fgi t 53 2), .ref (adr 54), .ref (adr 55), .int (fgi t 53 5), .int (fgi t 53 6), .ref (adr 56), .ref (adr 57), .ref (adr 58), .ref (adr 59), .int v, .long (fgj t 53 12), .ref (adr 60), .ref (adr 61), .int (fgi t 53 15), .int (fgi t 53 16), .int (fgi t 53 17), .ref (adr 62), .ref (adr 63), .ref (adr 64), .ref (adr 65), .ref (adr 66)]) := rfl
theorem fS_MO_12 (adr : Nat → Nat) (cs : Nat → ClassId) (t : fcS) (v : Int64) : fG adr cs (fsj t 53 12 v) 53 = .inr (5, [.int (fgi t 53 0), .int (fgi t 53 1), .int (fgi t 53 2), .ref (adr 54), .ref (adr 55), .int (fgi t 53 5), .int (fgi t 53 6), .ref (adr 56), .ref (adr 57), .ref (adr 58), .ref (adr 59), .int (fgi t 53 11), .long v, .ref (adr 60), .ref (adr 61), .int (fgi t 53 15), .int (fgi t 53 16), .int (fgi t 53 17), .ref (adr 62), .ref (adr 63), .ref (adr 64), .ref (adr 65), .ref (adr 66)]) := rfl
theorem fS_MO_15 (adr : Nat → Nat) (cs : Nat → ClassId) (t : fcS) (v : Int32) : fG adr cs (fsi t 53 15 v) 53 = .inr (5, [.int (fgi t 53 0), .int (fgi t 53 1), .int (fgi t 53 2), .ref (adr 54), .ref (adr 55), .int (fgi t 53 5), .int (fgi t 53 6), .ref (adr 56), .ref (adr 57), .ref (adr 58), .ref (adr 59), .int (fgi t 53 11), .long (fgj t 53 12), .ref (adr 60), .ref (adr 61), .int v, .int (fgi t 53 16), .int (fgi t 53 17), .ref (adr 62), .ref (adr 63), .ref (adr 64), .ref (adr 65), .ref (adr 66)]) := rfl
theorem fS_MO_16 (adr : Nat → Nat) (cs : Nat → ClassId) (t : fcS) (v : Int32) : fG adr cs (fsi t 53 16 v) 53 = .inr (5, [.int (fgi t 53 0), .int (fgi t 53 1), .int (fgi t 53 2), .ref (adr 54), .ref (adr 55), .int (fgi t 53 5), .int (fgi t 53 6), .ref (adr 56), .ref (adr 57), .ref (adr 58), .ref (adr 59), .int (fgi t 53 11), .long (fgj t 53 12), .ref (adr 60), .ref (adr 61), .int (fgi t 53 15), .int v, .int (fgi t 53 17), .ref (adr 62), .ref (adr 63), .ref (adr 64), .ref (adr 65), .ref (adr 66)]) := rfl
theorem fS_MO_17 (adr : Nat → Nat) (cs : Nat → ClassId) (t : fcS) (v : Int32) : fG adr cs (fsi t 53 17 v) 53 = .inr (5, [.int (fgi t 53 0), .int (fgi t 53 1), .int (fgi t 53 2), .ref (adr 54), .ref (adr 55), .int (fgi t 53 5), .int (fgi t 53 6), .ref (adr 56), .ref (adr 57), .ref (adr 58), .ref (adr 59), .int (fgi t 53 11), .long (fgj t 53 12), .ref (adr 60), .ref (adr 61), .int (fgi t 53 15), .int (fgi t 53 16), .int v, .ref (adr 62), .ref (adr 63), .ref (adr 64), .ref (adr 65), .ref (adr 66)]) := rfl
theorem fS_row {adr : Nat → Nat} {cs : Nat → ClassId} {t : fcS} {k n : Nat} (h : ∀ u : fcS, fG adr cs u k = .inl (cs 0, n, .inl (fga u k))) (i : Nat) (v : Int32) : fG adr cs (fsa t k i v) k = .inl (cs 0, n, .inl (upd (fga t k) i v)) := by
  rw [h]; simp [fga, fsa]
theorem fS_rowL {adr : Nat → Nat} {cs : Nat → ClassId} {t : fcS} {k n : Nat} (h : ∀ u : fcS, fG adr cs u k = .inl (cs 1, n, .inr (.inl (fgl u k)))) (i : Nat) (v : Int64) : fG adr cs (fsl t k i v) k = .inl (cs 1, n, .inr (.inl (vp_updL (fgl t k) i v))) := by
  rw [h]; simp [fgl, fsl]
def ftys (cs : Nat → ClassId) : List (ClassId × FieldType) := [(cs 0, .int), (cs 1, .long), (cs 2, .object "FieldCounts$Curve"), (cs 3, .object "FieldCounts$Field")]
end
section
/-! the words of nest mates -/
def fnF : List (String × Nat × String × String × String) := [(RX2, 38, RX3, "p", "I"), (RX1, 67, RX3, "p", "I"), (RX0, 53, RX3, "p", "I"), (RX4, 91, RX3, "p", "I"), (RX4, 60, RX2, "size", "I"), (RX4, 77, RX2, "units", "I"), (RX4, 63, RX2, "divisor", "I"), (RX4, 231, RX1, "list", "LFieldCounts$ClassList;"), (RX4, 243, RX1, "share", "[I"), (RX4, 235, RX1, "shareKnown", "Z"), (RX4, 134, RX1, "kind", "I"), (RX4, 137, RX1, "f", "I"), (RX4, 140, RX1, "t", "I"), (RX4, 143, RX1, "degree", "I"), (RX4, 145, RX1, "genus", "I"), (RX4, 148, RX1, "polynomial", "I")]
def fnM : List (String × Nat × MethodName) := [(RX2, 64, yX4_put), (RX2, 60, yX4_at), (RX1, 81, yX4_put), (RX1, 88, yX4_at), (RX0, 49, yX4_at)]
def fnests (U : State) : Prop := (∀ q ∈ fnF, va_Nw (.fieldLinkNest q.1 q.2.1 q.2.2.1 q.2.2.2.1 q.2.2.2.2 RX4) U) ∧ ∀ q ∈ fnM, va_Nw (.methodLinkNest q.1 q.2.1 q.2.2 RX4) U
theorem fnests_warm {s U : State} (hW : s.WarmedH U.vm) (h : fnests s) : fnests U := ⟨fun q hq => va_Nw.warmF hW (h.1 q hq), fun q hq => va_Nw.warmM hW (h.2 q hq)⟩
theorem fnests_same {u U : State} (e : u.vm = U.vm) (h : fnests u) : fnests U := ⟨fun q hq => va_Nw.same rfl e (h.1 q hq), fun q hq => va_Nw.same rfl e (h.2 q hq)⟩
/-! the two static rows: where they are stands behind the world's numbers -/
def fPR : Nat → Int32 := fun j => if j = 0 then 3 else if j = 1 then 5 else if j = 2 then 7 else if j = 3 then 11 else 13
def fTR : Nat → Int32 := fun j => if j = 0 then 1 else if j = 1 then 11 else 111
def fst0 (adr : Nat → Nat) (N : Nat) (U : State) (H : Heap) : Prop :=
  (va_Z RX4 "PRIMES" "[I" (.ref (adr 100)) (faN adr N) U H ∧ va_T .int (adr 100) 5 (fun j => .int (fPR j)) (faN adr N) U H) ∧ va_Z RX4 "TRACES" "[I" (.ref (adr 101)) (faN adr N) U H ∧ va_T .int (adr 101) 3 (fun j => .int (fTR j)) (faN adr N) U H
theorem fst0_moved {adr : Nat → Nat} {N : Nat} {u U : State} {H : Heap} (hvm : u.vm.Alike U.vm) (h : fst0 adr N u H) : fst0 adr N U H := ⟨⟨h.1.1.moved hvm, h.1.2.moved hvm⟩, h.2.1.moved hvm, h.2.2.moved hvm⟩
theorem fst0_kept {adr : Nat → Nat} {N : Nat} {U : State} {H H1 : Heap} (hq : ∀ a : Nat, a < H.size → ¬ faN adr N a → H1[a]? = H[a]?) (h : fst0 adr N U H) : fst0 adr N U H1 := ⟨⟨h.1.1.kept hq, h.1.2.kept hq⟩, h.2.1.kept hq, h.2.2.kept hq⟩
/-! what a method stands on -/
def fCx (D : va_G) (adr : Nat → Nat) (cs : Nat → ClassId) (N : Nat) (p : Program) (s : State) (m : MethodId) (args : Array Value) (meth : Method) (c : Code) (cc : ByteArray) (nL : Nat) (ret : Option FieldType) (own : String) (ws : List Cond) : Prop :=
  CallFix p m c cc nL s args ws own ∧ meth.sig.returnType = ret ∧ meth.locks = false ∧ va_K D vwCl (ftys cs) s ∧ fnests s ∧ finj adr N ∧ fst0 adr N s s.heap
def fcPre (D : va_G) (adr : Nat → Nat) (cs : Nat → ClassId) (N : Nat) (t : fcS) (av : List Value) : Array Value → State → Prop :=
  va_Pc av (fun U => va_P D vwCl (fwl adr N (fG adr cs t)) U.heap ∧ va_K D vwCl (ftys cs) U ∧ fnests U ∧ finj adr N ∧ fst0 adr N U U.heap)
abbrev fcB (D : va_G) (adr : Nat → Nat) (cs : Nat → ClassId) (N : Nat) : fcS → State → Prop := fun t U => va_P D vwCl (fwl adr N (fG adr cs t)) U.heap
abbrev fQi (D : va_G) (adr : Nat → Nat) (cs : Nat → ClassId) (N : Nat) (post : Int32 → fcS → Prop) := va_Qi post (fcB D adr cs N) (faN adr N)
abbrev fQl (D : va_G) (adr : Nat → Nat) (cs : Nat → ClassId) (N : Nat) (post : Int64 → fcS → Prop) := va_Ql post (fcB D adr cs N) (faN adr N)
abbrev fQv (D : va_G) (adr : Nat → Nat) (cs : Nat → ClassId) (N : Nat) (post : fcS → Prop) := va_Qv post (fcB D adr cs N) (faN adr N)
/-- an answer that is a cell of the world, or none: by its number -/
abbrev fQq (D : va_G) (adr : Nat → Nat) (cs : Nat → ClassId) (N : Nat) (post : Option Nat → fcS → Prop) := va_Qq (fun r t => ∃ i : Option Nat, r = i.map adr ∧ post i t) (fcB D adr cs N) (faN adr N)
theorem fcPre_blind {D : va_G} {adr : Nat → Nat} {cs : Nat → ClassId} {N : Nat} {t : fcS} {av : List Value} : FrameBlind (fcPre D adr cs N t av) := by
  intro a U g mk h
  obtain ⟨h0, h1, h2, h3, h4, h5⟩ := h
  exact ⟨h0, h1, va_K.moved (u := U) (U := U.calling g mk a) (Vm.Alike.refl U.vm) h2, fnests_same (u := U) (U := U.calling g mk a) rfl h3, h4, fst0_moved (u := U) (U := U.calling g mk a) (Vm.Alike.refl U.vm) h5⟩
section FR
variable {D : va_G} {adr : Nat → Nat} {cs : Nat → ClassId} {N : Nat} {p : Program} {l : Launch} {e : Env} {R : Room} {s : State} {m : MethodId} {args : Array Value} {below : List Frame} {meth : Method} {c : Code} {H : Heap} {locs : List Loc} {Q : State → Prop}
variable {cc : ByteArray} {nL : Nat} {ret : Option FieldType} {own : String} {ws : List Cond} {pc : Nat} {ls : Array Slot} {rest : List Value} {t : fcS} {k : Nat}
theorem f_enter {y : MethodName} {ws' : List Cond} {rm : Room} {Qc : Array Value → State → Outcome → State → Prop} {av : List Value} {lv : List (Nat × Value)} (hy : plainName y.cls = true) (hw : ws = Cond.code y cc nL ret :: ws') (hn : (lg_sl av).length ≤ nL) (hl : lv_args 0 av = lv) (ho : y.cls = own)
    (body : ∀ (p : Program) (e : Env) (s : State) (m : MethodId) (below : List Frame) (meth : Method) (c : Code) (ls : Array Slot), fCx D adr cs N p s m av.toArray meth c cc nL ret own ws → va_P D vwCl (fwl adr N (fG adr cs t)) s.heap → va_S (faN adr N) s.heap s.heap [] → lv_has ls nL lv →
      W p l e rm s m av.toArray below meth c s.heap [] 0 0 (MQ below Qc av.toArray s 0 0 (faN adr N)) (F0 m 0 ls [])) : Met l y ws rm (fcPre D adr cs N t av) Qc 0 0 (faN adr N) := by
  refine Met.ofW (cc := cc) (maxL := nL) (ret := ret) hy hw ?_
  intro p e s m args below meth c s₁ B hml hv
  obtain ⟨rfl, hP, hK, hN, hI, hZ⟩ := hv
  have hown : s.vm.findClass y.cls = some m.cls := findClass_of_methodNamed B.named
  have hE := lv_entry av (n := nL) hn
  rw [lg_entry_eq]
  rw [hl] at hE
  subst ho
  exact body p e s m below meth c _ ⟨⟨B.exec, B.bytes, hml, hown, atoms_spec (ws := ws) B.pre⟩, B.returns, B.notSynchronized, hK, hN, hI, hZ⟩ hP va_S.rf hE
/-- a field is read -/
theorem fr_get (C : fCx D adr cs N p s m args meth c cc nL ret own ws) {ci j NN index : Nat} {Cn ref : String} {T : u_T} {fs : List Value} {v : Value} (hP : va_P D vwCl (fwl adr N (fG adr cs t)) H) (hk : k < N) (hG : fG adr cs t k = .inr (ci, fs)) (hc : vwCl[ci]? = some (Cn, T, NN)) (hin : ∀ w ∈ u_ws Cn T NN, w ∈ ws) (hj : j < NN) (hr : (T j).1 = ref)
    (hlink : Cond.fieldLink own index ref (T j).2.1 (T j).2.2.1 ∈ ws) (hv : fs[j]? = some v) (hdg : decode cc pc = .ok (.getfield index, 3))
    (kk : W p l e R s m args below meth c H locs 0 0 Q (F0 m (pc + 3) ls (v :: rest))) : W p l e R s m args below meth c H locs 0 0 Q (F0 m pc ls (.ref (adr k) :: rest)) := by
  obtain ⟨⟨hx, hb, hml, hown, hts⟩, hr', hlk, hK, hN, hI, hZ⟩ := C
  exact va_get hx hb hts hin hown hK hP k (by rw [fwl_get hk, hG]) hc j hj (hts _ hlink) (fun _ h9 => by rw [← hr]; exact h9) hv hdg kk
theorem fr_getN (C : fCx D adr cs N p s m args meth c cc nL ret own ws) {ci j NN index : Nat} {Cn ref : String} {T : u_T} {fs : List Value} {v : Value} (hP : va_P D vwCl (fwl adr N (fG adr cs t)) H) (hk : k < N) (hG : fG adr cs t k = .inr (ci, fs)) (hc : vwCl[ci]? = some (Cn, T, NN)) (hin : ∀ w ∈ u_ws Cn T NN, w ∈ ws) (hj : j < NN) (hr : (T j).1 = ref)
    (hlink : (own, index, ref, (T j).2.1, (T j).2.2.1) ∈ fnF) (hv : fs[j]? = some v) (hdg : decode cc pc = .ok (.getfield index, 3))
    (kk : W p l e R s m args below meth c H locs 0 0 Q (F0 m (pc + 3) ls (v :: rest))) : W p l e R s m args below meth c H locs 0 0 Q (F0 m pc ls (.ref (adr k) :: rest)) := by
  obtain ⟨⟨hx, hb, hml, hown, hts⟩, hr', hlk, hK, hN, hI, hZ⟩ := C
  exact va_getN hx hb hts hin hown hK hP k (by rw [fwl_get hk, hG]) hc j hj (va_Nw.use rfl (hN.1 _ hlink)) (fun _ h9 => by rw [← hr]; exact h9) hv hdg kk
/-- a field is written -/
theorem fr_put (C : fCx D adr cs N p s m args meth c cc nL ret own ws) (t' : fcS) {ci j NN index : Nat} {Cn ref : String} {T : u_T} {fs : List Value} {v : Value} {ty : FieldType} {ty0 : Nat → FieldType} (hP : va_P D vwCl (fwl adr N (fG adr cs t)) H) (hS : va_S (faN adr N) s.heap H locs) (hk : k < N) (hG : fG adr cs t k = .inr (ci, fs)) (hc : vwCl[ci]? = some (Cn, T, NN)) (hin : ∀ w ∈ u_ws Cn T NN, w ∈ ws)
    (hty : ∀ k, k < NN → parseFieldDescriptor (T k).2.2.1 = some (ty0 k)) (hnm : ∀ a, a < NN → ∀ b, b < NN → a ≠ b → (T a).2.1 ≠ (T b).2.1) (hj : j < NN) (hr : (T j).1 = ref)
    (hlink : Cond.fieldLink own index ref (T j).2.1 (T j).2.2.1 ∈ ws) (hfin : (T j).2.2.2 = false) (hd : parseFieldDescriptor (T j).2.2.1 = some ty) (hn : narrow ty v = v) (hfit : fits ty v = true) (hlen : j < fs.length)
    (hG' : fG adr cs t' k = .inr (ci, fs.set j v)) (hne : ∀ a, a ≠ k → fG adr cs t' a = fG adr cs t a) (hdg : decode cc pc = .ok (.putfield index, 3))
    (kk : ∀ (H1 : Heap) (locs1 : List Loc), va_P D vwCl (fwl adr N (fG adr cs t')) H1 → va_S (faN adr N) s.heap H1 locs1 → W p l e R s m args below meth c H1 locs1 0 0 Q (F0 m (pc + 3) ls rest)) : W p l e R s m args below meth c H locs 0 0 Q (F0 m pc ls (v :: .ref (adr k) :: rest)) := by
  obtain ⟨⟨hx, hb, hml, hown, hts⟩, hr', hlk, hK, hN, hI, hZ⟩ := C
  refine va_put hx hb hts hin ty0 hty hnm hown hK hP (fwl_D _ hI) hS k (by rw [fwl_get hk, hG]) hc j hj (hts _ hlink) (fun _ h9 => by rw [← hr]; exact h9) hfin hd hn hfit hlen hdg (fun H1 locs1 hP1 hD1 hS1 => ?_)
  rw [fwl_set hG' hne] at hP1
  exact kk H1 locs1 hP1 hS1
/-- a place of an int row is read -/
theorem fr_iald (C : fCx D adr cs N p s m args meth c cc nL ret own ws) {n : Nat} {i : Int32} (hP : va_P D vwCl (fwl adr N (fG adr cs t)) H) (hk : k < N) (hG : fG adr cs t k = .inl (cs 0, n, .inl (fga t k))) (hin : vp_in i n) (hdg : decode cc pc = .ok (.iaload, 1))
    (kk : W p l e R s m args below meth c H locs 0 0 Q (F0 m (pc + 1) ls (.int (fga t k i.toNatClampNeg) :: rest))) : W p l e R s m args below meth c H locs 0 0 Q (F0 m pc ls (.int i :: .ref (adr k) :: rest)) := by
  obtain ⟨⟨hx, hb, hml, hown, hts⟩, hr', hlk, hK, hN, hI, hZ⟩ := C
  exact va_iald hx hb hK hP k 0 (by rw [fwl_get hk, hG]) rfl hin hdg kk
theorem fr_lald (C : fCx D adr cs N p s m args meth c cc nL ret own ws) {n : Nat} {i : Int32} (hP : va_P D vwCl (fwl adr N (fG adr cs t)) H) (hk : k < N) (hG : fG adr cs t k = .inl (cs 1, n, .inr (.inl (fgl t k)))) (hin : vp_in i n) (hdg : decode cc pc = .ok (.laload, 1))
    (kk : W p l e R s m args below meth c H locs 0 0 Q (F0 m (pc + 1) ls (.long (fgl t k i.toNatClampNeg) :: rest))) : W p l e R s m args below meth c H locs 0 0 Q (F0 m pc ls (.int i :: .ref (adr k) :: rest)) := by
  obtain ⟨⟨hx, hb, hml, hown, hts⟩, hr', hlk, hK, hN, hI, hZ⟩ := C
  exact va_lald hx hb hK hP k 1 (by rw [fwl_get hk, hG]) rfl hin hdg kk
theorem fr_iast (C : fCx D adr cs N p s m args meth c cc nL ret own ws) {n : Nat} {i x : Int32} (hP : va_P D vwCl (fwl adr N (fG adr cs t)) H) (hS : va_S (faN adr N) s.heap H locs) (hk : k < N) (hG : ∀ u : fcS, fG adr cs u k = .inl (cs 0, n, .inl (fga u k))) (hin : vp_in i n) (hdg : decode cc pc = .ok (.iastore, 1))
    (kk : ∀ (H1 : Heap) (locs1 : List Loc), va_P D vwCl (fwl adr N (fG adr cs (fsa t k i.toNatClampNeg x))) H1 → va_S (faN adr N) s.heap H1 locs1 → W p l e R s m args below meth c H1 locs1 0 0 Q (F0 m (pc + 1) ls rest)) : W p l e R s m args below meth c H locs 0 0 Q (F0 m pc ls (.int x :: .int i :: .ref (adr k) :: rest)) := by
  obtain ⟨⟨hx, hb, hml, hown, hts⟩, hr', hlk, hK, hN, hI, hZ⟩ := C
  refine va_iast hx hb hK hP (fwl_D _ hI) hS k 0 (by rw [fwl_get hk, hG]) rfl hin hdg (fun H1 locs1 hP1 hD1 hS1 => ?_)
  rw [fwl_set (fS_row hG _ x) (fG_fsa_ne adr cs t k _ x)] at hP1
  exact kk H1 locs1 hP1 hS1
theorem fr_last (C : fCx D adr cs N p s m args meth c cc nL ret own ws) {n : Nat} {i : Int32} {x : Int64} (hP : va_P D vwCl (fwl adr N (fG adr cs t)) H) (hS : va_S (faN adr N) s.heap H locs) (hk : k < N) (hG : ∀ u : fcS, fG adr cs u k = .inl (cs 1, n, .inr (.inl (fgl u k)))) (hin : vp_in i n) (hdg : decode cc pc = .ok (.lastore, 1))
    (kk : ∀ (H1 : Heap) (locs1 : List Loc), va_P D vwCl (fwl adr N (fG adr cs (fsl t k i.toNatClampNeg x))) H1 → va_S (faN adr N) s.heap H1 locs1 → W p l e R s m args below meth c H1 locs1 0 0 Q (F0 m (pc + 1) ls rest)) : W p l e R s m args below meth c H locs 0 0 Q (F0 m pc ls (.long x :: .int i :: .ref (adr k) :: rest)) := by
  obtain ⟨⟨hx, hb, hml, hown, hts⟩, hr', hlk, hK, hN, hI, hZ⟩ := C
  refine va_last hx hb hK hP (fwl_D _ hI) hS k 1 (by rw [fwl_get hk, hG]) rfl hin hdg (fun H1 locs1 hP1 hD1 hS1 => ?_)
  rw [fwl_set (fS_rowL hG _ x) (fG_fsl_ne adr cs t k _ x)] at hP1
  exact kk H1 locs1 hP1 hS1
theorem fr_alen (C : fCx D adr cs N p s m args meth c cc nL ret own ws) {n q : Nat} {y : vp_A} {ty : FieldType} {v : Int32} {cA : ClassId} (hP : va_P D vwCl (fwl adr N (fG adr cs t)) H) (hk : k < N) (hG : fG adr cs t k = .inl (cA, y)) (ht : (ftys cs)[q]? = some (cA, ty)) (hv : Int32.ofNat y.1 = v) (hdg : decode cc pc = .ok (.arraylength, 1))
    (kk : W p l e R s m args below meth c H locs 0 0 Q (F0 m (pc + 1) ls (.int v :: rest))) : W p l e R s m args below meth c H locs 0 0 Q (F0 m pc ls (.ref (adr k) :: rest)) := by
  obtain ⟨⟨hx, hb, hml, hown, hts⟩, hr', hlk, hK, hN, hI, hZ⟩ := C
  exact va_alen hx hb hK hP k q (by rw [fwl_get hk, hG]) ht hv hdg kk
theorem fr_aaldF (C : fCx D adr cs N p s m args meth c cc nL ret own ws) {i : Int32} (hP : va_P D vwCl (fwl adr N (fG adr cs t)) H) (hk : 2 < N) (hin : vp_in i 5) (hdg : decode cc pc = .ok (.aaload, 1))
    (kk : ∀ q : Nat, q = 6 + 3 * i.toNatClampNeg → fisF q → W p l e R s m args below meth c H locs 0 0 Q (F0 m (pc + 1) ls (.ref (adr q) :: rest))) : W p l e R s m args below meth c H locs 0 0 Q (F0 m pc ls (.int i :: .ref (adr 2) :: rest)) := by
  obtain ⟨⟨hx, hb, hml, hown, hts⟩, hr', hlk, hK, hN, hI, hZ⟩ := C
  have hlt : i.toNatClampNeg < 5 := Nat.not_le.mp fun q => hin (Or.inr q)
  have e1 : va_rf (frF adr i.toNatClampNeg) = .ref (adr (6 + 3 * i.toNatClampNeg)) := by simp [frF, hlt, va_rf]
  have e2 := va_aldq (C := "FieldCounts$Field") (rest := rest) (p := p) (l := l) (e := e) (R := R) (s := s) (m := m) (args := args) (below := below) (meth := meth) (c := c) (H := H) (locs := locs) (cells := 0) (slots := 0) (Q := Q) (pc := pc) (ls := ls) hx hb hK hP 2 3 (by rw [fwl_get hk, fG_2]) rfl hin hdg
  rw [e1] at e2
  exact e2 (kk _ rfl ⟨by omega, by omega, by omega⟩)
theorem fr_aaldC (C : fCx D adr cs N p s m args meth c cc nL ret own ws) {i : Int32} (hP : va_P D vwCl (fwl adr N (fG adr cs t)) H) (hk : 3 < N) (hin : vp_in i 8) (hdg : decode cc pc = .ok (.aaload, 1))
    (kk : ∀ q : Nat, q = 21 + 4 * i.toNatClampNeg → fisC q → W p l e R s m args below meth c H locs 0 0 Q (F0 m (pc + 1) ls (.ref (adr q) :: rest))) : W p l e R s m args below meth c H locs 0 0 Q (F0 m pc ls (.int i :: .ref (adr 3) :: rest)) := by
  obtain ⟨⟨hx, hb, hml, hown, hts⟩, hr', hlk, hK, hN, hI, hZ⟩ := C
  have hlt : i.toNatClampNeg < 8 := Nat.not_le.mp fun q => hin (Or.inr q)
  have e1 : va_rf (frC adr i.toNatClampNeg) = .ref (adr (21 + 4 * i.toNatClampNeg)) := by simp [frC, hlt, va_rf]
  have e2 := va_aldq (C := "FieldCounts$Curve") (rest := rest) (p := p) (l := l) (e := e) (R := R) (s := s) (m := m) (args := args) (below := below) (meth := meth) (c := c) (H := H) (locs := locs) (cells := 0) (slots := 0) (Q := Q) (pc := pc) (ls := ls) hx hb hK hP 3 2 (by rw [fwl_get hk, fG_3]) rfl hin hdg
  rw [e1] at e2
  exact e2 (kk _ rfl ⟨by omega, by omega, by omega⟩)
/-- ends -/
theorem fr_iret (C : fCx D adr cs N p s m args meth c cc nL (some .int) own ws) {post : Int32 → fcS → Prop} {v : Int32} (hP : va_P D vwCl (fwl adr N (fG adr cs t)) H) (hS : va_S (faN adr N) s.heap H locs) (h : post v t) (hdg : decode cc pc = .ok (.ireturn, 1)) : W p l e R s m args below meth c H locs 0 0 (MQ below (fQi D adr cs N post) args s 0 0 (faN adr N)) (F0 m pc ls [.int v]) := by
  obtain ⟨⟨hx, hb, hml, hown, hts⟩, hr', hlk, hK, hN, hI, hZ⟩ := C
  exact W.iret (v := v) hx hb hr' (fun t2 ht hW => ⟨⟨v, t, rfl, h, by rw [fcB, ht]; exact hP⟩, hS.F ht⟩) hS.2.2 hdg hlk
theorem fr_zret (C : fCx D adr cs N p s m args meth c cc nL (some .boolean) own ws) {post : Int32 → fcS → Prop} {v : Int32} (hP : va_P D vwCl (fwl adr N (fG adr cs t)) H) (hS : va_S (faN adr N) s.heap H locs) (hv : narrow .boolean (.int v) = .int v) (h : post v t) (hdg : decode cc pc = .ok (.ireturn, 1)) : W p l e R s m args below meth c H locs 0 0 (MQ below (fQi D adr cs N post) args s 0 0 (faN adr N)) (F0 m pc ls [.int v]) := by
  obtain ⟨⟨hx, hb, hml, hown, hts⟩, hr', hlk, hK, hN, hI, hZ⟩ := C
  exact W.zret (v := v) hx hb hr' hv (fun t2 ht hW => ⟨⟨v, t, rfl, h, by rw [fcB, ht]; exact hP⟩, hS.F ht⟩) hS.2.2 hdg hlk
theorem fr_lret (C : fCx D adr cs N p s m args meth c cc nL (some .long) own ws) {post : Int64 → fcS → Prop} {v : Int64} (hP : va_P D vwCl (fwl adr N (fG adr cs t)) H) (hS : va_S (faN adr N) s.heap H locs) (h : post v t) (hdg : decode cc pc = .ok (.lreturn, 1)) : W p l e R s m args below meth c H locs 0 0 (MQ below (fQl D adr cs N post) args s 0 0 (faN adr N)) (F0 m pc ls [.long v]) := by
  obtain ⟨⟨hx, hb, hml, hown, hts⟩, hr', hlk, hK, hN, hI, hZ⟩ := C
  exact W.lret (v := v) hx hb hr' (fun t2 ht hW => ⟨⟨v, t, rfl, h, by rw [fcB, ht]; exact hP⟩, hS.F ht⟩) hS.2.2 hdg hlk
theorem fr_vret (C : fCx D adr cs N p s m args meth c cc nL none own ws) {post : fcS → Prop} (hP : va_P D vwCl (fwl adr N (fG adr cs t)) H) (hS : va_S (faN adr N) s.heap H locs) (h : post t) (hdg : decode cc pc = .ok (.return_, 1)) : W p l e R s m args below meth c H locs 0 0 (MQ below (fQv D adr cs N post) args s 0 0 (faN adr N)) (F0 m pc ls []) := by
  obtain ⟨⟨hx, hb, hml, hown, hts⟩, hr', hlk, hK, hN, hI, hZ⟩ := C
  exact W.vret hx hb hr' (fun t2 ht hW => ⟨⟨t, rfl, h, by rw [fcB, ht]; exact hP⟩, hS.F ht⟩) hS.2.2 hdg hlk
theorem fr_aret {rt : FieldType} (C : fCx D adr cs N p s m args meth c cc nL (some rt) own ws) {post : Option Nat → fcS → Prop} (i : Option Nat) {v : Value} (hrt : (∃ n, rt = .object n) ∨ ∃ t, rt = .array t) (hv : v = va_rf (i.map adr)) (hP : va_P D vwCl (fwl adr N (fG adr cs t)) H) (hS : va_S (faN adr N) s.heap H locs) (h : post i t) (hdg : decode cc pc = .ok (.areturn, 1)) : W p l e R s m args below meth c H locs 0 0 (MQ below (fQq D adr cs N post) args s 0 0 (faN adr N)) (F0 m pc ls [v]) := by
  obtain ⟨⟨hx, hb, hml, hown, hts⟩, hr', hlk, hK, hN, hI, hZ⟩ := C
  exact W.aret (v := v) hx hb hr' hrt (by rw [hv]; exact va_rf_or _) (fun t2 ht hW => ⟨⟨i.map adr, t, by rw [hv], ⟨i, rfl, h⟩, by rw [fcB, ht]; exact hP⟩, hS.F ht⟩) hS.2.2 hdg hlk
end FR
end
section
section FC
variable {D : va_G} {adr : Nat → Nat} {cs : Nat → ClassId} {N : Nat} {p : Program} {l : Launch} {e : Env} {R : Room} {s : State} {m : MethodId} {args : Array Value} {below : List Frame} {meth : Method} {c : Code} {H : Heap} {locs : List Loc} {Q : State → Prop}
variable {cc : ByteArray} {nL : Nat} {ret : Option FieldType} {own : String} {ws : List Cond} {pc : Nat} {ls : Array Slot} {rest : List Value} {t : fcS} {k : Nat}
variable {y : MethodName} {bytes : ByteArray} {maxL n index : Nat} {ret2 : Option FieldType} {wsc ws' : List Cond} {rm : Room} {Qc : Array Value → State → Outcome → State → Prop} {As st0 : List Value}
theorem fcPre_at (C : fCx D adr cs N p s m args meth c cc nL ret own ws) (hP : va_P D vwCl (fwl adr N (fG adr cs t)) H) (hS : va_S (faN adr N) s.heap H locs) (av : List Value) : ∀ U : State, U.heap = H → s.WarmedH U.vm → fcPre D adr cs N t av av.toArray U := by
  obtain ⟨-, -, -, hK, hN, hI, hZ⟩ := C
  intro U hU hW
  exact ⟨rfl, by rw [hU]; exact hP, va_K.moved hW.alike hK, fnests_warm hW hN, hI, by rw [hU]; exact fst0_moved hW.alike (fst0_kept hS.2.1 hZ)⟩
/-- a call of a method of an object of the world -/
theorem fr_runV (C : fCx D adr cs N p s m args meth c cc nL ret own ws) (hM : Met l y wsc rm (fcPre D adr cs N t (.ref (adr k) :: As)) Qc 0 0 (faN adr N)) (hP : va_P D vwCl (fwl adr N (fG adr cs t)) H) (hS : va_S (faN adr N) s.heap H locs) {Cn : String} {ci NN : Nat} {T : u_T} {fs : List Value} (hk : k < N) (hG : fG adr cs t k = .inr (ci, fs)) (hc : vwCl[ci]? = some (Cn, T, NN))
    (hT : GoodIn ws (wsV own index Cn y wsc)) (hw : wsc = Cond.code y bytes maxL ret2 :: ws') (hrc : rm.cells = 0) (hrs : rm.slots = 0) (hd : y.cls = Cn ∧ y.cls ≠ "java/lang/invoke/MethodHandle" ∧ y.cls ≠ "java/lang/invoke/VarHandle" ∧ (parseMethodDescriptor y.desc).map (fun d => d.parameters.length) = some n) (hR : rm.frames + 1 ≤ R.frames ∧ 8 + (maxL + 11) + rm.locals ≤ R.locals)
    (hn : As.length = n) (hl : ls.size = nL) (hst : st0 = As.reverse ++ .ref (adr k) :: rest) (hroom : (rest.map fun v => v.category).sum ≤ 8) (hdg : decode cc pc = .ok (.invokevirtual index, 3)) :
    va_Run p l e R s m args below meth c H locs 0 0 0 0 (F0 m pc ls st0) rest (Qc (Value.ref (adr k) :: As).toArray) (faN adr N) := by
  have hK := C.2.2.2.1
  have hts := C.1.2.2.2.2
  exact va_runV (C := Cn) (b := adr k) (As := As) (rest := rest) C.1 hM (cwV n hts hT hw hrc hrs hd hR) ⟨fcPre_blind, va_recv (q := (Cn, T, NN)) (ci := ci) (q0 := k) (fs := fs) hK hP hc (by rw [fwl_get hk, hG]), fcPre_at C hP hS (.ref (adr k) :: As)⟩ rfl hn hl hst (lv_room hroom) hdg ⟨Nat.zero_le _, Nat.zero_le _⟩
theorem fr_runS (C : fCx D adr cs N p s m args meth c cc nL ret own ws) (hM : Met l y wsc rm (fcPre D adr cs N t As) Qc 0 0 (faN adr N)) (hP : va_P D vwCl (fwl adr N (fG adr cs t)) H) (hS : va_S (faN adr N) s.heap H locs)
    (hT : GoodIn ws (va_wsS own index y wsc)) (hw : wsc = Cond.code y bytes maxL ret2 :: ws') (hrc : rm.cells = 0) (hrs : rm.slots = 0) (hd : y.cls ≠ "java/lang/invoke/MethodHandle" ∧ y.cls ≠ "java/lang/invoke/VarHandle" ∧ (parseMethodDescriptor y.desc).map (fun d => d.parameters.length) = some n) (hR : rm.frames + 1 ≤ R.frames ∧ 8 + (maxL + 11) + rm.locals ≤ R.locals)
    (hn : As.length = n) (hl : ls.size = nL) (hst : st0 = As.reverse ++ rest) (hroom : (rest.map fun v => v.category).sum ≤ 8) (hdg : decode cc pc = .ok (.invokestatic index, 3)) :
    va_Run p l e R s m args below meth c H locs 0 0 0 0 (F0 m pc ls st0) rest (Qc As.toArray) (faN adr N) := by
  have hts := C.1.2.2.2.2
  exact va_runS (As := As) (rest := rest) C.1 hM (va_cwS n hts hT hw hrc hrs hd hR) ⟨fcPre_blind, fcPre_at C hP hS As⟩ rfl hn hl hst (lv_room hroom) hdg ⟨Nat.zero_le _, Nat.zero_le _⟩
theorem fr_runN (C : fCx D adr cs N p s m args meth c cc nL ret own ws) (hM : Met l y wsc rm (fcPre D adr cs N t As) Qc 0 0 (faN adr N)) (hP : va_P D vwCl (fwl adr N (fG adr cs t)) H) (hS : va_S (faN adr N) s.heap H locs)
    (hlink : (own, index, y) ∈ fnM) (hT : GoodIn ws wsc) (hw : wsc = Cond.code y bytes maxL ret2 :: ws') (hrc : rm.cells = 0) (hrs : rm.slots = 0) (hini : Cond.initialized y.cls ∈ ws) (hstat : Cond.static y ∈ ws) (hd : y.cls ≠ "java/lang/invoke/MethodHandle" ∧ y.cls ≠ "java/lang/invoke/VarHandle" ∧ (parseMethodDescriptor y.desc).map (fun d => d.parameters.length) = some n) (hR : rm.frames + 1 ≤ R.frames ∧ 8 + (maxL + 11) + rm.locals ≤ R.locals)
    (hn : As.length = n) (hl : ls.size = nL) (hst : st0 = As.reverse ++ rest) (hroom : (rest.map fun v => v.category).sum ≤ 8) (hdg : decode cc pc = .ok (.invokestatic index, 3)) :
    va_Run p l e R s m args below meth c H locs 0 0 0 0 (F0 m pc ls st0) rest (Qc As.toArray) (faN adr N) := by
  have hts := C.1.2.2.2.2
  have hN := C.2.2.2.2.1
  exact va_runSN (As := As) (rest := rest) (host := RX4) C.1 hM ⟨va_cnB n hts hT hw hrc hrs (hN.2 _ hlink) (hts _ hini) hd hR, hts _ hstat, trivial⟩ ⟨fcPre_blind, fcPre_at C hP hS As⟩ rfl hn hl hst (lv_room hroom) hdg ⟨Nat.zero_le _, Nat.zero_le _⟩
theorem fr_ci {a : Array Value} {post : Int32 → fcS → Prop} (hr : va_Run p l e R s m args below meth c H locs 0 0 0 0 (F0 m pc ls st0) rest (fQi D adr cs N post a) (faN adr N)) (hS : va_S (faN adr N) s.heap H locs)
    (kk : ∀ (r : Int32) (t : fcS) (H1 : Heap) (locs1 : List Loc), post r t → va_P D vwCl (fwl adr N (fG adr cs t)) H1 → va_S (faN adr N) s.heap H1 locs1 → W p l e R s m args below meth c H1 locs1 0 0 Q (F0 m (pc + 3) ls (.int r :: rest))) : W p l e R s m args below meth c H locs 0 0 Q (F0 m pc ls st0) :=
  va_calli hr hS (fun _ _ h => h) (fun _ h => h) (fun r u t H1 locs1 ht _ hp hB _ _ hS1 => kk r u H1 locs1 hp (by rw [← ht]; exact hB) hS1)
theorem fr_cl {a : Array Value} {post : Int64 → fcS → Prop} (hr : va_Run p l e R s m args below meth c H locs 0 0 0 0 (F0 m pc ls st0) rest (fQl D adr cs N post a) (faN adr N)) (hS : va_S (faN adr N) s.heap H locs)
    (kk : ∀ (r : Int64) (t : fcS) (H1 : Heap) (locs1 : List Loc), post r t → va_P D vwCl (fwl adr N (fG adr cs t)) H1 → va_S (faN adr N) s.heap H1 locs1 → W p l e R s m args below meth c H1 locs1 0 0 Q (F0 m (pc + 3) ls (.long r :: rest))) : W p l e R s m args below meth c H locs 0 0 Q (F0 m pc ls st0) :=
  va_calll hr hS (fun _ _ h => h) (fun _ h => h) (fun r u t H1 locs1 ht _ hp hB _ _ hS1 => kk r u H1 locs1 hp (by rw [← ht]; exact hB) hS1)
theorem fr_cv {a : Array Value} {post : fcS → Prop} (hr : va_Run p l e R s m args below meth c H locs 0 0 0 0 (F0 m pc ls st0) rest (fQv D adr cs N post a) (faN adr N)) (hS : va_S (faN adr N) s.heap H locs)
    (kk : ∀ (t : fcS) (H1 : Heap) (locs1 : List Loc), post t → va_P D vwCl (fwl adr N (fG adr cs t)) H1 → va_S (faN adr N) s.heap H1 locs1 → W p l e R s m args below meth c H1 locs1 0 0 Q (F0 m (pc + 3) ls rest)) : W p l e R s m args below meth c H locs 0 0 Q (F0 m pc ls st0) :=
  va_callv hr hS (fun _ _ h => h) (fun _ h => h) (fun u t H1 locs1 ht _ hp hB _ _ hS1 => kk u H1 locs1 hp (by rw [← ht]; exact hB) hS1)
theorem fr_cq {a : Array Value} {post : Option Nat → fcS → Prop} (hr : va_Run p l e R s m args below meth c H locs 0 0 0 0 (F0 m pc ls st0) rest (fQq D adr cs N post a) (faN adr N)) (hS : va_S (faN adr N) s.heap H locs)
    (kn : ∀ (t : fcS) (H1 : Heap) (locs1 : List Loc), post none t → va_P D vwCl (fwl adr N (fG adr cs t)) H1 → va_S (faN adr N) s.heap H1 locs1 → W p l e R s m args below meth c H1 locs1 0 0 Q (F0 m (pc + 3) ls (.null :: rest)))
    (kk : ∀ (i : Nat) (t : fcS) (H1 : Heap) (locs1 : List Loc), post (some i) t → va_P D vwCl (fwl adr N (fG adr cs t)) H1 → va_S (faN adr N) s.heap H1 locs1 → W p l e R s m args below meth c H1 locs1 0 0 Q (F0 m (pc + 3) ls (.ref (adr i) :: rest))) : W p l e R s m args below meth c H locs 0 0 Q (F0 m pc ls st0) :=
  va_callq hr hS (fun _ _ h => h) (fun _ h => h) (fun r u t H1 locs1 ht _ hp hB _ _ hS1 => by
    obtain ⟨i, hi, hp⟩ := hp
    subst hi
    cases i with
    | none => exact kn u H1 locs1 hp (by rw [← ht]; exact hB) hS1
    | some i => exact kk i u H1 locs1 hp (by rw [← ht]; exact hB) hS1)
end FC
end
